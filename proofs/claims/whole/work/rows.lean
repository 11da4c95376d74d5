section
-- ===== PART A: goes FIRST, ahead of the names: the tables' words, and 'selects' of the private methods out of them =====
/-- a private method of a class that the tables say can be made, by its rows of tables_1 -/
def lw_okq (q : MethodName × Nat) : Prop := (q.1.cls ≠ "java/lang/invoke/MethodHandle" ∧ q.1.cls ≠ "java/lang/invoke/VarHandle") ∧ Cond.instantiable q.1.cls q.2 ∈ tables_1 ∧ Cond.privateMethod q.1 ∈ tables_1 ∧ Cond.instanceMethod q.1 ∈ tables_1
theorem lw_p0 : lw_okq (⟨"LockLadder$Rule", "takeBehind", "(I)Z"⟩, 9) := ⟨⟨by decide +kernel, by decide +kernel⟩, List.mem_of_getElem? (i := 202) (by decide +kernel), List.mem_of_getElem? (i := 294) (by decide +kernel), List.mem_of_getElem? (i := 295) (by decide +kernel)⟩
theorem lw_p1 : lw_okq (⟨"LockLadder$Rule", "takeDigit", "(I)Z"⟩, 9) := ⟨⟨by decide +kernel, by decide +kernel⟩, List.mem_of_getElem? (i := 202) (by decide +kernel), List.mem_of_getElem? (i := 301) (by decide +kernel), List.mem_of_getElem? (i := 302) (by decide +kernel)⟩
theorem lw_p2 : lw_okq (⟨"LockLadder$Rule", "close", "()Z"⟩, 9) := ⟨⟨by decide +kernel, by decide +kernel⟩, List.mem_of_getElem? (i := 202) (by decide +kernel), List.mem_of_getElem? (i := 305) (by decide +kernel), List.mem_of_getElem? (i := 306) (by decide +kernel)⟩
theorem lw_p3 : lw_okq (⟨"LockLadder$Rule", "settle", "(I)V"⟩, 9) := ⟨⟨by decide +kernel, by decide +kernel⟩, List.mem_of_getElem? (i := 202) (by decide +kernel), List.mem_of_getElem? (i := 309) (by decide +kernel), List.mem_of_getElem? (i := 310) (by decide +kernel)⟩
theorem lw_p4 : lw_okq (⟨"LockLadder$Rule", "put", "(I)V"⟩, 9) := ⟨⟨by decide +kernel, by decide +kernel⟩, List.mem_of_getElem? (i := 202) (by decide +kernel), List.mem_of_getElem? (i := 316) (by decide +kernel), List.mem_of_getElem? (i := 317) (by decide +kernel)⟩
theorem lw_p5 : lw_okq (⟨"LockLadder$Rule", "postpone", "(I)V"⟩, 9) := ⟨⟨by decide +kernel, by decide +kernel⟩, List.mem_of_getElem? (i := 202) (by decide +kernel), List.mem_of_getElem? (i := 320) (by decide +kernel), List.mem_of_getElem? (i := 321) (by decide +kernel)⟩
theorem lw_p6 : lw_okq (⟨"LockLadder$Rule", "takeThing", "(I)Z"⟩, 9) := ⟨⟨by decide +kernel, by decide +kernel⟩, List.mem_of_getElem? (i := 202) (by decide +kernel), List.mem_of_getElem? (i := 324) (by decide +kernel), List.mem_of_getElem? (i := 325) (by decide +kernel)⟩
theorem lw_p7 : lw_okq (⟨"LockLadder", "noted", "(I)I"⟩, 10) := ⟨⟨by decide +kernel, by decide +kernel⟩, List.mem_of_getElem? (i := 22) (by decide +kernel), List.mem_of_getElem? (i := 446) (by decide +kernel), List.mem_of_getElem? (i := 447) (by decide +kernel)⟩
theorem lw_p8 : lw_okq (⟨"LockLadder$Desk", "idle", "(I)I"⟩, 5) := ⟨⟨by decide +kernel, by decide +kernel⟩, List.mem_of_getElem? (i := 30) (by decide +kernel), List.mem_of_getElem? (i := 462) (by decide +kernel), List.mem_of_getElem? (i := 463) (by decide +kernel)⟩
theorem lw_p9 : lw_okq (⟨"LockLadder$Desk", "goOn", "(III)I"⟩, 5) := ⟨⟨by decide +kernel, by decide +kernel⟩, List.mem_of_getElem? (i := 30) (by decide +kernel), List.mem_of_getElem? (i := 500) (by decide +kernel), List.mem_of_getElem? (i := 501) (by decide +kernel)⟩
theorem lw_p10 : lw_okq (⟨"LockLadder$Desk", "gatherAt", "(III)Z"⟩, 5) := ⟨⟨by decide +kernel, by decide +kernel⟩, List.mem_of_getElem? (i := 30) (by decide +kernel), List.mem_of_getElem? (i := 528) (by decide +kernel), List.mem_of_getElem? (i := 529) (by decide +kernel)⟩
theorem lw_p11 : lw_okq (⟨"LockLadder$Desk", "release", "(II)V"⟩, 5) := ⟨⟨by decide +kernel, by decide +kernel⟩, List.mem_of_getElem? (i := 30) (by decide +kernel), List.mem_of_getElem? (i := 537) (by decide +kernel), List.mem_of_getElem? (i := 538) (by decide +kernel)⟩
theorem lw_p12 : lw_okq (⟨"LockLadder$Desk", "takeDue", "(II)Z"⟩, 5) := ⟨⟨by decide +kernel, by decide +kernel⟩, List.mem_of_getElem? (i := 30) (by decide +kernel), List.mem_of_getElem? (i := 541) (by decide +kernel), List.mem_of_getElem? (i := 542) (by decide +kernel)⟩
theorem lw_p13 : lw_okq (⟨"LockLadder$Desk", "serve", "(II)V"⟩, 5) := ⟨⟨by decide +kernel, by decide +kernel⟩, List.mem_of_getElem? (i := 30) (by decide +kernel), List.mem_of_getElem? (i := 545) (by decide +kernel), List.mem_of_getElem? (i := 546) (by decide +kernel)⟩
theorem lw_p14 : lw_okq (⟨"LockLadder$Links", "measure", "(I)V"⟩, 4) := ⟨⟨by decide +kernel, by decide +kernel⟩, List.mem_of_getElem? (i := 107) (by decide +kernel), List.mem_of_getElem? (i := 788) (by decide +kernel), List.mem_of_getElem? (i := 789) (by decide +kernel)⟩
theorem lw_p15 : lw_okq (⟨"LockLadder$Links", "nearer", "(II)I"⟩, 4) := ⟨⟨by decide +kernel, by decide +kernel⟩, List.mem_of_getElem? (i := 107) (by decide +kernel), List.mem_of_getElem? (i := 792) (by decide +kernel), List.mem_of_getElem? (i := 793) (by decide +kernel)⟩
def lw_privs_1 : List (MethodName × Nat) := [(⟨"LockLadder$Rule", "takeBehind", "(I)Z"⟩, 9), (⟨"LockLadder$Rule", "takeDigit", "(I)Z"⟩, 9), (⟨"LockLadder$Rule", "close", "()Z"⟩, 9), (⟨"LockLadder$Rule", "settle", "(I)V"⟩, 9), (⟨"LockLadder$Rule", "put", "(I)V"⟩, 9), (⟨"LockLadder$Rule", "postpone", "(I)V"⟩, 9), (⟨"LockLadder$Rule", "takeThing", "(I)Z"⟩, 9), (⟨"LockLadder", "noted", "(I)I"⟩, 10), (⟨"LockLadder$Desk", "idle", "(I)I"⟩, 5), (⟨"LockLadder$Desk", "goOn", "(III)I"⟩, 5), (⟨"LockLadder$Desk", "gatherAt", "(III)Z"⟩, 5), (⟨"LockLadder$Desk", "release", "(II)V"⟩, 5), (⟨"LockLadder$Desk", "takeDue", "(II)Z"⟩, 5), (⟨"LockLadder$Desk", "serve", "(II)V"⟩, 5), (⟨"LockLadder$Links", "measure", "(I)V"⟩, 4), (⟨"LockLadder$Links", "nearer", "(II)I"⟩, 4)]
theorem lw_r1 : ∀ q ∈ lw_privs_1, lw_okq q := List.forall_mem_cons.mpr ⟨lw_p0, List.forall_mem_cons.mpr ⟨lw_p1, List.forall_mem_cons.mpr ⟨lw_p2, List.forall_mem_cons.mpr ⟨lw_p3, List.forall_mem_cons.mpr ⟨lw_p4, List.forall_mem_cons.mpr ⟨lw_p5, List.forall_mem_cons.mpr ⟨lw_p6, List.forall_mem_cons.mpr ⟨lw_p7, List.forall_mem_cons.mpr ⟨lw_p8, List.forall_mem_cons.mpr ⟨lw_p9, List.forall_mem_cons.mpr ⟨lw_p10, List.forall_mem_cons.mpr ⟨lw_p11, List.forall_mem_cons.mpr ⟨lw_p12, List.forall_mem_cons.mpr ⟨lw_p13, List.forall_mem_cons.mpr ⟨lw_p14, List.forall_mem_cons.mpr ⟨lw_p15, fun _ h => absurd h List.not_mem_nil⟩⟩⟩⟩⟩⟩⟩⟩⟩⟩⟩⟩⟩⟩⟩⟩
theorem lw_p16 : lw_okq (⟨"LockLadder", "runsWithout", "(II)Z"⟩, 10) := ⟨⟨by decide +kernel, by decide +kernel⟩, List.mem_of_getElem? (i := 22) (by decide +kernel), List.mem_of_getElem? (i := 809) (by decide +kernel), List.mem_of_getElem? (i := 810) (by decide +kernel)⟩
theorem lw_p17 : lw_okq (⟨"java/lang/Throwable", "fillInStackTrace", "(I)Ljava/lang/Throwable;"⟩, 6) := ⟨⟨by decide +kernel, by decide +kernel⟩, List.mem_of_getElem? (i := 935) (by decide +kernel), List.mem_of_getElem? (i := 933) (by decide +kernel), List.mem_of_getElem? (i := 934) (by decide +kernel)⟩
theorem lw_p18 : lw_okq (⟨"LockLadderModel", "enters", "(J)V"⟩, 31) := ⟨⟨by decide +kernel, by decide +kernel⟩, List.mem_of_getElem? (i := 997) (by decide +kernel), List.mem_of_getElem? (i := 995) (by decide +kernel), List.mem_of_getElem? (i := 996) (by decide +kernel)⟩
theorem lw_p19 : lw_okq (⟨"LockLadderModel", "reads", "(I)I"⟩, 31) := ⟨⟨by decide +kernel, by decide +kernel⟩, List.mem_of_getElem? (i := 997) (by decide +kernel), List.mem_of_getElem? (i := 1020) (by decide +kernel), List.mem_of_getElem? (i := 1021) (by decide +kernel)⟩
theorem lw_p20 : lw_okq (⟨"LockLadderModel", "takes", "(I)Z"⟩, 31) := ⟨⟨by decide +kernel, by decide +kernel⟩, List.mem_of_getElem? (i := 997) (by decide +kernel), List.mem_of_getElem? (i := 1025) (by decide +kernel), List.mem_of_getElem? (i := 1026) (by decide +kernel)⟩
theorem lw_p21 : lw_okq (⟨"LockLadderModel", "readsRule", "()I"⟩, 31) := ⟨⟨by decide +kernel, by decide +kernel⟩, List.mem_of_getElem? (i := 997) (by decide +kernel), List.mem_of_getElem? (i := 1033) (by decide +kernel), List.mem_of_getElem? (i := 1034) (by decide +kernel)⟩
theorem lw_p22 : lw_okq (⟨"LockLadderModel", "readsRank", "(I)Z"⟩, 31) := ⟨⟨by decide +kernel, by decide +kernel⟩, List.mem_of_getElem? (i := 997) (by decide +kernel), List.mem_of_getElem? (i := 1037) (by decide +kernel), List.mem_of_getElem? (i := 1038) (by decide +kernel)⟩
theorem lw_p23 : lw_okq (⟨"LockLadderModel", "readsThing", "()Z"⟩, 31) := ⟨⟨by decide +kernel, by decide +kernel⟩, List.mem_of_getElem? (i := 997) (by decide +kernel), List.mem_of_getElem? (i := 1041) (by decide +kernel), List.mem_of_getElem? (i := 1042) (by decide +kernel)⟩
theorem lw_p24 : lw_okq (⟨"LockLadderModel", "codes", "(I)V"⟩, 31) := ⟨⟨by decide +kernel, by decide +kernel⟩, List.mem_of_getElem? (i := 997) (by decide +kernel), List.mem_of_getElem? (i := 1045) (by decide +kernel), List.mem_of_getElem? (i := 1046) (by decide +kernel)⟩
theorem lw_p25 : lw_okq (⟨"LockLadderModel", "isDigit", "()Z"⟩, 31) := ⟨⟨by decide +kernel, by decide +kernel⟩, List.mem_of_getElem? (i := 997) (by decide +kernel), List.mem_of_getElem? (i := 1049) (by decide +kernel), List.mem_of_getElem? (i := 1050) (by decide +kernel)⟩
theorem lw_p26 : lw_okq (⟨"LockLadderModel", "number", "(I)I"⟩, 31) := ⟨⟨by decide +kernel, by decide +kernel⟩, List.mem_of_getElem? (i := 997) (by decide +kernel), List.mem_of_getElem? (i := 1055) (by decide +kernel), List.mem_of_getElem? (i := 1056) (by decide +kernel)⟩
theorem lw_p27 : lw_okq (⟨"LockLadderModel", "takesOf", "(Ljava/lang/String;)I"⟩, 31) := ⟨⟨by decide +kernel, by decide +kernel⟩, List.mem_of_getElem? (i := 997) (by decide +kernel), List.mem_of_getElem? (i := 1060) (by decide +kernel), List.mem_of_getElem? (i := 1061) (by decide +kernel)⟩
theorem lw_p28 : lw_okq (⟨"LockLadderModel", "faultOf", "(IIZ)I"⟩, 31) := ⟨⟨by decide +kernel, by decide +kernel⟩, List.mem_of_getElem? (i := 997) (by decide +kernel), List.mem_of_getElem? (i := 1069) (by decide +kernel), List.mem_of_getElem? (i := 1070) (by decide +kernel)⟩
theorem lw_p29 : lw_okq (⟨"LockLadderModel", "laysCode", "([II)V"⟩, 31) := ⟨⟨by decide +kernel, by decide +kernel⟩, List.mem_of_getElem? (i := 997) (by decide +kernel), List.mem_of_getElem? (i := 1073) (by decide +kernel), List.mem_of_getElem? (i := 1074) (by decide +kernel)⟩
theorem lw_p30 : lw_okq (⟨"LockLadderModel", "refuse", "()I"⟩, 31) := ⟨⟨by decide +kernel, by decide +kernel⟩, List.mem_of_getElem? (i := 997) (by decide +kernel), List.mem_of_getElem? (i := 1189) (by decide +kernel), List.mem_of_getElem? (i := 1190) (by decide +kernel)⟩
theorem lw_p31 : lw_okq (⟨"LockLadderModel", "cost", "([II)I"⟩, 31) := ⟨⟨by decide +kernel, by decide +kernel⟩, List.mem_of_getElem? (i := 997) (by decide +kernel), List.mem_of_getElem? (i := 1199) (by decide +kernel), List.mem_of_getElem? (i := 1200) (by decide +kernel)⟩
def lw_privs_2 : List (MethodName × Nat) := [(⟨"LockLadder", "runsWithout", "(II)Z"⟩, 10), (⟨"java/lang/Throwable", "fillInStackTrace", "(I)Ljava/lang/Throwable;"⟩, 6), (⟨"LockLadderModel", "enters", "(J)V"⟩, 31), (⟨"LockLadderModel", "reads", "(I)I"⟩, 31), (⟨"LockLadderModel", "takes", "(I)Z"⟩, 31), (⟨"LockLadderModel", "readsRule", "()I"⟩, 31), (⟨"LockLadderModel", "readsRank", "(I)Z"⟩, 31), (⟨"LockLadderModel", "readsThing", "()Z"⟩, 31), (⟨"LockLadderModel", "codes", "(I)V"⟩, 31), (⟨"LockLadderModel", "isDigit", "()Z"⟩, 31), (⟨"LockLadderModel", "number", "(I)I"⟩, 31), (⟨"LockLadderModel", "takesOf", "(Ljava/lang/String;)I"⟩, 31), (⟨"LockLadderModel", "faultOf", "(IIZ)I"⟩, 31), (⟨"LockLadderModel", "laysCode", "([II)V"⟩, 31), (⟨"LockLadderModel", "refuse", "()I"⟩, 31), (⟨"LockLadderModel", "cost", "([II)I"⟩, 31)]
theorem lw_r2 : ∀ q ∈ lw_privs_2, lw_okq q := List.forall_mem_cons.mpr ⟨lw_p16, List.forall_mem_cons.mpr ⟨lw_p17, List.forall_mem_cons.mpr ⟨lw_p18, List.forall_mem_cons.mpr ⟨lw_p19, List.forall_mem_cons.mpr ⟨lw_p20, List.forall_mem_cons.mpr ⟨lw_p21, List.forall_mem_cons.mpr ⟨lw_p22, List.forall_mem_cons.mpr ⟨lw_p23, List.forall_mem_cons.mpr ⟨lw_p24, List.forall_mem_cons.mpr ⟨lw_p25, List.forall_mem_cons.mpr ⟨lw_p26, List.forall_mem_cons.mpr ⟨lw_p27, List.forall_mem_cons.mpr ⟨lw_p28, List.forall_mem_cons.mpr ⟨lw_p29, List.forall_mem_cons.mpr ⟨lw_p30, List.forall_mem_cons.mpr ⟨lw_p31, fun _ h => absurd h List.not_mem_nil⟩⟩⟩⟩⟩⟩⟩⟩⟩⟩⟩⟩⟩⟩⟩⟩
theorem lw_p32 : lw_okq (⟨"LockLadderModel", "ruled", "()I"⟩, 31) := ⟨⟨by decide +kernel, by decide +kernel⟩, List.mem_of_getElem? (i := 997) (by decide +kernel), List.mem_of_getElem? (i := 1221) (by decide +kernel), List.mem_of_getElem? (i := 1222) (by decide +kernel)⟩
theorem lw_p33 : lw_okq (⟨"LockLadderModel", "putsBy", "()V"⟩, 31) := ⟨⟨by decide +kernel, by decide +kernel⟩, List.mem_of_getElem? (i := 997) (by decide +kernel), List.mem_of_getElem? (i := 1240) (by decide +kernel), List.mem_of_getElem? (i := 1241) (by decide +kernel)⟩
theorem lw_p34 : lw_okq (⟨"LockLadderModel", "beginsOne", "([II)I"⟩, 31) := ⟨⟨by decide +kernel, by decide +kernel⟩, List.mem_of_getElem? (i := 997) (by decide +kernel), List.mem_of_getElem? (i := 1244) (by decide +kernel), List.mem_of_getElem? (i := 1245) (by decide +kernel)⟩
theorem lw_p35 : lw_okq (⟨"LockLadderModel", "counted", "(I)I"⟩, 31) := ⟨⟨by decide +kernel, by decide +kernel⟩, List.mem_of_getElem? (i := 997) (by decide +kernel), List.mem_of_getElem? (i := 1248) (by decide +kernel), List.mem_of_getElem? (i := 1249) (by decide +kernel)⟩
theorem lw_p36 : lw_okq (⟨"LockLadderModel", "adds", "(I)I"⟩, 31) := ⟨⟨by decide +kernel, by decide +kernel⟩, List.mem_of_getElem? (i := 997) (by decide +kernel), List.mem_of_getElem? (i := 1252) (by decide +kernel), List.mem_of_getElem? (i := 1253) (by decide +kernel)⟩
theorem lw_p37 : lw_okq (⟨"LockLadderModel", "locksOne", "([IIII)I"⟩, 31) := ⟨⟨by decide +kernel, by decide +kernel⟩, List.mem_of_getElem? (i := 997) (by decide +kernel), List.mem_of_getElem? (i := 1268) (by decide +kernel), List.mem_of_getElem? (i := 1269) (by decide +kernel)⟩
theorem lw_p38 : lw_okq (⟨"LockLadderModel", "goesOn", "([III)V"⟩, 31) := ⟨⟨by decide +kernel, by decide +kernel⟩, List.mem_of_getElem? (i := 997) (by decide +kernel), List.mem_of_getElem? (i := 1284) (by decide +kernel), List.mem_of_getElem? (i := 1285) (by decide +kernel)⟩
theorem lw_p39 : lw_okq (⟨"LockLadderModel", "gathersOne", "([III)I"⟩, 31) := ⟨⟨by decide +kernel, by decide +kernel⟩, List.mem_of_getElem? (i := 997) (by decide +kernel), List.mem_of_getElem? (i := 1318) (by decide +kernel), List.mem_of_getElem? (i := 1319) (by decide +kernel)⟩
theorem lw_p40 : lw_okq (⟨"LockLadderModel", "servesAll", "([IJJ)V"⟩, 31) := ⟨⟨by decide +kernel, by decide +kernel⟩, List.mem_of_getElem? (i := 997) (by decide +kernel), List.mem_of_getElem? (i := 1334) (by decide +kernel), List.mem_of_getElem? (i := 1335) (by decide +kernel)⟩
theorem lw_p41 : lw_okq (⟨"LockLadderModel", "serves", "([II)V"⟩, 31) := ⟨⟨by decide +kernel, by decide +kernel⟩, List.mem_of_getElem? (i := 997) (by decide +kernel), List.mem_of_getElem? (i := 1338) (by decide +kernel), List.mem_of_getElem? (i := 1339) (by decide +kernel)⟩
theorem lw_p42 : lw_okq (⟨"LockLadderModel", "unlocksOne", "([III)I"⟩, 31) := ⟨⟨by decide +kernel, by decide +kernel⟩, List.mem_of_getElem? (i := 997) (by decide +kernel), List.mem_of_getElem? (i := 1353) (by decide +kernel), List.mem_of_getElem? (i := 1354) (by decide +kernel)⟩
theorem lw_p43 : lw_okq (⟨"LockLadderModel", "endsOne", "([II)I"⟩, 31) := ⟨⟨by decide +kernel, by decide +kernel⟩, List.mem_of_getElem? (i := 997) (by decide +kernel), List.mem_of_getElem? (i := 1365) (by decide +kernel), List.mem_of_getElem? (i := 1366) (by decide +kernel)⟩
theorem lw_p44 : lw_okq (⟨"LockLadderModel", "goes", "([II)I"⟩, 31) := ⟨⟨by decide +kernel, by decide +kernel⟩, List.mem_of_getElem? (i := 997) (by decide +kernel), List.mem_of_getElem? (i := 1369) (by decide +kernel), List.mem_of_getElem? (i := 1370) (by decide +kernel)⟩
theorem lw_p45 : lw_okq (⟨"LockLadderModel", "gathersAt", "([III)I"⟩, 31) := ⟨⟨by decide +kernel, by decide +kernel⟩, List.mem_of_getElem? (i := 997) (by decide +kernel), List.mem_of_getElem? (i := 1377) (by decide +kernel), List.mem_of_getElem? (i := 1378) (by decide +kernel)⟩
theorem lw_p46 : lw_okq (⟨"LockLadderModel", "fellsAll", "([I)I"⟩, 31) := ⟨⟨by decide +kernel, by decide +kernel⟩, List.mem_of_getElem? (i := 997) (by decide +kernel), List.mem_of_getElem? (i := 1394) (by decide +kernel), List.mem_of_getElem? (i := 1395) (by decide +kernel)⟩
theorem lw_p47 : lw_okq (⟨"LockLadderModel", "cheapest", "([I)I"⟩, 31) := ⟨⟨by decide +kernel, by decide +kernel⟩, List.mem_of_getElem? (i := 997) (by decide +kernel), List.mem_of_getElem? (i := 1398) (by decide +kernel), List.mem_of_getElem? (i := 1399) (by decide +kernel)⟩
def lw_privs_3 : List (MethodName × Nat) := [(⟨"LockLadderModel", "ruled", "()I"⟩, 31), (⟨"LockLadderModel", "putsBy", "()V"⟩, 31), (⟨"LockLadderModel", "beginsOne", "([II)I"⟩, 31), (⟨"LockLadderModel", "counted", "(I)I"⟩, 31), (⟨"LockLadderModel", "adds", "(I)I"⟩, 31), (⟨"LockLadderModel", "locksOne", "([IIII)I"⟩, 31), (⟨"LockLadderModel", "goesOn", "([III)V"⟩, 31), (⟨"LockLadderModel", "gathersOne", "([III)I"⟩, 31), (⟨"LockLadderModel", "servesAll", "([IJJ)V"⟩, 31), (⟨"LockLadderModel", "serves", "([II)V"⟩, 31), (⟨"LockLadderModel", "unlocksOne", "([III)I"⟩, 31), (⟨"LockLadderModel", "endsOne", "([II)I"⟩, 31), (⟨"LockLadderModel", "goes", "([II)I"⟩, 31), (⟨"LockLadderModel", "gathersAt", "([III)I"⟩, 31), (⟨"LockLadderModel", "fellsAll", "([I)I"⟩, 31), (⟨"LockLadderModel", "cheapest", "([I)I"⟩, 31)]
theorem lw_r3 : ∀ q ∈ lw_privs_3, lw_okq q := List.forall_mem_cons.mpr ⟨lw_p32, List.forall_mem_cons.mpr ⟨lw_p33, List.forall_mem_cons.mpr ⟨lw_p34, List.forall_mem_cons.mpr ⟨lw_p35, List.forall_mem_cons.mpr ⟨lw_p36, List.forall_mem_cons.mpr ⟨lw_p37, List.forall_mem_cons.mpr ⟨lw_p38, List.forall_mem_cons.mpr ⟨lw_p39, List.forall_mem_cons.mpr ⟨lw_p40, List.forall_mem_cons.mpr ⟨lw_p41, List.forall_mem_cons.mpr ⟨lw_p42, List.forall_mem_cons.mpr ⟨lw_p43, List.forall_mem_cons.mpr ⟨lw_p44, List.forall_mem_cons.mpr ⟨lw_p45, List.forall_mem_cons.mpr ⟨lw_p46, List.forall_mem_cons.mpr ⟨lw_p47, fun _ h => absurd h List.not_mem_nil⟩⟩⟩⟩⟩⟩⟩⟩⟩⟩⟩⟩⟩⟩⟩⟩
theorem lw_p48 : lw_okq (⟨"LockLadderModel", "readsAct", "()Z"⟩, 31) := ⟨⟨by decide +kernel, by decide +kernel⟩, List.mem_of_getElem? (i := 997) (by decide +kernel), List.mem_of_getElem? (i := 1418) (by decide +kernel), List.mem_of_getElem? (i := 1419) (by decide +kernel)⟩
theorem lw_p49 : lw_okq (⟨"LockLadderModel", "two", "()I"⟩, 31) := ⟨⟨by decide +kernel, by decide +kernel⟩, List.mem_of_getElem? (i := 997) (by decide +kernel), List.mem_of_getElem? (i := 1423) (by decide +kernel), List.mem_of_getElem? (i := 1424) (by decide +kernel)⟩
theorem lw_p50 : lw_okq (⟨"LockLadderModel", "does", "(I)I"⟩, 31) := ⟨⟨by decide +kernel, by decide +kernel⟩, List.mem_of_getElem? (i := 997) (by decide +kernel), List.mem_of_getElem? (i := 1427) (by decide +kernel), List.mem_of_getElem? (i := 1428) (by decide +kernel)⟩
theorem lw_p51 : lw_okq (⟨"LockLadderModel", "firstAbove", "(III)I"⟩, 31) := ⟨⟨by decide +kernel, by decide +kernel⟩, List.mem_of_getElem? (i := 997) (by decide +kernel), List.mem_of_getElem? (i := 1447) (by decide +kernel), List.mem_of_getElem? (i := 1448) (by decide +kernel)⟩
theorem lw_p52 : lw_okq (⟨"LockLadderModel", "wouldWait", "(III)I"⟩, 31) := ⟨⟨by decide +kernel, by decide +kernel⟩, List.mem_of_getElem? (i := 997) (by decide +kernel), List.mem_of_getElem? (i := 1455) (by decide +kernel), List.mem_of_getElem? (i := 1456) (by decide +kernel)⟩
theorem lw_p53 : lw_okq (⟨"LockLadderModel", "laysSteps", "(I)V"⟩, 31) := ⟨⟨by decide +kernel, by decide +kernel⟩, List.mem_of_getElem? (i := 997) (by decide +kernel), List.mem_of_getElem? (i := 1480) (by decide +kernel), List.mem_of_getElem? (i := 1481) (by decide +kernel)⟩
theorem lw_p54 : lw_okq (⟨"LockLadderModel", "copies", "()V"⟩, 31) := ⟨⟨by decide +kernel, by decide +kernel⟩, List.mem_of_getElem? (i := 997) (by decide +kernel), List.mem_of_getElem? (i := 1493) (by decide +kernel), List.mem_of_getElem? (i := 1494) (by decide +kernel)⟩
theorem lw_p55 : lw_okq (⟨"LockLadderModel", "draws", "(I)I"⟩, 31) := ⟨⟨by decide +kernel, by decide +kernel⟩, List.mem_of_getElem? (i := 997) (by decide +kernel), List.mem_of_getElem? (i := 1538) (by decide +kernel), List.mem_of_getElem? (i := 1539) (by decide +kernel)⟩
theorem lw_p56 : lw_okq (⟨"LockLadderModel", "drawnAct", "(II)V"⟩, 31) := ⟨⟨by decide +kernel, by decide +kernel⟩, List.mem_of_getElem? (i := 997) (by decide +kernel), List.mem_of_getElem? (i := 1543) (by decide +kernel), List.mem_of_getElem? (i := 1544) (by decide +kernel)⟩
def lw_privs_4 : List (MethodName × Nat) := [(⟨"LockLadderModel", "readsAct", "()Z"⟩, 31), (⟨"LockLadderModel", "two", "()I"⟩, 31), (⟨"LockLadderModel", "does", "(I)I"⟩, 31), (⟨"LockLadderModel", "firstAbove", "(III)I"⟩, 31), (⟨"LockLadderModel", "wouldWait", "(III)I"⟩, 31), (⟨"LockLadderModel", "laysSteps", "(I)V"⟩, 31), (⟨"LockLadderModel", "copies", "()V"⟩, 31), (⟨"LockLadderModel", "draws", "(I)I"⟩, 31), (⟨"LockLadderModel", "drawnAct", "(II)V"⟩, 31)]
theorem lw_r4 : ∀ q ∈ lw_privs_4, lw_okq q := List.forall_mem_cons.mpr ⟨lw_p48, List.forall_mem_cons.mpr ⟨lw_p49, List.forall_mem_cons.mpr ⟨lw_p50, List.forall_mem_cons.mpr ⟨lw_p51, List.forall_mem_cons.mpr ⟨lw_p52, List.forall_mem_cons.mpr ⟨lw_p53, List.forall_mem_cons.mpr ⟨lw_p54, List.forall_mem_cons.mpr ⟨lw_p55, List.forall_mem_cons.mpr ⟨lw_p56, fun _ h => absurd h List.not_mem_nil⟩⟩⟩⟩⟩⟩⟩⟩⟩
def lw_privs : List (MethodName × Nat) := lw_privs_1 ++ (lw_privs_2 ++ (lw_privs_3 ++ (lw_privs_4)))
def lw_tbl : List Cond := k2_sels lw_privs ++ tables_1
theorem lw_privs_ok : ∀ q ∈ lw_privs, lw_okq q := by
  show ∀ q ∈ lw_privs_1 ++ (lw_privs_2 ++ (lw_privs_3 ++ (lw_privs_4))), lw_okq q
  exact List.forall_mem_append.mpr ⟨lw_r1, List.forall_mem_append.mpr ⟨lw_r2, List.forall_mem_append.mpr ⟨lw_r3, lw_r4⟩⟩⟩
/-! ===== BEGIN words of one list among another's, by their places ===== -/
theorem goodIn_r {big : List Cond} (ws : List Cond) (ps : List Nat) (hp : ws = ps.filterMap (fun i => big[i]?)) (h : ws.all goodWord = true) : GoodIn big ws := by
  intro w hw
  have h1 := List.all_eq_true.mp h w hw
  rw [hp] at hw
  obtain ⟨i, -, hi⟩ := List.mem_filterMap.mp hw
  have hm : w ∈ big := by first | exact List.mem_of_getElem? hi | exact List.getElem?_mem hi
  exact ⟨hm, good_of_word h1⟩
theorem goodIn_app {big a b : List Cond} (ha : GoodIn big a) (hb : GoodIn big b) : GoodIn big (a ++ b) := fun w h => (List.mem_append.mp h).elim (ha w) (hb w)
theorem goodIn_ca {big a b : List Cond} {c : Cond} (ha : GoodIn big (c :: a)) (hb : GoodIn big b) : GoodIn big (c :: (a ++ b)) := fun w h => (List.mem_cons.mp h).elim (fun e => ha w (List.mem_cons.mpr (Or.inl e))) (fun h => (List.mem_append.mp h).elim (fun h => ha w (List.mem_cons.mpr (Or.inr h))) (hb w))
theorem goodIn_sub {big ws : List Cond} (hm : ∀ w ∈ ws, w ∈ big) (h : ws.all goodWord = true) : GoodIn big ws := fun w hw => ⟨hm w hw, good_of_word (List.all_eq_true.mp h w hw)⟩
/-! ===== END ===== -/

/-! ===== BEGIN exceptions that leave a method, and their catching by the caller (launches without stack traces) ===== -/
section VXA
/-! The laws vx_back, vx_callV, vx_callS, vx_callSW, vx_throw0, vx_throwS follow proofs of the library, with one case more: JvmDerived/Free/Laws.lean (Back.of_free), Shelf42/LK1.lean (callV, callS), Shelf/KitTraced.lean (throwNew0V, throwNewS). -/
/-- where a method has thrown q: the class by its name, the cell, what was written, the world -/
def vx_T (XC : String → State → State → Prop) (st : State) (q : Addr) (t : State) (mc ms : Nat) (free : Addr → Prop) : Prop :=
  ∃ (E : String) (ce : Cell) (L : List Loc), XC E st t ∧ t.heap[q]? = some ce ∧ ce.vm = .none ∧ st.vm.findClass E = some ce.cls ∧ st.WarmedH t.vm ∧ st.sameButNew ({ t with vm := st.vm } : State) L mc ms ∧ ∀ z ∈ L, free z.base
def vx_Q (Qc : Array Value → State → Outcome → State → Prop) (XC : String → State → State → Prop) (mc ms : Nat) (free : Addr → Prop) : Array Value → State → Outcome → State → Prop := fun a st o t =>
  (Qc a st o t ∧ ∃ L, FrameEnd st o t L mc ms ∧ ∀ q ∈ L, free q.base) ∨ ∃ q, o = .threw q ∧ vx_T XC st q t mc ms free
/-- a callee that returns or throws -/
def vx_Met (l : Launch) (y : MethodName) (ws : List Cond) (rm : Room) (Pc : Array Value → State → Prop) (Qc : Array Value → State → Outcome → State → Prop) (XC : String → State → State → Prop) (mc ms : Nat) (free : Addr → Prop) : Prop :=
  MetFree l y (headSpec ws rm) Pc (fun _ _ _ _ _ => True) (vx_Q Qc XC mc ms free)
def vx_Post (XC : String → State → State → Prop) (mc ms : Nat) (free : Addr → Prop) : Pt → Array Value → Addr → Pt → Prop := fun A a q B =>
  ∃ (g : JFrame) (mk : MethodId) (t : State) (L : List Loc) (E : String) (ce : Cell), B.U.heap = t.heap ∧ B.U.vm = t.vm ∧ XC E (A.U.calling g mk a) t ∧ t.heap[q]? = some ce ∧ ce.vm = .none ∧ A.U.vm.findClass E = some ce.cls ∧ B.locs = A.locs ++ L ∧ (∀ z ∈ L, free z.base) ∧ B.cells = A.cells + mc ∧ B.slots = A.slots + ms
def vx_Back (l : Launch) (R : Room) (p : Program) (e : Env) (below : List Frame) (s : State) (sargs : Array Value) (y : MethodName) (len W9 : Nat)
    (Pre : Pt → Array Value → Prop) (Post : Pt → Array Value → Option Value → Pt → Prop) (PostX : Pt → Array Value → Addr → Pt → Prop) : Prop :=
  ∀ (m : MethodId) (meth : Method) (c : Code) (A : Pt) (g : JFrame) (ig : Instr) (mk : MethodId) (a : Array Value),
    Stand p l e R s m sargs below meth c A.U A.locs A.cells A.slots → g.method = m → g.locals.size = c.maxLocals → decode c.code g.pc = .ok (ig, len) →
    2 * g.monitorRoom + (g.stack.map fun v => v.category).sum ≤ W9 → A.U.methodNamed? y = some mk → Pre A a →
    (∃ (v : Option Value) (B : Pt), Stand p l e R s m sargs below meth c B.U B.locs B.cells B.slots ∧ Post A a v B ∧
      Steps p.tables e below (doInvoke e (A.U.setTop g) [] mk a).1 (B.U.setTop { g with pc := g.pc + len, stack := v.toList ++ g.stack })) ∨
    (∃ (q : Addr) (B : Pt), Stand p l e R s m sargs below meth c B.U B.locs B.cells B.slots ∧ PostX A a q B ∧
      Steps p.tables e below (doInvoke e (A.U.setTop g) [] mk a).1 ((B.U.setTop g).pushFrame (.throwing q)))
section Payer
variable {l : Launch} {R : Room} {p : Program} {e : Env} {below : List Frame} {s : State} {sargs : Array Value} {y : MethodName} {len W9 : Nat}
theorem vx_back {ws : List Cond} {rm : Room} {Pc : Array Value → State → Prop} {Qc : Array Value → State → Outcome → State → Prop} {XC : String → State → State → Prop} {mc ms : Nat} {free : Addr → Prop} {bytes : ByteArray} {maxL : Nat} {ret : Option FieldType}
    (hM : vx_Met l y ws rm Pc Qc XC mc ms free) (hblind : FrameBlind Pc) (hrc : rm.cells = mc) (hrs : rm.slots = ms)
    (hframes : rm.frames + 1 ≤ R.frames) (hlocals : W9 + (maxL + 11) + rm.locals ≤ R.locals)
    (hws : ∀ w ∈ ws, ∀ a' U, s.WarmedH U.vm → w.before a' U = true) (hcode : Cond.code y bytes maxL ret ∈ ws) (hinit : ∀ a' U, s.WarmedH U.vm → (Cond.initialized y.cls).before a' U = true) :
    vx_Back l R p e below s sargs y len W9 (PreOf R mc ms Pc) (PostOf Qc mc ms free) (vx_Post XC mc ms free) := by
  intro m meth c A g ig mk a X hg hsize hdg hW hn hp
  have h1 : (headSpec ws rm).pre.before a A.U = true := atoms_intro fun w hw => hws w hw _ _ X.warmed
  have h2 : (Cond.code y bytes maxL ret).before a A.U = true := hws _ hcode _ _ X.warmed
  have h3 : (Cond.initialized y.cls).before a A.U = true := hinit _ _ X.warmed
  have h4 : A.cells + (headSpec ws rm).room.cells ≤ R.cells := by rw [show (headSpec ws rm).room.cells = mc from hrc]; exact hp.1
  have h5 : A.slots + (headSpec ws rm).room.slots ≤ R.slots := by rw [show (headSpec ws rm).room.slots = ms from hrs]; exact hp.2.1
  have hPc : Pc a (A.U.calling g mk a) := hblind _ _ _ _ hp.2.2
  obtain ⟨U, Ls, c0, s0⟩ := A
  dsimp only [Pt.U, Pt.locs, Pt.cells, Pt.slots] at h1 h2 h3 h4 h5 X hn hPc ⊢
  obtain ⟨methY, cY, hmY, hcY, -, hlY, -, -, -, -⟩ := Cond.code_spec hn h2
  obtain ⟨kY, hkY, -⟩ := className_of_methodNamed hn
  have hinitY : kY.init = .initialized := Cond.initialized_spec (findClass_of_methodNamed hn) hkY h3
  have h : At U g.method c below := by rw [hg]; exact X.here
  have hlocals9 : W9 + (maxL + 11) + (headSpec ws rm).room.locals ≤ R.locals := hlocals
  have happ : (headSpec ws rm).appliesLoose y e.platform (U.calling g mk a) = true :=
    Spec.appliesLoose_calling (g := g) h hdg hn hkY hinitY
      (X.room_calling (g := g) (R' := (headSpec ws rm).room) hsize hmY hcY hframes (by rw [hlY]; omega) h4 h5) h1
  obtain ⟨mid, hmid⟩ := h.above
  have hfr : (U.setTop g).frames = (.java g :: mid) ++ below := by rw [State.frames_setTop' g h.top, hmid]; rfl
  obtain ⟨o, s₂, hsteps, -, hend, hq⟩ := Steps.callFree hM p X.admits X.cas X.clock (acts := []) hfr happ hPc trivial
  have hq' : vx_Q Qc XC mc ms free a (U.calling g mk a) o s₂ := hq
  rw [State.frames_setTop' g h.top] at hend
  obtain ⟨g₀, hg0⟩ := Option.isSome_iff_exists.mp h.top
  obtain ⟨r, hr⟩ := State.topJava?_eq_some.mp hg0
  have hr' : (({ U with heap := s₂.heap, slotsUsed := s₂.slotsUsed } : State).setVm s₂.vm).frames = .java g₀ :: r := hr
  rcases hq' with ⟨hqc, L, hfe, hL⟩ | ⟨q, rfl, E, ce, L, hx, hce, hcv, hcl, hW₂, hsm, hL⟩
  · obtain ⟨⟨v, rfl⟩, hW₂, e2, q2, q3, q4, q5, q6⟩ := id hfe
    have e3 : s₂ = ({ (U.calling g mk a).setFrames s₂.frames with heap := s₂.heap, slotsUsed := s₂.slotsUsed } : State).setVm s₂.vm := by
      have : s₂ = ({ s₂ with vm := (U.calling g mk a).vm } : State).setVm s₂.vm := rfl
      rw [e2] at this
      exact this
    obtain ⟨c₂, i₂, len₂, hc₂, hd₂, hf₂⟩ := hend
    have hW' : U.WarmedH s₂.vm := hW₂
    have hcc : c₂ = c := by
      have h1 : s₂.code? g.method = U.code? g.method := by
        rw [State.code?_eq, State.code?_eq, hW'.alike.method?]
      exact Option.some.inj (hc₂.symm.trans (h1.trans h.code))
    subst hcc
    have hlen : len₂ = len := by rw [hdg] at hd₂; cases hd₂; rfl
    subst hlen
    have hs₂ : s₂ = (({ U with heap := s₂.heap, slotsUsed := s₂.slotsUsed } : State).setVm s₂.vm).setTop { g with pc := g.pc + len₂, stack := v.toList ++ g.stack } := by
      refine e3.trans ?_
      rw [hf₂, State.calling_eq h.top, State.setFrames_setFrames, State.setTop_of_frames _ hr', hr]
      rfl
    have hsame : U.sameButNew ({ U with heap := s₂.heap, slotsUsed := s₂.slotsUsed } : State) L mc ms := by
      refine ⟨?_, q2, q3, q4, q5, q6⟩
      obtain ⟨t, ht, -⟩ := State.frames_cons hr
      show ({ U with heap := s₂.heap, slotsUsed := s₂.slotsUsed } : State) = { U.setFrames U.frames with heap := s₂.heap, slotsUsed := s₂.slotsUsed }
      rw [State.setFrames_self ht]
    subst hg
    refine Or.inl ⟨v, ⟨(({ U with heap := s₂.heap, slotsUsed := s₂.slotsUsed } : State).setVm s₂.vm), Ls ++ L, c0 + mc, s0 + ms⟩,
      ⟨X.admits, X.cas, X.clock, X.frames, X.room, X.hears, X.method, X.code, (X.here.setHeapUsed s₂.heap s₂.slotsUsed).setVm hW'.alike, X.tail, State.WarmedH.trans X.warmed hW', X.limits, X.bytes, X.same.trans (hsame.setVm s.vm)⟩,
      ⟨g, mk, s₂, L, rfl, rfl, hqc, rfl, hL, rfl, rfl⟩, ?_⟩
    show Steps p.tables e below _ ((({ U with heap := s₂.heap, slotsUsed := s₂.slotsUsed } : State).setVm s₂.vm).setTop { g with pc := g.pc + len₂, stack := v.toList ++ g.stack })
    rw [← hs₂]
    exact hsteps
  · obtain ⟨e2, q2, q3, q4, q5, q6⟩ := id hsm
    have e3 : s₂ = ({ (U.calling g mk a).setFrames s₂.frames with heap := s₂.heap, slotsUsed := s₂.slotsUsed } : State).setVm s₂.vm := by
      have : s₂ = ({ s₂ with vm := (U.calling g mk a).vm } : State).setVm s₂.vm := rfl
      rw [e2] at this
      exact this
    have hf₂ : s₂.frames = .throwing q :: .java g :: U.frames.tail := hend
    have hW' : U.WarmedH s₂.vm := hW₂
    have hs₂ : s₂ = ((({ U with heap := s₂.heap, slotsUsed := s₂.slotsUsed } : State).setVm s₂.vm).setTop g).pushFrame (.throwing q) := by
      refine e3.trans ?_
      rw [hf₂, State.calling_eq h.top, State.setFrames_setFrames, State.pushFrame, State.frames_setTop _ hr', State.setTop_of_frames _ hr', State.setFrames_setFrames, hr]
      rfl
    have hsame : U.sameButNew ({ U with heap := s₂.heap, slotsUsed := s₂.slotsUsed } : State) L mc ms := by
      refine ⟨?_, q2, q3, q4, q5, q6⟩
      obtain ⟨t, ht, -⟩ := State.frames_cons hr
      show ({ U with heap := s₂.heap, slotsUsed := s₂.slotsUsed } : State) = { U.setFrames U.frames with heap := s₂.heap, slotsUsed := s₂.slotsUsed }
      rw [State.setFrames_self ht]
    subst hg
    refine Or.inr ⟨q, ⟨(({ U with heap := s₂.heap, slotsUsed := s₂.slotsUsed } : State).setVm s₂.vm), Ls ++ L, c0 + mc, s0 + ms⟩,
      ⟨X.admits, X.cas, X.clock, X.frames, X.room, X.hears, X.method, X.code, (X.here.setHeapUsed s₂.heap s₂.slotsUsed).setVm hW'.alike, X.tail, State.WarmedH.trans X.warmed hW', X.limits, X.bytes, X.same.trans (hsame.setVm s.vm)⟩,
      ⟨g, mk, s₂, L, E, ce, rfl, rfl, hx, hce, hcv, hcl, rfl, hL, rfl, rfl⟩, ?_⟩
    show Steps p.tables e below _ (((({ U with heap := s₂.heap, slotsUsed := s₂.slotsUsed } : State).setVm s₂.vm).setTop g).pushFrame (.throwing q))
    rw [← hs₂]
    exact hsteps
end Payer
section Calls
variable {p : Program} {l : Launch} {e : Env} {R : Room} {s : State} {m : MethodId} {args : Array Value} {below : List Frame} {meth : Method} {c : Code} {T : State} {locs : List Loc} {cells slots : Nat}
theorem vx_callV (X : Stand p l e R s m args below meth c T locs cells slots) (hexec : p.tables.exec = Jvm.exec) {own C : String} {index : Nat} {y : MethodName} {bytes : ByteArray} {maxL : Nat} {ret : Option FieldType}
    (hown : s.vm.findClass own = some m.cls) (hlink : (Cond.methodLink own index y).before args s = true) (hinst : (Cond.instanceMethod y).before args s = true) (hsel : (Cond.selects C y y).before args s = true)
    (hcode : (Cond.code y bytes maxL ret).before args s = true) (hy : y.cls ≠ "java/lang/invoke/MethodHandle" ∧ y.cls ≠ "java/lang/invoke/VarHandle")
    {W9 : Nat} {Pre : Pt → Array Value → Prop} {Post : Pt → Array Value → Option Value → Pt → Prop} {PostX : Pt → Array Value → Addr → Pt → Prop} (hK : vx_Back l R p e below s args y 3 W9 Pre Post PostX)
    {b : Addr} {cellB : Cell} (hcell : T.heap[b]? = some cellB) (hobj : cellB.vm.isStatics = false) (hcls : s.vm.findClass C = some cellB.cls)
    {g : JFrame} (hg : g.method = m) (hsize : g.locals.size = c.maxLocals) {argsL rest : List Value} (hlen : ∀ sig, parseMethodDescriptor y.desc = some sig → argsL.length = sig.parameters.length)
    (hstack : g.stack = argsL.reverse ++ .ref b :: rest) (hW : 2 * g.monitorRoom + (rest.map fun v => v.category).sum ≤ W9) (hdg : decode c.code g.pc = .ok (.invokevirtual index, 3))
    (hpre : ∀ vm₁, s.WarmedH vm₁ → Pre ⟨T.setVm vm₁, locs, cells, slots⟩ (Value.ref b :: argsL).toArray) :
    (∃ (v : Option Value) (vm₁ : Vm) (B : Pt), s.WarmedH vm₁ ∧ Stand p l e R s m args below meth c B.U B.locs B.cells B.slots ∧ Post ⟨T.setVm vm₁, locs, cells, slots⟩ (Value.ref b :: argsL).toArray v B ∧
      ∀ target, Steps p.tables e below (B.U.setTop { g with pc := g.pc + 3, stack := v.toList ++ rest }) target → Steps p.tables e below (T.setTop g) target) ∨
    (∃ (q : Addr) (vm₁ : Vm) (B : Pt), s.WarmedH vm₁ ∧ Stand p l e R s m args below meth c B.U B.locs B.cells B.slots ∧ PostX ⟨T.setVm vm₁, locs, cells, slots⟩ (Value.ref b :: argsL).toArray q B ∧
      Steps p.tables e below (T.setTop g) ((B.U.setTop { g with stack := rest }).pushFrame (.throwing q))) := by
  obtain ⟨mk, methM, hnamed, hmethM, hstM, habM⟩ := Cond.instanceMethod_spec hinst
  obtain ⟨methM', cM, hmethM', -, -, -, -, -, -, hsigM⟩ := Cond.code_spec hnamed hcode
  cases hmethM.symm.trans hmethM'
  obtain ⟨c2, r2, m2, q1, q2, q3, q4, kP, hkP, hkPi⟩ := Cond.selects_spec hsel
  cases hcls.symm.trans q1
  cases (State.methodFound?_of_named hnamed hy).symm.trans q2
  cases hnamed.symm.trans q3
  have hselP : selectMethod e.platform s.vm cellB.cls mk = .method mk := by rw [Launch.admits_selectMethod X.admits]; exact q4
  obtain ⟨vm₁, X₁, hstep₁⟩ := X.invokevirtual hexec hown hlink hnamed hmethM hstM hkP hkPi hy (a := b) (cell := cellB) hcell
    (fun z h => by rw [h] at hobj; cases hobj) hselP hmethM habM hkP hkPi (g := g) hg (argsL := argsL) (rest := rest) (hlen _ hsigM) hstack hdg
  rcases hK m meth c ⟨T.setVm vm₁, locs, cells, slots⟩ { g with stack := rest } (.invokevirtual index) mk (Value.ref b :: argsL).toArray X₁ hg hsize hdg hW (X₁.named hnamed) (hpre vm₁ X₁.warmed) with ⟨v, B, X', hpost, hsteps⟩ | ⟨q, B, X', hpost, hsteps⟩
  · exact Or.inl ⟨v, vm₁, B, X₁.warmed, X', hpost, fun target h => hstep₁ _ fun acts => by rw [doInvoke_state]; exact hsteps.trans h⟩
  · exact Or.inr ⟨q, vm₁, B, X₁.warmed, X', hpost, hstep₁ _ fun acts => by rw [doInvoke_state]; exact hsteps⟩
theorem vx_callS (X : Stand p l e R s m args below meth c T locs cells slots) (hexec : p.tables.exec = Jvm.exec) {own : String} {index : Nat} {y : MethodName} {bytes : ByteArray} {maxL : Nat} {ret : Option FieldType}
    (hown : s.vm.findClass own = some m.cls) (hlink : (Cond.methodLink own index y).before args s = true) (hstat : (Cond.static y).before args s = true) (hinit : (Cond.initialized y.cls).before args s = true)
    (hcode : (Cond.code y bytes maxL ret).before args s = true) (hy : y.cls ≠ "java/lang/invoke/MethodHandle" ∧ y.cls ≠ "java/lang/invoke/VarHandle")
    {W9 : Nat} {Pre : Pt → Array Value → Prop} {Post : Pt → Array Value → Option Value → Pt → Prop} {PostX : Pt → Array Value → Addr → Pt → Prop} (hK : vx_Back l R p e below s args y 3 W9 Pre Post PostX)
    {g : JFrame} (hg : g.method = m) (hsize : g.locals.size = c.maxLocals) {argsL rest : List Value} (hlen : ∀ sig, parseMethodDescriptor y.desc = some sig → argsL.length = sig.parameters.length)
    (hstack : g.stack = argsL.reverse ++ rest) (hW : 2 * g.monitorRoom + (rest.map fun v => v.category).sum ≤ W9) (hdg : decode c.code g.pc = .ok (.invokestatic index, 3))
    (hpre : ∀ vm₁, s.WarmedH vm₁ → Pre ⟨T.setVm vm₁, locs, cells, slots⟩ argsL.toArray) :
    (∃ (v : Option Value) (vm₁ : Vm) (B : Pt), s.WarmedH vm₁ ∧ Stand p l e R s m args below meth c B.U B.locs B.cells B.slots ∧ Post ⟨T.setVm vm₁, locs, cells, slots⟩ argsL.toArray v B ∧
      ∀ target, Steps p.tables e below (B.U.setTop { g with pc := g.pc + 3, stack := v.toList ++ rest }) target → Steps p.tables e below (T.setTop g) target) ∨
    (∃ (q : Addr) (vm₁ : Vm) (B : Pt), s.WarmedH vm₁ ∧ Stand p l e R s m args below meth c B.U B.locs B.cells B.slots ∧ PostX ⟨T.setVm vm₁, locs, cells, slots⟩ argsL.toArray q B ∧
      Steps p.tables e below (T.setTop g) ((B.U.setTop { g with stack := rest }).pushFrame (.throwing q))) := by
  obtain ⟨mk, hnamed⟩ := Cond.code_named hcode
  obtain ⟨methM, cM, hmethM, -, -, -, -, -, -, hsigM⟩ := Cond.code_spec hnamed hcode
  have hstatic : methM.isStatic = true := Cond.static_spec hnamed hmethM hstat
  obtain ⟨kP, hkP, -⟩ := className_of_methodNamed hnamed
  have hinitP : kP.init = .initialized := Cond.initialized_spec (findClass_of_methodNamed hnamed) hkP hinit
  obtain ⟨vm₁, X₁, hstep₁⟩ := X.invokestatic hexec hown hlink hnamed hmethM hstatic hkP hinitP hy (g := g) hg (argsL := argsL) (rest := rest) (hlen _ hsigM) hstack hdg
  rcases hK m meth c ⟨T.setVm vm₁, locs, cells, slots⟩ { g with stack := rest } (.invokestatic index) mk argsL.toArray X₁ hg hsize hdg hW (X₁.named hnamed) (hpre vm₁ X₁.warmed) with ⟨v, B, X', hpost, hsteps⟩ | ⟨q, B, X', hpost, hsteps⟩
  · exact Or.inl ⟨v, vm₁, B, X₁.warmed, X', hpost, fun target h => hstep₁ _ fun acts => by rw [doInvoke_state]; exact hsteps.trans h⟩
  · exact Or.inr ⟨q, vm₁, B, X₁.warmed, X', hpost, hstep₁ _ fun acts => by rw [doInvoke_state]; exact hsteps⟩
end Calls
theorem vx_cls {s : State} {T : State} {vm₁ : Vm} {E : String} {k : ClassId} (hW : s.WarmedH vm₁) (h : (T.setVm vm₁).vm.findClass E = some k) : s.vm.findClass E = some k := by
  have h1 : vm₁.findClass E = some k := h
  rw [hW.alike.findClass] at h1
  exact h1
/-- the method's frame g, with q thrown over it -/
def vx_W (p : Program) (l : Launch) (e : Env) (R : Room) (s : State) (m : MethodId) (args : Array Value) (below : List Frame) (meth : Method) (c : Code) (H : Heap) (locs : List Loc) (cells slots : Nat) (Q : State → Prop) (g : JFrame) (q : Addr) : Prop :=
  ∀ T : State, T.heap = H → Stand p l e R s m args below meth c T locs cells slots → ∃ t, Steps p.tables e below ((T.setTop g).pushFrame (.throwing q)) t ∧ Q t
def vx_Run (p : Program) (l : Launch) (e : Env) (R : Room) (s : State) (m : MethodId) (args : Array Value) (below : List Frame) (meth : Method) (c : Code) (H : Heap) (locs : List Loc) (cells slots mc ms : Nat) (g : JFrame) (rest : List Value) (Qa : State → Outcome → State → Prop) (XC : String → State → State → Prop) (free : Addr → Prop) : Prop :=
  ∀ T : State, T.heap = H → Stand p l e R s m args below meth c T locs cells slots →
    (∃ (v : Option Value) (st₀ t T' : State) (L : List Loc), st₀.heap = H ∧ Stand p l e R s m args below meth c T' (locs ++ L) (cells + mc) (slots + ms) ∧ (∀ q ∈ L, free q.base) ∧ T'.heap = t.heap ∧ T'.vm = t.vm ∧ Qa st₀ (.returned v) t ∧
      Goes p e below T g T' { g with pc := g.pc + 3, stack := v.toList ++ rest }) ∨
    (∃ (q : Addr) (st₀ t T' : State) (L : List Loc) (E : String) (ce : Cell), st₀.heap = H ∧ Stand p l e R s m args below meth c T' (locs ++ L) (cells + mc) (slots + ms) ∧ (∀ z ∈ L, free z.base) ∧ T'.heap = t.heap ∧ T'.vm = t.vm ∧ XC E st₀ t ∧ t.heap[q]? = some ce ∧ ce.vm = .none ∧ s.vm.findClass E = some ce.cls ∧
      Steps p.tables e below (T.setTop g) ((T'.setTop { g with stack := rest }).pushFrame (.throwing q)))
def vx_X {S : Type} (px : S → Prop) (B : String → S → State → Prop) (A : Nat → Prop) : String → State → State → Prop := fun E st t => ∃ u : S, px u ∧ B E u t ∧ va_F A st t
section Runs
variable {p : Program} {l : Launch} {e : Env} {R : Room} {s : State} {m : MethodId} {args : Array Value} {below : List Frame} {meth : Method} {c : Code} {H : Heap} {locs : List Loc} {cells slots : Nat}
variable {y : MethodName} {bytes cc : ByteArray} {maxL nL mc ms n index : Nat} {ret : Option FieldType} {ws : List Cond} {rm : Room} {Pc : Array Value → State → Prop} {Qc : Array Value → State → Outcome → State → Prop} {XC : String → State → State → Prop} {free : Addr → Prop} {Ts : List Cond} {own C : String} {b : Addr} {As rest : List Value} {g : JFrame}
theorem vx_callBack (cb : CallB R s args own index y bytes maxL ret ws rm mc ms n) (hM : vx_Met l y ws rm Pc Qc XC mc ms free) (hbl : FrameBlind Pc) : vx_Back l R p e below s args y 3 8 (PreOf R mc ms Pc) (PostOf Qc mc ms free) (vx_Post XC mc ms free) := by
  obtain ⟨hrc, hrs, hfr, hlo, hws, hcw, -, hini, -⟩ := cb
  exact vx_back (bytes := bytes) (maxL := maxL) (ret := ret) hM hbl hrc hrs hfr hlo hws hcw (fun a' U hW => word_at hW (Or.inl (by first | rfl | simp [Cond.onTables, Cond.keeps, Cond.steady])) hini)
theorem vx_runV (S : CallFix p m c cc nL s args Ts own) (hM : vx_Met l y ws rm Pc Qc XC mc ms free) (cw : CallW R s args own C index y bytes maxL ret ws rm mc ms n) (hp : PreV s H C b Pc As)
    (hg : g.method = m) (hn : As.length = n) (hsize : g.locals.size = nL) (hstack : g.stack = As.reverse ++ .ref b :: rest) (hW : 2 * g.monitorRoom + (rest.map fun v => v.category).sum ≤ 8) (hdg : decode cc g.pc = .ok (.invokevirtual index, 3)) (hf : cells + mc ≤ R.cells ∧ slots + ms ≤ R.slots) :
    vx_Run p l e R s m args below meth c H locs cells slots mc ms g rest (Qc (Value.ref b :: As).toArray) XC free := by
  have hK : vx_Back l R p e below s args y 3 8 (PreOf R mc ms Pc) (PostOf Qc mc ms free) (vx_Post XC mc ms free) := vx_callBack cw.1 hM hp.1
  obtain ⟨⟨-, -, -, -, -, -, hcode, -, hy, hlen, hl⟩, hin, hse⟩ := cw
  obtain ⟨hx, hb, hml, ho, -⟩ := S
  obtain ⟨-, ⟨cellB, hcB, hoB, hclB⟩, hPc⟩ := hp
  intro T hT X
  rcases vx_callV X hx (C := C) (bytes := bytes) (maxL := maxL) (ret := ret) ho hl hin hse hcode hy hK (by rw [hT]; exact hcB) hoB hclB hg (hsize.trans hml.symm) (argsL := As) (rest := rest) (fun sig h => hn.trans (hlen sig h)) hstack hW (by rw [hb]; exact hdg)
    (fun vm₁ hW₁ => ⟨hf.1, hf.2, hPc (T.setVm vm₁) hT hW₁⟩) with ⟨v, vm₁, ⟨U', l2, c2, s2⟩, hW₁, X', ⟨g', mk, t, L, e1, e2, hq, h1, hL, h2, h3⟩, st⟩ | ⟨q, vm₁, ⟨U', l2, c2, s2⟩, hW₁, X', ⟨g', mk, t, L, E, ce, e1, e2, hq, hce, hcv, hcl, h1, hL, h2, h3⟩, st⟩
  · dsimp only [Pt.U, Pt.locs, Pt.cells, Pt.slots] at X' e1 e2 h1 h2 h3 st
    subst h1; subst h2; subst h3
    exact Or.inl ⟨v, (T.setVm vm₁).calling g' mk (Value.ref b :: As).toArray, t, U', L, hT, X', hL, e1, e2, hq, st⟩
  · dsimp only [Pt.U, Pt.locs, Pt.cells, Pt.slots] at X' e1 e2 h1 h2 h3 st hcl
    subst h1; subst h2; subst h3
    exact Or.inr ⟨q, (T.setVm vm₁).calling g' mk (Value.ref b :: As).toArray, t, U', L, E, ce, hT, X', hL, e1, e2, hq, hce, hcv, vx_cls hW₁ hcl, st⟩
theorem vx_runS (S : CallFix p m c cc nL s args Ts own) (hM : vx_Met l y ws rm Pc Qc XC mc ms free) (cw : CallB R s args own index y bytes maxL ret ws rm mc ms n ∧ (Cond.static y).before args s = true) (hp : PreS s H Pc As)
    (hg : g.method = m) (hn : As.length = n) (hsize : g.locals.size = nL) (hstack : g.stack = As.reverse ++ rest) (hW : 2 * g.monitorRoom + (rest.map fun v => v.category).sum ≤ 8) (hdg : decode cc g.pc = .ok (.invokestatic index, 3)) (hf : cells + mc ≤ R.cells ∧ slots + ms ≤ R.slots) :
    vx_Run p l e R s m args below meth c H locs cells slots mc ms g rest (Qc As.toArray) XC free := by
  have hK : vx_Back l R p e below s args y 3 8 (PreOf R mc ms Pc) (PostOf Qc mc ms free) (vx_Post XC mc ms free) := vx_callBack cw.1 hM hp.1
  obtain ⟨⟨-, -, -, -, -, -, hcode, hini, hy, hlen, hl⟩, hstt⟩ := cw
  obtain ⟨hx, hb, hml, ho, -⟩ := S
  intro T hT X
  rcases vx_callS X hx (bytes := bytes) (maxL := maxL) (ret := ret) ho hl hstt hini hcode hy hK hg (hsize.trans hml.symm) (argsL := As) (rest := rest) (fun sig h => hn.trans (hlen sig h)) hstack hW (by rw [hb]; exact hdg)
    (fun vm₁ hW₁ => ⟨hf.1, hf.2, hp.2 (T.setVm vm₁) hT hW₁⟩) with ⟨v, vm₁, ⟨U', l2, c2, s2⟩, hW₁, X', ⟨g', mk, t, L, e1, e2, hq, h1, hL, h2, h3⟩, st⟩ | ⟨q, vm₁, ⟨U', l2, c2, s2⟩, hW₁, X', ⟨g', mk, t, L, E, ce, e1, e2, hq, hce, hcv, hcl, h1, hL, h2, h3⟩, st⟩
  · dsimp only [Pt.U, Pt.locs, Pt.cells, Pt.slots] at X' e1 e2 h1 h2 h3 st
    subst h1; subst h2; subst h3
    exact Or.inl ⟨v, (T.setVm vm₁).calling g' mk As.toArray, t, U', L, hT, X', hL, e1, e2, hq, st⟩
  · dsimp only [Pt.U, Pt.locs, Pt.cells, Pt.slots] at X' e1 e2 h1 h2 h3 st hcl
    subst h1; subst h2; subst h3
    exact Or.inr ⟨q, (T.setVm vm₁).calling g' mk As.toArray, t, U', L, E, ce, hT, X', hL, e1, e2, hq, hce, hcv, vx_cls hW₁ hcl, st⟩
end Runs
section Rows
variable {p : Program} {l : Launch} {e : Env} {R : Room} {s : State} {m : MethodId} {args : Array Value} {below : List Frame} {meth : Method} {c : Code} {H : Heap} {locs : List Loc} {cells slots : Nat} {Q : State → Prop}
variable {mc ms : Nat} {free : Addr → Prop} {A0 A1 : Nat → Prop} {H0 : Heap} {a : Array Value} {pc : Nat} {ls : Array Slot} {st0 rest : List Value}
theorem vx_keep {st₀ t T' : State} {L : List Loc} (h0 : st₀.heap = H) (e1 : T'.heap = t.heap) (hS : va_S A0 H0 H locs) (hA : ∀ q, q < H.size → A1 q → A0 q) (hf : ∀ q, free q → A0 q) (hL : ∀ q ∈ L, free q.base) (hF : va_F A1 st₀ t) :
    H.size ≤ T'.heap.size ∧ (∀ q : Nat, q < H.size → ¬ A1 q → T'.heap[q]? = H[q]?) ∧ va_S A0 H0 T'.heap (locs ++ L) := by
  obtain ⟨hz, hk⟩ := hF
  rw [h0] at hz hk
  exact ⟨by rw [e1]; exact hz, fun q h1 h2 => by rw [e1]; exact hk q h1 h2,
    ⟨Nat.le_trans hS.1 (by rw [e1]; exact hz), fun q h1 h2 => by rw [e1, hk q (Nat.lt_of_lt_of_le h1 hS.1) (fun z => h2 (hA q (Nat.lt_of_lt_of_le h1 hS.1) z))]; exact hS.2.1 q h1 h2, fun q hq => by
      rcases List.mem_append.mp hq with h | h
      · exact hS.2.2 q h
      · exact hf _ (hL q h)⟩⟩
theorem vx_calli {S SX : Type} {post : Int32 → S → Prop} {px : SX → Prop} {B : S → State → Prop} {BX : String → SX → State → Prop} {AX : Nat → Prop} (hr : vx_Run p l e R s m args below meth c H locs cells slots mc ms (F0 m pc ls st0) rest (va_Qi post B A1 a) (vx_X px BX AX) free) (hS : va_S A0 H0 H locs) (hA : ∀ q, q < H.size → A1 q → A0 q) (hf : ∀ q, free q → A0 q) (hAX : ∀ q, q < H.size → AX q → A0 q)
    (kx : ∀ (E : String) (ce : Cell) (q9 : Addr) (u : SX) (t : State) (H1 : Heap) (locs1 : List Loc), t.heap = H1 → s.vm.Alike t.vm → px u → BX E u t → H.size ≤ H1.size → (∀ q : Nat, q < H.size → ¬ AX q → H1[q]? = H[q]?) → va_S A0 H0 H1 locs1 → H1[q9]? = some ce → ce.vm = .none → s.vm.findClass E = some ce.cls → vx_W p l e R s m args below meth c H1 locs1 (cells + mc) (slots + ms) Q (F0 m pc ls rest) q9)
    (kk : ∀ (r : Int32) (u : S) (t : State) (H1 : Heap) (locs1 : List Loc), t.heap = H1 → s.vm.Alike t.vm → post r u → B u t → H.size ≤ H1.size → (∀ q : Nat, q < H.size → ¬ A1 q → H1[q]? = H[q]?) → va_S A0 H0 H1 locs1 → W p l e R s m args below meth c H1 locs1 (cells + mc) (slots + ms) Q (F0 m (pc + 3) ls (.int r :: rest))) : W p l e R s m args below meth c H locs cells slots Q (F0 m pc ls st0) := by
  intro T hT X
  rcases hr T hT X with ⟨v, st₀, t, T', L, h0, X', hL, e1, e2, ⟨⟨r, u, hv, hp, hb⟩, hF⟩, st⟩ | ⟨q, st₀, t, T', L, E, ce, h0, X', hL, e1, e2, ⟨u, hp, hb, hF⟩, hce, hcv, hcl, st⟩
  · cases hv
    obtain ⟨k1, k2, k3⟩ := vx_keep h0 e1 hS hA hf hL hF
    obtain ⟨t2, a1, b1⟩ := kk r u t T'.heap (locs ++ L) e1.symm (by rw [← e2]; exact X'.warmed.alike) hp hb k1 k2 k3 T' rfl X'
    exact ⟨t2, st t2 a1, b1⟩
  · obtain ⟨k1, k2, k3⟩ := vx_keep h0 e1 hS hAX hf hL hF
    obtain ⟨t2, a1, b1⟩ := kx E ce q u t T'.heap (locs ++ L) e1.symm (by rw [← e2]; exact X'.warmed.alike) hp hb k1 k2 k3 (by rw [e1]; exact hce) hcv hcl T' rfl X'
    exact ⟨t2, st.trans a1, b1⟩
theorem vx_calll {S SX : Type} {post : Int64 → S → Prop} {px : SX → Prop} {B : S → State → Prop} {BX : String → SX → State → Prop} {AX : Nat → Prop} (hr : vx_Run p l e R s m args below meth c H locs cells slots mc ms (F0 m pc ls st0) rest (va_Ql post B A1 a) (vx_X px BX AX) free) (hS : va_S A0 H0 H locs) (hA : ∀ q, q < H.size → A1 q → A0 q) (hf : ∀ q, free q → A0 q) (hAX : ∀ q, q < H.size → AX q → A0 q)
    (kx : ∀ (E : String) (ce : Cell) (q9 : Addr) (u : SX) (t : State) (H1 : Heap) (locs1 : List Loc), t.heap = H1 → s.vm.Alike t.vm → px u → BX E u t → H.size ≤ H1.size → (∀ q : Nat, q < H.size → ¬ AX q → H1[q]? = H[q]?) → va_S A0 H0 H1 locs1 → H1[q9]? = some ce → ce.vm = .none → s.vm.findClass E = some ce.cls → vx_W p l e R s m args below meth c H1 locs1 (cells + mc) (slots + ms) Q (F0 m pc ls rest) q9)
    (kk : ∀ (r : Int64) (u : S) (t : State) (H1 : Heap) (locs1 : List Loc), t.heap = H1 → s.vm.Alike t.vm → post r u → B u t → H.size ≤ H1.size → (∀ q : Nat, q < H.size → ¬ A1 q → H1[q]? = H[q]?) → va_S A0 H0 H1 locs1 → W p l e R s m args below meth c H1 locs1 (cells + mc) (slots + ms) Q (F0 m (pc + 3) ls (.long r :: rest))) : W p l e R s m args below meth c H locs cells slots Q (F0 m pc ls st0) := by
  intro T hT X
  rcases hr T hT X with ⟨v, st₀, t, T', L, h0, X', hL, e1, e2, ⟨⟨r, u, hv, hp, hb⟩, hF⟩, st⟩ | ⟨q, st₀, t, T', L, E, ce, h0, X', hL, e1, e2, ⟨u, hp, hb, hF⟩, hce, hcv, hcl, st⟩
  · cases hv
    obtain ⟨k1, k2, k3⟩ := vx_keep h0 e1 hS hA hf hL hF
    obtain ⟨t2, a1, b1⟩ := kk r u t T'.heap (locs ++ L) e1.symm (by rw [← e2]; exact X'.warmed.alike) hp hb k1 k2 k3 T' rfl X'
    exact ⟨t2, st t2 a1, b1⟩
  · obtain ⟨k1, k2, k3⟩ := vx_keep h0 e1 hS hAX hf hL hF
    obtain ⟨t2, a1, b1⟩ := kx E ce q u t T'.heap (locs ++ L) e1.symm (by rw [← e2]; exact X'.warmed.alike) hp hb k1 k2 k3 (by rw [e1]; exact hce) hcv hcl T' rfl X'
    exact ⟨t2, st.trans a1, b1⟩
theorem vx_callf {S SX : Type} {post : UInt32 → S → Prop} {px : SX → Prop} {B : S → State → Prop} {BX : String → SX → State → Prop} {AX : Nat → Prop} (hr : vx_Run p l e R s m args below meth c H locs cells slots mc ms (F0 m pc ls st0) rest (va_Qf post B A1 a) (vx_X px BX AX) free) (hS : va_S A0 H0 H locs) (hA : ∀ q, q < H.size → A1 q → A0 q) (hf : ∀ q, free q → A0 q) (hAX : ∀ q, q < H.size → AX q → A0 q)
    (kx : ∀ (E : String) (ce : Cell) (q9 : Addr) (u : SX) (t : State) (H1 : Heap) (locs1 : List Loc), t.heap = H1 → s.vm.Alike t.vm → px u → BX E u t → H.size ≤ H1.size → (∀ q : Nat, q < H.size → ¬ AX q → H1[q]? = H[q]?) → va_S A0 H0 H1 locs1 → H1[q9]? = some ce → ce.vm = .none → s.vm.findClass E = some ce.cls → vx_W p l e R s m args below meth c H1 locs1 (cells + mc) (slots + ms) Q (F0 m pc ls rest) q9)
    (kk : ∀ (r : UInt32) (u : S) (t : State) (H1 : Heap) (locs1 : List Loc), t.heap = H1 → s.vm.Alike t.vm → post r u → B u t → H.size ≤ H1.size → (∀ q : Nat, q < H.size → ¬ A1 q → H1[q]? = H[q]?) → va_S A0 H0 H1 locs1 → W p l e R s m args below meth c H1 locs1 (cells + mc) (slots + ms) Q (F0 m (pc + 3) ls (.float r :: rest))) : W p l e R s m args below meth c H locs cells slots Q (F0 m pc ls st0) := by
  intro T hT X
  rcases hr T hT X with ⟨v, st₀, t, T', L, h0, X', hL, e1, e2, ⟨⟨r, u, hv, hp, hb⟩, hF⟩, st⟩ | ⟨q, st₀, t, T', L, E, ce, h0, X', hL, e1, e2, ⟨u, hp, hb, hF⟩, hce, hcv, hcl, st⟩
  · cases hv
    obtain ⟨k1, k2, k3⟩ := vx_keep h0 e1 hS hA hf hL hF
    obtain ⟨t2, a1, b1⟩ := kk r u t T'.heap (locs ++ L) e1.symm (by rw [← e2]; exact X'.warmed.alike) hp hb k1 k2 k3 T' rfl X'
    exact ⟨t2, st t2 a1, b1⟩
  · obtain ⟨k1, k2, k3⟩ := vx_keep h0 e1 hS hAX hf hL hF
    obtain ⟨t2, a1, b1⟩ := kx E ce q u t T'.heap (locs ++ L) e1.symm (by rw [← e2]; exact X'.warmed.alike) hp hb k1 k2 k3 (by rw [e1]; exact hce) hcv hcl T' rfl X'
    exact ⟨t2, st.trans a1, b1⟩
theorem vx_calld {S SX : Type} {post : UInt64 → S → Prop} {px : SX → Prop} {B : S → State → Prop} {BX : String → SX → State → Prop} {AX : Nat → Prop} (hr : vx_Run p l e R s m args below meth c H locs cells slots mc ms (F0 m pc ls st0) rest (va_Qd post B A1 a) (vx_X px BX AX) free) (hS : va_S A0 H0 H locs) (hA : ∀ q, q < H.size → A1 q → A0 q) (hf : ∀ q, free q → A0 q) (hAX : ∀ q, q < H.size → AX q → A0 q)
    (kx : ∀ (E : String) (ce : Cell) (q9 : Addr) (u : SX) (t : State) (H1 : Heap) (locs1 : List Loc), t.heap = H1 → s.vm.Alike t.vm → px u → BX E u t → H.size ≤ H1.size → (∀ q : Nat, q < H.size → ¬ AX q → H1[q]? = H[q]?) → va_S A0 H0 H1 locs1 → H1[q9]? = some ce → ce.vm = .none → s.vm.findClass E = some ce.cls → vx_W p l e R s m args below meth c H1 locs1 (cells + mc) (slots + ms) Q (F0 m pc ls rest) q9)
    (kk : ∀ (r : UInt64) (u : S) (t : State) (H1 : Heap) (locs1 : List Loc), t.heap = H1 → s.vm.Alike t.vm → post r u → B u t → H.size ≤ H1.size → (∀ q : Nat, q < H.size → ¬ A1 q → H1[q]? = H[q]?) → va_S A0 H0 H1 locs1 → W p l e R s m args below meth c H1 locs1 (cells + mc) (slots + ms) Q (F0 m (pc + 3) ls (.double r :: rest))) : W p l e R s m args below meth c H locs cells slots Q (F0 m pc ls st0) := by
  intro T hT X
  rcases hr T hT X with ⟨v, st₀, t, T', L, h0, X', hL, e1, e2, ⟨⟨r, u, hv, hp, hb⟩, hF⟩, st⟩ | ⟨q, st₀, t, T', L, E, ce, h0, X', hL, e1, e2, ⟨u, hp, hb, hF⟩, hce, hcv, hcl, st⟩
  · cases hv
    obtain ⟨k1, k2, k3⟩ := vx_keep h0 e1 hS hA hf hL hF
    obtain ⟨t2, a1, b1⟩ := kk r u t T'.heap (locs ++ L) e1.symm (by rw [← e2]; exact X'.warmed.alike) hp hb k1 k2 k3 T' rfl X'
    exact ⟨t2, st t2 a1, b1⟩
  · obtain ⟨k1, k2, k3⟩ := vx_keep h0 e1 hS hAX hf hL hF
    obtain ⟨t2, a1, b1⟩ := kx E ce q u t T'.heap (locs ++ L) e1.symm (by rw [← e2]; exact X'.warmed.alike) hp hb k1 k2 k3 (by rw [e1]; exact hce) hcv hcl T' rfl X'
    exact ⟨t2, st.trans a1, b1⟩
theorem vx_callv {S SX : Type} {post : S → Prop} {px : SX → Prop} {B : S → State → Prop} {BX : String → SX → State → Prop} {AX : Nat → Prop} (hr : vx_Run p l e R s m args below meth c H locs cells slots mc ms (F0 m pc ls st0) rest (va_Qv post B A1 a) (vx_X px BX AX) free) (hS : va_S A0 H0 H locs) (hA : ∀ q, q < H.size → A1 q → A0 q) (hf : ∀ q, free q → A0 q) (hAX : ∀ q, q < H.size → AX q → A0 q)
    (kx : ∀ (E : String) (ce : Cell) (q9 : Addr) (u : SX) (t : State) (H1 : Heap) (locs1 : List Loc), t.heap = H1 → s.vm.Alike t.vm → px u → BX E u t → H.size ≤ H1.size → (∀ q : Nat, q < H.size → ¬ AX q → H1[q]? = H[q]?) → va_S A0 H0 H1 locs1 → H1[q9]? = some ce → ce.vm = .none → s.vm.findClass E = some ce.cls → vx_W p l e R s m args below meth c H1 locs1 (cells + mc) (slots + ms) Q (F0 m pc ls rest) q9)
    (kk : ∀ (u : S) (t : State) (H1 : Heap) (locs1 : List Loc), t.heap = H1 → s.vm.Alike t.vm → post u → B u t → H.size ≤ H1.size → (∀ q : Nat, q < H.size → ¬ A1 q → H1[q]? = H[q]?) → va_S A0 H0 H1 locs1 → W p l e R s m args below meth c H1 locs1 (cells + mc) (slots + ms) Q (F0 m (pc + 3) ls (rest))) : W p l e R s m args below meth c H locs cells slots Q (F0 m pc ls st0) := by
  intro T hT X
  rcases hr T hT X with ⟨v, st₀, t, T', L, h0, X', hL, e1, e2, ⟨⟨u, hv, hp, hb⟩, hF⟩, st⟩ | ⟨q, st₀, t, T', L, E, ce, h0, X', hL, e1, e2, ⟨u, hp, hb, hF⟩, hce, hcv, hcl, st⟩
  · cases hv
    obtain ⟨k1, k2, k3⟩ := vx_keep h0 e1 hS hA hf hL hF
    obtain ⟨t2, a1, b1⟩ := kk u t T'.heap (locs ++ L) e1.symm (by rw [← e2]; exact X'.warmed.alike) hp hb k1 k2 k3 T' rfl X'
    exact ⟨t2, st t2 a1, b1⟩
  · obtain ⟨k1, k2, k3⟩ := vx_keep h0 e1 hS hAX hf hL hF
    obtain ⟨t2, a1, b1⟩ := kx E ce q u t T'.heap (locs ++ L) e1.symm (by rw [← e2]; exact X'.warmed.alike) hp hb k1 k2 k3 (by rw [e1]; exact hce) hcv hcl T' rfl X'
    exact ⟨t2, st.trans a1, b1⟩
/-- caught by the row x of this method's table; the rows ahead don't take it -/
theorem vx_catch {own name : String} {E : String} {ce : Cell} {q : Addr} (hown : s.vm.findClass own = some m.cls) (pre : List ExceptionTableEntry) (x : ExceptionTableEntry) (suf : List ExceptionTableEntry) (hsplit : c.exceptionTable.toList = pre ++ x :: suf)
    (hpass : ∀ z ∈ pre, covers z pc = false ∨ (z.catchType ≠ 0 ∧ ∃ nm : String, (Cond.classLink own z.catchType nm).before args s = true ∧ va_Nc E nm s)) (hx : covers x pc = true) (h0 : x.catchType ≠ 0)
    (hlink : (Cond.classLink own x.catchType name).before args s = true) (hcast : (Cond.castable E name).before args s = true) (hcell : H[q]? = some ce) (hv : ce.vm = .none) (hcl : s.vm.findClass E = some ce.cls)
    (kk : W p l e R s m args below meth c H locs cells slots Q (F0 m x.handlerPc ls [.ref q])) : vx_W p l e R s m args below meth c H locs cells slots Q (F0 m pc ls rest) q := by
  intro T hT X
  have hpl : e.platform.magicAccessors = ({} : Platform).magicAccessors := by rw [X.admits.platform]
  obtain ⟨c3, c4, hc3, hc4, hasg⟩ := Cond.castable_spec hcast
  cases Option.some.inj (hc3.symm.trans hcl)
  obtain ⟨c5, hc5, hcl5⟩ := Cond.classLink_spec hown hlink e.platform hpl
  cases Option.some.inj (hc4.symm.trans hc5)
  obtain ⟨vm', X', st⟩ := X.thenCaughtThrough q (g := F0 m pc ls rest) rfl (Steps.refl _) (by rw [hT]; exact hcell) (by rw [hv]; rfl) (by obtain ⟨k9, h9, -⟩ := Vm.findClass_spec hcl; exact ⟨k9, h9⟩) pre x suf hsplit
    (fun z hz => by
      rcases hpass z hz with h | ⟨hz0, nm, hl1, hn1⟩
      · exact Or.inl h
      · obtain ⟨c6, hc6, hcl6⟩ := Cond.classLink_spec hown hl1 e.platform hpl
        obtain ⟨a8, b8, h1, h2, h3⟩ := hn1
        cases Option.some.inj (h1.symm.trans hcl)
        cases Option.some.inj (h2.symm.trans hc6)
        exact Or.inr ⟨hz0, _, hcl6, h3⟩) hx (Or.inr ⟨h0, c4, hcl5, hasg⟩)
  obtain ⟨t, a1, b1⟩ := kk (T.setVm vm') hT X'
  exact ⟨t, st.trans a1, b1⟩
end Rows
section Ends
variable {p : Program} {l : Launch} {e : Env} {R : Room} {s : State} {m : MethodId} {args : Array Value} {below : List Frame} {meth : Method} {c : Code} {H : Heap} {locs : List Loc} {cells slots : Nat} {Q : State → Prop}
variable {mc ms : Nat} {free : Addr → Prop} {A0 A1 : Nat → Prop} {H0 : Heap} {a : Array Value} {ls : Array Slot} {st0 rest : List Value}
variable {Qc : Array Value → State → Outcome → State → Prop} {XC : String → State → State → Prop}
/-- what a body that may throw owes at its end -/
def vx_MQ (below : List Frame) (Qc : Array Value → State → Outcome → State → Prop) (XC : String → State → State → Prop) (a : Array Value) (s : State) (mc ms : Nat) (free : Addr → Prop) : State → Prop := fun t =>
  ∃ o, t.status = .running ∧ Ended t below o ∧ vx_Q Qc XC mc ms free a s o t
theorem vx_ret {g : JFrame} {mc ms : Nat} (k : W p l e R s m args below meth c H locs cells slots (MQ below Qc args s mc ms free) g) : W p l e R s m args below meth c H locs cells slots (vx_MQ below Qc XC args s mc ms free) g := by
  intro T hT X
  obtain ⟨t, a1, o, b1, b2, b3, b4⟩ := k T hT X
  exact ⟨t, a1, o, b1, b2, Or.inl ⟨b3, b4⟩⟩
/-- not caught here: it goes on to the caller -/
theorem vx_widen {g : JFrame} {q : Addr} {k n : Nat} (h1 : cells ≤ k) (h2 : slots ≤ n) (kk : vx_W p l e R s m args below meth c H locs k n Q g q) : vx_W p l e R s m args below meth c H locs cells slots Q g q := fun T hT X => kk T hT (stand_widen X h1 h2)
theorem vx_out {pc : Nat} {E : String} {ce : Cell} {q : Addr} {mc ms : Nat} (hout : ∀ x ∈ c.exceptionTable.toList, covers x pc = false) (hlocks : meth.locks = false) (hcell : H[q]? = some ce) (hv : ce.vm = .none) (hcl : s.vm.findClass E = some ce.cls)
    (hx : ∀ t : State, t.heap = H → s.vm.Alike t.vm → XC E s t) (hf : ∀ z ∈ locs, free z.base) (hc : cells ≤ mc) (hs : slots ≤ ms) :
    vx_W p l e R s m args below meth c H locs cells slots (vx_MQ below Qc XC args s mc ms free) (F0 m pc ls rest) q := by
  intro T hT X
  obtain ⟨st1, hrun, hend, hW, hsm⟩ := X.leaveThrown q (g := F0 m pc ls rest) rfl rfl rfl hout hlocks
  have hcell9 : (T.setFrames (.throwing q :: below)).heap[q]? = some ce := by
    show T.heap[q]? = some ce
    rw [hT]; exact hcell
  exact ⟨_, st1, .threw q, hrun, hend, Or.inr ⟨q, rfl, E, ce, locs, hx _ hT hW.alike, hcell9, hv, hcl, hW, hsm.mono hc hs, hf⟩⟩
theorem vx_frame {U : State} {k n : Nat} (h : s.sameButNew ({ U with vm := s.vm } : State) locs k n) : s.heap.size ≤ U.heap.size ∧ ∀ q : Nat, q < s.heap.size → (∀ z ∈ locs, z.base ≠ q) → U.heap[q]? = s.heap[q]? := by
  obtain ⟨-, h2, -, -, -, h6⟩ := h
  refine ⟨h2, fun q hq hz => ?_⟩
  obtain ⟨c9, e1, e2, e3, e4⟩ := h6 q _ (Array.getElem?_eq_getElem hq)
  have hs : c9.slots = (s.heap[q]).slots := Array.ext_getElem? fun i => e4 i fun hm => hz _ hm rfl
  have h9 : c9 = s.heap[q] := by
    rw [hs] at e2
    exact e2
  have e5 : U.heap[q]? = some c9 := e1
  rw [e5, h9, Array.getElem?_eq_getElem hq]
/-- the words of a throw but the four that speak of the heap -/
def vx_no (w : Cond) : Bool := decide (w ≠ .isRef (.static Bundle.tN "UNASSIGNED_STACK" Bundle.steD)) && decide (w ≠ .isRef (.static Bundle.tN "SUPPRESSED_SENTINEL" Bundle.listD)) && decide (w ≠ .laysStatic Bundle.tN "UNASSIGNED_STACK" Bundle.steD) && decide (w ≠ .laysStatic Bundle.tN "SUPPRESSED_SENTINEL" Bundle.listD)
def vx_at0 (own : String) (ic : Nat) (X : String) (names : List String) : List Cond := (Bundle.ownAtoms0 own ic X names).filter vx_no
def vx_atS (own : String) (ic : Nat) (X : String) (names : List String) : List Cond := (Bundle.ownAtoms own ic X names).filter vx_no
/-- a word that the tables alone decide, or a good one -/
def vx_ot (w : Cond) : Bool := w.onTables || goodWord w
theorem vx_ot_at {args a' : Array Value} {s U : State} {w : Cond} (hW : s.WarmedH U.vm) (hvm : s.vm = U.vm) (hg : vx_ot w = true) (h : w.before args s = true) : w.before a' U = true := by
  simp only [vx_ot, Bool.or_eq_true] at hg
  rcases hg with hg | hg
  · exact va_tabs hg hvm h
  · exact word_at hW (good_of_word hg) h
/-- a list's words: the good ones out of the method's own list, the others by premises of their own -/
theorem vx_hat {args : Array Value} {s : State} {L B : List Cond} (h1 : ∀ w ∈ L.filter goodWord, w.before args s = true) (h2 : ∀ w ∈ L.filter (fun w => !goodWord w), w ∈ B) (h3 : ∀ w ∈ B, w.before args s = true) : ∀ w ∈ L, w.before args s = true := by
  intro w hw
  by_cases g : goodWord w = true
  · exact h1 w (List.mem_filter.mpr ⟨hw, g⟩)
  · refine h3 w (h2 w (List.mem_filter.mpr ⟨hw, ?_⟩))
    show (!goodWord w) = true
    cases hgw : goodWord w
    · rfl
    · exact absurd hgw g
theorem vx_c {args : Array Value} {s : State} {w : Cond} {B : List Cond} (h : w.before args s = true) (t : ∀ w ∈ B, w.before args s = true) : ∀ w' ∈ w :: B, w'.before args s = true := fun w' h' => (List.mem_cons.mp h').elim (fun e => by rw [e]; exact h) (t w')
theorem vx_n {args : Array Value} {s : State} : ∀ w ∈ ([] : List Cond), w.before args s = true := fun _ h => nomatch h
theorem vx_own {args : Array Value} {s : State} {L : List Cond} (h1 : ∀ w ∈ L.filter vx_no, w.before args s = true)
    (hU : (Cond.isRef (.static Bundle.tN "UNASSIGNED_STACK" Bundle.steD)).before args s = true) (hN : (Cond.isRef (.static Bundle.tN "SUPPRESSED_SENTINEL" Bundle.listD)).before args s = true)
    (lU : (Cond.laysStatic Bundle.tN "UNASSIGNED_STACK" Bundle.steD).before args s = true) (lN : (Cond.laysStatic Bundle.tN "SUPPRESSED_SENTINEL" Bundle.listD).before args s = true) : ∀ w ∈ L, w.before args s = true := by
  intro w hw
  by_cases e1 : w = .isRef (.static Bundle.tN "UNASSIGNED_STACK" Bundle.steD)
  · rw [e1]; exact hU
  · by_cases e2 : w = .isRef (.static Bundle.tN "SUPPRESSED_SENTINEL" Bundle.listD)
    · rw [e2]; exact hN
    · by_cases e3 : w = .laysStatic Bundle.tN "UNASSIGNED_STACK" Bundle.steD
      · rw [e3]; exact lU
      · by_cases e4 : w = .laysStatic Bundle.tN "SUPPRESSED_SENTINEL" Bundle.listD
        · rw [e4]; exact lN
        · exact h1 w (List.mem_filter.mpr ⟨hw, by unfold vx_no; rw [decide_eq_true e1, decide_eq_true e2, decide_eq_true e3, decide_eq_true e4]; rfl⟩)
/-- where a static field lies, its class's statics cell in H -/
def vx_L (C n d : String) (A : Nat → Prop) (U : State) (H : Heap) : Prop := ∃ (c : ClassId) (k : Class) (i : Nat) (f : Field) (a : Nat) (cell : Cell), U.vm.findClass C = some c ∧ U.fieldFound? C n d = some (c, k, i, f) ∧ f.isStatic = true ∧ k.statics = some a ∧ H[a]? = some cell ∧ cell.vm.isStatics = true ∧ cell.cls = c ∧ f.slot < cell.slots.size ∧ k.staticTypes[f.slot]? = some f.type ∧ ¬ A a
theorem vx_L.moved {C n d : String} {A : Nat → Prop} {u U : State} {H : Heap} (hvm : u.vm.Alike U.vm) (h : vx_L C n d A u H) : vx_L C n d A U H := by
  obtain ⟨c, k, i, f, a, cell, h1, h2, h3, h4, h5, h6, h7, h8, h9, h10⟩ := h
  obtain ⟨k', hi', he⟩ := State.fieldFound?_setVm hvm h2
  exact ⟨c, k', i, f, a, cell, by rw [hvm.findClass]; exact h1, hi', h3, by rw [he]; exact h4, h5, h6, h7, h8, by rw [he]; exact h9, h10⟩
theorem vx_L.kept {C n d : String} {A : Nat → Prop} {U : State} {H H1 : Heap} (h : vx_L C n d A U H) (hq : ∀ a : Nat, a < H.size → ¬ A a → H1[a]? = H[a]?) : vx_L C n d A U H1 := by
  obtain ⟨c, k, i, f, a, cell, h1, h2, h3, h4, h5, h6, h7, h8, h9, h10⟩ := h
  exact ⟨c, k, i, f, a, cell, h1, h2, h3, h4, by rw [hq a (Array.getElem?_eq_some_iff.mp h5).1 h10]; exact h5, h6, h7, h8, h9, h10⟩
theorem vx_L.narrow {C n d : String} {A B : Nat → Prop} {U : State} {H : Heap} (h : vx_L C n d A U H) (hAB : ∀ q, B q → A q) : vx_L C n d B U H := by
  obtain ⟨c, k, i, f, a, cell, h1, h2, h3, h4, h5, h6, h7, h8, h9, h10⟩ := h
  exact ⟨c, k, i, f, a, cell, h1, h2, h3, h4, h5, h6, h7, h8, h9, fun z => h10 (hAB _ z)⟩
theorem vx_L.word {C n d : String} {A : Nat → Prop} {s : State} {args : Array Value} (h : vx_L C n d A s s.heap) : (Cond.laysStatic C n d).before args s = true := by
  obtain ⟨c, k, i, f, a, cell, h1, h2, h3, h4, h5, h6, h7, h8, h9, -⟩ := h
  show (Cond.laysStatic C n d).holds args s none s [] = true
  exact Cond.laysStatic_of h1 h2 h3 h4 h5 h6 h7 h8 h9
/-- .. and what it holds: null or some reference -/
def vx_Zq (C n d : String) (A : Nat → Prop) (U : State) (H : Heap) : Prop := va_Zq C n d A U H ∧ vx_L C n d A U H
theorem vx_Zq.moved {C n d : String} {A : Nat → Prop} {u U : State} {H : Heap} (hvm : u.vm.Alike U.vm) (h : vx_Zq C n d A u H) : vx_Zq C n d A U H := ⟨va_Zq.moved hvm h.1, vx_L.moved hvm h.2⟩
theorem vx_Zq.kept {C n d : String} {A : Nat → Prop} {U : State} {H H1 : Heap} (h : vx_Zq C n d A U H) (hq : ∀ a : Nat, a < H.size → ¬ A a → H1[a]? = H[a]?) : vx_Zq C n d A U H1 := ⟨va_Zq.kept h.1 hq, vx_L.kept h.2 hq⟩
theorem vx_Zq.narrow {C n d : String} {A B : Nat → Prop} {U : State} {H : Heap} (h : vx_Zq C n d A U H) (hAB : ∀ q, B q → A q) : vx_Zq C n d B U H := ⟨va_Zq.narrow h.1 hAB, vx_L.narrow h.2 hAB⟩
theorem vx_Zqof {args : Array Value} {s : State} {C n d : String} {A : Nat → Prop} (hl : (Cond.laysStatic C n d).before args s = true) (hini : (Cond.initialized C).before args s = true) (h : (Cond.isRef (.static C n d)).before args s = true) (hA : ∀ a : Nat, a < s.heap.size → ¬ A a) : vx_Zq C n d A s s.heap := by
  refine ⟨va_Zqof hl hini h hA, ?_⟩
  obtain ⟨c, k, i, f, a, cell, h1, h2, h3, h4, h5, h6, h7, h8, h9⟩ := Cond.laysStatic_spec hl
  exact ⟨c, k, i, f, a, cell, h1, h2, h3, h4, h5, h6, h7, h8, h9, hA a (Array.getElem?_eq_some_iff.mp h5).1⟩
theorem vx_isRef {C n d : String} {v : Value} {A : Nat → Prop} {s : State} {args : Array Value} (h : va_Z C n d v A s s.heap) (hv : v.isRef = true) : (Cond.isRef (.static C n d)).before args s = true := by
  obtain ⟨cf, kf, fi, f, a, cell, h1, h2, h3, h4, h5, h6, h7, -⟩ := h
  have he : (Term.static C n d).eval args s none [] s = some v := by
    simp [Term.eval, State.fieldNamed?, h1, h2, h4, h5, h6, h7]
  simp only [Cond.before, Cond.holds, Cond.value, he]
  cases v <;> simp_all [Value.isRef]
theorem vx_isRefq {C n d : String} {A : Nat → Prop} {s : State} {args : Array Value} (h : va_Zq C n d A s s.heap) : (Cond.isRef (.static C n d)).before args s = true := by
  rcases h with h | ⟨t, h⟩
  · exact vx_isRef h rfl
  · exact vx_isRef h rfl
/-- the same frame, seen from here: as if the method were called anew in this heap -/
theorem vx_rebase {T : State} (X : Stand p l e R s m args below meth c T locs cells slots) {R' : Room} (hf : R'.frames ≤ R.frames) (hl : R'.locals ≤ R.locals) (hc : cells + R'.cells ≤ R.cells) (hs : slots + R'.slots ≤ R.slots) :
    Stand p l e R' ((T.setVm s.vm).setFrames (.invoking m args :: below)) m args below meth c T [] 0 0 := by
  have htop : (T.setVm s.vm).topJava?.isSome := X.here.top
  have hF : ((T.setVm s.vm).setFrames (.invoking m args :: below)).frames = .invoking m args :: below := State.frames_setFrames _ (State.cur_lt_of_top htop)
  obtain ⟨g₀, hg0⟩ := Option.isSome_iff_exists.mp htop
  obtain ⟨r, hr⟩ := State.topJava?_eq_some.mp hg0
  have hl9 : e.platform.stackLimits (T.setVm s.vm).me = e.platform.stackLimits s.me := X.limits
  have hb9 : (T.setVm s.vm).me.stackBytes = s.me.stackBytes := X.bytes
  refine ⟨X.admits, X.cas, X.clock, hF, ?_, X.hears, X.method, X.code, X.here, X.tail, X.warmed, ?_, ?_, ?_⟩
  · have h := X.room
    have hU : ((T.setVm s.vm).setFrames (.invoking m args :: below)).localsInUse = s.localsInUse := by
      rw [State.localsInUse_invoking hF (meth := meth) (c := c) X.method X.code, State.localsInUse_invoking X.frames X.method X.code]
    simp only [State.hasRoom, Bool.and_eq_true, decide_eq_true_eq] at h ⊢
    obtain ⟨⟨⟨⟨h1, h2, h3, h4, h5, h6⟩, h7⟩, h8⟩, h9⟩ := h
    rw [X.frames, List.length_cons] at h2 h3
    have q1 := X.heapSize
    have q2 := X.used
    simp only [hF, hU, List.length_cons, State.stackLimits_setFrames, State.stackBytes_setFrames, hl9, hb9]
    refine ⟨⟨⟨⟨by omega, by omega, by omega, by omega, by omega, h6⟩, ?_⟩, ?_⟩, X.book⟩
    · show T.heap.size + R'.cells ≤ e.platform.maxCells
      omega
    · show T.slotsUsed + R'.slots ≤ e.platform.maxSlots
      omega
  · rw [State.stackLimits_setFrames]; rfl
  · rw [State.stackBytes_setFrames]; rfl
  · refine ⟨?_, Nat.le_refl _, Nat.le_refl _, ?_, ?_, fun a c9 h9 => ⟨c9, h9, rfl, rfl, fun _ _ => rfl⟩⟩
    · obtain ⟨t, ht, -⟩ := State.frames_cons hr
      show T.setVm s.vm = { ((T.setVm s.vm).setFrames (.invoking m args :: below)).setFrames (T.setVm s.vm).frames with heap := T.heap, slotsUsed := T.slotsUsed }
      rw [State.setFrames_setFrames, State.setFrames_self ht]
      rfl
    · show T.slotsUsed = T.slotsUsed + ((T.heap.toList.drop T.heap.size).map (·.slots.size)).sum
      rw [List.drop_eq_nil_of_le (Nat.le_of_eq Array.length_toList)]
      rfl
    · show ((T.heap.toList.drop T.heap.size).map (·.slots.size)).sum ≤ 0
      rw [List.drop_eq_nil_of_le (Nat.le_of_eq Array.length_toList)]
      exact Nat.le_refl _
/-- 'throw new E()': new; dup; invokespecial; athrow -/
theorem vx_throw0 {cc : ByteArray} {pc : Nat} (hexec : p.tables.exec = Jvm.exec) (hb : c.code = cc) (hl : l.stackTraces = false) {own cls : String} {names : List String} {ik ic mc ms : Nat} {A : Nat → Prop}
    (hown : s.vm.findClass own = some m.cls) (hcls : Bundle.fit cls = true) (hnames : ∀ n ∈ names, Bundle.fit n = true)
    (hk : (Cond.classLink own ik cls).before args s = true) (hini : (Cond.initialized cls).before args s = true) (hat : ∀ w ∈ vx_at0 own ic cls names, w.before args s = true)
    (hgood : ∀ w ∈ Cond.classLink own ik cls :: Cond.initialized cls :: vx_at0 own ic cls names, vx_ot w = true)
    (hU : vx_Zq Bundle.tN "UNASSIGNED_STACK" Bundle.steD A s s.heap) (hN : vx_Zq Bundle.tN "SUPPRESSED_SENTINEL" Bundle.listD A s s.heap) (hS : va_S A s.heap H locs) (hsize : ls.size = c.maxLocals)
    (d0 : decode cc pc = .ok (.new ik, 3)) (d3 : decode cc (pc + 3) = .ok (.dup, 1)) (d4 : decode cc (pc + 4) = .ok (.invokespecial ic, 3)) (d7 : decode cc (pc + 7) = .ok (.athrow, 1))
    (hout : ∀ x ∈ c.exceptionTable.toList, covers x (pc + 7) = false)
    (hRframes : names.length + 3 < R.frames) (hRlocals : (rest.map fun v => v.category).sum + (13 * (names.length + 1) + 42) ≤ R.locals) (hRcells : cells + 1 ≤ R.cells) (hRslots : slots + 6 ≤ R.slots) (hlocks : meth.locks = false)
    (hx : ∀ t : State, s.vm.Alike t.vm → H.size ≤ t.heap.size → (∀ q : Nat, q < H.size → t.heap[q]? = H[q]?) → XC cls s t)
    (hf : ∀ z ∈ locs, free z.base) (hc : cells + 1 ≤ mc) (hs : slots + 6 ≤ ms) :
    W p l e R s m args below meth c H locs cells slots (vx_MQ below Qc XC args s mc ms free) (F0 m pc ls rest) := by
  intro T hT X
  have htr : e.platform.stackTraces = false := (show e.platform.stackTraces = l.stackTraces by rw [X.admits.platform]).trans hl
  have Y := vx_rebase X (R' := { frames := R.frames, locals := R.locals, cells := 1, slots := 6 }) (Nat.le_refl _) (Nat.le_refl _) hRcells hRslots
  obtain ⟨s', hA⟩ : ∃ z, z = (T.setVm s.vm).setFrames (.invoking m args :: below) := ⟨_, rfl⟩
  rw [← hA] at Y
  have hvm : s'.vm = s.vm := by rw [hA]; rfl
  have hhp : s'.heap = H := by rw [hA]; exact hT
  have hW0 : s.WarmedH s'.vm := by rw [hvm]; exact State.WarmedH.refl s
  have hat' : ∀ w ∈ vx_at0 own ic cls names, w.before args s' = true := fun w hw => vx_ot_at hW0 hvm.symm (hgood w (List.mem_cons_of_mem _ (List.mem_cons_of_mem _ hw))) (hat w hw)
  have hk' : (Cond.classLink own ik cls).before args s' = true := vx_ot_at hW0 hvm.symm (hgood _ List.mem_cons_self) hk
  have hini' : (Cond.initialized cls).before args s' = true := vx_ot_at hW0 hvm.symm (hgood _ (List.mem_cons_of_mem _ List.mem_cons_self)) hini
  have hU' : vx_Zq Bundle.tN "UNASSIGNED_STACK" Bundle.steD A s' s'.heap := by rw [hhp]; exact vx_Zq.moved hW0.alike (hU.kept hS.2.1)
  have hN' : vx_Zq Bundle.tN "SUPPRESSED_SENTINEL" Bundle.listD A s' s'.heap := by rw [hhp]; exact vx_Zq.moved hW0.alike (hN.kept hS.2.1)
  have h : ∀ w ∈ Bundle.ownAtoms0 own ic cls names, w.before args s' = true := vx_own hat' (vx_isRefq hU'.1) (vx_isRefq hN'.1) hU'.2.word hN'.2.word
  have hown' : s'.vm.findClass own = some m.cls := by rw [hvm]; exact hown
  have hins : (Cond.instantiable cls 6).before args s' = true := h _ (by simp [Bundle.ownAtoms0])
  obtain ⟨vm₁, cX, kX, hfX, hkX, -, -, X₁, st1⟩ := Y.newCold hexec (own := own) (C := cls) (index := ik) (n := 6) hown' hk' hins hini'
    (g := F0 m pc ls rest) rfl (by rw [hb]; exact d0) (Nat.le_refl _) (Nat.le_refl _)
  generalize hT1 : (T.setVm vm₁).pushCell { cls := cX, slots := kX.instanceTypes.map defaultValue, vm := .none } = T1 at X₁ st1
  have hcat : (Value.ref T.heap.size).category = 1 := rfl
  have hcellA : T1.heap[T.heap.size]? = some (freshCell cX kX) := by rw [← hT1]; exact State.heap_pushCell_size _ _
  have d3' : decode c.code (pc + 3) = .ok (.dup, 1) := by rw [hb]; exact d3
  obtain ⟨U, hsteps, hrun, hend, hW, hsame, ce, hce, hO⟩ := X₁.ctorThrow0 hexec htr (own := own) (cls := cls) (names := names) (ic := ic) hown' hcls hnames h (fun x hx => nomatch hx) hfX hkX hcellA (by rw [hhp, hT]; exact Nat.le_refl _)
    (g := { method := m, pc := pc + 4, locals := ls, stack := .ref T.heap.size :: .ref T.heap.size :: rest, locked := none }) rfl hsize rfl rfl (rest := rest) rfl
    (by rw [hb]; exact d4) (by rw [hb]; exact d7) hout hRframes (by simp only [List.map_cons, List.sum_cons, hcat]; omega) hlocks
  obtain ⟨f1, f2⟩ := vx_frame hsame
  rw [hhp] at f1 f2
  have hWs : s.WarmedH U.vm := State.WarmedH.trans hW0 hW
  have hcl : s.vm.findClass cls = some ce.cls := by
    have h9 := hO.cls
    rw [hvm] at h9
    exact h9
  have hall : s.sameButNew ({ U with vm := s.vm } : State) locs mc ms := by
    subst hA
    obtain ⟨e1, e2⟩ := hsame
    rw [State.setFrames_setFrames] at e1
    have h2 : (T.setVm s.vm).sameButNew ({ U with vm := s.vm } : State) [] (0 + 1) (0 + 6) := ⟨e1, e2⟩
    have h3 := X.same.trans h2
    rw [List.append_nil] at h3
    exact h3.mono hc hs
  refine ⟨U, ?_, .threw T.heap.size, hrun, hend, Or.inr ⟨T.heap.size, rfl, cls, ce, locs, hx U hWs.alike f1 (fun q hq => f2 q hq (fun z hz => nomatch hz)), hce, hO.vm, hcl, hWs, hall, hf⟩⟩
  refine st1 _ ?_
  show Steps p.tables e below (T1.setTop { method := m, pc := pc + 3, locals := ls, stack := .ref T.heap.size :: rest, locked := none }) _
  jvm_step X₁.here [X₁.here.top, hexec, d3', Value.category]
  exact hsteps
/-- 'throw new E("text")': new; dup; ldc; invokespecial; athrow -/
theorem vx_throwS {cc : ByteArray} {pc : Nat} (hexec : p.tables.exec = Jvm.exec) (hb : c.code = cc) (hl : l.stackTraces = false) {own cls text : String} {names : List String} {ik is ic mc ms sa : Nat} {A : Nat → Prop}
    (hown : s.vm.findClass own = some m.cls) (hcls : Bundle.fit cls = true) (hnames : ∀ n ∈ names, Bundle.fit n = true)
    (hk : (Cond.classLink own ik cls).before args s = true) (hini : (Cond.initialized cls).before args s = true) (hstr : vk_R own is text sa s) (hat : ∀ w ∈ vx_atS own ic cls names, w.before args s = true)
    (hgood : ∀ w ∈ Cond.classLink own ik cls :: Cond.initialized cls :: vx_atS own ic cls names, vx_ot w = true)
    (hU : vx_Zq Bundle.tN "UNASSIGNED_STACK" Bundle.steD A s s.heap) (hN : vx_Zq Bundle.tN "SUPPRESSED_SENTINEL" Bundle.listD A s s.heap) (hS : va_S A s.heap H locs) (hsize : ls.size = c.maxLocals)
    (d0 : decode cc pc = .ok (.new ik, 3)) (d3 : decode cc (pc + 3) = .ok (.dup, 1)) (d4 : decode cc (pc + 4) = .ok (.ldc is, 2)) (d6 : decode cc (pc + 6) = .ok (.invokespecial ic, 3)) (d9 : decode cc (pc + 9) = .ok (.athrow, 1))
    (hout : ∀ x ∈ c.exceptionTable.toList, covers x (pc + 9) = false)
    (hRframes : names.length + 3 < R.frames) (hRlocals : (rest.map fun v => v.category).sum + (13 * (names.length + 1) + 43) ≤ R.locals) (hRcells : cells + 1 ≤ R.cells) (hRslots : slots + 6 ≤ R.slots) (hlocks : meth.locks = false)
    (hx : ∀ t : State, s.vm.Alike t.vm → H.size ≤ t.heap.size → (∀ q : Nat, q < H.size → t.heap[q]? = H[q]?) → XC cls s t)
    (hf : ∀ z ∈ locs, free z.base) (hc : cells + 1 ≤ mc) (hs : slots + 6 ≤ ms) :
    W p l e R s m args below meth c H locs cells slots (vx_MQ below Qc XC args s mc ms free) (F0 m pc ls rest) := by
  intro T hT X
  have htr : e.platform.stackTraces = false := (show e.platform.stackTraces = l.stackTraces by rw [X.admits.platform]).trans hl
  have Y := vx_rebase X (R' := { frames := R.frames, locals := R.locals, cells := 1, slots := 6 }) (Nat.le_refl _) (Nat.le_refl _) hRcells hRslots
  obtain ⟨s', hA⟩ : ∃ z, z = (T.setVm s.vm).setFrames (.invoking m args :: below) := ⟨_, rfl⟩
  rw [← hA] at Y
  have hvm : s'.vm = s.vm := by rw [hA]; rfl
  have hhp : s'.heap = H := by rw [hA]; exact hT
  have hW0 : s.WarmedH s'.vm := by rw [hvm]; exact State.WarmedH.refl s
  have hat' : ∀ w ∈ vx_atS own ic cls names, w.before args s' = true := fun w hw => vx_ot_at hW0 hvm.symm (hgood w (List.mem_cons_of_mem _ (List.mem_cons_of_mem _ hw))) (hat w hw)
  have hk' : (Cond.classLink own ik cls).before args s' = true := vx_ot_at hW0 hvm.symm (hgood _ List.mem_cons_self) hk
  have hini' : (Cond.initialized cls).before args s' = true := vx_ot_at hW0 hvm.symm (hgood _ (List.mem_cons_of_mem _ List.mem_cons_self)) hini
  have hU' : vx_Zq Bundle.tN "UNASSIGNED_STACK" Bundle.steD A s' s'.heap := by rw [hhp]; exact vx_Zq.moved hW0.alike (hU.kept hS.2.1)
  have hN' : vx_Zq Bundle.tN "SUPPRESSED_SENTINEL" Bundle.listD A s' s'.heap := by rw [hhp]; exact vx_Zq.moved hW0.alike (hN.kept hS.2.1)
  have h : ∀ w ∈ Bundle.ownAtoms own ic cls names, w.before args s' = true := vx_own hat' (vx_isRefq hU'.1) (vx_isRefq hN'.1) hU'.2.word hN'.2.word
  have hown' : s'.vm.findClass own = some m.cls := by rw [hvm]; exact hown
  have hins : (Cond.instantiable cls 6).before args s' = true := h _ (by simp [Bundle.ownAtoms])
  obtain ⟨vm₁, cX, kX, hfX, hkX, -, -, X₁, st1⟩ := Y.newCold hexec (own := own) (C := cls) (index := ik) (n := 6) hown' hk' hins hini'
    (g := F0 m pc ls rest) rfl (by rw [hb]; exact d0) (Nat.le_refl _) (Nat.le_refl _)
  generalize hT1 : (T.setVm vm₁).pushCell { cls := cX, slots := kX.instanceTypes.map defaultValue, vm := .none } = T1 at X₁ st1
  have hcat : (Value.ref T.heap.size).category = 1 := rfl
  have hcellA : T1.heap[T.heap.size]? = some (freshCell cX kX) := by rw [← hT1]; exact State.heap_pushCell_size _ _
  have d3' : decode c.code (pc + 3) = .ok (.dup, 1) := by rw [hb]; exact d3
  have d4' : decode c.code (pc + 4) = .ok (.ldc is, 2) := by rw [hb]; exact d4
  have hstr' : vk_R own is text sa s' := vk_R.warm hW0 hstr
  obtain ⟨U, hsteps, hrun, hend, hW, hsame, ce, hce, hO⟩ := X₁.ctorThrowS hexec htr (own := own) (cls := cls) (names := names) (ic := ic) hown' hcls hnames h (fun x hx => nomatch hx) hfX hkX hcellA (by rw [hhp, hT]; exact Nat.le_refl _) (msg := .ref sa) rfl
    (g := { method := m, pc := pc + 6, locals := ls, stack := .ref sa :: .ref T.heap.size :: .ref T.heap.size :: rest, locked := none }) rfl hsize rfl rfl (rest := rest) rfl
    (by rw [hb]; exact d6) (by rw [hb]; exact d9) hout hRframes (by simp only [List.map_cons, List.sum_cons, hcat]; omega) hlocks
  obtain ⟨f1, f2⟩ := vx_frame hsame
  rw [hhp] at f1 f2
  have hWs : s.WarmedH U.vm := State.WarmedH.trans hW0 hW
  have hcl : s.vm.findClass cls = some ce.cls := by
    have h9 := hO.cls
    rw [hvm] at h9
    exact h9
  have hall : s.sameButNew ({ U with vm := s.vm } : State) locs mc ms := by
    subst hA
    obtain ⟨e1, e2⟩ := hsame
    rw [State.setFrames_setFrames] at e1
    have h2 : (T.setVm s.vm).sameButNew ({ U with vm := s.vm } : State) [] (0 + 1) (0 + 6) := ⟨e1, e2⟩
    have h3 := X.same.trans h2
    rw [List.append_nil] at h3
    exact h3.mono hc hs
  refine ⟨U, ?_, .threw T.heap.size, hrun, hend, Or.inr ⟨T.heap.size, rfl, cls, ce, locs, hx U hWs.alike f1 (fun q hq => f2 q hq (fun z hz => nomatch hz)), hce, hO.vm, hcl, hWs, hall, hf⟩⟩
  refine st1 _ ?_
  show Steps p.tables e below (T1.setTop { method := m, pc := pc + 3, locals := ls, stack := .ref T.heap.size :: rest, locked := none }) _
  jvm_step X₁.here [X₁.here.top, hexec, d3', Value.category]
  exact X₁.ldcString hexec (own := own) (text := text) (index := is) (a := sa) hown' hstr'.1 hstr'.2
    (g := { method := m, pc := pc + 4, locals := ls, stack := .ref T.heap.size :: .ref T.heap.size :: rest, locked := none }) rfl d4' _ hsteps
/-- 'throw new E("text")', the text by a wide index -/
theorem vx_throwSW {cc : ByteArray} {pc : Nat} (hexec : p.tables.exec = Jvm.exec) (hb : c.code = cc) (hl : l.stackTraces = false) {own cls text : String} {names : List String} {ik is ic mc ms sa : Nat} {A : Nat → Prop}
    (hown : s.vm.findClass own = some m.cls) (hcls : Bundle.fit cls = true) (hnames : ∀ n ∈ names, Bundle.fit n = true)
    (hk : (Cond.classLink own ik cls).before args s = true) (hini : (Cond.initialized cls).before args s = true) (hstr : vk_R own is text sa s) (hat : ∀ w ∈ vx_atS own ic cls names, w.before args s = true)
    (hgood : ∀ w ∈ Cond.classLink own ik cls :: Cond.initialized cls :: vx_atS own ic cls names, vx_ot w = true)
    (hU : vx_Zq Bundle.tN "UNASSIGNED_STACK" Bundle.steD A s s.heap) (hN : vx_Zq Bundle.tN "SUPPRESSED_SENTINEL" Bundle.listD A s s.heap) (hS : va_S A s.heap H locs) (hsize : ls.size = c.maxLocals)
    (d0 : decode cc pc = .ok (.new ik, 3)) (d3 : decode cc (pc + 3) = .ok (.dup, 1)) (d4 : decode cc (pc + 4) = .ok (.ldc_w is, 3)) (d7 : decode cc (pc + 7) = .ok (.invokespecial ic, 3)) (d10 : decode cc (pc + 10) = .ok (.athrow, 1))
    (hout : ∀ x ∈ c.exceptionTable.toList, covers x (pc + 10) = false)
    (hRframes : names.length + 3 < R.frames) (hRlocals : (rest.map fun v => v.category).sum + (13 * (names.length + 1) + 43) ≤ R.locals) (hRcells : cells + 1 ≤ R.cells) (hRslots : slots + 6 ≤ R.slots) (hlocks : meth.locks = false)
    (hx : ∀ t : State, s.vm.Alike t.vm → H.size ≤ t.heap.size → (∀ q : Nat, q < H.size → t.heap[q]? = H[q]?) → XC cls s t)
    (hf : ∀ z ∈ locs, free z.base) (hc : cells + 1 ≤ mc) (hs : slots + 6 ≤ ms) :
    W p l e R s m args below meth c H locs cells slots (vx_MQ below Qc XC args s mc ms free) (F0 m pc ls rest) := by
  intro T hT X
  have htr : e.platform.stackTraces = false := (show e.platform.stackTraces = l.stackTraces by rw [X.admits.platform]).trans hl
  have Y := vx_rebase X (R' := { frames := R.frames, locals := R.locals, cells := 1, slots := 6 }) (Nat.le_refl _) (Nat.le_refl _) hRcells hRslots
  obtain ⟨s', hA⟩ : ∃ z, z = (T.setVm s.vm).setFrames (.invoking m args :: below) := ⟨_, rfl⟩
  rw [← hA] at Y
  have hvm : s'.vm = s.vm := by rw [hA]; rfl
  have hhp : s'.heap = H := by rw [hA]; exact hT
  have hW0 : s.WarmedH s'.vm := by rw [hvm]; exact State.WarmedH.refl s
  have hat' : ∀ w ∈ vx_atS own ic cls names, w.before args s' = true := fun w hw => vx_ot_at hW0 hvm.symm (hgood w (List.mem_cons_of_mem _ (List.mem_cons_of_mem _ hw))) (hat w hw)
  have hk' : (Cond.classLink own ik cls).before args s' = true := vx_ot_at hW0 hvm.symm (hgood _ List.mem_cons_self) hk
  have hini' : (Cond.initialized cls).before args s' = true := vx_ot_at hW0 hvm.symm (hgood _ (List.mem_cons_of_mem _ List.mem_cons_self)) hini
  have hU' : vx_Zq Bundle.tN "UNASSIGNED_STACK" Bundle.steD A s' s'.heap := by rw [hhp]; exact vx_Zq.moved hW0.alike (hU.kept hS.2.1)
  have hN' : vx_Zq Bundle.tN "SUPPRESSED_SENTINEL" Bundle.listD A s' s'.heap := by rw [hhp]; exact vx_Zq.moved hW0.alike (hN.kept hS.2.1)
  have h : ∀ w ∈ Bundle.ownAtoms own ic cls names, w.before args s' = true := vx_own hat' (vx_isRefq hU'.1) (vx_isRefq hN'.1) hU'.2.word hN'.2.word
  have hown' : s'.vm.findClass own = some m.cls := by rw [hvm]; exact hown
  have hins : (Cond.instantiable cls 6).before args s' = true := h _ (by simp [Bundle.ownAtoms])
  obtain ⟨vm₁, cX, kX, hfX, hkX, -, -, X₁, st1⟩ := Y.newCold hexec (own := own) (C := cls) (index := ik) (n := 6) hown' hk' hins hini'
    (g := F0 m pc ls rest) rfl (by rw [hb]; exact d0) (Nat.le_refl _) (Nat.le_refl _)
  generalize hT1 : (T.setVm vm₁).pushCell { cls := cX, slots := kX.instanceTypes.map defaultValue, vm := .none } = T1 at X₁ st1
  have hcat : (Value.ref T.heap.size).category = 1 := rfl
  have hcellA : T1.heap[T.heap.size]? = some (freshCell cX kX) := by rw [← hT1]; exact State.heap_pushCell_size _ _
  have d3' : decode c.code (pc + 3) = .ok (.dup, 1) := by rw [hb]; exact d3
  have d4' : decode c.code (pc + 4) = .ok (.ldc_w is, 3) := by rw [hb]; exact d4
  have hstr' : vk_R own is text sa s' := vk_R.warm hW0 hstr
  obtain ⟨U, hsteps, hrun, hend, hW, hsame, ce, hce, hO⟩ := X₁.ctorThrowS hexec htr (own := own) (cls := cls) (names := names) (ic := ic) hown' hcls hnames h (fun x hx => nomatch hx) hfX hkX hcellA (by rw [hhp, hT]; exact Nat.le_refl _) (msg := .ref sa) rfl
    (g := { method := m, pc := pc + 7, locals := ls, stack := .ref sa :: .ref T.heap.size :: .ref T.heap.size :: rest, locked := none }) rfl hsize rfl rfl (rest := rest) rfl
    (by rw [hb]; exact d7) (by rw [hb]; exact d10) hout hRframes (by simp only [List.map_cons, List.sum_cons, hcat]; omega) hlocks
  obtain ⟨f1, f2⟩ := vx_frame hsame
  rw [hhp] at f1 f2
  have hWs : s.WarmedH U.vm := State.WarmedH.trans hW0 hW
  have hcl : s.vm.findClass cls = some ce.cls := by
    have h9 := hO.cls
    rw [hvm] at h9
    exact h9
  have hall : s.sameButNew ({ U with vm := s.vm } : State) locs mc ms := by
    subst hA
    obtain ⟨e1, e2⟩ := hsame
    rw [State.setFrames_setFrames] at e1
    have h2 : (T.setVm s.vm).sameButNew ({ U with vm := s.vm } : State) [] (0 + 1) (0 + 6) := ⟨e1, e2⟩
    have h3 := X.same.trans h2
    rw [List.append_nil] at h3
    exact h3.mono hc hs
  refine ⟨U, ?_, .threw T.heap.size, hrun, hend, Or.inr ⟨T.heap.size, rfl, cls, ce, locs, hx U hWs.alike f1 (fun q hq => f2 q hq (fun z hz => nomatch hz)), hce, hO.vm, hcl, hWs, hall, hf⟩⟩
  refine st1 _ ?_
  show Steps p.tables e below (T1.setTop { method := m, pc := pc + 3, locals := ls, stack := .ref T.heap.size :: rest, locked := none }) _
  jvm_step X₁.here [X₁.here.top, hexec, d3', Value.category]
  exact X₁.ldcStringW hexec (own := own) (text := text) (index := is) (a := sa) hown' hstr'.1 hstr'.2
    (g := { method := m, pc := pc + 4, locals := ls, stack := .ref T.heap.size :: .ref T.heap.size :: rest, locked := none }) rfl d4' _ hsteps
end Ends
section Bodies
variable {l : Launch}
theorem vx_ofW {y : MethodName} {ws ws' : List Cond} {rm : Room} {Pc : Array Value → State → Prop} {Qc : Array Value → State → Outcome → State → Prop} {XC : String → State → State → Prop} {mc ms : Nat} {free : Addr → Prop} {cc : ByteArray} {maxL : Nat} {ret : Option FieldType}
    (hy : plainName y.cls = true) (hw : ws = Cond.code y cc maxL ret :: ws')
    (body : ∀ p e s m args below meth c s₁, BodyLoose p l y (headSpec ws rm) cc maxL ret e s m args below meth c s₁ → c.maxLocals = maxL → (∀ x ∈ c.exceptionTable.toList, False) → Pc args s →
      W p l e (headSpec ws rm).room s m args below meth c s.heap [] 0 0 (vx_MQ below Qc XC args s mc ms free) (entryFrame m args maxL)) : vx_Met l y ws rm Pc Qc XC mc ms free := by
  refine MetFree.of_bodyS (code := cc) (maxLocals := maxL) (ret := ret) hy ?_ ?_
  · intro args s m h hn
    obtain ⟨meth, c, h1, h2, h3, h4, h5, h6, -, -⟩ := Cond.code_spec hn (atoms_spec (ws := ws) h _ (by rw [hw]; exact List.mem_cons_self))
    exact ⟨meth, c, h1, h2, h3, h4, h5, h6⟩
  · intro p e s m args below meth c s₁ B hml hP _
    have hh0 : s₁.heap = s.heap := by rw [B.state]; rfl
    have ht : ∀ x ∈ c.exceptionTable.toList, False := by
      obtain ⟨meth9, c9, h1, h2, -, -, -, -, h7, -⟩ := Cond.code_spec B.named (atoms_spec (ws := ws) B.pre _ (by rw [hw]; exact List.mem_cons_self))
      cases Option.some.inj (h1.symm.trans B.method)
      cases Option.some.inj (h2.symm.trans (Stand.of_body B).code)
      intro x hx
      rw [Array.isEmpty_iff.mp h7] at hx
      cases hx
    obtain ⟨t, a1, o, b1, b2, b3⟩ := body p e s m args below meth c s₁ B hml ht hP s₁ hh0 (Stand.of_body B)
    exact ⟨t, o, a1, b1, b2, b3⟩
/-- the table of a body with handlers -/
theorem vx_table {p : Program} {x y : MethodName} {S : Spec} {cc bytes : ByteArray} {maxL maxL' : Nat} {ret ret' : Option FieldType} {e : Env} {s s₁ : State} {m : MethodId} {args : Array Value} {below : List Frame} {meth : Method} {c : Code} {hh : List (Nat × Nat × Nat × Nat)}
    (B : BodyLoose p l y S cc maxL ret e s m args below meth c s₁) (h : (Cond.codeWith y bytes maxL' ret' hh).before args s = true) : c.exceptionTable.toList = tableOf hh := by
  obtain ⟨m9, meth9, c9, hn9, h1, h2, -, -, h6, -⟩ := Cond.codeWith_spec h
  cases Option.some.inj (hn9.symm.trans B.named)
  cases Option.some.inj (h1.symm.trans B.method)
  cases Option.some.inj (h2.symm.trans (Stand.of_body B).code)
  rw [← h6, table_eq]
end Bodies
end VXA
/-! ===== END ===== -/
/-! ===== BEGIN a static call of a method with an exception table ===== -/
section VXS
variable {p : Program} {l : Launch} {e : Env} {R : Room} {s : State} {m : MethodId} {args : Array Value} {below : List Frame} {meth : Method} {c : Code} {T : State} {H : Heap} {locs : List Loc} {cells slots : Nat}
abbrev vx_CSW (R : Room) (s : State) (args : Array Value) (own : String) (index : Nat) (y : MethodName) (bytes : ByteArray) (maxL : Nat) (ret : Option FieldType) (hh : List (Nat × Nat × Nat × Nat)) (ws : List Cond) (rm : Room) (mc ms n : Nat) : Prop :=
  (rm.cells = mc ∧ rm.slots = ms ∧ rm.frames + 1 ≤ R.frames ∧ 8 + (maxL + 11) + rm.locals ≤ R.locals ∧ (∀ w ∈ ws, ∀ (a' : Array Value) (U : State), s.WarmedH U.vm → w.before a' U = true) ∧ Cond.codeWith y bytes maxL ret hh ∈ ws) ∧
  (Cond.codeWith y bytes maxL ret hh).before args s = true ∧ (Cond.initialized y.cls).before args s = true ∧ (y.cls ≠ "java/lang/invoke/MethodHandle" ∧ y.cls ≠ "java/lang/invoke/VarHandle") ∧
  (∀ sig, parseMethodDescriptor y.desc = some sig → n = sig.parameters.length) ∧ (Cond.methodLink own index y).before args s = true ∧ (Cond.static y).before args s = true
theorem vx_cwSW {own : String} {index maxL mc ms : Nat} {y : MethodName} {bytes : ByteArray} {ret : Option FieldType} {hh : List (Nat × Nat × Nat × Nat)} {Ts ws ws' : List Cond} {rm : Room} (n : Nat) (ht : ∀ w ∈ Ts, w.before args s = true) (hT : GoodIn Ts (va_wsS own index y ws)) (hw : ws = Cond.codeWith y bytes maxL ret hh :: ws') (hrc : rm.cells = mc) (hrs : rm.slots = ms)
    (hd : y.cls ≠ "java/lang/invoke/MethodHandle" ∧ y.cls ≠ "java/lang/invoke/VarHandle" ∧ (parseMethodDescriptor y.desc).map (fun d => d.parameters.length) = some n) (hR : rm.frames + 1 ≤ R.frames ∧ 8 + (maxL + 11) + rm.locals ≤ R.locals) :
    vx_CSW R s args own index y bytes maxL ret hh ws rm mc ms n := by
  have ok : ∀ w ∈ va_wsS own index y ws, w.before args s = true := fun w h => ht w (hT w h).1
  have hG : GoodIn Ts ws := fun w h => hT w (by unfold va_wsS; exact List.mem_append_right _ h)
  have hc : Cond.codeWith y bytes maxL ret hh ∈ ws := by rw [hw]; exact List.mem_cons_self
  refine ⟨⟨hrc, hrs, hR.1, hR.2, pay_in ht hG, hc⟩, ht _ (hG _ hc).1, ok _ (by simp [va_wsS]), ⟨hd.1, hd.2.1⟩, fun sig h => ?_, ok _ (by simp [va_wsS]), ok _ (by simp [va_wsS])⟩
  have h2 := hd.2.2
  rw [h] at h2
  exact (Option.some.inj h2).symm
theorem vx_callSW (X : Stand p l e R s m args below meth c T locs cells slots) (hexec : p.tables.exec = Jvm.exec) {own : String} {index : Nat} {y : MethodName} {bytes : ByteArray} {maxL : Nat} {ret : Option FieldType} {hh : List (Nat × Nat × Nat × Nat)}
    (hown : s.vm.findClass own = some m.cls) (hlink : (Cond.methodLink own index y).before args s = true) (hstat : (Cond.static y).before args s = true) (hinit : (Cond.initialized y.cls).before args s = true)
    (hcode : (Cond.codeWith y bytes maxL ret hh).before args s = true) (hy : y.cls ≠ "java/lang/invoke/MethodHandle" ∧ y.cls ≠ "java/lang/invoke/VarHandle")
    {W9 : Nat} {Pre : Pt → Array Value → Prop} {Post : Pt → Array Value → Option Value → Pt → Prop} (hK : Back l R p e below s args y 3 W9 Pre Post)
    {g : JFrame} (hg : g.method = m) (hsize : g.locals.size = c.maxLocals) {argsL rest : List Value} (hlen : ∀ sig, parseMethodDescriptor y.desc = some sig → argsL.length = sig.parameters.length)
    (hstack : g.stack = argsL.reverse ++ rest) (hW : 2 * g.monitorRoom + (rest.map fun v => v.category).sum ≤ W9) (hdg : decode c.code g.pc = .ok (.invokestatic index, 3))
    (hpre : ∀ vm₁, s.WarmedH vm₁ → Pre ⟨T.setVm vm₁, locs, cells, slots⟩ argsL.toArray) :
    ∃ (v : Option Value) (vm₁ : Vm) (B : Pt), s.WarmedH vm₁ ∧ Stand p l e R s m args below meth c B.U B.locs B.cells B.slots ∧ Post ⟨T.setVm vm₁, locs, cells, slots⟩ argsL.toArray v B ∧
      ∀ target, Steps p.tables e below (B.U.setTop { g with pc := g.pc + 3, stack := v.toList ++ rest }) target → Steps p.tables e below (T.setTop g) target := by
  obtain ⟨mk, methM, cM, hnamed, hmethM, -, -, -, -, -, -, hsigM⟩ := Cond.codeWith_spec hcode
  have hstatic : methM.isStatic = true := Cond.static_spec hnamed hmethM hstat
  obtain ⟨kP, hkP, -⟩ := className_of_methodNamed hnamed
  have hinitP : kP.init = .initialized := Cond.initialized_spec (findClass_of_methodNamed hnamed) hkP hinit
  obtain ⟨vm₁, X₁, hstep₁⟩ := X.invokestatic hexec hown hlink hnamed hmethM hstatic hkP hinitP hy (g := g) hg (argsL := argsL) (rest := rest) (hlen _ hsigM) hstack hdg
  obtain ⟨v, B, X', hpost, hsteps⟩ := hK m meth c ⟨T.setVm vm₁, locs, cells, slots⟩ { g with stack := rest } (.invokestatic index) mk argsL.toArray X₁ hg hsize hdg hW (X₁.named hnamed) (hpre vm₁ X₁.warmed)
  exact ⟨v, vm₁, B, X₁.warmed, X', hpost, fun target h => hstep₁ _ fun acts => by rw [doInvoke_state]; exact hsteps.trans h⟩
theorem vx_runSW {y : MethodName} {bytes cc : ByteArray} {maxL nL mc ms n index : Nat} {ret : Option FieldType} {hh : List (Nat × Nat × Nat × Nat)} {ws : List Cond} {rm : Room} {Pc : Array Value → State → Prop} {Qc : Array Value → State → Outcome → State → Prop} {free : Addr → Prop} {Ts : List Cond} {own : String} {As rest : List Value} {g : JFrame}
    (S : CallFix p m c cc nL s args Ts own) (hM : Met l y ws rm Pc Qc mc ms free) (cw : vx_CSW R s args own index y bytes maxL ret hh ws rm mc ms n) (hp : PreS s H Pc As)
    (hg : g.method = m) (hn : As.length = n) (hsize : g.locals.size = nL) (hstack : g.stack = As.reverse ++ rest) (hW : 2 * g.monitorRoom + (rest.map fun v => v.category).sum ≤ 8) (hdg : decode cc g.pc = .ok (.invokestatic index, 3)) (hf : cells + mc ≤ R.cells ∧ slots + ms ≤ R.slots) :
    va_Run p l e R s m args below meth c H locs cells slots mc ms g rest (Qc As.toArray) (free) := by
  obtain ⟨⟨hrc, hrs, hfr, hlo, hws, hcw⟩, hcode, hini, hy, hlen, hl, hstt⟩ := cw
  have hK : Back l R p e below s args y 3 8 (PreOf R mc ms Pc) (PostOf Qc mc ms free) := va_backW (hh := hh) (bytes := bytes) (maxL := maxL) (ret := ret) hM hp.1 hrc hrs hfr hlo hws hcw (fun a' U hW => word_at hW (Or.inl (by first | rfl | simp [Cond.onTables, Cond.keeps, Cond.steady])) hini)
  obtain ⟨hx, hb, hml, ho, -⟩ := S
  intro T hT X
  obtain ⟨v, vm₁, ⟨U', l2, c2, s2⟩, hW₁, X', ⟨g', mk, t, L, e1, e2, hq, h1, hL, h2, h3⟩, st⟩ := vx_callSW X hx (hh := hh) (bytes := bytes) (maxL := maxL) (ret := ret) ho hl hstt hini hcode hy hK hg (hsize.trans hml.symm) (argsL := As) (rest := rest) (fun sig h => hn.trans (hlen sig h)) hstack hW (by rw [hb]; exact hdg)
    (fun vm₁ hW₁ => ⟨hf.1, hf.2, hp.2 (T.setVm vm₁) hT hW₁⟩)
  dsimp only [Pt.U, Pt.locs, Pt.cells, Pt.slots] at X' e1 e2 h1 h2 h3 st
  subst h1; subst h2; subst h3
  exact ⟨v, (T.setVm vm₁).calling g' mk As.toArray, t, U', L, hT, X', hL, e1, e2, hq, st⟩
/-- not caught here, past rows that name other classes: it goes on to the caller -/
theorem vx_outP {p : Program} {l : Launch} {e : Env} {R : Room} {s : State} {m : MethodId} {args : Array Value} {below : List Frame} {meth : Method} {c : Code} {H : Heap} {locs : List Loc} {cells slots : Nat} {free : Addr → Prop} {ls : Array Slot} {rest : List Value} {Qc : Array Value → State → Outcome → State → Prop} {XC : String → State → State → Prop}
    {pc : Nat} {own E : String} {ce : Cell} {q : Addr} {mc ms : Nat} (hown : s.vm.findClass own = some m.cls) (hlocks : meth.locks = false)
    (hpass : ∀ z ∈ c.exceptionTable.toList, covers z pc = false ∨ (z.catchType ≠ 0 ∧ ∃ nm : String, (Cond.classLink own z.catchType nm).before args s = true ∧ va_Nc E nm s)) (hcell : H[q]? = some ce) (hv : ce.vm = .none) (hcl : s.vm.findClass E = some ce.cls)
    (hx : ∀ t : State, t.heap = H → s.vm.Alike t.vm → XC E s t) (hf : ∀ z ∈ locs, free z.base) (hc : cells ≤ mc) (hs : slots ≤ ms) :
    vx_W p l e R s m args below meth c H locs cells slots (vx_MQ below Qc XC args s mc ms free) (F0 m pc ls rest) q := by
  intro T hT X
  have hpl : e.platform.magicAccessors = ({} : Platform).magicAccessors := by rw [X.admits.platform]
  obtain ⟨vm', hW', X', st⟩ := X.outThrough hlocks q (g := F0 m pc ls rest) rfl rfl rfl (cell := ce) (by rw [hT]; exact hcell) (by rw [hv]; rfl)
    (by obtain ⟨k9, h9, -⟩ := Vm.findClass_spec hcl; exact ⟨k9, h9⟩) (fun z hz => by
      rcases hpass z hz with h | ⟨hz0, nm, hl1, hn1⟩
      · exact Or.inl h
      · obtain ⟨c6, hc6, hcl6⟩ := Cond.classLink_spec hown hl1 e.platform hpl
        obtain ⟨a8, b8, h1, h2, h3⟩ := hn1
        cases Option.some.inj (h1.symm.trans hcl)
        cases Option.some.inj (h2.symm.trans hc6)
        exact Or.inr ⟨hz0, _, hcl6, h3⟩)
  obtain ⟨g₀, hfr⟩ := X'.frames_eq
  have hcell9 : ((T.setVm vm').setFrames (.throwing q :: below)).heap[q]? = some ce := by
    show T.heap[q]? = some ce
    rw [hT]; exact hcell
  have hend : Ended ((T.setVm vm').setFrames (.throwing q :: below)) below (.threw q) := State.frames_setFrames _ (State.cur_lt_of_frames hfr)
  refine ⟨(T.setVm vm').setFrames (.throwing q :: below), ?_, .threw q, X'.here.running, hend, Or.inr ⟨q, rfl, E, ce, locs, hx _ hT (X'.ends _).1.alike, hcell9, hv, hcl, (X'.ends _).1, (X'.ends _).2.mono hc hs, hf⟩⟩
  rw [X.pushThrowing_eq]
  exact st
/-- a thing of a world lies in the heap -/
theorem vx_lt {D : va_G} {cl : List vw_C} {ws : va_W} {H1 : Heap} (h : va_P D cl ws H1) {k : Nat} {q : Nat × va_E} (hk : ws[k]? = some q) : q.1 < H1.size := (h k q hk).lt
end VXS
/-! ===== END ===== -/
/-! ===== BEGIN methods with a table of their own: called by a name, returning or throwing ===== -/
section VXH
/-! vx_backW, vx_callVX, vx_callSX, vx_callVW, vx_runVW, vx_runVX, vx_runSX, vx_ofWH follow the same proofs as their sisters above (Free/Laws.lean, Shelf42/LK1.lean); vx_outP calls Shelf42/NT130.lean (outThrough). -/
section
variable {l : Launch} {R : Room} {p : Program} {e : Env} {below : List Frame} {s : State} {sargs : Array Value} {y : MethodName} {len W9 : Nat}
theorem vx_backW {ws : List Cond} {rm : Room} {Pc : Array Value → State → Prop} {Qc : Array Value → State → Outcome → State → Prop} {XC : String → State → State → Prop} {mc ms : Nat} {free : Addr → Prop} {bytes : ByteArray} {maxL : Nat} {ret : Option FieldType} {hh : List (Nat × Nat × Nat × Nat)}
    (hM : vx_Met l y ws rm Pc Qc XC mc ms free) (hblind : FrameBlind Pc) (hrc : rm.cells = mc) (hrs : rm.slots = ms)
    (hframes : rm.frames + 1 ≤ R.frames) (hlocals : W9 + (maxL + 11) + rm.locals ≤ R.locals)
    (hws : ∀ w ∈ ws, ∀ a' U, s.WarmedH U.vm → w.before a' U = true) (hcode : Cond.codeWith y bytes maxL ret hh ∈ ws) (hinit : ∀ a' U, s.WarmedH U.vm → (Cond.initialized y.cls).before a' U = true) :
    vx_Back l R p e below s sargs y len W9 (PreOf R mc ms Pc) (PostOf Qc mc ms free) (vx_Post XC mc ms free) := by
  intro m meth c A g ig mk a X hg hsize hdg hW hn hp
  have h1 : (headSpec ws rm).pre.before a A.U = true := atoms_intro fun w hw => hws w hw _ _ X.warmed
  have h2 : (Cond.codeWith y bytes maxL ret hh).before a A.U = true := hws _ hcode _ _ X.warmed
  have h3 : (Cond.initialized y.cls).before a A.U = true := hinit _ _ X.warmed
  have h4 : A.cells + (headSpec ws rm).room.cells ≤ R.cells := by rw [show (headSpec ws rm).room.cells = mc from hrc]; exact hp.1
  have h5 : A.slots + (headSpec ws rm).room.slots ≤ R.slots := by rw [show (headSpec ws rm).room.slots = ms from hrs]; exact hp.2.1
  have hPc : Pc a (A.U.calling g mk a) := hblind _ _ _ _ hp.2.2
  obtain ⟨U, Ls, c0, s0⟩ := A
  dsimp only [Pt.U, Pt.locs, Pt.cells, Pt.slots] at h1 h2 h3 h4 h5 X hn hPc ⊢
  obtain ⟨m9, methY, cY, hn9, hmY, hcY, -, hlY, -⟩ := Cond.codeWith_spec h2
  cases Option.some.inj (hn9.symm.trans hn)
  obtain ⟨kY, hkY, -⟩ := className_of_methodNamed hn
  have hinitY : kY.init = .initialized := Cond.initialized_spec (findClass_of_methodNamed hn) hkY h3
  have h : At U g.method c below := by rw [hg]; exact X.here
  have hlocals9 : W9 + (maxL + 11) + (headSpec ws rm).room.locals ≤ R.locals := hlocals
  have happ : (headSpec ws rm).appliesLoose y e.platform (U.calling g mk a) = true :=
    Spec.appliesLoose_calling (g := g) h hdg hn hkY hinitY
      (X.room_calling (g := g) (R' := (headSpec ws rm).room) hsize hmY hcY hframes (by rw [hlY]; omega) h4 h5) h1
  obtain ⟨mid, hmid⟩ := h.above
  have hfr : (U.setTop g).frames = (.java g :: mid) ++ below := by rw [State.frames_setTop' g h.top, hmid]; rfl
  obtain ⟨o, s₂, hsteps, -, hend, hq⟩ := Steps.callFree hM p X.admits X.cas X.clock (acts := []) hfr happ hPc trivial
  have hq' : vx_Q Qc XC mc ms free a (U.calling g mk a) o s₂ := hq
  rw [State.frames_setTop' g h.top] at hend
  obtain ⟨g₀, hg0⟩ := Option.isSome_iff_exists.mp h.top
  obtain ⟨r, hr⟩ := State.topJava?_eq_some.mp hg0
  have hr' : (({ U with heap := s₂.heap, slotsUsed := s₂.slotsUsed } : State).setVm s₂.vm).frames = .java g₀ :: r := hr
  rcases hq' with ⟨hqc, L, hfe, hL⟩ | ⟨q, rfl, E, ce, L, hx, hce, hcv, hcl, hW₂, hsm, hL⟩
  · obtain ⟨⟨v, rfl⟩, hW₂, e2, q2, q3, q4, q5, q6⟩ := id hfe
    have e3 : s₂ = ({ (U.calling g mk a).setFrames s₂.frames with heap := s₂.heap, slotsUsed := s₂.slotsUsed } : State).setVm s₂.vm := by
      have : s₂ = ({ s₂ with vm := (U.calling g mk a).vm } : State).setVm s₂.vm := rfl
      rw [e2] at this
      exact this
    obtain ⟨c₂, i₂, len₂, hc₂, hd₂, hf₂⟩ := hend
    have hW' : U.WarmedH s₂.vm := hW₂
    have hcc : c₂ = c := by
      have h1 : s₂.code? g.method = U.code? g.method := by
        rw [State.code?_eq, State.code?_eq, hW'.alike.method?]
      exact Option.some.inj (hc₂.symm.trans (h1.trans h.code))
    subst hcc
    have hlen : len₂ = len := by rw [hdg] at hd₂; cases hd₂; rfl
    subst hlen
    have hs₂ : s₂ = (({ U with heap := s₂.heap, slotsUsed := s₂.slotsUsed } : State).setVm s₂.vm).setTop { g with pc := g.pc + len₂, stack := v.toList ++ g.stack } := by
      refine e3.trans ?_
      rw [hf₂, State.calling_eq h.top, State.setFrames_setFrames, State.setTop_of_frames _ hr', hr]
      rfl
    have hsame : U.sameButNew ({ U with heap := s₂.heap, slotsUsed := s₂.slotsUsed } : State) L mc ms := by
      refine ⟨?_, q2, q3, q4, q5, q6⟩
      obtain ⟨t, ht, -⟩ := State.frames_cons hr
      show ({ U with heap := s₂.heap, slotsUsed := s₂.slotsUsed } : State) = { U.setFrames U.frames with heap := s₂.heap, slotsUsed := s₂.slotsUsed }
      rw [State.setFrames_self ht]
    subst hg
    refine Or.inl ⟨v, ⟨(({ U with heap := s₂.heap, slotsUsed := s₂.slotsUsed } : State).setVm s₂.vm), Ls ++ L, c0 + mc, s0 + ms⟩,
      ⟨X.admits, X.cas, X.clock, X.frames, X.room, X.hears, X.method, X.code, (X.here.setHeapUsed s₂.heap s₂.slotsUsed).setVm hW'.alike, X.tail, State.WarmedH.trans X.warmed hW', X.limits, X.bytes, X.same.trans (hsame.setVm s.vm)⟩,
      ⟨g, mk, s₂, L, rfl, rfl, hqc, rfl, hL, rfl, rfl⟩, ?_⟩
    show Steps p.tables e below _ ((({ U with heap := s₂.heap, slotsUsed := s₂.slotsUsed } : State).setVm s₂.vm).setTop { g with pc := g.pc + len₂, stack := v.toList ++ g.stack })
    rw [← hs₂]
    exact hsteps
  · obtain ⟨e2, q2, q3, q4, q5, q6⟩ := id hsm
    have e3 : s₂ = ({ (U.calling g mk a).setFrames s₂.frames with heap := s₂.heap, slotsUsed := s₂.slotsUsed } : State).setVm s₂.vm := by
      have : s₂ = ({ s₂ with vm := (U.calling g mk a).vm } : State).setVm s₂.vm := rfl
      rw [e2] at this
      exact this
    have hf₂ : s₂.frames = .throwing q :: .java g :: U.frames.tail := hend
    have hW' : U.WarmedH s₂.vm := hW₂
    have hs₂ : s₂ = ((({ U with heap := s₂.heap, slotsUsed := s₂.slotsUsed } : State).setVm s₂.vm).setTop g).pushFrame (.throwing q) := by
      refine e3.trans ?_
      rw [hf₂, State.calling_eq h.top, State.setFrames_setFrames, State.pushFrame, State.frames_setTop _ hr', State.setTop_of_frames _ hr', State.setFrames_setFrames, hr]
      rfl
    have hsame : U.sameButNew ({ U with heap := s₂.heap, slotsUsed := s₂.slotsUsed } : State) L mc ms := by
      refine ⟨?_, q2, q3, q4, q5, q6⟩
      obtain ⟨t, ht, -⟩ := State.frames_cons hr
      show ({ U with heap := s₂.heap, slotsUsed := s₂.slotsUsed } : State) = { U.setFrames U.frames with heap := s₂.heap, slotsUsed := s₂.slotsUsed }
      rw [State.setFrames_self ht]
    subst hg
    refine Or.inr ⟨q, ⟨(({ U with heap := s₂.heap, slotsUsed := s₂.slotsUsed } : State).setVm s₂.vm), Ls ++ L, c0 + mc, s0 + ms⟩,
      ⟨X.admits, X.cas, X.clock, X.frames, X.room, X.hears, X.method, X.code, (X.here.setHeapUsed s₂.heap s₂.slotsUsed).setVm hW'.alike, X.tail, State.WarmedH.trans X.warmed hW', X.limits, X.bytes, X.same.trans (hsame.setVm s.vm)⟩,
      ⟨g, mk, s₂, L, E, ce, rfl, rfl, hx, hce, hcv, hcl, rfl, hL, rfl, rfl⟩, ?_⟩
    show Steps p.tables e below _ (((({ U with heap := s₂.heap, slotsUsed := s₂.slotsUsed } : State).setVm s₂.vm).setTop g).pushFrame (.throwing q))
    rw [← hs₂]
    exact hsteps
end
variable {p : Program} {l : Launch} {e : Env} {R : Room} {s : State} {m : MethodId} {args : Array Value} {below : List Frame} {meth : Method} {c : Code} {T : State} {H : Heap} {locs : List Loc} {cells slots : Nat}
theorem vx_callVX (X : Stand p l e R s m args below meth c T locs cells slots) (hexec : p.tables.exec = Jvm.exec) {own C : String} {index : Nat} {y : MethodName} {bytes : ByteArray} {maxL : Nat} {ret : Option FieldType} {hh : List (Nat × Nat × Nat × Nat)}
    (hown : s.vm.findClass own = some m.cls) (hlink : (Cond.methodLink own index y).before args s = true) (hinst : (Cond.instanceMethod y).before args s = true) (hsel : (Cond.selects C y y).before args s = true)
    (hcode : (Cond.codeWith y bytes maxL ret hh).before args s = true) (hy : y.cls ≠ "java/lang/invoke/MethodHandle" ∧ y.cls ≠ "java/lang/invoke/VarHandle")
    {W9 : Nat} {Pre : Pt → Array Value → Prop} {Post : Pt → Array Value → Option Value → Pt → Prop} {PostX : Pt → Array Value → Addr → Pt → Prop} (hK : vx_Back l R p e below s args y 3 W9 Pre Post PostX)
    {b : Addr} {cellB : Cell} (hcell : T.heap[b]? = some cellB) (hobj : cellB.vm.isStatics = false) (hcls : s.vm.findClass C = some cellB.cls)
    {g : JFrame} (hg : g.method = m) (hsize : g.locals.size = c.maxLocals) {argsL rest : List Value} (hlen : ∀ sig, parseMethodDescriptor y.desc = some sig → argsL.length = sig.parameters.length)
    (hstack : g.stack = argsL.reverse ++ .ref b :: rest) (hW : 2 * g.monitorRoom + (rest.map fun v => v.category).sum ≤ W9) (hdg : decode c.code g.pc = .ok (.invokevirtual index, 3))
    (hpre : ∀ vm₁, s.WarmedH vm₁ → Pre ⟨T.setVm vm₁, locs, cells, slots⟩ (Value.ref b :: argsL).toArray) :
    (∃ (v : Option Value) (vm₁ : Vm) (B : Pt), s.WarmedH vm₁ ∧ Stand p l e R s m args below meth c B.U B.locs B.cells B.slots ∧ Post ⟨T.setVm vm₁, locs, cells, slots⟩ (Value.ref b :: argsL).toArray v B ∧
      ∀ target, Steps p.tables e below (B.U.setTop { g with pc := g.pc + 3, stack := v.toList ++ rest }) target → Steps p.tables e below (T.setTop g) target) ∨
    (∃ (q : Addr) (vm₁ : Vm) (B : Pt), s.WarmedH vm₁ ∧ Stand p l e R s m args below meth c B.U B.locs B.cells B.slots ∧ PostX ⟨T.setVm vm₁, locs, cells, slots⟩ (Value.ref b :: argsL).toArray q B ∧
      Steps p.tables e below (T.setTop g) ((B.U.setTop { g with stack := rest }).pushFrame (.throwing q))) := by
  obtain ⟨mk, methM, hnamed, hmethM, hstM, habM⟩ := Cond.instanceMethod_spec hinst
  obtain ⟨m8, methM', cM, hn8, hmethM', -, -, -, -, -, -, hsigM⟩ := Cond.codeWith_spec hcode
  cases Option.some.inj (hn8.symm.trans hnamed)
  cases hmethM.symm.trans hmethM'
  obtain ⟨c2, r2, m2, q1, q2, q3, q4, kP, hkP, hkPi⟩ := Cond.selects_spec hsel
  cases hcls.symm.trans q1
  cases (State.methodFound?_of_named hnamed hy).symm.trans q2
  cases hnamed.symm.trans q3
  have hselP : selectMethod e.platform s.vm cellB.cls mk = .method mk := by rw [Launch.admits_selectMethod X.admits]; exact q4
  obtain ⟨vm₁, X₁, hstep₁⟩ := X.invokevirtual hexec hown hlink hnamed hmethM hstM hkP hkPi hy (a := b) (cell := cellB) hcell
    (fun z h => by rw [h] at hobj; cases hobj) hselP hmethM habM hkP hkPi (g := g) hg (argsL := argsL) (rest := rest) (hlen _ hsigM) hstack hdg
  rcases hK m meth c ⟨T.setVm vm₁, locs, cells, slots⟩ { g with stack := rest } (.invokevirtual index) mk (Value.ref b :: argsL).toArray X₁ hg hsize hdg hW (X₁.named hnamed) (hpre vm₁ X₁.warmed) with ⟨v, B, X', hpost, hsteps⟩ | ⟨q, B, X', hpost, hsteps⟩
  · exact Or.inl ⟨v, vm₁, B, X₁.warmed, X', hpost, fun target h => hstep₁ _ fun acts => by rw [doInvoke_state]; exact hsteps.trans h⟩
  · exact Or.inr ⟨q, vm₁, B, X₁.warmed, X', hpost, hstep₁ _ fun acts => by rw [doInvoke_state]; exact hsteps⟩
theorem vx_callSX (X : Stand p l e R s m args below meth c T locs cells slots) (hexec : p.tables.exec = Jvm.exec) {own : String} {index : Nat} {y : MethodName} {bytes : ByteArray} {maxL : Nat} {ret : Option FieldType} {hh : List (Nat × Nat × Nat × Nat)}
    (hown : s.vm.findClass own = some m.cls) (hlink : (Cond.methodLink own index y).before args s = true) (hstat : (Cond.static y).before args s = true) (hinit : (Cond.initialized y.cls).before args s = true)
    (hcode : (Cond.codeWith y bytes maxL ret hh).before args s = true) (hy : y.cls ≠ "java/lang/invoke/MethodHandle" ∧ y.cls ≠ "java/lang/invoke/VarHandle")
    {W9 : Nat} {Pre : Pt → Array Value → Prop} {Post : Pt → Array Value → Option Value → Pt → Prop} {PostX : Pt → Array Value → Addr → Pt → Prop} (hK : vx_Back l R p e below s args y 3 W9 Pre Post PostX)
    {g : JFrame} (hg : g.method = m) (hsize : g.locals.size = c.maxLocals) {argsL rest : List Value} (hlen : ∀ sig, parseMethodDescriptor y.desc = some sig → argsL.length = sig.parameters.length)
    (hstack : g.stack = argsL.reverse ++ rest) (hW : 2 * g.monitorRoom + (rest.map fun v => v.category).sum ≤ W9) (hdg : decode c.code g.pc = .ok (.invokestatic index, 3))
    (hpre : ∀ vm₁, s.WarmedH vm₁ → Pre ⟨T.setVm vm₁, locs, cells, slots⟩ argsL.toArray) :
    (∃ (v : Option Value) (vm₁ : Vm) (B : Pt), s.WarmedH vm₁ ∧ Stand p l e R s m args below meth c B.U B.locs B.cells B.slots ∧ Post ⟨T.setVm vm₁, locs, cells, slots⟩ argsL.toArray v B ∧
      ∀ target, Steps p.tables e below (B.U.setTop { g with pc := g.pc + 3, stack := v.toList ++ rest }) target → Steps p.tables e below (T.setTop g) target) ∨
    (∃ (q : Addr) (vm₁ : Vm) (B : Pt), s.WarmedH vm₁ ∧ Stand p l e R s m args below meth c B.U B.locs B.cells B.slots ∧ PostX ⟨T.setVm vm₁, locs, cells, slots⟩ argsL.toArray q B ∧
      Steps p.tables e below (T.setTop g) ((B.U.setTop { g with stack := rest }).pushFrame (.throwing q))) := by
  obtain ⟨mk, methM, cM, hnamed, hmethM, -, -, -, -, -, -, hsigM⟩ := Cond.codeWith_spec hcode
  have hstatic : methM.isStatic = true := Cond.static_spec hnamed hmethM hstat
  obtain ⟨kP, hkP, -⟩ := className_of_methodNamed hnamed
  have hinitP : kP.init = .initialized := Cond.initialized_spec (findClass_of_methodNamed hnamed) hkP hinit
  obtain ⟨vm₁, X₁, hstep₁⟩ := X.invokestatic hexec hown hlink hnamed hmethM hstatic hkP hinitP hy (g := g) hg (argsL := argsL) (rest := rest) (hlen _ hsigM) hstack hdg
  rcases hK m meth c ⟨T.setVm vm₁, locs, cells, slots⟩ { g with stack := rest } (.invokestatic index) mk argsL.toArray X₁ hg hsize hdg hW (X₁.named hnamed) (hpre vm₁ X₁.warmed) with ⟨v, B, X', hpost, hsteps⟩ | ⟨q, B, X', hpost, hsteps⟩
  · exact Or.inl ⟨v, vm₁, B, X₁.warmed, X', hpost, fun target h => hstep₁ _ fun acts => by rw [doInvoke_state]; exact hsteps.trans h⟩
  · exact Or.inr ⟨q, vm₁, B, X₁.warmed, X', hpost, hstep₁ _ fun acts => by rw [doInvoke_state]; exact hsteps⟩
theorem vx_callVW (X : Stand p l e R s m args below meth c T locs cells slots) (hexec : p.tables.exec = Jvm.exec) {own C : String} {index : Nat} {y : MethodName} {bytes : ByteArray} {maxL : Nat} {ret : Option FieldType} {hh : List (Nat × Nat × Nat × Nat)}
    (hown : s.vm.findClass own = some m.cls) (hlink : (Cond.methodLink own index y).before args s = true) (hinst : (Cond.instanceMethod y).before args s = true) (hsel : (Cond.selects C y y).before args s = true)
    (hcode : (Cond.codeWith y bytes maxL ret hh).before args s = true) (hy : y.cls ≠ "java/lang/invoke/MethodHandle" ∧ y.cls ≠ "java/lang/invoke/VarHandle")
    {W9 : Nat} {Pre : Pt → Array Value → Prop} {Post : Pt → Array Value → Option Value → Pt → Prop} (hK : Back l R p e below s args y 3 W9 Pre Post)
    {b : Addr} {cellB : Cell} (hcell : T.heap[b]? = some cellB) (hobj : cellB.vm.isStatics = false) (hcls : s.vm.findClass C = some cellB.cls)
    {g : JFrame} (hg : g.method = m) (hsize : g.locals.size = c.maxLocals) {argsL rest : List Value} (hlen : ∀ sig, parseMethodDescriptor y.desc = some sig → argsL.length = sig.parameters.length)
    (hstack : g.stack = argsL.reverse ++ .ref b :: rest) (hW : 2 * g.monitorRoom + (rest.map fun v => v.category).sum ≤ W9) (hdg : decode c.code g.pc = .ok (.invokevirtual index, 3))
    (hpre : ∀ vm₁, s.WarmedH vm₁ → Pre ⟨T.setVm vm₁, locs, cells, slots⟩ (Value.ref b :: argsL).toArray) :
    ∃ (v : Option Value) (vm₁ : Vm) (B : Pt), s.WarmedH vm₁ ∧ Stand p l e R s m args below meth c B.U B.locs B.cells B.slots ∧ Post ⟨T.setVm vm₁, locs, cells, slots⟩ (Value.ref b :: argsL).toArray v B ∧
      ∀ target, Steps p.tables e below (B.U.setTop { g with pc := g.pc + 3, stack := v.toList ++ rest }) target → Steps p.tables e below (T.setTop g) target := by
  obtain ⟨mk, methM, hnamed, hmethM, hstM, habM⟩ := Cond.instanceMethod_spec hinst
  obtain ⟨m8, methM', cM, hn8, hmethM', -, -, -, -, -, -, hsigM⟩ := Cond.codeWith_spec hcode
  cases Option.some.inj (hn8.symm.trans hnamed)
  cases hmethM.symm.trans hmethM'
  obtain ⟨c2, r2, m2, q1, q2, q3, q4, kP, hkP, hkPi⟩ := Cond.selects_spec hsel
  cases hcls.symm.trans q1
  cases (State.methodFound?_of_named hnamed hy).symm.trans q2
  cases hnamed.symm.trans q3
  have hselP : selectMethod e.platform s.vm cellB.cls mk = .method mk := by rw [Launch.admits_selectMethod X.admits]; exact q4
  obtain ⟨vm₁, X₁, hstep₁⟩ := X.invokevirtual hexec hown hlink hnamed hmethM hstM hkP hkPi hy (a := b) (cell := cellB) hcell
    (fun z h => by rw [h] at hobj; cases hobj) hselP hmethM habM hkP hkPi (g := g) hg (argsL := argsL) (rest := rest) (hlen _ hsigM) hstack hdg
  obtain ⟨v, B, X', hpost, hsteps⟩ := hK m meth c ⟨T.setVm vm₁, locs, cells, slots⟩ { g with stack := rest } (.invokevirtual index) mk (Value.ref b :: argsL).toArray X₁ hg hsize hdg hW (X₁.named hnamed) (hpre vm₁ X₁.warmed)
  exact ⟨v, vm₁, B, X₁.warmed, X', hpost, fun target h => hstep₁ _ fun acts => by rw [doInvoke_state]; exact hsteps.trans h⟩
abbrev vx_CVW (R : Room) (s : State) (args : Array Value) (own C : String) (index : Nat) (y : MethodName) (bytes : ByteArray) (maxL : Nat) (ret : Option FieldType) (hh : List (Nat × Nat × Nat × Nat)) (ws : List Cond) (rm : Room) (mc ms n : Nat) : Prop :=
  (rm.cells = mc ∧ rm.slots = ms ∧ rm.frames + 1 ≤ R.frames ∧ 8 + (maxL + 11) + rm.locals ≤ R.locals ∧ (∀ w ∈ ws, ∀ (a' : Array Value) (U : State), s.WarmedH U.vm → w.before a' U = true) ∧ Cond.codeWith y bytes maxL ret hh ∈ ws) ∧
  (Cond.codeWith y bytes maxL ret hh).before args s = true ∧ (Cond.initialized y.cls).before args s = true ∧ (y.cls ≠ "java/lang/invoke/MethodHandle" ∧ y.cls ≠ "java/lang/invoke/VarHandle") ∧
  (∀ sig, parseMethodDescriptor y.desc = some sig → n = sig.parameters.length) ∧ (Cond.methodLink own index y).before args s = true ∧ (Cond.instanceMethod y).before args s = true ∧ (Cond.selects C y y).before args s = true
theorem vx_cwVW {own C : String} {index maxL mc ms : Nat} {y : MethodName} {bytes : ByteArray} {ret : Option FieldType} {hh : List (Nat × Nat × Nat × Nat)} {Ts ws ws' : List Cond} {rm : Room} (n : Nat) (ht : ∀ w ∈ Ts, w.before args s = true) (hT : GoodIn Ts (wsV own index C y ws)) (hw : ws = Cond.codeWith y bytes maxL ret hh :: ws') (hrc : rm.cells = mc) (hrs : rm.slots = ms)
    (hd : y.cls = C ∧ y.cls ≠ "java/lang/invoke/MethodHandle" ∧ y.cls ≠ "java/lang/invoke/VarHandle" ∧ (parseMethodDescriptor y.desc).map (fun d => d.parameters.length) = some n) (hR : rm.frames + 1 ≤ R.frames ∧ 8 + (maxL + 11) + rm.locals ≤ R.locals) :
    vx_CVW R s args own C index y bytes maxL ret hh ws rm mc ms n := by
  obtain ⟨hC, hd⟩ := hd
  subst hC
  have ok : ∀ w ∈ wsV own index y.cls y ws, w.before args s = true := fun w h => ht w (hT w h).1
  have hG : GoodIn Ts ws := fun w h => hT w (by unfold wsV; exact List.mem_append_right _ h)
  have hc : Cond.codeWith y bytes maxL ret hh ∈ ws := by rw [hw]; exact List.mem_cons_self
  refine ⟨⟨hrc, hrs, hR.1, hR.2, pay_in ht hG, hc⟩, ht _ (hG _ hc).1, ok _ (by simp [wsV]), ⟨hd.1, hd.2.1⟩, fun sig h => ?_, ok _ (by simp [wsV]), ok _ (by simp [wsV]), ok _ (by simp [wsV])⟩
  have h2 := hd.2.2
  rw [h] at h2
  exact (Option.some.inj h2).symm
theorem vx_runVW {y : MethodName} {bytes cc : ByteArray} {maxL nL mc ms n index : Nat} {ret : Option FieldType} {hh : List (Nat × Nat × Nat × Nat)} {ws : List Cond} {rm : Room} {Pc : Array Value → State → Prop} {Qc : Array Value → State → Outcome → State → Prop} {free : Addr → Prop} {Ts : List Cond} {own C : String} {b : Addr} {As rest : List Value} {g : JFrame}
    (S : CallFix p m c cc nL s args Ts own) (hM : Met l y ws rm Pc Qc mc ms free) (cw : vx_CVW R s args own C index y bytes maxL ret hh ws rm mc ms n) (hp : PreV s H C b Pc As)
    (hg : g.method = m) (hn : As.length = n) (hsize : g.locals.size = nL) (hstack : g.stack = As.reverse ++ .ref b :: rest) (hW : 2 * g.monitorRoom + (rest.map fun v => v.category).sum ≤ 8) (hdg : decode cc g.pc = .ok (.invokevirtual index, 3)) (hf : cells + mc ≤ R.cells ∧ slots + ms ≤ R.slots) :
    va_Run p l e R s m args below meth c H locs cells slots mc ms g rest (Qc (Value.ref b :: As).toArray) free := by
  obtain ⟨⟨hrc, hrs, hfr, hlo, hws, hcw⟩, hcode, hini, hy, hlen, hl, hin, hse⟩ := cw
  have hK : Back l R p e below s args y 3 8 (PreOf R mc ms Pc) (PostOf Qc mc ms free) := va_backW (hh := hh) (bytes := bytes) (maxL := maxL) (ret := ret) hM hp.1 hrc hrs hfr hlo hws hcw (fun a' U hW => word_at hW (Or.inl (by first | rfl | simp [Cond.onTables, Cond.keeps, Cond.steady])) hini)
  obtain ⟨hx, hb, hml, ho, -⟩ := S
  obtain ⟨-, ⟨cellB, hcB, hoB, hclB⟩, hPc⟩ := hp
  intro T hT X
  obtain ⟨v, vm₁, ⟨U', l2, c2, s2⟩, hW₁, X', ⟨g', mk, t, L, e1, e2, hq, h1, hL, h2, h3⟩, st⟩ := vx_callVW X hx (C := C) (hh := hh) (bytes := bytes) (maxL := maxL) (ret := ret) ho hl hin hse hcode hy hK (by rw [hT]; exact hcB) hoB hclB hg (hsize.trans hml.symm) (argsL := As) (rest := rest) (fun sig h => hn.trans (hlen sig h)) hstack hW (by rw [hb]; exact hdg)
    (fun vm₁ hW₁ => ⟨hf.1, hf.2, hPc (T.setVm vm₁) hT hW₁⟩)
  dsimp only [Pt.U, Pt.locs, Pt.cells, Pt.slots] at X' e1 e2 h1 h2 h3 st
  subst h1; subst h2; subst h3
  exact ⟨v, (T.setVm vm₁).calling g' mk (Value.ref b :: As).toArray, t, U', L, hT, X', hL, e1, e2, hq, st⟩
section
variable {y : MethodName} {bytes cc : ByteArray} {maxL nL mc ms n index : Nat} {ret : Option FieldType} {ws : List Cond} {rm : Room} {Pc : Array Value → State → Prop} {Qc : Array Value → State → Outcome → State → Prop} {XC : String → State → State → Prop} {free : Addr → Prop} {Ts : List Cond} {own C : String} {b : Addr} {As rest : List Value} {g : JFrame}
theorem vx_runVX {hh : List (Nat × Nat × Nat × Nat)} (S : CallFix p m c cc nL s args Ts own) (hM : vx_Met l y ws rm Pc Qc XC mc ms free) (cw : vx_CVW R s args own C index y bytes maxL ret hh ws rm mc ms n) (hp : PreV s H C b Pc As)
    (hg : g.method = m) (hn : As.length = n) (hsize : g.locals.size = nL) (hstack : g.stack = As.reverse ++ .ref b :: rest) (hW : 2 * g.monitorRoom + (rest.map fun v => v.category).sum ≤ 8) (hdg : decode cc g.pc = .ok (.invokevirtual index, 3)) (hf : cells + mc ≤ R.cells ∧ slots + ms ≤ R.slots) :
    vx_Run p l e R s m args below meth c H locs cells slots mc ms g rest (Qc (Value.ref b :: As).toArray) XC free := by
  obtain ⟨⟨hrc, hrs, hfr, hlo, hws, hcw⟩, hcode, hini, hy, hlen, hl, hin, hse⟩ := cw
  have hK : vx_Back l R p e below s args y 3 8 (PreOf R mc ms Pc) (PostOf Qc mc ms free) (vx_Post XC mc ms free) := vx_backW (hh := hh) (bytes := bytes) (maxL := maxL) (ret := ret) hM hp.1 hrc hrs hfr hlo hws hcw (fun a' U hW => word_at hW (Or.inl (by first | rfl | simp [Cond.onTables, Cond.keeps, Cond.steady])) hini)
  obtain ⟨hx, hb, hml, ho, -⟩ := S
  obtain ⟨-, ⟨cellB, hcB, hoB, hclB⟩, hPc⟩ := hp
  intro T hT X
  rcases vx_callVX X hx (C := C) (hh := hh) (bytes := bytes) (maxL := maxL) (ret := ret) ho hl hin hse hcode hy hK (by rw [hT]; exact hcB) hoB hclB hg (hsize.trans hml.symm) (argsL := As) (rest := rest) (fun sig h => hn.trans (hlen sig h)) hstack hW (by rw [hb]; exact hdg)
    (fun vm₁ hW₁ => ⟨hf.1, hf.2, hPc (T.setVm vm₁) hT hW₁⟩) with ⟨v, vm₁, ⟨U', l2, c2, s2⟩, hW₁, X', ⟨g', mk, t, L, e1, e2, hq, h1, hL, h2, h3⟩, st⟩ | ⟨q, vm₁, ⟨U', l2, c2, s2⟩, hW₁, X', ⟨g', mk, t, L, E, ce, e1, e2, hq, hce, hcv, hcl, h1, hL, h2, h3⟩, st⟩
  · dsimp only [Pt.U, Pt.locs, Pt.cells, Pt.slots] at X' e1 e2 h1 h2 h3 st
    subst h1; subst h2; subst h3
    exact Or.inl ⟨v, (T.setVm vm₁).calling g' mk (Value.ref b :: As).toArray, t, U', L, hT, X', hL, e1, e2, hq, st⟩
  · dsimp only [Pt.U, Pt.locs, Pt.cells, Pt.slots] at X' e1 e2 h1 h2 h3 st hcl
    subst h1; subst h2; subst h3
    exact Or.inr ⟨q, (T.setVm vm₁).calling g' mk (Value.ref b :: As).toArray, t, U', L, E, ce, hT, X', hL, e1, e2, hq, hce, hcv, vx_cls hW₁ hcl, st⟩
theorem vx_runSX {hh : List (Nat × Nat × Nat × Nat)} (S : CallFix p m c cc nL s args Ts own) (hM : vx_Met l y ws rm Pc Qc XC mc ms free) (cw : vx_CSW R s args own index y bytes maxL ret hh ws rm mc ms n) (hp : PreS s H Pc As)
    (hg : g.method = m) (hn : As.length = n) (hsize : g.locals.size = nL) (hstack : g.stack = As.reverse ++ rest) (hW : 2 * g.monitorRoom + (rest.map fun v => v.category).sum ≤ 8) (hdg : decode cc g.pc = .ok (.invokestatic index, 3)) (hf : cells + mc ≤ R.cells ∧ slots + ms ≤ R.slots) :
    vx_Run p l e R s m args below meth c H locs cells slots mc ms g rest (Qc As.toArray) XC free := by
  obtain ⟨⟨hrc, hrs, hfr, hlo, hws, hcw⟩, hcode, hini, hy, hlen, hl, hstt⟩ := cw
  have hK : vx_Back l R p e below s args y 3 8 (PreOf R mc ms Pc) (PostOf Qc mc ms free) (vx_Post XC mc ms free) := vx_backW (hh := hh) (bytes := bytes) (maxL := maxL) (ret := ret) hM hp.1 hrc hrs hfr hlo hws hcw (fun a' U hW => word_at hW (Or.inl (by first | rfl | simp [Cond.onTables, Cond.keeps, Cond.steady])) hini)
  obtain ⟨hx, hb, hml, ho, -⟩ := S
  intro T hT X
  rcases vx_callSX X hx (hh := hh) (bytes := bytes) (maxL := maxL) (ret := ret) ho hl hstt hini hcode hy hK hg (hsize.trans hml.symm) (argsL := As) (rest := rest) (fun sig h => hn.trans (hlen sig h)) hstack hW (by rw [hb]; exact hdg)
    (fun vm₁ hW₁ => ⟨hf.1, hf.2, hp.2 (T.setVm vm₁) hT hW₁⟩) with ⟨v, vm₁, ⟨U', l2, c2, s2⟩, hW₁, X', ⟨g', mk, t, L, e1, e2, hq, h1, hL, h2, h3⟩, st⟩ | ⟨q, vm₁, ⟨U', l2, c2, s2⟩, hW₁, X', ⟨g', mk, t, L, E, ce, e1, e2, hq, hce, hcv, hcl, h1, hL, h2, h3⟩, st⟩
  · dsimp only [Pt.U, Pt.locs, Pt.cells, Pt.slots] at X' e1 e2 h1 h2 h3 st
    subst h1; subst h2; subst h3
    exact Or.inl ⟨v, (T.setVm vm₁).calling g' mk As.toArray, t, U', L, hT, X', hL, e1, e2, hq, st⟩
  · dsimp only [Pt.U, Pt.locs, Pt.cells, Pt.slots] at X' e1 e2 h1 h2 h3 st hcl
    subst h1; subst h2; subst h3
    exact Or.inr ⟨q, (T.setVm vm₁).calling g' mk As.toArray, t, U', L, E, ce, hT, X', hL, e1, e2, hq, hce, hcv, vx_cls hW₁ hcl, st⟩
end
end VXH
theorem vx_ofWH {l : Launch} {y : MethodName} {ws ws' : List Cond} {rm : Room} {Pc : Array Value → State → Prop} {Qc : Array Value → State → Outcome → State → Prop} {XC : String → State → State → Prop} {mc ms : Nat} {free : Addr → Prop} {cc : ByteArray} {maxL : Nat} {ret : Option FieldType} {hh : List (Nat × Nat × Nat × Nat)}
    (hy : plainName y.cls = true) (hw : ws = Cond.codeWith y cc maxL ret hh :: ws')
    (body : ∀ p e s m args below meth c s₁, BodyLoose p l y (headSpec ws rm) cc maxL ret e s m args below meth c s₁ → c.maxLocals = maxL → Pc args s →
      W p l e (headSpec ws rm).room s m args below meth c s.heap [] 0 0 (vx_MQ below Qc XC args s mc ms free) (entryFrame m args maxL)) : vx_Met l y ws rm Pc Qc XC mc ms free := by
  refine MetFree.of_bodyS (code := cc) (maxLocals := maxL) (ret := ret) hy ?_ ?_
  · intro args s m h hn
    obtain ⟨m9, meth, c, hn9, h1, h2, h3, h4, -, h5, h6, -⟩ := Cond.codeWith_spec (atoms_spec (ws := ws) h _ (by rw [hw]; exact List.mem_cons_self))
    cases hn.symm.trans hn9
    exact ⟨meth, c, h1, h2, h3, h4, h5, h6⟩
  · intro p e s m args below meth c s₁ B hml hP _
    have hh0 : s₁.heap = s.heap := by rw [B.state]; rfl
    obtain ⟨t, a1, o, b1, b2, b3⟩ := body p e s m args below meth c s₁ B hml hP s₁ hh0 (Stand.of_body B)
    exact ⟨t, o, a1, b1, b2, b3⟩
/-! ===== END ===== -/

/-! ===== BEGIN printed: names, fields, word lists, decode rows ===== -/
def RX0 : String := "LockLadder$Desk"
def TX0 : u_T := fun k => match k with
  | 0 => ("LockLadder$Desk", "state", "LLockLadder$State;", true)
  | 1 => ("LockLadder$Desk", "links", "LLockLadder$Links;", true)
  | 2 => ("LockLadder$Desk", "gone", "[I", true)
  | 3 => ("LockLadder$Desk", "due", "[I", true)
  | _ => ("LockLadder$Desk", "draws", "I", false)
def tyX0 : Nat → FieldType := fun k => match k with
  | 0 => .object "LockLadder$State"
  | 1 => .object "LockLadder$Links"
  | 2 => .array .int
  | 3 => .array .int
  | _ => .int
abbrev wsX00 : List Cond := u_ws RX0 TX0 5
theorem nmX0 : ∀ a, a < 5 → ∀ b, b < 5 → a ≠ b → (TX0 a).2.1 ≠ (TX0 b).2.1 := by decide +kernel
theorem tyX0_ok : ∀ k, k < 5 → parseFieldDescriptor (TX0 k).2.2.1 = some (tyX0 k) := by decide +kernel
abbrev cX0_init : ByteArray := prog_2_method_1_code
def yX0_init : MethodName := ⟨RX0, "<init>", "()V"⟩
abbrev cX0_draw : ByteArray := prog_2_method_2_code
def yX0_draw : MethodName := ⟨RX0, "draw", "(I)I"⟩
abbrev cX0_act : ByteArray := prog_2_method_3_code
def yX0_act : MethodName := ⟨RX0, "act", "(IIIILLockLadder$Rule;)I"⟩
abbrev cX0_start : ByteArray := prog_2_method_4_code
def yX0_start : MethodName := ⟨RX0, "start", "(I)I"⟩
abbrev cX0_labour : ByteArray := prog_2_method_5_code
def yX0_labour : MethodName := ⟨RX0, "labour", "(II)I"⟩
abbrev cX0_lock : ByteArray := prog_2_method_6_code
def yX0_lock : MethodName := ⟨RX0, "lock", "(III)I"⟩
abbrev cX0_unlock : ByteArray := prog_2_method_7_code
def yX0_unlock : MethodName := ⟨RX0, "unlock", "(II)I"⟩
abbrev cX0_finish : ByteArray := prog_2_method_8_code
def yX0_finish : MethodName := ⟨RX0, "finish", "(I)I"⟩
abbrev cX0_collect : ByteArray := prog_2_method_9_code
def yX0_collect : MethodName := ⟨RX0, "collect", "(II)I"⟩
abbrev cX0_setBulk : ByteArray := prog_2_method_10_code
def yX0_setBulk : MethodName := ⟨RX0, "setBulk", "(I)I"⟩
abbrev cX0_fellAll : ByteArray := prog_2_method_11_code
def yX0_fellAll : MethodName := ⟨RX0, "fellAll", "(LLockLadder$Rule;)I"⟩
abbrev cX0_cheapest : ByteArray := prog_2_method_12_code
def yX0_cheapest : MethodName := ⟨RX0, "cheapest", "(LLockLadder$Rule;)I"⟩
abbrev cX0_costOf : ByteArray := prog_2_method_13_code
def yX0_costOf : MethodName := ⟨RX0, "costOf", "(ILLockLadder$Rule;)I"⟩
abbrev cX0_leave : ByteArray := prog_2_method_14_code
def yX0_leave : MethodName := ⟨RX0, "leave", "(I)V"⟩
abbrev cX0_idle : ByteArray := prog_2_method_15_code
def yX0_idle : MethodName := ⟨RX0, "idle", "(I)I"⟩
abbrev cX0_release : ByteArray := prog_2_method_16_code
def yX0_release : MethodName := ⟨RX0, "release", "(II)V"⟩
abbrev cX0_takeDue : ByteArray := prog_2_method_17_code
def yX0_takeDue : MethodName := ⟨RX0, "takeDue", "(II)Z"⟩
abbrev cX0_serve : ByteArray := prog_2_method_18_code
def yX0_serve : MethodName := ⟨RX0, "serve", "(II)V"⟩
abbrev cX0_goOn : ByteArray := prog_2_method_19_code
def yX0_goOn : MethodName := ⟨RX0, "goOn", "(III)I"⟩
abbrev cX0_gatherAt : ByteArray := prog_2_method_20_code
def yX0_gatherAt : MethodName := ⟨RX0, "gatherAt", "(III)Z"⟩
def RX1 : String := "LockLadder$History"
def TX1 : u_T := fun k => match k with
  | 0 => ("LockLadder$History", "slots", "[LLockLadder$State;", true)
  | 1 => ("LockLadder$History", "first", "I", false)
  | _ => ("LockLadder$History", "size", "I", false)
def tyX1 : Nat → FieldType := fun k => match k with
  | 0 => .array (.object "LockLadder$State")
  | 1 => .int
  | _ => .int
abbrev wsX10 : List Cond := u_ws RX1 TX1 3
theorem nmX1 : ∀ a, a < 3 → ∀ b, b < 3 → a ≠ b → (TX1 a).2.1 ≠ (TX1 b).2.1 := by decide +kernel
theorem tyX1_ok : ∀ k, k < 3 → parseFieldDescriptor (TX1 k).2.2.1 = some (tyX1 k) := by decide +kernel
abbrev cX1_init : ByteArray := prog_3_method_1_code
def yX1_init : MethodName := ⟨RX1, "<init>", "()V"⟩
abbrev cX1_mark : ByteArray := prog_3_method_2_code
def yX1_mark : MethodName := ⟨RX1, "mark", "(LLockLadder$State;)V"⟩
abbrev cX1_commit : ByteArray := prog_3_method_3_code
def yX1_commit : MethodName := ⟨RX1, "commit", "()V"⟩
abbrev cX1_back : ByteArray := prog_3_method_4_code
def yX1_back : MethodName := ⟨RX1, "back", "(LLockLadder$State;)V"⟩
def RX2 : String := "LockLadder$Links"
def TX2 : u_T := fun k => match k with
  | 0 => ("LockLadder$Links", "next", "[I", true)
  | 1 => ("LockLadder$Links", "reach", "[I", true)
  | 2 => ("LockLadder$Links", "away", "[I", true)
  | _ => ("LockLadder$Links", "path", "[I", true)
def tyX2 : Nat → FieldType := fun k => match k with
  | 0 => .array .int
  | 1 => .array .int
  | 2 => .array .int
  | _ => .array .int
abbrev wsX20 : List Cond := u_ws RX2 TX2 4
theorem nmX2 : ∀ a, a < 4 → ∀ b, b < 4 → a ≠ b → (TX2 a).2.1 ≠ (TX2 b).2.1 := by decide +kernel
theorem tyX2_ok : ∀ k, k < 4 → parseFieldDescriptor (TX2 k).2.2.1 = some (tyX2 k) := by decide +kernel
abbrev cX2_init : ByteArray := prog_4_method_1_code
def yX2_init : MethodName := ⟨RX2, "<init>", "()V"⟩
abbrev cX2_read : ByteArray := prog_4_method_2_code
def yX2_read : MethodName := ⟨RX2, "read", "(LLockLadder$State;)V"⟩
abbrev cX2_waiters : ByteArray := prog_4_method_3_code
def yX2_waiters : MethodName := ⟨RX2, "waiters", "(I)I"⟩
abbrev cX2_reachers : ByteArray := prog_4_method_4_code
def yX2_reachers : MethodName := ⟨RX2, "reachers", "(I)I"⟩
abbrev cX2_inRings : ByteArray := prog_4_method_5_code
def yX2_inRings : MethodName := ⟨RX2, "inRings", "()I"⟩
abbrev cX2_shortest : ByteArray := prog_4_method_6_code
def yX2_shortest : MethodName := ⟨RX2, "shortest", "(I)I"⟩
abbrev cX2_measure : ByteArray := prog_4_method_7_code
def yX2_measure : MethodName := ⟨RX2, "measure", "(I)V"⟩
abbrev cX2_nearer : ByteArray := prog_4_method_8_code
def yX2_nearer : MethodName := ⟨RX2, "nearer", "(II)I"⟩
def RX3 : String := "LockLadder$Row"
def TX3 : u_T := fun k => match k with
  | 0 => ("LockLadder$Row", "numbers", "[J", true)
  | _ => ("LockLadder$Row", "size", "I", false)
def tyX3 : Nat → FieldType := fun k => match k with
  | 0 => .array .long
  | _ => .int
abbrev wsX30 : List Cond := u_ws RX3 TX3 2
theorem nmX3 : ∀ a, a < 2 → ∀ b, b < 2 → a ≠ b → (TX3 a).2.1 ≠ (TX3 b).2.1 := by decide +kernel
theorem tyX3_ok : ∀ k, k < 2 → parseFieldDescriptor (TX3 k).2.2.1 = some (tyX3 k) := by decide +kernel
abbrev cX3_init : ByteArray := prog_5_method_1_code
def yX3_init : MethodName := ⟨RX3, "<init>", "()V"⟩
abbrev cX3_add : ByteArray := prog_5_method_2_code
def yX3_add : MethodName := ⟨RX3, "add", "(J)V"⟩
abbrev cX3_one : ByteArray := prog_5_method_3_code
def yX3_one : MethodName := ⟨RX3, "one", "(J)V"⟩
abbrev cX3_two : ByteArray := prog_5_method_4_code
def yX3_two : MethodName := ⟨RX3, "two", "(JJ)V"⟩
abbrev cX3_list : ByteArray := prog_5_method_5_code
def yX3_list : MethodName := ⟨RX3, "list", "([II)V"⟩
def RX4 : String := "LockLadder$Rule"
def TX4 : u_T := fun k => match k with
  | 0 => ("LockLadder$Rule", "code", "[I", true)
  | 1 => ("LockLadder$Rule", "pending", "[I", true)
  | 2 => ("LockLadder$Rule", "values", "[I", true)
  | 3 => ("LockLadder$Rule", "size", "I", false)
  | 4 => ("LockLadder$Rule", "pendings", "I", false)
  | 5 => ("LockLadder$Rule", "depth", "I", false)
  | 6 => ("LockLadder$Rule", "digits", "I", false)
  | 7 => ("LockLadder$Rule", "compared", "I", false)
  | _ => ("LockLadder$Rule", "behindThing", "Z", false)
def tyX4 : Nat → FieldType := fun k => match k with
  | 0 => .array .int
  | 1 => .array .int
  | 2 => .array .int
  | 3 => .int
  | 4 => .int
  | 5 => .int
  | 6 => .int
  | 7 => .int
  | _ => .boolean
abbrev wsX40 : List Cond := u_ws RX4 TX4 9
theorem nmX4 : ∀ a, a < 9 → ∀ b, b < 9 → a ≠ b → (TX4 a).2.1 ≠ (TX4 b).2.1 := by decide +kernel
theorem tyX4_ok : ∀ k, k < 9 → parseFieldDescriptor (TX4 k).2.2.1 = some (tyX4 k) := by decide +kernel
abbrev cX4_init : ByteArray := prog_6_method_1_code
def yX4_init : MethodName := ⟨RX4, "<init>", "()V"⟩
abbrev cX4_copy : ByteArray := prog_6_method_2_code
def yX4_copy : MethodName := ⟨RX4, "copy", "(LLockLadder$Rule;)V"⟩
abbrev cX4_read : ByteArray := prog_6_method_3_code
def yX4_read : MethodName := ⟨RX4, "read", "(LLockLadder$Text;)I"⟩
abbrev cX4_takeThing : ByteArray := prog_6_method_4_code
def yX4_takeThing : MethodName := ⟨RX4, "takeThing", "(I)Z"⟩
abbrev cX4_takeBehind : ByteArray := prog_6_method_5_code
def yX4_takeBehind : MethodName := ⟨RX4, "takeBehind", "(I)Z"⟩
abbrev cX4_takeDigit : ByteArray := prog_6_method_6_code
def yX4_takeDigit : MethodName := ⟨RX4, "takeDigit", "(I)Z"⟩
abbrev cX4_close : ByteArray := prog_6_method_7_code
def yX4_close : MethodName := ⟨RX4, "close", "()Z"⟩
abbrev cX4_settle : ByteArray := prog_6_method_8_code
def yX4_settle : MethodName := ⟨RX4, "settle", "(I)V"⟩
abbrev cX4_postpone : ByteArray := prog_6_method_9_code
def yX4_postpone : MethodName := ⟨RX4, "postpone", "(I)V"⟩
abbrev cX4_put : ByteArray := prog_6_method_10_code
def yX4_put : MethodName := ⟨RX4, "put", "(I)V"⟩
abbrev cX4_cost : ByteArray := prog_6_method_11_code
def yX4_cost : MethodName := ⟨RX4, "cost", "(LLockLadder$State;II)I"⟩
abbrev cX4_valueOf : ByteArray := prog_6_method_12_code
def yX4_valueOf : MethodName := ⟨RX4, "valueOf", "(ILLockLadder$State;II)I"⟩
abbrev cX4_reckon : ByteArray := prog_6_method_13_code
def yX4_reckon : MethodName := ⟨RX4, "reckon", "(III)I"⟩
abbrev cX4_rankOf : ByteArray := prog_6_method_14_code
def yX4_rankOf : MethodName := ⟨RX4, "rankOf", "(I)I"⟩
abbrev cX4_isLetter : ByteArray := prog_6_method_15_code
def yX4_isLetter : MethodName := ⟨RX4, "isLetter", "(I)Z"⟩
def RX5 : String := "LockLadder$State"
def TX5 : u_T := fun k => match k with
  | 0 => ("LockLadder$State", "held", "[I", true)
  | 1 => ("LockLadder$State", "stand", "[I", true)
  | 2 => ("LockLadder$State", "age", "[I", true)
  | 3 => ("LockLadder$State", "work", "[I", true)
  | 4 => ("LockLadder$State", "falls", "[I", true)
  | 5 => ("LockLadder$State", "at", "[I", true)
  | 6 => ("LockLadder$State", "want", "[I", true)
  | 7 => ("LockLadder$State", "turn", "[I", true)
  | 8 => ("LockLadder$State", "goal", "[I", true)
  | 9 => ("LockLadder$State", "mode", "[I", true)
  | 10 => ("LockLadder$State", "turns", "I", false)
  | 11 => ("LockLadder$State", "began", "I", false)
  | _ => ("LockLadder$State", "gatherFrom", "I", false)
def tyX5 : Nat → FieldType := fun k => match k with
  | 0 => .array .int
  | 1 => .array .int
  | 2 => .array .int
  | 3 => .array .int
  | 4 => .array .int
  | 5 => .array .int
  | 6 => .array .int
  | 7 => .array .int
  | 8 => .array .int
  | 9 => .array .int
  | 10 => .int
  | 11 => .int
  | _ => .int
abbrev wsX50 : List Cond := u_ws RX5 TX5 13
theorem nmX5 : ∀ a, a < 13 → ∀ b, b < 13 → a ≠ b → (TX5 a).2.1 ≠ (TX5 b).2.1 := by decide +kernel
theorem tyX5_ok : ∀ k, k < 13 → parseFieldDescriptor (TX5 k).2.2.1 = some (tyX5 k) := by decide +kernel
abbrev cX5_init : ByteArray := prog_7_method_1_code
def yX5_init : MethodName := ⟨RX5, "<init>", "()V"⟩
abbrev cX5_copy : ByteArray := prog_7_method_2_code
def yX5_copy : MethodName := ⟨RX5, "copy", "(LLockLadder$State;)V"⟩
abbrev cX5_modeAt : ByteArray := prog_7_method_3_code
def yX5_modeAt : MethodName := ⟨RX5, "modeAt", "(II)I"⟩
abbrev cX5_setMode : ByteArray := prog_7_method_4_code
def yX5_setMode : MethodName := ⟨RX5, "setMode", "(III)V"⟩
abbrev cX5_standing : ByteArray := prog_7_method_5_code
def yX5_standing : MethodName := ⟨RX5, "standing", "(I)I"⟩
abbrev cX5_firstRunning : ByteArray := prog_7_method_6_code
def yX5_firstRunning : MethodName := ⟨RX5, "firstRunning", "()I"⟩
abbrev cX5_holdings : ByteArray := prog_7_method_7_code
def yX5_holdings : MethodName := ⟨RX5, "holdings", "(II)I"⟩
abbrev cX5_allHoldings : ByteArray := prog_7_method_8_code
def yX5_allHoldings : MethodName := ⟨RX5, "allHoldings", "()I"⟩
abbrev cX5_allFalls : ByteArray := prog_7_method_9_code
def yX5_allFalls : MethodName := ⟨RX5, "allFalls", "()I"⟩
abbrev cX5_heldSum : ByteArray := prog_7_method_10_code
def yX5_heldSum : MethodName := ⟨RX5, "heldSum", "()I"⟩
abbrev cX5_holdingsBelow : ByteArray := prog_7_method_11_code
def yX5_holdingsBelow : MethodName := ⟨RX5, "holdingsBelow", "(II)I"⟩
abbrev cX5_gatherMode : ByteArray := prog_7_method_12_code
def yX5_gatherMode : MethodName := ⟨RX5, "gatherMode", "(II)I"⟩
abbrev cX5_firstAbove : ByteArray := prog_7_method_13_code
def yX5_firstAbove : MethodName := ⟨RX5, "firstAbove", "(III)I"⟩
abbrev cX5_isCovered : ByteArray := prog_7_method_14_code
def yX5_isCovered : MethodName := ⟨RX5, "isCovered", "(III)Z"⟩
abbrev cX5_fits : ByteArray := prog_7_method_15_code
def yX5_fits : MethodName := ⟨RX5, "fits", "(III)Z"⟩
abbrev cX5_isOpen : ByteArray := prog_7_method_16_code
def yX5_isOpen : MethodName := ⟨RX5, "isOpen", "(III)Z"⟩
abbrev cX5_stopLevel : ByteArray := prog_7_method_17_code
def yX5_stopLevel : MethodName := ⟨RX5, "stopLevel", "(III)I"⟩
abbrev cX5_newSteps : ByteArray := prog_7_method_18_code
def yX5_newSteps : MethodName := ⟨RX5, "newSteps", "(IIII)I"⟩
abbrev cX5_requests : ByteArray := prog_7_method_19_code
def yX5_requests : MethodName := ⟨RX5, "requests", "(I)I"⟩
abbrev cX5_changes : ByteArray := prog_7_method_20_code
def yX5_changes : MethodName := ⟨RX5, "changes", "()I"⟩
abbrev cX5_isChange : ByteArray := prog_7_method_21_code
def yX5_isChange : MethodName := ⟨RX5, "isChange", "(I)Z"⟩
abbrev cX5_isAhead : ByteArray := prog_7_method_22_code
def yX5_isAhead : MethodName := ⟨RX5, "isAhead", "(II)Z"⟩
abbrev cX5_position : ByteArray := prog_7_method_23_code
def yX5_position : MethodName := ⟨RX5, "position", "(I)I"⟩
abbrev cX5_firstInQueue : ByteArray := prog_7_method_24_code
def yX5_firstInQueue : MethodName := ⟨RX5, "firstInQueue", "(I)I"⟩
abbrev cX5_forWhom : ByteArray := prog_7_method_25_code
def yX5_forWhom : MethodName := ⟨RX5, "forWhom", "(I)I"⟩
abbrev cX5_enqueue : ByteArray := prog_7_method_26_code
def yX5_enqueue : MethodName := ⟨RX5, "enqueue", "(III)V"⟩
abbrev cX5_grant : ByteArray := prog_7_method_27_code
def yX5_grant : MethodName := ⟨RX5, "grant", "(I)V"⟩
def RX6 : String := "LockLadder$Text"
def TX6 : u_T := fun k => match k with
  | 0 => ("LockLadder$Text", "signs", "[C", true)
  | _ => ("LockLadder$Text", "size", "I", false)
def tyX6 : Nat → FieldType := fun k => match k with
  | 0 => .array .char
  | _ => .int
abbrev wsX60 : List Cond := u_ws RX6 TX6 2
theorem nmX6 : ∀ a, a < 2 → ∀ b, b < 2 → a ≠ b → (TX6 a).2.1 ≠ (TX6 b).2.1 := by decide +kernel
theorem tyX6_ok : ∀ k, k < 2 → parseFieldDescriptor (TX6 k).2.2.1 = some (tyX6 k) := by decide +kernel
abbrev cX6_init : ByteArray := prog_8_method_1_code
def yX6_init : MethodName := ⟨RX6, "<init>", "()V"⟩
abbrev cX6_addFour : ByteArray := prog_8_method_2_code
def yX6_addFour : MethodName := ⟨RX6, "addFour", "(I)I"⟩
abbrev cX6_at : ByteArray := prog_8_method_3_code
def yX6_at : MethodName := ⟨RX6, "at", "(I)I"⟩
abbrev cX6_digit : ByteArray := prog_8_method_4_code
def yX6_digit : MethodName := ⟨RX6, "digit", "(I)I"⟩
abbrev cX6_says : ByteArray := prog_8_method_5_code
def yX6_says : MethodName := ⟨RX6, "says", "(Ljava/lang/String;)Z"⟩
abbrev cX6_modeName : ByteArray := prog_8_method_6_code
def yX6_modeName : MethodName := ⟨RX6, "modeName", "()I"⟩
abbrev cX6_wrongInDay : ByteArray := prog_8_method_7_code
def yX6_wrongInDay : MethodName := ⟨RX6, "wrongInDay", "()I"⟩
abbrev cX6_digitsOf : ByteArray := prog_8_method_8_code
def yX6_digitsOf : MethodName := ⟨RX6, "digitsOf", "(I)I"⟩
def RX7 : String := "LockLadder"
def TX7 : u_T := fun k => match k with
  | 0 => ("LockLadder", "desk", "LLockLadder$Desk;", true)
  | 1 => ("LockLadder", "trial", "LLockLadder$Desk;", true)
  | 2 => ("LockLadder", "now", "LLockLadder$State;", true)
  | 3 => ("LockLadder", "history", "LLockLadder$History;", true)
  | 4 => ("LockLadder", "keeps", "[LLockLadder$State;", true)
  | 5 => ("LockLadder", "kept", "[Z", true)
  | 6 => ("LockLadder", "text", "LLockLadder$Text;", true)
  | 7 => ("LockLadder", "told", "LLockLadder$Row;", true)
  | 8 => ("LockLadder", "inForce", "LLockLadder$Rule;", true)
  | _ => ("LockLadder", "spare", "LLockLadder$Rule;", true)
def tyX7 : Nat → FieldType := fun k => match k with
  | 0 => .object "LockLadder$Desk"
  | 1 => .object "LockLadder$Desk"
  | 2 => .object "LockLadder$State"
  | 3 => .object "LockLadder$History"
  | 4 => .array (.object "LockLadder$State")
  | 5 => .array .boolean
  | 6 => .object "LockLadder$Text"
  | 7 => .object "LockLadder$Row"
  | 8 => .object "LockLadder$Rule"
  | _ => .object "LockLadder$Rule"
abbrev wsX70 : List Cond := u_ws RX7 TX7 10
theorem nmX7 : ∀ a, a < 10 → ∀ b, b < 10 → a ≠ b → (TX7 a).2.1 ≠ (TX7 b).2.1 := by decide +kernel
theorem tyX7_ok : ∀ k, k < 10 → parseFieldDescriptor (TX7 k).2.2.1 = some (tyX7 k) := by decide +kernel
abbrev cX7_init : ByteArray := prog_1_method_1_code
def yX7_init : MethodName := ⟨RX7, "<init>", "()V"⟩
abbrev cX7_sign : ByteArray := prog_1_method_2_code
def yX7_sign : MethodName := ⟨RX7, "sign", "(I)I"⟩
abbrev cX7_end : ByteArray := prog_1_method_3_code
def yX7_end : MethodName := ⟨RX7, "end", "(I)Z"⟩
abbrev cX7_rule : ByteArray := prog_1_method_4_code
def yX7_rule : MethodName := ⟨RX7, "rule", "()I"⟩
abbrev cX7_modes : ByteArray := prog_1_method_5_code
def yX7_modes : MethodName := ⟨RX7, "modes", "(II)I"⟩
abbrev cX7_named : ByteArray := prog_1_method_6_code
def yX7_named : MethodName := ⟨RX7, "named", "()I"⟩
abbrev cX7_owner : ByteArray := prog_1_method_7_code
def yX7_owner : MethodName := ⟨RX7, "owner", "(II)I"⟩
abbrev cX7_held : ByteArray := prog_1_method_8_code
def yX7_held : MethodName := ⟨RX7, "held", "(II)I"⟩
abbrev cX7_begins : ByteArray := prog_1_method_9_code
def yX7_begins : MethodName := ⟨RX7, "begins", "(I)I"⟩
abbrev cX7_works : ByteArray := prog_1_method_10_code
def yX7_works : MethodName := ⟨RX7, "works", "(II)I"⟩
abbrev cX7_locks : ByteArray := prog_1_method_11_code
def yX7_locks : MethodName := ⟨RX7, "locks", "(III)I"⟩
abbrev cX7_unlocks : ByteArray := prog_1_method_12_code
def yX7_unlocks : MethodName := ⟨RX7, "unlocks", "(II)I"⟩
abbrev cX7_ends : ByteArray := prog_1_method_13_code
def yX7_ends : MethodName := ⟨RX7, "ends", "(I)I"⟩
abbrev cX7_gathers : ByteArray := prog_1_method_14_code
def yX7_gathers : MethodName := ⟨RX7, "gathers", "(II)I"⟩
abbrev cX7_bulk : ByteArray := prog_1_method_15_code
def yX7_bulk : MethodName := ⟨RX7, "bulk", "(I)I"⟩
abbrev cX7_fells : ByteArray := prog_1_method_16_code
def yX7_fells : MethodName := ⟨RX7, "fells", "()I"⟩
abbrev cX7_day : ByteArray := prog_1_method_17_code
def yX7_day : MethodName := ⟨RX7, "day", "()I"⟩
abbrev cX7_undo : ByteArray := prog_1_method_18_code
def yX7_undo : MethodName := ⟨RX7, "undo", "()I"⟩
abbrev cX7_holders : ByteArray := prog_1_method_19_code
def yX7_holders : MethodName := ⟨RX7, "holders", "(I)I"⟩
abbrev cX7_queue : ByteArray := prog_1_method_20_code
def yX7_queue : MethodName := ⟨RX7, "queue", "(I)I"⟩
abbrev cX7_waits : ByteArray := prog_1_method_21_code
def yX7_waits : MethodName := ⟨RX7, "waits", "(I)I"⟩
abbrev cX7_covers : ByteArray := prog_1_method_22_code
def yX7_covers : MethodName := ⟨RX7, "covers", "(II)I"⟩
abbrev cX7_may : ByteArray := prog_1_method_23_code
def yX7_may : MethodName := ⟨RX7, "may", "(III)I"⟩
abbrev cX7_free : ByteArray := prog_1_method_24_code
def yX7_free : MethodName := ⟨RX7, "free", "(III)I"⟩
abbrev cX7_behind : ByteArray := prog_1_method_25_code
def yX7_behind : MethodName := ⟨RX7, "behind", "(I)I"⟩
abbrev cX7_stops : ByteArray := prog_1_method_26_code
def yX7_stops : MethodName := ⟨RX7, "stops", "(I)I"⟩
abbrev cX7_rings : ByteArray := prog_1_method_27_code
def yX7_rings : MethodName := ⟨RX7, "rings", "()I"⟩
abbrev cX7_ring : ByteArray := prog_1_method_28_code
def yX7_ring : MethodName := ⟨RX7, "ring", "(I)I"⟩
abbrev cX7_victim : ByteArray := prog_1_method_29_code
def yX7_victim : MethodName := ⟨RX7, "victim", "()I"⟩
abbrev cX7_frees : ByteArray := prog_1_method_30_code
def yX7_frees : MethodName := ⟨RX7, "frees", "(I)I"⟩
abbrev cX7_drains : ByteArray := prog_1_method_31_code
def yX7_drains : MethodName := ⟨RX7, "drains", "()I"⟩
abbrev cX7_saves : ByteArray := prog_1_method_32_code
def yX7_saves : MethodName := ⟨RX7, "saves", "(II)I"⟩
abbrev cX7_holds : ByteArray := prog_1_method_33_code
def yX7_holds : MethodName := ⟨RX7, "holds", "(II)I"⟩
abbrev cX7_common : ByteArray := prog_1_method_34_code
def yX7_common : MethodName := ⟨RX7, "common", "(II)I"⟩
abbrev cX7_queues : ByteArray := prog_1_method_35_code
def yX7_queues : MethodName := ⟨RX7, "queues", "()I"⟩
abbrev cX7_sum : ByteArray := prog_1_method_36_code
def yX7_sum : MethodName := ⟨RX7, "sum", "()I"⟩
abbrev cX7_law : ByteArray := prog_1_method_37_code
def yX7_law : MethodName := ⟨RX7, "law", "()I"⟩
abbrev cX7_years : ByteArray := prog_1_method_38_code
def yX7_years : MethodName := ⟨RX7, "years", "(II)I"⟩
abbrev cX7_keep : ByteArray := prog_1_method_39_code
def yX7_keep : MethodName := ⟨RX7, "keep", "(I)Z"⟩
abbrev cX7_again : ByteArray := prog_1_method_40_code
def yX7_again : MethodName := ⟨RX7, "again", "(I)Z"⟩
abbrev cX7_count : ByteArray := prog_1_method_41_code
def yX7_count : MethodName := ⟨RX7, "count", "(I)I"⟩
abbrev cX7_row : ByteArray := prog_1_method_42_code
def yX7_row : MethodName := ⟨RX7, "row", "(I)J"⟩
abbrev cX7_noted : ByteArray := prog_1_method_43_code
def yX7_noted : MethodName := ⟨RX7, "noted", "(I)I"⟩
abbrev cX7_runsWithout : ByteArray := prog_1_method_44_code
def yX7_runsWithout : MethodName := ⟨RX7, "runsWithout", "(II)Z"⟩
abbrev cX7_isOwner : ByteArray := prog_1_method_45_code
def yX7_isOwner : MethodName := ⟨RX7, "isOwner", "(I)Z"⟩
abbrev cX7_isPlace : ByteArray := prog_1_method_46_code
def yX7_isPlace : MethodName := ⟨RX7, "isPlace", "(I)Z"⟩
abbrev cX7_isMode : ByteArray := prog_1_method_47_code
def yX7_isMode : MethodName := ⟨RX7, "isMode", "(I)Z"⟩
abbrev cX7_isLockMode : ByteArray := prog_1_method_48_code
def yX7_isLockMode : MethodName := ⟨RX7, "isLockMode", "(I)Z"⟩
abbrev cX7_levelOf : ByteArray := prog_1_method_49_code
def yX7_levelOf : MethodName := ⟨RX7, "levelOf", "(I)I"⟩
abbrev cX7_onPath : ByteArray := prog_1_method_50_code
def yX7_onPath : MethodName := ⟨RX7, "onPath", "(II)I"⟩
abbrev cX7_stepMode : ByteArray := prog_1_method_51_code
def yX7_stepMode : MethodName := ⟨RX7, "stepMode", "(III)I"⟩
abbrev cX7_isDigit : ByteArray := prog_1_method_52_code
def yX7_isDigit : MethodName := ⟨RX7, "isDigit", "(I)Z"⟩
def RX8 : String := "LockLadderModel"
def TX8 : u_T := fun k => match k with
  | 0 => ("LockLadderModel", "thrown", "I", false)
  | 1 => ("LockLadderModel", "told", "I", false)
  | 2 => ("LockLadderModel", "row", "[J", true)
  | 3 => ("LockLadderModel", "tape", "[I", true)
  | 4 => ("LockLadderModel", "taped", "I", false)
  | 5 => ("LockLadderModel", "at", "I", false)
  | 6 => ("LockLadderModel", "to", "I", false)
  | 7 => ("LockLadderModel", "nest", "I", false)
  | 8 => ("LockLadderModel", "code", "[I", true)
  | 9 => ("LockLadderModel", "readCode", "[I", true)
  | 10 => ("LockLadderModel", "codeLong", "I", false)
  | 11 => ("LockLadderModel", "codesRead", "I", false)
  | 12 => ("LockLadderModel", "stack", "[I", true)
  | 13 => ("LockLadderModel", "asked", "[I", true)
  | 14 => ("LockLadderModel", "now", "[I", true)
  | 15 => ("LockLadderModel", "then", "[I", true)
  | 16 => ("LockLadderModel", "gathered", "I", false)
  | 17 => ("LockLadderModel", "felled", "[I", true)
  | 18 => ("LockLadderModel", "undos", "I", false)
  | 19 => ("LockLadderModel", "undone", "[I", true)
  | 20 => ("LockLadderModel", "actSign", "[I", true)
  | 21 => ("LockLadderModel", "actOne", "[I", true)
  | 22 => ("LockLadderModel", "actTwo", "[I", true)
  | 23 => ("LockLadderModel", "actThree", "[I", true)
  | 24 => ("LockLadderModel", "acts", "I", false)
  | 25 => ("LockLadderModel", "newSteps", "I", false)
  | 26 => ("LockLadderModel", "steps", "[I", true)
  | 27 => ("LockLadderModel", "wasCode", "[I", true)
  | 28 => ("LockLadderModel", "random", "I", false)
  | 29 => ("LockLadderModel", "isKept", "[Z", true)
  | _ => ("LockLadderModel", "kept", "[I", true)
def tyX8 : Nat → FieldType := fun k => match k with
  | 0 => .int
  | 1 => .int
  | 2 => .array .long
  | 3 => .array .int
  | 4 => .int
  | 5 => .int
  | 6 => .int
  | 7 => .int
  | 8 => .array .int
  | 9 => .array .int
  | 10 => .int
  | 11 => .int
  | 12 => .array .int
  | 13 => .array .int
  | 14 => .array .int
  | 15 => .array .int
  | 16 => .int
  | 17 => .array .int
  | 18 => .int
  | 19 => .array .int
  | 20 => .array .int
  | 21 => .array .int
  | 22 => .array .int
  | 23 => .array .int
  | 24 => .int
  | 25 => .int
  | 26 => .array .int
  | 27 => .array .int
  | 28 => .int
  | 29 => .array .boolean
  | _ => .array .int
abbrev wsX80 : List Cond := u_ws RX8 TX8 31
theorem nmX8 : ∀ a, a < 31 → ∀ b, b < 31 → a ≠ b → (TX8 a).2.1 ≠ (TX8 b).2.1 := by decide +kernel
theorem tyX8_ok : ∀ k, k < 31 → parseFieldDescriptor (TX8 k).2.2.1 = some (tyX8 k) := by decide +kernel
abbrev cX8_thrown : ByteArray := prog_10_method_1_code
def yX8_thrown : MethodName := ⟨RX8, "thrown", "()I"⟩
abbrev cX8_refuse : ByteArray := prog_10_method_2_code
def yX8_refuse : MethodName := ⟨RX8, "refuse", "()I"⟩
abbrev cX8_in : ByteArray := prog_10_method_3_code
def yX8_in : MethodName := ⟨RX8, "in", "(JJJ)Z"⟩
abbrev cX8_has : ByteArray := prog_10_method_4_code
def yX8_has : MethodName := ⟨RX8, "has", "(II)Z"⟩
abbrev cX8_flag : ByteArray := prog_10_method_5_code
def yX8_flag : MethodName := ⟨RX8, "flag", "(Z)I"⟩
abbrev cX8_enters : ByteArray := prog_10_method_6_code
def yX8_enters : MethodName := ⟨RX8, "enters", "(J)V"⟩
abbrev cX8_parent : ByteArray := prog_10_method_7_code
def yX8_parent : MethodName := ⟨RX8, "parent", "(I)I"⟩
abbrev cX8_isBelow : ByteArray := prog_10_method_8_code
def yX8_isBelow : MethodName := ⟨RX8, "isBelow", "(II)Z"⟩
abbrev cX8_isPlace : ByteArray := prog_10_method_9_code
def yX8_isPlace : MethodName := ⟨RX8, "isPlace", "(I)Z"⟩
abbrev cX8_isMode : ByteArray := prog_10_method_10_code
def yX8_isMode : MethodName := ⟨RX8, "isMode", "(I)Z"⟩
abbrev cX8_together : ByteArray := prog_10_method_11_code
def yX8_together : MethodName := ⟨RX8, "together", "(II)Z"⟩
abbrev cX8_both : ByteArray := prog_10_method_12_code
def yX8_both : MethodName := ⟨RX8, "both", "(II)I"⟩
abbrev cX8_modes : ByteArray := prog_10_method_13_code
def yX8_modes : MethodName := ⟨RX8, "modes", "(II)I"⟩
abbrev cX8_sign : ByteArray := prog_10_method_14_code
def yX8_sign : MethodName := ⟨RX8, "sign", "(I)I"⟩
abbrev cX8_end : ByteArray := prog_10_method_15_code
def yX8_end : MethodName := ⟨RX8, "end", "(I)Z"⟩
abbrev cX8_reads : ByteArray := prog_10_method_16_code
def yX8_reads : MethodName := ⟨RX8, "reads", "(I)I"⟩
abbrev cX8_takes : ByteArray := prog_10_method_17_code
def yX8_takes : MethodName := ⟨RX8, "takes", "(I)Z"⟩
abbrev cX8_isDigit : ByteArray := prog_10_method_18_code
def yX8_isDigit : MethodName := ⟨RX8, "isDigit", "()Z"⟩
abbrev cX8_takesOf : ByteArray := prog_10_method_19_code
def yX8_takesOf : MethodName := ⟨RX8, "takesOf", "(Ljava/lang/String;)I"⟩
abbrev cX8_number : ByteArray := prog_10_method_20_code
def yX8_number : MethodName := ⟨RX8, "number", "(I)I"⟩
abbrev cX8_two : ByteArray := prog_10_method_21_code
def yX8_two : MethodName := ⟨RX8, "two", "()I"⟩
abbrev cX8_faultOf : ByteArray := prog_10_method_22_code
def yX8_faultOf : MethodName := ⟨RX8, "faultOf", "(IIZ)I"⟩
abbrev cX8_named : ByteArray := prog_10_method_23_code
def yX8_named : MethodName := ⟨RX8, "named", "()I"⟩
abbrev cX8_codes : ByteArray := prog_10_method_24_code
def yX8_codes : MethodName := ⟨RX8, "codes", "(I)V"⟩
abbrev cX8_readsThing : ByteArray := prog_10_method_25_code
def yX8_readsThing : MethodName := ⟨RX8, "readsThing", "()Z"⟩
abbrev cX8_readsRank : ByteArray := prog_10_method_26_code
def yX8_readsRank : MethodName := ⟨RX8, "readsRank", "(I)Z"⟩
abbrev cX8_readsRule : ByteArray := prog_10_method_27_code
def yX8_readsRule : MethodName := ⟨RX8, "readsRule", "()I"⟩
abbrev cX8_laysCode : ByteArray := prog_10_method_28_code
def yX8_laysCode : MethodName := ⟨RX8, "laysCode", "([II)V"⟩
abbrev cX8_rule : ByteArray := prog_10_method_29_code
def yX8_rule : MethodName := ⟨RX8, "rule", "()I"⟩
abbrev cX8_worked : ByteArray := prog_10_method_30_code
def yX8_worked : MethodName := ⟨RX8, "worked", "(III)I"⟩
abbrev cX8_ruled : ByteArray := prog_10_method_31_code
def yX8_ruled : MethodName := ⟨RX8, "ruled", "()I"⟩
abbrev cX8_init : ByteArray := prog_10_method_32_code
def yX8_init : MethodName := ⟨RX8, "<init>", "()V"⟩
abbrev cX8_isOwner : ByteArray := prog_10_method_33_code
def yX8_isOwner : MethodName := ⟨RX8, "isOwner", "(I)Z"⟩
abbrev cX8_held : ByteArray := prog_10_method_34_code
def yX8_held : MethodName := ⟨RX8, "held", "([III)I"⟩
abbrev cX8_heldMany : ByteArray := prog_10_method_35_code
def yX8_heldMany : MethodName := ⟨RX8, "heldMany", "([II)I"⟩
abbrev cX8_aloneMany : ByteArray := prog_10_method_36_code
def yX8_aloneMany : MethodName := ⟨RX8, "aloneMany", "([II)I"⟩
abbrev cX8_so : ByteArray := prog_10_method_37_code
def yX8_so : MethodName := ⟨RX8, "so", "([II)I"⟩
abbrev cX8_isChange : ByteArray := prog_10_method_38_code
def yX8_isChange : MethodName := ⟨RX8, "isChange", "([II)Z"⟩
abbrev cX8_isAhead : ByteArray := prog_10_method_39_code
def yX8_isAhead : MethodName := ⟨RX8, "isAhead", "([III)Z"⟩
abbrev cX8_isIn : ByteArray := prog_10_method_40_code
def yX8_isIn : MethodName := ⟨RX8, "isIn", "([III)Z"⟩
abbrev cX8_queued : ByteArray := prog_10_method_41_code
def yX8_queued : MethodName := ⟨RX8, "queued", "([II)I"⟩
abbrev cX8_hasChange : ByteArray := prog_10_method_42_code
def yX8_hasChange : MethodName := ⟨RX8, "hasChange", "([II)Z"⟩
abbrev cX8_aheadOf : ByteArray := prog_10_method_43_code
def yX8_aheadOf : MethodName := ⟨RX8, "aheadOf", "([II)I"⟩
abbrev cX8_inQueue : ByteArray := prog_10_method_44_code
def yX8_inQueue : MethodName := ⟨RX8, "inQueue", "([III)I"⟩
abbrev cX8_goesWithOthers : ByteArray := prog_10_method_45_code
def yX8_goesWithOthers : MethodName := ⟨RX8, "goesWithOthers", "([IIII)Z"⟩
abbrev cX8_waitsFor : ByteArray := prog_10_method_46_code
def yX8_waitsFor : MethodName := ⟨RX8, "waitsFor", "([III)Z"⟩
abbrev cX8_behindOf : ByteArray := prog_10_method_47_code
def yX8_behindOf : MethodName := ⟨RX8, "behindOf", "([II)I"⟩
abbrev cX8_comesTo : ByteArray := prog_10_method_48_code
def yX8_comesTo : MethodName := ⟨RX8, "comesTo", "([II)I"⟩
abbrev cX8_ringed : ByteArray := prog_10_method_49_code
def yX8_ringed : MethodName := ⟨RX8, "ringed", "([I)I"⟩
abbrev cX8_waitersOf : ByteArray := prog_10_method_50_code
def yX8_waitersOf : MethodName := ⟨RX8, "waitersOf", "([II)I"⟩
abbrev cX8_cost : ByteArray := prog_10_method_51_code
def yX8_cost : MethodName := ⟨RX8, "cost", "([II)I"⟩
abbrev cX8_holdsNow : ByteArray := prog_10_method_52_code
def yX8_holdsNow : MethodName := ⟨RX8, "holdsNow", "([IIII)V"⟩
abbrev cX8_isShared : ByteArray := prog_10_method_53_code
def yX8_isShared : MethodName := ⟨RX8, "isShared", "(I)Z"⟩
abbrev cX8_wanted : ByteArray := prog_10_method_54_code
def yX8_wanted : MethodName := ⟨RX8, "wanted", "([IIII)I"⟩
abbrev cX8_isGranted : ByteArray := prog_10_method_55_code
def yX8_isGranted : MethodName := ⟨RX8, "isGranted", "([IIII)Z"⟩
abbrev cX8_steps : ByteArray := prog_10_method_56_code
def yX8_steps : MethodName := ⟨RX8, "steps", "([IIII)Z"⟩
abbrev cX8_nextOn : ByteArray := prog_10_method_57_code
def yX8_nextOn : MethodName := ⟨RX8, "nextOn", "(II)I"⟩
abbrev cX8_modeOn : ByteArray := prog_10_method_58_code
def yX8_modeOn : MethodName := ⟨RX8, "modeOn", "(III)I"⟩
abbrev cX8_isCovered : ByteArray := prog_10_method_59_code
def yX8_isCovered : MethodName := ⟨RX8, "isCovered", "([IIII)Z"⟩
abbrev cX8_goesOn : ByteArray := prog_10_method_60_code
def yX8_goesOn : MethodName := ⟨RX8, "goesOn", "([III)V"⟩
abbrev cX8_rowsHeld : ByteArray := prog_10_method_61_code
def yX8_rowsHeld : MethodName := ⟨RX8, "rowsHeld", "([III)I"⟩
abbrev cX8_belowMany : ByteArray := prog_10_method_62_code
def yX8_belowMany : MethodName := ⟨RX8, "belowMany", "([III)I"⟩
abbrev cX8_gatheredMode : ByteArray := prog_10_method_63_code
def yX8_gatheredMode : MethodName := ⟨RX8, "gatheredMode", "([III)I"⟩
abbrev cX8_canGather : ByteArray := prog_10_method_64_code
def yX8_canGather : MethodName := ⟨RX8, "canGather", "([III)Z"⟩
abbrev cX8_gathersOne : ByteArray := prog_10_method_65_code
def yX8_gathersOne : MethodName := ⟨RX8, "gathersOne", "([III)I"⟩
abbrev cX8_servesAll : ByteArray := prog_10_method_66_code
def yX8_servesAll : MethodName := ⟨RX8, "servesAll", "([IJJ)V"⟩
abbrev cX8_serves : ByteArray := prog_10_method_67_code
def yX8_serves : MethodName := ⟨RX8, "serves", "([II)V"⟩
abbrev cX8_locksOne : ByteArray := prog_10_method_68_code
def yX8_locksOne : MethodName := ⟨RX8, "locksOne", "([IIII)I"⟩
abbrev cX8_beginsOne : ByteArray := prog_10_method_69_code
def yX8_beginsOne : MethodName := ⟨RX8, "beginsOne", "([II)I"⟩
abbrev cX8_worksOne : ByteArray := prog_10_method_70_code
def yX8_worksOne : MethodName := ⟨RX8, "worksOne", "([III)I"⟩
abbrev cX8_unlocksOne : ByteArray := prog_10_method_71_code
def yX8_unlocksOne : MethodName := ⟨RX8, "unlocksOne", "([III)I"⟩
abbrev cX8_goes : ByteArray := prog_10_method_72_code
def yX8_goes : MethodName := ⟨RX8, "goes", "([II)I"⟩
abbrev cX8_endsOne : ByteArray := prog_10_method_73_code
def yX8_endsOne : MethodName := ⟨RX8, "endsOne", "([II)I"⟩
abbrev cX8_gathersAt : ByteArray := prog_10_method_74_code
def yX8_gathersAt : MethodName := ⟨RX8, "gathersAt", "([III)I"⟩
abbrev cX8_bulksOne : ByteArray := prog_10_method_75_code
def yX8_bulksOne : MethodName := ⟨RX8, "bulksOne", "([II)I"⟩
abbrev cX8_cheapest : ByteArray := prog_10_method_76_code
def yX8_cheapest : MethodName := ⟨RX8, "cheapest", "([I)I"⟩
abbrev cX8_fellsAll : ByteArray := prog_10_method_77_code
def yX8_fellsAll : MethodName := ⟨RX8, "fellsAll", "([I)I"⟩
abbrev cX8_putsBy : ByteArray := prog_10_method_78_code
def yX8_putsBy : MethodName := ⟨RX8, "putsBy", "()V"⟩
abbrev cX8_adds : ByteArray := prog_10_method_79_code
def yX8_adds : MethodName := ⟨RX8, "adds", "(I)I"⟩
abbrev cX8_counted : ByteArray := prog_10_method_80_code
def yX8_counted : MethodName := ⟨RX8, "counted", "(I)I"⟩
abbrev cX8_undo : ByteArray := prog_10_method_81_code
def yX8_undo : MethodName := ⟨RX8, "undo", "()I"⟩
abbrev cX8_owner : ByteArray := prog_10_method_82_code
def yX8_owner : MethodName := ⟨RX8, "owner", "(II)I"⟩
abbrev cX8_held_ : ByteArray := prog_10_method_83_code
def yX8_held_ : MethodName := ⟨RX8, "held", "(II)I"⟩
abbrev cX8_begins : ByteArray := prog_10_method_84_code
def yX8_begins : MethodName := ⟨RX8, "begins", "(I)I"⟩
abbrev cX8_works : ByteArray := prog_10_method_85_code
def yX8_works : MethodName := ⟨RX8, "works", "(II)I"⟩
abbrev cX8_locks : ByteArray := prog_10_method_86_code
def yX8_locks : MethodName := ⟨RX8, "locks", "(III)I"⟩
abbrev cX8_unlocks : ByteArray := prog_10_method_87_code
def yX8_unlocks : MethodName := ⟨RX8, "unlocks", "(II)I"⟩
abbrev cX8_ends : ByteArray := prog_10_method_88_code
def yX8_ends : MethodName := ⟨RX8, "ends", "(I)I"⟩
abbrev cX8_gathers : ByteArray := prog_10_method_89_code
def yX8_gathers : MethodName := ⟨RX8, "gathers", "(II)I"⟩
abbrev cX8_bulk : ByteArray := prog_10_method_90_code
def yX8_bulk : MethodName := ⟨RX8, "bulk", "(I)I"⟩
abbrev cX8_fells : ByteArray := prog_10_method_91_code
def yX8_fells : MethodName := ⟨RX8, "fells", "()I"⟩
abbrev cX8_readsAct : ByteArray := prog_10_method_92_code
def yX8_readsAct : MethodName := ⟨RX8, "readsAct", "()Z"⟩
abbrev cX8_does : ByteArray := prog_10_method_93_code
def yX8_does : MethodName := ⟨RX8, "does", "(I)I"⟩
abbrev cX8_day : ByteArray := prog_10_method_94_code
def yX8_day : MethodName := ⟨RX8, "day", "()I"⟩
abbrev cX8_holders : ByteArray := prog_10_method_95_code
def yX8_holders : MethodName := ⟨RX8, "holders", "(I)I"⟩
abbrev cX8_queue : ByteArray := prog_10_method_96_code
def yX8_queue : MethodName := ⟨RX8, "queue", "(I)I"⟩
abbrev cX8_waits : ByteArray := prog_10_method_97_code
def yX8_waits : MethodName := ⟨RX8, "waits", "(I)I"⟩
abbrev cX8_firstAbove : ByteArray := prog_10_method_98_code
def yX8_firstAbove : MethodName := ⟨RX8, "firstAbove", "(III)I"⟩
abbrev cX8_covers : ByteArray := prog_10_method_99_code
def yX8_covers : MethodName := ⟨RX8, "covers", "(II)I"⟩
abbrev cX8_wouldWait : ByteArray := prog_10_method_100_code
def yX8_wouldWait : MethodName := ⟨RX8, "wouldWait", "(III)I"⟩
abbrev cX8_may : ByteArray := prog_10_method_101_code
def yX8_may : MethodName := ⟨RX8, "may", "(III)I"⟩
abbrev cX8_free : ByteArray := prog_10_method_102_code
def yX8_free : MethodName := ⟨RX8, "free", "(III)I"⟩
abbrev cX8_behind : ByteArray := prog_10_method_103_code
def yX8_behind : MethodName := ⟨RX8, "behind", "(I)I"⟩
abbrev cX8_stops : ByteArray := prog_10_method_104_code
def yX8_stops : MethodName := ⟨RX8, "stops", "(I)I"⟩
abbrev cX8_rings : ByteArray := prog_10_method_105_code
def yX8_rings : MethodName := ⟨RX8, "rings", "()I"⟩
abbrev cX8_laysSteps : ByteArray := prog_10_method_106_code
def yX8_laysSteps : MethodName := ⟨RX8, "laysSteps", "(I)V"⟩
abbrev cX8_ring : ByteArray := prog_10_method_107_code
def yX8_ring : MethodName := ⟨RX8, "ring", "(I)I"⟩
abbrev cX8_victim : ByteArray := prog_10_method_108_code
def yX8_victim : MethodName := ⟨RX8, "victim", "()I"⟩
abbrev cX8_copies : ByteArray := prog_10_method_109_code
def yX8_copies : MethodName := ⟨RX8, "copies", "()V"⟩
abbrev cX8_frees : ByteArray := prog_10_method_110_code
def yX8_frees : MethodName := ⟨RX8, "frees", "(I)I"⟩
abbrev cX8_drains : ByteArray := prog_10_method_111_code
def yX8_drains : MethodName := ⟨RX8, "drains", "()I"⟩
abbrev cX8_saves : ByteArray := prog_10_method_112_code
def yX8_saves : MethodName := ⟨RX8, "saves", "(II)I"⟩
abbrev cX8_holds : ByteArray := prog_10_method_113_code
def yX8_holds : MethodName := ⟨RX8, "holds", "(II)I"⟩
abbrev cX8_common : ByteArray := prog_10_method_114_code
def yX8_common : MethodName := ⟨RX8, "common", "(II)I"⟩
abbrev cX8_queues : ByteArray := prog_10_method_115_code
def yX8_queues : MethodName := ⟨RX8, "queues", "()I"⟩
abbrev cX8_sumOf : ByteArray := prog_10_method_116_code
def yX8_sumOf : MethodName := ⟨RX8, "sumOf", "([I)I"⟩
abbrev cX8_sum : ByteArray := prog_10_method_117_code
def yX8_sum : MethodName := ⟨RX8, "sum", "()I"⟩
abbrev cX8_law : ByteArray := prog_10_method_118_code
def yX8_law : MethodName := ⟨RX8, "law", "()I"⟩
abbrev cX8_draws : ByteArray := prog_10_method_119_code
def yX8_draws : MethodName := ⟨RX8, "draws", "(I)I"⟩
abbrev cX8_drawnAct : ByteArray := prog_10_method_120_code
def yX8_drawnAct : MethodName := ⟨RX8, "drawnAct", "(II)V"⟩
abbrev cX8_fallsOf : ByteArray := prog_10_method_121_code
def yX8_fallsOf : MethodName := ⟨RX8, "fallsOf", "([I)I"⟩
abbrev cX8_years : ByteArray := prog_10_method_122_code
def yX8_years : MethodName := ⟨RX8, "years", "(II)I"⟩
abbrev cX8_keep : ByteArray := prog_10_method_123_code
def yX8_keep : MethodName := ⟨RX8, "keep", "(I)Z"⟩
abbrev cX8_again : ByteArray := prog_10_method_124_code
def yX8_again : MethodName := ⟨RX8, "again", "(I)Z"⟩
abbrev cX8_count : ByteArray := prog_10_method_125_code
def yX8_count : MethodName := ⟨RX8, "count", "(I)I"⟩
abbrev cX8_row : ByteArray := prog_10_method_126_code
def yX8_row : MethodName := ⟨RX8, "row", "(I)J"⟩
def RJx145de : String := "java/io/Serializable"
def TJx145de : u_T := fun k => match k with
  | _ => ("", "", "", false)
def tyJx145de : Nat → FieldType := fun k => match k with
  | _ => .int
abbrev wsJx145de0 : List Cond := u_ws RJx145de TJx145de 0
theorem nmJx145de : ∀ a, a < 0 → ∀ b, b < 0 → a ≠ b → (TJx145de a).2.1 ≠ (TJx145de b).2.1 := by decide +kernel
theorem tyJx145de_ok : ∀ k, k < 0 → parseFieldDescriptor (TJx145de k).2.2.1 = some (tyJx145de k) := by decide +kernel
def RJx9f9b0 : String := "java/lang/CharSequence"
def TJx9f9b0 : u_T := fun k => match k with
  | _ => ("", "", "", false)
def tyJx9f9b0 : Nat → FieldType := fun k => match k with
  | _ => .int
abbrev wsJx9f9b00 : List Cond := u_ws RJx9f9b0 TJx9f9b0 0
theorem nmJx9f9b0 : ∀ a, a < 0 → ∀ b, b < 0 → a ≠ b → (TJx9f9b0 a).2.1 ≠ (TJx9f9b0 b).2.1 := by decide +kernel
theorem tyJx9f9b0_ok : ∀ k, k < 0 → parseFieldDescriptor (TJx9f9b0 k).2.2.1 = some (tyJx9f9b0 k) := by decide +kernel
def RJxb160c : String := "java/lang/Comparable"
def TJxb160c : u_T := fun k => match k with
  | _ => ("", "", "", false)
def tyJxb160c : Nat → FieldType := fun k => match k with
  | _ => .int
abbrev wsJxb160c0 : List Cond := u_ws RJxb160c TJxb160c 0
theorem nmJxb160c : ∀ a, a < 0 → ∀ b, b < 0 → a ≠ b → (TJxb160c a).2.1 ≠ (TJxb160c b).2.1 := by decide +kernel
theorem tyJxb160c_ok : ∀ k, k < 0 → parseFieldDescriptor (TJxb160c k).2.2.1 = some (tyJxb160c k) := by decide +kernel
def RJ6 : String := "java/lang/Integer"
def TJ6 : u_T := fun k => match k with
  | _ => ("", "", "", false)
def tyJ6 : Nat → FieldType := fun k => match k with
  | _ => .int
abbrev wsJ60 : List Cond := u_ws RJ6 TJ6 0
theorem nmJ6 : ∀ a, a < 0 → ∀ b, b < 0 → a ≠ b → (TJ6 a).2.1 ≠ (TJ6 b).2.1 := by decide +kernel
theorem tyJ6_ok : ∀ k, k < 0 → parseFieldDescriptor (TJ6 k).2.2.1 = some (tyJ6 k) := by decide +kernel
abbrev cJ6_compare_7cf53 : ByteArray := prog_15_method_40_code
def yJ6_compare_7cf53 : MethodName := ⟨RJ6, "compare", "(II)I"⟩
abbrev cJ6_numberOfTrailingZeros_0f7a4 : ByteArray := prog_15_method_48_code
def yJ6_numberOfTrailingZeros_0f7a4 : MethodName := ⟨RJ6, "numberOfTrailingZeros", "(I)I"⟩
abbrev cJ6_bitCount_0f7a4 : ByteArray := prog_15_method_49_code
def yJ6_bitCount_0f7a4 : MethodName := ⟨RJ6, "bitCount", "(I)I"⟩
def RJ9 : String := "java/lang/Math"
def TJ9 : u_T := fun k => match k with
  | _ => ("", "", "", false)
def tyJ9 : Nat → FieldType := fun k => match k with
  | _ => .int
abbrev wsJ90 : List Cond := u_ws RJ9 TJ9 0
theorem nmJ9 : ∀ a, a < 0 → ∀ b, b < 0 → a ≠ b → (TJ9 a).2.1 ≠ (TJ9 b).2.1 := by decide +kernel
theorem tyJ9_ok : ∀ k, k < 0 → parseFieldDescriptor (TJ9 k).2.2.1 = some (tyJ9 k) := by decide +kernel
abbrev cJ9_max_7cf53 : ByteArray := prog_16_method_65_code
def yJ9_max_7cf53 : MethodName := ⟨RJ9, "max", "(II)I"⟩
abbrev cJ9_min_7cf53 : ByteArray := prog_16_method_69_code
def yJ9_min_7cf53 : MethodName := ⟨RJ9, "min", "(II)I"⟩
def RJ0 : String := "java/lang/String"
def TJ0 : u_T := fun k => match k with
  | _ => ("", "", "", false)
def tyJ0 : Nat → FieldType := fun k => match k with
  | _ => .int
abbrev wsJ00 : List Cond := u_ws RJ0 TJ0 0
theorem nmJ0 : ∀ a, a < 0 → ∀ b, b < 0 → a ≠ b → (TJ0 a).2.1 ≠ (TJ0 b).2.1 := by decide +kernel
theorem tyJ0_ok : ∀ k, k < 0 → parseFieldDescriptor (TJ0 k).2.2.1 = some (tyJ0 k) := by decide +kernel
abbrev cJ0_length_8abf5 : ByteArray := prog_18_method_54_code
def yJ0_length_8abf5 : MethodName := ⟨RJ0, "length", "()I"⟩
abbrev cJ0_charAt_5068e : ByteArray := prog_18_method_56_code
def yJ0_charAt_5068e : MethodName := ⟨RJ0, "charAt", "(I)C"⟩
abbrev cJ0_coder_7d493 : ByteArray := prog_18_method_152_code
def yJ0_coder_7d493 : MethodName := ⟨RJ0, "coder", "()B"⟩
abbrev cJ0_isLatin1_aae02 : ByteArray := prog_18_method_154_code
def yJ0_isLatin1_aae02 : MethodName := ⟨RJ0, "isLatin1", "()Z"⟩
abbrev cJ0_checkIndex_df160 : ByteArray := prog_18_method_155_code
def yJ0_checkIndex_df160 : MethodName := ⟨RJ0, "checkIndex", "(II)V"⟩
def RJ1 : String := "java/lang/StringLatin1"
def TJ1 : u_T := fun k => match k with
  | _ => ("", "", "", false)
def tyJ1 : Nat → FieldType := fun k => match k with
  | _ => .int
abbrev wsJ10 : List Cond := u_ws RJ1 TJ1 0
theorem nmJ1 : ∀ a, a < 0 → ∀ b, b < 0 → a ≠ b → (TJ1 a).2.1 ≠ (TJ1 b).2.1 := by decide +kernel
theorem tyJ1_ok : ∀ k, k < 0 → parseFieldDescriptor (TJ1 k).2.2.1 = some (tyJ1 k) := by decide +kernel
abbrev cJ1_charAt_3b067 : ByteArray := prog_19_method_2_code
def yJ1_charAt_3b067 : MethodName := ⟨RJ1, "charAt", "([BI)C"⟩
def RJ2 : String := "java/lang/StringUTF16"
def TJ2 : u_T := fun k => match k with
  | _ => ("", "", "", false)
def tyJ2 : Nat → FieldType := fun k => match k with
  | _ => .int
abbrev wsJ20 : List Cond := u_ws RJ2 TJ2 0
theorem nmJ2 : ∀ a, a < 0 → ∀ b, b < 0 → a ≠ b → (TJ2 a).2.1 ≠ (TJ2 b).2.1 := by decide +kernel
theorem tyJ2_ok : ∀ k, k < 0 → parseFieldDescriptor (TJ2 k).2.2.1 = some (tyJ2 k) := by decide +kernel
abbrev cJ2_getChar_3b067 : ByteArray := prog_20_method_5_code
def yJ2_getChar_3b067 : MethodName := ⟨RJ2, "getChar", "([BI)C"⟩
abbrev cJ2_length_9d52b : ByteArray := prog_20_method_6_code
def yJ2_length_9d52b : MethodName := ⟨RJ2, "length", "([B)I"⟩
abbrev cJ2_charAt_3b067 : ByteArray := prog_20_method_83_code
def yJ2_charAt_3b067 : MethodName := ⟨RJ2, "charAt", "([BI)C"⟩
abbrev cJ2_checkIndex_2214a : ByteArray := prog_20_method_91_code
def yJ2_checkIndex_2214a : MethodName := ⟨RJ2, "checkIndex", "(I[B)V"⟩
def RJ10 : String := "java/lang/System"
def TJ10 : u_T := fun k => match k with
  | _ => ("", "", "", false)
def tyJ10 : Nat → FieldType := fun k => match k with
  | _ => .int
abbrev wsJ100 : List Cond := u_ws RJ10 TJ10 0
theorem nmJ10 : ∀ a, a < 0 → ∀ b, b < 0 → a ≠ b → (TJ10 a).2.1 ≠ (TJ10 b).2.1 := by decide +kernel
theorem tyJ10_ok : ∀ k, k < 0 → parseFieldDescriptor (TJ10 k).2.2.1 = some (tyJ10 k) := by decide +kernel
def RJxfd54e : String := "java/lang/constant/Constable"
def TJxfd54e : u_T := fun k => match k with
  | _ => ("", "", "", false)
def tyJxfd54e : Nat → FieldType := fun k => match k with
  | _ => .int
abbrev wsJxfd54e0 : List Cond := u_ws RJxfd54e TJxfd54e 0
theorem nmJxfd54e : ∀ a, a < 0 → ∀ b, b < 0 → a ≠ b → (TJxfd54e a).2.1 ≠ (TJxfd54e b).2.1 := by decide +kernel
theorem tyJxfd54e_ok : ∀ k, k < 0 → parseFieldDescriptor (TJxfd54e k).2.2.1 = some (tyJxfd54e k) := by decide +kernel
def RJx3cf43 : String := "java/lang/constant/ConstantDesc"
def TJx3cf43 : u_T := fun k => match k with
  | _ => ("", "", "", false)
def tyJx3cf43 : Nat → FieldType := fun k => match k with
  | _ => .int
abbrev wsJx3cf430 : List Cond := u_ws RJx3cf43 TJx3cf43 0
theorem nmJx3cf43 : ∀ a, a < 0 → ∀ b, b < 0 → a ≠ b → (TJx3cf43 a).2.1 ≠ (TJx3cf43 b).2.1 := by decide +kernel
theorem tyJx3cf43_ok : ∀ k, k < 0 → parseFieldDescriptor (TJx3cf43 k).2.2.1 = some (tyJx3cf43 k) := by decide +kernel
def RJ3 : String := "jdk/internal/util/Preconditions"
def TJ3 : u_T := fun k => match k with
  | _ => ("", "", "", false)
def tyJ3 : Nat → FieldType := fun k => match k with
  | _ => .int
abbrev wsJ30 : List Cond := u_ws RJ3 TJ3 0
theorem nmJ3 : ∀ a, a < 0 → ∀ b, b < 0 → a ≠ b → (TJ3 a).2.1 ≠ (TJ3 b).2.1 := by decide +kernel
theorem tyJ3_ok : ∀ k, k < 0 → parseFieldDescriptor (TJ3 k).2.2.1 = some (tyJ3 k) := by decide +kernel
abbrev cJ3_checkIndex_8e157 : ByteArray := prog_26_method_11_code
def yJ3_checkIndex_8e157 : MethodName := ⟨RJ3, "checkIndex", "(IILjava/util/function/BiFunction;)I"⟩
def RL : String := "LockLadderLaw"
abbrev cL_owner : ByteArray := method_3_code
def yL_owner : MethodName := ⟨RL, "owner", "(LLockLadder;II[J)I"⟩
abbrev cL_held : ByteArray := method_4_code
def yL_held : MethodName := ⟨RL, "held", "(LLockLadder;II[J)I"⟩
abbrev cL_row : ByteArray := method_5_code
def yL_row : MethodName := ⟨RL, "row", "(LLockLadder;I[J)I"⟩
abbrev cL_law : ByteArray := code
def yL_law : MethodName := ⟨RL, "law", "([I)Z"⟩
abbrev vwCl : List vw_C := [(RX0, TX0, 5), (RX1, TX1, 3), (RX2, TX2, 4), (RX3, TX3, 2), (RX4, TX4, 9), (RX5, TX5, 13), (RX6, TX6, 2), (RX7, TX7, 10), (RX8, TX8, 31)]
end
section
/-! THE PURE MACHINE: a small interpreter of resolved instructions over a memory of numbers. An Instr of the code lists below is RESOLVED: what its numbers mean here is said at its row of 'qop'. -/
def qnth {α : Type} : List α → Nat → Option α
  | [], _ => none
  | a :: _, 0 => some a
  | _ :: l, n + 1 => qnth l n
/-- memory: kinds of the objects 1, 2, .. (code, length), their ints, longs, references (0: null), cells and slots made -/
abbrev qM : Type := List (Nat × Nat) × (Nat → Nat → Int32) × (Nat → Nat → Int64) × (Nat → Nat → Nat) × Nat × Nat
abbrev qR : Type := Int32 × Int64 × qM
abbrev qF : Type := Nat → List Value → qM → Option qR
abbrev qC : Type := List (Nat × Nat × Instr)
abbrev qK : Type := Nat → List Value → List Value → qM → Option qR
/-- kind of an object: below 20 the class' number; 20 int[], 21 long[], 22 char[], 23 boolean[], 24 references -/
def qk (μ : qM) (a : Nat) : Nat × Nat := match a with
  | 0 => (99, 0)
  | a + 1 => (qnth μ.1 a).getD (99, 0)
def qI (μ : qM) (a i : Nat) : Int32 := μ.2.1 a i
def qL (μ : qM) (a i : Nat) : Int64 := μ.2.2.1 a i
def qP (μ : qM) (a i : Nat) : Nat := μ.2.2.2.1 a i
def qsI (μ : qM) (a i : Nat) (x : Int32) : qM := (μ.1, fun b j => if b = a ∧ j = i then x else μ.2.1 b j, μ.2.2)
def qsL (μ : qM) (a i : Nat) (x : Int64) : qM := (μ.1, μ.2.1, fun b j => if b = a ∧ j = i then x else μ.2.2.1 b j, μ.2.2.2)
def qsP (μ : qM) (a i : Nat) (x : Nat) : qM := (μ.1, μ.2.1, μ.2.2.1, fun b j => if b = a ∧ j = i then x else μ.2.2.2.1 b j, μ.2.2.2.2)
/-- a new object of n slots -/
def qnew (μ : qM) (c n : Nat) : qM := (μ.1 ++ [(c, n)], fun b j => if b = μ.1.length + 1 then 0 else μ.2.1 b j, fun b j => if b = μ.1.length + 1 then 0 else μ.2.2.1 b j, fun b j => if b = μ.1.length + 1 then 0 else μ.2.2.2.1 b j, μ.2.2.2.2.1 + 1, μ.2.2.2.2.2 + n)
def qcpy (μ : qM) (a0 : Nat) (sp : Nat) (a1 : Nat) (dp n : Nat) : qM := (μ.1, fun b j => if b = a1 ∧ dp ≤ j ∧ j < dp + n then μ.2.1 a0 (sp + (j - dp)) else μ.2.1 b j, μ.2.2)
/-- constants: 0 TOGETHER, 1 STRONG, 2 BOTH, 3 WITH, 4 the reference's STRONG; 10 + i the i-th String, 30 + i its bytes; 50 another reference -/
def qtabs : List (List Int32) := [[127, 63, 7, 43, 3, 11, 1], [1, 3, 7, 11, 31, 43, 127], [0, 1, 2, 3, 4, 5, 6, 1, 1, 2, 3, 4, 5, 6, 2, 2, 2, 4, 4, 6, 6, 3, 3, 4, 3, 4, 5, 6, 4, 4, 4, 4, 4, 6, 6, 5, 5, 6, 5, 6, 5, 6, 6, 6, 6, 6, 6, 6, 6], [127, 63, 7, 43, 3, 11, 1], [1, 3, 7, 11, 31, 43, 127]]
def qstrs : List (List Int32) := [[73, 83], [73, 88], [83], [83, 73, 88], [85], [88], [98, 108, 108, 108, 119, 111], [101, 102, 103], [119, 104, 97, 102, 105, 113, 120], [60, 62, 61], [43, 45], [42, 47], [102, 98, 101, 118, 119, 117, 103, 108]]
/-- kind of a constant: 1 int[], 2 String, 3 byte[], 0 other -/
def qtk (j : Nat) : Nat := if j < 5 then 1 else if 10 ≤ j ∧ j < 10 + qstrs.length then 2 else if 30 ≤ j ∧ j < 30 + qstrs.length then 3 else 0
def qtv (j : Nat) : List Int32 := if j < 5 then (qnth qtabs j).getD [] else (qnth qstrs (j - 30)).getD []
def oGetI (μ : qM) (c a k : Nat) : Option Int32 := if (qk μ a).1 = c then some (qI μ a k) else none
def oGetP (μ : qM) (c a k : Nat) : Option Nat := if (qk μ a).1 = c then some (qP μ a k) else none
def oPutI (μ : qM) (c a k : Nat) (x : Int32) : Option qM := if (qk μ a).1 = c then some (qsI μ a k x) else none
def oPutP (μ : qM) (c a k : Nat) (x : Nat) : Option qM := if (qk μ a).1 = c then some (qsP μ a k x) else none
def oLdI (t : Nat) (μ : qM) (a : Nat) (i : Int32) : Option Int32 := if (qk μ a).1 = t ∧ ¬ (i < 0 ∨ (qk μ a).2 ≤ i.toNatClampNeg) then some (qI μ a i.toNatClampNeg) else none
def oLdL (μ : qM) (a : Nat) (i : Int32) : Option Int64 := if (qk μ a).1 = 21 ∧ ¬ (i < 0 ∨ (qk μ a).2 ≤ i.toNatClampNeg) then some (qL μ a i.toNatClampNeg) else none
def oLdP (μ : qM) (a : Nat) (i : Int32) : Option Nat := if (qk μ a).1 = 24 ∧ ¬ (i < 0 ∨ (qk μ a).2 ≤ i.toNatClampNeg) then some (qP μ a i.toNatClampNeg) else none
def oStI (t : Nat) (μ : qM) (a : Nat) (i x : Int32) : Option qM := if (qk μ a).1 = t ∧ ¬ (i < 0 ∨ (qk μ a).2 ≤ i.toNatClampNeg) then some (qsI μ a i.toNatClampNeg x) else none
def oStL (μ : qM) (a : Nat) (i : Int32) (x : Int64) : Option qM := if (qk μ a).1 = 21 ∧ ¬ (i < 0 ∨ (qk μ a).2 ≤ i.toNatClampNeg) then some (qsL μ a i.toNatClampNeg x) else none
def oStP (μ : qM) (a : Nat) (i : Int32) (x : Nat) : Option qM := if (qk μ a).1 = 24 ∧ ¬ (i < 0 ∨ (qk μ a).2 ≤ i.toNatClampNeg) ∧ (qk μ x).1 = 5 then some (qsP μ a i.toNatClampNeg x) else none
def oLen (μ : qM) (a : Nat) : Option Int32 := if 20 ≤ (qk μ a).1 ∧ (qk μ a).1 ≤ 24 then some (Int32.ofNat (qk μ a).2) else none
def oTab (t j : Nat) (i : Int32) : Option Int32 := if qtk j = t ∧ ¬ (i < 0 ∨ (qtv j).length ≤ i.toNatClampNeg) then some ((qtv j).getD i.toNatClampNeg 0) else none
def oCpy (μ : qM) (a0 : Nat) (sp : Int32) (a1 : Nat) (dp n : Int32) : Option qM :=
  if ((qk μ a0).1 = 20 ∧ (qk μ a1).1 = 20) ∧ (¬ sp < 0 ∧ ¬ dp < 0 ∧ ¬ n < 0) ∧ (sp.toNatClampNeg + n.toNatClampNeg ≤ (qk μ a0).2 ∧ dp.toNatClampNeg + n.toNatClampNeg ≤ (qk μ a1).2) then some (qcpy μ a0 sp.toNatClampNeg a1 dp.toNatClampNeg n.toNatClampNeg) else none
def oNew (al : Bool) (μ : qM) (c n : Nat) : Option (Nat × qM) := if al = true then some (μ.1.length + 1, qnew μ c n) else none
def oArr (al : Bool) (μ : qM) (t : Nat) (n : Int32) : Option (Nat × qM) := if (n < 0 ∨ 100000 ≤ n.toNatClampNeg) ∨ al = false then none else some (μ.1.length + 1, qnew μ t n.toNatClampNeg)
/-- rounds of a loop, at most; depth of those that call themselves -/
noncomputable def qfu : Nat := Classical.choose (⟨10000, rfl⟩ : ∃ n : Nat, n = 10000)
theorem qfu_eq : qfu = 10000 := Classical.choose_spec (⟨10000, rfl⟩ : ∃ n : Nat, n = 10000)
noncomputable def qdp : Nat := Classical.choose (⟨120, rfl⟩ : ∃ n : Nat, n = 120)
theorem qdp_eq : qdp = 120 := Classical.choose_spec (⟨120, rfl⟩ : ∃ n : Nat, n = 120)
/-- a local is stored: a long below it is lost -/
def qst (L : List Value) (i : Nat) (v : Value) : List Value := match i with
  | 0 => L.set 0 v
  | i + 1 => match qnth L i with
    | some (.long _) => (L.set i .null).set (i + 1) v
    | some (.double _) => (L.set i .null).set (i + 1) v
    | _ => L.set (i + 1) v
def q1 (S : List Value) (f : Int32 → List Value → Option qR) : Option qR := match S with
  | .int x :: S => f x S
  | _ => none
def q2 (S : List Value) (f : Int32 → Int32 → List Value → Option qR) : Option qR := match S with
  | .int y :: .int x :: S => f x y S
  | _ => none
def ql2 (S : List Value) (f : Int64 → Int64 → List Value → Option qR) : Option qR := match S with
  | .long y :: .long x :: S => f x y S
  | _ => none
def qli (S : List Value) (f : Int64 → Int32 → List Value → Option qR) : Option qR := match S with
  | .int y :: .long x :: S => f x y S
  | _ => none
def ql1 (S : List Value) (f : Int64 → List Value → Option qR) : Option qR := match S with
  | .long x :: S => f x S
  | _ => none
def qbnd {α : Type} (o : Option α) (f : α → Option qR) : Option qR := match o with
  | some a => f a
  | none => none
def qcond (c : ClassFile.Cond) (x y : Int32) (t e : Option qR) : Option qR := match c with
  | .eq => if x = y then t else e
  | .ne => if x = y then e else t
  | .lt => if x < y then t else e
  | .ge => if y ≤ x then t else e
  | .gt => if y < x then t else e
  | .le => if x ≤ y then t else e
/-- tables of a switch: targets are rows -/
def qlook (d : Int) (ps : List (Int × Int)) (x : Int32) (k : Nat → Option qR) : Option qR := match ps with
  | [] => k d.toNat
  | (a, t) :: ps => if x = Int32.ofInt a then k t.toNat else qlook d ps x k
/-- x >>> y, unsigned -/
def qush (x y : Int32) : Int32 := (x.toUInt32 >>> (y.toUInt32 &&& Int32.toUInt32 31)).toInt32
def qnz (x : Int32) : Int32 := vp_nar .boolean x
def qnc (x : Int32) : Int32 := vp_nar .char x
def qnb (x : Int32) : Int32 := vp_nar .byte x
def qcats (S : List Value) : Nat := (S.map fun v => v.category).sum
/-- a call: n = 100 times the method, 10 times how many values it takes, and what it answers (0 nothing, 1 int, 2 long) -/
def qcall (cf : qF) (n pc : Nat) (L S : List Value) (μ : qM) (k : qK) : Option qR :=
  if qcats (S.drop (n % 100 / 10)) ≤ 8 then
    qbnd (cf (n / 100) ((S.take (n % 100 / 10)).reverse) μ) fun r => match n % 10 with
      | 0 => k (pc + 1) L (S.drop (n % 100 / 10)) r.2.2
      | 1 => k (pc + 1) L (.int r.1 :: S.drop (n % 100 / 10)) r.2.2
      | _ => k (pc + 1) L (.long r.2.1 :: S.drop (n % 100 / 10)) r.2.2
  else none
/-- a field n = 1000 times the class, 10 times its place, and its type (0 int, 2 reference, 3 boolean) -/
def qget (n pc : Nat) (L S : List Value) (μ : qM) (k : qK) : Option qR := match S with
  | .ref a :: S => if n < 2 then none else (match n % 10 with
      | 2 => qbnd (oGetP μ (n / 1000) a (n % 1000 / 10)) fun x => k (pc + 1) L (.ref x :: S) μ
      | _ => qbnd (oGetI μ (n / 1000) a (n % 1000 / 10)) fun x => k (pc + 1) L (.int x :: S) μ)
  | .retAddr j :: S => if qtk j = 2 then (match n with
      | 0 => k (pc + 1) L (.retAddr (j + 20) :: S) μ
      | 1 => k (pc + 1) L (.int 0 :: S) μ
      | _ => none) else none
  | _ => none
def qput (n pc : Nat) (L S : List Value) (μ : qM) (k : qK) : Option qR := match S with
  | .int x :: .ref a :: S => (match n % 10 with
      | 0 => qbnd (oPutI μ (n / 1000) a (n % 1000 / 10) x) fun μ => k (pc + 1) L S μ
      | 3 => if x = 0 ∨ x = 1 then qbnd (oPutI μ (n / 1000) a (n % 1000 / 10) x) fun μ => k (pc + 1) L S μ else none
      | _ => none)
  | .ref x :: .ref a :: S => if n % 10 = 2 then qbnd (oPutP μ (n / 1000) a (n % 1000 / 10) x) fun μ => k (pc + 1) L S μ else none
  | _ => none
def qld (t u pc : Nat) (L S : List Value) (μ : qM) (k : qK) : Option qR := match S with
  | .int i :: .ref a :: S => qbnd (oLdI t μ a i) fun x => k (pc + 1) L (.int x :: S) μ
  | .int i :: .retAddr j :: S => qbnd (oTab u j i) fun x => k (pc + 1) L (.int x :: S) μ
  | _ => none
def qsto (t : Nat) (w : Int32 → Int32) (pc : Nat) (L S : List Value) (μ : qM) (k : qK) : Option qR := match S with
  | .int x :: .int i :: .ref a :: S => qbnd (oStI t μ a i (w x)) fun μ => k (pc + 1) L S μ
  | _ => none
/-- one instruction; al: objects may be made (and then no array is copied) -/
def qop (al : Bool) (cf : qF) (i : Instr) (pc : Nat) (L S : List Value) (μ : qM) (k : qK) : Option qR := match i with
  -- an int constant
  | .iconst n => k (pc + 1) L (.int (Int32.ofInt n) :: S) μ
  -- a long constant
  | .goto_w n => k (pc + 1) L (.long (Int64.ofInt n) :: S) μ
  -- a constant reference
  | .jsr n => k (pc + 1) L (.retAddr n.toNat :: S) μ
  | .iload j => (match qnth L j with
      | some (.int x) => k (pc + 1) L (.int x :: S) μ
      | _ => none)
  | .lload j => (match qnth L j with
      | some (.long x) => k (pc + 1) L (.long x :: S) μ
      | _ => none)
  | .aload j => (match qnth L j with
      | some (.ref x) => k (pc + 1) L (.ref x :: S) μ
      | some (.retAddr x) => k (pc + 1) L (.retAddr x :: S) μ
      | _ => none)
  | .istore j => q1 S fun x S => k (pc + 1) (qst L j (.int x)) S μ
  | .lstore j => ql1 S fun x S => k (pc + 1) (qst (L.set (j + 1) .null) j (.long x)) S μ
  | .astore j => (match S with
      | .ref x :: S => k (pc + 1) (qst L j (.ref x)) S μ
      | .retAddr x :: S => k (pc + 1) (qst L j (.retAddr x)) S μ
      | _ => none)
  | .iinc j n => (match qnth L j with
      | some (.int x) => k (pc + 1) (qst L j (.int (x + Int32.ofInt n))) S μ
      | _ => none)
  | .iadd => q2 S fun x y S => k (pc + 1) L (.int (x + y) :: S) μ
  | .isub => q2 S fun x y S => k (pc + 1) L (.int (x - y) :: S) μ
  | .imul => q2 S fun x y S => k (pc + 1) L (.int (x * y) :: S) μ
  | .iand => q2 S fun x y S => k (pc + 1) L (.int (x &&& y) :: S) μ
  | .ior => q2 S fun x y S => k (pc + 1) L (.int (x ||| y) :: S) μ
  | .ixor => q2 S fun x y S => k (pc + 1) L (.int (x ^^^ y) :: S) μ
  | .idiv => q2 S fun x y S => if y = 0 then none else k (pc + 1) L (.int (x / y) :: S) μ
  | .irem => q2 S fun x y S => if y = 0 then none else k (pc + 1) L (.int (x - x / y * y) :: S) μ
  | .ineg => q1 S fun x S => k (pc + 1) L (.int (-x) :: S) μ
  | .ishl => q2 S fun x y S => k (pc + 1) L (.int (x <<< (y &&& 31)) :: S) μ
  | .ishr => q2 S fun x y S => k (pc + 1) L (.int (x >>> (y &&& 31)) :: S) μ
  | .iushr => q2 S fun x y S => k (pc + 1) L (.int (qush x y) :: S) μ
  | .land => ql2 S fun x y S => k (pc + 1) L (.long (x &&& y) :: S) μ
  | .lor => ql2 S fun x y S => k (pc + 1) L (.long (x ||| y) :: S) μ
  | .lshl => qli S fun x y S => k (pc + 1) L (.long (x <<< (y.toInt64 &&& 63)) :: S) μ
  | .lshr => qli S fun x y S => k (pc + 1) L (.long (x >>> (y.toInt64 &&& 63)) :: S) μ
  | .lcmp => ql2 S fun x y S => k (pc + 1) L (.int (lg_cmp x y) :: S) μ
  | .i2l => q1 S fun x S => k (pc + 1) L (.long x.toInt64 :: S) μ
  | .l2i => ql1 S fun x S => k (pc + 1) L (.int x.toInt32 :: S) μ
  | .i2c => q1 S fun x S => k (pc + 1) L (.int (x.toUInt32 % 65536).toInt32 :: S) μ
  | .dup => (match S with
      | .int x :: S => k (pc + 1) L (.int x :: .int x :: S) μ
      | .ref x :: S => k (pc + 1) L (.ref x :: .ref x :: S) μ
      | _ => none)
  | .dup2 => (match S with
      | .int x :: .ref y :: S => k (pc + 1) L (.int x :: .ref y :: .int x :: .ref y :: S) μ
      | _ => none)
  | .pop => (match S with
      | .int _ :: S => k (pc + 1) L S μ
      | .ref _ :: S => k (pc + 1) L S μ
      | _ => none)
  -- the constructor of Object
  | .pop2 => (match S with
      | .ref a :: S => if 0 < a ∧ qcats S ≤ 8 then k (pc + 1) L S μ else none
      | _ => none)
  | .ifCond c t => q1 S fun x S => qcond c x 0 (k t.toNat L S μ) (k (pc + 1) L S μ)
  | .if_icmp c t => q2 S fun x y S => qcond c x y (k t.toNat L S μ) (k (pc + 1) L S μ)
  | .goto t => k t.toNat L S μ
  | .lookupswitch d ps => q1 S fun x S => qlook d ps.toList x fun t => k t L S μ
  | .getfield n => qget n pc L S μ k
  | .putfield n => qput n pc L S μ k
  | .iaload => qld 20 1 pc L S μ k
  | .caload => qld 22 9 pc L S μ k
  -- of a boolean[]; of a constant byte[]
  | .baload => qld 23 3 pc L S μ k
  | .laload => (match S with
      | .int i :: .ref a :: S => qbnd (oLdL μ a i) fun x => k (pc + 1) L (.long x :: S) μ
      | _ => none)
  | .aaload => (match S with
      | .int i :: .ref a :: S => qbnd (oLdP μ a i) fun x => k (pc + 1) L (.ref x :: S) μ
      | _ => none)
  | .iastore => qsto 20 (fun x => x) pc L S μ k
  | .castore => if al = true then none else qsto 22 qnc pc L S μ k
  | .bastore => if al = true then none else qsto 23 qnz pc L S μ k
  | .lastore => (match S with
      | .long x :: .int i :: .ref a :: S => if al = true then none else qbnd (oStL μ a i x) fun μ => k (pc + 1) L S μ
      | _ => none)
  | .aastore => (match S with
      | .ref x :: .int i :: .ref a :: S => qbnd (oStP μ a i x) fun μ => k (pc + 1) L S μ
      | _ => none)
  | .arraylength => (match S with
      | .ref a :: S => qbnd (oLen μ a) fun x => k (pc + 1) L (.int x :: S) μ
      | .retAddr j :: S => if qtk j = 1 ∨ qtk j = 3 then k (pc + 1) L (.int (Int32.ofNat (qtv j).length) :: S) μ else none
      | _ => none)
  -- n = 100 times the class, and how many fields
  | .new n => qbnd (oNew al μ (n / 100) (n % 100)) fun r => k (pc + 1) L (.ref r.1 :: S) r.2
  -- the kind 20 .. 23, and of references 24
  | .anewarray n => q1 S fun x S => qbnd (oArr al μ n x) fun r => k (pc + 1) L (.ref r.1 :: S) r.2
  | .invokestatic n => qcall cf n pc L S μ k
  -- Math.min, Math.max of ints
  | .fmul => q2 S fun x y S => if qcats S ≤ 8 then k (pc + 1) L (.int (if y < x then y else x) :: S) μ else none
  | .fadd => q2 S fun x y S => if qcats S ≤ 8 then k (pc + 1) L (.int (if x < y then y else x) :: S) μ else none
  -- System.arraycopy of int[]
  | .multianewarray _ _ => (match S with
      | .int n :: .int dp :: .ref a1 :: .int sp :: .ref a0 :: S => if al = false ∧ qcats S ≤ 8 then qbnd (oCpy μ a0 sp a1 dp n) fun μ => k (pc + 1) L S μ else none
      | _ => none)
  -- the end: int, boolean (freturn), char (dreturn), byte (areturn), long, nothing
  | .ireturn => (match S with
      | [.int x] => some (x, 0, μ)
      | _ => none)
  | .freturn => (match S with
      | [.int x] => if qnz x = x then some (x, 0, μ) else none
      | _ => none)
  | .dreturn => (match S with
      | [.int x] => if qnc x = x then some (x, 0, μ) else none
      | _ => none)
  | .areturn => (match S with
      | [.int x] => if qnb x = x then some (x, 0, μ) else none
      | _ => none)
  | .lreturn => (match S with
      | [.long x] => some (0, x, μ)
      | _ => none)
  | .return_ => (match S with
      | [] => some (0, 0, μ)
      | _ => none)
  | _ => none
def qstep (al : Bool) (cf : qF) (cd : qC) (pc : Nat) (L S : List Value) (μ : qM) (k : qK) : Option qR := match qnth cd pc with
  | some (_, _, i) => qop al cf i pc L S μ k
  | none => none
/-- n steps, to the method's end -/
def qrun (al : Bool) (cf : qF) (cd : qC) : Nat → qK
  | 0 => fun _ _ _ _ => none
  | n + 1 => fun pc L S μ => qstep al cf cd pc L S μ (qrun al cf cd n)
/-- up to n steps, to the method's end or to a row of 'st', where K answers -/
def qblk (al : Bool) (cf : qF) (cd : qC) (st : Nat → Bool) (K : qK) : Nat → qK
  | 0 => fun _ _ _ _ => none
  | n + 1 => fun pc L S μ => qstep al cf cd pc L S μ fun pc' L' S' μ' => if st pc' = true then K pc' L' S' μ' else qblk al cf cd st K n pc' L' S' μ'
def qin (l : List Nat) (n : Nat) : Bool := match l with
  | [] => false
  | a :: l => if a = n then true else qin l n
/-- what a method starts with -/
def qent : List Value → Nat → List Value
  | [], n => List.replicate n .null
  | .long x :: vs, n => .long x :: .null :: qent vs (n - 2)
  | v :: vs, n => v :: qent vs (n - 1)
end
section
/-! THE WORLD: how a memory of the pure machine lies in the heap. The k-th object made lies at base + k. -/
def qA (base : Nat) : Nat → Prop := fun q => base ≤ q
/-- a value of the pure machine as the machine has it -/
def qtr (base : Nat) (cv : Nat → Value) : Value → Value
  | .ref 0 => .null
  | .ref (k + 1) => .ref (base + k)
  | .retAddr j => cv j
  | v => v
def qopt (base : Nat) : Nat → Option Nat
  | 0 => none
  | k + 1 => some (base + k)
theorem qopt_tr (base : Nat) (cv : Nat → Value) (x : Nat) : va_rf (qopt base x) = qtr base cv (.ref x) := by cases x <;> rfl
/-- classes: the fields' types (0 int, 2 reference, 3 boolean) -/
def qftys : List (List Nat) := [[2, 2, 2, 2, 0], [2, 0, 0], [2, 2, 2, 2], [2, 0], [2, 2, 2, 0, 0, 0, 0, 0, 3], [2, 2, 2, 2, 2, 2, 2, 2, 2, 2, 0, 0, 0], [2, 0], [2, 2, 2, 2, 2, 2, 2, 2, 2, 2], [0, 0, 2, 2, 0, 0, 0, 0, 2, 2, 0, 0, 2, 2, 2, 2, 0, 2, 0, 2, 2, 2, 2, 2, 0, 0, 2, 2, 0, 2, 2]]
def qfty (c j : Nat) : Nat := (qnth ((qnth qftys c).getD []) j).getD 0
def qfn (c : Nat) : Nat := ((qnth qftys c).getD []).length
def qcl (c : Nat) : vw_C := (qnth vwCl c).getD (RX0, TX0, 5)
def qtyF (c : Nat) : Nat → FieldType := match c with
  | 0 => tyX0
  | 1 => tyX1
  | 2 => tyX2
  | 3 => tyX3
  | 4 => tyX4
  | 5 => tyX5
  | 6 => tyX6
  | 7 => tyX7
  | _ => tyX8
def qslot (base : Nat) (cv : Nat → Value) (μ : qM) (k c j : Nat) : Value := if qfty c j = 2 then qtr base cv (.ref (qP μ (k + 1) j)) else .int (qI μ (k + 1) j)
/-- the array classes by their kinds -/
def qE (base : Nat) (ca : Nat → ClassId) (cv : Nat → Value) (μ : qM) (k : Nat) : va_E := match qnth μ.1 k with
  | none => .inr (0, [])
  | some (c, n) =>
    if c < 20 then .inr (c, (List.range (qfn c)).map (qslot base cv μ k c))
    else if c = 21 then .inl (ca 21, n, .inr (.inl (qL μ (k + 1))))
    else if c = 24 then .inl (ca 24, n, .inr (.inr (.inr (.inr fun j => qopt base (qP μ (k + 1) j)))))
    else .inl (ca c, n, .inl (qI μ (k + 1)))
def qW (base : Nat) (ca : Nat → ClassId) (cv : Nat → Value) (μ : qM) : va_W := (List.range μ.1.length).map fun k => (base + k, qE base ca cv μ k)
def qtys (ca : Nat → ClassId) : List (ClassId × FieldType) := [(ca 20, .int), (ca 21, .long), (ca 22, .char), (ca 23, .boolean), (ca 24, .object "LockLadder$State")]
theorem qnth_eq {α : Type} (l : List α) (n : Nat) : qnth l n = l[n]? := by
  induction l generalizing n with
  | nil => cases n <;> rfl
  | cons a l ih => cases n with
    | zero => rfl
    | succ n => simpa [qnth] using ih n
theorem qnth_lt {α : Type} {l : List α} {n : Nat} {a : α} (h : qnth l n = some a) : n < l.length := by
  rw [qnth_eq] at h
  exact (List.getElem?_eq_some_iff.mp h).1
theorem qk_some {μ : qM} {a c n : Nat} (h : qk μ a = (c, n)) (hc : c ≠ 99) : ∃ k, a = k + 1 ∧ qnth μ.1 k = some (c, n) := by
  cases a with
  | zero => simp only [qk, Prod.mk.injEq] at h; exact absurd h.1.symm hc
  | succ k =>
    refine ⟨k, rfl, ?_⟩
    simp only [qk] at h
    cases hq : qnth μ.1 k with
    | none => rw [hq] at h; simp only [Option.getD_none, Prod.mk.injEq] at h; exact absurd h.1.symm hc
    | some z => rw [hq] at h; simp only [Option.getD_some] at h; rw [h]
theorem qk_at {μ : qM} {a c : Nat} (h : (qk μ a).1 = c) (hc : c ≠ 99) : ∃ k, a = k + 1 ∧ qnth μ.1 k = some (c, (qk μ a).2) :=
  qk_some (by rw [← h]) hc
theorem qW_get {base : Nat} {ca : Nat → ClassId} {cv : Nat → Value} {μ : qM} {k : Nat} {z : Nat × Nat} (h : qnth μ.1 k = some z) : (qW base ca cv μ)[k]? = some (base + k, qE base ca cv μ k) := by
  have hl := qnth_lt h
  simp [qW, hl]
/-- one object is written -/
theorem qW_set {base : Nat} {ca : Nat → ClassId} {cv : Nat → Value} {μ μ' : qM} {k : Nat} {e : va_E} (h1 : μ'.1 = μ.1) (hk : qE base ca cv μ' k = e) (h2 : ∀ i, i ≠ k → qE base ca cv μ' i = qE base ca cv μ i) : (qW base ca cv μ).set k (base + k, e) = qW base ca cv μ' := by
  apply List.ext_getElem?
  intro i
  rw [List.getElem?_set]
  by_cases hi : k = i
  · subst hi
    rw [if_pos rfl]
    by_cases hl : k < (qW base ca cv μ).length
    · rw [if_pos hl]
      have hl2 : k < μ.1.length := by simpa [qW] using hl
      simp [qW, h1, hl2, hk]
    · rw [if_neg hl]
      have hl2 : ¬ k < μ.1.length := by simpa [qW] using hl
      simp [qW, h1, Nat.not_lt.mp hl2]
  · rw [if_neg hi]
    by_cases hl2 : i < μ.1.length
    · simp [qW, h1, hl2, h2 i (fun e => hi e.symm)]
    · simp [qW, h1, Nat.not_lt.mp hl2]
theorem qD (base : Nat) (ca : Nat → ClassId) (cv : Nat → Value) (μ : qM) : va_D (qA base) (qW base ca cv μ) := by
  have key : ∀ (k : Nat) (q : Nat × va_E), (qW base ca cv μ)[k]? = some q → q.1 = base + k := by
    intro k q h
    simp only [qW, List.getElem?_map, Option.map_eq_some_iff] at h
    obtain ⟨a, h1, rfl⟩ := h
    rw [List.getElem?_eq_some_iff] at h1
    obtain ⟨h1, h2⟩ := h1
    simp at h2
    simp [h2]
  refine ⟨fun i j p q hi hj e => ?_, fun k q h => ?_⟩
  · have := key i p hi
    have := key j q hj
    omega
  · have := key k q h
    simp only [qA]
    omega
theorem qE_I {base : Nat} {ca : Nat → ClassId} {cv : Nat → Value} {μ : qM} {a i : Nat} {x : Int32} {k : Nat} (h : k + 1 ≠ a) : qE base ca cv (qsI μ a i x) k = qE base ca cv μ k := by
  have hI : ∀ j, qI (qsI μ a i x) (k + 1) j = qI μ (k + 1) j := fun j => by simp [qI, qsI, h]
  have hI' : qI (qsI μ a i x) (k + 1) = qI μ (k + 1) := funext hI
  unfold qE
  rw [hI']
  have hs : qslot base cv (qsI μ a i x) k = qslot base cv μ k := by
    funext c j
    simp only [qslot, hI]
    rfl
  rw [hs]
  rfl
theorem qE_L {base : Nat} {ca : Nat → ClassId} {cv : Nat → Value} {μ : qM} {a i : Nat} {x : Int64} {k : Nat} (h : k + 1 ≠ a) : qE base ca cv (qsL μ a i x) k = qE base ca cv μ k := by
  have hI' : qL (qsL μ a i x) (k + 1) = qL μ (k + 1) := funext fun j => by simp [qL, qsL, h]
  unfold qE
  rw [hI']
  rfl
theorem qE_P {base : Nat} {ca : Nat → ClassId} {cv : Nat → Value} {μ : qM} {a i x : Nat} {k : Nat} (h : k + 1 ≠ a) : qE base ca cv (qsP μ a i x) k = qE base ca cv μ k := by
  have hI : ∀ j, qP (qsP μ a i x) (k + 1) j = qP μ (k + 1) j := fun j => by simp [qP, qsP, h]
  have hI' : qP (qsP μ a i x) (k + 1) = qP μ (k + 1) := funext hI
  unfold qE
  rw [hI']
  have hs : qslot base cv (qsP μ a i x) k = qslot base cv μ k := by
    funext c j
    simp only [qslot, hI]
    rfl
  rw [hs]
  rfl
theorem qE_C {base : Nat} {ca : Nat → ClassId} {cv : Nat → Value} {μ : qM} {a0 sp a1 dp n : Nat} {k : Nat} (h : k + 1 ≠ a1) : qE base ca cv (qcpy μ a0 sp a1 dp n) k = qE base ca cv μ k := by
  have hI : ∀ j, qI (qcpy μ a0 sp a1 dp n) (k + 1) j = qI μ (k + 1) j := fun j => by simp [qI, qcpy, h]
  have hI' : qI (qcpy μ a0 sp a1 dp n) (k + 1) = qI μ (k + 1) := funext hI
  unfold qE
  rw [hI']
  have hs : qslot base cv (qcpy μ a0 sp a1 dp n) k = qslot base cv μ k := by
    funext c j
    simp only [qslot, hI]
    rfl
  rw [hs]
  rfl
/-- the words of every method: all that the tables give and that calls may hand on -/
def qG : List Cond := lw_tbl.filter goodWord
theorem qG_in {w : Cond} (h : w ∈ lw_tbl) (hg : goodWord w = true) : w ∈ qG := List.mem_filter.mpr ⟨h, hg⟩
theorem qG_good {w : Cond} (h : w ∈ qG) : (w.onTables && w.keeps) = true ∨ ∃ ty, w = .arrayClass ty := good_of_word (List.mem_filter.mp h).2
theorem qG_sub (ws : List Cond) (h : ∀ w ∈ ws, w ∈ qG) : GoodIn qG ws := fun w hw => ⟨h w hw, qG_good (h w hw)⟩
def qnest : List Cond := [.methodLinkNest "LockLadder" (9) ⟨"LockLadder$Desk", "<init>", "()V"⟩ "LockLadder", .methodLinkNest "LockLadder$Desk" (20) ⟨"LockLadder$Links", "<init>", "()V"⟩ "LockLadder", .methodLinkNest "LockLadder" (46) ⟨"LockLadder$Text", "<init>", "()V"⟩ "LockLadder", .methodLinkNest "LockLadder" (53) ⟨"LockLadder$Row", "<init>", "()V"⟩ "LockLadder", .methodLinkNest "LockLadder" (60) ⟨"LockLadder$Rule", "<init>", "()V"⟩ "LockLadder", .methodLinkNest "LockLadder$Rule" (74) ⟨"LockLadder", "isDigit", "(I)Z"⟩ "LockLadder", .methodLinkNest "LockLadder$Desk" (65) ⟨"LockLadder", "isOwner", "(I)Z"⟩ "LockLadder", .methodLinkNest "LockLadder$Desk" (89) ⟨"LockLadder", "isPlace", "(I)Z"⟩ "LockLadder", .methodLinkNest "LockLadder$Desk" (92) ⟨"LockLadder", "isLockMode", "(I)Z"⟩ "LockLadder", .methodLinkNest "LockLadder$State" (68) ⟨"LockLadder", "levelOf", "(I)I"⟩ "LockLadder", .methodLinkNest "LockLadder$State" (72) ⟨"LockLadder", "onPath", "(II)I"⟩ "LockLadder", .methodLinkNest "LockLadder$Desk" (183) ⟨"LockLadder", "levelOf", "(I)I"⟩ "LockLadder", .methodLinkNest "LockLadder$Desk" (186) ⟨"LockLadder", "onPath", "(II)I"⟩ "LockLadder", .fieldLinkNest "LockLadder$Desk" (189) "LockLadder" "BOTH" "[I" "LockLadder", .methodLinkNest "LockLadder$Desk" (192) ⟨"LockLadder", "stepMode", "(III)I"⟩ "LockLadder", .fieldLinkNest "LockLadder$State" (79) "LockLadder" "TOGETHER" "[I" "LockLadder", .fieldLinkNest "LockLadder$State" (65) "LockLadder" "BOTH" "[I" "LockLadder", .methodLinkNest "LockLadder$Text" (23) ⟨"LockLadder", "isDigit", "(I)Z"⟩ "LockLadder", .methodLinkNest "LockLadder$State" (82) ⟨"LockLadder", "stepMode", "(III)I"⟩ "LockLadder"]
/-- the classes and names of the constant arrays; of each String the class, the entry and the text -/
def qtabn : List (String × String) := [("LockLadder", "TOGETHER"), ("LockLadder", "STRONG"), ("LockLadder", "BOTH"), ("LockLadderModel", "WITH"), ("LockLadderModel", "STRONG")]
def qstrk : List (String × Nat × String) := [("LockLadder$Text", 37, "IS"), ("LockLadder$Text", 43, "IX"), ("LockLadder$Text", 45, "S"), ("LockLadder$Text", 47, "SIX"), ("LockLadder$Text", 49, "U"), ("LockLadder$Text", 51, "X"), ("LockLadder", 324, "blllwo"), ("LockLadder", 335, "efg"), ("LockLadderModel", 113, "whafiqx"), ("LockLadderModel", 122, "<>="), ("LockLadderModel", 124, "+-"), ("LockLadderModel", 126, "*/"), ("LockLadderModel", 395, "fbevwugl")]
/-- what doesn't change: constants' arrays, Strings, what the tables say of mates of a nest, and of exceptions -/
def qSt (base : Nat) (cv : Nat → Value) (U : State) (H : Heap) : Prop :=
  (∀ j, j < 5 → va_Z ((qnth qtabn j).getD ("", "")).1 ((qnth qtabn j).getD ("", "")).2 "[I" (cv j) (qA base) U H ∧ ∃ t, cv j = .ref t ∧ va_T .int t (qtv j).length (fun i => .int ((qtv j).getD i 0)) (qA base) U H) ∧
  (∀ i, i < 13 → ∃ q v, cv (10 + i) = .ref q ∧ cv (30 + i) = .ref v ∧ vk_R ((qnth qstrk i).getD ("", 0, "")).1 ((qnth qstrk i).getD ("", 0, "")).2.1 ((qnth qstrk i).getD ("", 0, "")).2.2 q U ∧ va_O "java/lang/String" q (qA base) U H ∧ va_OF "java/lang/String" "coder" "B" (.int 0) q (qA base) U H ∧ va_OF "java/lang/String" "value" "[B" (.ref v) q (qA base) U H ∧ va_T .byte v (qtv (30 + i)).length (fun k => .int ((qtv (30 + i)).getD k 0)) (qA base) U H) ∧
  va_Z "java/lang/String" "COMPACT_STRINGS" "Z" (.int 1) (qA base) U H ∧
  ((∃ t, cv 50 = va_rf t) ∧ va_Z "jdk/internal/util/Preconditions" "SIOOBE_FORMATTER" "Ljava/util/function/BiFunction;" (cv 50) (qA base) U H) ∧
  (∀ j, cv j = .null ∨ ∃ a, cv j = .ref a) ∧ (∀ w ∈ qnest, va_Nw w U) ∧ va_AO "LockLadder$State" U ∧
  vx_Zq Bundle.tN "UNASSIGNED_STACK" Bundle.steD (qA base) U H ∧ vx_Zq Bundle.tN "SUPPRESSED_SENTINEL" Bundle.listD (qA base) U H
theorem qSt.moved {base : Nat} {cv : Nat → Value} {u U : State} {H : Heap} (hW : u.WarmedH U.vm) (h : qSt base cv u H) : qSt base cv U H := by
  obtain ⟨h1, h2, h3, h4, h9, h5, h8, h6, h7⟩ := h
  have hvm := hW.alike
  refine ⟨fun j hj => ⟨va_Z.moved hvm (h1 j hj).1, ?_⟩, fun i hi => ?_, va_Z.moved hvm h3, ⟨h4.1, va_Z.moved hvm h4.2⟩, h9, fun w hw => ?_, va_AO.moved hvm h8, vx_Zq.moved hvm h6, vx_Zq.moved hvm h7⟩
  · obtain ⟨t, e1, e2⟩ := (h1 j hj).2
    exact ⟨t, e1, va_T.moved hvm e2⟩
  · obtain ⟨q, v, e1, e2, e3, e4, e5, e6, e7⟩ := h2 i hi
    exact ⟨q, v, e1, e2, vk_R.warm hW e3, va_O.moved hvm e4, va_OF.moved hvm e5, va_OF.moved hvm e6, va_T.moved hvm e7⟩
  · have := h5 w hw
    simp only [qnest, List.mem_cons, List.not_mem_nil, or_false] at hw
    rcases hw with rfl | rfl | rfl | rfl | rfl | rfl | rfl | rfl | rfl | rfl | rfl | rfl | rfl | rfl | rfl | rfl | rfl | rfl | rfl <;> first | exact va_Nw.warmM hW this | exact va_Nw.warmF hW this
theorem qSt.same {base : Nat} {cv : Nat → Value} {u U : State} {H : Heap} (hv : U.vm = u.vm) (h : qSt base cv u H) : qSt base cv U H := by
  obtain ⟨h1, h2, h3, h4, h9, h5, h8, h6, h7⟩ := h
  have hvm : u.vm.Alike U.vm := by rw [hv]; exact Vm.Alike.refl _
  refine ⟨fun j hj => ⟨va_Z.moved hvm (h1 j hj).1, ?_⟩, fun i hi => ?_, va_Z.moved hvm h3, ⟨h4.1, va_Z.moved hvm h4.2⟩, h9, fun w hw => ?_, va_AO.moved hvm h8, vx_Zq.moved hvm h6, vx_Zq.moved hvm h7⟩
  · obtain ⟨t, e1, e2⟩ := (h1 j hj).2
    exact ⟨t, e1, va_T.moved hvm e2⟩
  · obtain ⟨q, v, e1, e2, e3, e4, e5, e6, e7⟩ := h2 i hi
    exact ⟨q, v, e1, e2, vk_R.same hv e3, va_O.moved hvm e4, va_OF.moved hvm e5, va_OF.moved hvm e6, va_T.moved hvm e7⟩
  · have := h5 w hw
    simp only [qnest, List.mem_cons, List.not_mem_nil, or_false] at hw
    rcases hw with rfl | rfl | rfl | rfl | rfl | rfl | rfl | rfl | rfl | rfl | rfl | rfl | rfl | rfl | rfl | rfl | rfl | rfl | rfl <;> exact va_Nw.same rfl hv.symm this
theorem qSt.kept {base : Nat} {cv : Nat → Value} {U : State} {H H1 : Heap} (hq : ∀ a : Nat, a < H.size → ¬ qA base a → H1[a]? = H[a]?) (h : qSt base cv U H) : qSt base cv U H1 := by
  obtain ⟨h1, h2, h3, h4, h9, h5, h8, h6, h7⟩ := h
  refine ⟨fun j hj => ⟨(h1 j hj).1.kept hq, ?_⟩, fun i hi => ?_, h3.kept hq, ⟨h4.1, h4.2.kept hq⟩, h9, h5, h8, vx_Zq.kept h6 hq, vx_Zq.kept h7 hq⟩
  · obtain ⟨t, e1, e2⟩ := (h1 j hj).2
    exact ⟨t, e1, e2.kept hq⟩
  · obtain ⟨q, v, e1, e2, e3, e4, e5, e6, e7⟩ := h2 i hi
    exact ⟨q, v, e1, e2, e3, e4.kept hq, e5.kept hq, e6.kept hq, e7.kept hq⟩
theorem qSt_cv {base : Nat} {cv : Nat → Value} {U : State} {H : Heap} (h : qSt base cv U H) (j : Nat) : qtr base cv (.retAddr j) = .null ∨ ∃ a, qtr base cv (.retAddr j) = .ref a := h.2.2.2.2.1 j
/-- the memory μ lies in the state U -/
def qRep (al : Bool) (base : Nat) (D : va_G) (ca : Nat → ClassId) (cv : Nat → Value) (μ : qM) (U : State) : Prop :=
  va_P D vwCl (qW base ca cv μ) U.heap ∧ va_K D vwCl (qtys ca) U ∧ qSt base cv U U.heap ∧ base ≤ U.heap.size ∧ (al = true → U.heap.size = base + μ.1.length)
/-- the machine's locals hold at least these -/
def qLs (base : Nat) (cv : Nat → Value) (ls : Array Slot) (nL : Nat) (L : List Value) : Prop :=
  ls.size = nL ∧ L.length = nL ∧ lv_wf ls ∧ ∀ i v, qnth L i = some v → v ≠ .null → ls[i]? = some (.val (qtr base cv v))
end
section
/-! THE TABLES: which class is whose, what the entries of the constant pools are, the methods -/
def qown (o : Nat) : String := (qnth ["LockLadder$Desk", "LockLadder$History", "LockLadder$Links", "LockLadder$Row", "LockLadder$Rule", "LockLadder$State", "LockLadder$Text", "LockLadder", "LockLadderModel", "LockLadderLaw", "java/lang/String", "java/lang/StringLatin1", "jdk/internal/util/Preconditions", "java/lang/Integer", "java/lang/Math", "java/lang/StringUTF16"] o).getD ""
def qcX0_init : qC := [(0, 1, .aload 0), (1, 3, .pop2), (4, 1, .aload 0), (5, 3, .new 513), (8, 1, .dup), (9, 3, .invokestatic 5210), (12, 3, .putfield 2), (15, 1, .aload 0), (16, 3, .new 204), (19, 1, .dup), (20, 3, .invokestatic 2410), (23, 3, .putfield 12), (26, 1, .aload 0), (27, 2, .iconst 8), (29, 2, .anewarray 20), (31, 3, .putfield 22), (34, 1, .aload 0), (35, 2, .iconst 85), (37, 2, .anewarray 20), (39, 3, .putfield 32), (42, 1, .return_)]
def qcX0_draw : qC := [(0, 1, .aload 0), (1, 1, .aload 0), (2, 3, .getfield 40), (5, 2, .iconst 1103515245), (7, 1, .imul), (8, 3, .iconst 12345), (11, 1, .iadd), (12, 3, .putfield 40), (15, 1, .iload 1), (16, 1, .iconst 1), (17, 3, .if_icmp .ge 13), (20, 1, .iconst 0), (21, 3, .goto 19), (24, 1, .aload 0), (25, 3, .getfield 40), (28, 2, .iconst 16), (30, 1, .iushr), (31, 1, .iload 1), (32, 1, .irem), (33, 1, .ireturn)]
def qcX0_act : qC := [(0, 1, .iload 1), (1, 103, .lookupswitch 39 #[(98, 2), (101, 22), (102, 31), (103, 26), (108, 11), (117, 17), (118, 35), (119, 6)]), (104, 1, .aload 0), (105, 1, .iload 2), (106, 3, .invokestatic 321), (109, 1, .ireturn), (110, 1, .aload 0), (111, 1, .iload 2), (112, 1, .iload 3), (113, 3, .invokestatic 431), (116, 1, .ireturn), (117, 1, .aload 0), (118, 1, .iload 2), (119, 1, .iload 3), (120, 2, .iload 4), (122, 3, .invokestatic 541), (125, 1, .ireturn), (126, 1, .aload 0), (127, 1, .iload 2), (128, 1, .iload 3), (129, 3, .invokestatic 631), (132, 1, .ireturn), (133, 1, .aload 0), (134, 1, .iload 2), (135, 3, .invokestatic 721), (138, 1, .ireturn), (139, 1, .aload 0), (140, 1, .iload 2), (141, 1, .iload 3), (142, 3, .invokestatic 831), (145, 1, .ireturn), (146, 1, .aload 0), (147, 2, .aload 5), (149, 3, .invokestatic 1021), (152, 1, .ireturn), (153, 1, .aload 0), (154, 1, .iload 2), (155, 3, .invokestatic 921), (158, 1, .ireturn), (159, 1, .iconst (-1)), (160, 1, .ireturn)]
def qcX0_start : qC := [(0, 1, .iload 1), (1, 3, .invokestatic 13111), (4, 3, .ifCond .ne 5), (7, 1, .iconst (-1)), (8, 1, .ireturn), (9, 1, .aload 0), (10, 3, .getfield 2), (13, 3, .getfield 5012), (16, 1, .iload 1), (17, 1, .iaload), (18, 3, .ifCond .eq 13), (21, 2, .iconst (-2)), (23, 1, .ireturn), (24, 1, .aload 0), (25, 3, .getfield 2), (28, 1, .dup), (29, 3, .getfield 5110), (32, 1, .iconst 1), (33, 1, .iadd), (34, 3, .putfield 5110), (37, 1, .aload 0), (38, 3, .getfield 2), (41, 3, .getfield 5012), (44, 1, .iload 1), (45, 1, .iconst 1), (46, 1, .iastore), (47, 1, .aload 0), (48, 3, .getfield 2), (51, 3, .getfield 5022), (54, 1, .iload 1), (55, 1, .aload 0), (56, 3, .getfield 2), (59, 3, .getfield 5110), (62, 1, .iastore), (63, 1, .aload 0), (64, 3, .getfield 2), (67, 3, .getfield 5110), (70, 1, .ireturn)]
def qcX0_labour : qC := [(0, 1, .iload 1), (1, 3, .invokestatic 13111), (4, 3, .ifCond .eq 9), (7, 1, .iload 2), (8, 1, .iconst 1), (9, 3, .if_icmp .lt 9), (12, 1, .iload 2), (13, 2, .iconst 9), (15, 3, .if_icmp .le 11), (18, 1, .iconst (-1)), (19, 1, .ireturn), (20, 1, .aload 0), (21, 3, .getfield 2), (24, 3, .getfield 5012), (27, 1, .iload 1), (28, 1, .iaload), (29, 1, .iconst 1), (30, 3, .if_icmp .eq 22), (33, 1, .aload 0), (34, 1, .iload 1), (35, 3, .invokestatic 1421), (38, 1, .ireturn), (39, 1, .aload 0), (40, 3, .getfield 2), (43, 3, .getfield 5032), (46, 1, .iload 1), (47, 2, .iconst 99), (49, 1, .aload 0), (50, 3, .getfield 2), (53, 3, .getfield 5032), (56, 1, .iload 1), (57, 1, .iaload), (58, 1, .iload 2), (59, 1, .iadd), (60, 3, .fmul), (63, 1, .iastore), (64, 1, .aload 0), (65, 3, .getfield 2), (68, 3, .getfield 5032), (71, 1, .iload 1), (72, 1, .iaload), (73, 1, .ireturn)]
def qcX0_lock : qC := [(0, 1, .iload 1), (1, 3, .invokestatic 13111), (4, 3, .ifCond .eq 9), (7, 1, .iload 2), (8, 3, .invokestatic 13211), (11, 3, .ifCond .eq 9), (14, 1, .iload 3), (15, 3, .invokestatic 13411), (18, 3, .ifCond .ne 11), (21, 1, .iconst (-1)), (22, 1, .ireturn), (23, 1, .aload 0), (24, 3, .getfield 2), (27, 3, .getfield 5012), (30, 1, .iload 1), (31, 1, .iaload), (32, 1, .iconst 1), (33, 3, .if_icmp .eq 22), (36, 1, .aload 0), (37, 1, .iload 1), (38, 3, .invokestatic 1421), (41, 1, .ireturn), (42, 1, .aload 0), (43, 3, .getfield 2), (46, 1, .iload 1), (47, 1, .iload 2), (48, 1, .iload 3), (49, 3, .invokestatic 6541), (52, 3, .ifCond .eq 31), (55, 1, .iconst 1), (56, 1, .ireturn), (57, 1, .aload 0), (58, 3, .getfield 2), (61, 3, .getfield 5082), (64, 1, .iload 1), (65, 1, .iload 2), (66, 1, .iastore), (67, 1, .aload 0), (68, 3, .getfield 2), (71, 3, .getfield 5092), (74, 1, .iload 1), (75, 1, .iload 3), (76, 1, .iastore), (77, 1, .aload 0), (78, 1, .iload 1), (79, 1, .iconst 0), (80, 1, .iconst 0), (81, 3, .invokestatic 1841), (84, 1, .ireturn)]
def qcX0_unlock : qC := [(0, 1, .iload 1), (1, 3, .invokestatic 13111), (4, 3, .ifCond .eq 6), (7, 1, .iload 2), (8, 3, .invokestatic 13211), (11, 3, .ifCond .ne 8), (14, 1, .iconst (-1)), (15, 1, .ireturn), (16, 1, .aload 0), (17, 3, .getfield 2), (20, 3, .getfield 5012), (23, 1, .iload 1), (24, 1, .iaload), (25, 1, .iconst 1), (26, 3, .if_icmp .eq 19), (29, 1, .aload 0), (30, 1, .iload 1), (31, 3, .invokestatic 1421), (34, 1, .ireturn), (35, 1, .aload 0), (36, 3, .getfield 2), (39, 1, .iload 1), (40, 1, .iload 2), (41, 3, .invokestatic 5431), (44, 3, .ifCond .ne 27), (47, 2, .iconst (-4)), (49, 1, .ireturn), (50, 1, .aload 0), (51, 3, .getfield 2), (54, 1, .iload 1), (55, 1, .iload 2), (56, 3, .invokestatic 6231), (59, 3, .ifCond .le 35), (62, 2, .iconst (-5)), (64, 1, .ireturn), (65, 1, .aload 0), (66, 3, .getfield 2), (69, 1, .iload 1), (70, 1, .iload 2), (71, 1, .iconst 0), (72, 3, .invokestatic 5540), (75, 1, .aload 0), (76, 1, .iload 2), (77, 1, .iconst 0), (78, 3, .invokestatic 1730), (81, 1, .iconst 0), (82, 1, .ireturn)]
def qcX0_finish : qC := [(0, 1, .iload 1), (1, 3, .invokestatic 13111), (4, 3, .ifCond .ne 5), (7, 1, .iconst (-1)), (8, 1, .ireturn), (9, 1, .aload 0), (10, 3, .getfield 2), (13, 3, .getfield 5012), (16, 1, .iload 1), (17, 1, .iaload), (18, 3, .ifCond .ne 13), (21, 2, .iconst (-2)), (23, 1, .ireturn), (24, 1, .aload 0), (25, 3, .getfield 2), (28, 1, .iload 1), (29, 1, .iconst 0), (30, 3, .invokestatic 5831), (33, 1, .istore 2), (34, 1, .aload 0), (35, 1, .iload 1), (36, 3, .invokestatic 1320), (39, 1, .iload 2), (40, 1, .ireturn)]
def qcX0_collect : qC := [(0, 1, .iload 1), (1, 3, .invokestatic 13111), (4, 3, .ifCond .eq 8), (7, 1, .iload 2), (8, 3, .ifCond .lt 8), (11, 1, .iload 2), (12, 2, .iconst 21), (14, 3, .if_icmp .lt 10), (17, 1, .iconst (-1)), (18, 1, .ireturn), (19, 1, .aload 0), (20, 3, .getfield 2), (23, 3, .getfield 5012), (26, 1, .iload 1), (27, 1, .iaload), (28, 1, .iconst 1), (29, 3, .if_icmp .eq 21), (32, 1, .aload 0), (33, 1, .iload 1), (34, 3, .invokestatic 1421), (37, 1, .ireturn), (38, 1, .aload 0), (39, 3, .getfield 2), (42, 1, .iload 1), (43, 1, .iload 2), (44, 3, .invokestatic 6231), (47, 1, .istore 3), (48, 1, .aload 0), (49, 1, .iload 1), (50, 1, .iload 2), (51, 1, .iconst 0), (52, 3, .invokestatic 1941), (55, 3, .ifCond .eq 35), (58, 1, .iload 3), (59, 3, .goto 36), (62, 2, .iconst (-4)), (64, 1, .ireturn)]
def qcX0_setBulk : qC := [(0, 1, .iload 1), (1, 1, .iconst 2), (2, 3, .if_icmp .lt 6), (5, 1, .iload 1), (6, 1, .iconst 5), (7, 3, .if_icmp .le 8), (10, 1, .iconst (-1)), (11, 1, .ireturn), (12, 1, .aload 0), (13, 3, .getfield 2), (16, 3, .getfield 5120), (19, 1, .istore 2), (20, 1, .iload 1), (21, 1, .iload 2), (22, 3, .if_icmp .ne 17), (25, 2, .iconst (-2)), (27, 1, .ireturn), (28, 1, .aload 0), (29, 3, .getfield 2), (32, 1, .iload 1), (33, 3, .putfield 5120), (36, 2, .iconst 10), (38, 1, .iload 2), (39, 1, .iadd), (40, 1, .ireturn)]
def qcX0_fellAll : qC := [(0, 1, .iconst 0), (1, 1, .istore 2), (2, 1, .iconst 0), (3, 1, .istore 3), (4, 1, .iload 3), (5, 2, .iconst 8), (7, 3, .if_icmp .ge 40), (10, 1, .aload 0), (11, 1, .aload 1), (12, 3, .invokestatic 1121), (15, 2, .istore 4), (17, 2, .iload 4), (19, 1, .iconst (-1)), (20, 3, .if_icmp .ne 15), (23, 3, .goto 40), (26, 1, .aload 0), (27, 3, .getfield 2), (30, 3, .getfield 5042), (33, 2, .iload 4), (35, 2, .iconst 99), (37, 1, .aload 0), (38, 3, .getfield 2), (41, 3, .getfield 5042), (44, 2, .iload 4), (46, 1, .iaload), (47, 1, .iconst 1), (48, 1, .iadd), (49, 3, .fmul), (52, 1, .iastore), (53, 1, .aload 0), (54, 3, .getfield 22), (57, 1, .iload 3), (58, 2, .iload 4), (60, 1, .iastore), (61, 3, .iinc 2 1), (64, 1, .aload 0), (65, 2, .iload 4), (67, 3, .invokestatic 1320), (70, 3, .iinc 3 1), (73, 3, .goto 4), (76, 1, .iload 2), (77, 1, .ireturn)]
def qcX0_cheapest : qC := [(0, 1, .aload 0), (1, 3, .getfield 12), (4, 1, .aload 0), (5, 3, .getfield 2), (8, 3, .invokestatic 2520), (11, 1, .aload 0), (12, 3, .getfield 12), (15, 3, .invokestatic 2811), (18, 1, .istore 2), (19, 1, .iconst (-1)), (20, 1, .istore 3), (21, 1, .iconst 0), (22, 2, .istore 4), (24, 1, .iconst 0), (25, 2, .istore 5), (27, 2, .iload 5), (29, 2, .iconst 8), (31, 3, .if_icmp .ge 61), (34, 1, .iload 2), (35, 2, .iload 5), (37, 1, .iushr), (38, 1, .iconst 1), (39, 1, .iand), (40, 3, .ifCond .ne 25), (43, 3, .goto 59), (46, 1, .aload 1), (47, 1, .aload 0), (48, 3, .getfield 2), (51, 2, .iload 5), (53, 1, .aload 0), (54, 3, .getfield 12), (57, 2, .iload 5), (59, 3, .invokestatic 2621), (62, 3, .invokestatic 4741), (65, 2, .istore 6), (67, 1, .iload 3), (68, 1, .iconst (-1)), (69, 3, .if_icmp .eq 55), (72, 2, .iload 6), (74, 2, .iload 4), (76, 3, .if_icmp .lt 55), (79, 2, .iload 6), (81, 2, .iload 4), (83, 3, .if_icmp .ne 59), (86, 1, .aload 0), (87, 3, .getfield 2), (90, 3, .getfield 5022), (93, 2, .iload 5), (95, 1, .iaload), (96, 1, .aload 0), (97, 3, .getfield 2), (100, 3, .getfield 5022), (103, 1, .iload 3), (104, 1, .iaload), (105, 3, .if_icmp .le 59), (108, 2, .iload 5), (110, 1, .istore 3), (111, 2, .iload 6), (113, 2, .istore 4), (115, 3, .iinc 5 1), (118, 3, .goto 15), (121, 1, .iload 3), (122, 1, .ireturn)]
def qcX0_costOf : qC := [(0, 1, .aload 0), (1, 3, .getfield 12), (4, 1, .aload 0), (5, 3, .getfield 2), (8, 3, .invokestatic 2520), (11, 1, .aload 2), (12, 1, .aload 0), (13, 3, .getfield 2), (16, 1, .iload 1), (17, 1, .aload 0), (18, 3, .getfield 12), (21, 1, .iload 1), (22, 3, .invokestatic 2621), (25, 3, .invokestatic 4741), (28, 1, .ireturn)]
def qcX0_leave : qC := [(0, 2, .iconst 15), (2, 1, .iconst 4), (3, 1, .iload 1), (4, 1, .imul), (5, 1, .ishl), (6, 1, .istore 2), (7, 1, .aload 0), (8, 3, .getfield 2), (11, 3, .getfield 5052), (14, 1, .iload 1), (15, 1, .iaload), (16, 1, .istore 3), (17, 1, .iconst 0), (18, 2, .istore 4), (20, 2, .iload 4), (22, 2, .iconst 85), (24, 3, .if_icmp .ge 34), (27, 1, .aload 0), (28, 3, .getfield 2), (31, 3, .getfield 5002), (34, 2, .iload 4), (36, 1, .iaload), (37, 1, .iload 2), (38, 1, .iand), (39, 3, .ifCond .ne 28), (42, 2, .iload 4), (44, 1, .iload 3), (45, 3, .if_icmp .ne 32), (48, 1, .aload 0), (49, 1, .iload 1), (50, 2, .iload 4), (52, 3, .invokestatic 1530), (55, 3, .iinc 4 1), (58, 3, .goto 14), (61, 1, .aload 0), (62, 3, .getfield 2), (65, 3, .getfield 5012), (68, 1, .iload 1), (69, 1, .iconst 0), (70, 1, .iastore), (71, 1, .aload 0), (72, 3, .getfield 2), (75, 3, .getfield 5052), (78, 1, .iload 1), (79, 2, .iconst 85), (81, 1, .iastore), (82, 1, .aload 0), (83, 3, .getfield 2), (86, 3, .getfield 5022), (89, 1, .iload 1), (90, 1, .iconst 0), (91, 1, .iastore), (92, 1, .aload 0), (93, 3, .getfield 2), (96, 3, .getfield 5032), (99, 1, .iload 1), (100, 1, .iconst 0), (101, 1, .iastore), (102, 1, .iconst 0), (103, 2, .istore 4), (105, 2, .iload 4), (107, 2, .iconst 85), (109, 3, .if_icmp .ge 79), (112, 1, .aload 0), (113, 3, .getfield 32), (116, 2, .iload 4), (118, 1, .iaload), (119, 3, .ifCond .eq 77), (122, 1, .aload 0), (123, 1, .iload 1), (124, 2, .iload 4), (126, 3, .invokestatic 1631), (129, 3, .ifCond .eq 77), (132, 1, .aload 0), (133, 2, .iload 4), (135, 1, .iconst 0), (136, 3, .invokestatic 1730), (139, 3, .iinc 4 1), (142, 3, .goto 60), (145, 1, .return_)]
def qcX0_idle : qC := [(0, 1, .aload 0), (1, 3, .getfield 2), (4, 3, .getfield 5012), (7, 1, .iload 1), (8, 1, .iaload), (9, 3, .ifCond .ne 8), (12, 2, .iconst (-2)), (14, 3, .goto 9), (17, 2, .iconst (-3)), (19, 1, .ireturn)]
def qcX0_release : qC := [(0, 1, .aload 0), (1, 3, .getfield 2), (4, 3, .getfield 5002), (7, 1, .iload 2), (8, 1, .dup2), (9, 1, .iaload), (10, 2, .iconst 15), (12, 1, .iconst 4), (13, 1, .iload 1), (14, 1, .imul), (15, 1, .ishl), (16, 1, .iconst (-1)), (17, 1, .ixor), (18, 1, .iand), (19, 1, .iastore), (20, 1, .aload 0), (21, 3, .getfield 32), (24, 1, .iload 2), (25, 1, .dup2), (26, 1, .iaload), (27, 1, .iconst 1), (28, 1, .iload 1), (29, 1, .ishl), (30, 1, .ior), (31, 1, .iastore), (32, 1, .return_)]
def qcX0_takeDue : qC := [(0, 1, .aload 0), (1, 3, .getfield 32), (4, 1, .iload 2), (5, 1, .iaload), (6, 1, .iload 1), (7, 1, .iushr), (8, 1, .iconst 1), (9, 1, .iand), (10, 3, .ifCond .eq 11), (13, 1, .iconst 1), (14, 3, .goto 12), (17, 1, .iconst 0), (18, 1, .istore 3), (19, 1, .aload 0), (20, 3, .getfield 32), (23, 1, .iload 2), (24, 1, .dup2), (25, 1, .iaload), (26, 1, .iconst 1), (27, 1, .iload 1), (28, 1, .ishl), (29, 1, .iconst (-1)), (30, 1, .ixor), (31, 1, .iand), (32, 1, .iastore), (33, 1, .iload 3), (34, 1, .freturn)]
def qcX0_serve : qC := [(0, 1, .iload 2), (1, 2, .iconst 16), (3, 3, .if_icmp .le 4), (6, 1, .return_), (7, 1, .iconst 0), (8, 1, .istore 3), (9, 1, .iconst 0), (10, 2, .istore 4), (12, 1, .iconst 0), (13, 2, .istore 5), (15, 2, .iload 5), (17, 2, .iconst 8), (19, 3, .if_icmp .ge 48), (22, 1, .aload 0), (23, 3, .getfield 2), (26, 1, .iload 1), (27, 3, .invokestatic 7521), (30, 2, .istore 6), (32, 2, .iload 6), (34, 1, .iconst (-1)), (35, 3, .if_icmp .eq 48), (38, 1, .aload 0), (39, 3, .getfield 2), (42, 2, .iload 6), (44, 1, .iload 1), (45, 1, .aload 0), (46, 3, .getfield 2), (49, 3, .getfield 5062), (52, 2, .iload 6), (54, 1, .iaload), (55, 3, .invokestatic 6641), (58, 3, .ifCond .ne 33), (61, 3, .goto 48), (64, 1, .aload 0), (65, 3, .getfield 2), (68, 2, .iload 6), (70, 3, .invokestatic 7820), (73, 1, .iload 3), (74, 2, .iload 6), (76, 1, .iconst 4), (77, 2, .iload 4), (79, 1, .imul), (80, 1, .ishl), (81, 1, .ior), (82, 1, .istore 3), (83, 3, .iinc 4 1), (86, 3, .iinc 5 1), (89, 3, .goto 10), (92, 1, .iload 1), (93, 3, .invokestatic 13511), (96, 2, .istore 5), (98, 1, .iconst 0), (99, 2, .istore 6), (101, 2, .iload 6), (103, 2, .iload 4), (105, 3, .if_icmp .ge 72), (108, 1, .aload 0), (109, 1, .iload 3), (110, 1, .iconst 4), (111, 2, .iload 6), (113, 1, .imul), (114, 1, .iushr), (115, 2, .iconst 7), (117, 1, .iand), (118, 2, .iload 5), (120, 1, .iconst 1), (121, 1, .iadd), (122, 1, .iload 2), (123, 3, .invokestatic 1841), (126, 1, .pop), (127, 3, .iinc 6 1), (130, 3, .goto 53), (133, 1, .return_)]
def qcX0_goOn : qC := [(0, 1, .aload 0), (1, 3, .getfield 2), (4, 3, .getfield 5082), (7, 1, .iload 1), (8, 1, .iaload), (9, 2, .istore 4), (11, 2, .iload 4), (13, 3, .invokestatic 13511), (16, 2, .istore 5), (18, 1, .iload 2), (19, 2, .istore 6), (21, 2, .iload 6), (23, 2, .iload 5), (25, 3, .if_icmp .gt 66), (28, 2, .iload 4), (30, 2, .iload 6), (32, 3, .invokestatic 13621), (35, 2, .istore 7), (37, 1, .aload 0), (38, 3, .getfield 2), (41, 1, .iload 1), (42, 2, .iload 7), (44, 3, .invokestatic 5431), (47, 2, .istore 8), (49, 3, .jsr 2), (52, 2, .iconst 7), (54, 2, .iload 8), (56, 1, .imul), (57, 2, .iload 4), (59, 2, .iload 6), (61, 1, .aload 0), (62, 3, .getfield 2), (65, 3, .getfield 5092), (68, 1, .iload 1), (69, 1, .iaload), (70, 3, .invokestatic 13731), (73, 1, .iadd), (74, 1, .iaload), (75, 2, .istore 9), (77, 2, .iload 9), (79, 2, .iload 8), (81, 3, .if_icmp .ne 43), (84, 3, .goto 64), (87, 1, .aload 0), (88, 3, .getfield 2), (91, 1, .iload 1), (92, 2, .iload 7), (94, 2, .iload 9), (96, 3, .invokestatic 6741), (99, 3, .ifCond .ne 58), (102, 1, .aload 0), (103, 3, .getfield 2), (106, 1, .iload 1), (107, 2, .iload 7), (109, 2, .iload 9), (111, 3, .invokestatic 7740), (114, 1, .iconst 0), (115, 1, .ireturn), (116, 1, .aload 0), (117, 3, .getfield 2), (120, 1, .iload 1), (121, 2, .iload 7), (123, 2, .iload 9), (125, 3, .invokestatic 5540), (128, 3, .iinc 6 1), (131, 3, .goto 11), (134, 2, .iload 5), (136, 1, .iconst 3), (137, 3, .if_icmp .eq 71), (140, 1, .iconst 1), (141, 1, .ireturn), (142, 2, .iload 4), (144, 2, .iload 5), (146, 1, .iconst 1), (147, 1, .isub), (148, 3, .invokestatic 13621), (151, 2, .istore 6), (153, 1, .aload 0), (154, 3, .getfield 2), (157, 1, .iload 1), (158, 2, .iload 6), (160, 3, .invokestatic 6231), (163, 1, .aload 0), (164, 3, .getfield 2), (167, 3, .getfield 5120), (170, 3, .if_icmp .lt 88), (173, 1, .iconst 1), (174, 3, .goto 89), (177, 1, .iconst 0), (178, 2, .istore 7), (180, 2, .iload 7), (182, 3, .ifCond .eq 100), (185, 1, .aload 0), (186, 1, .iload 1), (187, 2, .iload 6), (189, 1, .iload 3), (190, 3, .invokestatic 1941), (193, 3, .ifCond .eq 100), (196, 1, .iconst 2), (197, 3, .goto 101), (200, 1, .iconst 1), (201, 1, .ireturn)]
def qcX0_gatherAt : qC := [(0, 1, .aload 0), (1, 3, .getfield 2), (4, 1, .iload 1), (5, 1, .iload 2), (6, 3, .invokestatic 6331), (9, 2, .istore 4), (11, 1, .aload 0), (12, 3, .getfield 2), (15, 1, .iload 1), (16, 1, .iload 2), (17, 3, .invokestatic 6231), (20, 3, .ifCond .eq 19), (23, 1, .aload 0), (24, 3, .getfield 2), (27, 1, .iload 1), (28, 1, .iload 2), (29, 2, .iload 4), (31, 3, .invokestatic 6741), (34, 3, .ifCond .ne 21), (37, 1, .iconst 0), (38, 1, .freturn), (39, 1, .aload 0), (40, 3, .getfield 2), (43, 1, .iload 1), (44, 1, .iload 2), (45, 2, .iload 4), (47, 3, .invokestatic 5540), (50, 1, .iconst 4), (51, 1, .iload 2), (52, 1, .imul), (53, 1, .iconst 4), (54, 1, .iadd), (55, 2, .istore 5), (57, 1, .iconst 4), (58, 1, .iload 2), (59, 1, .imul), (60, 1, .iconst 1), (61, 1, .iadd), (62, 2, .istore 6), (64, 2, .iload 6), (66, 2, .iconst 85), (68, 3, .if_icmp .ge 75), (71, 2, .iload 6), (73, 2, .istore 7), (75, 2, .iload 7), (77, 2, .iload 5), (79, 3, .if_icmp .gt 62), (82, 2, .iload 7), (84, 2, .iconst 85), (86, 3, .if_icmp .ge 62), (89, 1, .aload 0), (90, 3, .getfield 2), (93, 1, .iload 1), (94, 2, .iload 7), (96, 3, .invokestatic 5431), (99, 3, .ifCond .eq 60), (102, 1, .aload 0), (103, 1, .iload 1), (104, 2, .iload 7), (106, 3, .invokestatic 1530), (109, 3, .iinc 7 1), (112, 3, .goto 44), (115, 1, .iconst 4), (116, 2, .iload 5), (118, 1, .imul), (119, 1, .iconst 4), (120, 1, .iadd), (121, 2, .istore 5), (123, 1, .iconst 4), (124, 2, .iload 6), (126, 1, .imul), (127, 1, .iconst 1), (128, 1, .iadd), (129, 2, .istore 6), (131, 3, .goto 39), (134, 1, .iload 2), (135, 1, .iconst 1), (136, 1, .iadd), (137, 2, .istore 6), (139, 2, .iload 6), (141, 2, .iconst 85), (143, 3, .if_icmp .ge 100), (146, 1, .aload 0), (147, 3, .getfield 32), (150, 2, .iload 6), (152, 1, .iaload), (153, 3, .ifCond .eq 98), (156, 1, .aload 0), (157, 1, .iload 1), (158, 2, .iload 6), (160, 3, .invokestatic 1631), (163, 3, .ifCond .eq 98), (166, 1, .aload 0), (167, 2, .iload 6), (169, 1, .iload 3), (170, 1, .iconst 1), (171, 1, .iadd), (172, 3, .invokestatic 1730), (175, 3, .iinc 6 1), (178, 3, .goto 79), (181, 1, .iconst 1), (182, 1, .freturn)]
def qcX1_init : qC := [(0, 1, .aload 0), (1, 3, .pop2), (4, 1, .aload 0), (5, 2, .iconst 11), (7, 3, .anewarray 24), (10, 3, .putfield 1002), (13, 1, .iconst 0), (14, 1, .istore 1), (15, 1, .iload 1), (16, 2, .iconst 11), (18, 3, .if_icmp .ge 20), (21, 1, .aload 0), (22, 3, .getfield 1002), (25, 1, .iload 1), (26, 3, .new 513), (29, 1, .dup), (30, 3, .invokestatic 5210), (33, 1, .aastore), (34, 3, .iinc 1 1), (37, 3, .goto 8), (40, 1, .return_)]
def qcX1_mark : qC := [(0, 1, .aload 0), (1, 3, .getfield 1002), (4, 1, .aload 0), (5, 3, .getfield 1010), (8, 1, .aload 0), (9, 3, .getfield 1020), (12, 1, .iadd), (13, 2, .iconst 11), (15, 1, .irem), (16, 1, .aaload), (17, 1, .aload 1), (18, 3, .invokestatic 5320), (21, 1, .return_)]
def qcX1_commit : qC := [(0, 1, .aload 0), (1, 3, .getfield 1020), (4, 2, .iconst 10), (6, 3, .if_icmp .ge 11), (9, 1, .aload 0), (10, 1, .dup), (11, 3, .getfield 1020), (14, 1, .iconst 1), (15, 1, .iadd), (16, 3, .putfield 1020), (19, 3, .goto 19), (22, 1, .aload 0), (23, 1, .aload 0), (24, 3, .getfield 1010), (27, 1, .iconst 1), (28, 1, .iadd), (29, 2, .iconst 11), (31, 1, .irem), (32, 3, .putfield 1010), (35, 1, .return_)]
def qcX1_back : qC := [(0, 1, .aload 0), (1, 3, .getfield 1020), (4, 3, .ifCond .le 21), (7, 1, .aload 0), (8, 1, .dup), (9, 3, .getfield 1020), (12, 1, .iconst 1), (13, 1, .isub), (14, 3, .putfield 1020), (17, 1, .aload 1), (18, 1, .aload 0), (19, 3, .getfield 1002), (22, 1, .aload 0), (23, 3, .getfield 1010), (26, 1, .aload 0), (27, 3, .getfield 1020), (30, 1, .iadd), (31, 2, .iconst 11), (33, 1, .irem), (34, 1, .aaload), (35, 3, .invokestatic 5320), (38, 1, .return_)]
def qcX2_init : qC := [(0, 1, .aload 0), (1, 3, .pop2), (4, 1, .aload 0), (5, 2, .iconst 8), (7, 2, .anewarray 20), (9, 3, .putfield 2002), (12, 1, .aload 0), (13, 2, .iconst 8), (15, 2, .anewarray 20), (17, 3, .putfield 2012), (20, 1, .aload 0), (21, 2, .iconst 8), (23, 2, .anewarray 20), (25, 3, .putfield 2022), (28, 1, .aload 0), (29, 2, .iconst 8), (31, 2, .anewarray 20), (33, 3, .putfield 2032), (36, 1, .return_)]
def qcX2_read : qC := [(0, 1, .iconst 0), (1, 1, .istore 2), (2, 1, .iload 2), (3, 2, .iconst 8), (5, 3, .if_icmp .ge 22), (8, 1, .aload 0), (9, 3, .getfield 2002), (12, 1, .iload 2), (13, 1, .aload 1), (14, 1, .iload 2), (15, 3, .invokestatic 7621), (18, 1, .iastore), (19, 1, .aload 0), (20, 3, .getfield 2012), (23, 1, .iload 2), (24, 1, .aload 0), (25, 3, .getfield 2002), (28, 1, .iload 2), (29, 1, .iaload), (30, 1, .iastore), (31, 3, .iinc 2 1), (34, 3, .goto 2), (37, 1, .iconst 0), (38, 1, .istore 2), (39, 1, .iload 2), (40, 2, .iconst 8), (42, 3, .if_icmp .ge 56), (45, 1, .iconst 0), (46, 1, .istore 3), (47, 1, .iload 3), (48, 2, .iconst 8), (50, 3, .if_icmp .ge 54), (53, 1, .aload 0), (54, 3, .getfield 2012), (57, 1, .iload 3), (58, 1, .iaload), (59, 1, .iload 2), (60, 1, .iushr), (61, 1, .iconst 1), (62, 1, .iand), (63, 3, .ifCond .eq 52), (66, 1, .aload 0), (67, 3, .getfield 2012), (70, 1, .iload 3), (71, 1, .dup2), (72, 1, .iaload), (73, 1, .aload 0), (74, 3, .getfield 2012), (77, 1, .iload 2), (78, 1, .iaload), (79, 1, .ior), (80, 1, .iastore), (81, 3, .iinc 3 1), (84, 3, .goto 29), (87, 3, .iinc 2 1), (90, 3, .goto 24), (93, 1, .return_)]
def qcX2_waiters : qC := [(0, 1, .iconst 0), (1, 1, .istore 2), (2, 1, .iconst 0), (3, 1, .istore 3), (4, 1, .iload 3), (5, 2, .iconst 8), (7, 3, .if_icmp .ge 20), (10, 1, .iload 2), (11, 1, .aload 0), (12, 3, .getfield 2002), (15, 1, .iload 3), (16, 1, .iaload), (17, 1, .iload 1), (18, 1, .iushr), (19, 1, .iconst 1), (20, 1, .iand), (21, 1, .iadd), (22, 1, .istore 2), (23, 3, .iinc 3 1), (26, 3, .goto 4), (29, 1, .iload 2), (30, 1, .ireturn)]
def qcX2_reachers : qC := [(0, 1, .iconst 0), (1, 1, .istore 2), (2, 1, .iconst 0), (3, 1, .istore 3), (4, 1, .iload 3), (5, 2, .iconst 8), (7, 3, .if_icmp .ge 22), (10, 1, .iload 2), (11, 1, .aload 0), (12, 3, .getfield 2012), (15, 1, .iload 3), (16, 1, .iaload), (17, 1, .iload 1), (18, 1, .iushr), (19, 1, .iconst 1), (20, 1, .iand), (21, 1, .iload 3), (22, 1, .ishl), (23, 1, .ior), (24, 1, .istore 2), (25, 3, .iinc 3 1), (28, 3, .goto 4), (31, 1, .iload 2), (32, 1, .ireturn)]
def qcX2_inRings : qC := [(0, 1, .iconst 0), (1, 1, .istore 1), (2, 1, .iconst 0), (3, 1, .istore 2), (4, 1, .iload 2), (5, 2, .iconst 8), (7, 3, .if_icmp .ge 20), (10, 1, .iload 1), (11, 1, .aload 0), (12, 3, .getfield 2012), (15, 1, .iload 2), (16, 1, .iaload), (17, 1, .iconst 1), (18, 1, .iload 2), (19, 1, .ishl), (20, 1, .iand), (21, 1, .ior), (22, 1, .istore 1), (23, 3, .iinc 2 1), (26, 3, .goto 4), (29, 1, .iload 1), (30, 1, .ireturn)]
def qcX2_shortest : qC := [(0, 1, .aload 0), (1, 1, .iload 1), (2, 3, .invokestatic 3020), (5, 2, .iconst 8), (7, 1, .istore 2), (8, 1, .iconst 0), (9, 1, .istore 3), (10, 1, .iload 3), (11, 2, .iconst 8), (13, 3, .if_icmp .ge 34), (16, 1, .aload 0), (17, 3, .getfield 2002), (20, 1, .iload 1), (21, 1, .iaload), (22, 1, .iload 3), (23, 1, .iushr), (24, 1, .iconst 1), (25, 1, .iand), (26, 3, .ifCond .eq 32), (29, 1, .aload 0), (30, 3, .getfield 2022), (33, 1, .iload 3), (34, 1, .iaload), (35, 1, .iload 2), (36, 3, .if_icmp .ge 32), (39, 1, .aload 0), (40, 3, .getfield 2022), (43, 1, .iload 3), (44, 1, .iaload), (45, 1, .iconst 1), (46, 1, .iadd), (47, 1, .istore 2), (48, 3, .iinc 3 1), (51, 3, .goto 7), (54, 1, .aload 0), (55, 3, .getfield 2032), (58, 1, .iconst 0), (59, 1, .iload 1), (60, 1, .iastore), (61, 1, .iconst 1), (62, 1, .istore 3), (63, 1, .iload 3), (64, 1, .iload 2), (65, 3, .if_icmp .ge 61), (68, 1, .aload 0), (69, 3, .getfield 2032), (72, 1, .iload 3), (73, 1, .aload 0), (74, 1, .aload 0), (75, 3, .getfield 2032), (78, 1, .iload 3), (79, 1, .iconst 1), (80, 1, .isub), (81, 1, .iaload), (82, 1, .iload 2), (83, 1, .iload 3), (84, 1, .isub), (85, 3, .invokestatic 3131), (88, 1, .iastore), (89, 3, .iinc 3 1), (92, 3, .goto 41), (95, 1, .iload 2), (96, 1, .ireturn)]
def qcX2_measure : qC := [(0, 1, .iconst 0), (1, 1, .istore 2), (2, 1, .iload 2), (3, 2, .iconst 8), (5, 3, .if_icmp .ge 17), (8, 1, .aload 0), (9, 3, .getfield 2022), (12, 1, .iload 2), (13, 1, .iload 2), (14, 1, .iload 1), (15, 3, .if_icmp .ne 13), (18, 1, .iconst 0), (19, 3, .goto 14), (22, 2, .iconst 8), (24, 1, .iastore), (25, 3, .iinc 2 1), (28, 3, .goto 2), (31, 1, .iconst 1), (32, 1, .istore 2), (33, 1, .iload 2), (34, 2, .iconst 8), (36, 3, .if_icmp .ge 50), (39, 1, .iconst 0), (40, 1, .istore 3), (41, 1, .iload 3), (42, 2, .iconst 8), (44, 3, .if_icmp .ge 48), (47, 1, .aload 0), (48, 3, .getfield 2022), (51, 1, .iload 3), (52, 1, .iaload), (53, 2, .iconst 8), (55, 3, .if_icmp .ne 46), (58, 1, .aload 0), (59, 1, .iload 3), (60, 1, .iload 2), (61, 1, .iconst 1), (62, 1, .isub), (63, 3, .invokestatic 3131), (66, 1, .iconst (-1)), (67, 3, .if_icmp .eq 46), (70, 1, .aload 0), (71, 3, .getfield 2022), (74, 1, .iload 3), (75, 1, .iload 2), (76, 1, .iastore), (77, 3, .iinc 3 1), (80, 3, .goto 24), (83, 3, .iinc 2 1), (86, 3, .goto 19), (89, 1, .return_)]
def qcX2_nearer : qC := [(0, 1, .iconst 0), (1, 1, .istore 3), (2, 1, .iload 3), (3, 2, .iconst 8), (5, 3, .if_icmp .ge 27), (8, 1, .iload 1), (9, 1, .iconst (-1)), (10, 3, .if_icmp .eq 27), (13, 1, .aload 0), (14, 3, .getfield 2002), (17, 1, .iload 1), (18, 1, .iaload), (19, 1, .iload 3), (20, 1, .iushr), (21, 1, .iconst 1), (22, 1, .iand), (23, 3, .ifCond .eq 25), (26, 1, .aload 0), (27, 3, .getfield 2022), (30, 1, .iload 3), (31, 1, .iaload), (32, 1, .iload 2), (33, 3, .if_icmp .ne 25), (36, 1, .iload 3), (37, 1, .ireturn), (38, 3, .iinc 3 1), (41, 3, .goto 2), (44, 1, .iconst (-1)), (45, 1, .ireturn)]
def qcX3_init : qC := [(0, 1, .aload 0), (1, 3, .pop2), (4, 1, .aload 0), (5, 2, .iconst 13), (7, 2, .anewarray 21), (9, 3, .putfield 3002), (12, 1, .return_)]
def qcX3_add : qC := [(0, 1, .aload 0), (1, 3, .getfield 3010), (4, 1, .aload 0), (5, 3, .getfield 3002), (8, 1, .arraylength), (9, 3, .if_icmp .ge 18), (12, 1, .aload 0), (13, 3, .getfield 3002), (16, 1, .aload 0), (17, 3, .getfield 3010), (20, 1, .lload 1), (21, 1, .lastore), (22, 1, .aload 0), (23, 1, .dup), (24, 3, .getfield 3010), (27, 1, .iconst 1), (28, 1, .iadd), (29, 3, .putfield 3010), (32, 1, .return_)]
def qcX3_one : qC := [(0, 1, .aload 0), (1, 1, .iconst 0), (2, 3, .putfield 3010), (5, 1, .aload 0), (6, 1, .lload 1), (7, 3, .invokestatic 3320), (10, 1, .return_)]
def qcX3_two : qC := [(0, 1, .aload 0), (1, 1, .iconst 0), (2, 3, .putfield 3010), (5, 1, .aload 0), (6, 1, .lload 1), (7, 3, .invokestatic 3320), (10, 1, .aload 0), (11, 1, .lload 3), (12, 3, .invokestatic 3320), (15, 1, .return_)]
def qcX3_list : qC := [(0, 1, .aload 0), (1, 1, .iconst 0), (2, 3, .putfield 3010), (5, 1, .iconst 0), (6, 1, .istore 3), (7, 1, .iload 3), (8, 1, .iload 2), (9, 3, .if_icmp .ge 20), (12, 1, .iload 3), (13, 1, .aload 1), (14, 1, .arraylength), (15, 3, .if_icmp .ge 20), (18, 1, .aload 0), (19, 1, .aload 1), (20, 1, .iload 3), (21, 1, .iaload), (22, 1, .i2l), (23, 3, .invokestatic 3320), (26, 3, .iinc 3 1), (29, 3, .goto 5), (32, 1, .return_)]
def qcX4_init : qC := [(0, 1, .aload 0), (1, 3, .pop2), (4, 1, .aload 0), (5, 2, .iconst 40), (7, 2, .anewarray 20), (9, 3, .putfield 4002), (12, 1, .aload 0), (13, 2, .iconst 40), (15, 2, .anewarray 20), (17, 3, .putfield 4012), (20, 1, .aload 0), (21, 2, .iconst 40), (23, 2, .anewarray 20), (25, 3, .putfield 4022), (28, 1, .return_)]
def qcX4_copy : qC := [(0, 1, .aload 1), (1, 3, .getfield 4002), (4, 1, .iconst 0), (5, 1, .aload 0), (6, 3, .getfield 4002), (9, 1, .iconst 0), (10, 2, .iconst 40), (12, 3, .multianewarray 0 0), (15, 1, .aload 0), (16, 1, .aload 1), (17, 3, .getfield 4030), (20, 3, .putfield 4030), (23, 1, .return_)]
def qcX4_read : qC := [(0, 1, .aload 0), (1, 1, .iconst 0), (2, 3, .putfield 4030), (5, 1, .aload 0), (6, 1, .iconst 0), (7, 3, .putfield 4040), (10, 1, .aload 0), (11, 1, .iconst 0), (12, 3, .putfield 4050), (15, 1, .aload 0), (16, 1, .iconst 0), (17, 3, .putfield 4060), (20, 1, .aload 0), (21, 1, .iconst 0), (22, 3, .putfield 4070), (25, 1, .aload 0), (26, 1, .iconst 0), (27, 3, .putfield 4083), (30, 1, .aload 1), (31, 3, .getfield 6010), (34, 2, .iconst 40), (36, 3, .fmul), (39, 1, .istore 2), (40, 1, .iconst 0), (41, 1, .istore 3), (42, 1, .iload 3), (43, 1, .iload 2), (44, 3, .if_icmp .ge 49), (47, 1, .aload 1), (48, 1, .iload 3), (49, 3, .invokestatic 8121), (52, 2, .istore 4), (54, 1, .aload 0), (55, 3, .getfield 4083), (58, 3, .ifCond .eq 39), (61, 1, .aload 0), (62, 2, .iload 4), (64, 3, .invokestatic 4121), (67, 3, .goto 42), (70, 1, .aload 0), (71, 2, .iload 4), (73, 3, .invokestatic 4021), (76, 2, .istore 5), (78, 2, .iload 5), (80, 3, .ifCond .ne 47), (83, 1, .iload 3), (84, 1, .ireturn), (85, 3, .iinc 3 1), (88, 3, .goto 25), (91, 1, .aload 1), (92, 3, .getfield 6010), (95, 2, .iconst 40), (97, 3, .if_icmp .le 55), (100, 2, .iconst 40), (102, 1, .ireturn), (103, 1, .iload 2), (104, 3, .ifCond .le 65), (107, 1, .aload 0), (108, 3, .getfield 4083), (111, 3, .ifCond .eq 63), (114, 1, .aload 0), (115, 3, .getfield 4050), (118, 3, .ifCond .le 65), (121, 1, .iload 2), (122, 1, .ireturn), (123, 1, .aload 0), (124, 1, .iconst 1), (125, 3, .invokestatic 4420), (128, 1, .iconst (-1)), (129, 1, .ireturn)]
def qcX4_takeThing : qC := [(0, 1, .iload 1), (1, 2, .iconst 45), (3, 3, .if_icmp .ne 8), (6, 1, .aload 0), (7, 3, .iconst 256), (10, 3, .invokestatic 4520), (13, 1, .iconst 1), (14, 1, .freturn), (15, 1, .iload 1), (16, 2, .iconst 40), (18, 3, .if_icmp .ne 39), (21, 1, .aload 0), (22, 3, .getfield 4050), (25, 1, .iconst 4), (26, 3, .if_icmp .lt 17), (29, 1, .iconst 0), (30, 1, .freturn), (31, 1, .aload 0), (32, 1, .iload 1), (33, 3, .invokestatic 4520), (36, 1, .aload 0), (37, 1, .dup), (38, 3, .getfield 4050), (41, 1, .iconst 1), (42, 1, .iadd), (43, 3, .putfield 4050), (46, 1, .aload 0), (47, 1, .dup), (48, 3, .getfield 4070), (51, 1, .iconst 1), (52, 1, .aload 0), (53, 3, .getfield 4050), (56, 1, .ishl), (57, 1, .iconst (-1)), (58, 1, .ixor), (59, 1, .iand), (60, 3, .putfield 4070), (63, 1, .iconst 1), (64, 1, .freturn), (65, 1, .iload 1), (66, 3, .invokestatic 13811), (69, 1, .istore 2), (70, 1, .iload 2), (71, 3, .ifCond .ne 49), (74, 1, .iload 1), (75, 3, .invokestatic 5111), (78, 3, .ifCond .ne 49), (81, 1, .iconst 0), (82, 1, .freturn), (83, 1, .aload 0), (84, 1, .iload 2), (85, 3, .ifCond .eq 54), (88, 1, .iconst 1), (89, 3, .goto 55), (92, 1, .iconst 0), (93, 3, .putfield 4060), (96, 1, .aload 0), (97, 1, .iload 2), (98, 3, .ifCond .eq 63), (101, 1, .iload 1), (102, 2, .iconst 48), (104, 1, .isub), (105, 3, .goto 65), (108, 1, .iload 1), (109, 1, .ineg), (110, 3, .invokestatic 4620), (113, 1, .aload 0), (114, 1, .iconst 1), (115, 3, .putfield 4083), (118, 1, .iconst 1), (119, 1, .freturn)]
def qcX4_takeBehind : qC := [(0, 1, .iload 1), (1, 3, .invokestatic 13811), (4, 3, .ifCond .eq 7), (7, 1, .aload 0), (8, 1, .iload 1), (9, 3, .invokestatic 4221), (12, 1, .freturn), (13, 1, .iload 1), (14, 2, .iconst 41), (16, 3, .if_icmp .ne 13), (19, 1, .aload 0), (20, 3, .invokestatic 4311), (23, 1, .freturn), (24, 1, .iload 1), (25, 3, .invokestatic 5011), (28, 1, .istore 2), (29, 1, .iload 2), (30, 3, .ifCond .eq 29), (33, 1, .iload 2), (34, 1, .iconst 1), (35, 3, .if_icmp .ne 31), (38, 1, .aload 0), (39, 3, .getfield 4070), (42, 1, .aload 0), (43, 3, .getfield 4050), (46, 1, .iushr), (47, 1, .iconst 1), (48, 1, .iand), (49, 3, .ifCond .eq 31), (52, 1, .iconst 0), (53, 1, .freturn), (54, 1, .iload 2), (55, 1, .iconst 1), (56, 3, .if_icmp .ne 43), (59, 1, .aload 0), (60, 1, .dup), (61, 3, .getfield 4070), (64, 1, .iconst 1), (65, 1, .aload 0), (66, 3, .getfield 4050), (69, 1, .ishl), (70, 1, .ior), (71, 3, .putfield 4070), (74, 1, .aload 0), (75, 1, .iload 2), (76, 3, .invokestatic 4420), (79, 1, .aload 0), (80, 1, .iload 1), (81, 3, .invokestatic 4520), (84, 1, .aload 0), (85, 1, .iconst 0), (86, 3, .putfield 4083), (89, 1, .iconst 1), (90, 1, .freturn)]
def qcX4_takeDigit : qC := [(0, 1, .aload 0), (1, 3, .getfield 4060), (4, 1, .iconst 1), (5, 3, .if_icmp .lt 12), (8, 1, .aload 0), (9, 3, .getfield 4060), (12, 1, .iconst 2), (13, 3, .if_icmp .gt 12), (16, 1, .aload 0), (17, 3, .getfield 4030), (20, 1, .iconst 1), (21, 3, .if_icmp .ge 14), (24, 1, .iconst 0), (25, 1, .freturn), (26, 1, .aload 0), (27, 3, .getfield 4002), (30, 1, .aload 0), (31, 3, .getfield 4030), (34, 1, .iconst 1), (35, 1, .isub), (36, 2, .iconst 10), (38, 1, .aload 0), (39, 3, .getfield 4002), (42, 1, .aload 0), (43, 3, .getfield 4030), (46, 1, .iconst 1), (47, 1, .isub), (48, 1, .iaload), (49, 1, .imul), (50, 1, .iload 1), (51, 1, .iadd), (52, 2, .iconst 48), (54, 1, .isub), (55, 1, .iastore), (56, 1, .aload 0), (57, 1, .dup), (58, 3, .getfield 4060), (61, 1, .iconst 1), (62, 1, .iadd), (63, 3, .putfield 4060), (66, 1, .iconst 1), (67, 1, .freturn)]
def qcX4_close : qC := [(0, 1, .aload 0), (1, 3, .getfield 4050), (4, 3, .ifCond .ne 5), (7, 1, .iconst 0), (8, 1, .freturn), (9, 1, .aload 0), (10, 1, .iconst 1), (11, 3, .invokestatic 4420), (14, 1, .aload 0), (15, 3, .getfield 4040), (18, 3, .ifCond .le 17), (21, 1, .aload 0), (22, 1, .dup), (23, 3, .getfield 4040), (26, 1, .iconst 1), (27, 1, .isub), (28, 3, .putfield 4040), (31, 1, .aload 0), (32, 1, .dup), (33, 3, .getfield 4050), (36, 1, .iconst 1), (37, 1, .isub), (38, 3, .putfield 4050), (41, 1, .aload 0), (42, 1, .iconst 0), (43, 3, .putfield 4060), (46, 1, .iconst 1), (47, 1, .freturn)]
def qcX4_settle : qC := [(0, 1, .aload 0), (1, 3, .getfield 4040), (4, 1, .istore 2), (5, 1, .iload 2), (6, 3, .ifCond .le 29), (9, 1, .aload 0), (10, 3, .getfield 4012), (13, 1, .iload 2), (14, 1, .iconst 1), (15, 1, .isub), (16, 1, .iaload), (17, 1, .istore 3), (18, 1, .iload 3), (19, 3, .invokestatic 5011), (22, 1, .iload 1), (23, 3, .if_icmp .ge 17), (26, 3, .goto 29), (29, 1, .aload 0), (30, 1, .iload 3), (31, 1, .ineg), (32, 3, .invokestatic 4620), (35, 1, .aload 0), (36, 1, .dup), (37, 3, .getfield 4040), (40, 1, .iconst 1), (41, 1, .isub), (42, 3, .putfield 4040), (45, 3, .iinc 2 (-1)), (48, 3, .goto 3), (51, 1, .return_)]
def qcX4_postpone : qC := [(0, 1, .aload 0), (1, 3, .getfield 4040), (4, 2, .iconst 40), (6, 3, .if_icmp .ge 16), (9, 1, .aload 0), (10, 3, .getfield 4012), (13, 1, .aload 0), (14, 3, .getfield 4040), (17, 1, .iload 1), (18, 1, .iastore), (19, 1, .aload 0), (20, 1, .dup), (21, 3, .getfield 4040), (24, 1, .iconst 1), (25, 1, .iadd), (26, 3, .putfield 4040), (29, 1, .return_)]
def qcX4_put : qC := [(0, 1, .aload 0), (1, 3, .getfield 4030), (4, 2, .iconst 40), (6, 3, .if_icmp .ge 16), (9, 1, .aload 0), (10, 3, .getfield 4002), (13, 1, .aload 0), (14, 3, .getfield 4030), (17, 1, .iload 1), (18, 1, .iastore), (19, 1, .aload 0), (20, 1, .dup), (21, 3, .getfield 4030), (24, 1, .iconst 1), (25, 1, .iadd), (26, 3, .putfield 4030), (29, 1, .return_)]
def qcX4_cost : qC := [(0, 1, .aload 0), (1, 3, .getfield 4030), (4, 3, .ifCond .ne 13), (7, 1, .aload 1), (8, 3, .getfield 5032), (11, 1, .iload 2), (12, 1, .iaload), (13, 1, .aload 1), (14, 1, .iload 2), (15, 1, .iconst 0), (16, 3, .invokestatic 5831), (19, 1, .iadd), (20, 1, .ireturn), (21, 1, .iconst 0), (22, 2, .istore 4), (24, 1, .iconst 0), (25, 2, .istore 5), (27, 2, .iload 5), (29, 1, .aload 0), (30, 3, .getfield 4030), (33, 3, .if_icmp .ge 95), (36, 1, .aload 0), (37, 3, .getfield 4002), (40, 2, .iload 5), (42, 1, .iaload), (43, 2, .istore 6), (45, 2, .iload 6), (47, 3, .iconst (-256)), (50, 3, .if_icmp .ne 45), (53, 2, .iload 4), (55, 3, .ifCond .le 93), (58, 1, .aload 0), (59, 3, .getfield 4022), (62, 2, .iload 4), (64, 1, .iconst 1), (65, 1, .isub), (66, 1, .aload 0), (67, 3, .getfield 4022), (70, 2, .iload 4), (72, 1, .iconst 1), (73, 1, .isub), (74, 1, .iaload), (75, 1, .ineg), (76, 1, .iastore), (77, 3, .goto 93), (80, 2, .iload 6), (82, 3, .ifCond .ge 75), (85, 2, .iload 6), (87, 1, .ineg), (88, 3, .invokestatic 5011), (91, 3, .ifCond .le 75), (94, 2, .iload 4), (96, 1, .iconst 1), (97, 3, .if_icmp .le 93), (100, 3, .iinc 4 (-1)), (103, 1, .aload 0), (104, 3, .getfield 4022), (107, 2, .iload 4), (109, 1, .iconst 1), (110, 1, .isub), (111, 2, .iload 6), (113, 1, .ineg), (114, 1, .aload 0), (115, 3, .getfield 4022), (118, 2, .iload 4), (120, 1, .iconst 1), (121, 1, .isub), (122, 1, .iaload), (123, 1, .aload 0), (124, 3, .getfield 4022), (127, 2, .iload 4), (129, 1, .iaload), (130, 3, .invokestatic 4931), (133, 1, .iastore), (134, 3, .goto 93), (137, 2, .iload 4), (139, 2, .iconst 40), (141, 3, .if_icmp .ge 93), (144, 1, .aload 0), (145, 3, .getfield 4022), (148, 2, .iload 4), (150, 2, .iload 6), (152, 3, .ifCond .lt 85), (155, 2, .iload 6), (157, 3, .goto 91), (160, 2, .iload 6), (162, 1, .ineg), (163, 1, .aload 1), (164, 1, .iload 2), (165, 1, .iload 3), (166, 3, .invokestatic 4841), (169, 1, .iastore), (170, 3, .iinc 4 1), (173, 3, .iinc 5 1), (176, 3, .goto 17), (179, 1, .aload 0), (180, 3, .getfield 4022), (183, 1, .iconst 0), (184, 1, .iaload), (185, 1, .ireturn)]
def qcX4_valueOf : qC := [(0, 1, .iload 0), (1, 111, .lookupswitch 31 #[(97, 12), (102, 17), (104, 7), (105, 22), (113, 24), (119, 2), (120, 26)]), (112, 1, .aload 1), (113, 3, .getfield 5032), (116, 1, .iload 2), (117, 1, .iaload), (118, 1, .ireturn), (119, 1, .aload 1), (120, 1, .iload 2), (121, 1, .iconst 0), (122, 3, .invokestatic 5831), (125, 1, .ireturn), (126, 1, .aload 1), (127, 3, .getfield 5022), (130, 1, .iload 2), (131, 1, .iaload), (132, 1, .ireturn), (133, 1, .aload 1), (134, 3, .getfield 5042), (137, 1, .iload 2), (138, 1, .iaload), (139, 1, .ireturn), (140, 1, .iload 2), (141, 1, .ireturn), (142, 1, .iload 3), (143, 1, .ireturn), (144, 1, .aload 1), (145, 1, .iload 2), (146, 2, .iconst 6), (148, 3, .invokestatic 5831), (151, 1, .ireturn), (152, 1, .iconst 0), (153, 1, .ireturn)]
def qcX4_reckon : qC := [(0, 1, .iload 0), (1, 59, .lookupswitch 35 #[(42, 31), (43, 23), (45, 27), (60, 2), (61, 16), (62, 9)]), (60, 1, .iload 1), (61, 1, .iload 2), (62, 3, .if_icmp .ge 7), (65, 1, .iconst 1), (66, 3, .goto 8), (69, 1, .iconst 0), (70, 1, .ireturn), (71, 1, .iload 1), (72, 1, .iload 2), (73, 3, .if_icmp .le 14), (76, 1, .iconst 1), (77, 3, .goto 15), (80, 1, .iconst 0), (81, 1, .ireturn), (82, 1, .iload 1), (83, 1, .iload 2), (84, 3, .if_icmp .ne 21), (87, 1, .iconst 1), (88, 3, .goto 22), (91, 1, .iconst 0), (92, 1, .ireturn), (93, 1, .iload 1), (94, 1, .iload 2), (95, 1, .iadd), (96, 1, .ireturn), (97, 1, .iload 1), (98, 1, .iload 2), (99, 1, .isub), (100, 1, .ireturn), (101, 1, .iload 1), (102, 1, .iload 2), (103, 1, .imul), (104, 1, .ireturn), (105, 1, .iload 2), (106, 3, .ifCond .ne 39), (109, 1, .iconst 0), (110, 3, .goto 42), (113, 1, .iload 1), (114, 1, .iload 2), (115, 1, .idiv), (116, 1, .ireturn)]
def qcX4_rankOf : qC := [(0, 1, .iload 0), (1, 75, .lookupswitch 10 #[(42, 6), (43, 4), (45, 4), (47, 6), (60, 2), (61, 2), (62, 2), (256, 8)]), (76, 1, .iconst 1), (77, 1, .ireturn), (78, 1, .iconst 2), (79, 1, .ireturn), (80, 1, .iconst 3), (81, 1, .ireturn), (82, 1, .iconst 4), (83, 1, .ireturn), (84, 1, .iconst 0), (85, 1, .ireturn)]
def qcX4_isLetter : qC := [(0, 1, .iload 0), (1, 2, .iconst 119), (3, 3, .if_icmp .eq 21), (6, 1, .iload 0), (7, 2, .iconst 104), (9, 3, .if_icmp .eq 21), (12, 1, .iload 0), (13, 2, .iconst 97), (15, 3, .if_icmp .eq 21), (18, 1, .iload 0), (19, 2, .iconst 102), (21, 3, .if_icmp .eq 21), (24, 1, .iload 0), (25, 2, .iconst 105), (27, 3, .if_icmp .eq 21), (30, 1, .iload 0), (31, 2, .iconst 113), (33, 3, .if_icmp .eq 21), (36, 1, .iload 0), (37, 2, .iconst 120), (39, 3, .if_icmp .ne 23), (42, 1, .iconst 1), (43, 3, .goto 24), (46, 1, .iconst 0), (47, 1, .freturn)]
def qcX5_init : qC := [(0, 1, .aload 0), (1, 3, .pop2), (4, 1, .aload 0), (5, 2, .iconst 85), (7, 2, .anewarray 20), (9, 3, .putfield 5002), (12, 1, .aload 0), (13, 2, .iconst 8), (15, 2, .anewarray 20), (17, 3, .putfield 5012), (20, 1, .aload 0), (21, 2, .iconst 8), (23, 2, .anewarray 20), (25, 3, .putfield 5022), (28, 1, .aload 0), (29, 2, .iconst 8), (31, 2, .anewarray 20), (33, 3, .putfield 5032), (36, 1, .aload 0), (37, 2, .iconst 8), (39, 2, .anewarray 20), (41, 3, .putfield 5042), (44, 1, .aload 0), (45, 2, .iconst 8), (47, 2, .anewarray 20), (49, 3, .putfield 5052), (52, 1, .aload 0), (53, 2, .iconst 8), (55, 2, .anewarray 20), (57, 3, .putfield 5062), (60, 1, .aload 0), (61, 2, .iconst 8), (63, 2, .anewarray 20), (65, 3, .putfield 5072), (68, 1, .aload 0), (69, 2, .iconst 8), (71, 2, .anewarray 20), (73, 3, .putfield 5082), (76, 1, .aload 0), (77, 2, .iconst 8), (79, 2, .anewarray 20), (81, 3, .putfield 5092), (84, 1, .iconst 0), (85, 1, .istore 1), (86, 1, .iload 1), (87, 2, .iconst 8), (89, 3, .if_icmp .ge 54), (92, 1, .aload 0), (93, 3, .getfield 5052), (96, 1, .iload 1), (97, 2, .iconst 85), (99, 1, .iastore), (100, 3, .iinc 1 1), (103, 3, .goto 44), (106, 1, .aload 0), (107, 1, .iconst 5), (108, 3, .putfield 5120), (111, 1, .return_)]
def qcX5_copy : qC := [(0, 1, .aload 1), (1, 3, .getfield 5002), (4, 1, .iconst 0), (5, 1, .aload 0), (6, 3, .getfield 5002), (9, 1, .iconst 0), (10, 2, .iconst 85), (12, 3, .multianewarray 0 0), (15, 1, .aload 1), (16, 3, .getfield 5012), (19, 1, .iconst 0), (20, 1, .aload 0), (21, 3, .getfield 5012), (24, 1, .iconst 0), (25, 2, .iconst 8), (27, 3, .multianewarray 0 0), (30, 1, .aload 1), (31, 3, .getfield 5022), (34, 1, .iconst 0), (35, 1, .aload 0), (36, 3, .getfield 5022), (39, 1, .iconst 0), (40, 2, .iconst 8), (42, 3, .multianewarray 0 0), (45, 1, .aload 1), (46, 3, .getfield 5032), (49, 1, .iconst 0), (50, 1, .aload 0), (51, 3, .getfield 5032), (54, 1, .iconst 0), (55, 2, .iconst 8), (57, 3, .multianewarray 0 0), (60, 1, .aload 1), (61, 3, .getfield 5042), (64, 1, .iconst 0), (65, 1, .aload 0), (66, 3, .getfield 5042), (69, 1, .iconst 0), (70, 2, .iconst 8), (72, 3, .multianewarray 0 0), (75, 1, .aload 1), (76, 3, .getfield 5052), (79, 1, .iconst 0), (80, 1, .aload 0), (81, 3, .getfield 5052), (84, 1, .iconst 0), (85, 2, .iconst 8), (87, 3, .multianewarray 0 0), (90, 1, .aload 1), (91, 3, .getfield 5062), (94, 1, .iconst 0), (95, 1, .aload 0), (96, 3, .getfield 5062), (99, 1, .iconst 0), (100, 2, .iconst 8), (102, 3, .multianewarray 0 0), (105, 1, .aload 1), (106, 3, .getfield 5072), (109, 1, .iconst 0), (110, 1, .aload 0), (111, 3, .getfield 5072), (114, 1, .iconst 0), (115, 2, .iconst 8), (117, 3, .multianewarray 0 0), (120, 1, .aload 1), (121, 3, .getfield 5082), (124, 1, .iconst 0), (125, 1, .aload 0), (126, 3, .getfield 5082), (129, 1, .iconst 0), (130, 2, .iconst 8), (132, 3, .multianewarray 0 0), (135, 1, .aload 1), (136, 3, .getfield 5092), (139, 1, .iconst 0), (140, 1, .aload 0), (141, 3, .getfield 5092), (144, 1, .iconst 0), (145, 2, .iconst 8), (147, 3, .multianewarray 0 0), (150, 1, .aload 0), (151, 1, .aload 1), (152, 3, .getfield 5100), (155, 3, .putfield 5100), (158, 1, .aload 0), (159, 1, .aload 1), (160, 3, .getfield 5110), (163, 3, .putfield 5110), (166, 1, .aload 0), (167, 1, .aload 1), (168, 3, .getfield 5120), (171, 3, .putfield 5120), (174, 1, .return_)]
def qcX5_modeAt : qC := [(0, 1, .aload 0), (1, 3, .getfield 5002), (4, 1, .iload 2), (5, 1, .iaload), (6, 1, .iconst 4), (7, 1, .iload 1), (8, 1, .imul), (9, 1, .iushr), (10, 2, .iconst 15), (12, 1, .iand), (13, 1, .ireturn)]
def qcX5_setMode : qC := [(0, 1, .aload 0), (1, 3, .getfield 5002), (4, 1, .iload 2), (5, 1, .aload 0), (6, 3, .getfield 5002), (9, 1, .iload 2), (10, 1, .iaload), (11, 2, .iconst 15), (13, 1, .iconst 4), (14, 1, .iload 1), (15, 1, .imul), (16, 1, .ishl), (17, 1, .iconst (-1)), (18, 1, .ixor), (19, 1, .iand), (20, 1, .iload 3), (21, 1, .iconst 4), (22, 1, .iload 1), (23, 1, .imul), (24, 1, .ishl), (25, 1, .ior), (26, 1, .iastore), (27, 1, .return_)]
def qcX5_standing : qC := [(0, 1, .iconst 0), (1, 1, .istore 2), (2, 1, .iconst 0), (3, 1, .istore 3), (4, 1, .iload 3), (5, 2, .iconst 8), (7, 3, .if_icmp .ge 21), (10, 1, .aload 0), (11, 3, .getfield 5012), (14, 1, .iload 3), (15, 1, .iaload), (16, 1, .iload 1), (17, 3, .if_icmp .ne 19), (20, 1, .iload 2), (21, 1, .iconst 1), (22, 1, .iload 3), (23, 1, .ishl), (24, 1, .ior), (25, 1, .istore 2), (26, 3, .iinc 3 1), (29, 3, .goto 4), (32, 1, .iload 2), (33, 1, .ireturn)]
def qcX5_firstRunning : qC := [(0, 1, .iconst 0), (1, 1, .istore 1), (2, 1, .iload 1), (3, 2, .iconst 8), (5, 3, .if_icmp .ge 15), (8, 1, .aload 0), (9, 3, .getfield 5012), (12, 1, .iload 1), (13, 1, .iaload), (14, 1, .iconst 1), (15, 3, .if_icmp .ne 13), (18, 1, .iload 1), (19, 1, .ireturn), (20, 3, .iinc 1 1), (23, 3, .goto 2), (26, 1, .iconst (-1)), (27, 1, .ireturn)]
def qcX5_holdings : qC := [(0, 1, .iconst 0), (1, 1, .istore 3), (2, 1, .iconst 0), (3, 2, .istore 4), (5, 2, .iload 4), (7, 2, .iconst 85), (9, 3, .if_icmp .ge 22), (12, 1, .aload 0), (13, 1, .iload 1), (14, 2, .iload 4), (16, 3, .invokestatic 5431), (19, 2, .istore 5), (21, 2, .iload 5), (23, 3, .ifCond .eq 20), (26, 1, .iload 2), (27, 3, .ifCond .eq 19), (30, 2, .iload 5), (32, 1, .iload 2), (33, 3, .if_icmp .ne 20), (36, 3, .iinc 3 1), (39, 3, .iinc 4 1), (42, 3, .goto 4), (45, 1, .iload 3), (46, 1, .ireturn)]
def qcX5_allHoldings : qC := [(0, 1, .iconst 0), (1, 1, .istore 1), (2, 1, .iconst 0), (3, 1, .istore 2), (4, 1, .iload 2), (5, 2, .iconst 8), (7, 3, .if_icmp .ge 16), (10, 1, .iload 1), (11, 1, .aload 0), (12, 1, .iload 2), (13, 1, .iconst 0), (14, 3, .invokestatic 5831), (17, 1, .iadd), (18, 1, .istore 1), (19, 3, .iinc 2 1), (22, 3, .goto 4), (25, 1, .iload 1), (26, 1, .ireturn)]
def qcX5_allFalls : qC := [(0, 1, .iconst 0), (1, 1, .istore 1), (2, 1, .iconst 0), (3, 1, .istore 2), (4, 1, .iload 2), (5, 2, .iconst 8), (7, 3, .if_icmp .ge 16), (10, 1, .iload 1), (11, 1, .aload 0), (12, 3, .getfield 5042), (15, 1, .iload 2), (16, 1, .iaload), (17, 1, .iadd), (18, 1, .istore 1), (19, 3, .iinc 2 1), (22, 3, .goto 4), (25, 1, .iload 1), (26, 1, .ireturn)]
def qcX5_heldSum : qC := [(0, 2, .iconst 7), (2, 1, .istore 1), (3, 1, .iconst 0), (4, 1, .istore 2), (5, 1, .iload 2), (6, 2, .iconst 85), (8, 3, .if_icmp .ge 25), (11, 1, .iconst 0), (12, 1, .istore 3), (13, 1, .iload 3), (14, 2, .iconst 8), (16, 3, .if_icmp .ge 23), (19, 2, .iconst 31), (21, 1, .iload 1), (22, 1, .imul), (23, 1, .aload 0), (24, 1, .iload 3), (25, 1, .iload 2), (26, 3, .invokestatic 5431), (29, 1, .iadd), (30, 1, .istore 1), (31, 3, .iinc 3 1), (34, 3, .goto 9), (37, 3, .iinc 2 1), (40, 3, .goto 4), (43, 1, .iload 1), (44, 1, .ireturn)]
def qcX5_holdingsBelow : qC := [(0, 1, .iconst 0), (1, 1, .istore 3), (2, 1, .iconst 4), (3, 1, .iload 2), (4, 1, .imul), (5, 1, .iconst 4), (6, 1, .iadd), (7, 2, .istore 4), (9, 1, .iconst 4), (10, 1, .iload 2), (11, 1, .imul), (12, 1, .iconst 1), (13, 1, .iadd), (14, 2, .istore 5), (16, 2, .iload 5), (18, 2, .iconst 85), (20, 3, .if_icmp .ge 57), (23, 2, .iload 5), (25, 2, .istore 6), (27, 2, .iload 6), (29, 2, .iload 4), (31, 3, .if_icmp .gt 44), (34, 2, .iload 6), (36, 2, .iconst 85), (38, 3, .if_icmp .ge 44), (41, 1, .iload 3), (42, 1, .aload 0), (43, 3, .getfield 5002), (46, 2, .iload 6), (48, 1, .iaload), (49, 1, .iconst 4), (50, 1, .iload 1), (51, 1, .imul), (52, 1, .iushr), (53, 2, .iconst 15), (55, 1, .iand), (56, 3, .ifCond .eq 39), (59, 1, .iconst 1), (60, 3, .goto 40), (63, 1, .iconst 0), (64, 1, .iadd), (65, 1, .istore 3), (66, 3, .iinc 6 1), (69, 3, .goto 19), (72, 1, .iconst 4), (73, 2, .iload 4), (75, 1, .imul), (76, 1, .iconst 4), (77, 1, .iadd), (78, 2, .istore 4), (80, 1, .iconst 4), (81, 2, .iload 5), (83, 1, .imul), (84, 1, .iconst 1), (85, 1, .iadd), (86, 2, .istore 5), (88, 3, .goto 14), (91, 1, .iload 3), (92, 1, .ireturn)]
def qcX5_gatherMode : qC := [(0, 1, .iconst 4), (1, 1, .iload 2), (2, 1, .imul), (3, 1, .iconst 4), (4, 1, .iadd), (5, 1, .istore 3), (6, 1, .iconst 4), (7, 1, .iload 2), (8, 1, .imul), (9, 1, .iconst 1), (10, 1, .iadd), (11, 2, .istore 4), (13, 2, .iload 4), (15, 2, .iconst 85), (17, 3, .if_icmp .ge 59), (20, 2, .iload 4), (22, 2, .istore 5), (24, 2, .iload 5), (26, 1, .iload 3), (27, 3, .if_icmp .gt 46), (30, 2, .iload 5), (32, 2, .iconst 85), (34, 3, .if_icmp .ge 46), (37, 1, .aload 0), (38, 3, .getfield 5002), (41, 2, .iload 5), (43, 1, .iaload), (44, 1, .iconst 4), (45, 1, .iload 1), (46, 1, .imul), (47, 1, .iushr), (48, 2, .iconst 15), (50, 1, .iand), (51, 2, .istore 6), (53, 2, .iload 6), (55, 3, .ifCond .eq 44), (58, 2, .iload 6), (60, 1, .iconst 1), (61, 3, .if_icmp .eq 44), (64, 2, .iload 6), (66, 1, .iconst 3), (67, 3, .if_icmp .eq 44), (70, 2, .iconst 6), (72, 1, .ireturn), (73, 3, .iinc 5 1), (76, 3, .goto 17), (79, 1, .iconst 4), (80, 1, .iload 3), (81, 1, .imul), (82, 1, .iconst 4), (83, 1, .iadd), (84, 1, .istore 3), (85, 1, .iconst 4), (86, 2, .iload 4), (88, 1, .imul), (89, 1, .iconst 1), (90, 1, .iadd), (91, 2, .istore 4), (93, 3, .goto 12), (96, 3, .jsr 2), (99, 2, .iconst 7), (101, 1, .aload 0), (102, 3, .getfield 5002), (105, 1, .iload 2), (106, 1, .iaload), (107, 1, .iconst 4), (108, 1, .iload 1), (109, 1, .imul), (110, 1, .iushr), (111, 2, .iconst 15), (113, 1, .iand), (114, 1, .imul), (115, 1, .iconst 3), (116, 1, .iadd), (117, 1, .iaload), (118, 1, .ireturn)]
def qcX5_firstAbove : qC := [(0, 1, .iconst 0), (1, 2, .istore 4), (3, 2, .iload 4), (5, 1, .iload 2), (6, 3, .invokestatic 13511), (9, 3, .if_icmp .ge 23), (12, 1, .iload 2), (13, 2, .iload 4), (15, 3, .invokestatic 13621), (18, 2, .istore 5), (20, 1, .iload 3), (21, 1, .aload 0), (22, 1, .iload 1), (23, 2, .iload 5), (25, 3, .invokestatic 5431), (28, 1, .iushr), (29, 1, .iconst 1), (30, 1, .iand), (31, 3, .ifCond .eq 21), (34, 2, .iload 5), (36, 1, .ireturn), (37, 3, .iinc 4 1), (40, 3, .goto 2), (43, 2, .iconst 85), (45, 1, .ireturn)]
def qcX5_isCovered : qC := [(0, 1, .iload 3), (1, 1, .iconst 1), (2, 3, .if_icmp .eq 6), (5, 1, .iload 3), (6, 1, .iconst 3), (7, 3, .if_icmp .ne 8), (10, 2, .iconst 120), (12, 3, .goto 9), (15, 2, .iconst 64), (17, 2, .istore 4), (19, 1, .aload 0), (20, 1, .iload 1), (21, 1, .iload 2), (22, 2, .iload 4), (24, 3, .invokestatic 6441), (27, 2, .iconst 85), (29, 3, .if_icmp .eq 19), (32, 1, .iconst 1), (33, 3, .goto 20), (36, 1, .iconst 0), (37, 1, .freturn)]
def qcX5_fits : qC := [(0, 1, .iconst 0), (1, 2, .istore 4), (3, 2, .iload 4), (5, 2, .iconst 8), (7, 3, .if_icmp .ge 23), (10, 2, .iload 4), (12, 1, .iload 1), (13, 3, .if_icmp .eq 21), (16, 3, .jsr 0), (19, 1, .iload 3), (20, 1, .iaload), (21, 1, .aload 0), (22, 2, .iload 4), (24, 1, .iload 2), (25, 3, .invokestatic 5431), (28, 1, .iushr), (29, 1, .iconst 1), (30, 1, .iand), (31, 3, .ifCond .ne 21), (34, 1, .iconst 0), (35, 1, .freturn), (36, 3, .iinc 4 1), (39, 3, .goto 2), (42, 1, .iconst 1), (43, 1, .freturn)]
def qcX5_isOpen : qC := [(0, 1, .aload 0), (1, 3, .getfield 5002), (4, 1, .iload 2), (5, 1, .iaload), (6, 1, .iconst 4), (7, 1, .iload 1), (8, 1, .imul), (9, 1, .iushr), (10, 2, .iconst 15), (12, 1, .iand), (13, 3, .ifCond .ne 13), (16, 1, .iconst 1), (17, 3, .goto 14), (20, 1, .iconst 0), (21, 2, .istore 4), (23, 1, .iconst 0), (24, 2, .istore 5), (26, 2, .iload 5), (28, 2, .iconst 8), (30, 3, .if_icmp .ge 58), (33, 1, .aload 0), (34, 3, .getfield 5002), (37, 1, .iload 2), (38, 1, .iaload), (39, 1, .iconst 4), (40, 2, .iload 5), (42, 1, .imul), (43, 1, .iushr), (44, 2, .iconst 15), (46, 1, .iand), (47, 2, .istore 6), (49, 1, .aload 0), (50, 3, .getfield 5052), (53, 2, .iload 5), (55, 1, .iaload), (56, 1, .iload 2), (57, 3, .if_icmp .ne 43), (60, 2, .iload 4), (62, 3, .ifCond .ne 41), (65, 2, .iload 6), (67, 3, .ifCond .eq 43), (70, 1, .iconst 0), (71, 1, .freturn), (72, 2, .iload 5), (74, 1, .iload 1), (75, 3, .if_icmp .eq 56), (78, 3, .jsr 0), (81, 1, .iload 3), (82, 1, .iaload), (83, 2, .iload 6), (85, 1, .iushr), (86, 1, .iconst 1), (87, 1, .iand), (88, 3, .ifCond .ne 56), (91, 1, .iconst 0), (92, 1, .freturn), (93, 3, .iinc 5 1), (96, 3, .goto 17), (99, 1, .iconst 1), (100, 1, .freturn)]
def qcX5_stopLevel : qC := [(0, 1, .iload 2), (1, 3, .invokestatic 13511), (4, 2, .istore 4), (6, 1, .iconst 0), (7, 2, .istore 5), (9, 2, .iload 5), (11, 2, .iload 4), (13, 3, .if_icmp .gt 41), (16, 1, .iload 2), (17, 2, .iload 5), (19, 3, .invokestatic 13621), (22, 2, .istore 6), (24, 1, .aload 0), (25, 1, .iload 1), (26, 2, .iload 6), (28, 3, .invokestatic 5431), (31, 2, .istore 7), (33, 3, .jsr 2), (36, 2, .iconst 7), (38, 2, .iload 7), (40, 1, .imul), (41, 1, .iload 2), (42, 2, .iload 5), (44, 1, .iload 3), (45, 3, .invokestatic 13731), (48, 1, .iadd), (49, 1, .iaload), (50, 2, .istore 8), (52, 2, .iload 8), (54, 2, .iload 7), (56, 3, .if_icmp .eq 39), (59, 1, .aload 0), (60, 1, .iload 1), (61, 2, .iload 6), (63, 2, .iload 8), (65, 3, .invokestatic 6741), (68, 3, .ifCond .ne 39), (71, 2, .iload 5), (73, 1, .ireturn), (74, 3, .iinc 5 1), (77, 3, .goto 5), (80, 2, .iload 4), (82, 1, .iconst 1), (83, 1, .iadd), (84, 1, .ireturn)]
def qcX5_newSteps : qC := [(0, 1, .iconst 0), (1, 2, .istore 5), (3, 1, .iconst 0), (4, 2, .istore 6), (6, 2, .iload 6), (8, 2, .iload 4), (10, 3, .if_icmp .ge 29), (13, 1, .aload 0), (14, 1, .iload 1), (15, 1, .iload 2), (16, 2, .iload 6), (18, 3, .invokestatic 13621), (21, 3, .invokestatic 5431), (24, 2, .istore 7), (26, 3, .jsr 2), (29, 2, .iconst 7), (31, 2, .iload 7), (33, 1, .imul), (34, 1, .iload 2), (35, 2, .iload 6), (37, 1, .iload 3), (38, 3, .invokestatic 13731), (41, 1, .iadd), (42, 1, .iaload), (43, 2, .iload 7), (45, 3, .if_icmp .eq 27), (48, 3, .iinc 5 1), (51, 3, .iinc 6 1), (54, 3, .goto 4), (57, 2, .iload 5), (59, 1, .ireturn)]
def qcX5_requests : qC := [(0, 1, .iconst 0), (1, 1, .istore 2), (2, 1, .iconst 0), (3, 1, .istore 3), (4, 1, .iload 3), (5, 2, .iconst 8), (7, 3, .if_icmp .ge 21), (10, 1, .iload 2), (11, 1, .aload 0), (12, 3, .getfield 5052), (15, 1, .iload 3), (16, 1, .iaload), (17, 1, .iload 1), (18, 3, .if_icmp .ne 16), (21, 1, .iconst 1), (22, 3, .goto 17), (25, 1, .iconst 0), (26, 1, .iadd), (27, 1, .istore 2), (28, 3, .iinc 3 1), (31, 3, .goto 4), (34, 1, .iload 2), (35, 1, .ireturn)]
def qcX5_changes : qC := [(0, 1, .iconst 0), (1, 1, .istore 1), (2, 1, .iconst 0), (3, 1, .istore 2), (4, 1, .iload 2), (5, 2, .iconst 8), (7, 3, .if_icmp .ge 19), (10, 1, .iload 1), (11, 1, .aload 0), (12, 1, .iload 2), (13, 3, .invokestatic 7221), (16, 3, .ifCond .eq 14), (19, 1, .iconst 1), (20, 3, .goto 15), (23, 1, .iconst 0), (24, 1, .iadd), (25, 1, .istore 1), (26, 3, .iinc 2 1), (29, 3, .goto 4), (32, 1, .iload 1), (33, 1, .ireturn)]
def qcX5_isChange : qC := [(0, 1, .aload 0), (1, 3, .getfield 5052), (4, 1, .iload 1), (5, 1, .iaload), (6, 2, .iconst 85), (8, 3, .if_icmp .eq 22), (11, 1, .aload 0), (12, 3, .getfield 5002), (15, 1, .aload 0), (16, 3, .getfield 5052), (19, 1, .iload 1), (20, 1, .iaload), (21, 1, .iaload), (22, 1, .iconst 4), (23, 1, .iload 1), (24, 1, .imul), (25, 1, .iushr), (26, 2, .iconst 15), (28, 1, .iand), (29, 3, .ifCond .eq 22), (32, 1, .iconst 1), (33, 3, .goto 23), (36, 1, .iconst 0), (37, 1, .freturn)]
def qcX5_isAhead : qC := [(0, 1, .aload 0), (1, 1, .iload 1), (2, 3, .invokestatic 7221), (5, 1, .istore 3), (6, 1, .iload 3), (7, 1, .aload 0), (8, 1, .iload 2), (9, 3, .invokestatic 7221), (12, 3, .if_icmp .eq 11), (15, 1, .iload 3), (16, 1, .freturn), (17, 1, .aload 0), (18, 3, .getfield 5072), (21, 1, .iload 1), (22, 1, .iaload), (23, 1, .aload 0), (24, 3, .getfield 5072), (27, 1, .iload 2), (28, 1, .iaload), (29, 3, .if_icmp .ge 22), (32, 1, .iconst 1), (33, 3, .goto 23), (36, 1, .iconst 0), (37, 1, .freturn)]
def qcX5_position : qC := [(0, 1, .iconst 0), (1, 1, .istore 2), (2, 1, .iconst 0), (3, 1, .istore 3), (4, 1, .iload 3), (5, 2, .iconst 8), (7, 3, .if_icmp .ge 32), (10, 1, .iload 2), (11, 1, .iload 3), (12, 1, .iload 1), (13, 3, .if_icmp .eq 27), (16, 1, .aload 0), (17, 3, .getfield 5052), (20, 1, .iload 3), (21, 1, .iaload), (22, 1, .aload 0), (23, 3, .getfield 5052), (26, 1, .iload 1), (27, 1, .iaload), (28, 3, .if_icmp .ne 27), (31, 1, .aload 0), (32, 1, .iload 3), (33, 1, .iload 1), (34, 3, .invokestatic 7331), (37, 3, .ifCond .eq 27), (40, 1, .iconst 1), (41, 3, .goto 28), (44, 1, .iconst 0), (45, 1, .iadd), (46, 1, .istore 2), (47, 3, .iinc 3 1), (50, 3, .goto 4), (53, 1, .iload 2), (54, 1, .ireturn)]
def qcX5_firstInQueue : qC := [(0, 1, .iconst (-1)), (1, 1, .istore 2), (2, 1, .iconst 0), (3, 1, .istore 3), (4, 1, .iload 3), (5, 2, .iconst 8), (7, 3, .if_icmp .ge 25), (10, 1, .aload 0), (11, 3, .getfield 5052), (14, 1, .iload 3), (15, 1, .iaload), (16, 1, .iload 1), (17, 3, .if_icmp .ne 23), (20, 1, .iload 2), (21, 1, .iconst (-1)), (22, 3, .if_icmp .eq 21), (25, 1, .aload 0), (26, 1, .iload 3), (27, 1, .iload 2), (28, 3, .invokestatic 7331), (31, 3, .ifCond .eq 23), (34, 1, .iload 3), (35, 1, .istore 2), (36, 3, .iinc 3 1), (39, 3, .goto 4), (42, 1, .iload 2), (43, 1, .ireturn)]
def qcX5_forWhom : qC := [(0, 1, .aload 0), (1, 3, .getfield 5012), (4, 1, .iload 1), (5, 1, .iaload), (6, 1, .iconst 2), (7, 3, .if_icmp .eq 8), (10, 1, .iconst 0), (11, 1, .ireturn), (12, 1, .aload 0), (13, 3, .getfield 5052), (16, 1, .iload 1), (17, 1, .iaload), (18, 1, .istore 2), (19, 1, .iconst 0), (20, 1, .istore 3), (21, 1, .iconst 0), (22, 2, .istore 4), (24, 2, .iload 4), (26, 2, .iconst 8), (28, 3, .if_icmp .ge 62), (31, 3, .jsr 0), (34, 1, .aload 0), (35, 3, .getfield 5062), (38, 1, .iload 1), (39, 1, .iaload), (40, 1, .iaload), (41, 1, .aload 0), (42, 2, .iload 4), (44, 1, .iload 2), (45, 3, .invokestatic 5431), (48, 1, .iushr), (49, 1, .iconst 1), (50, 1, .iand), (51, 3, .ifCond .ne 36), (54, 1, .iconst 1), (55, 3, .goto 37), (58, 1, .iconst 0), (59, 2, .istore 5), (61, 2, .iload 4), (63, 1, .iload 1), (64, 3, .if_icmp .eq 60), (67, 2, .iload 5), (69, 3, .ifCond .ne 54), (72, 1, .aload 0), (73, 3, .getfield 5052), (76, 2, .iload 4), (78, 1, .iaload), (79, 1, .iload 2), (80, 3, .if_icmp .ne 60), (83, 1, .aload 0), (84, 2, .iload 4), (86, 1, .iload 1), (87, 3, .invokestatic 7331), (90, 3, .ifCond .eq 60), (93, 1, .iload 3), (94, 1, .iconst 1), (95, 2, .iload 4), (97, 1, .ishl), (98, 1, .ior), (99, 1, .istore 3), (100, 3, .iinc 4 1), (103, 3, .goto 17), (106, 1, .iload 3), (107, 1, .ireturn)]
def qcX5_enqueue : qC := [(0, 1, .aload 0), (1, 3, .getfield 5012), (4, 1, .iload 1), (5, 1, .iconst 2), (6, 1, .iastore), (7, 1, .aload 0), (8, 3, .getfield 5052), (11, 1, .iload 1), (12, 1, .iload 2), (13, 1, .iastore), (14, 1, .aload 0), (15, 3, .getfield 5062), (18, 1, .iload 1), (19, 1, .iload 3), (20, 1, .iastore), (21, 1, .aload 0), (22, 3, .getfield 5072), (25, 1, .iload 1), (26, 1, .aload 0), (27, 3, .getfield 5100), (30, 1, .iastore), (31, 1, .aload 0), (32, 1, .dup), (33, 3, .getfield 5100), (36, 1, .iconst 1), (37, 1, .iadd), (38, 3, .putfield 5100), (41, 1, .return_)]
def qcX5_grant : qC := [(0, 1, .aload 0), (1, 1, .iload 1), (2, 1, .aload 0), (3, 3, .getfield 5052), (6, 1, .iload 1), (7, 1, .iaload), (8, 1, .aload 0), (9, 3, .getfield 5062), (12, 1, .iload 1), (13, 1, .iaload), (14, 3, .invokestatic 5540), (17, 1, .aload 0), (18, 3, .getfield 5012), (21, 1, .iload 1), (22, 1, .iconst 1), (23, 1, .iastore), (24, 1, .aload 0), (25, 3, .getfield 5052), (28, 1, .iload 1), (29, 2, .iconst 85), (31, 1, .iastore), (32, 1, .return_)]
def qcX6_init : qC := [(0, 1, .aload 0), (1, 3, .pop2), (4, 1, .aload 0), (5, 2, .iconst 80), (7, 2, .anewarray 22), (9, 3, .putfield 6002), (12, 1, .return_)]
def qcX6_addFour : qC := [(0, 1, .aload 0), (1, 3, .getfield 6010), (4, 2, .iconst 76), (6, 3, .if_icmp .le 6), (9, 1, .iconst (-1)), (10, 1, .ireturn), (11, 2, .iconst 24), (13, 1, .istore 2), (14, 1, .iload 2), (15, 3, .ifCond .lt 29), (18, 1, .aload 0), (19, 3, .getfield 6002), (22, 1, .aload 0), (23, 3, .getfield 6010), (26, 1, .iload 1), (27, 1, .iload 2), (28, 1, .iushr), (29, 3, .iconst 255), (32, 1, .iand), (33, 1, .i2c), (34, 1, .castore), (35, 1, .aload 0), (36, 1, .dup), (37, 3, .getfield 6010), (40, 1, .iconst 1), (41, 1, .iadd), (42, 3, .putfield 6010), (45, 3, .iinc 2 (-8)), (48, 3, .goto 8), (51, 1, .aload 0), (52, 3, .getfield 6010), (55, 1, .ireturn)]
def qcX6_at : qC := [(0, 1, .iload 1), (1, 3, .ifCond .lt 11), (4, 1, .iload 1), (5, 1, .aload 0), (6, 3, .getfield 6010), (9, 3, .if_icmp .ge 11), (12, 1, .aload 0), (13, 3, .getfield 6002), (16, 1, .iload 1), (17, 1, .caload), (18, 3, .goto 12), (21, 1, .iconst 0), (22, 1, .ireturn)]
def qcX6_digit : qC := [(0, 1, .aload 0), (1, 1, .iload 1), (2, 3, .invokestatic 8121), (5, 1, .istore 2), (6, 1, .iload 2), (7, 3, .invokestatic 13811), (10, 3, .ifCond .eq 11), (13, 1, .iload 2), (14, 2, .iconst 48), (16, 1, .isub), (17, 3, .goto 12), (20, 1, .iconst 0), (21, 1, .ireturn)]
def qcX6_says : qC := [(0, 1, .aload 1), (1, 3, .invokestatic 26811), (4, 1, .aload 0), (5, 3, .getfield 6010), (8, 3, .if_icmp .eq 7), (11, 1, .iconst 0), (12, 1, .freturn), (13, 1, .iconst 0), (14, 1, .istore 2), (15, 1, .iload 2), (16, 1, .aload 0), (17, 3, .getfield 6010), (20, 3, .if_icmp .ge 25), (23, 1, .aload 0), (24, 3, .getfield 6002), (27, 1, .iload 2), (28, 1, .caload), (29, 1, .aload 1), (30, 1, .iload 2), (31, 3, .invokestatic 26921), (34, 3, .if_icmp .eq 23), (37, 1, .iconst 0), (38, 1, .freturn), (39, 3, .iinc 2 1), (42, 3, .goto 9), (45, 1, .iconst 1), (46, 1, .freturn)]
def qcX6_modeName : qC := [(0, 1, .aload 0), (1, 3, .getfield 6010), (4, 3, .ifCond .ne 5), (7, 1, .iconst 0), (8, 3, .goto 42), (11, 1, .aload 0), (12, 2, .jsr 10), (14, 3, .invokestatic 8321), (17, 3, .ifCond .eq 11), (20, 1, .iconst 1), (21, 3, .goto 42), (24, 1, .aload 0), (25, 2, .jsr 11), (27, 3, .invokestatic 8321), (30, 3, .ifCond .eq 17), (33, 1, .iconst 2), (34, 3, .goto 42), (37, 1, .aload 0), (38, 2, .jsr 12), (40, 3, .invokestatic 8321), (43, 3, .ifCond .eq 23), (46, 1, .iconst 3), (47, 3, .goto 42), (50, 1, .aload 0), (51, 2, .jsr 13), (53, 3, .invokestatic 8321), (56, 3, .ifCond .eq 29), (59, 1, .iconst 4), (60, 3, .goto 42), (63, 1, .aload 0), (64, 2, .jsr 14), (66, 3, .invokestatic 8321), (69, 3, .ifCond .eq 35), (72, 1, .iconst 5), (73, 3, .goto 42), (76, 1, .aload 0), (77, 2, .jsr 15), (79, 3, .invokestatic 8321), (82, 3, .ifCond .eq 41), (85, 2, .iconst 6), (87, 3, .goto 42), (90, 1, .iconst (-1)), (91, 1, .ireturn)]
def qcX6_wrongInDay : qC := [(0, 1, .iconst 0), (1, 1, .istore 1), (2, 1, .iconst 0), (3, 1, .istore 2), (4, 1, .iload 2), (5, 1, .aload 0), (6, 3, .getfield 6010), (9, 3, .if_icmp .ge 32), (12, 1, .aload 0), (13, 3, .getfield 6002), (16, 1, .iload 2), (17, 1, .caload), (18, 1, .istore 3), (19, 1, .iload 1), (20, 3, .ifCond .le 22), (23, 1, .iload 3), (24, 3, .invokestatic 13811), (27, 3, .ifCond .ne 20), (30, 1, .iload 2), (31, 1, .ireturn), (32, 3, .iinc 1 (-1)), (35, 3, .goto 30), (38, 1, .iload 3), (39, 3, .invokestatic 8611), (42, 1, .istore 1), (43, 1, .iload 1), (44, 1, .iconst (-1)), (45, 3, .if_icmp .ne 30), (48, 1, .iload 2), (49, 1, .ireturn), (50, 3, .iinc 2 1), (53, 3, .goto 4), (56, 1, .iload 1), (57, 3, .ifCond .le 37), (60, 1, .aload 0), (61, 3, .getfield 6010), (64, 3, .goto 38), (67, 1, .iconst (-1)), (68, 1, .ireturn)]
def qcX6_digitsOf : qC := [(0, 1, .iload 0), (1, 103, .lookupswitch 12 #[(98, 4), (101, 4), (102, 2), (103, 8), (108, 10), (117, 8), (118, 4), (119, 6)]), (104, 1, .iconst 0), (105, 1, .ireturn), (106, 1, .iconst 1), (107, 1, .ireturn), (108, 1, .iconst 2), (109, 1, .ireturn), (110, 1, .iconst 3), (111, 1, .ireturn), (112, 1, .iconst 4), (113, 1, .ireturn), (114, 1, .iconst (-1)), (115, 1, .ireturn)]
def qcX7_init : qC := [(0, 1, .aload 0), (1, 3, .pop2), (4, 1, .aload 0), (5, 3, .new 5), (8, 1, .dup), (9, 3, .invokestatic 10), (12, 3, .putfield 7002), (15, 1, .aload 0), (16, 3, .new 5), (19, 1, .dup), (20, 3, .invokestatic 10), (23, 3, .putfield 7012), (26, 1, .aload 0), (27, 1, .aload 0), (28, 3, .getfield 7002), (31, 3, .getfield 2), (34, 3, .putfield 7022), (37, 1, .aload 0), (38, 3, .new 103), (41, 1, .dup), (42, 3, .invokestatic 2010), (45, 3, .putfield 7032), (48, 1, .aload 0), (49, 1, .iconst 3), (50, 3, .anewarray 24), (53, 3, .putfield 7042), (56, 1, .iconst 0), (57, 1, .istore 1), (58, 1, .iload 1), (59, 1, .iconst 3), (60, 3, .if_icmp .ge 40), (63, 1, .aload 0), (64, 3, .getfield 7042), (67, 1, .iload 1), (68, 3, .new 513), (71, 1, .dup), (72, 3, .invokestatic 5210), (75, 1, .aastore), (76, 3, .iinc 1 1), (79, 3, .goto 28), (82, 1, .aload 0), (83, 1, .iconst 3), (84, 2, .anewarray 23), (86, 3, .putfield 7052), (89, 1, .aload 0), (90, 3, .new 602), (93, 1, .dup), (94, 3, .invokestatic 7910), (97, 3, .putfield 7062), (100, 1, .aload 0), (101, 3, .new 302), (104, 1, .dup), (105, 3, .invokestatic 3210), (108, 3, .putfield 7072), (111, 1, .aload 0), (112, 3, .new 409), (115, 1, .dup), (116, 3, .invokestatic 3710), (119, 3, .putfield 7082), (122, 1, .aload 0), (123, 3, .new 409), (126, 1, .dup), (127, 3, .invokestatic 3710), (130, 3, .putfield 7092), (133, 1, .return_)]
def qcX7_sign : qC := [(0, 1, .aload 0), (1, 3, .getfield 7062), (4, 1, .iload 1), (5, 3, .invokestatic 8021), (8, 1, .ireturn)]
def qcX7_end : qC := [(0, 1, .iload 1), (1, 3, .ifCond .lt 7), (4, 1, .iload 1), (5, 1, .aload 0), (6, 3, .getfield 7062), (9, 3, .getfield 6010), (12, 3, .if_icmp .le 9), (15, 1, .iconst 0), (16, 1, .freturn), (17, 1, .aload 0), (18, 3, .getfield 7062), (21, 1, .iload 1), (22, 3, .putfield 6010), (25, 1, .iconst 1), (26, 1, .freturn)]
def qcX7_rule : qC := [(0, 1, .aload 0), (1, 3, .getfield 7092), (4, 1, .aload 0), (5, 3, .getfield 7062), (8, 3, .invokestatic 3921), (11, 1, .istore 1), (12, 1, .aload 0), (13, 3, .getfield 7062), (16, 1, .iconst 0), (17, 3, .putfield 6010), (20, 1, .iload 1), (21, 1, .iconst (-1)), (22, 3, .if_icmp .eq 17), (25, 1, .iconst (-1)), (26, 1, .iload 1), (27, 1, .isub), (28, 1, .ireturn), (29, 1, .aload 0), (30, 3, .getfield 7082), (33, 1, .aload 0), (34, 3, .getfield 7092), (37, 3, .invokestatic 3820), (40, 1, .iconst 0), (41, 1, .ireturn)]
def qcX7_modes : qC := [(0, 1, .iload 1), (1, 3, .invokestatic 13311), (4, 3, .ifCond .eq 6), (7, 1, .iload 2), (8, 3, .invokestatic 13311), (11, 3, .ifCond .ne 8), (14, 1, .iconst (-1)), (15, 1, .ireturn), (16, 1, .aload 0), (17, 3, .getfield 7072), (20, 3, .jsr 2), (23, 2, .iconst 7), (25, 1, .iload 1), (26, 1, .imul), (27, 1, .iload 2), (28, 1, .iadd), (29, 1, .iaload), (30, 1, .i2l), (31, 3, .jsr 1), (34, 1, .iload 1), (35, 1, .iaload), (36, 1, .iload 2), (37, 1, .iushr), (38, 1, .iconst 1), (39, 1, .iand), (40, 1, .i2l), (41, 3, .invokestatic 3530), (44, 3, .jsr 0), (47, 1, .iload 1), (48, 1, .iaload), (49, 1, .iload 2), (50, 1, .iushr), (51, 1, .iconst 1), (52, 1, .iand), (53, 1, .ireturn)]
def qcX7_named : qC := [(0, 1, .aload 0), (1, 3, .getfield 7062), (4, 3, .invokestatic 8411), (7, 1, .istore 1), (8, 1, .aload 0), (9, 3, .getfield 7062), (12, 1, .iconst 0), (13, 3, .putfield 6010), (16, 1, .iload 1), (17, 1, .ireturn)]
def qcX7_owner : qC := [(0, 1, .iload 1), (1, 3, .invokestatic 13111), (4, 3, .ifCond .eq 8), (7, 1, .iload 2), (8, 3, .ifCond .lt 8), (11, 1, .iload 2), (12, 1, .iconst 5), (13, 3, .if_icmp .le 12), (16, 3, .nop), (19, 1, .dup), (20, 3, .nop), (23, 1, .nop), (24, 1, .iload 2), (25, 35, .lookupswitch 44 #[(0, 14), (1, 20), (2, 26), (3, 32), (4, 38)]), (60, 1, .aload 0), (61, 3, .getfield 7022), (64, 3, .getfield 5012), (67, 1, .iload 1), (68, 1, .iaload), (69, 1, .ireturn), (70, 1, .aload 0), (71, 3, .getfield 7022), (74, 3, .getfield 5022), (77, 1, .iload 1), (78, 1, .iaload), (79, 1, .ireturn), (80, 1, .aload 0), (81, 3, .getfield 7022), (84, 3, .getfield 5032), (87, 1, .iload 1), (88, 1, .iaload), (89, 1, .ireturn), (90, 1, .aload 0), (91, 3, .getfield 7022), (94, 3, .getfield 5042), (97, 1, .iload 1), (98, 1, .iaload), (99, 1, .ireturn), (100, 1, .aload 0), (101, 3, .getfield 7022), (104, 1, .iload 1), (105, 1, .iconst 0), (106, 3, .invokestatic 5831), (109, 1, .ireturn), (110, 1, .aload 0), (111, 3, .getfield 7002), (114, 1, .iload 1), (115, 1, .aload 0), (116, 3, .getfield 7082), (119, 3, .invokestatic 1231), (122, 1, .ireturn)]
def qcX7_held : qC := [(0, 1, .iload 1), (1, 3, .invokestatic 13111), (4, 3, .ifCond .eq 6), (7, 1, .iload 2), (8, 3, .invokestatic 13211), (11, 3, .ifCond .ne 10), (14, 3, .nop), (17, 1, .dup), (18, 3, .nop), (21, 1, .nop), (22, 1, .aload 0), (23, 3, .getfield 7022), (26, 1, .iload 1), (27, 1, .iload 2), (28, 3, .invokestatic 5431), (31, 1, .ireturn)]
def qcX7_begins : qC := [(0, 1, .aload 0), (1, 3, .getfield 7032), (4, 1, .aload 0), (5, 3, .getfield 7022), (8, 3, .invokestatic 2120), (11, 1, .aload 0), (12, 1, .aload 0), (13, 3, .getfield 7002), (16, 1, .iload 1), (17, 3, .invokestatic 321), (20, 3, .invokestatic 12921), (23, 1, .ireturn)]
def qcX7_works : qC := [(0, 1, .aload 0), (1, 3, .getfield 7032), (4, 1, .aload 0), (5, 3, .getfield 7022), (8, 3, .invokestatic 2120), (11, 1, .aload 0), (12, 1, .aload 0), (13, 3, .getfield 7002), (16, 1, .iload 1), (17, 1, .iload 2), (18, 3, .invokestatic 431), (21, 3, .invokestatic 12921), (24, 1, .ireturn)]
def qcX7_locks : qC := [(0, 1, .aload 0), (1, 3, .getfield 7032), (4, 1, .aload 0), (5, 3, .getfield 7022), (8, 3, .invokestatic 2120), (11, 1, .aload 0), (12, 1, .aload 0), (13, 3, .getfield 7002), (16, 1, .iload 1), (17, 1, .iload 2), (18, 1, .iload 3), (19, 3, .invokestatic 541), (22, 3, .invokestatic 12921), (25, 2, .istore 4), (27, 2, .iload 4), (29, 3, .ifCond .ge 18), (32, 2, .iload 4), (34, 1, .ireturn), (35, 1, .aload 0), (36, 3, .getfield 7072), (39, 1, .aload 0), (40, 3, .getfield 7022), (43, 3, .getfield 5052), (46, 1, .iload 1), (47, 1, .iaload), (48, 1, .i2l), (49, 2, .iload 4), (51, 1, .iconst 2), (52, 3, .if_icmp .ne 31), (55, 1, .goto_w 1), (56, 3, .goto 32), (59, 1, .goto_w 0), (60, 3, .invokestatic 3530), (63, 2, .iload 4), (65, 3, .ifCond .ne 37), (68, 1, .iconst 0), (69, 3, .goto 38), (72, 1, .iconst 1), (73, 1, .ireturn)]
def qcX7_unlocks : qC := [(0, 1, .aload 0), (1, 3, .getfield 7032), (4, 1, .aload 0), (5, 3, .getfield 7022), (8, 3, .invokestatic 2120), (11, 1, .aload 0), (12, 3, .getfield 7022), (15, 1, .iconst 2), (16, 3, .invokestatic 5621), (19, 1, .istore 3), (20, 1, .aload 0), (21, 1, .aload 0), (22, 3, .getfield 7002), (25, 1, .iload 1), (26, 1, .iload 2), (27, 3, .invokestatic 631), (30, 3, .invokestatic 12921), (33, 2, .istore 4), (35, 2, .iload 4), (37, 3, .ifCond .ge 22), (40, 2, .iload 4), (42, 3, .goto 29), (45, 1, .iload 3), (46, 1, .aload 0), (47, 3, .getfield 7022), (50, 1, .iconst 1), (51, 3, .invokestatic 5621), (54, 1, .iand), (55, 3, .invokestatic 26711), (58, 1, .ireturn)]
def qcX7_ends : qC := [(0, 1, .aload 0), (1, 3, .getfield 7032), (4, 1, .aload 0), (5, 3, .getfield 7022), (8, 3, .invokestatic 2120), (11, 1, .aload 0), (12, 3, .getfield 7022), (15, 1, .iconst 2), (16, 3, .invokestatic 5621), (19, 1, .istore 2), (20, 1, .aload 0), (21, 1, .aload 0), (22, 3, .getfield 7002), (25, 1, .iload 1), (26, 3, .invokestatic 721), (29, 3, .invokestatic 12921), (32, 1, .istore 3), (33, 1, .iload 3), (34, 3, .ifCond .lt 30), (37, 1, .aload 0), (38, 3, .getfield 7072), (41, 1, .iload 2), (42, 1, .aload 0), (43, 3, .getfield 7022), (46, 1, .iconst 1), (47, 3, .invokestatic 5621), (50, 1, .iand), (51, 3, .invokestatic 26711), (54, 1, .i2l), (55, 3, .invokestatic 3420), (58, 1, .iload 3), (59, 1, .ireturn)]
def qcX7_gathers : qC := [(0, 1, .aload 0), (1, 3, .getfield 7032), (4, 1, .aload 0), (5, 3, .getfield 7022), (8, 3, .invokestatic 2120), (11, 1, .aload 0), (12, 1, .aload 0), (13, 3, .getfield 7002), (16, 1, .iload 1), (17, 1, .iload 2), (18, 3, .invokestatic 831), (21, 3, .invokestatic 12921), (24, 1, .istore 3), (25, 1, .iload 3), (26, 3, .ifCond .lt 24), (29, 1, .aload 0), (30, 3, .getfield 7072), (33, 1, .aload 0), (34, 3, .getfield 7022), (37, 1, .iload 1), (38, 1, .iload 2), (39, 3, .invokestatic 5431), (42, 1, .i2l), (43, 3, .invokestatic 3420), (46, 1, .iload 3), (47, 1, .ireturn)]
def qcX7_bulk : qC := [(0, 1, .aload 0), (1, 3, .getfield 7032), (4, 1, .aload 0), (5, 3, .getfield 7022), (8, 3, .invokestatic 2120), (11, 1, .aload 0), (12, 1, .aload 0), (13, 3, .getfield 7002), (16, 1, .iload 1), (17, 3, .invokestatic 921), (20, 3, .invokestatic 12921), (23, 1, .ireturn)]
def qcX7_fells : qC := [(0, 1, .aload 0), (1, 3, .getfield 7032), (4, 1, .aload 0), (5, 3, .getfield 7022), (8, 3, .invokestatic 2120), (11, 1, .aload 0), (12, 1, .aload 0), (13, 3, .getfield 7002), (16, 1, .aload 0), (17, 3, .getfield 7082), (20, 3, .invokestatic 1021), (23, 3, .invokestatic 12921), (26, 1, .istore 1), (27, 1, .aload 0), (28, 3, .getfield 7072), (31, 1, .aload 0), (32, 3, .getfield 7002), (35, 3, .getfield 22), (38, 1, .iload 1), (39, 3, .invokestatic 3630), (42, 1, .iload 1), (43, 1, .ireturn)]
def qcX7_day : qC := [(0, 1, .aload 0), (1, 3, .getfield 7062), (4, 3, .invokestatic 8511), (7, 1, .istore 1), (8, 1, .iload 1), (9, 1, .iconst (-1)), (10, 3, .if_icmp .eq 15), (13, 1, .aload 0), (14, 3, .getfield 7062), (17, 1, .iconst 0), (18, 3, .putfield 6010), (21, 1, .iconst (-1)), (22, 1, .iload 1), (23, 1, .isub), (24, 1, .ireturn), (25, 1, .aload 0), (26, 3, .getfield 7032), (29, 1, .aload 0), (30, 3, .getfield 7022), (33, 3, .invokestatic 2120), (36, 1, .iconst 0), (37, 1, .istore 2), (38, 1, .iconst 0), (39, 1, .istore 3), (40, 1, .iconst 0), (41, 2, .istore 4), (43, 2, .iload 4), (45, 1, .aload 0), (46, 3, .getfield 7062), (49, 3, .getfield 6010), (52, 3, .if_icmp .ge 101), (55, 1, .iload 3), (56, 3, .ifCond .ne 101), (59, 1, .aload 0), (60, 3, .getfield 7062), (63, 2, .iload 4), (65, 3, .invokestatic 8121), (68, 2, .istore 5), (70, 2, .iload 5), (72, 2, .iconst 119), (74, 3, .if_icmp .ne 48), (77, 1, .aload 0), (78, 3, .getfield 7062), (81, 2, .iload 4), (83, 1, .iconst 2), (84, 1, .iadd), (85, 3, .invokestatic 8221), (88, 3, .goto 63), (91, 2, .iconst 10), (93, 1, .aload 0), (94, 3, .getfield 7062), (97, 2, .iload 4), (99, 1, .iconst 2), (100, 1, .iadd), (101, 3, .invokestatic 8221), (104, 1, .imul), (105, 1, .aload 0), (106, 3, .getfield 7062), (109, 2, .iload 4), (111, 1, .iconst 3), (112, 1, .iadd), (113, 3, .invokestatic 8221), (116, 1, .iadd), (117, 2, .istore 6), (119, 1, .aload 0), (120, 3, .getfield 7002), (123, 2, .iload 5), (125, 1, .aload 0), (126, 3, .getfield 7062), (129, 2, .iload 4), (131, 1, .iconst 1), (132, 1, .iadd), (133, 3, .invokestatic 8221), (136, 2, .iload 6), (138, 1, .aload 0), (139, 3, .getfield 7062), (142, 2, .iload 4), (144, 1, .iconst 4), (145, 1, .iadd), (146, 3, .invokestatic 8221), (149, 1, .aload 0), (150, 3, .getfield 7082), (153, 3, .invokestatic 261), (156, 3, .ifCond .ge 87), (159, 1, .iconst 1), (160, 1, .istore 3), (161, 3, .goto 88), (164, 3, .iinc 2 1), (167, 2, .iload 4), (169, 1, .iconst 1), (170, 1, .iconst 0), (171, 1, .aload 0), (172, 3, .getfield 7062), (175, 2, .iload 4), (177, 3, .invokestatic 8121), (180, 3, .invokestatic 8611), (183, 3, .fadd), (186, 1, .iadd), (187, 1, .iadd), (188, 2, .istore 4), (190, 3, .goto 26), (193, 1, .aload 0), (194, 3, .getfield 7062), (197, 1, .iconst 0), (198, 3, .putfield 6010), (201, 1, .iload 2), (202, 3, .ifCond .le 110), (205, 1, .aload 0), (206, 3, .getfield 7032), (209, 3, .invokestatic 2210), (212, 1, .aload 0), (213, 3, .getfield 7072), (216, 1, .iload 3), (217, 1, .i2l), (218, 1, .aload 0), (219, 3, .getfield 7022), (222, 1, .iconst 2), (223, 3, .invokestatic 5621), (226, 1, .i2l), (227, 3, .invokestatic 3530), (230, 1, .iload 2), (231, 1, .ireturn)]
def qcX7_undo : qC := [(0, 1, .aload 0), (1, 3, .getfield 7032), (4, 3, .getfield 1020), (7, 3, .ifCond .ne 6), (10, 1, .iconst (-1)), (11, 1, .ireturn), (12, 1, .aload 0), (13, 3, .getfield 7032), (16, 1, .aload 0), (17, 3, .getfield 7022), (20, 3, .invokestatic 2320), (23, 1, .aload 0), (24, 3, .getfield 7032), (27, 3, .getfield 1020), (30, 1, .ireturn)]
def qcX7_holders : qC := [(0, 1, .iload 1), (1, 3, .invokestatic 13211), (4, 3, .ifCond .ne 5), (7, 1, .iconst (-1)), (8, 1, .ireturn), (9, 1, .iconst 0), (10, 1, .istore 2), (11, 1, .iconst 0), (12, 1, .istore 3), (13, 1, .iconst 0), (14, 2, .istore 4), (16, 2, .iload 4), (18, 2, .iconst 8), (20, 3, .if_icmp .ge 38), (23, 1, .aload 0), (24, 3, .getfield 7022), (27, 2, .iload 4), (29, 1, .iload 1), (30, 3, .invokestatic 5431), (33, 2, .istore 5), (35, 2, .iload 5), (37, 3, .ifCond .eq 36), (40, 1, .iload 2), (41, 1, .iconst 1), (42, 2, .iload 4), (44, 1, .ishl), (45, 1, .ior), (46, 1, .istore 2), (47, 3, .jsr 2), (50, 2, .iconst 7), (52, 1, .iload 3), (53, 1, .imul), (54, 2, .iload 5), (56, 1, .iadd), (57, 1, .iaload), (58, 1, .istore 3), (59, 3, .iinc 4 1), (62, 3, .goto 11), (65, 1, .aload 0), (66, 3, .getfield 7072), (69, 1, .iload 3), (70, 1, .i2l), (71, 3, .invokestatic 3420), (74, 1, .iload 2), (75, 1, .ireturn)]
def qcX7_queue : qC := [(0, 1, .iload 1), (1, 3, .invokestatic 13211), (4, 3, .ifCond .ne 5), (7, 1, .iconst (-1)), (8, 1, .ireturn), (9, 1, .aload 0), (10, 3, .getfield 7022), (13, 1, .iload 1), (14, 3, .invokestatic 7021), (17, 1, .istore 2), (18, 1, .aload 0), (19, 3, .getfield 7072), (22, 1, .iconst 0), (23, 3, .putfield 3010), (26, 1, .iconst 0), (27, 1, .istore 3), (28, 1, .iload 3), (29, 1, .iload 2), (30, 3, .if_icmp .ge 46), (33, 1, .iconst 0), (34, 2, .istore 4), (36, 2, .iload 4), (38, 2, .iconst 8), (40, 3, .if_icmp .ge 44), (43, 1, .aload 0), (44, 3, .getfield 7022), (47, 3, .getfield 5052), (50, 2, .iload 4), (52, 1, .iaload), (53, 1, .iload 1), (54, 3, .if_icmp .ne 42), (57, 1, .aload 0), (58, 3, .getfield 7022), (61, 2, .iload 4), (63, 3, .invokestatic 7421), (66, 1, .iload 3), (67, 3, .if_icmp .ne 42), (70, 1, .aload 0), (71, 3, .getfield 7072), (74, 2, .iload 4), (76, 1, .i2l), (77, 3, .invokestatic 3320), (80, 3, .iinc 4 1), (83, 3, .goto 21), (86, 3, .iinc 3 1), (89, 3, .goto 16), (92, 1, .iload 2), (93, 1, .ireturn)]
def qcX7_waits : qC := [(0, 1, .iload 1), (1, 3, .invokestatic 13111), (4, 3, .ifCond .ne 5), (7, 1, .iconst (-1)), (8, 1, .ireturn), (9, 1, .aload 0), (10, 3, .getfield 7022), (13, 3, .getfield 5012), (16, 1, .iload 1), (17, 1, .iaload), (18, 1, .iconst 2), (19, 3, .if_icmp .eq 14), (22, 2, .iconst (-2)), (24, 1, .ireturn), (25, 1, .aload 0), (26, 3, .getfield 7072), (29, 1, .aload 0), (30, 3, .getfield 7022), (33, 3, .getfield 5062), (36, 1, .iload 1), (37, 1, .iaload), (38, 1, .i2l), (39, 1, .aload 0), (40, 3, .getfield 7022), (43, 1, .iload 1), (44, 3, .invokestatic 7421), (47, 1, .i2l), (48, 3, .invokestatic 3530), (51, 1, .aload 0), (52, 3, .getfield 7072), (55, 1, .aload 0), (56, 3, .getfield 7022), (59, 3, .getfield 5082), (62, 1, .iload 1), (63, 1, .iaload), (64, 1, .i2l), (65, 3, .invokestatic 3320), (68, 1, .aload 0), (69, 3, .getfield 7072), (72, 1, .aload 0), (73, 3, .getfield 7022), (76, 3, .getfield 5092), (79, 1, .iload 1), (80, 1, .iaload), (81, 1, .i2l), (82, 3, .invokestatic 3320), (85, 1, .aload 0), (86, 3, .getfield 7022), (89, 3, .getfield 5052), (92, 1, .iload 1), (93, 1, .iaload), (94, 1, .ireturn)]
def qcX7_covers : qC := [(0, 1, .iload 1), (1, 3, .invokestatic 13111), (4, 3, .ifCond .eq 6), (7, 1, .iload 2), (8, 3, .invokestatic 13211), (11, 3, .ifCond .ne 8), (14, 1, .iconst (-1)), (15, 1, .ireturn), (16, 1, .aload 0), (17, 3, .getfield 7022), (20, 1, .iload 1), (21, 1, .iload 2), (22, 3, .invokestatic 5431), (25, 1, .istore 3), (26, 1, .aload 0), (27, 3, .getfield 7022), (30, 1, .iload 1), (31, 1, .iload 2), (32, 2, .iconst 64), (34, 3, .invokestatic 6441), (37, 2, .istore 4), (39, 2, .iload 4), (41, 2, .iconst 85), (43, 3, .if_icmp .eq 31), (46, 1, .aload 0), (47, 3, .getfield 7072), (50, 2, .iload 4), (52, 1, .i2l), (53, 3, .invokestatic 3420), (56, 2, .iconst 6), (58, 1, .ireturn), (59, 1, .aload 0), (60, 3, .getfield 7022), (63, 1, .iload 1), (64, 1, .iload 2), (65, 2, .iconst 56), (67, 3, .invokestatic 6441), (70, 2, .istore 5), (72, 1, .aload 0), (73, 3, .getfield 7072), (76, 2, .iload 5), (78, 1, .i2l), (79, 3, .invokestatic 3420), (82, 2, .iload 5), (84, 2, .iconst 85), (86, 3, .if_icmp .ne 48), (89, 1, .iload 3), (90, 3, .goto 55), (93, 3, .jsr 2), (96, 2, .iconst 7), (98, 1, .iload 3), (99, 1, .imul), (100, 1, .iconst 3), (101, 1, .iadd), (102, 1, .iaload), (103, 1, .ireturn)]
def qcX7_may : qC := [(0, 1, .iload 1), (1, 3, .invokestatic 13111), (4, 3, .ifCond .eq 9), (7, 1, .iload 2), (8, 3, .invokestatic 13211), (11, 3, .ifCond .eq 9), (14, 1, .iload 3), (15, 3, .invokestatic 13411), (18, 3, .ifCond .ne 11), (21, 1, .iconst (-1)), (22, 1, .ireturn), (23, 1, .aload 0), (24, 3, .getfield 7022), (27, 3, .getfield 5012), (30, 1, .iload 1), (31, 1, .iaload), (32, 1, .iconst 1), (33, 3, .if_icmp .eq 20), (36, 2, .iconst (-2)), (38, 1, .ireturn), (39, 1, .aload 0), (40, 3, .getfield 7022), (43, 1, .iload 1), (44, 1, .iload 2), (45, 1, .iload 3), (46, 3, .invokestatic 6541), (49, 3, .ifCond .eq 34), (52, 1, .aload 0), (53, 3, .getfield 7072), (56, 3, .goto_w 85), (59, 1, .goto_w 0), (60, 3, .invokestatic 3530), (63, 1, .iconst 1), (64, 1, .ireturn), (65, 1, .aload 0), (66, 3, .getfield 7022), (69, 1, .iload 1), (70, 1, .iload 2), (71, 1, .iload 3), (72, 3, .invokestatic 6841), (75, 2, .istore 4), (77, 2, .iload 4), (79, 1, .iload 2), (80, 3, .invokestatic 13511), (83, 3, .if_icmp .le 47), (86, 1, .iconst 1), (87, 3, .goto 48), (90, 1, .iconst 0), (91, 2, .istore 5), (93, 1, .aload 0), (94, 3, .getfield 7072), (97, 2, .iload 5), (99, 3, .ifCond .eq 55), (102, 3, .goto_w 85), (105, 3, .goto 59), (108, 1, .iload 2), (109, 2, .iload 4), (111, 3, .invokestatic 13621), (114, 1, .i2l), (115, 1, .aload 0), (116, 3, .getfield 7022), (119, 1, .iload 1), (120, 1, .iload 2), (121, 1, .iload 3), (122, 2, .iload 4), (124, 3, .invokestatic 6951), (127, 1, .i2l), (128, 3, .invokestatic 3530), (131, 2, .iload 5), (133, 3, .ifCond .eq 72), (136, 1, .iconst 1), (137, 3, .goto 73), (140, 1, .iconst 0), (141, 1, .ireturn)]
def qcX7_free : qC := [(0, 1, .iload 1), (1, 3, .invokestatic 13111), (4, 3, .ifCond .eq 12), (7, 1, .iload 2), (8, 1, .iconst 1), (9, 3, .if_icmp .lt 12), (12, 1, .iload 2), (13, 1, .iconst 4), (14, 3, .if_icmp .gt 12), (17, 1, .iload 3), (18, 3, .invokestatic 13411), (21, 3, .ifCond .ne 14), (24, 1, .iconst (-1)), (25, 1, .ireturn), (26, 1, .aload 0), (27, 3, .getfield 7022), (30, 3, .getfield 5012), (33, 1, .iload 1), (34, 1, .iaload), (35, 1, .iconst 1), (36, 3, .if_icmp .eq 23), (39, 2, .iconst (-2)), (41, 1, .ireturn), (42, 1, .iconst 0), (43, 2, .istore 4), (45, 2, .iconst 21), (47, 2, .iconst 16), (49, 1, .iload 2), (50, 1, .iconst 1), (51, 1, .isub), (52, 1, .imul), (53, 1, .iadd), (54, 2, .istore 5), (56, 1, .iconst 0), (57, 2, .istore 6), (59, 2, .iload 6), (61, 2, .iconst 16), (63, 3, .if_icmp .ge 65), (66, 1, .aload 0), (67, 3, .getfield 7022), (70, 1, .iload 1), (71, 2, .iload 5), (73, 2, .iload 6), (75, 1, .iadd), (76, 1, .iload 3), (77, 3, .invokestatic 6541), (80, 3, .ifCond .ne 57), (83, 1, .aload 0), (84, 3, .getfield 7022), (87, 1, .iload 1), (88, 2, .iload 5), (90, 2, .iload 6), (92, 1, .iadd), (93, 1, .iload 3), (94, 3, .invokestatic 6841), (97, 1, .iconst 3), (98, 3, .if_icmp .le 63), (101, 2, .iload 4), (103, 1, .iconst 1), (104, 2, .iload 6), (106, 1, .ishl), (107, 1, .ior), (108, 2, .istore 4), (110, 3, .iinc 6 1), (113, 3, .goto 35), (116, 1, .aload 0), (117, 3, .getfield 7072), (120, 2, .iload 4), (122, 3, .invokestatic 26711), (125, 1, .i2l), (126, 3, .invokestatic 3420), (129, 2, .iload 4), (131, 1, .ireturn)]
def qcX7_behind : qC := [(0, 1, .iload 1), (1, 3, .invokestatic 13111), (4, 3, .ifCond .ne 5), (7, 1, .iconst (-1)), (8, 1, .ireturn), (9, 1, .aload 0), (10, 3, .getfield 7022), (13, 1, .iload 1), (14, 3, .invokestatic 7621), (17, 1, .istore 2), (18, 1, .aload 0), (19, 3, .getfield 7072), (22, 1, .iload 2), (23, 3, .invokestatic 26711), (26, 1, .i2l), (27, 3, .invokestatic 3420), (30, 1, .iload 2), (31, 1, .ireturn)]
def qcX7_stops : qC := [(0, 1, .iload 1), (1, 3, .invokestatic 13111), (4, 3, .ifCond .ne 5), (7, 1, .iconst (-1)), (8, 1, .ireturn), (9, 1, .aload 0), (10, 3, .getfield 7002), (13, 3, .getfield 12), (16, 1, .aload 0), (17, 3, .getfield 7022), (20, 3, .invokestatic 2520), (23, 1, .aload 0), (24, 3, .getfield 7072), (27, 1, .aload 0), (28, 3, .getfield 7002), (31, 3, .getfield 12), (34, 1, .iload 1), (35, 3, .invokestatic 2621), (38, 1, .i2l), (39, 3, .invokestatic 3420), (42, 1, .aload 0), (43, 3, .getfield 7002), (46, 3, .getfield 12), (49, 1, .iload 1), (50, 3, .invokestatic 2721), (53, 1, .ireturn)]
def qcX7_rings : qC := [(0, 1, .aload 0), (1, 3, .getfield 7002), (4, 3, .getfield 12), (7, 1, .aload 0), (8, 3, .getfield 7022), (11, 3, .invokestatic 2520), (14, 1, .aload 0), (15, 3, .getfield 7002), (18, 3, .getfield 12), (21, 3, .invokestatic 2811), (24, 1, .istore 1), (25, 1, .aload 0), (26, 3, .getfield 7072), (29, 1, .iload 1), (30, 3, .invokestatic 26711), (33, 1, .i2l), (34, 3, .invokestatic 3420), (37, 1, .iload 1), (38, 1, .ireturn)]
def qcX7_ring : qC := [(0, 1, .iload 1), (1, 3, .invokestatic 13111), (4, 3, .ifCond .ne 5), (7, 1, .iconst (-1)), (8, 1, .ireturn), (9, 1, .aload 0), (10, 3, .getfield 7002), (13, 3, .getfield 12), (16, 1, .aload 0), (17, 3, .getfield 7022), (20, 3, .invokestatic 2520), (23, 1, .aload 0), (24, 3, .getfield 7002), (27, 3, .getfield 12), (30, 3, .invokestatic 2811), (33, 1, .iload 1), (34, 1, .iushr), (35, 1, .iconst 1), (36, 1, .iand), (37, 3, .ifCond .ne 22), (40, 2, .iconst (-2)), (42, 1, .ireturn), (43, 1, .aload 0), (44, 3, .getfield 7002), (47, 3, .getfield 12), (50, 1, .iload 1), (51, 3, .invokestatic 2921), (54, 1, .istore 2), (55, 1, .aload 0), (56, 3, .getfield 7072), (59, 1, .aload 0), (60, 3, .getfield 7002), (63, 3, .getfield 12), (66, 3, .getfield 2032), (69, 1, .iload 2), (70, 3, .invokestatic 3630), (73, 1, .iload 2), (74, 1, .ireturn)]
def qcX7_victim : qC := [(0, 1, .aload 0), (1, 3, .getfield 7002), (4, 1, .aload 0), (5, 3, .getfield 7082), (8, 3, .invokestatic 1121), (11, 1, .istore 1), (12, 1, .iload 1), (13, 1, .iconst (-1)), (14, 3, .if_icmp .ne 11), (17, 2, .iconst (-2)), (19, 1, .ireturn), (20, 1, .aload 0), (21, 3, .getfield 7072), (24, 1, .aload 0), (25, 3, .getfield 7002), (28, 1, .iload 1), (29, 1, .aload 0), (30, 3, .getfield 7082), (33, 3, .invokestatic 1231), (36, 1, .i2l), (37, 3, .invokestatic 3420), (40, 1, .iload 1), (41, 1, .ireturn)]
def qcX7_frees : qC := [(0, 1, .iload 1), (1, 3, .invokestatic 13111), (4, 3, .ifCond .ne 5), (7, 1, .iconst (-1)), (8, 1, .ireturn), (9, 1, .aload 0), (10, 3, .getfield 7022), (13, 3, .getfield 5012), (16, 1, .iload 1), (17, 1, .iaload), (18, 1, .iconst 2), (19, 3, .if_icmp .eq 14), (22, 2, .iconst (-2)), (24, 1, .ireturn), (25, 1, .aload 0), (26, 3, .getfield 7022), (29, 1, .iconst 1), (30, 3, .invokestatic 5621), (33, 1, .aload 0), (34, 3, .getfield 7022), (37, 1, .iconst 2), (38, 3, .invokestatic 5621), (41, 1, .ior), (42, 1, .iconst 1), (43, 1, .iload 1), (44, 1, .ishl), (45, 1, .iconst (-1)), (46, 1, .ixor), (47, 1, .iand), (48, 1, .istore 2), (49, 1, .iconst 1), (50, 1, .istore 3), (51, 1, .iload 3), (52, 2, .iconst 8), (54, 3, .if_icmp .ge 66), (57, 1, .iconst 1), (58, 2, .istore 4), (60, 2, .iload 4), (62, 3, .iconst 256), (65, 3, .if_icmp .ge 64), (68, 2, .iload 4), (70, 1, .iload 2), (71, 1, .iconst (-1)), (72, 1, .ixor), (73, 1, .iand), (74, 3, .ifCond .ne 62), (77, 2, .iload 4), (79, 3, .invokestatic 26711), (82, 1, .iload 3), (83, 3, .if_icmp .ne 62), (86, 1, .aload 0), (87, 1, .iload 1), (88, 2, .iload 4), (90, 3, .invokestatic 13031), (93, 3, .ifCond .eq 62), (96, 1, .aload 0), (97, 3, .getfield 7072), (100, 2, .iload 4), (102, 1, .i2l), (103, 3, .invokestatic 3420), (106, 1, .iload 3), (107, 1, .ireturn), (108, 3, .iinc 4 1), (111, 3, .goto 37), (114, 3, .iinc 3 1), (117, 3, .goto 32), (120, 1, .iconst (-1)), (121, 1, .ireturn)]
def qcX7_drains : qC := [(0, 1, .aload 0), (1, 3, .getfield 7012), (4, 3, .getfield 2), (7, 1, .aload 0), (8, 3, .getfield 7022), (11, 3, .invokestatic 5320), (14, 1, .aload 0), (15, 3, .getfield 7072), (18, 1, .iconst 0), (19, 3, .putfield 3010), (22, 1, .iconst 0), (23, 1, .istore 1), (24, 1, .iconst 0), (25, 1, .istore 2), (26, 1, .iload 2), (27, 2, .iconst 8), (29, 3, .if_icmp .ge 38), (32, 1, .aload 0), (33, 3, .getfield 7012), (36, 3, .getfield 2), (39, 3, .invokestatic 5711), (42, 1, .istore 3), (43, 1, .iload 3), (44, 1, .iconst (-1)), (45, 3, .if_icmp .ne 26), (48, 3, .goto 38), (51, 1, .aload 0), (52, 3, .getfield 7012), (55, 1, .iload 3), (56, 3, .invokestatic 1320), (59, 1, .aload 0), (60, 3, .getfield 7072), (63, 1, .iload 3), (64, 1, .i2l), (65, 3, .invokestatic 3320), (68, 3, .iinc 1 1), (71, 3, .iinc 2 1), (74, 3, .goto 14), (77, 1, .aload 0), (78, 3, .getfield 7072), (81, 1, .aload 0), (82, 3, .getfield 7012), (85, 3, .getfield 2), (88, 1, .iconst 2), (89, 3, .invokestatic 5621), (92, 1, .i2l), (93, 3, .invokestatic 3320), (96, 1, .iload 1), (97, 1, .ireturn)]
def qcX7_saves : qC := [(0, 1, .iload 1), (1, 3, .invokestatic 13111), (4, 3, .ifCond .eq 8), (7, 1, .iload 2), (8, 3, .ifCond .lt 8), (11, 1, .iload 2), (12, 2, .iconst 21), (14, 3, .if_icmp .lt 10), (17, 1, .iconst (-1)), (18, 1, .ireturn), (19, 1, .aload 0), (20, 3, .getfield 7022), (23, 1, .iload 1), (24, 1, .iload 2), (25, 3, .invokestatic 6231), (28, 1, .istore 3), (29, 1, .aload 0), (30, 3, .getfield 7022), (33, 3, .getfield 5012), (36, 1, .iload 1), (37, 1, .iaload), (38, 3, .ifCond .eq 24), (41, 1, .iload 3), (42, 3, .ifCond .ne 26), (45, 2, .iconst (-2)), (47, 1, .ireturn), (48, 1, .aload 0), (49, 3, .getfield 7022), (52, 1, .iload 1), (53, 1, .iload 2), (54, 3, .invokestatic 6331), (57, 2, .istore 4), (59, 1, .aload 0), (60, 3, .getfield 7022), (63, 3, .getfield 5012), (66, 1, .iload 1), (67, 1, .iaload), (68, 1, .iconst 1), (69, 3, .if_icmp .ne 48), (72, 1, .aload 0), (73, 3, .getfield 7022), (76, 1, .iload 1), (77, 1, .iload 2), (78, 2, .iload 4), (80, 3, .invokestatic 6741), (83, 3, .ifCond .eq 48), (86, 1, .iconst 1), (87, 3, .goto 49), (90, 1, .iconst 0), (91, 2, .istore 5), (93, 1, .aload 0), (94, 3, .getfield 7072), (97, 2, .iload 4), (99, 1, .i2l), (100, 2, .iload 5), (102, 3, .ifCond .eq 58), (105, 1, .goto_w 1), (106, 3, .goto 59), (109, 1, .goto_w 0), (110, 3, .invokestatic 3530), (113, 1, .iload 3), (114, 1, .ireturn)]
def qcX7_holds : qC := [(0, 1, .iload 1), (1, 3, .invokestatic 13111), (4, 3, .ifCond .eq 6), (7, 1, .iload 2), (8, 3, .invokestatic 13211), (11, 3, .ifCond .ne 8), (14, 1, .iconst (-1)), (15, 1, .ireturn), (16, 1, .iconst 0), (17, 1, .istore 3), (18, 1, .aload 0), (19, 3, .getfield 7072), (22, 1, .iconst 0), (23, 3, .putfield 3010), (26, 1, .iload 2), (27, 2, .istore 4), (29, 2, .iload 4), (31, 2, .iconst 85), (33, 3, .if_icmp .ge 36), (36, 1, .aload 0), (37, 3, .getfield 7022), (40, 1, .iload 1), (41, 2, .iload 4), (43, 3, .invokestatic 5431), (46, 3, .ifCond .eq 34), (49, 1, .iload 3), (50, 2, .iconst 12), (52, 3, .if_icmp .ge 33), (55, 1, .aload 0), (56, 3, .getfield 7072), (59, 2, .iload 4), (61, 1, .i2l), (62, 3, .invokestatic 3320), (65, 3, .iinc 3 1), (68, 3, .iinc 4 1), (71, 3, .goto 16), (74, 1, .iload 3), (75, 1, .ireturn)]
def qcX7_common : qC := [(0, 1, .iload 1), (1, 3, .invokestatic 13111), (4, 3, .ifCond .eq 9), (7, 1, .iload 2), (8, 3, .invokestatic 13111), (11, 3, .ifCond .eq 9), (14, 1, .iload 1), (15, 1, .iload 2), (16, 3, .if_icmp .ne 11), (19, 1, .iconst (-1)), (20, 1, .ireturn), (21, 1, .iconst 0), (22, 1, .istore 3), (23, 2, .iconst 85), (25, 2, .istore 4), (27, 1, .iconst 0), (28, 2, .istore 5), (30, 2, .iconst 84), (32, 2, .istore 6), (34, 2, .iload 6), (36, 3, .ifCond .lt 58), (39, 1, .aload 0), (40, 3, .getfield 7022), (43, 1, .iload 1), (44, 2, .iload 6), (46, 3, .invokestatic 5431), (49, 3, .ifCond .eq 56), (52, 1, .aload 0), (53, 3, .getfield 7022), (56, 1, .iload 2), (57, 2, .iload 6), (59, 3, .invokestatic 5431), (62, 3, .ifCond .eq 56), (65, 3, .iinc 3 1), (68, 2, .iload 6), (70, 2, .istore 4), (72, 2, .iload 5), (74, 1, .aload 0), (75, 3, .getfield 7022), (78, 3, .getfield 5052), (81, 1, .iload 1), (82, 1, .iaload), (83, 2, .iload 6), (85, 3, .if_icmp .eq 51), (88, 1, .aload 0), (89, 3, .getfield 7022), (92, 3, .getfield 5052), (95, 1, .iload 2), (96, 1, .iaload), (97, 2, .iload 6), (99, 3, .if_icmp .ne 53), (102, 1, .iconst 1), (103, 3, .goto 54), (106, 1, .iconst 0), (107, 1, .iadd), (108, 2, .istore 5), (110, 3, .iinc 6 (-1)), (113, 3, .goto 19), (116, 1, .aload 0), (117, 3, .getfield 7072), (120, 2, .iload 4), (122, 1, .i2l), (123, 2, .iload 5), (125, 1, .i2l), (126, 3, .invokestatic 3530), (129, 1, .iload 3), (130, 1, .ireturn)]
def qcX7_queues : qC := [(0, 1, .iconst 0), (1, 1, .istore 1), (2, 2, .iconst 85), (4, 1, .istore 2), (5, 1, .iconst 0), (6, 1, .istore 3), (7, 1, .iconst 0), (8, 2, .istore 4), (10, 2, .iload 4), (12, 2, .iconst 85), (14, 3, .if_icmp .ge 28), (17, 1, .aload 0), (18, 3, .getfield 7022), (21, 2, .iload 4), (23, 3, .invokestatic 7021), (26, 2, .istore 5), (28, 2, .iload 5), (30, 3, .ifCond .le 19), (33, 3, .iinc 1 1), (36, 2, .iload 5), (38, 1, .iload 3), (39, 3, .if_icmp .le 26), (42, 2, .iload 5), (44, 1, .istore 3), (45, 2, .iload 4), (47, 1, .istore 2), (48, 3, .iinc 4 1), (51, 3, .goto 8), (54, 1, .aload 0), (55, 3, .getfield 7072), (58, 1, .iconst 0), (59, 3, .putfield 3010), (62, 1, .iload 1), (63, 3, .ifCond .le 43), (66, 1, .aload 0), (67, 3, .getfield 7072), (70, 1, .iload 2), (71, 1, .i2l), (72, 1, .aload 0), (73, 3, .getfield 7022), (76, 3, .invokestatic 7111), (79, 1, .i2l), (80, 3, .invokestatic 3530), (83, 1, .iload 1), (84, 1, .ireturn)]
def qcX7_sum : qC := [(0, 1, .aload 0), (1, 3, .getfield 7072), (4, 1, .aload 0), (5, 3, .getfield 7022), (8, 3, .invokestatic 6111), (11, 1, .i2l), (12, 3, .invokestatic 3420), (15, 1, .iconst 0), (16, 1, .ireturn)]
def qcX7_law : qC := [(0, 1, .aload 0), (1, 3, .getfield 7092), (4, 1, .aload 0), (5, 3, .getfield 7062), (8, 3, .invokestatic 3921), (11, 1, .istore 1), (12, 1, .aload 0), (13, 3, .getfield 7062), (16, 1, .iconst 0), (17, 3, .putfield 6010), (20, 1, .iload 1), (21, 1, .iconst (-1)), (22, 3, .if_icmp .eq 17), (25, 2, .iconst (-100)), (27, 1, .iload 1), (28, 1, .isub), (29, 1, .ireturn), (30, 1, .aload 0), (31, 3, .getfield 7002), (34, 1, .aload 0), (35, 3, .getfield 7092), (38, 3, .invokestatic 1121), (41, 1, .istore 2), (42, 1, .iload 2), (43, 1, .iconst (-1)), (44, 3, .if_icmp .ne 28), (47, 1, .iconst 0), (48, 3, .goto 34), (51, 1, .aload 0), (52, 3, .getfield 7002), (55, 1, .iload 2), (56, 1, .aload 0), (57, 3, .getfield 7092), (60, 3, .invokestatic 1231), (63, 1, .istore 3), (64, 1, .aload 0), (65, 3, .getfield 7012), (68, 3, .getfield 2), (71, 1, .aload 0), (72, 3, .getfield 7022), (75, 3, .invokestatic 5320), (78, 1, .aload 0), (79, 3, .getfield 7012), (82, 1, .aload 0), (83, 3, .getfield 7092), (86, 3, .invokestatic 1021), (89, 2, .istore 4), (91, 1, .aload 0), (92, 3, .getfield 7012), (95, 3, .getfield 2), (98, 1, .aload 0), (99, 3, .getfield 7022), (102, 3, .invokestatic 5320), (105, 1, .aload 0), (106, 3, .getfield 7072), (109, 1, .iload 3), (110, 1, .i2l), (111, 2, .iload 4), (113, 1, .i2l), (114, 3, .invokestatic 3530), (117, 1, .aload 0), (118, 3, .getfield 7072), (121, 1, .aload 0), (122, 3, .getfield 7012), (125, 1, .aload 0), (126, 3, .getfield 7082), (129, 3, .invokestatic 1021), (132, 1, .i2l), (133, 3, .invokestatic 3320), (136, 1, .iload 2), (137, 1, .iconst (-1)), (138, 3, .if_icmp .ne 74), (141, 2, .iconst 8), (143, 3, .goto 75), (146, 1, .iload 2), (147, 1, .ireturn)]
def qcX7_years : qC := [(0, 1, .iload 2), (1, 1, .iconst 1), (2, 3, .if_icmp .lt 6), (5, 1, .iload 2), (6, 2, .iconst 40), (8, 3, .if_icmp .le 8), (11, 1, .iconst (-1)), (12, 1, .ireturn), (13, 1, .aload 0), (14, 3, .getfield 7012), (17, 3, .getfield 2), (20, 1, .aload 0), (21, 3, .getfield 7022), (24, 3, .invokestatic 5320), (27, 1, .aload 0), (28, 3, .getfield 7012), (31, 1, .iload 1), (32, 3, .putfield 40), (35, 1, .iconst 0), (36, 1, .istore 3), (37, 1, .iload 3), (38, 1, .iload 2), (39, 3, .if_icmp .ge 96), (42, 3, .jsr 16), (45, 1, .aload 0), (46, 3, .getfield 7012), (49, 2, .iconst 6), (51, 3, .invokestatic 121), (54, 3, .invokestatic 26921), (57, 2, .istore 4), (59, 1, .aload 0), (60, 3, .getfield 7012), (63, 2, .iconst 8), (65, 3, .invokestatic 121), (68, 2, .istore 5), (70, 1, .iconst 0), (71, 2, .istore 6), (73, 1, .iconst 0), (74, 2, .istore 7), (76, 2, .iload 4), (78, 2, .iconst 111), (80, 3, .if_icmp .ne 49), (83, 3, .jsr 17), (86, 1, .aload 0), (87, 3, .getfield 7012), (90, 1, .iconst 3), (91, 3, .invokestatic 121), (94, 3, .invokestatic 26921), (97, 2, .istore 4), (99, 2, .iload 4), (101, 2, .iconst 108), (103, 3, .if_icmp .ne 65), (106, 1, .aload 0), (107, 3, .getfield 7012), (110, 2, .iconst 85), (112, 3, .invokestatic 121), (115, 2, .istore 6), (117, 1, .aload 0), (118, 3, .getfield 7012), (121, 2, .iconst 6), (123, 3, .invokestatic 121), (126, 1, .iconst 1), (127, 1, .iadd), (128, 2, .istore 7), (130, 3, .goto 84), (133, 2, .iload 4), (135, 2, .iconst 119), (137, 3, .if_icmp .ne 76), (140, 1, .aload 0), (141, 3, .getfield 7012), (144, 2, .iconst 9), (146, 3, .invokestatic 121), (149, 1, .iconst 1), (150, 1, .iadd), (151, 2, .istore 6), (153, 3, .goto 84), (156, 2, .iload 4), (158, 2, .iconst 103), (160, 3, .if_icmp .ne 84), (163, 1, .aload 0), (164, 3, .getfield 7012), (167, 2, .iconst 21), (169, 3, .invokestatic 121), (172, 2, .istore 6), (174, 1, .aload 0), (175, 3, .getfield 7012), (178, 2, .iload 4), (180, 2, .iload 5), (182, 2, .iload 6), (184, 2, .iload 7), (186, 1, .aload 0), (187, 3, .getfield 7082), (190, 3, .invokestatic 261), (193, 1, .pop), (194, 3, .iinc 3 1), (197, 3, .goto 20), (200, 1, .aload 0), (201, 3, .getfield 7012), (204, 3, .getfield 2), (207, 1, .astore 3), (208, 1, .aload 0), (209, 3, .getfield 7072), (212, 1, .aload 3), (213, 3, .invokestatic 6111), (216, 1, .i2l), (217, 1, .aload 3), (218, 1, .iconst 1), (219, 3, .invokestatic 5621), (222, 1, .i2l), (223, 3, .invokestatic 3530), (226, 1, .aload 0), (227, 3, .getfield 7072), (230, 1, .aload 3), (231, 3, .invokestatic 6011), (234, 1, .i2l), (235, 3, .invokestatic 3320), (238, 1, .aload 3), (239, 1, .iconst 2), (240, 3, .invokestatic 5621), (243, 3, .invokestatic 26711), (246, 1, .ireturn)]
def qcX7_keep : qC := [(0, 1, .iload 1), (1, 3, .ifCond .lt 5), (4, 1, .iload 1), (5, 1, .iconst 3), (6, 3, .if_icmp .lt 7), (9, 1, .iconst 0), (10, 1, .freturn), (11, 1, .aload 0), (12, 3, .getfield 7042), (15, 1, .iload 1), (16, 1, .aaload), (17, 1, .aload 0), (18, 3, .getfield 7022), (21, 3, .invokestatic 5320), (24, 1, .aload 0), (25, 3, .getfield 7052), (28, 1, .iload 1), (29, 1, .iconst 1), (30, 1, .bastore), (31, 1, .iconst 1), (32, 1, .freturn)]
def qcX7_again : qC := [(0, 1, .iload 1), (1, 3, .ifCond .lt 10), (4, 1, .iload 1), (5, 1, .iconst 3), (6, 3, .if_icmp .ge 10), (9, 1, .aload 0), (10, 3, .getfield 7052), (13, 1, .iload 1), (14, 1, .baload), (15, 3, .ifCond .ne 12), (18, 1, .iconst 0), (19, 1, .freturn), (20, 1, .aload 0), (21, 3, .getfield 7022), (24, 1, .aload 0), (25, 3, .getfield 7042), (28, 1, .iload 1), (29, 1, .aaload), (30, 3, .invokestatic 5320), (33, 1, .aload 0), (34, 3, .getfield 7032), (37, 1, .iconst 0), (38, 3, .putfield 1020), (41, 1, .iconst 1), (42, 1, .freturn)]
def qcX7_count : qC := [(0, 1, .iload 1), (1, 55, .lookupswitch 46 #[(0, 2), (1, 7), (2, 12), (3, 16), (4, 20), (5, 26), (6, 30), (7, 34), (8, 38), (9, 42)]), (56, 1, .aload 0), (57, 3, .getfield 7022), (60, 1, .iconst 1), (61, 3, .invokestatic 5621), (64, 1, .ireturn), (65, 1, .aload 0), (66, 3, .getfield 7022), (69, 1, .iconst 2), (70, 3, .invokestatic 5621), (73, 1, .ireturn), (74, 1, .aload 0), (75, 3, .getfield 7022), (78, 3, .getfield 5110), (81, 1, .ireturn), (82, 1, .aload 0), (83, 3, .getfield 7022), (86, 3, .getfield 5120), (89, 1, .ireturn), (90, 1, .aload 0), (91, 3, .getfield 7022), (94, 1, .iconst 2), (95, 3, .invokestatic 5621), (98, 3, .invokestatic 26711), (101, 1, .ireturn), (102, 1, .aload 0), (103, 3, .getfield 7022), (106, 3, .invokestatic 5911), (109, 1, .ireturn), (110, 1, .aload 0), (111, 3, .getfield 7022), (114, 3, .invokestatic 6011), (117, 1, .ireturn), (118, 1, .aload 0), (119, 3, .getfield 7032), (122, 3, .getfield 1020), (125, 1, .ireturn), (126, 1, .aload 0), (127, 3, .getfield 7072), (130, 3, .getfield 3010), (133, 1, .ireturn), (134, 1, .aload 0), (135, 3, .getfield 7062), (138, 3, .getfield 6010), (141, 1, .ireturn), (142, 2, .iconst (-100)), (144, 1, .ireturn)]
def qcX7_row : qC := [(0, 1, .iload 1), (1, 3, .ifCond .lt 7), (4, 1, .iload 1), (5, 1, .aload 0), (6, 3, .getfield 7072), (9, 3, .getfield 3010), (12, 3, .if_icmp .lt 11), (15, 3, .nop), (18, 1, .dup), (19, 3, .nop), (22, 1, .nop), (23, 1, .aload 0), (24, 3, .getfield 7072), (27, 3, .getfield 3002), (30, 1, .iload 1), (31, 1, .laload), (32, 1, .lreturn)]
def qcX7_noted : qC := [(0, 1, .iload 1), (1, 3, .ifCond .lt 5), (4, 1, .aload 0), (5, 3, .getfield 7032), (8, 3, .invokestatic 2210), (11, 1, .iload 1), (12, 1, .ireturn)]
def qcX7_runsWithout : qC := [(0, 1, .aload 0), (1, 3, .getfield 7012), (4, 3, .getfield 2), (7, 1, .aload 0), (8, 3, .getfield 7022), (11, 3, .invokestatic 5320), (14, 1, .iconst 0), (15, 1, .istore 3), (16, 1, .iload 3), (17, 2, .iconst 8), (19, 3, .if_icmp .ge 23), (22, 1, .iload 2), (23, 1, .iload 3), (24, 1, .iushr), (25, 1, .iconst 1), (26, 1, .iand), (27, 3, .ifCond .eq 21), (30, 1, .aload 0), (31, 3, .getfield 7012), (34, 1, .iload 3), (35, 3, .invokestatic 1320), (38, 3, .iinc 3 1), (41, 3, .goto 8), (44, 1, .aload 0), (45, 3, .getfield 7012), (48, 3, .getfield 2), (51, 3, .getfield 5012), (54, 1, .iload 1), (55, 1, .iaload), (56, 1, .iconst 1), (57, 3, .if_icmp .ne 33), (60, 1, .iconst 1), (61, 3, .goto 34), (64, 1, .iconst 0), (65, 1, .freturn)]
def qcX7_isOwner : qC := [(0, 1, .iload 0), (1, 3, .ifCond .lt 7), (4, 1, .iload 0), (5, 2, .iconst 8), (7, 3, .if_icmp .ge 7), (10, 1, .iconst 1), (11, 3, .goto 8), (14, 1, .iconst 0), (15, 1, .freturn)]
def qcX7_isPlace : qC := [(0, 1, .iload 0), (1, 3, .ifCond .lt 7), (4, 1, .iload 0), (5, 2, .iconst 85), (7, 3, .if_icmp .ge 7), (10, 1, .iconst 1), (11, 3, .goto 8), (14, 1, .iconst 0), (15, 1, .freturn)]
def qcX7_isMode : qC := [(0, 1, .iload 0), (1, 3, .ifCond .lt 7), (4, 1, .iload 0), (5, 2, .iconst 7), (7, 3, .if_icmp .ge 7), (10, 1, .iconst 1), (11, 3, .goto 8), (14, 1, .iconst 0), (15, 1, .freturn)]
def qcX7_isLockMode : qC := [(0, 1, .iload 0), (1, 1, .iconst 1), (2, 3, .if_icmp .lt 8), (5, 1, .iload 0), (6, 2, .iconst 7), (8, 3, .if_icmp .ge 8), (11, 1, .iconst 1), (12, 3, .goto 9), (15, 1, .iconst 0), (16, 1, .freturn)]
def qcX7_levelOf : qC := [(0, 1, .iload 0), (1, 2, .iconst 21), (3, 3, .if_icmp .lt 5), (6, 1, .iconst 3), (7, 1, .ireturn), (8, 1, .iload 0), (9, 1, .iconst 5), (10, 3, .if_icmp .lt 10), (13, 1, .iconst 2), (14, 3, .goto 16), (17, 1, .iload 0), (18, 1, .iconst 1), (19, 3, .if_icmp .lt 15), (22, 1, .iconst 1), (23, 3, .goto 16), (26, 1, .iconst 0), (27, 1, .ireturn)]
def qcX7_onPath : qC := [(0, 1, .iload 0), (1, 1, .istore 2), (2, 1, .iload 0), (3, 3, .invokestatic 13511), (6, 1, .istore 3), (7, 1, .iload 3), (8, 1, .iload 1), (9, 3, .if_icmp .le 16), (12, 1, .iload 2), (13, 1, .iconst 1), (14, 1, .isub), (15, 1, .iconst 4), (16, 1, .idiv), (17, 1, .istore 2), (18, 3, .iinc 3 (-1)), (21, 3, .goto 5), (24, 1, .iload 2), (25, 1, .ireturn)]
def qcX7_stepMode : qC := [(0, 1, .iload 1), (1, 1, .iload 0), (2, 3, .invokestatic 13511), (5, 3, .if_icmp .ne 6), (8, 1, .iload 2), (9, 1, .ireturn), (10, 1, .iload 2), (11, 1, .iconst 1), (12, 3, .if_icmp .eq 12), (15, 1, .iload 2), (16, 1, .iconst 3), (17, 3, .if_icmp .ne 14), (20, 1, .iconst 1), (21, 3, .goto 15), (24, 1, .iconst 2), (25, 1, .ireturn)]
def qcX7_isDigit : qC := [(0, 1, .iload 0), (1, 2, .iconst 48), (3, 3, .if_icmp .lt 8), (6, 1, .iload 0), (7, 2, .iconst 57), (9, 3, .if_icmp .gt 8), (12, 1, .iconst 1), (13, 3, .goto 9), (16, 1, .iconst 0), (17, 1, .freturn)]
def qcX8_thrown : qC := [(0, 1, .aload 0), (1, 3, .getfield 8000), (4, 1, .ireturn)]
def qcX8_refuse : qC := [(0, 1, .aload 0), (1, 1, .iconst 1), (2, 3, .putfield 8000), (5, 1, .iconst 0), (6, 1, .ireturn)]
def qcX8_in : qC := [(0, 1, .lload 0), (1, 1, .lload 2), (2, 1, .lcmp), (3, 3, .ifCond .lt 10), (6, 1, .lload 0), (7, 2, .lload 4), (9, 1, .lcmp), (10, 3, .ifCond .gt 10), (13, 1, .iconst 1), (14, 3, .goto 11), (17, 1, .iconst 0), (18, 1, .freturn)]
def qcX8_has : qC := [(0, 1, .iload 0), (1, 1, .iload 1), (2, 1, .ishr), (3, 1, .iconst 1), (4, 1, .iand), (5, 1, .iconst 1), (6, 3, .if_icmp .ne 9), (9, 1, .iconst 1), (10, 3, .goto 10), (13, 1, .iconst 0), (14, 1, .freturn)]
def qcX8_flag : qC := [(0, 1, .iload 0), (1, 3, .ifCond .eq 4), (4, 1, .iconst 1), (5, 3, .goto 5), (8, 1, .iconst 0), (9, 1, .ireturn)]
def qcX8_enters : qC := [(0, 1, .aload 0), (1, 3, .getfield 8022), (4, 1, .aload 0), (5, 3, .getfield 8010), (8, 1, .lload 1), (9, 1, .lastore), (10, 1, .aload 0), (11, 1, .dup), (12, 3, .getfield 8010), (15, 1, .iconst 1), (16, 1, .iadd), (17, 3, .putfield 8010), (20, 1, .return_)]
def qcX8_parent : qC := [(0, 1, .iload 0), (1, 3, .ifCond .ne 4), (4, 1, .iconst (-1)), (5, 3, .goto 27), (8, 1, .iload 0), (9, 1, .iconst 5), (10, 3, .if_icmp .ge 9), (13, 1, .iconst 0), (14, 3, .goto 27), (17, 1, .iload 0), (18, 2, .iconst 21), (20, 3, .if_icmp .ge 20), (23, 1, .iconst 1), (24, 1, .iload 0), (25, 1, .iconst 5), (26, 1, .isub), (27, 1, .iconst 4), (28, 1, .idiv), (29, 1, .iadd), (30, 3, .goto 27), (33, 1, .iconst 5), (34, 1, .iload 0), (35, 2, .iconst 21), (37, 1, .isub), (38, 1, .iconst 4), (39, 1, .idiv), (40, 1, .iadd), (41, 1, .ireturn)]
def qcX8_isBelow : qC := [(0, 1, .iload 0), (1, 3, .invokestatic 14511), (4, 1, .istore 2), (5, 1, .iload 2), (6, 3, .ifCond .lt 12), (9, 1, .iload 2), (10, 1, .iload 1), (11, 3, .if_icmp .eq 12), (14, 1, .iload 2), (15, 3, .invokestatic 14511), (18, 1, .istore 2), (19, 3, .goto 3), (22, 1, .iload 2), (23, 3, .ifCond .lt 16), (26, 1, .iconst 1), (27, 3, .goto 17), (30, 1, .iconst 0), (31, 1, .freturn)]
def qcX8_isPlace : qC := [(0, 1, .iload 0), (1, 1, .i2l), (2, 1, .goto_w 0), (3, 3, .goto_w 84), (6, 3, .invokestatic 14131), (9, 1, .freturn)]
def qcX8_isMode : qC := [(0, 1, .iload 0), (1, 1, .i2l), (2, 1, .goto_w 1), (3, 3, .goto_w 6), (6, 3, .invokestatic 14131), (9, 1, .freturn)]
def qcX8_together : qC := [(0, 3, .jsr 3), (3, 1, .iload 0), (4, 1, .iaload), (5, 1, .iload 1), (6, 3, .invokestatic 14221), (9, 1, .freturn)]
def qcX8_both : qC := [(0, 2, .iconst 6), (2, 1, .istore 2), (3, 2, .iconst 6), (5, 1, .istore 3), (6, 1, .iload 3), (7, 3, .ifCond .lt 36), (10, 3, .jsr 4), (13, 1, .iload 3), (14, 1, .iaload), (15, 1, .iload 0), (16, 3, .invokestatic 14221), (19, 3, .ifCond .eq 20), (22, 3, .jsr 4), (25, 1, .iload 3), (26, 1, .iaload), (27, 1, .iload 1), (28, 3, .invokestatic 14221), (31, 3, .ifCond .eq 20), (34, 1, .iconst 1), (35, 3, .goto 21), (38, 1, .iconst 0), (39, 2, .istore 4), (41, 2, .iload 4), (43, 3, .ifCond .eq 32), (46, 3, .jsr 4), (49, 1, .iload 2), (50, 1, .iaload), (51, 1, .iload 3), (52, 3, .invokestatic 14221), (55, 3, .ifCond .eq 32), (58, 1, .iload 3), (59, 3, .goto 33), (62, 1, .iload 2), (63, 1, .istore 2), (64, 3, .iinc 3 (-1)), (67, 3, .goto 4), (70, 1, .iload 2), (71, 1, .ireturn)]
def qcX8_modes : qC := [(0, 1, .aload 0), (1, 1, .iconst 0), (2, 3, .putfield 8000), (5, 1, .iload 1), (6, 1, .i2l), (7, 1, .goto_w 0), (8, 3, .goto_w 6), (11, 3, .invokestatic 14131), (14, 3, .ifCond .eq 15), (17, 1, .iload 2), (18, 1, .i2l), (19, 1, .goto_w 0), (20, 3, .goto_w 6), (23, 3, .invokestatic 14131), (26, 3, .ifCond .ne 17), (29, 1, .iconst (-1)), (30, 1, .ireturn), (31, 1, .aload 0), (32, 1, .iconst 0), (33, 3, .putfield 8010), (36, 1, .aload 0), (37, 1, .iload 1), (38, 1, .iload 2), (39, 3, .invokestatic 15021), (42, 1, .i2l), (43, 3, .invokestatic 14420), (46, 1, .aload 0), (47, 3, .jsr 4), (50, 1, .iload 1), (51, 1, .iaload), (52, 1, .iload 2), (53, 3, .invokestatic 14221), (56, 3, .invokestatic 14311), (59, 1, .i2l), (60, 3, .invokestatic 14420), (63, 1, .iload 1), (64, 1, .iload 2), (65, 3, .invokestatic 14921), (68, 3, .invokestatic 14311), (71, 1, .ireturn)]
def qcX8_sign : qC := [(0, 1, .aload 0), (1, 1, .iconst 0), (2, 3, .putfield 8000), (5, 1, .aload 0), (6, 3, .getfield 8040), (9, 2, .iconst 76), (11, 3, .if_icmp .le 9), (14, 1, .iconst (-1)), (15, 1, .ireturn), (16, 1, .iconst 0), (17, 1, .istore 2), (18, 1, .iload 2), (19, 1, .iconst 4), (20, 3, .if_icmp .ge 32), (23, 1, .aload 0), (24, 3, .getfield 8032), (27, 1, .aload 0), (28, 3, .getfield 8040), (31, 1, .iload 2), (32, 1, .iadd), (33, 1, .iload 1), (34, 2, .iconst 24), (36, 2, .iconst 8), (38, 1, .iload 2), (39, 1, .imul), (40, 1, .isub), (41, 1, .ishr), (42, 3, .iconst 255), (45, 1, .iand), (46, 1, .iastore), (47, 3, .iinc 2 1), (50, 3, .goto 11), (53, 1, .aload 0), (54, 1, .dup), (55, 3, .getfield 8040), (58, 1, .iconst 4), (59, 1, .iadd), (60, 3, .putfield 8040), (63, 1, .aload 0), (64, 3, .getfield 8040), (67, 1, .ireturn)]
def qcX8_end : qC := [(0, 1, .aload 0), (1, 1, .iconst 0), (2, 3, .putfield 8000), (5, 1, .iload 1), (6, 1, .i2l), (7, 1, .goto_w 0), (8, 1, .aload 0), (9, 3, .getfield 8040), (12, 1, .i2l), (13, 3, .invokestatic 14131), (16, 3, .ifCond .ne 13), (19, 1, .iconst 0), (20, 1, .freturn), (21, 1, .aload 0), (22, 1, .iload 1), (23, 3, .putfield 8040), (26, 1, .iconst 1), (27, 1, .freturn)]
def qcX8_reads : qC := [(0, 1, .aload 0), (1, 3, .getfield 8040), (4, 1, .istore 2), (5, 1, .aload 0), (6, 1, .iconst 0), (7, 3, .putfield 8040), (10, 1, .aload 0), (11, 1, .iconst 0), (12, 3, .putfield 8050), (15, 1, .aload 0), (16, 1, .iconst 0), (17, 3, .putfield 8070), (20, 1, .aload 0), (21, 1, .iload 2), (22, 1, .iload 1), (23, 3, .fmul), (26, 3, .putfield 8060), (29, 1, .iload 2), (30, 1, .ireturn)]
def qcX8_takes : qC := [(0, 1, .aload 0), (1, 3, .getfield 8050), (4, 1, .aload 0), (5, 3, .getfield 8060), (8, 3, .if_icmp .ge 14), (11, 1, .aload 0), (12, 3, .getfield 8032), (15, 1, .aload 0), (16, 3, .getfield 8050), (19, 1, .iaload), (20, 1, .iload 1), (21, 3, .if_icmp .ne 14), (24, 1, .iconst 1), (25, 3, .goto 15), (28, 1, .iconst 0), (29, 1, .istore 2), (30, 1, .aload 0), (31, 1, .dup), (32, 3, .getfield 8050), (35, 1, .iload 2), (36, 3, .invokestatic 14311), (39, 1, .iadd), (40, 3, .putfield 8050), (43, 1, .iload 2), (44, 1, .freturn)]
def qcX8_isDigit : qC := [(0, 1, .aload 0), (1, 3, .getfield 8050), (4, 1, .aload 0), (5, 3, .getfield 8060), (8, 3, .if_icmp .ge 17), (11, 1, .aload 0), (12, 3, .getfield 8032), (15, 1, .aload 0), (16, 3, .getfield 8050), (19, 1, .iaload), (20, 1, .i2l), (21, 3, .goto_w 48), (24, 3, .goto_w 57), (27, 3, .invokestatic 14131), (30, 3, .ifCond .eq 17), (33, 1, .iconst 1), (34, 3, .goto 18), (37, 1, .iconst 0), (38, 1, .freturn)]
def qcX8_takesOf : qC := [(0, 1, .iconst 0), (1, 1, .istore 2), (2, 1, .iload 2), (3, 1, .aload 1), (4, 3, .invokestatic 26811), (7, 3, .if_icmp .ge 30), (10, 1, .aload 0), (11, 3, .getfield 8050), (14, 1, .aload 0), (15, 3, .getfield 8060), (18, 3, .if_icmp .ge 30), (21, 1, .aload 1), (22, 1, .iload 2), (23, 3, .invokestatic 26921), (26, 1, .aload 0), (27, 3, .getfield 8032), (30, 1, .aload 0), (31, 3, .getfield 8050), (34, 1, .iaload), (35, 3, .if_icmp .ne 28), (38, 1, .aload 0), (39, 1, .dup), (40, 3, .getfield 8050), (43, 1, .iconst 1), (44, 1, .iadd), (45, 3, .putfield 8050), (48, 1, .iload 2), (49, 1, .ireturn), (50, 3, .iinc 2 1), (53, 3, .goto 2), (56, 1, .iconst (-1)), (57, 1, .ireturn)]
def qcX8_number : qC := [(0, 1, .aload 0), (1, 3, .invokestatic 15611), (4, 3, .ifCond .ne 5), (7, 1, .iconst (-1)), (8, 1, .ireturn), (9, 1, .iconst 0), (10, 1, .istore 2), (11, 1, .iconst 0), (12, 1, .istore 3), (13, 1, .iload 3), (14, 1, .iload 1), (15, 3, .if_icmp .ge 35), (18, 1, .aload 0), (19, 3, .invokestatic 15611), (22, 3, .ifCond .eq 35), (25, 2, .iconst 10), (27, 1, .iload 2), (28, 1, .imul), (29, 1, .aload 0), (30, 3, .getfield 8032), (33, 1, .aload 0), (34, 3, .getfield 8050), (37, 1, .iaload), (38, 1, .iadd), (39, 2, .iconst 48), (41, 1, .isub), (42, 1, .istore 2), (43, 1, .aload 0), (44, 1, .dup), (45, 3, .getfield 8050), (48, 1, .iconst 1), (49, 1, .iadd), (50, 3, .putfield 8050), (53, 3, .iinc 3 1), (56, 3, .goto 9), (59, 1, .iload 2), (60, 1, .ireturn)]
def qcX8_two : qC := [(0, 1, .aload 0), (1, 1, .iconst 1), (2, 3, .invokestatic 15821), (5, 1, .istore 1), (6, 1, .iload 1), (7, 3, .ifCond .ge 8), (10, 1, .iconst (-1)), (11, 3, .goto 11), (14, 1, .aload 0), (15, 1, .iconst 1), (16, 3, .invokestatic 15821), (19, 1, .istore 2), (20, 1, .iload 2), (21, 3, .ifCond .ge 16), (24, 1, .iconst (-1)), (25, 3, .goto 21), (28, 2, .iconst 10), (30, 1, .iload 1), (31, 1, .imul), (32, 1, .iload 2), (33, 1, .iadd), (34, 1, .ireturn)]
def qcX8_faultOf : qC := [(0, 1, .iload 3), (1, 3, .ifCond .eq 9), (4, 1, .aload 0), (5, 3, .getfield 8050), (8, 1, .aload 0), (9, 3, .getfield 8060), (12, 3, .if_icmp .ne 9), (15, 1, .iconst 1), (16, 3, .goto 10), (19, 1, .iconst 0), (20, 2, .istore 4), (22, 1, .iload 1), (23, 1, .iload 2), (24, 3, .if_icmp .le 24), (27, 2, .iload 4), (29, 3, .ifCond .ne 20), (32, 1, .aload 0), (33, 3, .getfield 8050), (36, 1, .iload 2), (37, 3, .if_icmp .lt 24), (40, 1, .iconst (-1)), (41, 1, .iload 2), (42, 1, .isub), (43, 1, .ireturn), (44, 2, .iload 4), (46, 3, .ifCond .eq 28), (49, 1, .iconst 0), (50, 3, .goto 32), (53, 1, .iconst (-1)), (54, 1, .aload 0), (55, 3, .getfield 8050), (58, 1, .isub), (59, 1, .ireturn)]
def qcX8_named : qC := [(0, 1, .aload 0), (1, 1, .iconst 0), (2, 3, .putfield 8000), (5, 1, .aload 0), (6, 2, .iconst 80), (8, 3, .invokestatic 15421), (11, 1, .istore 1), (12, 1, .aload 0), (13, 2, .iconst 83), (15, 3, .invokestatic 15521), (18, 1, .istore 2), (19, 1, .aload 0), (20, 2, .iconst 73), (22, 3, .invokestatic 15521), (25, 1, .istore 3), (26, 1, .aload 0), (27, 2, .iconst 88), (29, 3, .invokestatic 15521), (32, 2, .istore 4), (34, 1, .iload 3), (35, 3, .ifCond .eq 31), (38, 1, .iload 2), (39, 3, .ifCond .ne 31), (42, 2, .iload 4), (44, 3, .ifCond .ne 31), (47, 1, .aload 0), (48, 2, .iconst 83), (50, 3, .invokestatic 15521), (53, 3, .ifCond .eq 31), (56, 1, .iconst 1), (57, 3, .goto 32), (60, 1, .iconst 0), (61, 2, .istore 5), (63, 1, .iload 2), (64, 3, .ifCond .ne 45), (67, 1, .iload 3), (68, 3, .ifCond .ne 45), (71, 2, .iload 4), (73, 3, .ifCond .ne 45), (76, 1, .aload 0), (77, 2, .iconst 85), (79, 3, .invokestatic 15521), (82, 3, .ifCond .eq 45), (85, 1, .iconst 1), (86, 3, .goto 46), (89, 1, .iconst 0), (90, 2, .istore 6), (92, 1, .aload 0), (93, 3, .getfield 8050), (96, 1, .iload 1), (97, 3, .if_icmp .lt 63), (100, 1, .iload 3), (101, 3, .ifCond .eq 57), (104, 2, .iload 4), (106, 3, .ifCond .ne 57), (109, 2, .iload 5), (111, 3, .ifCond .eq 63), (114, 1, .iload 2), (115, 3, .ifCond .eq 65), (118, 1, .iload 3), (119, 3, .ifCond .ne 65), (122, 2, .iload 4), (124, 3, .ifCond .eq 65), (127, 1, .iconst (-1)), (128, 1, .ireturn), (129, 1, .iload 1), (130, 3, .ifCond .ne 69), (133, 1, .iconst 0), (134, 3, .goto 92), (137, 2, .iload 6), (139, 3, .ifCond .eq 73), (142, 1, .iconst 5), (143, 3, .goto 92), (146, 2, .iload 5), (148, 3, .ifCond .eq 77), (151, 1, .iconst 1), (152, 3, .goto 92), (155, 1, .iload 2), (156, 3, .ifCond .eq 83), (159, 1, .iload 3), (160, 3, .ifCond .eq 83), (163, 1, .iconst 4), (164, 3, .goto 92), (167, 1, .iload 2), (168, 3, .ifCond .eq 87), (171, 1, .iconst 3), (172, 3, .goto 92), (175, 1, .iload 3), (176, 3, .ifCond .eq 91), (179, 1, .iconst 2), (180, 3, .goto 92), (183, 2, .iconst 6), (185, 1, .ireturn)]
def qcX8_codes : qC := [(0, 1, .aload 0), (1, 3, .getfield 8092), (4, 1, .aload 0), (5, 3, .getfield 8110), (8, 1, .iload 1), (9, 1, .iastore), (10, 1, .aload 0), (11, 1, .dup), (12, 3, .getfield 8110), (15, 1, .iconst 1), (16, 1, .iadd), (17, 3, .putfield 8110), (20, 1, .return_)]
def qcX8_readsThing : qC := [(0, 1, .aload 0), (1, 2, .iconst 45), (3, 3, .invokestatic 15521), (6, 3, .ifCond .eq 12), (9, 1, .aload 0), (10, 3, .invokestatic 16311), (13, 1, .istore 1), (14, 1, .aload 0), (15, 3, .iconst 3000), (18, 3, .invokestatic 16220), (21, 1, .iload 1), (22, 1, .freturn), (23, 1, .aload 0), (24, 3, .invokestatic 15611), (27, 3, .ifCond .eq 22), (30, 1, .aload 0), (31, 1, .aload 0), (32, 1, .iconst 3), (33, 3, .invokestatic 15821), (36, 3, .invokestatic 16220), (39, 1, .iconst 1), (40, 1, .freturn), (41, 1, .aload 0), (42, 2, .jsr 18), (44, 3, .invokestatic 15721), (47, 1, .istore 1), (48, 1, .iload 1), (49, 3, .ifCond .lt 35), (52, 1, .aload 0), (53, 3, .iconst 1000), (56, 1, .iload 1), (57, 1, .iadd), (58, 3, .invokestatic 16220), (61, 1, .iconst 1), (62, 1, .freturn), (63, 1, .aload 0), (64, 3, .getfield 8070), (67, 1, .iconst 4), (68, 3, .if_icmp .eq 43), (71, 1, .aload 0), (72, 2, .iconst 40), (74, 3, .invokestatic 15521), (77, 3, .ifCond .ne 45), (80, 1, .iconst 0), (81, 1, .freturn), (82, 1, .aload 0), (83, 1, .dup), (84, 3, .getfield 8070), (87, 1, .iconst 1), (88, 1, .iadd), (89, 3, .putfield 8070), (92, 1, .aload 0), (93, 1, .iconst 0), (94, 3, .invokestatic 16421), (97, 3, .ifCond .eq 59), (100, 1, .aload 0), (101, 2, .iconst 41), (103, 3, .invokestatic 15521), (106, 3, .ifCond .ne 61), (109, 1, .iconst 0), (110, 1, .freturn), (111, 1, .aload 0), (112, 1, .dup), (113, 3, .getfield 8070), (116, 1, .iconst 1), (117, 1, .isub), (118, 3, .putfield 8070), (121, 1, .iconst 1), (122, 1, .freturn)]
def qcX8_readsRank : qC := [(0, 1, .iload 1), (1, 1, .iconst 3), (2, 3, .if_icmp .ne 6), (5, 1, .aload 0), (6, 3, .invokestatic 16311), (9, 1, .freturn), (10, 1, .aload 0), (11, 1, .iload 1), (12, 1, .iconst 1), (13, 1, .iadd), (14, 3, .invokestatic 16421), (17, 3, .ifCond .ne 14), (20, 1, .iconst 0), (21, 1, .freturn), (22, 1, .iconst 1), (23, 1, .istore 2), (24, 1, .iload 2), (25, 3, .ifCond .eq 66), (28, 1, .aload 0), (29, 1, .iload 1), (30, 3, .ifCond .ne 23), (33, 2, .jsr 19), (35, 3, .goto 29), (38, 1, .iload 1), (39, 1, .iconst 1), (40, 3, .if_icmp .ne 28), (43, 2, .jsr 20), (45, 3, .goto 29), (48, 2, .jsr 21), (50, 3, .invokestatic 15721), (53, 1, .istore 3), (54, 1, .iload 3), (55, 3, .ifCond .ge 35), (58, 1, .iconst 1), (59, 1, .freturn), (60, 1, .aload 0), (61, 1, .iload 1), (62, 1, .iconst 1), (63, 1, .iadd), (64, 3, .invokestatic 16421), (67, 3, .ifCond .ne 43), (70, 1, .iconst 0), (71, 1, .freturn), (72, 1, .aload 0), (73, 3, .iconst 2000), (76, 1, .iload 3), (77, 1, .iadd), (78, 1, .iload 1), (79, 3, .ifCond .ne 51), (82, 1, .iconst 0), (83, 3, .goto 57), (86, 1, .iload 1), (87, 1, .iconst 1), (88, 3, .if_icmp .ne 56), (91, 1, .iconst 3), (92, 3, .goto 57), (95, 1, .iconst 5), (96, 1, .iadd), (97, 3, .invokestatic 16220), (100, 1, .iload 1), (101, 3, .ifCond .le 63), (104, 1, .iconst 1), (105, 3, .goto 64), (108, 1, .iconst 0), (109, 1, .istore 2), (110, 3, .goto 16), (113, 1, .iconst 1), (114, 1, .freturn)]
def qcX8_readsRule : qC := [(0, 1, .aload 0), (1, 2, .iconst 40), (3, 3, .invokestatic 15421), (6, 1, .istore 1), (7, 1, .aload 0), (8, 1, .iconst 0), (9, 3, .putfield 8110), (12, 1, .iload 1), (13, 3, .ifCond .eq 13), (16, 1, .aload 0), (17, 1, .iconst 0), (18, 3, .invokestatic 16421), (21, 3, .ifCond .eq 15), (24, 1, .iconst 1), (25, 3, .goto 16), (28, 1, .iconst 0), (29, 1, .istore 2), (30, 1, .aload 0), (31, 1, .iload 1), (32, 2, .iconst 40), (34, 1, .iload 2), (35, 3, .invokestatic 16041), (38, 1, .ireturn)]
def qcX8_laysCode : qC := [(0, 1, .aload 0), (1, 1, .iload 2), (2, 3, .putfield 8100), (5, 1, .iconst 0), (6, 1, .istore 3), (7, 1, .iload 3), (8, 1, .iload 2), (9, 3, .if_icmp .ge 17), (12, 1, .aload 0), (13, 3, .getfield 8082), (16, 1, .iload 3), (17, 1, .aload 1), (18, 1, .iload 3), (19, 1, .iaload), (20, 1, .iastore), (21, 3, .iinc 3 1), (24, 3, .goto 5), (27, 1, .return_)]
def qcX8_rule : qC := [(0, 1, .aload 0), (1, 1, .iconst 0), (2, 3, .putfield 8000), (5, 1, .aload 0), (6, 3, .invokestatic 16511), (9, 1, .istore 1), (10, 1, .iload 1), (11, 3, .ifCond .ne 14), (14, 1, .aload 0), (15, 1, .aload 0), (16, 3, .getfield 8092), (19, 1, .aload 0), (20, 3, .getfield 8110), (23, 3, .invokestatic 16630), (26, 1, .iload 1), (27, 1, .ireturn)]
def qcX8_worked : qC := [(0, 1, .iload 0), (1, 39, .lookupswitch 38 #[(0, 2), (1, 10), (2, 18), (3, 26), (4, 30), (5, 34)]), (40, 1, .iload 1), (41, 1, .iload 2), (42, 3, .if_icmp .ge 7), (45, 1, .iconst 1), (46, 3, .goto 8), (49, 1, .iconst 0), (50, 3, .invokestatic 14311), (53, 1, .ireturn), (54, 1, .iload 1), (55, 1, .iload 2), (56, 3, .if_icmp .le 15), (59, 1, .iconst 1), (60, 3, .goto 16), (63, 1, .iconst 0), (64, 3, .invokestatic 14311), (67, 1, .ireturn), (68, 1, .iload 1), (69, 1, .iload 2), (70, 3, .if_icmp .ne 23), (73, 1, .iconst 1), (74, 3, .goto 24), (77, 1, .iconst 0), (78, 3, .invokestatic 14311), (81, 1, .ireturn), (82, 1, .iload 1), (83, 1, .iload 2), (84, 1, .iadd), (85, 1, .ireturn), (86, 1, .iload 1), (87, 1, .iload 2), (88, 1, .isub), (89, 1, .ireturn), (90, 1, .iload 1), (91, 1, .iload 2), (92, 1, .imul), (93, 1, .ireturn), (94, 1, .iload 2), (95, 3, .ifCond .ne 42), (98, 1, .iconst 0), (99, 3, .goto 45), (102, 1, .iload 1), (103, 1, .iload 2), (104, 1, .idiv), (105, 1, .ireturn)]
def qcX8_ruled : qC := [(0, 1, .iconst 0), (1, 1, .istore 1), (2, 1, .iconst 0), (3, 1, .istore 2), (4, 1, .iload 2), (5, 1, .aload 0), (6, 3, .getfield 8100), (9, 3, .if_icmp .ge 73), (12, 1, .aload 0), (13, 3, .getfield 8082), (16, 1, .iload 2), (17, 1, .iaload), (18, 1, .istore 3), (19, 1, .iload 3), (20, 3, .iconst 3000), (23, 3, .if_icmp .ne 30), (26, 1, .aload 0), (27, 3, .getfield 8122), (30, 1, .iload 1), (31, 1, .iconst 1), (32, 1, .isub), (33, 1, .aload 0), (34, 3, .getfield 8122), (37, 1, .iload 1), (38, 1, .iconst 1), (39, 1, .isub), (40, 1, .iaload), (41, 1, .ineg), (42, 1, .iastore), (43, 3, .goto 71), (46, 1, .iload 3), (47, 3, .iconst 2000), (50, 3, .if_icmp .lt 55), (53, 3, .iinc 1 (-1)), (56, 1, .aload 0), (57, 3, .getfield 8122), (60, 1, .iload 1), (61, 1, .iconst 1), (62, 1, .isub), (63, 1, .iload 3), (64, 3, .iconst 2000), (67, 1, .isub), (68, 1, .aload 0), (69, 3, .getfield 8122), (72, 1, .iload 1), (73, 1, .iconst 1), (74, 1, .isub), (75, 1, .iaload), (76, 1, .aload 0), (77, 3, .getfield 8122), (80, 1, .iload 1), (81, 1, .iaload), (82, 3, .invokestatic 16831), (85, 1, .iastore), (86, 3, .goto 71), (89, 1, .aload 0), (90, 3, .getfield 8122), (93, 1, .iload 1), (94, 1, .iload 3), (95, 3, .iconst 1000), (98, 3, .if_icmp .lt 68), (101, 1, .aload 0), (102, 3, .getfield 8132), (105, 1, .iload 3), (106, 3, .iconst 1000), (109, 1, .isub), (110, 1, .iaload), (111, 3, .goto 69), (114, 1, .iload 3), (115, 1, .iastore), (116, 3, .iinc 1 1), (119, 3, .iinc 2 1), (122, 3, .goto 4), (125, 1, .aload 0), (126, 3, .getfield 8100), (129, 3, .ifCond .ne 86), (132, 1, .aload 0), (133, 3, .getfield 8132), (136, 1, .iconst 0), (137, 1, .iaload), (138, 1, .aload 0), (139, 3, .getfield 8132), (142, 1, .iconst 1), (143, 1, .iaload), (144, 1, .iadd), (145, 3, .goto 90), (148, 1, .aload 0), (149, 3, .getfield 8122), (152, 1, .iconst 0), (153, 1, .iaload), (154, 1, .ireturn)]
def qcX8_init : qC := [(0, 1, .aload 0), (1, 3, .pop2), (4, 1, .aload 0), (5, 2, .iconst 24), (7, 2, .anewarray 21), (9, 3, .putfield 8022), (12, 1, .aload 0), (13, 2, .iconst 80), (15, 2, .anewarray 20), (17, 3, .putfield 8032), (20, 1, .aload 0), (21, 2, .iconst 80), (23, 2, .anewarray 20), (25, 3, .putfield 8082), (28, 1, .aload 0), (29, 2, .iconst 80), (31, 2, .anewarray 20), (33, 3, .putfield 8092), (36, 1, .aload 0), (37, 2, .iconst 80), (39, 2, .anewarray 20), (41, 3, .putfield 8122), (44, 1, .aload 0), (45, 2, .iconst 7), (47, 2, .anewarray 20), (49, 3, .putfield 8132), (52, 1, .aload 0), (53, 3, .iconst 755), (56, 2, .anewarray 20), (58, 3, .putfield 8142), (61, 1, .aload 0), (62, 3, .iconst 755), (65, 2, .anewarray 20), (67, 3, .putfield 8152), (70, 1, .aload 0), (71, 2, .iconst 8), (73, 2, .anewarray 20), (75, 3, .putfield 8172), (78, 1, .aload 0), (79, 3, .iconst 8305), (82, 2, .anewarray 20), (84, 3, .putfield 8192), (87, 1, .aload 0), (88, 2, .iconst 80), (90, 2, .anewarray 20), (92, 3, .putfield 8202), (95, 1, .aload 0), (96, 2, .iconst 80), (98, 2, .anewarray 20), (100, 3, .putfield 8212), (103, 1, .aload 0), (104, 2, .iconst 80), (106, 2, .anewarray 20), (108, 3, .putfield 8222), (111, 1, .aload 0), (112, 2, .iconst 80), (114, 2, .anewarray 20), (116, 3, .putfield 8232), (119, 1, .aload 0), (120, 2, .iconst 8), (122, 2, .anewarray 20), (124, 3, .putfield 8262), (127, 1, .aload 0), (128, 2, .iconst 80), (130, 2, .anewarray 20), (132, 3, .putfield 8272), (135, 1, .aload 0), (136, 1, .iconst 3), (137, 2, .anewarray 23), (139, 3, .putfield 8292), (142, 1, .aload 0), (143, 3, .iconst 2265), (146, 2, .anewarray 20), (148, 3, .putfield 8302), (151, 1, .aload 0), (152, 3, .getfield 8142), (155, 3, .iconst 753), (158, 1, .iconst 5), (159, 1, .iastore), (160, 1, .iconst 0), (161, 1, .istore 1), (162, 1, .iload 1), (163, 2, .iconst 8), (165, 3, .if_icmp .ge 93), (168, 1, .aload 0), (169, 3, .getfield 8142), (172, 3, .iconst 712), (175, 1, .iload 1), (176, 1, .iadd), (177, 2, .iconst 85), (179, 1, .iastore), (180, 3, .iinc 1 1), (183, 3, .goto 81), (186, 1, .return_)]
def qcX8_isOwner : qC := [(0, 1, .iload 0), (1, 1, .i2l), (2, 1, .goto_w 0), (3, 3, .goto_w 7), (6, 3, .invokestatic 14131), (9, 1, .freturn)]
def qcX8_held : qC := [(0, 1, .aload 0), (1, 2, .iconst 85), (3, 1, .iload 1), (4, 1, .imul), (5, 1, .iload 2), (6, 1, .iadd), (7, 1, .iaload), (8, 1, .ireturn)]
def qcX8_heldMany : qC := [(0, 1, .iconst 0), (1, 1, .istore 2), (2, 1, .iconst 0), (3, 1, .istore 3), (4, 1, .iload 3), (5, 2, .iconst 85), (7, 3, .if_icmp .ge 21), (10, 1, .iload 2), (11, 1, .aload 0), (12, 1, .iload 1), (13, 1, .iload 3), (14, 3, .invokestatic 17231), (17, 3, .ifCond .le 15), (20, 1, .iconst 1), (21, 3, .goto 16), (24, 1, .iconst 0), (25, 3, .invokestatic 14311), (28, 1, .iadd), (29, 1, .istore 2), (30, 3, .iinc 3 1), (33, 3, .goto 4), (36, 1, .iload 2), (37, 1, .ireturn)]
def qcX8_aloneMany : qC := [(0, 1, .iconst 0), (1, 1, .istore 2), (2, 1, .iconst 0), (3, 1, .istore 3), (4, 1, .iload 3), (5, 2, .iconst 85), (7, 3, .if_icmp .ge 22), (10, 1, .iload 2), (11, 1, .aload 0), (12, 1, .iload 1), (13, 1, .iload 3), (14, 3, .invokestatic 17231), (17, 2, .iconst 6), (19, 3, .if_icmp .ne 16), (22, 1, .iconst 1), (23, 3, .goto 17), (26, 1, .iconst 0), (27, 3, .invokestatic 14311), (30, 1, .iadd), (31, 1, .istore 2), (32, 3, .iinc 3 1), (35, 3, .goto 4), (38, 1, .iload 2), (39, 1, .ireturn)]
def qcX8_so : qC := [(0, 1, .iconst 0), (1, 1, .istore 2), (2, 1, .iconst 0), (3, 1, .istore 3), (4, 1, .iload 3), (5, 2, .iconst 8), (7, 3, .if_icmp .ge 24), (10, 1, .iload 2), (11, 1, .aload 0), (12, 3, .iconst 680), (15, 1, .iload 3), (16, 1, .iadd), (17, 1, .iaload), (18, 1, .iload 1), (19, 3, .if_icmp .ne 19), (22, 1, .iconst 1), (23, 1, .iload 3), (24, 1, .ishl), (25, 3, .goto 20), (28, 1, .iconst 0), (29, 1, .ior), (30, 1, .istore 2), (31, 3, .iinc 3 1), (34, 3, .goto 4), (37, 1, .iload 2), (38, 1, .ireturn)]
def qcX8_isChange : qC := [(0, 1, .aload 0), (1, 1, .iload 1), (2, 1, .aload 0), (3, 3, .iconst 712), (6, 1, .iload 1), (7, 1, .iadd), (8, 1, .iaload), (9, 3, .invokestatic 17231), (12, 3, .ifCond .le 11), (15, 1, .iconst 1), (16, 3, .goto 12), (19, 1, .iconst 0), (20, 1, .freturn)]
def qcX8_isAhead : qC := [(0, 1, .aload 0), (1, 1, .iload 2), (2, 3, .invokestatic 17621), (5, 3, .invokestatic 14311), (8, 1, .aload 0), (9, 1, .iload 1), (10, 3, .invokestatic 17621), (13, 3, .invokestatic 14311), (16, 1, .isub), (17, 1, .istore 3), (18, 1, .iload 3), (19, 3, .ifCond .lt 25), (22, 1, .iload 3), (23, 3, .ifCond .ne 27), (26, 1, .aload 0), (27, 3, .iconst 744), (30, 1, .iload 1), (31, 1, .iadd), (32, 1, .iaload), (33, 1, .aload 0), (34, 3, .iconst 744), (37, 1, .iload 2), (38, 1, .iadd), (39, 1, .iaload), (40, 3, .if_icmp .ge 27), (43, 1, .iconst 1), (44, 3, .goto 28), (47, 1, .iconst 0), (48, 1, .freturn)]
def qcX8_isIn : qC := [(0, 1, .aload 0), (1, 3, .iconst 680), (4, 1, .iload 1), (5, 1, .iadd), (6, 1, .iaload), (7, 1, .iconst 2), (8, 3, .if_icmp .ne 16), (11, 1, .aload 0), (12, 3, .iconst 712), (15, 1, .iload 1), (16, 1, .iadd), (17, 1, .iaload), (18, 1, .iload 2), (19, 3, .if_icmp .ne 16), (22, 1, .iconst 1), (23, 3, .goto 17), (26, 1, .iconst 0), (27, 1, .freturn)]
def qcX8_queued : qC := [(0, 1, .iconst 0), (1, 1, .istore 2), (2, 1, .iconst 0), (3, 1, .istore 3), (4, 1, .iload 3), (5, 2, .iconst 8), (7, 3, .if_icmp .ge 17), (10, 1, .iload 2), (11, 1, .aload 0), (12, 1, .iload 3), (13, 1, .iload 1), (14, 3, .invokestatic 17831), (17, 3, .invokestatic 14311), (20, 1, .iadd), (21, 1, .istore 2), (22, 3, .iinc 3 1), (25, 3, .goto 4), (28, 1, .iload 2), (29, 1, .ireturn)]
def qcX8_hasChange : qC := [(0, 1, .iconst 0), (1, 1, .istore 2), (2, 1, .iconst 0), (3, 1, .istore 3), (4, 1, .iload 3), (5, 2, .iconst 8), (7, 3, .if_icmp .ge 24), (10, 1, .iload 2), (11, 3, .ifCond .ne 18), (14, 1, .aload 0), (15, 1, .iload 3), (16, 1, .iload 1), (17, 3, .invokestatic 17831), (20, 3, .ifCond .eq 20), (23, 1, .aload 0), (24, 1, .iload 3), (25, 3, .invokestatic 17621), (28, 3, .ifCond .eq 20), (31, 1, .iconst 1), (32, 3, .goto 21), (35, 1, .iconst 0), (36, 1, .istore 2), (37, 3, .iinc 3 1), (40, 3, .goto 4), (43, 1, .iload 2), (44, 1, .freturn)]
def qcX8_aheadOf : qC := [(0, 1, .iconst 0), (1, 1, .istore 2), (2, 1, .iconst 0), (3, 1, .istore 3), (4, 1, .iload 3), (5, 2, .iconst 8), (7, 3, .if_icmp .ge 33), (10, 1, .iload 2), (11, 1, .iload 3), (12, 1, .iload 1), (13, 3, .if_icmp .eq 27), (16, 1, .aload 0), (17, 1, .iload 3), (18, 1, .aload 0), (19, 3, .iconst 712), (22, 1, .iload 1), (23, 1, .iadd), (24, 1, .iaload), (25, 3, .invokestatic 17831), (28, 3, .ifCond .eq 27), (31, 1, .aload 0), (32, 1, .iload 3), (33, 1, .iload 1), (34, 3, .invokestatic 17731), (37, 3, .ifCond .eq 27), (40, 1, .iconst 1), (41, 3, .goto 28), (44, 1, .iconst 0), (45, 3, .invokestatic 14311), (48, 1, .iadd), (49, 1, .istore 2), (50, 3, .iinc 3 1), (53, 3, .goto 4), (56, 1, .iload 2), (57, 1, .ireturn)]
def qcX8_inQueue : qC := [(0, 1, .iconst 0), (1, 1, .istore 3), (2, 1, .iload 3), (3, 2, .iconst 8), (5, 3, .if_icmp .ge 19), (8, 1, .aload 0), (9, 1, .iload 3), (10, 1, .iload 1), (11, 3, .invokestatic 17831), (14, 3, .ifCond .eq 17), (17, 1, .aload 0), (18, 1, .iload 3), (19, 3, .invokestatic 18121), (22, 1, .iload 2), (23, 3, .if_icmp .ne 17), (26, 1, .iload 3), (27, 1, .ireturn), (28, 3, .iinc 3 1), (31, 3, .goto 2), (34, 1, .iconst (-1)), (35, 1, .ireturn)]
def qcX8_goesWithOthers : qC := [(0, 1, .iconst 1), (1, 2, .istore 4), (3, 1, .iconst 0), (4, 2, .istore 5), (6, 2, .iload 5), (8, 2, .iconst 8), (10, 3, .if_icmp .ge 25), (13, 2, .iload 4), (15, 3, .ifCond .eq 21), (18, 2, .iload 5), (20, 1, .iload 1), (21, 3, .if_icmp .eq 19), (24, 1, .iload 3), (25, 1, .aload 0), (26, 2, .iload 5), (28, 1, .iload 2), (29, 3, .invokestatic 17231), (32, 3, .invokestatic 14921), (35, 3, .ifCond .eq 21), (38, 1, .iconst 1), (39, 3, .goto 22), (42, 1, .iconst 0), (43, 2, .istore 4), (45, 3, .iinc 5 1), (48, 3, .goto 4), (51, 2, .iload 4), (53, 1, .freturn)]
def qcX8_waitsFor : qC := [(0, 1, .iload 1), (1, 1, .iload 2), (2, 3, .if_icmp .eq 10), (5, 1, .aload 0), (6, 3, .iconst 680), (9, 1, .iload 1), (10, 1, .iadd), (11, 1, .iaload), (12, 1, .iconst 2), (13, 3, .if_icmp .eq 12), (16, 1, .iconst 0), (17, 1, .freturn), (18, 1, .aload 0), (19, 3, .iconst 712), (22, 1, .iload 1), (23, 1, .iadd), (24, 1, .iaload), (25, 1, .istore 3), (26, 1, .aload 0), (27, 3, .iconst 720), (30, 1, .iload 1), (31, 1, .iadd), (32, 1, .iaload), (33, 1, .aload 0), (34, 1, .iload 2), (35, 1, .iload 3), (36, 3, .invokestatic 17231), (39, 3, .invokestatic 14921), (42, 3, .ifCond .eq 39), (45, 1, .aload 0), (46, 1, .iload 2), (47, 1, .iload 3), (48, 3, .invokestatic 17831), (51, 3, .ifCond .eq 41), (54, 1, .aload 0), (55, 1, .iload 2), (56, 1, .iload 1), (57, 3, .invokestatic 17731), (60, 3, .ifCond .eq 41), (63, 1, .iconst 1), (64, 3, .goto 42), (67, 1, .iconst 0), (68, 1, .freturn)]
def qcX8_behindOf : qC := [(0, 1, .iconst 0), (1, 1, .istore 2), (2, 1, .iconst 0), (3, 1, .istore 3), (4, 1, .iload 3), (5, 2, .iconst 8), (7, 3, .if_icmp .ge 22), (10, 1, .iload 2), (11, 1, .aload 0), (12, 1, .iload 1), (13, 1, .iload 3), (14, 3, .invokestatic 18431), (17, 3, .ifCond .eq 17), (20, 1, .iconst 1), (21, 1, .iload 3), (22, 1, .ishl), (23, 3, .goto 18), (26, 1, .iconst 0), (27, 1, .ior), (28, 1, .istore 2), (29, 3, .iinc 3 1), (32, 3, .goto 4), (35, 1, .iload 2), (36, 1, .ireturn)]
def qcX8_comesTo : qC := [(0, 1, .aload 0), (1, 1, .iload 1), (2, 3, .invokestatic 18521), (5, 1, .istore 2), (6, 1, .iconst 0), (7, 1, .istore 3), (8, 1, .iload 3), (9, 2, .iconst 8), (11, 3, .if_icmp .ge 30), (14, 1, .iconst 0), (15, 2, .istore 4), (17, 2, .iload 4), (19, 2, .iconst 8), (21, 3, .if_icmp .ge 28), (24, 1, .iload 2), (25, 1, .iload 2), (26, 2, .iload 4), (28, 3, .invokestatic 14221), (31, 3, .ifCond .eq 23), (34, 1, .aload 0), (35, 2, .iload 4), (37, 3, .invokestatic 18521), (40, 3, .goto 24), (43, 1, .iconst 0), (44, 1, .ior), (45, 1, .istore 2), (46, 3, .iinc 4 1), (49, 3, .goto 11), (52, 3, .iinc 3 1), (55, 3, .goto 6), (58, 1, .iload 2), (59, 1, .ireturn)]
def qcX8_ringed : qC := [(0, 1, .iconst 0), (1, 1, .istore 1), (2, 1, .iconst 0), (3, 1, .istore 2), (4, 1, .iload 2), (5, 2, .iconst 8), (7, 3, .if_icmp .ge 23), (10, 1, .iload 1), (11, 1, .aload 0), (12, 1, .iload 2), (13, 3, .invokestatic 18621), (16, 1, .iload 2), (17, 3, .invokestatic 14221), (20, 3, .ifCond .eq 18), (23, 1, .iconst 1), (24, 1, .iload 2), (25, 1, .ishl), (26, 3, .goto 19), (29, 1, .iconst 0), (30, 1, .ior), (31, 1, .istore 1), (32, 3, .iinc 2 1), (35, 3, .goto 4), (38, 1, .iload 1), (39, 1, .ireturn)]
def qcX8_waitersOf : qC := [(0, 1, .iconst 0), (1, 1, .istore 2), (2, 1, .iconst 0), (3, 1, .istore 3), (4, 1, .iload 3), (5, 2, .iconst 8), (7, 3, .if_icmp .ge 17), (10, 1, .iload 2), (11, 1, .aload 0), (12, 1, .iload 3), (13, 1, .iload 1), (14, 3, .invokestatic 18431), (17, 3, .invokestatic 14311), (20, 1, .iadd), (21, 1, .istore 2), (22, 3, .iinc 3 1), (25, 3, .goto 4), (28, 1, .iload 2), (29, 1, .ireturn)]
def qcX8_cost : qC := [(0, 1, .aload 0), (1, 3, .getfield 8132), (4, 1, .iconst 0), (5, 1, .aload 1), (6, 3, .iconst 696), (9, 1, .iload 2), (10, 1, .iadd), (11, 1, .iaload), (12, 1, .iastore), (13, 1, .aload 0), (14, 3, .getfield 8132), (17, 1, .iconst 1), (18, 1, .aload 1), (19, 1, .iload 2), (20, 3, .invokestatic 17321), (23, 1, .iastore), (24, 1, .aload 0), (25, 3, .getfield 8132), (28, 1, .iconst 2), (29, 1, .aload 1), (30, 3, .iconst 688), (33, 1, .iload 2), (34, 1, .iadd), (35, 1, .iaload), (36, 1, .iastore), (37, 1, .aload 0), (38, 3, .getfield 8132), (41, 1, .iconst 3), (42, 1, .aload 1), (43, 3, .iconst 704), (46, 1, .iload 2), (47, 1, .iadd), (48, 1, .iaload), (49, 1, .iastore), (50, 1, .aload 0), (51, 3, .getfield 8132), (54, 1, .iconst 4), (55, 1, .iload 2), (56, 1, .iastore), (57, 1, .aload 0), (58, 3, .getfield 8132), (61, 1, .iconst 5), (62, 1, .aload 1), (63, 1, .iload 2), (64, 3, .invokestatic 18821), (67, 1, .iastore), (68, 1, .aload 0), (69, 3, .getfield 8132), (72, 2, .iconst 6), (74, 1, .aload 1), (75, 1, .iload 2), (76, 3, .invokestatic 17421), (79, 1, .iastore), (80, 1, .aload 0), (81, 3, .invokestatic 16911), (84, 1, .ireturn)]
def qcX8_holdsNow : qC := [(0, 1, .aload 0), (1, 2, .iconst 85), (3, 1, .iload 1), (4, 1, .imul), (5, 1, .iload 2), (6, 1, .iadd), (7, 1, .iload 3), (8, 1, .iastore), (9, 1, .return_)]
def qcX8_isShared : qC := [(0, 1, .iload 0), (1, 1, .iconst 1), (2, 3, .if_icmp .eq 6), (5, 1, .iload 0), (6, 1, .iconst 3), (7, 3, .if_icmp .ne 8), (10, 1, .iconst 1), (11, 3, .goto 9), (14, 1, .iconst 0), (15, 1, .freturn)]
def qcX8_wanted : qC := [(0, 1, .iload 3), (1, 1, .aload 0), (2, 1, .iload 1), (3, 1, .iload 2), (4, 3, .invokestatic 17231), (7, 3, .invokestatic 15021), (10, 1, .ireturn)]
def qcX8_isGranted : qC := [(0, 1, .aload 0), (1, 1, .iload 1), (2, 1, .iload 2), (3, 1, .iload 3), (4, 3, .invokestatic 19241), (7, 2, .istore 4), (9, 1, .aload 0), (10, 1, .iload 1), (11, 1, .iload 2), (12, 3, .invokestatic 17231), (15, 2, .istore 5), (17, 2, .iload 5), (19, 2, .iload 4), (21, 3, .if_icmp .ne 16), (24, 1, .iconst 1), (25, 1, .freturn), (26, 2, .iload 5), (28, 3, .ifCond .le 23), (31, 1, .aload 0), (32, 1, .iload 2), (33, 3, .invokestatic 18021), (36, 3, .ifCond .ne 35), (39, 3, .goto 27), (42, 1, .aload 0), (43, 1, .iload 2), (44, 3, .invokestatic 17921), (47, 3, .ifCond .ne 35), (50, 1, .aload 0), (51, 1, .iload 1), (52, 1, .iload 2), (53, 2, .iload 4), (55, 3, .invokestatic 18341), (58, 3, .ifCond .eq 35), (61, 1, .iconst 1), (62, 3, .goto 36), (65, 1, .iconst 0), (66, 1, .freturn)]
def qcX8_steps : qC := [(0, 1, .aload 0), (1, 1, .iload 1), (2, 1, .iload 2), (3, 1, .iload 3), (4, 3, .invokestatic 19241), (7, 2, .istore 4), (9, 1, .aload 0), (10, 1, .iload 1), (11, 1, .iload 2), (12, 1, .iload 3), (13, 3, .invokestatic 19341), (16, 3, .ifCond .eq 19), (19, 1, .aload 0), (20, 1, .iload 1), (21, 1, .iload 2), (22, 2, .iload 4), (24, 3, .invokestatic 19040), (27, 1, .iconst 1), (28, 1, .freturn), (29, 1, .aload 0), (30, 3, .iconst 680), (33, 1, .iload 1), (34, 1, .iadd), (35, 1, .iconst 2), (36, 1, .iastore), (37, 1, .aload 0), (38, 3, .iconst 712), (41, 1, .iload 1), (42, 1, .iadd), (43, 1, .iload 2), (44, 1, .iastore), (45, 1, .aload 0), (46, 3, .iconst 720), (49, 1, .iload 1), (50, 1, .iadd), (51, 2, .iload 4), (53, 1, .iastore), (54, 1, .aload 0), (55, 3, .iconst 754), (58, 1, .dup2), (59, 1, .iaload), (60, 1, .iconst 1), (61, 1, .iadd), (62, 1, .iastore), (63, 1, .aload 0), (64, 3, .iconst 744), (67, 1, .iload 1), (68, 1, .iadd), (69, 1, .aload 0), (70, 3, .iconst 754), (73, 1, .iaload), (74, 1, .iastore), (75, 1, .iconst 0), (76, 1, .freturn)]
def qcX8_nextOn : qC := [(0, 1, .iload 0), (1, 1, .istore 2), (2, 1, .iload 2), (3, 3, .invokestatic 14511), (6, 1, .iload 1), (7, 3, .if_icmp .eq 10), (10, 1, .iload 2), (11, 3, .invokestatic 14511), (14, 1, .istore 2), (15, 3, .goto 2), (18, 1, .iload 2), (19, 1, .ireturn)]
def qcX8_modeOn : qC := [(0, 1, .iload 1), (1, 1, .iload 0), (2, 3, .if_icmp .ne 5), (5, 1, .iload 2), (6, 3, .goto 11), (9, 1, .iload 2), (10, 3, .invokestatic 19111), (13, 3, .ifCond .eq 10), (16, 1, .iconst 1), (17, 3, .goto 11), (20, 1, .iconst 2), (21, 1, .ireturn)]
def qcX8_isCovered : qC := [(0, 1, .iconst 0), (1, 2, .istore 4), (3, 1, .iload 2), (4, 3, .invokestatic 14511), (7, 2, .istore 5), (9, 2, .iload 5), (11, 3, .ifCond .lt 37), (14, 1, .aload 0), (15, 1, .iload 1), (16, 2, .iload 5), (18, 3, .invokestatic 17231), (21, 2, .istore 6), (23, 2, .iload 4), (25, 3, .ifCond .ne 29), (28, 2, .iload 6), (30, 2, .iconst 6), (32, 3, .if_icmp .eq 29), (35, 1, .iload 3), (36, 3, .invokestatic 19111), (39, 3, .ifCond .eq 31), (42, 2, .iload 6), (44, 1, .iconst 3), (45, 3, .if_icmp .eq 29), (48, 2, .iload 6), (50, 1, .iconst 4), (51, 3, .if_icmp .eq 29), (54, 2, .iload 6), (56, 1, .iconst 5), (57, 3, .if_icmp .ne 31), (60, 1, .iconst 1), (61, 3, .goto 32), (64, 1, .iconst 0), (65, 2, .istore 4), (67, 2, .iload 5), (69, 3, .invokestatic 14511), (72, 2, .istore 5), (74, 3, .goto 5), (77, 2, .iload 4), (79, 1, .freturn)]
def qcX8_goesOn : qC := [(0, 1, .aload 1), (1, 3, .iconst 728), (4, 1, .iload 2), (5, 1, .iadd), (6, 1, .iaload), (7, 2, .istore 4), (9, 1, .iload 3), (10, 2, .istore 5), (12, 2, .iload 5), (14, 2, .iload 4), (16, 3, .if_icmp .eq 29), (19, 2, .iload 4), (21, 2, .iload 5), (23, 3, .invokestatic 19521), (26, 2, .istore 5), (28, 1, .aload 1), (29, 1, .iload 2), (30, 2, .iload 5), (32, 2, .iload 4), (34, 2, .iload 5), (36, 1, .aload 1), (37, 3, .iconst 736), (40, 1, .iload 2), (41, 1, .iadd), (42, 1, .iaload), (43, 3, .invokestatic 19631), (46, 3, .invokestatic 19441), (49, 3, .ifCond .ne 8), (52, 1, .return_), (53, 2, .iload 4), (55, 2, .iconst 21), (57, 3, .if_icmp .lt 48), (60, 1, .aload 1), (61, 1, .iload 2), (62, 2, .iload 4), (64, 3, .invokestatic 14511), (67, 3, .invokestatic 19931), (70, 1, .aload 1), (71, 3, .iconst 753), (74, 1, .iaload), (75, 3, .if_icmp .lt 48), (78, 1, .aload 0), (79, 1, .aload 1), (80, 1, .iload 2), (81, 2, .iload 4), (83, 3, .invokestatic 14511), (86, 3, .invokestatic 20341), (89, 1, .pop), (90, 1, .return_)]
def qcX8_rowsHeld : qC := [(0, 1, .iconst 0), (1, 1, .istore 3), (2, 1, .iconst 0), (3, 2, .istore 4), (5, 2, .iload 4), (7, 1, .iconst 4), (8, 3, .if_icmp .ge 29), (11, 1, .iload 3), (12, 1, .aload 0), (13, 1, .iload 1), (14, 2, .iconst 21), (16, 1, .iconst 4), (17, 1, .iload 2), (18, 1, .iconst 5), (19, 1, .isub), (20, 1, .imul), (21, 1, .iadd), (22, 2, .iload 4), (24, 1, .iadd), (25, 3, .invokestatic 17231), (28, 3, .ifCond .le 23), (31, 1, .iconst 1), (32, 3, .goto 24), (35, 1, .iconst 0), (36, 3, .invokestatic 14311), (39, 1, .iadd), (40, 1, .istore 3), (41, 3, .iinc 4 1), (44, 3, .goto 4), (47, 1, .iload 3), (48, 1, .ireturn)]
def qcX8_belowMany : qC := [(0, 1, .iconst 0), (1, 1, .istore 3), (2, 1, .iload 2), (3, 1, .iconst 1), (4, 1, .iadd), (5, 2, .istore 4), (7, 2, .iload 4), (9, 2, .iconst 85), (11, 3, .if_icmp .ge 27), (14, 1, .iload 3), (15, 2, .iload 4), (17, 1, .iload 2), (18, 3, .invokestatic 14621), (21, 3, .ifCond .eq 21), (24, 1, .aload 0), (25, 1, .iload 1), (26, 2, .iload 4), (28, 3, .invokestatic 17231), (31, 3, .ifCond .le 21), (34, 1, .iconst 1), (35, 3, .goto 22), (38, 1, .iconst 0), (39, 3, .invokestatic 14311), (42, 1, .iadd), (43, 1, .istore 3), (44, 3, .iinc 4 1), (47, 3, .goto 6), (50, 1, .iload 3), (51, 1, .ireturn)]
def qcX8_gatheredMode : qC := [(0, 1, .iconst 1), (1, 1, .istore 3), (2, 1, .iload 2), (3, 1, .iconst 1), (4, 1, .iadd), (5, 2, .istore 4), (7, 2, .iload 4), (9, 2, .iconst 85), (11, 3, .if_icmp .ge 31), (14, 1, .aload 0), (15, 1, .iload 1), (16, 2, .iload 4), (18, 3, .invokestatic 17231), (21, 2, .istore 5), (23, 1, .iload 3), (24, 3, .ifCond .eq 27), (27, 2, .iload 4), (29, 1, .iload 2), (30, 3, .invokestatic 14621), (33, 3, .ifCond .eq 25), (36, 2, .iload 5), (38, 3, .ifCond .eq 25), (41, 2, .iload 5), (43, 3, .invokestatic 19111), (46, 3, .ifCond .eq 27), (49, 1, .iconst 1), (50, 3, .goto 28), (53, 1, .iconst 0), (54, 1, .istore 3), (55, 3, .iinc 4 1), (58, 3, .goto 6), (61, 1, .aload 0), (62, 1, .iload 1), (63, 1, .iload 2), (64, 3, .invokestatic 17231), (67, 1, .iload 3), (68, 3, .ifCond .eq 39), (71, 1, .iconst 3), (72, 3, .goto 40), (75, 2, .iconst 6), (77, 3, .invokestatic 15021), (80, 1, .ireturn)]
def qcX8_canGather : qC := [(0, 1, .aload 0), (1, 1, .iload 1), (2, 1, .iload 2), (3, 3, .invokestatic 20031), (6, 3, .ifCond .le 20), (9, 1, .aload 0), (10, 1, .iload 2), (11, 3, .invokestatic 18021), (14, 3, .ifCond .ne 20), (17, 1, .aload 0), (18, 1, .iload 1), (19, 1, .iload 2), (20, 1, .aload 0), (21, 1, .iload 1), (22, 1, .iload 2), (23, 3, .invokestatic 20131), (26, 3, .invokestatic 18341), (29, 3, .ifCond .eq 20), (32, 1, .iconst 1), (33, 3, .goto 21), (36, 1, .iconst 0), (37, 1, .freturn)]
def qcX8_gathersOne : qC := [(0, 1, .aload 1), (1, 1, .iload 2), (2, 1, .iload 3), (3, 3, .invokestatic 20231), (6, 3, .ifCond .ne 7), (9, 1, .iconst (-1)), (10, 1, .ireturn), (11, 1, .aload 1), (12, 1, .iload 2), (13, 1, .iload 3), (14, 1, .aload 1), (15, 1, .iload 2), (16, 1, .iload 3), (17, 3, .invokestatic 20131), (20, 3, .invokestatic 19040), (23, 1, .iconst 0), (24, 2, .istore 4), (26, 1, .aload 0), (27, 1, .dup), (28, 3, .getfield 8160), (31, 1, .iconst 1), (32, 1, .iload 2), (33, 1, .ishl), (34, 1, .ior), (35, 3, .putfield 8160), (38, 1, .goto_w 0), (39, 2, .lstore 5), (41, 1, .goto_w 0), (42, 2, .lstore 7), (44, 1, .iload 3), (45, 1, .iconst 1), (46, 1, .iadd), (47, 2, .istore 9), (49, 2, .iload 9), (51, 2, .iconst 85), (53, 3, .if_icmp .ge 77), (56, 2, .iload 9), (58, 1, .iload 3), (59, 3, .invokestatic 14621), (62, 3, .ifCond .eq 75), (65, 1, .aload 1), (66, 1, .iload 2), (67, 2, .iload 9), (69, 3, .invokestatic 17231), (72, 3, .ifCond .le 75), (75, 1, .aload 1), (76, 1, .iload 2), (77, 2, .iload 9), (79, 1, .iconst 0), (80, 3, .invokestatic 19040), (83, 2, .lload 5), (85, 2, .iload 9), (87, 2, .iconst 64), (89, 3, .if_icmp .ge 58), (92, 1, .goto_w 1), (93, 2, .iload 9), (95, 1, .lshl), (96, 3, .goto 59), (99, 1, .goto_w 0), (100, 1, .lor), (101, 2, .lstore 5), (103, 2, .lload 7), (105, 2, .iload 9), (107, 2, .iconst 64), (109, 3, .if_icmp .ge 67), (112, 1, .goto_w 0), (113, 3, .goto 72), (116, 1, .goto_w 1), (117, 2, .iload 9), (119, 2, .iconst 64), (121, 1, .isub), (122, 1, .lshl), (123, 1, .lor), (124, 2, .lstore 7), (126, 3, .iinc 4 1), (129, 3, .iinc 9 1), (132, 3, .goto 33), (135, 1, .aload 0), (136, 1, .aload 1), (137, 2, .lload 5), (139, 2, .lload 7), (141, 3, .invokestatic 20440), (144, 2, .iload 4), (146, 1, .ireturn)]
def qcX8_servesAll : qC := [(0, 1, .iconst 0), (1, 2, .istore 6), (3, 2, .iload 6), (5, 2, .iconst 85), (7, 3, .if_icmp .ge 30), (10, 2, .iload 6), (12, 2, .iconst 64), (14, 3, .if_icmp .ge 14), (17, 1, .lload 2), (18, 2, .iload 6), (20, 1, .lshr), (21, 1, .goto_w 1), (22, 1, .land), (23, 3, .goto 21), (26, 2, .lload 4), (28, 2, .iload 6), (30, 2, .iconst 64), (32, 1, .isub), (33, 1, .lshr), (34, 1, .goto_w 1), (35, 1, .land), (36, 1, .goto_w 1), (37, 1, .lcmp), (38, 3, .ifCond .ne 28), (41, 1, .aload 0), (42, 1, .aload 1), (43, 2, .iload 6), (45, 3, .invokestatic 20530), (48, 3, .iinc 6 1), (51, 3, .goto 2), (54, 1, .return_)]
def qcX8_serves : qC := [(0, 1, .goto_w 0), (1, 1, .lstore 3), (2, 1, .iconst 0), (3, 2, .istore 5), (5, 1, .aload 1), (6, 1, .iload 2), (7, 1, .iconst 0), (8, 3, .invokestatic 18231), (11, 2, .istore 6), (13, 2, .iload 6), (15, 3, .ifCond .lt 58), (18, 1, .aload 1), (19, 2, .iload 6), (21, 1, .iload 2), (22, 1, .aload 1), (23, 3, .iconst 720), (26, 2, .iload 6), (28, 1, .iadd), (29, 1, .iaload), (30, 3, .invokestatic 18341), (33, 3, .ifCond .eq 58), (36, 1, .aload 1), (37, 2, .iload 6), (39, 1, .iload 2), (40, 1, .aload 1), (41, 3, .iconst 720), (44, 2, .iload 6), (46, 1, .iadd), (47, 1, .iaload), (48, 3, .invokestatic 19040), (51, 1, .aload 1), (52, 3, .iconst 680), (55, 2, .iload 6), (57, 1, .iadd), (58, 1, .iconst 1), (59, 1, .iastore), (60, 1, .aload 1), (61, 3, .iconst 712), (64, 2, .iload 6), (66, 1, .iadd), (67, 2, .iconst 85), (69, 1, .iastore), (70, 1, .lload 3), (71, 2, .iload 6), (73, 1, .i2l), (74, 1, .iconst 4), (75, 2, .iload 5), (77, 1, .imul), (78, 1, .lshl), (79, 1, .lor), (80, 1, .lstore 3), (81, 3, .iinc 5 1), (84, 1, .aload 1), (85, 1, .iload 2), (86, 1, .iconst 0), (87, 3, .invokestatic 18231), (90, 2, .istore 6), (92, 3, .goto 9), (95, 1, .iconst 0), (96, 2, .istore 7), (98, 2, .iload 7), (100, 2, .iload 5), (102, 3, .if_icmp .ge 77), (105, 1, .aload 0), (106, 1, .aload 1), (107, 1, .lload 3), (108, 1, .iconst 4), (109, 2, .iload 7), (111, 1, .imul), (112, 1, .lshr), (113, 3, .goto_w 15), (116, 1, .land), (117, 1, .l2i), (118, 1, .iload 2), (119, 3, .invokestatic 19840), (122, 3, .iinc 7 1), (125, 3, .goto 60), (128, 1, .return_)]
def qcX8_locksOne : qC := [(0, 1, .iload 2), (1, 3, .invokestatic 17111), (4, 3, .ifCond .eq 9), (7, 1, .iload 3), (8, 3, .invokestatic 14711), (11, 3, .ifCond .eq 9), (14, 2, .iload 4), (16, 3, .invokestatic 14811), (19, 3, .ifCond .ne 11), (22, 1, .iconst (-1)), (23, 1, .ireturn), (24, 1, .aload 1), (25, 3, .iconst 680), (28, 1, .iload 2), (29, 1, .iadd), (30, 1, .iaload), (31, 1, .iconst 1), (32, 3, .if_icmp .eq 28), (35, 1, .aload 1), (36, 3, .iconst 680), (39, 1, .iload 2), (40, 1, .iadd), (41, 1, .iaload), (42, 3, .ifCond .ne 26), (45, 2, .iconst (-2)), (47, 3, .goto 27), (50, 2, .iconst (-3)), (52, 1, .ireturn), (53, 1, .aload 0), (54, 1, .iconst 0), (55, 3, .putfield 8160), (58, 1, .aload 1), (59, 1, .iload 2), (60, 1, .iload 3), (61, 2, .iload 4), (63, 3, .invokestatic 19741), (66, 3, .ifCond .ne 54), (69, 1, .aload 1), (70, 3, .iconst 728), (73, 1, .iload 2), (74, 1, .iadd), (75, 1, .iload 3), (76, 1, .iastore), (77, 1, .aload 1), (78, 3, .iconst 736), (81, 1, .iload 2), (82, 1, .iadd), (83, 2, .iload 4), (85, 1, .iastore), (86, 1, .aload 0), (87, 1, .aload 1), (88, 1, .iload 2), (89, 1, .iconst (-1)), (90, 3, .invokestatic 19840), (93, 1, .aload 1), (94, 3, .iconst 680), (97, 1, .iload 2), (98, 1, .iadd), (99, 1, .iaload), (100, 1, .iconst 1), (101, 3, .if_icmp .ne 63), (104, 1, .iconst 1), (105, 3, .goto 64), (108, 1, .iconst 0), (109, 3, .invokestatic 14311), (112, 1, .ireturn)]
def qcX8_beginsOne : qC := [(0, 1, .iload 2), (1, 3, .invokestatic 17111), (4, 3, .ifCond .ne 5), (7, 1, .iconst (-1)), (8, 1, .ireturn), (9, 1, .aload 1), (10, 3, .iconst 680), (13, 1, .iload 2), (14, 1, .iadd), (15, 1, .iaload), (16, 3, .ifCond .eq 13), (19, 2, .iconst (-2)), (21, 1, .ireturn), (22, 1, .aload 1), (23, 3, .iconst 680), (26, 1, .iload 2), (27, 1, .iadd), (28, 1, .iconst 1), (29, 1, .iastore), (30, 1, .aload 1), (31, 3, .iconst 752), (34, 1, .dup2), (35, 1, .iaload), (36, 1, .iconst 1), (37, 1, .iadd), (38, 1, .iastore), (39, 1, .aload 1), (40, 3, .iconst 688), (43, 1, .iload 2), (44, 1, .iadd), (45, 1, .aload 1), (46, 3, .iconst 752), (49, 1, .iaload), (50, 1, .iastore), (51, 1, .aload 1), (52, 3, .iconst 752), (55, 1, .iaload), (56, 1, .ireturn)]
def qcX8_worksOne : qC := [(0, 1, .iload 1), (1, 3, .invokestatic 17111), (4, 3, .ifCond .eq 9), (7, 1, .iload 2), (8, 1, .i2l), (9, 1, .goto_w 1), (10, 3, .goto_w 9), (13, 3, .invokestatic 14131), (16, 3, .ifCond .ne 11), (19, 1, .iconst (-1)), (20, 1, .ireturn), (21, 1, .aload 0), (22, 3, .iconst 680), (25, 1, .iload 1), (26, 1, .iadd), (27, 1, .iaload), (28, 1, .iconst 1), (29, 3, .if_icmp .eq 28), (32, 1, .aload 0), (33, 3, .iconst 680), (36, 1, .iload 1), (37, 1, .iadd), (38, 1, .iaload), (39, 3, .ifCond .ne 26), (42, 2, .iconst (-2)), (44, 3, .goto 27), (47, 2, .iconst (-3)), (49, 1, .ireturn), (50, 1, .aload 0), (51, 3, .iconst 696), (54, 1, .iload 1), (55, 1, .iadd), (56, 2, .iconst 99), (58, 1, .aload 0), (59, 3, .iconst 696), (62, 1, .iload 1), (63, 1, .iadd), (64, 1, .iaload), (65, 1, .iload 2), (66, 1, .iadd), (67, 3, .fmul), (70, 1, .iastore), (71, 1, .aload 0), (72, 3, .iconst 696), (75, 1, .iload 1), (76, 1, .iadd), (77, 1, .iaload), (78, 1, .ireturn)]
def qcX8_unlocksOne : qC := [(0, 1, .iload 2), (1, 3, .invokestatic 17111), (4, 3, .ifCond .eq 6), (7, 1, .iload 3), (8, 3, .invokestatic 14711), (11, 3, .ifCond .ne 8), (14, 1, .iconst (-1)), (15, 1, .ireturn), (16, 1, .aload 1), (17, 3, .iconst 680), (20, 1, .iload 2), (21, 1, .iadd), (22, 1, .iaload), (23, 1, .iconst 1), (24, 3, .if_icmp .eq 25), (27, 1, .aload 1), (28, 3, .iconst 680), (31, 1, .iload 2), (32, 1, .iadd), (33, 1, .iaload), (34, 3, .ifCond .ne 23), (37, 2, .iconst (-2)), (39, 3, .goto 24), (42, 2, .iconst (-3)), (44, 1, .ireturn), (45, 1, .aload 1), (46, 1, .iload 2), (47, 1, .iload 3), (48, 3, .invokestatic 17231), (51, 3, .ifCond .ne 32), (54, 2, .iconst (-4)), (56, 1, .ireturn), (57, 1, .aload 1), (58, 1, .iload 2), (59, 1, .iload 3), (60, 3, .invokestatic 20031), (63, 3, .ifCond .le 39), (66, 2, .iconst (-5)), (68, 1, .ireturn), (69, 1, .aload 1), (70, 1, .iconst 2), (71, 3, .invokestatic 17521), (74, 2, .istore 4), (76, 1, .aload 1), (77, 1, .iload 2), (78, 1, .iload 3), (79, 1, .iconst 0), (80, 3, .invokestatic 19040), (83, 1, .aload 0), (84, 1, .aload 1), (85, 1, .iload 3), (86, 3, .invokestatic 20530), (89, 2, .iload 4), (91, 1, .aload 1), (92, 1, .iconst 1), (93, 3, .invokestatic 17521), (96, 1, .iand), (97, 3, .invokestatic 26711), (100, 1, .ireturn)]
def qcX8_goes : qC := [(0, 1, .goto_w 0), (1, 1, .lstore 3), (2, 1, .goto_w 0), (3, 2, .lstore 5), (5, 1, .iconst 0), (6, 2, .istore 7), (8, 1, .iconst 0), (9, 2, .istore 8), (11, 2, .iload 8), (13, 2, .iconst 85), (15, 3, .if_icmp .ge 58), (18, 1, .aload 1), (19, 1, .iload 2), (20, 2, .iload 8), (22, 3, .invokestatic 17231), (25, 3, .ifCond .le 18), (28, 1, .iconst 1), (29, 3, .goto 19), (32, 1, .iconst 0), (33, 2, .istore 9), (35, 2, .iload 9), (37, 3, .ifCond .ne 27), (40, 1, .aload 1), (41, 1, .iload 2), (42, 2, .iload 8), (44, 3, .invokestatic 17831), (47, 3, .ifCond .eq 51), (50, 1, .lload 3), (51, 2, .iload 8), (53, 2, .iconst 64), (55, 3, .if_icmp .ge 35), (58, 1, .goto_w 1), (59, 2, .iload 8), (61, 1, .lshl), (62, 3, .goto 36), (65, 1, .goto_w 0), (66, 1, .lor), (67, 1, .lstore 3), (68, 2, .lload 5), (70, 2, .iload 8), (72, 2, .iconst 64), (74, 3, .if_icmp .ge 44), (77, 1, .goto_w 0), (78, 3, .goto 49), (81, 1, .goto_w 1), (82, 2, .iload 8), (84, 2, .iconst 64), (86, 1, .isub), (87, 1, .lshl), (88, 1, .lor), (89, 2, .lstore 5), (91, 2, .iload 7), (93, 2, .iload 9), (95, 3, .invokestatic 14311), (98, 1, .iadd), (99, 2, .istore 7), (101, 3, .iinc 8 1), (104, 3, .goto 8), (107, 1, .iconst 0), (108, 2, .istore 8), (110, 2, .iload 8), (112, 2, .iconst 85), (114, 3, .if_icmp .ge 70), (117, 1, .aload 1), (118, 1, .iload 2), (119, 2, .iload 8), (121, 1, .iconst 0), (122, 3, .invokestatic 19040), (125, 3, .iinc 8 1), (128, 3, .goto 60), (131, 1, .aload 1), (132, 3, .iconst 680), (135, 1, .iload 2), (136, 1, .iadd), (137, 1, .iconst 0), (138, 1, .iastore), (139, 1, .aload 1), (140, 3, .iconst 712), (143, 1, .iload 2), (144, 1, .iadd), (145, 2, .iconst 85), (147, 1, .iastore), (148, 1, .aload 1), (149, 3, .iconst 688), (152, 1, .iload 2), (153, 1, .iadd), (154, 1, .iconst 0), (155, 1, .iastore), (156, 1, .aload 1), (157, 3, .iconst 696), (160, 1, .iload 2), (161, 1, .iadd), (162, 1, .iconst 0), (163, 1, .iastore), (164, 1, .aload 0), (165, 1, .aload 1), (166, 1, .lload 3), (167, 2, .lload 5), (169, 3, .invokestatic 20440), (172, 2, .iload 7), (174, 1, .ireturn)]
def qcX8_endsOne : qC := [(0, 1, .iload 2), (1, 3, .invokestatic 17111), (4, 3, .ifCond .ne 5), (7, 1, .iconst (-1)), (8, 3, .goto 17), (11, 1, .aload 1), (12, 3, .iconst 680), (15, 1, .iload 2), (16, 1, .iadd), (17, 1, .iaload), (18, 3, .ifCond .ne 13), (21, 2, .iconst (-2)), (23, 3, .goto 17), (26, 1, .aload 0), (27, 1, .aload 1), (28, 1, .iload 2), (29, 3, .invokestatic 21031), (32, 1, .ireturn)]
def qcX8_gathersAt : qC := [(0, 1, .iload 2), (1, 3, .invokestatic 17111), (4, 3, .ifCond .eq 9), (7, 1, .iload 3), (8, 1, .i2l), (9, 1, .goto_w 0), (10, 3, .goto_w 20), (13, 3, .invokestatic 14131), (16, 3, .ifCond .ne 11), (19, 1, .iconst (-1)), (20, 1, .ireturn), (21, 1, .aload 1), (22, 3, .iconst 680), (25, 1, .iload 2), (26, 1, .iadd), (27, 1, .iaload), (28, 1, .iconst 1), (29, 3, .if_icmp .eq 28), (32, 1, .aload 1), (33, 3, .iconst 680), (36, 1, .iload 2), (37, 1, .iadd), (38, 1, .iaload), (39, 3, .ifCond .ne 26), (42, 2, .iconst (-2)), (44, 3, .goto 27), (47, 2, .iconst (-3)), (49, 1, .ireturn), (50, 1, .aload 1), (51, 1, .iload 2), (52, 1, .iload 3), (53, 3, .invokestatic 20231), (56, 3, .ifCond .eq 39), (59, 1, .aload 0), (60, 1, .aload 1), (61, 1, .iload 2), (62, 1, .iload 3), (63, 3, .invokestatic 20341), (66, 3, .goto 40), (69, 2, .iconst (-4)), (71, 1, .ireturn)]
def qcX8_bulksOne : qC := [(0, 1, .iload 1), (1, 1, .i2l), (2, 3, .goto_w 2), (5, 3, .goto_w 5), (8, 3, .invokestatic 14131), (11, 3, .ifCond .ne 8), (14, 1, .iconst (-1)), (15, 1, .ireturn), (16, 1, .aload 0), (17, 3, .iconst 753), (20, 1, .iaload), (21, 1, .istore 2), (22, 1, .aload 0), (23, 3, .iconst 753), (26, 1, .iload 1), (27, 1, .iastore), (28, 1, .iload 2), (29, 1, .iload 1), (30, 3, .if_icmp .ne 21), (33, 2, .iconst (-2)), (35, 3, .goto 24), (38, 2, .iconst 10), (40, 1, .iload 2), (41, 1, .iadd), (42, 1, .ireturn)]
def qcX8_cheapest : qC := [(0, 1, .aload 1), (1, 3, .invokestatic 18711), (4, 1, .istore 2), (5, 1, .iconst (-1)), (6, 1, .istore 3), (7, 1, .iconst 0), (8, 2, .istore 4), (10, 2, .iload 4), (12, 2, .iconst 8), (14, 3, .if_icmp .ge 49), (17, 1, .iload 2), (18, 2, .iload 4), (20, 3, .invokestatic 14221), (23, 3, .ifCond .eq 47), (26, 1, .iload 3), (27, 3, .ifCond .ge 18), (30, 1, .iconst (-1)), (31, 3, .goto 27), (34, 1, .aload 0), (35, 1, .aload 1), (36, 2, .iload 4), (38, 3, .invokestatic 18931), (41, 1, .aload 0), (42, 1, .aload 1), (43, 1, .iload 3), (44, 3, .invokestatic 18931), (47, 3, .invokestatic 26521), (50, 2, .istore 5), (52, 2, .iload 5), (54, 3, .ifCond .lt 43), (57, 2, .iload 5), (59, 3, .ifCond .ne 45), (62, 1, .aload 1), (63, 3, .iconst 688), (66, 2, .iload 4), (68, 1, .iadd), (69, 1, .iaload), (70, 1, .aload 1), (71, 3, .iconst 688), (74, 1, .iload 3), (75, 1, .iadd), (76, 1, .iaload), (77, 3, .if_icmp .le 45), (80, 2, .iload 4), (82, 3, .goto 46), (85, 1, .iload 3), (86, 1, .istore 3), (87, 3, .iinc 4 1), (90, 3, .goto 7), (93, 1, .iload 3), (94, 1, .ireturn)]
def qcX8_fellsAll : qC := [(0, 1, .iconst 0), (1, 1, .istore 2), (2, 1, .aload 0), (3, 1, .aload 1), (4, 3, .invokestatic 21421), (7, 1, .istore 3), (8, 1, .iload 3), (9, 3, .ifCond .lt 38), (12, 1, .aload 0), (13, 3, .getfield 8172), (16, 1, .iload 2), (17, 1, .iload 3), (18, 1, .iastore), (19, 3, .iinc 2 1), (22, 1, .aload 1), (23, 3, .iconst 704), (26, 1, .iload 3), (27, 1, .iadd), (28, 2, .iconst 99), (30, 1, .aload 1), (31, 3, .iconst 704), (34, 1, .iload 3), (35, 1, .iadd), (36, 1, .iaload), (37, 1, .iconst 1), (38, 1, .iadd), (39, 3, .fmul), (42, 1, .iastore), (43, 1, .aload 0), (44, 1, .aload 1), (45, 1, .iload 3), (46, 3, .invokestatic 21031), (49, 1, .pop), (50, 1, .aload 0), (51, 1, .aload 1), (52, 3, .invokestatic 21421), (55, 1, .istore 3), (56, 3, .goto 6), (59, 1, .iload 2), (60, 1, .ireturn)]
def qcX8_putsBy : qC := [(0, 1, .iconst 0), (1, 1, .istore 1), (2, 1, .iload 1), (3, 3, .iconst 755), (6, 3, .if_icmp .ge 20), (9, 1, .aload 0), (10, 3, .getfield 8192), (13, 3, .iconst 755), (16, 1, .aload 0), (17, 3, .getfield 8180), (20, 1, .imul), (21, 1, .iload 1), (22, 1, .iadd), (23, 1, .aload 0), (24, 3, .getfield 8142), (27, 1, .iload 1), (28, 1, .iaload), (29, 1, .iastore), (30, 3, .iinc 1 1), (33, 3, .goto 2), (36, 1, .return_)]
def qcX8_adds : qC := [(0, 1, .aload 0), (1, 1, .dup), (2, 3, .getfield 8180), (5, 1, .iconst 1), (6, 1, .iadd), (7, 3, .putfield 8180), (10, 1, .aload 0), (11, 3, .getfield 8180), (14, 2, .iconst 10), (16, 3, .if_icmp .le 33), (19, 1, .iconst 0), (20, 1, .istore 2), (21, 1, .iload 2), (22, 3, .iconst 7550), (25, 3, .if_icmp .ge 27), (28, 1, .aload 0), (29, 3, .getfield 8192), (32, 1, .iload 2), (33, 1, .aload 0), (34, 3, .getfield 8192), (37, 1, .iload 2), (38, 3, .iconst 755), (41, 1, .iadd), (42, 1, .iaload), (43, 1, .iastore), (44, 3, .iinc 2 1), (47, 3, .goto 12), (50, 1, .aload 0), (51, 1, .dup), (52, 3, .getfield 8180), (55, 1, .iconst 1), (56, 1, .isub), (57, 3, .putfield 8180), (60, 1, .iload 1), (61, 1, .ireturn)]
def qcX8_counted : qC := [(0, 1, .iload 1), (1, 3, .ifCond .ge 4), (4, 1, .iload 1), (5, 3, .goto 7), (8, 1, .aload 0), (9, 1, .iload 1), (10, 3, .invokestatic 21721), (13, 1, .ireturn)]
def qcX8_undo : qC := [(0, 1, .aload 0), (1, 1, .iconst 0), (2, 3, .putfield 8000), (5, 1, .aload 0), (6, 3, .getfield 8180), (9, 3, .ifCond .ne 8), (12, 1, .iconst (-1)), (13, 1, .ireturn), (14, 1, .aload 0), (15, 1, .dup), (16, 3, .getfield 8180), (19, 1, .iconst 1), (20, 1, .isub), (21, 3, .putfield 8180), (24, 1, .iconst 0), (25, 1, .istore 1), (26, 1, .iload 1), (27, 3, .iconst 755), (30, 3, .if_icmp .ge 34), (33, 1, .aload 0), (34, 3, .getfield 8142), (37, 1, .iload 1), (38, 1, .aload 0), (39, 3, .getfield 8192), (42, 3, .iconst 755), (45, 1, .aload 0), (46, 3, .getfield 8180), (49, 1, .imul), (50, 1, .iload 1), (51, 1, .iadd), (52, 1, .iaload), (53, 1, .iastore), (54, 3, .iinc 1 1), (57, 3, .goto 16), (60, 1, .aload 0), (61, 3, .getfield 8180), (64, 1, .ireturn)]
def qcX8_owner : qC := [(0, 1, .aload 0), (1, 1, .iconst 0), (2, 3, .putfield 8000), (5, 1, .iload 1), (6, 3, .invokestatic 17111), (9, 3, .ifCond .eq 12), (12, 1, .iload 2), (13, 1, .i2l), (14, 1, .goto_w 0), (15, 3, .goto_w 5), (18, 3, .invokestatic 14131), (21, 3, .ifCond .ne 15), (24, 1, .aload 0), (25, 3, .invokestatic 14011), (28, 1, .ireturn), (29, 1, .iload 2), (30, 34, .lookupswitch 50 #[(0, 17), (1, 24), (2, 31), (3, 38), (4, 45)]), (64, 1, .aload 0), (65, 3, .getfield 8142), (68, 3, .iconst 680), (71, 1, .iload 1), (72, 1, .iadd), (73, 1, .iaload), (74, 1, .ireturn), (75, 1, .aload 0), (76, 3, .getfield 8142), (79, 3, .iconst 688), (82, 1, .iload 1), (83, 1, .iadd), (84, 1, .iaload), (85, 1, .ireturn), (86, 1, .aload 0), (87, 3, .getfield 8142), (90, 3, .iconst 696), (93, 1, .iload 1), (94, 1, .iadd), (95, 1, .iaload), (96, 1, .ireturn), (97, 1, .aload 0), (98, 3, .getfield 8142), (101, 3, .iconst 704), (104, 1, .iload 1), (105, 1, .iadd), (106, 1, .iaload), (107, 1, .ireturn), (108, 1, .aload 0), (109, 3, .getfield 8142), (112, 1, .iload 1), (113, 3, .invokestatic 17321), (116, 1, .ireturn), (117, 1, .aload 0), (118, 1, .aload 0), (119, 3, .getfield 8142), (122, 1, .iload 1), (123, 3, .invokestatic 18931), (126, 1, .ireturn)]
def qcX8_held_ : qC := [(0, 1, .aload 0), (1, 1, .iconst 0), (2, 3, .putfield 8000), (5, 1, .iload 1), (6, 3, .invokestatic 17111), (9, 3, .ifCond .eq 15), (12, 1, .iload 2), (13, 3, .invokestatic 14711), (16, 3, .ifCond .eq 15), (19, 1, .aload 0), (20, 3, .getfield 8142), (23, 1, .iload 1), (24, 1, .iload 2), (25, 3, .invokestatic 17231), (28, 3, .goto 17), (31, 1, .aload 0), (32, 3, .invokestatic 14011), (35, 1, .ireturn)]
def qcX8_begins : qC := [(0, 1, .aload 0), (1, 1, .iconst 0), (2, 3, .putfield 8000), (5, 1, .aload 0), (6, 3, .invokestatic 21610), (9, 1, .aload 0), (10, 1, .aload 0), (11, 1, .aload 0), (12, 3, .getfield 8142), (15, 1, .iload 1), (16, 3, .invokestatic 20731), (19, 3, .invokestatic 21821), (22, 1, .ireturn)]
def qcX8_works : qC := [(0, 1, .aload 0), (1, 1, .iconst 0), (2, 3, .putfield 8000), (5, 1, .aload 0), (6, 3, .invokestatic 21610), (9, 1, .aload 0), (10, 1, .aload 0), (11, 3, .getfield 8142), (14, 1, .iload 1), (15, 1, .iload 2), (16, 3, .invokestatic 20831), (19, 3, .invokestatic 21821), (22, 1, .ireturn)]
def qcX8_locks : qC := [(0, 1, .aload 0), (1, 1, .iconst 0), (2, 3, .putfield 8000), (5, 1, .aload 0), (6, 3, .invokestatic 21610), (9, 1, .aload 0), (10, 1, .aload 0), (11, 3, .getfield 8142), (14, 1, .iload 1), (15, 1, .iload 2), (16, 1, .iload 3), (17, 3, .invokestatic 20651), (20, 2, .istore 4), (22, 2, .iload 4), (24, 3, .ifCond .lt 35), (27, 1, .aload 0), (28, 1, .iconst 0), (29, 3, .putfield 8010), (32, 1, .aload 0), (33, 1, .aload 0), (34, 3, .getfield 8142), (37, 3, .iconst 712), (40, 1, .iload 1), (41, 1, .iadd), (42, 1, .iaload), (43, 1, .i2l), (44, 3, .invokestatic 14420), (47, 1, .aload 0), (48, 1, .aload 0), (49, 3, .getfield 8160), (52, 1, .iload 1), (53, 3, .invokestatic 14221), (56, 3, .invokestatic 14311), (59, 1, .i2l), (60, 3, .invokestatic 14420), (63, 1, .aload 0), (64, 2, .iload 4), (66, 3, .invokestatic 21821), (69, 1, .ireturn)]
def qcX8_unlocks : qC := [(0, 1, .aload 0), (1, 1, .iconst 0), (2, 3, .putfield 8000), (5, 1, .aload 0), (6, 3, .invokestatic 21610), (9, 1, .aload 0), (10, 1, .aload 0), (11, 1, .aload 0), (12, 3, .getfield 8142), (15, 1, .iload 1), (16, 1, .iload 2), (17, 3, .invokestatic 20941), (20, 3, .invokestatic 21821), (23, 1, .ireturn)]
def qcX8_ends : qC := [(0, 1, .aload 0), (1, 1, .iconst 0), (2, 3, .putfield 8000), (5, 1, .aload 0), (6, 3, .invokestatic 21610), (9, 1, .aload 0), (10, 3, .getfield 8142), (13, 1, .iconst 2), (14, 3, .invokestatic 17521), (17, 1, .istore 2), (18, 1, .aload 0), (19, 1, .aload 0), (20, 3, .getfield 8142), (23, 1, .iload 1), (24, 3, .invokestatic 21131), (27, 1, .istore 3), (28, 1, .iload 3), (29, 3, .ifCond .lt 31), (32, 1, .aload 0), (33, 1, .iconst 0), (34, 3, .putfield 8010), (37, 1, .aload 0), (38, 1, .iload 2), (39, 1, .aload 0), (40, 3, .getfield 8142), (43, 1, .iconst 1), (44, 3, .invokestatic 17521), (47, 1, .iand), (48, 3, .invokestatic 26711), (51, 1, .i2l), (52, 3, .invokestatic 14420), (55, 1, .aload 0), (56, 1, .iload 3), (57, 3, .invokestatic 21821), (60, 1, .ireturn)]
def qcX8_gathers : qC := [(0, 1, .aload 0), (1, 1, .iconst 0), (2, 3, .putfield 8000), (5, 1, .aload 0), (6, 3, .invokestatic 21610), (9, 1, .aload 0), (10, 1, .aload 0), (11, 3, .getfield 8142), (14, 1, .iload 1), (15, 1, .iload 2), (16, 3, .invokestatic 21241), (19, 1, .istore 3), (20, 1, .iload 3), (21, 3, .ifCond .lt 25), (24, 1, .aload 0), (25, 1, .iconst 0), (26, 3, .putfield 8010), (29, 1, .aload 0), (30, 1, .aload 0), (31, 3, .getfield 8142), (34, 1, .iload 1), (35, 1, .iload 2), (36, 3, .invokestatic 17231), (39, 1, .i2l), (40, 3, .invokestatic 14420), (43, 1, .aload 0), (44, 1, .iload 3), (45, 3, .invokestatic 21821), (48, 1, .ireturn)]
def qcX8_bulk : qC := [(0, 1, .aload 0), (1, 1, .iconst 0), (2, 3, .putfield 8000), (5, 1, .aload 0), (6, 3, .invokestatic 21610), (9, 1, .aload 0), (10, 1, .aload 0), (11, 3, .getfield 8142), (14, 1, .iload 1), (15, 3, .invokestatic 21321), (18, 3, .invokestatic 21821), (21, 1, .ireturn)]
def qcX8_fells : qC := [(0, 1, .aload 0), (1, 1, .iconst 0), (2, 3, .putfield 8000), (5, 1, .aload 0), (6, 3, .invokestatic 21610), (9, 1, .aload 0), (10, 1, .aload 0), (11, 3, .getfield 8142), (14, 3, .invokestatic 21521), (17, 1, .istore 1), (18, 1, .aload 0), (19, 1, .iconst 0), (20, 3, .putfield 8010), (23, 1, .iconst 0), (24, 1, .istore 2), (25, 1, .iload 2), (26, 1, .iload 1), (27, 3, .if_icmp .ge 27), (30, 1, .aload 0), (31, 1, .aload 0), (32, 3, .getfield 8172), (35, 1, .iload 2), (36, 1, .iaload), (37, 1, .i2l), (38, 3, .invokestatic 14420), (41, 3, .iinc 2 1), (44, 3, .goto 15), (47, 1, .aload 0), (48, 1, .iload 1), (49, 3, .invokestatic 21721), (52, 1, .ireturn)]
def qcX8_readsAct : qC := [(0, 1, .aload 0), (1, 3, .getfield 8240), (4, 1, .istore 1), (5, 1, .aload 0), (6, 3, .getfield 8202), (9, 1, .iload 1), (10, 1, .aload 0), (11, 3, .jsr 22), (14, 3, .invokestatic 15721), (17, 1, .iastore), (18, 1, .aload 0), (19, 1, .dup), (20, 3, .getfield 8240), (23, 1, .iconst 1), (24, 1, .iadd), (25, 3, .putfield 8240), (28, 1, .aload 0), (29, 3, .getfield 8202), (32, 1, .iload 1), (33, 1, .iaload), (34, 3, .ifCond .gt 30), (37, 1, .aload 0), (38, 3, .getfield 8202), (41, 1, .iload 1), (42, 1, .iaload), (43, 3, .ifCond .ne 28), (46, 1, .iconst 1), (47, 3, .goto 29), (50, 1, .iconst 0), (51, 1, .freturn), (52, 1, .aload 0), (53, 3, .getfield 8212), (56, 1, .iload 1), (57, 1, .aload 0), (58, 1, .iconst 1), (59, 3, .invokestatic 15821), (62, 1, .iastore), (63, 1, .aload 0), (64, 3, .getfield 8212), (67, 1, .iload 1), (68, 1, .iaload), (69, 3, .ifCond .lt 48), (72, 1, .aload 0), (73, 3, .getfield 8202), (76, 1, .iload 1), (77, 1, .iaload), (78, 1, .iconst 4), (79, 3, .if_icmp .ge 57), (82, 1, .aload 0), (83, 3, .getfield 8212), (86, 1, .iload 1), (87, 1, .iaload), (88, 3, .ifCond .lt 55), (91, 1, .iconst 1), (92, 3, .goto 56), (95, 1, .iconst 0), (96, 1, .freturn), (97, 1, .aload 0), (98, 3, .getfield 8222), (101, 1, .iload 1), (102, 1, .aload 0), (103, 3, .getfield 8202), (106, 1, .iload 1), (107, 1, .iaload), (108, 1, .iconst 4), (109, 3, .if_icmp .ne 70), (112, 1, .aload 0), (113, 1, .iconst 1), (114, 3, .invokestatic 15821), (117, 3, .goto 72), (120, 1, .aload 0), (121, 3, .invokestatic 15911), (124, 1, .iastore), (125, 1, .aload 0), (126, 3, .getfield 8222), (129, 1, .iload 1), (130, 1, .iaload), (131, 3, .ifCond .lt 84), (134, 1, .aload 0), (135, 3, .getfield 8202), (138, 1, .iload 1), (139, 1, .iaload), (140, 2, .iconst 7), (142, 3, .if_icmp .ge 93), (145, 1, .aload 0), (146, 3, .getfield 8222), (149, 1, .iload 1), (150, 1, .iaload), (151, 3, .ifCond .lt 91), (154, 1, .iconst 1), (155, 3, .goto 92), (158, 1, .iconst 0), (159, 1, .freturn), (160, 1, .aload 0), (161, 3, .getfield 8232), (164, 1, .iload 1), (165, 1, .aload 0), (166, 1, .iconst 1), (167, 3, .invokestatic 15821), (170, 1, .iastore), (171, 1, .aload 0), (172, 3, .getfield 8232), (175, 1, .iload 1), (176, 1, .iaload), (177, 3, .ifCond .lt 107), (180, 1, .iconst 1), (181, 3, .goto 108), (184, 1, .iconst 0), (185, 1, .freturn)]
def qcX8_does : qC := [(0, 1, .aload 0), (1, 3, .getfield 8212), (4, 1, .iload 1), (5, 1, .iaload), (6, 1, .istore 2), (7, 1, .aload 0), (8, 3, .getfield 8202), (11, 1, .iload 1), (12, 1, .iaload), (13, 43, .lookupswitch 61 #[(0, 10), (1, 15), (2, 21), (3, 27), (4, 32), (5, 41), (6, 51)]), (56, 1, .aload 0), (57, 1, .aload 0), (58, 3, .getfield 8142), (61, 3, .invokestatic 21521), (64, 1, .ireturn), (65, 1, .aload 0), (66, 1, .aload 0), (67, 3, .getfield 8142), (70, 1, .iload 2), (71, 3, .invokestatic 20731), (74, 1, .ireturn), (75, 1, .aload 0), (76, 1, .aload 0), (77, 3, .getfield 8142), (80, 1, .iload 2), (81, 3, .invokestatic 21131), (84, 1, .ireturn), (85, 1, .aload 0), (86, 3, .getfield 8142), (89, 1, .iload 2), (90, 3, .invokestatic 21321), (93, 1, .ireturn), (94, 1, .aload 0), (95, 3, .getfield 8142), (98, 1, .iload 2), (99, 1, .aload 0), (100, 3, .getfield 8222), (103, 1, .iload 1), (104, 1, .iaload), (105, 3, .invokestatic 20831), (108, 1, .ireturn), (109, 1, .aload 0), (110, 1, .aload 0), (111, 3, .getfield 8142), (114, 1, .iload 2), (115, 1, .aload 0), (116, 3, .getfield 8222), (119, 1, .iload 1), (120, 1, .iaload), (121, 3, .invokestatic 20941), (124, 1, .ireturn), (125, 1, .aload 0), (126, 1, .aload 0), (127, 3, .getfield 8142), (130, 1, .iload 2), (131, 1, .aload 0), (132, 3, .getfield 8222), (135, 1, .iload 1), (136, 1, .iaload), (137, 3, .invokestatic 21241), (140, 1, .ireturn), (141, 1, .aload 0), (142, 1, .aload 0), (143, 3, .getfield 8142), (146, 1, .iload 2), (147, 1, .aload 0), (148, 3, .getfield 8222), (151, 1, .iload 1), (152, 1, .iaload), (153, 1, .aload 0), (154, 3, .getfield 8232), (157, 1, .iload 1), (158, 1, .iaload), (159, 3, .invokestatic 20651), (162, 1, .ireturn)]
def qcX8_day : qC := [(0, 1, .aload 0), (1, 1, .iconst 0), (2, 3, .putfield 8000), (5, 1, .aload 0), (6, 2, .iconst 80), (8, 3, .invokestatic 15421), (11, 1, .pop), (12, 1, .aload 0), (13, 1, .iconst 0), (14, 3, .putfield 8240), (17, 1, .aload 0), (18, 3, .getfield 8050), (21, 1, .aload 0), (22, 3, .getfield 8060), (25, 3, .if_icmp .ge 23), (28, 1, .aload 0), (29, 3, .invokestatic 23011), (32, 3, .ifCond .ne 10), (35, 1, .iconst (-1)), (36, 1, .aload 0), (37, 3, .getfield 8050), (40, 1, .isub), (41, 1, .ireturn), (42, 1, .aload 0), (43, 3, .invokestatic 21610), (46, 1, .iconst 0), (47, 1, .istore 1), (48, 1, .iload 1), (49, 1, .aload 0), (50, 3, .getfield 8240), (53, 3, .if_icmp .ge 37), (56, 1, .aload 0), (57, 1, .iload 1), (58, 3, .invokestatic 23121), (61, 3, .ifCond .lt 37), (64, 3, .iinc 1 1), (67, 3, .goto 27), (70, 1, .aload 0), (71, 1, .iconst 0), (72, 3, .putfield 8010), (75, 1, .aload 0), (76, 1, .iload 1), (77, 1, .aload 0), (78, 3, .getfield 8240), (81, 3, .if_icmp .ge 47), (84, 1, .iconst 1), (85, 3, .goto 48), (88, 1, .iconst 0), (89, 3, .invokestatic 14311), (92, 1, .i2l), (93, 3, .invokestatic 14420), (96, 1, .aload 0), (97, 1, .aload 0), (98, 3, .getfield 8142), (101, 1, .iconst 2), (102, 3, .invokestatic 17521), (105, 1, .i2l), (106, 3, .invokestatic 14420), (109, 1, .iload 1), (110, 3, .ifCond .le 64), (113, 1, .aload 0), (114, 1, .iload 1), (115, 3, .invokestatic 21721), (118, 3, .goto 65), (121, 1, .iconst 0), (122, 1, .ireturn)]
def qcX8_holders : qC := [(0, 1, .aload 0), (1, 1, .iconst 0), (2, 3, .putfield 8000), (5, 1, .iload 1), (6, 3, .invokestatic 14711), (9, 3, .ifCond .ne 8), (12, 1, .iconst (-1)), (13, 1, .ireturn), (14, 1, .iconst 0), (15, 1, .istore 2), (16, 1, .iconst 0), (17, 1, .istore 3), (18, 1, .iconst 0), (19, 2, .istore 4), (21, 2, .iload 4), (23, 2, .iconst 8), (25, 3, .if_icmp .ge 41), (28, 1, .iload 2), (29, 1, .aload 0), (30, 3, .getfield 8142), (33, 2, .iload 4), (35, 1, .iload 1), (36, 3, .invokestatic 17231), (39, 3, .ifCond .le 28), (42, 1, .iconst 1), (43, 2, .iload 4), (45, 1, .ishl), (46, 3, .goto 29), (49, 1, .iconst 0), (50, 1, .ior), (51, 1, .istore 2), (52, 1, .iload 3), (53, 1, .aload 0), (54, 3, .getfield 8142), (57, 2, .iload 4), (59, 1, .iload 1), (60, 3, .invokestatic 17231), (63, 3, .invokestatic 15021), (66, 1, .istore 3), (67, 3, .iinc 4 1), (70, 3, .goto 14), (73, 1, .aload 0), (74, 1, .iconst 0), (75, 3, .putfield 8010), (78, 1, .aload 0), (79, 1, .iload 3), (80, 1, .i2l), (81, 3, .invokestatic 14420), (84, 1, .iload 2), (85, 1, .ireturn)]
def qcX8_queue : qC := [(0, 1, .aload 0), (1, 1, .iconst 0), (2, 3, .putfield 8000), (5, 1, .iload 1), (6, 3, .invokestatic 14711), (9, 3, .ifCond .ne 8), (12, 1, .iconst (-1)), (13, 1, .ireturn), (14, 1, .aload 0), (15, 3, .getfield 8142), (18, 1, .iload 1), (19, 3, .invokestatic 17921), (22, 1, .istore 2), (23, 1, .aload 0), (24, 1, .iconst 0), (25, 3, .putfield 8010), (28, 1, .iconst 0), (29, 1, .istore 3), (30, 1, .iload 3), (31, 1, .iload 2), (32, 3, .if_icmp .ge 31), (35, 1, .aload 0), (36, 1, .aload 0), (37, 3, .getfield 8142), (40, 1, .iload 1), (41, 1, .iload 3), (42, 3, .invokestatic 18231), (45, 1, .i2l), (46, 3, .invokestatic 14420), (49, 3, .iinc 3 1), (52, 3, .goto 18), (55, 1, .iload 2), (56, 1, .ireturn)]
def qcX8_waits : qC := [(0, 1, .aload 0), (1, 1, .iconst 0), (2, 3, .putfield 8000), (5, 1, .iload 1), (6, 3, .invokestatic 17111), (9, 3, .ifCond .ne 8), (12, 1, .iconst (-1)), (13, 1, .ireturn), (14, 1, .aload 0), (15, 3, .getfield 8142), (18, 3, .iconst 680), (21, 1, .iload 1), (22, 1, .iadd), (23, 1, .iaload), (24, 1, .iconst 2), (25, 3, .if_icmp .eq 18), (28, 2, .iconst (-2)), (30, 1, .ireturn), (31, 1, .aload 0), (32, 1, .iconst 0), (33, 3, .putfield 8010), (36, 1, .aload 0), (37, 1, .aload 0), (38, 3, .getfield 8142), (41, 3, .iconst 720), (44, 1, .iload 1), (45, 1, .iadd), (46, 1, .iaload), (47, 1, .i2l), (48, 3, .invokestatic 14420), (51, 1, .aload 0), (52, 1, .aload 0), (53, 3, .getfield 8142), (56, 1, .iload 1), (57, 3, .invokestatic 18121), (60, 1, .i2l), (61, 3, .invokestatic 14420), (64, 1, .aload 0), (65, 1, .aload 0), (66, 3, .getfield 8142), (69, 3, .iconst 728), (72, 1, .iload 1), (73, 1, .iadd), (74, 1, .iaload), (75, 1, .i2l), (76, 3, .invokestatic 14420), (79, 1, .aload 0), (80, 1, .aload 0), (81, 3, .getfield 8142), (84, 3, .iconst 736), (87, 1, .iload 1), (88, 1, .iadd), (89, 1, .iaload), (90, 1, .i2l), (91, 3, .invokestatic 14420), (94, 1, .aload 0), (95, 3, .getfield 8142), (98, 3, .iconst 712), (101, 1, .iload 1), (102, 1, .iadd), (103, 1, .iaload), (104, 1, .ireturn)]
def qcX8_firstAbove : qC := [(0, 2, .iconst 85), (2, 2, .istore 4), (4, 1, .iload 2), (5, 3, .invokestatic 14511), (8, 2, .istore 5), (10, 2, .iload 5), (12, 3, .ifCond .lt 23), (15, 1, .iload 3), (16, 1, .aload 0), (17, 3, .getfield 8142), (20, 1, .iload 1), (21, 2, .iload 5), (23, 3, .invokestatic 17231), (26, 3, .invokestatic 14221), (29, 3, .ifCond .eq 17), (32, 2, .iload 5), (34, 3, .goto 18), (37, 2, .iload 4), (39, 2, .istore 4), (41, 2, .iload 5), (43, 3, .invokestatic 14511), (46, 2, .istore 5), (48, 3, .goto 5), (51, 2, .iload 4), (53, 1, .ireturn)]
def qcX8_covers : qC := [(0, 1, .aload 0), (1, 1, .iconst 0), (2, 3, .putfield 8000), (5, 1, .iload 1), (6, 3, .invokestatic 17111), (9, 3, .ifCond .eq 9), (12, 1, .iload 2), (13, 3, .invokestatic 14711), (16, 3, .ifCond .ne 11), (19, 1, .iconst (-1)), (20, 1, .ireturn), (21, 1, .aload 0), (22, 3, .getfield 8142), (25, 1, .iload 1), (26, 1, .iload 2), (27, 3, .invokestatic 17231), (30, 1, .istore 3), (31, 1, .aload 0), (32, 1, .iload 1), (33, 1, .iload 2), (34, 2, .iconst 64), (36, 3, .invokestatic 23641), (39, 2, .istore 4), (41, 1, .aload 0), (42, 1, .iload 1), (43, 1, .iload 2), (44, 2, .iconst 56), (46, 3, .invokestatic 23641), (49, 2, .istore 5), (51, 1, .aload 0), (52, 1, .iconst 0), (53, 3, .putfield 8010), (56, 1, .aload 0), (57, 2, .iload 4), (59, 2, .iconst 85), (61, 3, .if_icmp .ge 39), (64, 2, .iload 4), (66, 1, .i2l), (67, 3, .goto 41), (70, 2, .iload 5), (72, 1, .i2l), (73, 3, .invokestatic 14420), (76, 2, .iload 4), (78, 2, .iconst 85), (80, 3, .if_icmp .ge 47), (83, 2, .iconst 6), (85, 3, .goto 55), (88, 2, .iload 5), (90, 2, .iconst 85), (92, 3, .if_icmp .ge 54), (95, 1, .iload 3), (96, 1, .iconst 3), (97, 3, .invokestatic 15021), (100, 3, .goto 55), (103, 1, .iload 3), (104, 1, .ireturn)]
def qcX8_wouldWait : qC := [(0, 1, .aload 0), (1, 1, .iconst 0), (2, 3, .putfield 8250), (5, 1, .aload 0), (6, 3, .getfield 8142), (9, 1, .iload 1), (10, 1, .iload 2), (11, 1, .iload 3), (12, 3, .invokestatic 19741), (15, 3, .ifCond .eq 12), (18, 2, .iconst 85), (20, 1, .ireturn), (21, 1, .iconst (-1)), (22, 2, .istore 4), (24, 2, .iload 4), (26, 1, .iload 2), (27, 3, .if_icmp .eq 57), (30, 1, .iload 2), (31, 2, .iload 4), (33, 3, .invokestatic 19521), (36, 2, .istore 4), (38, 1, .iload 2), (39, 2, .iload 4), (41, 1, .iload 3), (42, 3, .invokestatic 19631), (45, 2, .istore 5), (47, 1, .aload 0), (48, 3, .getfield 8142), (51, 1, .iload 1), (52, 2, .iload 4), (54, 2, .iload 5), (56, 3, .invokestatic 19341), (59, 3, .ifCond .ne 35), (62, 2, .iload 4), (64, 1, .ireturn), (65, 1, .aload 0), (66, 1, .dup), (67, 3, .getfield 8250), (70, 1, .aload 0), (71, 3, .getfield 8142), (74, 1, .iload 1), (75, 2, .iload 4), (77, 3, .invokestatic 17231), (80, 1, .aload 0), (81, 3, .getfield 8142), (84, 1, .iload 1), (85, 2, .iload 4), (87, 2, .iload 5), (89, 3, .invokestatic 19241), (92, 3, .if_icmp .eq 52), (95, 1, .iconst 1), (96, 3, .goto 53), (99, 1, .iconst 0), (100, 3, .invokestatic 14311), (103, 1, .iadd), (104, 3, .putfield 8250), (107, 3, .goto 14), (110, 2, .iconst 85), (112, 1, .ireturn)]
def qcX8_may : qC := [(0, 1, .aload 0), (1, 1, .iconst 0), (2, 3, .putfield 8000), (5, 1, .iload 1), (6, 3, .invokestatic 17111), (9, 3, .ifCond .eq 12), (12, 1, .iload 2), (13, 3, .invokestatic 14711), (16, 3, .ifCond .eq 12), (19, 1, .iload 3), (20, 3, .invokestatic 14811), (23, 3, .ifCond .ne 14), (26, 1, .iconst (-1)), (27, 1, .ireturn), (28, 1, .aload 0), (29, 3, .getfield 8142), (32, 3, .iconst 680), (35, 1, .iload 1), (36, 1, .iadd), (37, 1, .iaload), (38, 1, .iconst 1), (39, 3, .if_icmp .eq 24), (42, 2, .iconst (-2)), (44, 1, .ireturn), (45, 1, .aload 0), (46, 1, .iload 1), (47, 1, .iload 2), (48, 1, .iload 3), (49, 3, .invokestatic 23841), (52, 2, .istore 4), (54, 1, .aload 0), (55, 1, .iconst 0), (56, 3, .putfield 8010), (59, 1, .aload 0), (60, 2, .iload 4), (62, 1, .i2l), (63, 3, .invokestatic 14420), (66, 1, .aload 0), (67, 1, .aload 0), (68, 3, .getfield 8250), (71, 1, .i2l), (72, 3, .invokestatic 14420), (75, 2, .iload 4), (77, 2, .iconst 85), (79, 3, .if_icmp .ne 47), (82, 1, .iconst 1), (83, 3, .goto 48), (86, 1, .iconst 0), (87, 3, .invokestatic 14311), (90, 1, .ireturn)]
def qcX8_free : qC := [(0, 1, .aload 0), (1, 1, .iconst 0), (2, 3, .putfield 8000), (5, 1, .iload 1), (6, 3, .invokestatic 17111), (9, 3, .ifCond .eq 15), (12, 1, .iload 2), (13, 1, .i2l), (14, 1, .goto_w 1), (15, 3, .goto_w 4), (18, 3, .invokestatic 14131), (21, 3, .ifCond .eq 15), (24, 1, .iload 3), (25, 3, .invokestatic 14811), (28, 3, .ifCond .ne 17), (31, 1, .iconst (-1)), (32, 1, .ireturn), (33, 1, .aload 0), (34, 3, .getfield 8142), (37, 3, .iconst 680), (40, 1, .iload 1), (41, 1, .iadd), (42, 1, .iaload), (43, 1, .iconst 1), (44, 3, .if_icmp .eq 27), (47, 2, .iconst (-2)), (49, 1, .ireturn), (50, 1, .iconst 0), (51, 2, .istore 4), (53, 1, .iconst 0), (54, 2, .istore 5), (56, 2, .iload 5), (58, 2, .iconst 16), (60, 3, .if_icmp .ge 59), (63, 2, .iload 4), (65, 1, .aload 0), (66, 1, .iload 1), (67, 2, .iconst 21), (69, 2, .iconst 16), (71, 1, .iload 2), (72, 1, .iconst 1), (73, 1, .isub), (74, 1, .imul), (75, 1, .iadd), (76, 2, .iload 5), (78, 1, .iadd), (79, 1, .iload 3), (80, 3, .invokestatic 23841), (83, 2, .iconst 85), (85, 3, .if_icmp .ne 54), (88, 1, .iconst 1), (89, 2, .iload 5), (91, 1, .ishl), (92, 3, .goto 55), (95, 1, .iconst 0), (96, 1, .ior), (97, 2, .istore 4), (99, 3, .iinc 5 1), (102, 3, .goto 31), (105, 1, .aload 0), (106, 1, .iconst 0), (107, 3, .putfield 8010), (110, 1, .aload 0), (111, 2, .iload 4), (113, 3, .invokestatic 26711), (116, 1, .i2l), (117, 3, .invokestatic 14420), (120, 2, .iload 4), (122, 1, .ireturn)]
def qcX8_behind : qC := [(0, 1, .aload 0), (1, 1, .iconst 0), (2, 3, .putfield 8000), (5, 1, .iload 1), (6, 3, .invokestatic 17111), (9, 3, .ifCond .ne 8), (12, 1, .iconst (-1)), (13, 1, .ireturn), (14, 1, .aload 0), (15, 3, .getfield 8142), (18, 1, .iload 1), (19, 3, .invokestatic 18521), (22, 1, .istore 2), (23, 1, .aload 0), (24, 1, .iconst 0), (25, 3, .putfield 8010), (28, 1, .aload 0), (29, 1, .iload 2), (30, 3, .invokestatic 26711), (33, 1, .i2l), (34, 3, .invokestatic 14420), (37, 1, .iload 2), (38, 1, .ireturn)]
def qcX8_stops : qC := [(0, 1, .aload 0), (1, 1, .iconst 0), (2, 3, .putfield 8000), (5, 1, .iload 1), (6, 3, .invokestatic 17111), (9, 3, .ifCond .ne 8), (12, 1, .iconst (-1)), (13, 1, .ireturn), (14, 1, .iconst 0), (15, 1, .istore 2), (16, 1, .iconst 0), (17, 1, .istore 3), (18, 1, .iload 3), (19, 2, .iconst 8), (21, 3, .if_icmp .ge 32), (24, 1, .iload 2), (25, 1, .aload 0), (26, 3, .getfield 8142), (29, 1, .iload 3), (30, 3, .invokestatic 18621), (33, 1, .iload 1), (34, 3, .invokestatic 14221), (37, 3, .ifCond .eq 27), (40, 1, .iconst 1), (41, 1, .iload 3), (42, 1, .ishl), (43, 3, .goto 28), (46, 1, .iconst 0), (47, 1, .ior), (48, 1, .istore 2), (49, 3, .iinc 3 1), (52, 3, .goto 12), (55, 1, .aload 0), (56, 1, .iconst 0), (57, 3, .putfield 8010), (60, 1, .aload 0), (61, 1, .aload 0), (62, 3, .getfield 8142), (65, 1, .iload 1), (66, 3, .invokestatic 18821), (69, 1, .i2l), (70, 3, .invokestatic 14420), (73, 1, .iload 2), (74, 1, .ireturn)]
def qcX8_rings : qC := [(0, 1, .aload 0), (1, 1, .iconst 0), (2, 3, .putfield 8000), (5, 1, .aload 0), (6, 3, .getfield 8142), (9, 3, .invokestatic 18711), (12, 1, .istore 1), (13, 1, .aload 0), (14, 1, .iconst 0), (15, 3, .putfield 8010), (18, 1, .aload 0), (19, 1, .iload 1), (20, 3, .invokestatic 26711), (23, 1, .i2l), (24, 3, .invokestatic 14420), (27, 1, .iload 1), (28, 1, .ireturn)]
def qcX8_laysSteps : qC := [(0, 1, .iconst 0), (1, 1, .istore 2), (2, 1, .iload 2), (3, 2, .iconst 8), (5, 3, .if_icmp .ge 21), (8, 1, .aload 0), (9, 3, .getfield 8262), (12, 1, .iload 2), (13, 1, .aload 0), (14, 3, .getfield 8142), (17, 1, .iload 2), (18, 3, .invokestatic 18521), (21, 1, .iload 1), (22, 3, .invokestatic 14221), (25, 3, .ifCond .eq 17), (28, 1, .iconst 1), (29, 3, .goto 18), (32, 3, .iconst 1000000), (35, 1, .iastore), (36, 3, .iinc 2 1), (39, 3, .goto 2), (42, 1, .iconst 0), (43, 1, .istore 2), (44, 1, .iload 2), (45, 2, .iconst 8), (47, 3, .if_icmp .ge 68), (50, 1, .iconst 0), (51, 1, .istore 3), (52, 1, .iload 3), (53, 2, .iconst 8), (55, 3, .if_icmp .ge 66), (58, 1, .iconst 0), (59, 2, .istore 4), (61, 2, .iload 4), (63, 2, .iconst 8), (65, 3, .if_icmp .ge 64), (68, 1, .aload 0), (69, 3, .getfield 8262), (72, 1, .iload 3), (73, 1, .aload 0), (74, 3, .getfield 8142), (77, 1, .iload 3), (78, 2, .iload 4), (80, 3, .invokestatic 18431), (83, 3, .ifCond .eq 57), (86, 1, .aload 0), (87, 3, .getfield 8262), (90, 1, .iload 3), (91, 1, .iaload), (92, 1, .aload 0), (93, 3, .getfield 8262), (96, 2, .iload 4), (98, 1, .iaload), (99, 1, .iconst 1), (100, 1, .iadd), (101, 3, .fmul), (104, 3, .goto 61), (107, 1, .aload 0), (108, 3, .getfield 8262), (111, 1, .iload 3), (112, 1, .iaload), (113, 1, .iastore), (114, 3, .iinc 4 1), (117, 3, .goto 33), (120, 3, .iinc 3 1), (123, 3, .goto 28), (126, 3, .iinc 2 1), (129, 3, .goto 23), (132, 1, .return_)]
def qcX8_ring : qC := [(0, 1, .aload 0), (1, 1, .iconst 0), (2, 3, .putfield 8000), (5, 1, .iload 1), (6, 3, .invokestatic 17111), (9, 3, .ifCond .ne 8), (12, 1, .iconst (-1)), (13, 1, .ireturn), (14, 1, .aload 0), (15, 1, .iload 1), (16, 3, .invokestatic 24420), (19, 1, .aload 0), (20, 3, .getfield 8262), (23, 1, .iload 1), (24, 1, .iaload), (25, 1, .istore 2), (26, 1, .iload 2), (27, 3, .iconst 1000000), (30, 3, .if_icmp .lt 21), (33, 2, .iconst (-2)), (35, 1, .ireturn), (36, 1, .aload 0), (37, 1, .iconst 0), (38, 3, .putfield 8010), (41, 1, .aload 0), (42, 1, .iload 1), (43, 1, .i2l), (44, 3, .invokestatic 14420), (47, 1, .iload 1), (48, 1, .istore 3), (49, 1, .iload 2), (50, 1, .iconst 1), (51, 1, .isub), (52, 2, .istore 4), (54, 2, .iload 4), (56, 3, .ifCond .le 60), (59, 1, .iconst 0), (60, 2, .istore 5), (62, 1, .aload 0), (63, 3, .getfield 8142), (66, 1, .iload 3), (67, 2, .iload 5), (69, 3, .invokestatic 18431), (72, 3, .ifCond .eq 50), (75, 1, .aload 0), (76, 3, .getfield 8262), (79, 2, .iload 5), (81, 1, .iaload), (82, 2, .iload 4), (84, 3, .if_icmp .eq 52), (87, 3, .iinc 5 1), (90, 3, .goto 38), (93, 1, .aload 0), (94, 2, .iload 5), (96, 1, .i2l), (97, 3, .invokestatic 14420), (100, 2, .iload 5), (102, 1, .istore 3), (103, 3, .iinc 4 (-1)), (106, 3, .goto 34), (109, 1, .iload 2), (110, 1, .ireturn)]
def qcX8_victim : qC := [(0, 1, .aload 0), (1, 1, .iconst 0), (2, 3, .putfield 8000), (5, 1, .aload 0), (6, 1, .aload 0), (7, 3, .getfield 8142), (10, 3, .invokestatic 21421), (13, 1, .istore 1), (14, 1, .iload 1), (15, 3, .ifCond .ge 12), (18, 2, .iconst (-2)), (20, 1, .ireturn), (21, 1, .aload 0), (22, 1, .iconst 0), (23, 3, .putfield 8010), (26, 1, .aload 0), (27, 1, .aload 0), (28, 1, .aload 0), (29, 3, .getfield 8142), (32, 1, .iload 1), (33, 3, .invokestatic 18931), (36, 1, .i2l), (37, 3, .invokestatic 14420), (40, 1, .iload 1), (41, 1, .ireturn)]
def qcX8_copies : qC := [(0, 1, .iconst 0), (1, 1, .istore 1), (2, 1, .iload 1), (3, 3, .iconst 755), (6, 3, .if_icmp .ge 15), (9, 1, .aload 0), (10, 3, .getfield 8152), (13, 1, .iload 1), (14, 1, .aload 0), (15, 3, .getfield 8142), (18, 1, .iload 1), (19, 1, .iaload), (20, 1, .iastore), (21, 3, .iinc 1 1), (24, 3, .goto 2), (27, 1, .return_)]
def qcX8_frees : qC := [(0, 1, .aload 0), (1, 1, .iconst 0), (2, 3, .putfield 8000), (5, 1, .iload 1), (6, 3, .invokestatic 17111), (9, 3, .ifCond .ne 8), (12, 1, .iconst (-1)), (13, 1, .ireturn), (14, 1, .aload 0), (15, 3, .getfield 8142), (18, 3, .iconst 680), (21, 1, .iload 1), (22, 1, .iadd), (23, 1, .iaload), (24, 1, .iconst 2), (25, 3, .if_icmp .eq 18), (28, 2, .iconst (-2)), (30, 1, .ireturn), (31, 1, .aload 0), (32, 3, .getfield 8142), (35, 1, .iconst 0), (36, 3, .invokestatic 17521), (39, 1, .istore 2), (40, 1, .iconst (-1)), (41, 1, .istore 3), (42, 1, .iconst 0), (43, 2, .istore 4), (45, 2, .iload 4), (47, 3, .iconst 256), (50, 3, .if_icmp .ge 84), (53, 2, .iload 4), (55, 1, .iload 1), (56, 3, .invokestatic 14221), (59, 3, .ifCond .ne 47), (62, 2, .iload 4), (64, 1, .iload 2), (65, 1, .iand), (66, 3, .ifCond .ne 47), (69, 1, .iload 3), (70, 3, .ifCond .lt 45), (73, 2, .iload 4), (75, 3, .invokestatic 26711), (78, 1, .iload 3), (79, 3, .invokestatic 26711), (82, 3, .if_icmp .ge 47), (85, 1, .iconst 1), (86, 3, .goto 48), (89, 1, .iconst 0), (90, 2, .istore 5), (92, 2, .iload 5), (94, 3, .ifCond .eq 82), (97, 1, .aload 0), (98, 3, .invokestatic 24710), (101, 1, .iconst 0), (102, 2, .istore 6), (104, 2, .iload 6), (106, 2, .iconst 8), (108, 3, .if_icmp .ge 70), (111, 2, .iload 4), (113, 2, .iload 6), (115, 3, .invokestatic 14221), (118, 3, .ifCond .eq 68), (121, 1, .aload 0), (122, 1, .aload 0), (123, 3, .getfield 8152), (126, 2, .iload 6), (128, 3, .invokestatic 21031), (131, 1, .pop), (132, 3, .iinc 6 1), (135, 3, .goto 55), (138, 1, .aload 0), (139, 3, .getfield 8152), (142, 3, .iconst 680), (145, 1, .iload 1), (146, 1, .iadd), (147, 1, .iaload), (148, 1, .iconst 1), (149, 3, .if_icmp .ne 80), (152, 2, .iload 4), (154, 3, .goto 81), (157, 1, .iload 3), (158, 1, .istore 3), (159, 3, .iinc 4 1), (162, 3, .goto 27), (165, 1, .aload 0), (166, 1, .iconst 0), (167, 3, .putfield 8010), (170, 1, .aload 0), (171, 1, .iload 3), (172, 1, .i2l), (173, 3, .invokestatic 14420), (176, 1, .iload 3), (177, 3, .invokestatic 26711), (180, 1, .ireturn)]
def qcX8_drains : qC := [(0, 1, .aload 0), (1, 1, .iconst 0), (2, 3, .putfield 8000), (5, 1, .aload 0), (6, 3, .invokestatic 24710), (9, 1, .aload 0), (10, 1, .iconst 0), (11, 3, .putfield 8010), (14, 1, .iconst 0), (15, 1, .istore 1), (16, 1, .aload 0), (17, 3, .getfield 8152), (20, 1, .iconst 1), (21, 3, .invokestatic 17521), (24, 1, .istore 2), (25, 1, .iload 2), (26, 3, .ifCond .eq 37), (29, 1, .iload 2), (30, 3, .invokestatic 26611), (33, 1, .istore 3), (34, 1, .aload 0), (35, 1, .aload 0), (36, 3, .getfield 8152), (39, 1, .iload 3), (40, 3, .invokestatic 21031), (43, 1, .pop), (44, 1, .aload 0), (45, 1, .iload 3), (46, 1, .i2l), (47, 3, .invokestatic 14420), (50, 3, .iinc 1 1), (53, 1, .aload 0), (54, 3, .getfield 8152), (57, 1, .iconst 1), (58, 3, .invokestatic 17521), (61, 1, .istore 2), (62, 3, .goto 15), (65, 1, .aload 0), (66, 1, .aload 0), (67, 3, .getfield 8152), (70, 1, .iconst 2), (71, 3, .invokestatic 17521), (74, 1, .i2l), (75, 3, .invokestatic 14420), (78, 1, .iload 1), (79, 1, .ireturn)]
def qcX8_saves : qC := [(0, 1, .aload 0), (1, 1, .iconst 0), (2, 3, .putfield 8000), (5, 1, .iload 1), (6, 3, .invokestatic 17111), (9, 3, .ifCond .eq 12), (12, 1, .iload 2), (13, 1, .i2l), (14, 1, .goto_w 0), (15, 3, .goto_w 20), (18, 3, .invokestatic 14131), (21, 3, .ifCond .ne 14), (24, 1, .iconst (-1)), (25, 1, .ireturn), (26, 1, .aload 0), (27, 3, .getfield 8142), (30, 1, .iload 1), (31, 1, .iload 2), (32, 3, .invokestatic 20031), (35, 1, .istore 3), (36, 1, .aload 0), (37, 3, .getfield 8142), (40, 3, .iconst 680), (43, 1, .iload 1), (44, 1, .iadd), (45, 1, .iaload), (46, 3, .ifCond .eq 29), (49, 1, .iload 3), (50, 3, .ifCond .ne 31), (53, 2, .iconst (-2)), (55, 1, .ireturn), (56, 1, .aload 0), (57, 1, .iconst 0), (58, 3, .putfield 8010), (61, 1, .aload 0), (62, 1, .aload 0), (63, 3, .getfield 8142), (66, 1, .iload 1), (67, 1, .iload 2), (68, 3, .invokestatic 20131), (71, 1, .i2l), (72, 3, .invokestatic 14420), (75, 1, .aload 0), (76, 1, .aload 0), (77, 3, .getfield 8142), (80, 3, .iconst 680), (83, 1, .iload 1), (84, 1, .iadd), (85, 1, .iaload), (86, 1, .iconst 1), (87, 3, .if_icmp .ne 59), (90, 1, .aload 0), (91, 3, .getfield 8142), (94, 1, .iload 1), (95, 1, .iload 2), (96, 3, .invokestatic 20231), (99, 3, .ifCond .eq 59), (102, 1, .iconst 1), (103, 3, .goto 60), (106, 1, .iconst 0), (107, 3, .invokestatic 14311), (110, 1, .i2l), (111, 3, .invokestatic 14420), (114, 1, .iload 3), (115, 1, .ireturn)]
def qcX8_holds : qC := [(0, 1, .aload 0), (1, 1, .iconst 0), (2, 3, .putfield 8000), (5, 1, .iload 1), (6, 3, .invokestatic 17111), (9, 3, .ifCond .eq 9), (12, 1, .iload 2), (13, 3, .invokestatic 14711), (16, 3, .ifCond .ne 11), (19, 1, .iconst (-1)), (20, 1, .ireturn), (21, 1, .iconst 0), (22, 1, .istore 3), (23, 1, .aload 0), (24, 1, .iconst 0), (25, 3, .putfield 8010), (28, 1, .iload 2), (29, 2, .istore 4), (31, 2, .iload 4), (33, 2, .iconst 85), (35, 3, .if_icmp .ge 47), (38, 1, .aload 0), (39, 3, .getfield 8142), (42, 1, .iload 1), (43, 2, .iload 4), (45, 3, .invokestatic 17231), (48, 3, .ifCond .le 29), (51, 1, .iconst 1), (52, 3, .goto 30), (55, 1, .iconst 0), (56, 2, .istore 5), (58, 2, .iload 5), (60, 3, .ifCond .eq 40), (63, 1, .iload 3), (64, 2, .iconst 12), (66, 3, .if_icmp .ge 40), (69, 1, .aload 0), (70, 2, .iload 4), (72, 1, .i2l), (73, 3, .invokestatic 14420), (76, 1, .iload 3), (77, 2, .iload 5), (79, 3, .invokestatic 14311), (82, 1, .iadd), (83, 1, .istore 3), (84, 3, .iinc 4 1), (87, 3, .goto 18), (90, 1, .iload 3), (91, 1, .ireturn)]
def qcX8_common : qC := [(0, 1, .aload 0), (1, 1, .iconst 0), (2, 3, .putfield 8000), (5, 1, .iload 1), (6, 3, .invokestatic 17111), (9, 3, .ifCond .eq 12), (12, 1, .iload 2), (13, 3, .invokestatic 17111), (16, 3, .ifCond .eq 12), (19, 1, .iload 1), (20, 1, .iload 2), (21, 3, .if_icmp .ne 14), (24, 1, .iconst (-1)), (25, 1, .ireturn), (26, 1, .iconst 0), (27, 1, .istore 3), (28, 2, .iconst 85), (30, 2, .istore 4), (32, 1, .iconst 0), (33, 2, .istore 5), (35, 1, .iconst 0), (36, 2, .istore 6), (38, 2, .iload 6), (40, 2, .iconst 85), (42, 3, .if_icmp .ge 77), (45, 1, .aload 0), (46, 3, .getfield 8142), (49, 1, .iload 1), (50, 2, .iload 6), (52, 3, .invokestatic 17231), (55, 3, .ifCond .le 39), (58, 1, .aload 0), (59, 3, .getfield 8142), (62, 1, .iload 2), (63, 2, .iload 6), (65, 3, .invokestatic 17231), (68, 3, .ifCond .le 39), (71, 1, .iconst 1), (72, 3, .goto 40), (75, 1, .iconst 0), (76, 2, .istore 7), (78, 2, .iload 7), (80, 3, .ifCond .eq 47), (83, 1, .iload 3), (84, 3, .ifCond .ne 47), (87, 2, .iload 6), (89, 3, .goto 48), (92, 2, .iload 4), (94, 2, .istore 4), (96, 1, .iload 3), (97, 2, .iload 7), (99, 3, .invokestatic 14311), (102, 1, .iadd), (103, 1, .istore 3), (104, 2, .iload 5), (106, 2, .iload 7), (108, 3, .ifCond .eq 71), (111, 1, .aload 0), (112, 3, .getfield 8142), (115, 1, .iload 1), (116, 2, .iload 6), (118, 3, .invokestatic 17831), (121, 3, .ifCond .ne 69), (124, 1, .aload 0), (125, 3, .getfield 8142), (128, 1, .iload 2), (129, 2, .iload 6), (131, 3, .invokestatic 17831), (134, 3, .ifCond .eq 71), (137, 1, .iconst 1), (138, 3, .goto 72), (141, 1, .iconst 0), (142, 3, .invokestatic 14311), (145, 1, .iadd), (146, 2, .istore 5), (148, 3, .iinc 6 1), (151, 3, .goto 22), (154, 1, .aload 0), (155, 1, .iconst 0), (156, 3, .putfield 8010), (159, 1, .aload 0), (160, 2, .iload 4), (162, 1, .i2l), (163, 3, .invokestatic 14420), (166, 1, .aload 0), (167, 2, .iload 5), (169, 1, .i2l), (170, 3, .invokestatic 14420), (173, 1, .iload 3), (174, 1, .ireturn)]
def qcX8_queues : qC := [(0, 1, .aload 0), (1, 1, .iconst 0), (2, 3, .putfield 8000), (5, 1, .iconst 0), (6, 1, .istore 1), (7, 1, .iconst 0), (8, 1, .istore 2), (9, 1, .iconst 0), (10, 1, .istore 3), (11, 1, .iconst 0), (12, 2, .istore 4), (14, 2, .iload 4), (16, 2, .iconst 85), (18, 3, .if_icmp .ge 41), (21, 1, .aload 0), (22, 3, .getfield 8142), (25, 2, .iload 4), (27, 3, .invokestatic 17921), (30, 2, .istore 5), (32, 1, .iload 1), (33, 2, .iload 5), (35, 3, .ifCond .le 24), (38, 1, .iconst 1), (39, 3, .goto 25), (42, 1, .iconst 0), (43, 3, .invokestatic 14311), (46, 1, .iadd), (47, 1, .istore 1), (48, 2, .iload 5), (50, 1, .iload 3), (51, 3, .if_icmp .le 33), (54, 2, .iload 4), (56, 3, .goto 34), (59, 1, .iload 2), (60, 1, .istore 2), (61, 1, .iload 3), (62, 2, .iload 5), (64, 3, .fadd), (67, 1, .istore 3), (68, 3, .iinc 4 1), (71, 3, .goto 11), (74, 1, .iconst 0), (75, 2, .istore 4), (77, 1, .iconst 0), (78, 2, .istore 5), (80, 2, .iload 5), (82, 2, .iconst 8), (84, 3, .if_icmp .ge 70), (87, 2, .iload 4), (89, 1, .aload 0), (90, 3, .getfield 8142), (93, 3, .iconst 680), (96, 2, .iload 5), (98, 1, .iadd), (99, 1, .iaload), (100, 1, .iconst 2), (101, 3, .if_icmp .ne 64), (104, 1, .aload 0), (105, 3, .getfield 8142), (108, 2, .iload 5), (110, 3, .invokestatic 17621), (113, 3, .ifCond .eq 64), (116, 1, .iconst 1), (117, 3, .goto 65), (120, 1, .iconst 0), (121, 3, .invokestatic 14311), (124, 1, .iadd), (125, 2, .istore 4), (127, 3, .iinc 5 1), (130, 3, .goto 45), (133, 1, .aload 0), (134, 1, .iconst 0), (135, 3, .putfield 8010), (138, 1, .iload 1), (139, 3, .ifCond .le 83), (142, 1, .aload 0), (143, 1, .iload 2), (144, 1, .i2l), (145, 3, .invokestatic 14420), (148, 1, .aload 0), (149, 2, .iload 4), (151, 1, .i2l), (152, 3, .invokestatic 14420), (155, 1, .iload 1), (156, 1, .ireturn)]
def qcX8_sumOf : qC := [(0, 2, .iconst 7), (2, 1, .istore 1), (3, 1, .iconst 0), (4, 1, .istore 2), (5, 1, .iload 2), (6, 2, .iconst 85), (8, 3, .if_icmp .ge 25), (11, 1, .iconst 0), (12, 1, .istore 3), (13, 1, .iload 3), (14, 2, .iconst 8), (16, 3, .if_icmp .ge 23), (19, 2, .iconst 31), (21, 1, .iload 1), (22, 1, .imul), (23, 1, .aload 0), (24, 1, .iload 3), (25, 1, .iload 2), (26, 3, .invokestatic 17231), (29, 1, .iadd), (30, 1, .istore 1), (31, 3, .iinc 3 1), (34, 3, .goto 9), (37, 3, .iinc 2 1), (40, 3, .goto 4), (43, 1, .iload 1), (44, 1, .ireturn)]
def qcX8_sum : qC := [(0, 1, .aload 0), (1, 1, .iconst 0), (2, 3, .putfield 8000), (5, 1, .aload 0), (6, 1, .iconst 0), (7, 3, .putfield 8010), (10, 1, .aload 0), (11, 1, .aload 0), (12, 3, .getfield 8142), (15, 3, .invokestatic 25411), (18, 1, .i2l), (19, 3, .invokestatic 14420), (22, 1, .iconst 0), (23, 1, .ireturn)]
def qcX8_law : qC := [(0, 1, .aload 0), (1, 1, .iconst 0), (2, 3, .putfield 8000), (5, 1, .aload 0), (6, 3, .invokestatic 16511), (9, 1, .istore 1), (10, 1, .iload 1), (11, 3, .ifCond .ge 14), (14, 1, .iload 1), (15, 1, .iconst 1), (16, 1, .iadd), (17, 2, .iconst 100), (19, 1, .isub), (20, 1, .ireturn), (21, 1, .aload 0), (22, 3, .invokestatic 24710), (25, 1, .aload 0), (26, 1, .aload 0), (27, 3, .getfield 8152), (30, 3, .invokestatic 21521), (33, 1, .istore 2), (34, 1, .aload 0), (35, 3, .getfield 8100), (38, 1, .istore 3), (39, 1, .iconst 0), (40, 2, .istore 4), (42, 2, .iload 4), (44, 1, .aload 0), (45, 3, .getfield 8100), (48, 3, .if_icmp .ge 40), (51, 1, .aload 0), (52, 3, .getfield 8272), (55, 2, .iload 4), (57, 1, .aload 0), (58, 3, .getfield 8082), (61, 2, .iload 4), (63, 1, .iaload), (64, 1, .iastore), (65, 3, .iinc 4 1), (68, 3, .goto 26), (71, 1, .aload 0), (72, 1, .aload 0), (73, 3, .getfield 8092), (76, 1, .aload 0), (77, 3, .getfield 8110), (80, 3, .invokestatic 16630), (83, 1, .aload 0), (84, 1, .aload 0), (85, 3, .getfield 8142), (88, 3, .invokestatic 21421), (91, 2, .istore 4), (93, 2, .iload 4), (95, 3, .ifCond .ge 55), (98, 1, .iconst 0), (99, 3, .goto 60), (102, 1, .aload 0), (103, 1, .aload 0), (104, 3, .getfield 8142), (107, 2, .iload 4), (109, 3, .invokestatic 18931), (112, 2, .istore 5), (114, 1, .aload 0), (115, 3, .invokestatic 24710), (118, 1, .aload 0), (119, 1, .aload 0), (120, 3, .getfield 8152), (123, 3, .invokestatic 21521), (126, 2, .istore 6), (128, 1, .aload 0), (129, 1, .aload 0), (130, 3, .getfield 8272), (133, 1, .iload 3), (134, 3, .invokestatic 16630), (137, 1, .aload 0), (138, 1, .iconst 0), (139, 3, .putfield 8010), (142, 1, .aload 0), (143, 2, .iload 5), (145, 1, .i2l), (146, 3, .invokestatic 14420), (149, 1, .aload 0), (150, 2, .iload 6), (152, 1, .i2l), (153, 3, .invokestatic 14420), (156, 1, .aload 0), (157, 1, .iload 2), (158, 1, .i2l), (159, 3, .invokestatic 14420), (162, 2, .iload 4), (164, 3, .ifCond .ge 92), (167, 2, .iconst 8), (169, 3, .goto 93), (172, 2, .iload 4), (174, 1, .ireturn)]
def qcX8_draws : qC := [(0, 1, .aload 0), (1, 1, .aload 0), (2, 3, .getfield 8280), (5, 3, .iconst 1103515245), (8, 1, .imul), (9, 3, .iconst 12345), (12, 1, .iadd), (13, 3, .putfield 8280), (16, 1, .aload 0), (17, 3, .getfield 8280), (20, 2, .iconst 16), (22, 1, .iushr), (23, 1, .iload 1), (24, 1, .irem), (25, 1, .ireturn)]
def qcX8_drawnAct : qC := [(0, 1, .iload 1), (1, 3, .ifCond .ne 9), (4, 1, .aload 0), (5, 1, .aload 0), (6, 3, .getfield 8152), (9, 1, .iload 2), (10, 3, .invokestatic 20731), (13, 1, .pop), (14, 3, .goto 74), (17, 1, .iload 1), (18, 1, .iconst 4), (19, 3, .if_icmp .ge 29), (22, 1, .aload 0), (23, 2, .iconst 85), (25, 3, .invokestatic 25721), (28, 1, .istore 3), (29, 1, .aload 0), (30, 1, .aload 0), (31, 3, .getfield 8152), (34, 1, .iload 2), (35, 1, .iload 3), (36, 1, .iconst 1), (37, 1, .aload 0), (38, 2, .iconst 6), (40, 3, .invokestatic 25721), (43, 1, .iadd), (44, 3, .invokestatic 20651), (47, 1, .pop), (48, 3, .goto 74), (51, 1, .iload 1), (52, 1, .iconst 4), (53, 3, .if_icmp .ne 43), (56, 1, .aload 0), (57, 3, .getfield 8152), (60, 1, .iload 2), (61, 1, .iconst 1), (62, 1, .aload 0), (63, 2, .iconst 9), (65, 3, .invokestatic 25721), (68, 1, .iadd), (69, 3, .invokestatic 20831), (72, 1, .pop), (73, 3, .goto 74), (76, 1, .aload 0), (77, 1, .iconst 3), (78, 3, .invokestatic 25721), (81, 1, .istore 3), (82, 1, .iload 3), (83, 3, .ifCond .ne 56), (86, 1, .aload 0), (87, 1, .aload 0), (88, 3, .getfield 8152), (91, 1, .iload 2), (92, 3, .invokestatic 21131), (95, 1, .pop), (96, 3, .goto 74), (99, 1, .iload 3), (100, 1, .iconst 1), (101, 3, .if_icmp .ne 65), (104, 1, .aload 0), (105, 1, .aload 0), (106, 3, .getfield 8152), (109, 3, .invokestatic 21521), (112, 1, .pop), (113, 3, .goto 74), (116, 1, .aload 0), (117, 1, .aload 0), (118, 3, .getfield 8152), (121, 1, .iload 2), (122, 1, .aload 0), (123, 2, .iconst 21), (125, 3, .invokestatic 25721), (128, 3, .invokestatic 21241), (131, 1, .pop), (132, 1, .return_)]
def qcX8_fallsOf : qC := [(0, 1, .iconst 0), (1, 1, .istore 1), (2, 1, .iconst 0), (3, 1, .istore 2), (4, 1, .iload 2), (5, 2, .iconst 8), (7, 3, .if_icmp .ge 17), (10, 1, .iload 1), (11, 1, .aload 0), (12, 3, .iconst 704), (15, 1, .iload 2), (16, 1, .iadd), (17, 1, .iaload), (18, 1, .iadd), (19, 1, .istore 1), (20, 3, .iinc 2 1), (23, 3, .goto 4), (26, 1, .iload 1), (27, 1, .ireturn)]
def qcX8_years : qC := [(0, 1, .aload 0), (1, 1, .iconst 0), (2, 3, .putfield 8000), (5, 1, .iload 2), (6, 1, .i2l), (7, 1, .goto_w 1), (8, 3, .goto_w 40), (11, 3, .invokestatic 14131), (14, 3, .ifCond .ne 11), (17, 1, .iconst (-1)), (18, 1, .ireturn), (19, 1, .aload 0), (20, 1, .iload 1), (21, 3, .putfield 8280), (24, 1, .aload 0), (25, 3, .invokestatic 24710), (28, 1, .iconst 0), (29, 1, .istore 3), (30, 1, .iload 3), (31, 1, .iload 2), (32, 3, .if_icmp .ge 33), (35, 1, .aload 0), (36, 2, .iconst 6), (38, 3, .invokestatic 25721), (41, 2, .istore 4), (43, 1, .aload 0), (44, 2, .iload 4), (46, 1, .aload 0), (47, 2, .iconst 8), (49, 3, .invokestatic 25721), (52, 3, .invokestatic 25830), (55, 3, .iinc 3 1), (58, 3, .goto 18), (61, 1, .aload 0), (62, 1, .iconst 0), (63, 3, .putfield 8010), (66, 1, .aload 0), (67, 1, .aload 0), (68, 3, .getfield 8152), (71, 3, .invokestatic 25411), (74, 1, .i2l), (75, 3, .invokestatic 14420), (78, 1, .aload 0), (79, 1, .aload 0), (80, 3, .getfield 8152), (83, 1, .iconst 1), (84, 3, .invokestatic 17521), (87, 1, .i2l), (88, 3, .invokestatic 14420), (91, 1, .aload 0), (92, 1, .aload 0), (93, 3, .getfield 8152), (96, 3, .invokestatic 25911), (99, 1, .i2l), (100, 3, .invokestatic 14420), (103, 1, .aload 0), (104, 3, .getfield 8152), (107, 1, .iconst 2), (108, 3, .invokestatic 17521), (111, 3, .invokestatic 26711), (114, 1, .ireturn)]
def qcX8_keep : qC := [(0, 1, .aload 0), (1, 1, .iconst 0), (2, 3, .putfield 8000), (5, 1, .iload 1), (6, 1, .i2l), (7, 1, .goto_w 0), (8, 3, .goto_w 2), (11, 3, .invokestatic 14131), (14, 3, .ifCond .ne 11), (17, 1, .iconst 0), (18, 1, .freturn), (19, 1, .aload 0), (20, 3, .getfield 8292), (23, 1, .iload 1), (24, 1, .iconst 1), (25, 1, .bastore), (26, 1, .iconst 0), (27, 1, .istore 2), (28, 1, .iload 2), (29, 3, .iconst 755), (32, 3, .if_icmp .ge 35), (35, 1, .aload 0), (36, 3, .getfield 8302), (39, 3, .iconst 755), (42, 1, .iload 1), (43, 1, .imul), (44, 1, .iload 2), (45, 1, .iadd), (46, 1, .aload 0), (47, 3, .getfield 8142), (50, 1, .iload 2), (51, 1, .iaload), (52, 1, .iastore), (53, 3, .iinc 2 1), (56, 3, .goto 18), (59, 1, .iconst 1), (60, 1, .freturn)]
def qcX8_again : qC := [(0, 1, .aload 0), (1, 1, .iconst 0), (2, 3, .putfield 8000), (5, 1, .iload 1), (6, 1, .i2l), (7, 1, .goto_w 0), (8, 3, .goto_w 2), (11, 3, .invokestatic 14131), (14, 3, .ifCond .eq 14), (17, 1, .aload 0), (18, 3, .getfield 8292), (21, 1, .iload 1), (22, 1, .baload), (23, 3, .ifCond .ne 16), (26, 1, .iconst 0), (27, 1, .freturn), (28, 1, .iconst 0), (29, 1, .istore 2), (30, 1, .iload 2), (31, 3, .iconst 755), (34, 3, .if_icmp .ge 35), (37, 1, .aload 0), (38, 3, .getfield 8142), (41, 1, .iload 2), (42, 1, .aload 0), (43, 3, .getfield 8302), (46, 3, .iconst 755), (49, 1, .iload 1), (50, 1, .imul), (51, 1, .iload 2), (52, 1, .iadd), (53, 1, .iaload), (54, 1, .iastore), (55, 3, .iinc 2 1), (58, 3, .goto 18), (61, 1, .aload 0), (62, 1, .iconst 0), (63, 3, .putfield 8180), (66, 1, .iconst 1), (67, 1, .freturn)]
def qcX8_count : qC := [(0, 1, .aload 0), (1, 1, .iconst 0), (2, 3, .putfield 8000), (5, 1, .iconst 0), (6, 1, .istore 2), (7, 1, .iconst 0), (8, 1, .istore 3), (9, 1, .iload 3), (10, 2, .iconst 8), (12, 3, .if_icmp .ge 19), (15, 1, .iload 2), (16, 1, .aload 0), (17, 3, .getfield 8142), (20, 1, .iload 3), (21, 3, .invokestatic 17321), (24, 1, .iadd), (25, 1, .istore 2), (26, 3, .iinc 3 1), (29, 3, .goto 7), (32, 1, .iload 1), (33, 55, .lookupswitch 62 #[(0, 21), (1, 26), (2, 31), (3, 36), (4, 41), (5, 47), (6, 49), (7, 53), (8, 56), (9, 59)]), (88, 1, .aload 0), (89, 3, .getfield 8142), (92, 1, .iconst 1), (93, 3, .invokestatic 17521), (96, 1, .ireturn), (97, 1, .aload 0), (98, 3, .getfield 8142), (101, 1, .iconst 2), (102, 3, .invokestatic 17521), (105, 1, .ireturn), (106, 1, .aload 0), (107, 3, .getfield 8142), (110, 3, .iconst 752), (113, 1, .iaload), (114, 1, .ireturn), (115, 1, .aload 0), (116, 3, .getfield 8142), (119, 3, .iconst 753), (122, 1, .iaload), (123, 1, .ireturn), (124, 1, .aload 0), (125, 3, .getfield 8142), (128, 1, .iconst 2), (129, 3, .invokestatic 17521), (132, 3, .invokestatic 26711), (135, 1, .ireturn), (136, 1, .iload 2), (137, 1, .ireturn), (138, 1, .aload 0), (139, 3, .getfield 8142), (142, 3, .invokestatic 25911), (145, 1, .ireturn), (146, 1, .aload 0), (147, 3, .getfield 8180), (150, 1, .ireturn), (151, 1, .aload 0), (152, 3, .getfield 8010), (155, 1, .ireturn), (156, 1, .aload 0), (157, 3, .getfield 8040), (160, 1, .ireturn), (161, 2, .iconst (-100)), (163, 1, .ireturn)]
def qcX8_row : qC := [(0, 1, .aload 0), (1, 1, .iconst 0), (2, 3, .putfield 8000), (5, 1, .iload 1), (6, 1, .i2l), (7, 1, .goto_w 0), (8, 1, .aload 0), (9, 3, .getfield 8010), (12, 1, .iconst 1), (13, 1, .isub), (14, 1, .i2l), (15, 3, .invokestatic 14131), (18, 3, .ifCond .ne 18), (21, 1, .aload 0), (22, 1, .iconst 1), (23, 3, .putfield 8000), (26, 1, .goto_w 0), (27, 1, .lreturn), (28, 1, .aload 0), (29, 3, .getfield 8022), (32, 1, .iload 1), (33, 1, .laload), (34, 1, .lreturn)]
def qcJ6_compare_7cf53 : qC := [(0, 1, .iload 0), (1, 1, .iload 1), (2, 3, .if_icmp .ge 5), (5, 1, .iconst (-1)), (6, 3, .goto 11), (9, 1, .iload 0), (10, 1, .iload 1), (11, 3, .if_icmp .ne 10), (14, 1, .iconst 0), (15, 3, .goto 11), (18, 1, .iconst 1), (19, 1, .ireturn)]
def qcJ6_numberOfTrailingZeros_0f7a4 : qC := [(0, 1, .iload 0), (1, 1, .iconst (-1)), (2, 1, .ixor), (3, 1, .iload 0), (4, 1, .iconst 1), (5, 1, .isub), (6, 1, .iand), (7, 1, .istore 0), (8, 1, .iload 0), (9, 3, .ifCond .gt 14), (12, 1, .iload 0), (13, 2, .iconst 32), (15, 1, .iand), (16, 1, .ireturn), (17, 1, .iconst 1), (18, 1, .istore 1), (19, 1, .iload 0), (20, 3, .iconst 65536), (23, 3, .if_icmp .le 24), (26, 3, .iinc 1 16), (29, 1, .iload 0), (30, 2, .iconst 16), (32, 1, .iushr), (33, 1, .istore 0), (34, 1, .iload 0), (35, 3, .iconst 256), (38, 3, .if_icmp .le 32), (41, 3, .iinc 1 8), (44, 1, .iload 0), (45, 2, .iconst 8), (47, 1, .iushr), (48, 1, .istore 0), (49, 1, .iload 0), (50, 2, .iconst 16), (52, 3, .if_icmp .le 40), (55, 3, .iinc 1 4), (58, 1, .iload 0), (59, 1, .iconst 4), (60, 1, .iushr), (61, 1, .istore 0), (62, 1, .iload 0), (63, 1, .iconst 4), (64, 3, .if_icmp .le 48), (67, 3, .iinc 1 2), (70, 1, .iload 0), (71, 1, .iconst 2), (72, 1, .iushr), (73, 1, .istore 0), (74, 1, .iload 1), (75, 1, .iload 0), (76, 1, .iconst 1), (77, 1, .iushr), (78, 1, .iadd), (79, 1, .ireturn)]
def qcJ6_bitCount_0f7a4 : qC := [(0, 1, .iload 0), (1, 1, .iload 0), (2, 1, .iconst 1), (3, 1, .iushr), (4, 3, .iconst 1431655765), (7, 1, .iand), (8, 1, .isub), (9, 1, .istore 0), (10, 1, .iload 0), (11, 3, .iconst 858993459), (14, 1, .iand), (15, 1, .iload 0), (16, 1, .iconst 2), (17, 1, .iushr), (18, 3, .iconst 858993459), (21, 1, .iand), (22, 1, .iadd), (23, 1, .istore 0), (24, 1, .iload 0), (25, 1, .iload 0), (26, 1, .iconst 4), (27, 1, .iushr), (28, 1, .iadd), (29, 3, .iconst 252645135), (32, 1, .iand), (33, 1, .istore 0), (34, 1, .iload 0), (35, 1, .iload 0), (36, 2, .iconst 8), (38, 1, .iushr), (39, 1, .iadd), (40, 1, .istore 0), (41, 1, .iload 0), (42, 1, .iload 0), (43, 2, .iconst 16), (45, 1, .iushr), (46, 1, .iadd), (47, 1, .istore 0), (48, 1, .iload 0), (49, 2, .iconst 63), (51, 1, .iand), (52, 1, .ireturn)]
def qcJ0_length_8abf5 : qC := [(0, 1, .aload 0), (1, 3, .getfield 0), (4, 1, .arraylength), (5, 1, .aload 0), (6, 3, .invokestatic 27011), (9, 1, .ishr), (10, 1, .ireturn)]
def qcJ0_charAt_5068e : qC := [(0, 1, .aload 0), (1, 3, .invokestatic 27111), (4, 3, .ifCond .eq 8), (7, 1, .aload 0), (8, 3, .getfield 0), (11, 1, .iload 1), (12, 3, .invokestatic 27321), (15, 1, .dreturn), (16, 1, .aload 0), (17, 3, .getfield 0), (20, 1, .iload 1), (21, 3, .invokestatic 27621), (24, 1, .dreturn)]
def qcJ0_coder_7d493 : qC := [(0, 3, .iconst 1), (3, 3, .ifCond .eq 5), (6, 1, .aload 0), (7, 3, .getfield 1), (10, 3, .goto 6), (13, 1, .iconst 1), (14, 1, .areturn)]
def qcJ0_isLatin1_aae02 : qC := [(0, 3, .iconst 1), (3, 3, .ifCond .eq 7), (6, 1, .aload 0), (7, 3, .getfield 1), (10, 3, .ifCond .ne 7), (13, 1, .iconst 1), (14, 3, .goto 8), (17, 1, .iconst 0), (18, 1, .freturn)]
def qcJ0_checkIndex_df160 : qC := [(0, 1, .iload 0), (1, 1, .iload 1), (2, 3, .jsr 50), (5, 3, .invokestatic 27831), (8, 1, .pop), (9, 1, .return_)]
def qcJ1_charAt_3b067 : qC := [(0, 1, .iload 1), (1, 1, .aload 0), (2, 1, .arraylength), (3, 3, .invokestatic 27220), (6, 1, .aload 0), (7, 1, .iload 1), (8, 1, .baload), (9, 3, .iconst 255), (12, 1, .iand), (13, 1, .i2c), (14, 1, .dreturn)]
def qcJ2_getChar_3b067 : qC := [(0, 3, .nop), (3, 3, .ifCond .ne 13), (6, 1, .iload 1), (7, 3, .ifCond .lt 8), (10, 1, .iload 1), (11, 1, .aload 0), (12, 3, .invokestatic 27511), (15, 3, .if_icmp .lt 13), (18, 3, .nop), (21, 1, .dup), (22, 2, .nop), (24, 3, .nop), (27, 1, .nop), (28, 1, .iload 1), (29, 1, .iconst 1), (30, 1, .ishl), (31, 1, .istore 1), (32, 1, .aload 0), (33, 1, .iload 1), (34, 3, .iinc 1 1), (37, 1, .baload), (38, 3, .iconst 255), (41, 1, .iand), (42, 3, .nop), (45, 1, .ishl), (46, 1, .aload 0), (47, 1, .iload 1), (48, 1, .baload), (49, 3, .iconst 255), (52, 1, .iand), (53, 3, .nop), (56, 1, .ishl), (57, 1, .ior), (58, 1, .i2c), (59, 1, .dreturn)]
def qcJ2_length_9d52b : qC := [(0, 1, .aload 0), (1, 1, .arraylength), (2, 1, .iconst 1), (3, 1, .ishr), (4, 1, .ireturn)]
def qcJ2_charAt_3b067 : qC := [(0, 1, .iload 1), (1, 1, .aload 0), (2, 3, .invokestatic 27720), (5, 1, .aload 0), (6, 1, .iload 1), (7, 3, .invokestatic 27421), (10, 1, .dreturn)]
def qcJ2_checkIndex_2214a : qC := [(0, 1, .iload 0), (1, 1, .aload 1), (2, 3, .invokestatic 27511), (5, 3, .invokestatic 27220), (8, 1, .return_)]
def qcJ3_checkIndex_8e157 : qC := [(0, 1, .iload 0), (1, 3, .ifCond .lt 5), (4, 1, .iload 0), (5, 1, .iload 1), (6, 3, .if_icmp .lt 10), (9, 1, .aload 2), (10, 1, .iload 0), (11, 1, .iload 1), (12, 3, .nop), (15, 1, .nop), (16, 1, .iload 0), (17, 1, .ireturn)]
/-- class, static, name, bytes, locals, what it answers, code -/
def qms : List (Nat × Bool × MethodName × ByteArray × Nat × Option FieldType × qC) := [(0, false, yX0_init, cX0_init, 1, none, qcX0_init),
  (0, false, yX0_draw, cX0_draw, 2, some .int, qcX0_draw),
  (0, false, yX0_act, cX0_act, 6, some .int, qcX0_act),
  (0, false, yX0_start, cX0_start, 2, some .int, qcX0_start),
  (0, false, yX0_labour, cX0_labour, 3, some .int, qcX0_labour),
  (0, false, yX0_lock, cX0_lock, 4, some .int, qcX0_lock),
  (0, false, yX0_unlock, cX0_unlock, 3, some .int, qcX0_unlock),
  (0, false, yX0_finish, cX0_finish, 3, some .int, qcX0_finish),
  (0, false, yX0_collect, cX0_collect, 4, some .int, qcX0_collect),
  (0, false, yX0_setBulk, cX0_setBulk, 3, some .int, qcX0_setBulk),
  (0, false, yX0_fellAll, cX0_fellAll, 5, some .int, qcX0_fellAll),
  (0, false, yX0_cheapest, cX0_cheapest, 7, some .int, qcX0_cheapest),
  (0, false, yX0_costOf, cX0_costOf, 3, some .int, qcX0_costOf),
  (0, false, yX0_leave, cX0_leave, 5, none, qcX0_leave),
  (0, false, yX0_idle, cX0_idle, 2, some .int, qcX0_idle),
  (0, false, yX0_release, cX0_release, 3, none, qcX0_release),
  (0, false, yX0_takeDue, cX0_takeDue, 4, some .boolean, qcX0_takeDue),
  (0, false, yX0_serve, cX0_serve, 7, none, qcX0_serve),
  (0, false, yX0_goOn, cX0_goOn, 10, some .int, qcX0_goOn),
  (0, false, yX0_gatherAt, cX0_gatherAt, 8, some .boolean, qcX0_gatherAt),
  (1, false, yX1_init, cX1_init, 2, none, qcX1_init),
  (1, false, yX1_mark, cX1_mark, 2, none, qcX1_mark),
  (1, false, yX1_commit, cX1_commit, 1, none, qcX1_commit),
  (1, false, yX1_back, cX1_back, 2, none, qcX1_back),
  (2, false, yX2_init, cX2_init, 1, none, qcX2_init),
  (2, false, yX2_read, cX2_read, 4, none, qcX2_read),
  (2, false, yX2_waiters, cX2_waiters, 4, some .int, qcX2_waiters),
  (2, false, yX2_reachers, cX2_reachers, 4, some .int, qcX2_reachers),
  (2, false, yX2_inRings, cX2_inRings, 3, some .int, qcX2_inRings),
  (2, false, yX2_shortest, cX2_shortest, 4, some .int, qcX2_shortest),
  (2, false, yX2_measure, cX2_measure, 4, none, qcX2_measure),
  (2, false, yX2_nearer, cX2_nearer, 4, some .int, qcX2_nearer),
  (3, false, yX3_init, cX3_init, 1, none, qcX3_init),
  (3, false, yX3_add, cX3_add, 3, none, qcX3_add),
  (3, false, yX3_one, cX3_one, 3, none, qcX3_one),
  (3, false, yX3_two, cX3_two, 5, none, qcX3_two),
  (3, false, yX3_list, cX3_list, 4, none, qcX3_list),
  (4, false, yX4_init, cX4_init, 1, none, qcX4_init),
  (4, false, yX4_copy, cX4_copy, 2, none, qcX4_copy),
  (4, false, yX4_read, cX4_read, 6, some .int, qcX4_read),
  (4, false, yX4_takeThing, cX4_takeThing, 3, some .boolean, qcX4_takeThing),
  (4, false, yX4_takeBehind, cX4_takeBehind, 3, some .boolean, qcX4_takeBehind),
  (4, false, yX4_takeDigit, cX4_takeDigit, 2, some .boolean, qcX4_takeDigit),
  (4, false, yX4_close, cX4_close, 1, some .boolean, qcX4_close),
  (4, false, yX4_settle, cX4_settle, 4, none, qcX4_settle),
  (4, false, yX4_postpone, cX4_postpone, 2, none, qcX4_postpone),
  (4, false, yX4_put, cX4_put, 2, none, qcX4_put),
  (4, false, yX4_cost, cX4_cost, 7, some .int, qcX4_cost),
  (4, true, yX4_valueOf, cX4_valueOf, 4, some .int, qcX4_valueOf),
  (4, true, yX4_reckon, cX4_reckon, 3, some .int, qcX4_reckon),
  (4, true, yX4_rankOf, cX4_rankOf, 1, some .int, qcX4_rankOf),
  (4, true, yX4_isLetter, cX4_isLetter, 1, some .boolean, qcX4_isLetter),
  (5, false, yX5_init, cX5_init, 2, none, qcX5_init),
  (5, false, yX5_copy, cX5_copy, 2, none, qcX5_copy),
  (5, false, yX5_modeAt, cX5_modeAt, 3, some .int, qcX5_modeAt),
  (5, false, yX5_setMode, cX5_setMode, 4, none, qcX5_setMode),
  (5, false, yX5_standing, cX5_standing, 4, some .int, qcX5_standing),
  (5, false, yX5_firstRunning, cX5_firstRunning, 2, some .int, qcX5_firstRunning),
  (5, false, yX5_holdings, cX5_holdings, 6, some .int, qcX5_holdings),
  (5, false, yX5_allHoldings, cX5_allHoldings, 3, some .int, qcX5_allHoldings),
  (5, false, yX5_allFalls, cX5_allFalls, 3, some .int, qcX5_allFalls),
  (5, false, yX5_heldSum, cX5_heldSum, 4, some .int, qcX5_heldSum),
  (5, false, yX5_holdingsBelow, cX5_holdingsBelow, 7, some .int, qcX5_holdingsBelow),
  (5, false, yX5_gatherMode, cX5_gatherMode, 7, some .int, qcX5_gatherMode),
  (5, false, yX5_firstAbove, cX5_firstAbove, 6, some .int, qcX5_firstAbove),
  (5, false, yX5_isCovered, cX5_isCovered, 5, some .boolean, qcX5_isCovered),
  (5, false, yX5_fits, cX5_fits, 5, some .boolean, qcX5_fits),
  (5, false, yX5_isOpen, cX5_isOpen, 7, some .boolean, qcX5_isOpen),
  (5, false, yX5_stopLevel, cX5_stopLevel, 9, some .int, qcX5_stopLevel),
  (5, false, yX5_newSteps, cX5_newSteps, 8, some .int, qcX5_newSteps),
  (5, false, yX5_requests, cX5_requests, 4, some .int, qcX5_requests),
  (5, false, yX5_changes, cX5_changes, 3, some .int, qcX5_changes),
  (5, false, yX5_isChange, cX5_isChange, 2, some .boolean, qcX5_isChange),
  (5, false, yX5_isAhead, cX5_isAhead, 4, some .boolean, qcX5_isAhead),
  (5, false, yX5_position, cX5_position, 4, some .int, qcX5_position),
  (5, false, yX5_firstInQueue, cX5_firstInQueue, 4, some .int, qcX5_firstInQueue),
  (5, false, yX5_forWhom, cX5_forWhom, 6, some .int, qcX5_forWhom),
  (5, false, yX5_enqueue, cX5_enqueue, 4, none, qcX5_enqueue),
  (5, false, yX5_grant, cX5_grant, 2, none, qcX5_grant),
  (6, false, yX6_init, cX6_init, 1, none, qcX6_init),
  (6, false, yX6_addFour, cX6_addFour, 3, some .int, qcX6_addFour),
  (6, false, yX6_at, cX6_at, 2, some .int, qcX6_at),
  (6, false, yX6_digit, cX6_digit, 3, some .int, qcX6_digit),
  (6, false, yX6_says, cX6_says, 3, some .boolean, qcX6_says),
  (6, false, yX6_modeName, cX6_modeName, 1, some .int, qcX6_modeName),
  (6, false, yX6_wrongInDay, cX6_wrongInDay, 4, some .int, qcX6_wrongInDay),
  (6, true, yX6_digitsOf, cX6_digitsOf, 1, some .int, qcX6_digitsOf),
  (7, false, yX7_init, cX7_init, 2, none, qcX7_init),
  (7, false, yX7_sign, cX7_sign, 2, some .int, qcX7_sign),
  (7, false, yX7_end, cX7_end, 2, some .boolean, qcX7_end),
  (7, false, yX7_rule, cX7_rule, 2, some .int, qcX7_rule),
  (7, false, yX7_modes, cX7_modes, 3, some .int, qcX7_modes),
  (7, false, yX7_named, cX7_named, 2, some .int, qcX7_named),
  (7, false, yX7_owner, cX7_owner, 3, some .int, qcX7_owner),
  (7, false, yX7_held, cX7_held, 3, some .int, qcX7_held),
  (7, false, yX7_begins, cX7_begins, 2, some .int, qcX7_begins),
  (7, false, yX7_works, cX7_works, 3, some .int, qcX7_works),
  (7, false, yX7_locks, cX7_locks, 5, some .int, qcX7_locks),
  (7, false, yX7_unlocks, cX7_unlocks, 5, some .int, qcX7_unlocks),
  (7, false, yX7_ends, cX7_ends, 4, some .int, qcX7_ends),
  (7, false, yX7_gathers, cX7_gathers, 4, some .int, qcX7_gathers),
  (7, false, yX7_bulk, cX7_bulk, 2, some .int, qcX7_bulk),
  (7, false, yX7_fells, cX7_fells, 2, some .int, qcX7_fells),
  (7, false, yX7_day, cX7_day, 7, some .int, qcX7_day),
  (7, false, yX7_undo, cX7_undo, 1, some .int, qcX7_undo),
  (7, false, yX7_holders, cX7_holders, 6, some .int, qcX7_holders),
  (7, false, yX7_queue, cX7_queue, 5, some .int, qcX7_queue),
  (7, false, yX7_waits, cX7_waits, 2, some .int, qcX7_waits),
  (7, false, yX7_covers, cX7_covers, 6, some .int, qcX7_covers),
  (7, false, yX7_may, cX7_may, 6, some .int, qcX7_may),
  (7, false, yX7_free, cX7_free, 7, some .int, qcX7_free),
  (7, false, yX7_behind, cX7_behind, 3, some .int, qcX7_behind),
  (7, false, yX7_stops, cX7_stops, 2, some .int, qcX7_stops),
  (7, false, yX7_rings, cX7_rings, 2, some .int, qcX7_rings),
  (7, false, yX7_ring, cX7_ring, 3, some .int, qcX7_ring),
  (7, false, yX7_victim, cX7_victim, 2, some .int, qcX7_victim),
  (7, false, yX7_frees, cX7_frees, 5, some .int, qcX7_frees),
  (7, false, yX7_drains, cX7_drains, 4, some .int, qcX7_drains),
  (7, false, yX7_saves, cX7_saves, 6, some .int, qcX7_saves),
  (7, false, yX7_holds, cX7_holds, 5, some .int, qcX7_holds),
  (7, false, yX7_common, cX7_common, 7, some .int, qcX7_common),
  (7, false, yX7_queues, cX7_queues, 6, some .int, qcX7_queues),
  (7, false, yX7_sum, cX7_sum, 1, some .int, qcX7_sum),
  (7, false, yX7_law, cX7_law, 5, some .int, qcX7_law),
  (7, false, yX7_years, cX7_years, 8, some .int, qcX7_years),
  (7, false, yX7_keep, cX7_keep, 2, some .boolean, qcX7_keep),
  (7, false, yX7_again, cX7_again, 2, some .boolean, qcX7_again),
  (7, false, yX7_count, cX7_count, 2, some .int, qcX7_count),
  (7, false, yX7_row, cX7_row, 2, some .long, qcX7_row),
  (7, false, yX7_noted, cX7_noted, 2, some .int, qcX7_noted),
  (7, false, yX7_runsWithout, cX7_runsWithout, 4, some .boolean, qcX7_runsWithout),
  (7, true, yX7_isOwner, cX7_isOwner, 1, some .boolean, qcX7_isOwner),
  (7, true, yX7_isPlace, cX7_isPlace, 1, some .boolean, qcX7_isPlace),
  (7, true, yX7_isMode, cX7_isMode, 1, some .boolean, qcX7_isMode),
  (7, true, yX7_isLockMode, cX7_isLockMode, 1, some .boolean, qcX7_isLockMode),
  (7, true, yX7_levelOf, cX7_levelOf, 1, some .int, qcX7_levelOf),
  (7, true, yX7_onPath, cX7_onPath, 4, some .int, qcX7_onPath),
  (7, true, yX7_stepMode, cX7_stepMode, 3, some .int, qcX7_stepMode),
  (7, true, yX7_isDigit, cX7_isDigit, 1, some .boolean, qcX7_isDigit),
  (8, false, yX8_thrown, cX8_thrown, 1, some .int, qcX8_thrown),
  (8, false, yX8_refuse, cX8_refuse, 1, some .int, qcX8_refuse),
  (8, true, yX8_in, cX8_in, 6, some .boolean, qcX8_in),
  (8, true, yX8_has, cX8_has, 2, some .boolean, qcX8_has),
  (8, true, yX8_flag, cX8_flag, 1, some .int, qcX8_flag),
  (8, false, yX8_enters, cX8_enters, 3, none, qcX8_enters),
  (8, true, yX8_parent, cX8_parent, 1, some .int, qcX8_parent),
  (8, true, yX8_isBelow, cX8_isBelow, 3, some .boolean, qcX8_isBelow),
  (8, true, yX8_isPlace, cX8_isPlace, 1, some .boolean, qcX8_isPlace),
  (8, true, yX8_isMode, cX8_isMode, 1, some .boolean, qcX8_isMode),
  (8, true, yX8_together, cX8_together, 2, some .boolean, qcX8_together),
  (8, true, yX8_both, cX8_both, 5, some .int, qcX8_both),
  (8, false, yX8_modes, cX8_modes, 3, some .int, qcX8_modes),
  (8, false, yX8_sign, cX8_sign, 3, some .int, qcX8_sign),
  (8, false, yX8_end, cX8_end, 2, some .boolean, qcX8_end),
  (8, false, yX8_reads, cX8_reads, 3, some .int, qcX8_reads),
  (8, false, yX8_takes, cX8_takes, 3, some .boolean, qcX8_takes),
  (8, false, yX8_isDigit, cX8_isDigit, 1, some .boolean, qcX8_isDigit),
  (8, false, yX8_takesOf, cX8_takesOf, 3, some .int, qcX8_takesOf),
  (8, false, yX8_number, cX8_number, 4, some .int, qcX8_number),
  (8, false, yX8_two, cX8_two, 3, some .int, qcX8_two),
  (8, false, yX8_faultOf, cX8_faultOf, 5, some .int, qcX8_faultOf),
  (8, false, yX8_named, cX8_named, 7, some .int, qcX8_named),
  (8, false, yX8_codes, cX8_codes, 2, none, qcX8_codes),
  (8, false, yX8_readsThing, cX8_readsThing, 2, some .boolean, qcX8_readsThing),
  (8, false, yX8_readsRank, cX8_readsRank, 4, some .boolean, qcX8_readsRank),
  (8, false, yX8_readsRule, cX8_readsRule, 3, some .int, qcX8_readsRule),
  (8, false, yX8_laysCode, cX8_laysCode, 4, none, qcX8_laysCode),
  (8, false, yX8_rule, cX8_rule, 2, some .int, qcX8_rule),
  (8, true, yX8_worked, cX8_worked, 3, some .int, qcX8_worked),
  (8, false, yX8_ruled, cX8_ruled, 4, some .int, qcX8_ruled),
  (8, false, yX8_init, cX8_init, 2, none, qcX8_init),
  (8, true, yX8_isOwner, cX8_isOwner, 1, some .boolean, qcX8_isOwner),
  (8, true, yX8_held, cX8_held, 3, some .int, qcX8_held),
  (8, true, yX8_heldMany, cX8_heldMany, 4, some .int, qcX8_heldMany),
  (8, true, yX8_aloneMany, cX8_aloneMany, 4, some .int, qcX8_aloneMany),
  (8, true, yX8_so, cX8_so, 4, some .int, qcX8_so),
  (8, true, yX8_isChange, cX8_isChange, 2, some .boolean, qcX8_isChange),
  (8, true, yX8_isAhead, cX8_isAhead, 4, some .boolean, qcX8_isAhead),
  (8, true, yX8_isIn, cX8_isIn, 3, some .boolean, qcX8_isIn),
  (8, true, yX8_queued, cX8_queued, 4, some .int, qcX8_queued),
  (8, true, yX8_hasChange, cX8_hasChange, 4, some .boolean, qcX8_hasChange),
  (8, true, yX8_aheadOf, cX8_aheadOf, 4, some .int, qcX8_aheadOf),
  (8, true, yX8_inQueue, cX8_inQueue, 4, some .int, qcX8_inQueue),
  (8, true, yX8_goesWithOthers, cX8_goesWithOthers, 6, some .boolean, qcX8_goesWithOthers),
  (8, true, yX8_waitsFor, cX8_waitsFor, 4, some .boolean, qcX8_waitsFor),
  (8, true, yX8_behindOf, cX8_behindOf, 4, some .int, qcX8_behindOf),
  (8, true, yX8_comesTo, cX8_comesTo, 5, some .int, qcX8_comesTo),
  (8, true, yX8_ringed, cX8_ringed, 3, some .int, qcX8_ringed),
  (8, true, yX8_waitersOf, cX8_waitersOf, 4, some .int, qcX8_waitersOf),
  (8, false, yX8_cost, cX8_cost, 3, some .int, qcX8_cost),
  (8, true, yX8_holdsNow, cX8_holdsNow, 4, none, qcX8_holdsNow),
  (8, true, yX8_isShared, cX8_isShared, 1, some .boolean, qcX8_isShared),
  (8, true, yX8_wanted, cX8_wanted, 4, some .int, qcX8_wanted),
  (8, true, yX8_isGranted, cX8_isGranted, 6, some .boolean, qcX8_isGranted),
  (8, true, yX8_steps, cX8_steps, 5, some .boolean, qcX8_steps),
  (8, true, yX8_nextOn, cX8_nextOn, 3, some .int, qcX8_nextOn),
  (8, true, yX8_modeOn, cX8_modeOn, 3, some .int, qcX8_modeOn),
  (8, true, yX8_isCovered, cX8_isCovered, 7, some .boolean, qcX8_isCovered),
  (8, false, yX8_goesOn, cX8_goesOn, 6, none, qcX8_goesOn),
  (8, true, yX8_rowsHeld, cX8_rowsHeld, 5, some .int, qcX8_rowsHeld),
  (8, true, yX8_belowMany, cX8_belowMany, 5, some .int, qcX8_belowMany),
  (8, true, yX8_gatheredMode, cX8_gatheredMode, 6, some .int, qcX8_gatheredMode),
  (8, true, yX8_canGather, cX8_canGather, 3, some .boolean, qcX8_canGather),
  (8, false, yX8_gathersOne, cX8_gathersOne, 10, some .int, qcX8_gathersOne),
  (8, false, yX8_servesAll, cX8_servesAll, 7, none, qcX8_servesAll),
  (8, false, yX8_serves, cX8_serves, 8, none, qcX8_serves),
  (8, false, yX8_locksOne, cX8_locksOne, 5, some .int, qcX8_locksOne),
  (8, false, yX8_beginsOne, cX8_beginsOne, 3, some .int, qcX8_beginsOne),
  (8, true, yX8_worksOne, cX8_worksOne, 3, some .int, qcX8_worksOne),
  (8, false, yX8_unlocksOne, cX8_unlocksOne, 5, some .int, qcX8_unlocksOne),
  (8, false, yX8_goes, cX8_goes, 10, some .int, qcX8_goes),
  (8, false, yX8_endsOne, cX8_endsOne, 3, some .int, qcX8_endsOne),
  (8, false, yX8_gathersAt, cX8_gathersAt, 4, some .int, qcX8_gathersAt),
  (8, true, yX8_bulksOne, cX8_bulksOne, 3, some .int, qcX8_bulksOne),
  (8, false, yX8_cheapest, cX8_cheapest, 6, some .int, qcX8_cheapest),
  (8, false, yX8_fellsAll, cX8_fellsAll, 4, some .int, qcX8_fellsAll),
  (8, false, yX8_putsBy, cX8_putsBy, 2, none, qcX8_putsBy),
  (8, false, yX8_adds, cX8_adds, 3, some .int, qcX8_adds),
  (8, false, yX8_counted, cX8_counted, 2, some .int, qcX8_counted),
  (8, false, yX8_undo, cX8_undo, 2, some .int, qcX8_undo),
  (8, false, yX8_owner, cX8_owner, 3, some .int, qcX8_owner),
  (8, false, yX8_held_, cX8_held_, 3, some .int, qcX8_held_),
  (8, false, yX8_begins, cX8_begins, 2, some .int, qcX8_begins),
  (8, false, yX8_works, cX8_works, 3, some .int, qcX8_works),
  (8, false, yX8_locks, cX8_locks, 5, some .int, qcX8_locks),
  (8, false, yX8_unlocks, cX8_unlocks, 3, some .int, qcX8_unlocks),
  (8, false, yX8_ends, cX8_ends, 4, some .int, qcX8_ends),
  (8, false, yX8_gathers, cX8_gathers, 4, some .int, qcX8_gathers),
  (8, false, yX8_bulk, cX8_bulk, 2, some .int, qcX8_bulk),
  (8, false, yX8_fells, cX8_fells, 3, some .int, qcX8_fells),
  (8, false, yX8_readsAct, cX8_readsAct, 2, some .boolean, qcX8_readsAct),
  (8, false, yX8_does, cX8_does, 3, some .int, qcX8_does),
  (8, false, yX8_day, cX8_day, 2, some .int, qcX8_day),
  (8, false, yX8_holders, cX8_holders, 5, some .int, qcX8_holders),
  (8, false, yX8_queue, cX8_queue, 4, some .int, qcX8_queue),
  (8, false, yX8_waits, cX8_waits, 2, some .int, qcX8_waits),
  (8, false, yX8_firstAbove, cX8_firstAbove, 6, some .int, qcX8_firstAbove),
  (8, false, yX8_covers, cX8_covers, 6, some .int, qcX8_covers),
  (8, false, yX8_wouldWait, cX8_wouldWait, 6, some .int, qcX8_wouldWait),
  (8, false, yX8_may, cX8_may, 5, some .int, qcX8_may),
  (8, false, yX8_free, cX8_free, 6, some .int, qcX8_free),
  (8, false, yX8_behind, cX8_behind, 3, some .int, qcX8_behind),
  (8, false, yX8_stops, cX8_stops, 4, some .int, qcX8_stops),
  (8, false, yX8_rings, cX8_rings, 2, some .int, qcX8_rings),
  (8, false, yX8_laysSteps, cX8_laysSteps, 5, none, qcX8_laysSteps),
  (8, false, yX8_ring, cX8_ring, 6, some .int, qcX8_ring),
  (8, false, yX8_victim, cX8_victim, 2, some .int, qcX8_victim),
  (8, false, yX8_copies, cX8_copies, 2, none, qcX8_copies),
  (8, false, yX8_frees, cX8_frees, 7, some .int, qcX8_frees),
  (8, false, yX8_drains, cX8_drains, 4, some .int, qcX8_drains),
  (8, false, yX8_saves, cX8_saves, 4, some .int, qcX8_saves),
  (8, false, yX8_holds, cX8_holds, 6, some .int, qcX8_holds),
  (8, false, yX8_common, cX8_common, 8, some .int, qcX8_common),
  (8, false, yX8_queues, cX8_queues, 6, some .int, qcX8_queues),
  (8, true, yX8_sumOf, cX8_sumOf, 4, some .int, qcX8_sumOf),
  (8, false, yX8_sum, cX8_sum, 1, some .int, qcX8_sum),
  (8, false, yX8_law, cX8_law, 7, some .int, qcX8_law),
  (8, false, yX8_draws, cX8_draws, 2, some .int, qcX8_draws),
  (8, false, yX8_drawnAct, cX8_drawnAct, 4, none, qcX8_drawnAct),
  (8, true, yX8_fallsOf, cX8_fallsOf, 3, some .int, qcX8_fallsOf),
  (8, false, yX8_years, cX8_years, 5, some .int, qcX8_years),
  (8, false, yX8_keep, cX8_keep, 3, some .boolean, qcX8_keep),
  (8, false, yX8_again, cX8_again, 3, some .boolean, qcX8_again),
  (8, false, yX8_count, cX8_count, 4, some .int, qcX8_count),
  (8, false, yX8_row, cX8_row, 2, some .long, qcX8_row),
  (13, true, yJ6_compare_7cf53, cJ6_compare_7cf53, 2, some .int, qcJ6_compare_7cf53),
  (13, true, yJ6_numberOfTrailingZeros_0f7a4, cJ6_numberOfTrailingZeros_0f7a4, 2, some .int, qcJ6_numberOfTrailingZeros_0f7a4),
  (13, true, yJ6_bitCount_0f7a4, cJ6_bitCount_0f7a4, 1, some .int, qcJ6_bitCount_0f7a4),
  (10, false, yJ0_length_8abf5, cJ0_length_8abf5, 1, some .int, qcJ0_length_8abf5),
  (10, false, yJ0_charAt_5068e, cJ0_charAt_5068e, 2, some .char, qcJ0_charAt_5068e),
  (10, false, yJ0_coder_7d493, cJ0_coder_7d493, 1, some .byte, qcJ0_coder_7d493),
  (10, false, yJ0_isLatin1_aae02, cJ0_isLatin1_aae02, 1, some .boolean, qcJ0_isLatin1_aae02),
  (10, true, yJ0_checkIndex_df160, cJ0_checkIndex_df160, 2, none, qcJ0_checkIndex_df160),
  (11, true, yJ1_charAt_3b067, cJ1_charAt_3b067, 2, some .char, qcJ1_charAt_3b067),
  (15, true, yJ2_getChar_3b067, cJ2_getChar_3b067, 2, some .char, qcJ2_getChar_3b067),
  (15, true, yJ2_length_9d52b, cJ2_length_9d52b, 1, some .int, qcJ2_length_9d52b),
  (15, true, yJ2_charAt_3b067, cJ2_charAt_3b067, 2, some .char, qcJ2_charAt_3b067),
  (15, true, yJ2_checkIndex_2214a, cJ2_checkIndex_2214a, 2, none, qcJ2_checkIndex_2214a),
  (12, true, yJ3_checkIndex_8e157, cJ3_checkIndex_8e157, 3, some .int, qcJ3_checkIndex_8e157)]
def qm (M : Nat) : Nat × Bool × MethodName × ByteArray × Nat × Option FieldType × qC := (qnth qms M).getD (99, true, ⟨"", "", ""⟩, ⟨#[]⟩, 0, none, [])
/-- entries, class by class: entry, what it is, its number -/
def qcps_0 : List (Nat × Nat × Int) := [(3, 17, 0), (9, 9, 513), (11, 13, 5210), (12, 1, 2), (18, 9, 204), (20, 16, 2410), (21, 1, 12), (25, 1, 22), (29, 1, 32), (32, 1, 40), (36, 2, 1103515245), (37, 11, 321), (41, 11, 431), (45, 11, 541), (49, 11, 631), (52, 11, 721), (55, 11, 831), (58, 11, 1021), (62, 11, 921), (65, 15, 13111), (69, 1, 5012), (72, 1, 5110), (75, 1, 5022), (78, 11, 1421), (81, 1, 5032), (84, 21, 0), (89, 15, 13211), (92, 15, 13411), (95, 11, 6541), (99, 1, 5082), (102, 1, 5092), (105, 11, 1841), (108, 11, 5431), (111, 11, 6231), (114, 11, 5540), (118, 11, 1730), (122, 11, 5831), (125, 11, 1320), (129, 11, 1941), (132, 1, 5120), (135, 11, 1121), (138, 1, 5042), (141, 11, 2520), (145, 11, 2811), (149, 11, 2621), (152, 11, 4741), (158, 1, 5052), (161, 1, 5002), (164, 11, 1530), (167, 11, 1631), (171, 11, 7521), (174, 1, 5062), (177, 11, 6641), (180, 11, 7820), (183, 15, 13511), (186, 15, 13621), (189, 6, 2), (192, 15, 13731), (195, 11, 6741), (198, 11, 7740), (201, 11, 6331)]
def qcps_1 : List (Nat × Nat × Int) := [(3, 17, 0), (11, 9, 513), (13, 1, 1002), (17, 13, 5210), (18, 1, 1010), (22, 1, 1020), (25, 11, 5320)]
def qcps_2 : List (Nat × Nat × Int) := [(3, 17, 0), (9, 1, 2002), (15, 1, 2012), (18, 1, 2022), (21, 1, 2032), (24, 11, 7621), (30, 11, 3020), (34, 11, 3131)]
def qcps_3 : List (Nat × Nat × Int) := [(3, 17, 0), (9, 1, 3002), (15, 1, 3010), (19, 11, 3320)]
def qcps_4 : List (Nat × Nat × Int) := [(3, 17, 0), (9, 1, 4002), (15, 1, 4012), (18, 1, 4022), (21, 18, 0), (27, 1, 4030), (31, 1, 4040), (34, 1, 4050), (37, 1, 4060), (40, 1, 4070), (43, 1, 4083), (47, 1, 6010), (50, 21, 0), (56, 11, 8121), (60, 11, 4121), (64, 11, 4021), (67, 11, 4420), (71, 11, 4520), (74, 15, 13811), (77, 12, 5111), (80, 11, 4620), (83, 11, 4221), (86, 11, 4311), (90, 12, 5011), (93, 1, 5032), (98, 11, 5831), (101, 12, 4931), (105, 12, 4841), (109, 1, 5022), (112, 1, 5042)]
def qcps_5 : List (Nat × Nat × Int) := [(3, 17, 0), (9, 1, 5002), (15, 1, 5012), (18, 1, 5022), (21, 1, 5032), (24, 1, 5042), (27, 1, 5052), (30, 1, 5062), (33, 1, 5072), (36, 1, 5082), (39, 1, 5092), (42, 1, 5120), (46, 18, 0), (52, 1, 5100), (55, 1, 5110), (58, 11, 5431), (62, 11, 5831), (65, 6, 2), (68, 15, 13511), (72, 15, 13621), (75, 11, 6441), (79, 6, 0), (82, 15, 13731), (85, 11, 6741), (89, 11, 7221), (93, 11, 7331), (97, 11, 5540)]
def qcps_6 : List (Nat × Nat × Int) := [(3, 17, 0), (9, 1, 6002), (15, 1, 6010), (19, 11, 8121), (23, 15, 13811), (27, 11, 26811), (33, 11, 26921), (37, 4, 10), (39, 11, 8321), (43, 4, 11), (45, 4, 12), (47, 4, 13), (49, 4, 14), (51, 4, 15), (53, 12, 8611)]
def qcps_7 : List (Nat × Nat × Int) := [(1, 17, 0), (7, 9, 5), (9, 16, 10), (10, 1, 7002), (16, 1, 7012), (19, 1, 2), (23, 1, 7022), (26, 9, 103), (28, 13, 2010), (29, 1, 7032), (33, 9, 513), (35, 1, 7042), (39, 13, 5210), (40, 1, 7052), (44, 9, 602), (46, 16, 7910), (47, 1, 7062), (51, 9, 302), (53, 16, 3210), (54, 1, 7072), (58, 9, 409), (60, 16, 3710), (61, 1, 7082), (65, 1, 7092), (68, 11, 8021), (72, 1, 6010), (76, 11, 3921), (80, 11, 3820), (84, 12, 13311), (88, 5, 2), (92, 5, 1), (95, 11, 3530), (99, 5, 0), (102, 11, 8411), (106, 12, 13111), (112, 1, 5012), (115, 1, 5022), (118, 1, 5032), (121, 1, 5042), (124, 11, 5831), (128, 11, 1231), (132, 12, 13211), (135, 11, 5431), (138, 11, 2120), (142, 11, 321), (145, 11, 12921), (148, 11, 431), (151, 11, 541), (155, 1, 5052), (158, 11, 5621), (161, 11, 631), (164, 12, 26711), (169, 11, 721), (172, 11, 3420), (176, 11, 831), (179, 11, 921), (182, 11, 1021), (186, 1, 22), (189, 11, 3630), (193, 11, 8511), (196, 11, 8121), (198, 11, 8221), (201, 11, 261), (205, 12, 8611), (208, 22, 0), (213, 11, 2210), (216, 1, 1020), (217, 11, 2320), (220, 11, 7021), (223, 1, 3010), (224, 11, 7421), (227, 11, 3320), (230, 1, 5062), (233, 1, 5082), (236, 1, 5092), (239, 11, 6441), (242, 12, 13411), (245, 11, 6541), (249, 3, 85), (251, 11, 6841), (254, 12, 13511), (257, 12, 13621), (260, 11, 6951), (264, 11, 7621), (267, 1, 12), (271, 11, 2520), (275, 11, 2621), (278, 11, 2721), (281, 11, 2811), (284, 11, 2921), (287, 1, 2032), (290, 11, 1121), (293, 11, 13031), (297, 11, 5320), (299, 11, 5711), (302, 11, 1320), (306, 11, 6231), (309, 11, 6331), (312, 11, 6741), (315, 11, 7111), (318, 11, 6111), (321, 1, 40), (324, 4, 16), (326, 11, 121), (329, 11, 26921), (335, 4, 17), (337, 11, 6011), (340, 1, 5110), (343, 1, 5120), (346, 11, 5911), (349, 1, 3002)]
def qcps_8 : List (Nat × Nat × Int) := [(3, 1, 8000), (7, 1, 8022), (11, 1, 8010), (14, 12, 14511), (18, 3, 84), (20, 12, 14131), (24, 3, 6), (26, 5, 3), (30, 12, 14221), (34, 5, 4), (37, 12, 15021), (41, 11, 14420), (45, 12, 14311), (49, 12, 14921), (52, 1, 8040), (55, 1, 8032), (58, 1, 8050), (61, 1, 8070), (64, 21, 0), (69, 1, 8060), (72, 3, 48), (74, 3, 57), (76, 11, 26811), (82, 11, 26921), (86, 11, 15611), (90, 11, 15821), (93, 11, 15421), (96, 11, 15521), (100, 1, 8092), (103, 1, 8110), (106, 11, 16311), (109, 11, 16220), (113, 4, 18), (115, 11, 15721), (119, 11, 16421), (122, 4, 19), (124, 4, 20), (126, 4, 21), (128, 11, 16041), (132, 1, 8100), (135, 1, 8082), (138, 11, 16511), (141, 11, 16630), (145, 1, 8122), (148, 12, 16831), (152, 1, 8132), (155, 17, 0), (161, 1, 8142), (164, 1, 8152), (167, 1, 8172), (170, 1, 8192), (173, 1, 8202), (176, 1, 8212), (179, 1, 8222), (182, 1, 8232), (185, 1, 8262), (188, 1, 8272), (191, 1, 8292), (195, 1, 8302), (198, 3, 7), (200, 12, 17231), (204, 12, 17621), (208, 12, 17831), (212, 12, 17731), (215, 12, 18121), (219, 12, 18431), (222, 12, 18521), (225, 12, 18621), (228, 12, 17321), (231, 12, 18821), (234, 12, 17421), (237, 11, 16911), (240, 12, 19241), (244, 12, 18021), (247, 12, 17921), (250, 12, 18341), (254, 12, 19341), (257, 12, 19040), (261, 12, 19111), (264, 12, 19521), (267, 12, 19631), (270, 12, 19441), (272, 12, 19931), (275, 11, 20341), (278, 12, 14621), (281, 12, 20031), (284, 12, 20131), (287, 12, 20231), (290, 1, 8160), (293, 11, 20440), (297, 11, 20530), (300, 12, 18231), (303, 3, 15), (305, 11, 19840), (309, 12, 17111), (312, 12, 14711), (315, 12, 14811), (318, 12, 19741), (321, 3, 9), (323, 12, 17521), (326, 12, 26711), (331, 11, 21031), (334, 3, 20), (336, 3, 2), (338, 3, 5), (340, 12, 18711), (344, 11, 18931), (347, 12, 26521), (350, 11, 21421), (353, 1, 8180), (356, 11, 21721), (359, 11, 14011), (362, 11, 21610), (365, 11, 20731), (368, 11, 21821), (371, 12, 20831), (374, 11, 20651), (377, 11, 20941), (380, 11, 21131), (383, 11, 21241), (386, 12, 21321), (389, 11, 21521), (392, 1, 8240), (395, 4, 22), (397, 11, 15911), (400, 11, 23011), (403, 11, 23121), (406, 11, 23641), (409, 1, 8250), (412, 11, 23841), (415, 3, 4), (417, 2, 1000000), (418, 11, 24420), (421, 11, 24710), (424, 12, 26611), (427, 22, 0), (430, 12, 25411), (433, 1, 8280), (436, 2, 1103515245), (437, 11, 25721), (440, 3, 40), (442, 11, 25830), (446, 12, 25911)]
def qcps_9 : List (Nat × Nat × Int) := []
def qcps_10 : List (Nat × Nat × Int) := [(9, 19, 0), (15, 20, 1), (38, 7, 1), (335, 11, 27011), (492, 11, 27111), (495, 12, 27321), (498, 12, 27621), (1053, 8, 50), (1059, 12, 27831)]
def qcps_11 : List (Nat × Nat × Int) := [(9, 12, 27220)]
def qcps_12 : List (Nat × Nat × Int) := []
def qcps_13 : List (Nat × Nat × Int) := [(264, 2, 65536), (265, 2, 1431655765), (266, 2, 858993459), (267, 2, 252645135)]
def qcps_14 : List (Nat × Nat × Int) := []
def qcps_15 : List (Nat × Nat × Int) := []
def qcps : List (List (Nat × Nat × Int)) := [qcps_0, qcps_1, qcps_2, qcps_3, qcps_4, qcps_5, qcps_6, qcps_7, qcps_8, qcps_9, qcps_10, qcps_11, qcps_12, qcps_13, qcps_14, qcps_15]
def qcpl (o j : Nat) : Nat × Int := match ((qnth qcps o).getD []).find? (fun e => e.1 == j) with
  | some e => e.2
  | none => (0, 0)
def qfT (n : Nat) : String × String × String × Bool := (qcl (n / 1000)).2.1 (n % 1000 / 10)
def qmy (M : Nat) : MethodName := (qm M).2.2.1
/-- the words of an entry that the tables have -/
def qcw (e : Nat × Nat × Nat × Int) : List Cond :=
  let o := qown e.1; let j := e.2.1; let v := e.2.2.2.toNat; let y := qmy (v / 100)
  match e.2.2.1 with
  | 1 => [.fieldLink o j (qfT v).1 (qfT v).2.1 (qfT v).2.2.1]
  | 2 => [.constant o j (Int32.ofInt e.2.2.2)]
  | 3 => [.constantLong o j (Int64.ofInt e.2.2.2)]
  | 5 => [.fieldLink o j ((qnth qtabn v).getD ("", "")).1 ((qnth qtabn v).getD ("", "")).2 "[I"]
  | 7 => [.fieldLink o j "java/lang/String" "COMPACT_STRINGS" "Z"]
  | 8 => [.fieldLink o j "jdk/internal/util/Preconditions" "SIOOBE_FORMATTER" "Ljava/util/function/BiFunction;"]
  | 9 => [.classLink o j (qcl (v / 100)).1, .instantiable (qcl (v / 100)).1 (v % 100), .initialized (qcl (v / 100)).1]
  | 10 => [.classLink o j "LockLadder$State"]
  | 11 => [.methodLink o j y, .instanceMethod y, .selects y.cls y y, .initialized y.cls]
  | 12 => [.methodLink o j y, .static y, .initialized y.cls]
  | 13 => [.methodLink o j y, .instanceMethod y, .initialized y.cls]
  | 14 => [.instanceMethod y, .selects y.cls y y, .initialized y.cls]
  | 15 => [.static y, .initialized y.cls]
  | 16 => [.instanceMethod y, .initialized y.cls]
  | 17 => [.methodLink o j Lib.objectInit, .instanceMethod Lib.objectInit, .code Lib.objectInit ⟨#[0xb1]⟩ 1 none]
  | 18 => [.methodLink o j arraycopyName, .native arraycopyName, .static arraycopyName, .initialized "java/lang/System"]
  | 21 => [.methodLink o j Lib.Math.min.name, .static Lib.Math.min.name, .initialized "java/lang/Math", .code Lib.Math.min.name Lib.Math.min.code 2 (some .int)]
  | 22 => [.methodLink o j Lib.Math.max.name, .static Lib.Math.max.name, .initialized "java/lang/Math", .code Lib.Math.max.name Lib.Math.max.code 2 (some .int)]
  | 19 => [.fieldLink o j "java/lang/String" "value" "[B"]
  | 20 => [.fieldLink o j "java/lang/String" "coder" "B"]
  | _ => []
/-- those of mates of a nest -/
def qcnw (e : Nat × Nat × Nat × Int) : List Cond :=
  let o := qown e.1; let j := e.2.1; let v := e.2.2.2.toNat; let y := qmy (v / 100)
  match e.2.2.1 with
  | 6 => [.fieldLinkNest o j ((qnth qtabn v).getD ("", "")).1 ((qnth qtabn v).getD ("", "")).2 "[I" "LockLadder"]
  | 14 => [.methodLinkNest o j y "LockLadder"]
  | 15 => [.methodLinkNest o j y "LockLadder"]
  | 16 => [.methodLinkNest o j y "LockLadder"]
  | _ => []
/-- how many values a method takes, and what it answers -/
def qsig (st : Bool) (v : Nat) : Bool :=
  let m := qm (v / 100)
  (parseMethodDescriptor m.2.2.1.desc).map (fun d => d.parameters.length) == some (if st then v % 100 / 10 else v % 100 / 10 - 1) && (st || decide (1 ≤ v % 100 / 10)) && decide (m.2.1 = st) &&
  (match m.2.2.2.2.2.1 with
    | none => v % 10 == 0
    | some .long => v % 10 == 2
    | some _ => v % 10 == 1) && decide (m.2.2.2.2.1 ≤ 21) && decide (v / 100 < 279)
def qcb (e : Nat × Nat × Nat × Int) : Bool :=
  let v := e.2.2.2.toNat
  decide (e.2.2.2 = (v : Int) ∨ e.2.2.1 = 2 ∨ e.2.2.1 = 3) &&
  (match e.2.2.1 with
  | 1 => decide (v / 1000 < 9 ∧ v % 1000 / 10 < qfn (v / 1000) ∧ v % 10 = qfty (v / 1000) (v % 1000 / 10) ∧ 2 ≤ v)
  | 4 => decide (10 ≤ v ∧ v < 23 ∧ ((qnth qstrk (v - 10)).getD ("", 0, "")).1 = qown e.1 ∧ ((qnth qstrk (v - 10)).getD ("", 0, "")).2.1 = e.2.1)
  | 5 => decide (v < 5)
  | 6 => decide (v < 5)
  | 7 => decide (v = 1)
  | 8 => decide (v = 50)
  | 9 => decide (v / 100 < 9 ∧ v % 100 = qfn (v / 100))
  | 11 => qsig false v && decide ((qmy (v / 100)).cls = (if (qm (v / 100)).1 < 9 then (qcl (qm (v / 100)).1).1 else "java/lang/String")) && decide ((qm (v / 100)).1 < 9 ∨ (qm (v / 100)).1 = 10)
  | 12 => qsig true v
  | 13 => qsig false v && decide ((qmy (v / 100)).name = "<init>" ∧ (qm (v / 100)).2.2.2.2.2.1 = none)
  | 14 => qsig false v && decide ((qmy (v / 100)).cls = (if (qm (v / 100)).1 < 9 then (qcl (qm (v / 100)).1).1 else "java/lang/String")) && decide ((qm (v / 100)).1 < 9 ∨ (qm (v / 100)).1 = 10)
  | 15 => qsig true v
  | 16 => qsig false v && decide ((qmy (v / 100)).name = "<init>" ∧ (qm (v / 100)).2.2.2.2.2.1 = none)
  | 19 => decide (v = 0)
  | 20 => decide (v = 1)
  | _ => true)
def qEnt (e : Nat × Nat × Nat × Int) : Prop := (∀ w ∈ qcw e, w ∈ qG) ∧ (∀ w ∈ qcnw e, w ∈ qnest) ∧ qcb e = true
theorem qt1 (i : Nat) {w : Cond} (h : tables_1_1[i]? = some w) (hg : goodWord w = true) : w ∈ qG := qG_in (List.mem_append_right _ (List.mem_append_left _ (List.mem_of_getElem? h))) hg
theorem qt2 (i : Nat) {w : Cond} (h : tables_1_2[i]? = some w) (hg : goodWord w = true) : w ∈ qG := qG_in (List.mem_append_right _ (List.mem_append_right _ (List.mem_append_left _ (List.mem_of_getElem? h)))) hg
theorem qt3 (i : Nat) {w : Cond} (h : tables_1_3[i]? = some w) (hg : goodWord w = true) : w ∈ qG := qG_in (List.mem_append_right _ (List.mem_append_right _ (List.mem_append_right _ (List.mem_append_left _ (List.mem_of_getElem? h))))) hg
theorem qt4 (i : Nat) {w : Cond} (h : tables_1_4[i]? = some w) (hg : goodWord w = true) : w ∈ qG := qG_in (List.mem_append_right _ (List.mem_append_right _ (List.mem_append_right _ (List.mem_append_right _ (List.mem_append_left _ (List.mem_of_getElem? h)))))) hg
theorem qt5 (i : Nat) {w : Cond} (h : tables_1_5[i]? = some w) (hg : goodWord w = true) : w ∈ qG := qG_in (List.mem_append_right _ (List.mem_append_right _ (List.mem_append_right _ (List.mem_append_right _ (List.mem_append_right _ (List.mem_append_left _ (List.mem_of_getElem? h))))))) hg
theorem qt6 (i : Nat) {w : Cond} (h : tables_1_6[i]? = some w) (hg : goodWord w = true) : w ∈ qG := qG_in (List.mem_append_right _ (List.mem_append_right _ (List.mem_append_right _ (List.mem_append_right _ (List.mem_append_right _ (List.mem_append_right _ (List.mem_append_left _ (List.mem_of_getElem? h)))))))) hg
theorem qt7 (i : Nat) {w : Cond} (h : tables_1_7[i]? = some w) (hg : goodWord w = true) : w ∈ qG := qG_in (List.mem_append_right _ (List.mem_append_right _ (List.mem_append_right _ (List.mem_append_right _ (List.mem_append_right _ (List.mem_append_right _ (List.mem_append_right _ (List.mem_of_getElem? h)))))))) hg
theorem qtp (i : Nat) {w : Cond} (h : (k2_sels lw_privs)[i]? = some w) (hg : goodWord w = true) : w ∈ qG := qG_in (List.mem_append_left _ (List.mem_of_getElem? h)) hg
theorem qtn (i : Nat) {w : Cond} (h : qnest[i]? = some w) : w ∈ qnest := List.mem_of_getElem? h
theorem qz0 {l : List Cond} : ∀ w ∈ ([] : List Cond), w ∈ l := fun _ h => absurd h List.not_mem_nil
theorem qz1 {l : List Cond} {a : Cond} (h : a ∈ l) : ∀ w ∈ [a], w ∈ l := List.forall_mem_cons.mpr ⟨h, qz0⟩
theorem qz2 {l : List Cond} {a b : Cond} (h : a ∈ l) (h2 : b ∈ l) : ∀ w ∈ [a, b], w ∈ l := List.forall_mem_cons.mpr ⟨h, qz1 h2⟩
theorem qz3 {l : List Cond} {a b c : Cond} (h : a ∈ l) (h2 : b ∈ l) (h3 : c ∈ l) : ∀ w ∈ [a, b, c], w ∈ l := List.forall_mem_cons.mpr ⟨h, qz2 h2 h3⟩
theorem qz4 {l : List Cond} {a b c d : Cond} (h : a ∈ l) (h2 : b ∈ l) (h3 : c ∈ l) (h4 : d ∈ l) : ∀ w ∈ [a, b, c, d], w ∈ l := List.forall_mem_cons.mpr ⟨h, qz3 h2 h3 h4⟩
theorem qe_0_3 : qEnt (0, 3, 17, 0) := ⟨qz3 (qt1 34 rfl rfl) (qt1 27 rfl rfl) (qt1 28 rfl rfl), qz0 , by decide +kernel⟩
theorem qe_0_9 : qEnt (0, 9, 9, 513) := ⟨qz3 (qt1 35 rfl rfl) (qt1 36 rfl rfl) (qt1 3 rfl rfl), qz0 , by decide +kernel⟩
theorem qe_0_11 : qEnt (0, 11, 13, 5210) := ⟨qz3 (qt1 37 rfl rfl) (qt1 38 rfl rfl) (qt1 3 rfl rfl), qz0 , by decide +kernel⟩
theorem qe_0_12 : qEnt (0, 12, 1, 2) := ⟨qz1 (qt1 126 rfl rfl), qz0 , by decide +kernel⟩
theorem qe_0_18 : qEnt (0, 18, 9, 204) := ⟨qz3 (qt1 106 rfl rfl) (qt1 107 rfl rfl) (qt1 4 rfl rfl), qz0 , by decide +kernel⟩
theorem qe_0_20 : qEnt (0, 20, 16, 2410) := ⟨qz2 (qt1 109 rfl rfl) (qt1 4 rfl rfl), qz1 (qtn 1 rfl), by decide +kernel⟩
theorem qe_0_21 : qEnt (0, 21, 1, 12) := ⟨qz1 (qt1 128 rfl rfl), qz0 , by decide +kernel⟩
theorem qe_0_25 : qEnt (0, 25, 1, 22) := ⟨qz1 (qt1 130 rfl rfl), qz0 , by decide +kernel⟩
theorem qe_0_29 : qEnt (0, 29, 1, 32) := ⟨qz1 (qt1 132 rfl rfl), qz0 , by decide +kernel⟩
theorem qe_0_32 : qEnt (0, 32, 1, 40) := ⟨qz1 (qt1 133 rfl rfl), qz0 , by decide +kernel⟩
theorem qe_0_36 : qEnt (0, 36, 2, 1103515245) := ⟨qz1 (qt4 146 rfl rfl), qz0 , by decide +kernel⟩
theorem qe_0_37 : qEnt (0, 37, 11, 321) := ⟨qz4 (qt3 209 rfl rfl) (qt2 199 rfl rfl) (qt2 200 rfl rfl) (qt1 2 rfl rfl), qz0 , by decide +kernel⟩
theorem qe_0_41 : qEnt (0, 41, 11, 431) := ⟨qz4 (qt3 210 rfl rfl) (qt2 218 rfl rfl) (qt2 219 rfl rfl) (qt1 2 rfl rfl), qz0 , by decide +kernel⟩
theorem qe_0_45 : qEnt (0, 45, 11, 541) := ⟨qz4 (qt3 211 rfl rfl) (qt2 231 rfl rfl) (qt2 232 rfl rfl) (qt1 2 rfl rfl), qz0 , by decide +kernel⟩
theorem qe_0_49 : qEnt (0, 49, 11, 631) := ⟨qz4 (qt3 212 rfl rfl) (qt3 98 rfl rfl) (qt3 99 rfl rfl) (qt1 2 rfl rfl), qz0 , by decide +kernel⟩
theorem qe_0_52 : qEnt (0, 52, 11, 721) := ⟨qz4 (qt3 213 rfl rfl) (qt3 112 rfl rfl) (qt3 113 rfl rfl) (qt1 2 rfl rfl), qz0 , by decide +kernel⟩
theorem qe_0_55 : qEnt (0, 55, 11, 831) := ⟨qz4 (qt3 214 rfl rfl) (qt3 132 rfl rfl) (qt3 133 rfl rfl) (qt1 2 rfl rfl), qz0 , by decide +kernel⟩
theorem qe_0_58 : qEnt (0, 58, 11, 1021) := ⟨qz4 (qt3 215 rfl rfl) (qt3 149 rfl rfl) (qt3 150 rfl rfl) (qt1 2 rfl rfl), qz0 , by decide +kernel⟩
theorem qe_0_62 : qEnt (0, 62, 11, 921) := ⟨qz4 (qt3 216 rfl rfl) (qt3 141 rfl rfl) (qt3 142 rfl rfl) (qt1 2 rfl rfl), qz0 , by decide +kernel⟩
theorem qe_0_65 : qEnt (0, 65, 15, 13111) := ⟨qz2 (qt2 203 rfl rfl) (qt1 1 rfl rfl), qz1 (qtn 6 rfl), by decide +kernel⟩
theorem qe_0_69 : qEnt (0, 69, 1, 5012) := ⟨qz1 (qt1 44 rfl rfl), qz0 , by decide +kernel⟩
theorem qe_0_72 : qEnt (0, 72, 1, 5110) := ⟨qz1 (qt1 73 rfl rfl), qz0 , by decide +kernel⟩
theorem qe_0_75 : qEnt (0, 75, 1, 5022) := ⟨qz1 (qt1 47 rfl rfl), qz0 , by decide +kernel⟩
theorem qe_0_78 : qEnt (0, 78, 11, 1421) := ⟨qz4 (qt2 221 rfl rfl) (qt2 223 rfl rfl) (qtp 8 rfl rfl) (qt1 2 rfl rfl), qz0 , by decide +kernel⟩
theorem qe_0_81 : qEnt (0, 81, 1, 5032) := ⟨qz1 (qt1 51 rfl rfl), qz0 , by decide +kernel⟩
theorem qe_0_84 : qEnt (0, 84, 21, 0) := ⟨qz4 (qt2 225 rfl rfl) (qt2 47 rfl rfl) (qt1 10 rfl rfl) (qt2 48 rfl rfl), qz0 , by decide +kernel⟩
theorem qe_0_89 : qEnt (0, 89, 15, 13211) := ⟨qz2 (qt2 235 rfl rfl) (qt1 1 rfl rfl), qz1 (qtn 7 rfl), by decide +kernel⟩
theorem qe_0_92 : qEnt (0, 92, 15, 13411) := ⟨qz2 (qt2 238 rfl rfl) (qt1 1 rfl rfl), qz1 (qtn 8 rfl), by decide +kernel⟩
theorem qe_0_95 : qEnt (0, 95, 11, 6541) := ⟨qz4 (qt3 0 rfl rfl) (qt3 1 rfl rfl) (qt3 2 rfl rfl) (qt1 3 rfl rfl), qz0 , by decide +kernel⟩
theorem qe_0_99 : qEnt (0, 99, 1, 5082) := ⟨qz1 (qt1 66 rfl rfl), qz0 , by decide +kernel⟩
theorem qe_0_102 : qEnt (0, 102, 1, 5092) := ⟨qz1 (qt1 69 rfl rfl), qz0 , by decide +kernel⟩
theorem qe_0_105 : qEnt (0, 105, 11, 1841) := ⟨qz4 (qt3 19 rfl rfl) (qt3 21 rfl rfl) (qtp 9 rfl rfl) (qt1 2 rfl rfl), qz0 , by decide +kernel⟩
theorem qe_0_108 : qEnt (0, 108, 11, 5431) := ⟨qz4 (qt3 25 rfl rfl) (qt3 16 rfl rfl) (qt3 17 rfl rfl) (qt1 3 rfl rfl), qz0 , by decide +kernel⟩
theorem qe_0_111 : qEnt (0, 111, 11, 6231) := ⟨qz4 (qt3 43 rfl rfl) (qt3 44 rfl rfl) (qt3 45 rfl rfl) (qt1 3 rfl rfl), qz0 , by decide +kernel⟩
theorem qe_0_114 : qEnt (0, 114, 11, 5540) := ⟨qz4 (qt3 39 rfl rfl) (qt3 40 rfl rfl) (qt3 41 rfl rfl) (qt1 3 rfl rfl), qz0 , by decide +kernel⟩
theorem qe_0_118 : qEnt (0, 118, 11, 1730) := ⟨qz4 (qt3 64 rfl rfl) (qt3 66 rfl rfl) (qtp 13 rfl rfl) (qt1 2 rfl rfl), qz0 , by decide +kernel⟩
theorem qe_0_122 : qEnt (0, 122, 11, 5831) := ⟨qz4 (qt3 115 rfl rfl) (qt3 116 rfl rfl) (qt3 117 rfl rfl) (qt1 3 rfl rfl), qz0 , by decide +kernel⟩
theorem qe_0_125 : qEnt (0, 125, 11, 1320) := ⟨qz4 (qt3 119 rfl rfl) (qt3 120 rfl rfl) (qt3 121 rfl rfl) (qt1 2 rfl rfl), qz0 , by decide +kernel⟩
theorem qe_0_129 : qEnt (0, 129, 11, 1941) := ⟨qz4 (qt3 47 rfl rfl) (qt3 49 rfl rfl) (qtp 10 rfl rfl) (qt1 2 rfl rfl), qz0 , by decide +kernel⟩
theorem qe_0_132 : qEnt (0, 132, 1, 5120) := ⟨qz1 (qt1 76 rfl rfl), qz0 , by decide +kernel⟩
theorem qe_0_135 : qEnt (0, 135, 11, 1121) := ⟨qz4 (qt3 152 rfl rfl) (qt3 153 rfl rfl) (qt3 154 rfl rfl) (qt1 2 rfl rfl), qz0 , by decide +kernel⟩
theorem qe_0_138 : qEnt (0, 138, 1, 5042) := ⟨qz1 (qt1 56 rfl rfl), qz0 , by decide +kernel⟩
theorem qe_0_141 : qEnt (0, 141, 11, 2520) := ⟨qz4 (qt3 156 rfl rfl) (qt3 157 rfl rfl) (qt3 158 rfl rfl) (qt1 4 rfl rfl), qz0 , by decide +kernel⟩
theorem qe_0_145 : qEnt (0, 145, 11, 2811) := ⟨qz4 (qt3 164 rfl rfl) (qt3 165 rfl rfl) (qt3 166 rfl rfl) (qt1 4 rfl rfl), qz0 , by decide +kernel⟩
theorem qe_0_149 : qEnt (0, 149, 11, 2621) := ⟨qz4 (qt3 168 rfl rfl) (qt3 169 rfl rfl) (qt3 170 rfl rfl) (qt1 4 rfl rfl), qz0 , by decide +kernel⟩
theorem qe_0_152 : qEnt (0, 152, 11, 4741) := ⟨qz4 (qt3 172 rfl rfl) (qt3 173 rfl rfl) (qt3 174 rfl rfl) (qt1 8 rfl rfl), qz0 , by decide +kernel⟩
theorem qe_0_158 : qEnt (0, 158, 1, 5052) := ⟨qz1 (qt1 60 rfl rfl), qz0 , by decide +kernel⟩
theorem qe_0_161 : qEnt (0, 161, 1, 5002) := ⟨qz1 (qt1 42 rfl rfl), qz0 , by decide +kernel⟩
theorem qe_0_164 : qEnt (0, 164, 11, 1530) := ⟨qz4 (qt3 56 rfl rfl) (qt3 58 rfl rfl) (qtp 11 rfl rfl) (qt1 2 rfl rfl), qz0 , by decide +kernel⟩
theorem qe_0_167 : qEnt (0, 167, 11, 1631) := ⟨qz4 (qt3 60 rfl rfl) (qt3 62 rfl rfl) (qtp 12 rfl rfl) (qt1 2 rfl rfl), qz0 , by decide +kernel⟩
theorem qe_0_171 : qEnt (0, 171, 11, 7521) := ⟨qz4 (qt3 68 rfl rfl) (qt3 69 rfl rfl) (qt3 70 rfl rfl) (qt1 3 rfl rfl), qz0 , by decide +kernel⟩
theorem qe_0_174 : qEnt (0, 174, 1, 5062) := ⟨qz1 (qt1 62 rfl rfl), qz0 , by decide +kernel⟩
theorem qe_0_177 : qEnt (0, 177, 11, 6641) := ⟨qz4 (qt3 80 rfl rfl) (qt3 81 rfl rfl) (qt3 82 rfl rfl) (qt1 3 rfl rfl), qz0 , by decide +kernel⟩
theorem qe_0_180 : qEnt (0, 180, 11, 7820) := ⟨qz4 (qt3 84 rfl rfl) (qt3 85 rfl rfl) (qt3 86 rfl rfl) (qt1 3 rfl rfl), qz0 , by decide +kernel⟩
theorem qe_0_183 : qEnt (0, 183, 15, 13511) := ⟨qz2 (qt3 9 rfl rfl) (qt1 1 rfl rfl), qz1 (qtn 11 rfl), by decide +kernel⟩
theorem qe_0_186 : qEnt (0, 186, 15, 13621) := ⟨qz2 (qt3 12 rfl rfl) (qt1 1 rfl rfl), qz1 (qtn 12 rfl), by decide +kernel⟩
theorem qe_0_189 : qEnt (0, 189, 6, 2) := ⟨qz0 , qz1 (qtn 13 rfl), by decide +kernel⟩
theorem qe_0_192 : qEnt (0, 192, 15, 13731) := ⟨qz2 (qt3 28 rfl rfl) (qt1 1 rfl rfl), qz1 (qtn 14 rfl), by decide +kernel⟩
theorem qe_0_195 : qEnt (0, 195, 11, 6741) := ⟨qz4 (qt3 30 rfl rfl) (qt3 31 rfl rfl) (qt3 32 rfl rfl) (qt1 3 rfl rfl), qz0 , by decide +kernel⟩
theorem qe_0_198 : qEnt (0, 198, 11, 7740) := ⟨qz4 (qt3 35 rfl rfl) (qt3 36 rfl rfl) (qt3 37 rfl rfl) (qt1 3 rfl rfl), qz0 , by decide +kernel⟩
theorem qe_0_201 : qEnt (0, 201, 11, 6331) := ⟨qz4 (qt3 51 rfl rfl) (qt3 52 rfl rfl) (qt3 53 rfl rfl) (qt1 3 rfl rfl), qz0 , by decide +kernel⟩
def qcps_0_0 : List (Nat × Nat × Int) := [(3, 17, 0), (9, 9, 513), (11, 13, 5210), (12, 1, 2), (18, 9, 204), (20, 16, 2410), (21, 1, 12), (25, 1, 22), (29, 1, 32), (32, 1, 40), (36, 2, 1103515245), (37, 11, 321), (41, 11, 431), (45, 11, 541), (49, 11, 631), (52, 11, 721), (55, 11, 831), (58, 11, 1021), (62, 11, 921), (65, 15, 13111)]
theorem qcps_0_0_ok : ∀ e ∈ qcps_0_0, qEnt (0, e) := List.forall_mem_cons.mpr ⟨qe_0_3, List.forall_mem_cons.mpr ⟨qe_0_9, List.forall_mem_cons.mpr ⟨qe_0_11, List.forall_mem_cons.mpr ⟨qe_0_12, List.forall_mem_cons.mpr ⟨qe_0_18, List.forall_mem_cons.mpr ⟨qe_0_20, List.forall_mem_cons.mpr ⟨qe_0_21, List.forall_mem_cons.mpr ⟨qe_0_25, List.forall_mem_cons.mpr ⟨qe_0_29, List.forall_mem_cons.mpr ⟨qe_0_32, List.forall_mem_cons.mpr ⟨qe_0_36, List.forall_mem_cons.mpr ⟨qe_0_37, List.forall_mem_cons.mpr ⟨qe_0_41, List.forall_mem_cons.mpr ⟨qe_0_45, List.forall_mem_cons.mpr ⟨qe_0_49, List.forall_mem_cons.mpr ⟨qe_0_52, List.forall_mem_cons.mpr ⟨qe_0_55, List.forall_mem_cons.mpr ⟨qe_0_58, List.forall_mem_cons.mpr ⟨qe_0_62, List.forall_mem_cons.mpr ⟨qe_0_65, (fun _ h => absurd h List.not_mem_nil)⟩⟩⟩⟩⟩⟩⟩⟩⟩⟩⟩⟩⟩⟩⟩⟩⟩⟩⟩⟩
def qcps_0_1 : List (Nat × Nat × Int) := [(69, 1, 5012), (72, 1, 5110), (75, 1, 5022), (78, 11, 1421), (81, 1, 5032), (84, 21, 0), (89, 15, 13211), (92, 15, 13411), (95, 11, 6541), (99, 1, 5082), (102, 1, 5092), (105, 11, 1841), (108, 11, 5431), (111, 11, 6231), (114, 11, 5540), (118, 11, 1730), (122, 11, 5831), (125, 11, 1320), (129, 11, 1941), (132, 1, 5120)]
theorem qcps_0_1_ok : ∀ e ∈ qcps_0_1, qEnt (0, e) := List.forall_mem_cons.mpr ⟨qe_0_69, List.forall_mem_cons.mpr ⟨qe_0_72, List.forall_mem_cons.mpr ⟨qe_0_75, List.forall_mem_cons.mpr ⟨qe_0_78, List.forall_mem_cons.mpr ⟨qe_0_81, List.forall_mem_cons.mpr ⟨qe_0_84, List.forall_mem_cons.mpr ⟨qe_0_89, List.forall_mem_cons.mpr ⟨qe_0_92, List.forall_mem_cons.mpr ⟨qe_0_95, List.forall_mem_cons.mpr ⟨qe_0_99, List.forall_mem_cons.mpr ⟨qe_0_102, List.forall_mem_cons.mpr ⟨qe_0_105, List.forall_mem_cons.mpr ⟨qe_0_108, List.forall_mem_cons.mpr ⟨qe_0_111, List.forall_mem_cons.mpr ⟨qe_0_114, List.forall_mem_cons.mpr ⟨qe_0_118, List.forall_mem_cons.mpr ⟨qe_0_122, List.forall_mem_cons.mpr ⟨qe_0_125, List.forall_mem_cons.mpr ⟨qe_0_129, List.forall_mem_cons.mpr ⟨qe_0_132, (fun _ h => absurd h List.not_mem_nil)⟩⟩⟩⟩⟩⟩⟩⟩⟩⟩⟩⟩⟩⟩⟩⟩⟩⟩⟩⟩
def qcps_0_2 : List (Nat × Nat × Int) := [(135, 11, 1121), (138, 1, 5042), (141, 11, 2520), (145, 11, 2811), (149, 11, 2621), (152, 11, 4741), (158, 1, 5052), (161, 1, 5002), (164, 11, 1530), (167, 11, 1631), (171, 11, 7521), (174, 1, 5062), (177, 11, 6641), (180, 11, 7820), (183, 15, 13511), (186, 15, 13621), (189, 6, 2), (192, 15, 13731), (195, 11, 6741), (198, 11, 7740)]
theorem qcps_0_2_ok : ∀ e ∈ qcps_0_2, qEnt (0, e) := List.forall_mem_cons.mpr ⟨qe_0_135, List.forall_mem_cons.mpr ⟨qe_0_138, List.forall_mem_cons.mpr ⟨qe_0_141, List.forall_mem_cons.mpr ⟨qe_0_145, List.forall_mem_cons.mpr ⟨qe_0_149, List.forall_mem_cons.mpr ⟨qe_0_152, List.forall_mem_cons.mpr ⟨qe_0_158, List.forall_mem_cons.mpr ⟨qe_0_161, List.forall_mem_cons.mpr ⟨qe_0_164, List.forall_mem_cons.mpr ⟨qe_0_167, List.forall_mem_cons.mpr ⟨qe_0_171, List.forall_mem_cons.mpr ⟨qe_0_174, List.forall_mem_cons.mpr ⟨qe_0_177, List.forall_mem_cons.mpr ⟨qe_0_180, List.forall_mem_cons.mpr ⟨qe_0_183, List.forall_mem_cons.mpr ⟨qe_0_186, List.forall_mem_cons.mpr ⟨qe_0_189, List.forall_mem_cons.mpr ⟨qe_0_192, List.forall_mem_cons.mpr ⟨qe_0_195, List.forall_mem_cons.mpr ⟨qe_0_198, (fun _ h => absurd h List.not_mem_nil)⟩⟩⟩⟩⟩⟩⟩⟩⟩⟩⟩⟩⟩⟩⟩⟩⟩⟩⟩⟩
def qcps_0_3 : List (Nat × Nat × Int) := [(201, 11, 6331)]
theorem qcps_0_3_ok : ∀ e ∈ qcps_0_3, qEnt (0, e) := List.forall_mem_cons.mpr ⟨qe_0_201, (fun _ h => absurd h List.not_mem_nil)⟩
theorem qcps_0_ok : ∀ e ∈ qcps_0, qEnt (0, e) := by
  rw [show qcps_0 = qcps_0_0 ++ (qcps_0_1 ++ (qcps_0_2 ++ (qcps_0_3))) from rfl]
  exact List.forall_mem_append.mpr ⟨qcps_0_0_ok, List.forall_mem_append.mpr ⟨qcps_0_1_ok, List.forall_mem_append.mpr ⟨qcps_0_2_ok, qcps_0_3_ok⟩⟩⟩
theorem qe_1_3 : qEnt (1, 3, 17, 0) := ⟨qz3 (qt1 151 rfl rfl) (qt1 27 rfl rfl) (qt1 28 rfl rfl), qz0 , by decide +kernel⟩
theorem qe_1_11 : qEnt (1, 11, 9, 513) := ⟨qz3 (qt1 152 rfl rfl) (qt1 36 rfl rfl) (qt1 3 rfl rfl), qz0 , by decide +kernel⟩
theorem qe_1_13 : qEnt (1, 13, 1, 1002) := ⟨qz1 (qt1 155 rfl rfl), qz0 , by decide +kernel⟩
theorem qe_1_17 : qEnt (1, 17, 13, 5210) := ⟨qz3 (qt1 154 rfl rfl) (qt1 38 rfl rfl) (qt1 3 rfl rfl), qz0 , by decide +kernel⟩
theorem qe_1_18 : qEnt (1, 18, 1, 1010) := ⟨qz1 (qt1 156 rfl rfl), qz0 , by decide +kernel⟩
theorem qe_1_22 : qEnt (1, 22, 1, 1020) := ⟨qz1 (qt1 157 rfl rfl), qz0 , by decide +kernel⟩
theorem qe_1_25 : qEnt (1, 25, 11, 5320) := ⟨qz4 (qt2 193 rfl rfl) (qt2 194 rfl rfl) (qt2 195 rfl rfl) (qt1 3 rfl rfl), qz0 , by decide +kernel⟩
def qcps_1_0 : List (Nat × Nat × Int) := [(3, 17, 0), (11, 9, 513), (13, 1, 1002), (17, 13, 5210), (18, 1, 1010), (22, 1, 1020), (25, 11, 5320)]
theorem qcps_1_0_ok : ∀ e ∈ qcps_1_0, qEnt (1, e) := List.forall_mem_cons.mpr ⟨qe_1_3, List.forall_mem_cons.mpr ⟨qe_1_11, List.forall_mem_cons.mpr ⟨qe_1_13, List.forall_mem_cons.mpr ⟨qe_1_17, List.forall_mem_cons.mpr ⟨qe_1_18, List.forall_mem_cons.mpr ⟨qe_1_22, List.forall_mem_cons.mpr ⟨qe_1_25, (fun _ h => absurd h List.not_mem_nil)⟩⟩⟩⟩⟩⟩⟩
theorem qcps_1_ok : ∀ e ∈ qcps_1, qEnt (1, e) := by
  rw [show qcps_1 = qcps_1_0 from rfl]
  exact qcps_1_0_ok
theorem qe_2_3 : qEnt (2, 3, 17, 0) := ⟨qz3 (qt1 111 rfl rfl) (qt1 27 rfl rfl) (qt1 28 rfl rfl), qz0 , by decide +kernel⟩
theorem qe_2_9 : qEnt (2, 9, 1, 2002) := ⟨qz1 (qt1 112 rfl rfl), qz0 , by decide +kernel⟩
theorem qe_2_15 : qEnt (2, 15, 1, 2012) := ⟨qz1 (qt1 113 rfl rfl), qz0 , by decide +kernel⟩
theorem qe_2_18 : qEnt (2, 18, 1, 2022) := ⟨qz1 (qt1 114 rfl rfl), qz0 , by decide +kernel⟩
theorem qe_2_21 : qEnt (2, 21, 1, 2032) := ⟨qz1 (qt1 115 rfl rfl), qz0 , by decide +kernel⟩
theorem qe_2_24 : qEnt (2, 24, 11, 7621) := ⟨qz4 (qt3 160 rfl rfl) (qt3 161 rfl rfl) (qt3 162 rfl rfl) (qt1 3 rfl rfl), qz0 , by decide +kernel⟩
theorem qe_2_30 : qEnt (2, 30, 11, 3020) := ⟨qz4 (qt4 67 rfl rfl) (qt4 69 rfl rfl) (qtp 14 rfl rfl) (qt1 4 rfl rfl), qz0 , by decide +kernel⟩
theorem qe_2_34 : qEnt (2, 34, 11, 3131) := ⟨qz4 (qt4 71 rfl rfl) (qt4 73 rfl rfl) (qtp 15 rfl rfl) (qt1 4 rfl rfl), qz0 , by decide +kernel⟩
def qcps_2_0 : List (Nat × Nat × Int) := [(3, 17, 0), (9, 1, 2002), (15, 1, 2012), (18, 1, 2022), (21, 1, 2032), (24, 11, 7621), (30, 11, 3020), (34, 11, 3131)]
theorem qcps_2_0_ok : ∀ e ∈ qcps_2_0, qEnt (2, e) := List.forall_mem_cons.mpr ⟨qe_2_3, List.forall_mem_cons.mpr ⟨qe_2_9, List.forall_mem_cons.mpr ⟨qe_2_15, List.forall_mem_cons.mpr ⟨qe_2_18, List.forall_mem_cons.mpr ⟨qe_2_21, List.forall_mem_cons.mpr ⟨qe_2_24, List.forall_mem_cons.mpr ⟨qe_2_30, List.forall_mem_cons.mpr ⟨qe_2_34, (fun _ h => absurd h List.not_mem_nil)⟩⟩⟩⟩⟩⟩⟩⟩
theorem qcps_2_ok : ∀ e ∈ qcps_2, qEnt (2, e) := by
  rw [show qcps_2 = qcps_2_0 from rfl]
  exact qcps_2_0_ok
theorem qe_3_3 : qEnt (3, 3, 17, 0) := ⟨qz3 (qt1 190 rfl rfl) (qt1 27 rfl rfl) (qt1 28 rfl rfl), qz0 , by decide +kernel⟩
theorem qe_3_9 : qEnt (3, 9, 1, 3002) := ⟨qz1 (qt1 191 rfl rfl), qz0 , by decide +kernel⟩
theorem qe_3_15 : qEnt (3, 15, 1, 3010) := ⟨qz1 (qt1 193 rfl rfl), qz0 , by decide +kernel⟩
theorem qe_3_19 : qEnt (3, 19, 11, 3320) := ⟨qz4 (qt2 112 rfl rfl) (qt2 113 rfl rfl) (qt2 114 rfl rfl) (qt1 7 rfl rfl), qz0 , by decide +kernel⟩
def qcps_3_0 : List (Nat × Nat × Int) := [(3, 17, 0), (9, 1, 3002), (15, 1, 3010), (19, 11, 3320)]
theorem qcps_3_0_ok : ∀ e ∈ qcps_3_0, qEnt (3, e) := List.forall_mem_cons.mpr ⟨qe_3_3, List.forall_mem_cons.mpr ⟨qe_3_9, List.forall_mem_cons.mpr ⟨qe_3_15, List.forall_mem_cons.mpr ⟨qe_3_19, (fun _ h => absurd h List.not_mem_nil)⟩⟩⟩⟩
theorem qcps_3_ok : ∀ e ∈ qcps_3, qEnt (3, e) := by
  rw [show qcps_3 = qcps_3_0 from rfl]
  exact qcps_3_0_ok
theorem qe_4_3 : qEnt (4, 3, 17, 0) := ⟨qz3 (qt1 206 rfl rfl) (qt1 27 rfl rfl) (qt1 28 rfl rfl), qz0 , by decide +kernel⟩
theorem qe_4_9 : qEnt (4, 9, 1, 4002) := ⟨qz1 (qt1 207 rfl rfl), qz0 , by decide +kernel⟩
theorem qe_4_15 : qEnt (4, 15, 1, 4012) := ⟨qz1 (qt1 208 rfl rfl), qz0 , by decide +kernel⟩
theorem qe_4_18 : qEnt (4, 18, 1, 4022) := ⟨qz1 (qt1 209 rfl rfl), qz0 , by decide +kernel⟩
theorem qe_4_21 : qEnt (4, 21, 18, 0) := ⟨qz4 (qt2 94 rfl rfl) (qt2 96 rfl rfl) (qt2 95 rfl rfl) (qt1 11 rfl rfl), qz0 , by decide +kernel⟩
theorem qe_4_27 : qEnt (4, 27, 1, 4030) := ⟨qz1 (qt1 210 rfl rfl), qz0 , by decide +kernel⟩
theorem qe_4_31 : qEnt (4, 31, 1, 4040) := ⟨qz1 (qt1 211 rfl rfl), qz0 , by decide +kernel⟩
theorem qe_4_34 : qEnt (4, 34, 1, 4050) := ⟨qz1 (qt1 212 rfl rfl), qz0 , by decide +kernel⟩
theorem qe_4_37 : qEnt (4, 37, 1, 4060) := ⟨qz1 (qt1 213 rfl rfl), qz0 , by decide +kernel⟩
theorem qe_4_40 : qEnt (4, 40, 1, 4070) := ⟨qz1 (qt1 214 rfl rfl), qz0 , by decide +kernel⟩
theorem qe_4_43 : qEnt (4, 43, 1, 4083) := ⟨qz1 (qt1 215 rfl rfl), qz0 , by decide +kernel⟩
theorem qe_4_47 : qEnt (4, 47, 1, 6010) := ⟨qz1 (qt1 177 rfl rfl), qz0 , by decide +kernel⟩
theorem qe_4_50 : qEnt (4, 50, 21, 0) := ⟨qz4 (qt2 46 rfl rfl) (qt2 47 rfl rfl) (qt1 10 rfl rfl) (qt2 48 rfl rfl), qz0 , by decide +kernel⟩
theorem qe_4_56 : qEnt (4, 56, 11, 8121) := ⟨qz4 (qt2 49 rfl rfl) (qt2 50 rfl rfl) (qt2 51 rfl rfl) (qt1 6 rfl rfl), qz0 , by decide +kernel⟩
theorem qe_4_60 : qEnt (4, 60, 11, 4121) := ⟨qz4 (qt2 53 rfl rfl) (qt2 55 rfl rfl) (qtp 0 rfl rfl) (qt1 8 rfl rfl), qz0 , by decide +kernel⟩
theorem qe_4_64 : qEnt (4, 64, 11, 4021) := ⟨qz4 (qt2 83 rfl rfl) (qt2 85 rfl rfl) (qtp 6 rfl rfl) (qt1 8 rfl rfl), qz0 , by decide +kernel⟩
theorem qe_4_67 : qEnt (4, 67, 11, 4420) := ⟨qz4 (qt2 68 rfl rfl) (qt2 70 rfl rfl) (qtp 3 rfl rfl) (qt1 8 rfl rfl), qz0 , by decide +kernel⟩
theorem qe_4_71 : qEnt (4, 71, 11, 4520) := ⟨qz4 (qt2 79 rfl rfl) (qt2 81 rfl rfl) (qtp 5 rfl rfl) (qt1 8 rfl rfl), qz0 , by decide +kernel⟩
theorem qe_4_74 : qEnt (4, 74, 15, 13811) := ⟨qz2 (qt2 58 rfl rfl) (qt1 1 rfl rfl), qz1 (qtn 5 rfl), by decide +kernel⟩
theorem qe_4_77 : qEnt (4, 77, 12, 5111) := ⟨qz3 (qt2 87 rfl rfl) (qt2 88 rfl rfl) (qt1 8 rfl rfl), qz0 , by decide +kernel⟩
theorem qe_4_80 : qEnt (4, 80, 11, 4620) := ⟨qz4 (qt2 75 rfl rfl) (qt2 77 rfl rfl) (qtp 4 rfl rfl) (qt1 8 rfl rfl), qz0 , by decide +kernel⟩
theorem qe_4_83 : qEnt (4, 83, 11, 4221) := ⟨qz4 (qt2 60 rfl rfl) (qt2 62 rfl rfl) (qtp 1 rfl rfl) (qt1 8 rfl rfl), qz0 , by decide +kernel⟩
theorem qe_4_86 : qEnt (4, 86, 11, 4311) := ⟨qz4 (qt2 64 rfl rfl) (qt2 66 rfl rfl) (qtp 2 rfl rfl) (qt1 8 rfl rfl), qz0 , by decide +kernel⟩
theorem qe_4_90 : qEnt (4, 90, 12, 5011) := ⟨qz3 (qt2 72 rfl rfl) (qt2 73 rfl rfl) (qt1 8 rfl rfl), qz0 , by decide +kernel⟩
theorem qe_4_93 : qEnt (4, 93, 1, 5032) := ⟨qz1 (qt1 53 rfl rfl), qz0 , by decide +kernel⟩
theorem qe_4_98 : qEnt (4, 98, 11, 5831) := ⟨qz4 (qt3 176 rfl rfl) (qt3 116 rfl rfl) (qt3 117 rfl rfl) (qt1 3 rfl rfl), qz0 , by decide +kernel⟩
theorem qe_4_101 : qEnt (4, 101, 12, 4931) := ⟨qz3 (qt3 177 rfl rfl) (qt3 178 rfl rfl) (qt1 8 rfl rfl), qz0 , by decide +kernel⟩
theorem qe_4_105 : qEnt (4, 105, 12, 4841) := ⟨qz3 (qt3 180 rfl rfl) (qt3 181 rfl rfl) (qt1 8 rfl rfl), qz0 , by decide +kernel⟩
theorem qe_4_109 : qEnt (4, 109, 1, 5022) := ⟨qz1 (qt1 49 rfl rfl), qz0 , by decide +kernel⟩
theorem qe_4_112 : qEnt (4, 112, 1, 5042) := ⟨qz1 (qt1 57 rfl rfl), qz0 , by decide +kernel⟩
def qcps_4_0 : List (Nat × Nat × Int) := [(3, 17, 0), (9, 1, 4002), (15, 1, 4012), (18, 1, 4022), (21, 18, 0), (27, 1, 4030), (31, 1, 4040), (34, 1, 4050), (37, 1, 4060), (40, 1, 4070), (43, 1, 4083), (47, 1, 6010), (50, 21, 0), (56, 11, 8121), (60, 11, 4121), (64, 11, 4021), (67, 11, 4420), (71, 11, 4520), (74, 15, 13811), (77, 12, 5111)]
theorem qcps_4_0_ok : ∀ e ∈ qcps_4_0, qEnt (4, e) := List.forall_mem_cons.mpr ⟨qe_4_3, List.forall_mem_cons.mpr ⟨qe_4_9, List.forall_mem_cons.mpr ⟨qe_4_15, List.forall_mem_cons.mpr ⟨qe_4_18, List.forall_mem_cons.mpr ⟨qe_4_21, List.forall_mem_cons.mpr ⟨qe_4_27, List.forall_mem_cons.mpr ⟨qe_4_31, List.forall_mem_cons.mpr ⟨qe_4_34, List.forall_mem_cons.mpr ⟨qe_4_37, List.forall_mem_cons.mpr ⟨qe_4_40, List.forall_mem_cons.mpr ⟨qe_4_43, List.forall_mem_cons.mpr ⟨qe_4_47, List.forall_mem_cons.mpr ⟨qe_4_50, List.forall_mem_cons.mpr ⟨qe_4_56, List.forall_mem_cons.mpr ⟨qe_4_60, List.forall_mem_cons.mpr ⟨qe_4_64, List.forall_mem_cons.mpr ⟨qe_4_67, List.forall_mem_cons.mpr ⟨qe_4_71, List.forall_mem_cons.mpr ⟨qe_4_74, List.forall_mem_cons.mpr ⟨qe_4_77, (fun _ h => absurd h List.not_mem_nil)⟩⟩⟩⟩⟩⟩⟩⟩⟩⟩⟩⟩⟩⟩⟩⟩⟩⟩⟩⟩
def qcps_4_1 : List (Nat × Nat × Int) := [(80, 11, 4620), (83, 11, 4221), (86, 11, 4311), (90, 12, 5011), (93, 1, 5032), (98, 11, 5831), (101, 12, 4931), (105, 12, 4841), (109, 1, 5022), (112, 1, 5042)]
theorem qcps_4_1_ok : ∀ e ∈ qcps_4_1, qEnt (4, e) := List.forall_mem_cons.mpr ⟨qe_4_80, List.forall_mem_cons.mpr ⟨qe_4_83, List.forall_mem_cons.mpr ⟨qe_4_86, List.forall_mem_cons.mpr ⟨qe_4_90, List.forall_mem_cons.mpr ⟨qe_4_93, List.forall_mem_cons.mpr ⟨qe_4_98, List.forall_mem_cons.mpr ⟨qe_4_101, List.forall_mem_cons.mpr ⟨qe_4_105, List.forall_mem_cons.mpr ⟨qe_4_109, List.forall_mem_cons.mpr ⟨qe_4_112, (fun _ h => absurd h List.not_mem_nil)⟩⟩⟩⟩⟩⟩⟩⟩⟩⟩
theorem qcps_4_ok : ∀ e ∈ qcps_4, qEnt (4, e) := by
  rw [show qcps_4 = qcps_4_0 ++ (qcps_4_1) from rfl]
  exact List.forall_mem_append.mpr ⟨qcps_4_0_ok, qcps_4_1_ok⟩
theorem qe_5_3 : qEnt (5, 3, 17, 0) := ⟨qz3 (qt1 40 rfl rfl) (qt1 27 rfl rfl) (qt1 28 rfl rfl), qz0 , by decide +kernel⟩
theorem qe_5_9 : qEnt (5, 9, 1, 5002) := ⟨qz1 (qt1 41 rfl rfl), qz0 , by decide +kernel⟩
theorem qe_5_15 : qEnt (5, 15, 1, 5012) := ⟨qz1 (qt1 43 rfl rfl), qz0 , by decide +kernel⟩
theorem qe_5_18 : qEnt (5, 18, 1, 5022) := ⟨qz1 (qt1 46 rfl rfl), qz0 , by decide +kernel⟩
theorem qe_5_21 : qEnt (5, 21, 1, 5032) := ⟨qz1 (qt1 50 rfl rfl), qz0 , by decide +kernel⟩
theorem qe_5_24 : qEnt (5, 24, 1, 5042) := ⟨qz1 (qt1 54 rfl rfl), qz0 , by decide +kernel⟩
theorem qe_5_27 : qEnt (5, 27, 1, 5052) := ⟨qz1 (qt1 58 rfl rfl), qz0 , by decide +kernel⟩
theorem qe_5_30 : qEnt (5, 30, 1, 5062) := ⟨qz1 (qt1 61 rfl rfl), qz0 , by decide +kernel⟩
theorem qe_5_33 : qEnt (5, 33, 1, 5072) := ⟨qz1 (qt1 64 rfl rfl), qz0 , by decide +kernel⟩
theorem qe_5_36 : qEnt (5, 36, 1, 5082) := ⟨qz1 (qt1 65 rfl rfl), qz0 , by decide +kernel⟩
theorem qe_5_39 : qEnt (5, 39, 1, 5092) := ⟨qz1 (qt1 68 rfl rfl), qz0 , by decide +kernel⟩
theorem qe_5_42 : qEnt (5, 42, 1, 5120) := ⟨qz1 (qt1 75 rfl rfl), qz0 , by decide +kernel⟩
theorem qe_5_46 : qEnt (5, 46, 18, 0) := ⟨qz4 (qt2 197 rfl rfl) (qt2 96 rfl rfl) (qt2 95 rfl rfl) (qt1 11 rfl rfl), qz0 , by decide +kernel⟩
theorem qe_5_52 : qEnt (5, 52, 1, 5100) := ⟨qz1 (qt1 71 rfl rfl), qz0 , by decide +kernel⟩
theorem qe_5_55 : qEnt (5, 55, 1, 5110) := ⟨qz1 (qt1 72 rfl rfl), qz0 , by decide +kernel⟩
theorem qe_5_58 : qEnt (5, 58, 11, 5431) := ⟨qz4 (qt3 15 rfl rfl) (qt3 16 rfl rfl) (qt3 17 rfl rfl) (qt1 3 rfl rfl), qz0 , by decide +kernel⟩
theorem qe_5_62 : qEnt (5, 62, 11, 5831) := ⟨qz4 (qt4 169 rfl rfl) (qt3 116 rfl rfl) (qt3 117 rfl rfl) (qt1 3 rfl rfl), qz0 , by decide +kernel⟩
theorem qe_5_65 : qEnt (5, 65, 6, 2) := ⟨qz0 , qz1 (qtn 16 rfl), by decide +kernel⟩
theorem qe_5_68 : qEnt (5, 68, 15, 13511) := ⟨qz2 (qt3 9 rfl rfl) (qt1 1 rfl rfl), qz1 (qtn 9 rfl), by decide +kernel⟩
theorem qe_5_72 : qEnt (5, 72, 15, 13621) := ⟨qz2 (qt3 12 rfl rfl) (qt1 1 rfl rfl), qz1 (qtn 10 rfl), by decide +kernel⟩
theorem qe_5_75 : qEnt (5, 75, 11, 6441) := ⟨qz4 (qt3 4 rfl rfl) (qt3 5 rfl rfl) (qt3 6 rfl rfl) (qt1 3 rfl rfl), qz0 , by decide +kernel⟩
theorem qe_5_79 : qEnt (5, 79, 6, 0) := ⟨qz0 , qz1 (qtn 15 rfl), by decide +kernel⟩
theorem qe_5_82 : qEnt (5, 82, 15, 13731) := ⟨qz2 (qt3 28 rfl rfl) (qt1 1 rfl rfl), qz1 (qtn 18 rfl), by decide +kernel⟩
theorem qe_5_85 : qEnt (5, 85, 11, 6741) := ⟨qz4 (qt4 29 rfl rfl) (qt3 31 rfl rfl) (qt3 32 rfl rfl) (qt1 3 rfl rfl), qz0 , by decide +kernel⟩
theorem qe_5_89 : qEnt (5, 89, 11, 7221) := ⟨qz4 (qt3 76 rfl rfl) (qt3 77 rfl rfl) (qt3 78 rfl rfl) (qt1 3 rfl rfl), qz0 , by decide +kernel⟩
theorem qe_5_93 : qEnt (5, 93, 11, 7331) := ⟨qz4 (qt3 72 rfl rfl) (qt3 73 rfl rfl) (qt3 74 rfl rfl) (qt1 3 rfl rfl), qz0 , by decide +kernel⟩
theorem qe_5_97 : qEnt (5, 97, 11, 5540) := ⟨qz4 (qt3 88 rfl rfl) (qt3 40 rfl rfl) (qt3 41 rfl rfl) (qt1 3 rfl rfl), qz0 , by decide +kernel⟩
def qcps_5_0 : List (Nat × Nat × Int) := [(3, 17, 0), (9, 1, 5002), (15, 1, 5012), (18, 1, 5022), (21, 1, 5032), (24, 1, 5042), (27, 1, 5052), (30, 1, 5062), (33, 1, 5072), (36, 1, 5082), (39, 1, 5092), (42, 1, 5120), (46, 18, 0), (52, 1, 5100), (55, 1, 5110), (58, 11, 5431), (62, 11, 5831), (65, 6, 2), (68, 15, 13511), (72, 15, 13621)]
theorem qcps_5_0_ok : ∀ e ∈ qcps_5_0, qEnt (5, e) := List.forall_mem_cons.mpr ⟨qe_5_3, List.forall_mem_cons.mpr ⟨qe_5_9, List.forall_mem_cons.mpr ⟨qe_5_15, List.forall_mem_cons.mpr ⟨qe_5_18, List.forall_mem_cons.mpr ⟨qe_5_21, List.forall_mem_cons.mpr ⟨qe_5_24, List.forall_mem_cons.mpr ⟨qe_5_27, List.forall_mem_cons.mpr ⟨qe_5_30, List.forall_mem_cons.mpr ⟨qe_5_33, List.forall_mem_cons.mpr ⟨qe_5_36, List.forall_mem_cons.mpr ⟨qe_5_39, List.forall_mem_cons.mpr ⟨qe_5_42, List.forall_mem_cons.mpr ⟨qe_5_46, List.forall_mem_cons.mpr ⟨qe_5_52, List.forall_mem_cons.mpr ⟨qe_5_55, List.forall_mem_cons.mpr ⟨qe_5_58, List.forall_mem_cons.mpr ⟨qe_5_62, List.forall_mem_cons.mpr ⟨qe_5_65, List.forall_mem_cons.mpr ⟨qe_5_68, List.forall_mem_cons.mpr ⟨qe_5_72, (fun _ h => absurd h List.not_mem_nil)⟩⟩⟩⟩⟩⟩⟩⟩⟩⟩⟩⟩⟩⟩⟩⟩⟩⟩⟩⟩
def qcps_5_1 : List (Nat × Nat × Int) := [(75, 11, 6441), (79, 6, 0), (82, 15, 13731), (85, 11, 6741), (89, 11, 7221), (93, 11, 7331), (97, 11, 5540)]
theorem qcps_5_1_ok : ∀ e ∈ qcps_5_1, qEnt (5, e) := List.forall_mem_cons.mpr ⟨qe_5_75, List.forall_mem_cons.mpr ⟨qe_5_79, List.forall_mem_cons.mpr ⟨qe_5_82, List.forall_mem_cons.mpr ⟨qe_5_85, List.forall_mem_cons.mpr ⟨qe_5_89, List.forall_mem_cons.mpr ⟨qe_5_93, List.forall_mem_cons.mpr ⟨qe_5_97, (fun _ h => absurd h List.not_mem_nil)⟩⟩⟩⟩⟩⟩⟩
theorem qcps_5_ok : ∀ e ∈ qcps_5, qEnt (5, e) := by
  rw [show qcps_5 = qcps_5_0 ++ (qcps_5_1) from rfl]
  exact List.forall_mem_append.mpr ⟨qcps_5_0_ok, qcps_5_1_ok⟩
theorem qe_6_3 : qEnt (6, 3, 17, 0) := ⟨qz3 (qt1 173 rfl rfl) (qt1 27 rfl rfl) (qt1 28 rfl rfl), qz0 , by decide +kernel⟩
theorem qe_6_9 : qEnt (6, 9, 1, 6002) := ⟨qz1 (qt1 174 rfl rfl), qz0 , by decide +kernel⟩
theorem qe_6_15 : qEnt (6, 15, 1, 6010) := ⟨qz1 (qt1 175 rfl rfl), qz0 , by decide +kernel⟩
theorem qe_6_19 : qEnt (6, 19, 11, 8121) := ⟨qz4 (qt3 204 rfl rfl) (qt2 50 rfl rfl) (qt2 51 rfl rfl) (qt1 6 rfl rfl), qz0 , by decide +kernel⟩
theorem qe_6_23 : qEnt (6, 23, 15, 13811) := ⟨qz2 (qt2 58 rfl rfl) (qt1 1 rfl rfl), qz1 (qtn 17 rfl), by decide +kernel⟩
theorem qe_6_27 : qEnt (6, 27, 11, 26811) := ⟨qz4 (qt2 131 rfl rfl) (qt2 132 rfl rfl) (qt2 133 rfl rfl) (qt1 12 rfl rfl), qz0 , by decide +kernel⟩
theorem qe_6_33 : qEnt (6, 33, 11, 26921) := ⟨qz4 (qt2 141 rfl rfl) (qt2 142 rfl rfl) (qt2 143 rfl rfl) (qt1 12 rfl rfl), qz0 , by decide +kernel⟩
theorem qe_6_37 : qEnt (6, 37, 4, 10) := ⟨qz0 , qz0 , by decide +kernel⟩
theorem qe_6_39 : qEnt (6, 39, 11, 8321) := ⟨qz4 (qt2 127 rfl rfl) (qt2 128 rfl rfl) (qt2 129 rfl rfl) (qt1 6 rfl rfl), qz0 , by decide +kernel⟩
theorem qe_6_43 : qEnt (6, 43, 4, 11) := ⟨qz0 , qz0 , by decide +kernel⟩
theorem qe_6_45 : qEnt (6, 45, 4, 12) := ⟨qz0 , qz0 , by decide +kernel⟩
theorem qe_6_47 : qEnt (6, 47, 4, 13) := ⟨qz0 , qz0 , by decide +kernel⟩
theorem qe_6_49 : qEnt (6, 49, 4, 14) := ⟨qz0 , qz0 , by decide +kernel⟩
theorem qe_6_51 : qEnt (6, 51, 4, 15) := ⟨qz0 , qz0 , by decide +kernel⟩
theorem qe_6_53 : qEnt (6, 53, 12, 8611) := ⟨qz3 (qt3 196 rfl rfl) (qt3 197 rfl rfl) (qt1 6 rfl rfl), qz0 , by decide +kernel⟩
def qcps_6_0 : List (Nat × Nat × Int) := [(3, 17, 0), (9, 1, 6002), (15, 1, 6010), (19, 11, 8121), (23, 15, 13811), (27, 11, 26811), (33, 11, 26921), (37, 4, 10), (39, 11, 8321), (43, 4, 11), (45, 4, 12), (47, 4, 13), (49, 4, 14), (51, 4, 15), (53, 12, 8611)]
theorem qcps_6_0_ok : ∀ e ∈ qcps_6_0, qEnt (6, e) := List.forall_mem_cons.mpr ⟨qe_6_3, List.forall_mem_cons.mpr ⟨qe_6_9, List.forall_mem_cons.mpr ⟨qe_6_15, List.forall_mem_cons.mpr ⟨qe_6_19, List.forall_mem_cons.mpr ⟨qe_6_23, List.forall_mem_cons.mpr ⟨qe_6_27, List.forall_mem_cons.mpr ⟨qe_6_33, List.forall_mem_cons.mpr ⟨qe_6_37, List.forall_mem_cons.mpr ⟨qe_6_39, List.forall_mem_cons.mpr ⟨qe_6_43, List.forall_mem_cons.mpr ⟨qe_6_45, List.forall_mem_cons.mpr ⟨qe_6_47, List.forall_mem_cons.mpr ⟨qe_6_49, List.forall_mem_cons.mpr ⟨qe_6_51, List.forall_mem_cons.mpr ⟨qe_6_53, (fun _ h => absurd h List.not_mem_nil)⟩⟩⟩⟩⟩⟩⟩⟩⟩⟩⟩⟩⟩⟩⟩
theorem qcps_6_ok : ∀ e ∈ qcps_6, qEnt (6, e) := by
  rw [show qcps_6 = qcps_6_0 from rfl]
  exact qcps_6_0_ok
theorem qe_7_1 : qEnt (7, 1, 17, 0) := ⟨qz3 (qt1 26 rfl rfl) (qt1 27 rfl rfl) (qt1 28 rfl rfl), qz0 , by decide +kernel⟩
theorem qe_7_7 : qEnt (7, 7, 9, 5) := ⟨qz3 (qt1 29 rfl rfl) (qt1 30 rfl rfl) (qt1 2 rfl rfl), qz0 , by decide +kernel⟩
theorem qe_7_9 : qEnt (7, 9, 16, 10) := ⟨qz2 (qt1 32 rfl rfl) (qt1 2 rfl rfl), qz1 (qtn 0 rfl), by decide +kernel⟩
theorem qe_7_10 : qEnt (7, 10, 1, 7002) := ⟨qz1 (qt1 235 rfl rfl), qz0 , by decide +kernel⟩
theorem qe_7_16 : qEnt (7, 16, 1, 7012) := ⟨qz1 (qt1 236 rfl rfl), qz0 , by decide +kernel⟩
theorem qe_7_19 : qEnt (7, 19, 1, 2) := ⟨qz1 (qt1 127 rfl rfl), qz0 , by decide +kernel⟩
theorem qe_7_23 : qEnt (7, 23, 1, 7022) := ⟨qz1 (qt1 237 rfl rfl), qz0 , by decide +kernel⟩
theorem qe_7_26 : qEnt (7, 26, 9, 103) := ⟨qz3 (qt1 146 rfl rfl) (qt1 147 rfl rfl) (qt1 5 rfl rfl), qz0 , by decide +kernel⟩
theorem qe_7_28 : qEnt (7, 28, 13, 2010) := ⟨qz3 (qt1 148 rfl rfl) (qt1 149 rfl rfl) (qt1 5 rfl rfl), qz0 , by decide +kernel⟩
theorem qe_7_29 : qEnt (7, 29, 1, 7032) := ⟨qz1 (qt1 238 rfl rfl), qz0 , by decide +kernel⟩
theorem qe_7_33 : qEnt (7, 33, 9, 513) := ⟨qz3 (qt1 166 rfl rfl) (qt1 36 rfl rfl) (qt1 3 rfl rfl), qz0 , by decide +kernel⟩
theorem qe_7_35 : qEnt (7, 35, 1, 7042) := ⟨qz1 (qt1 239 rfl rfl), qz0 , by decide +kernel⟩
theorem qe_7_39 : qEnt (7, 39, 13, 5210) := ⟨qz3 (qt1 167 rfl rfl) (qt1 38 rfl rfl) (qt1 3 rfl rfl), qz0 , by decide +kernel⟩
theorem qe_7_40 : qEnt (7, 40, 1, 7052) := ⟨qz1 (qt2 0 rfl rfl), qz0 , by decide +kernel⟩
theorem qe_7_44 : qEnt (7, 44, 9, 602) := ⟨qz3 (qt1 168 rfl rfl) (qt1 169 rfl rfl) (qt1 6 rfl rfl), qz0 , by decide +kernel⟩
theorem qe_7_46 : qEnt (7, 46, 16, 7910) := ⟨qz2 (qt1 171 rfl rfl) (qt1 6 rfl rfl), qz1 (qtn 2 rfl), by decide +kernel⟩
theorem qe_7_47 : qEnt (7, 47, 1, 7062) := ⟨qz1 (qt2 1 rfl rfl), qz0 , by decide +kernel⟩
theorem qe_7_51 : qEnt (7, 51, 9, 302) := ⟨qz3 (qt1 185 rfl rfl) (qt1 186 rfl rfl) (qt1 7 rfl rfl), qz0 , by decide +kernel⟩
theorem qe_7_53 : qEnt (7, 53, 16, 3210) := ⟨qz2 (qt1 188 rfl rfl) (qt1 7 rfl rfl), qz1 (qtn 3 rfl), by decide +kernel⟩
theorem qe_7_54 : qEnt (7, 54, 1, 7072) := ⟨qz1 (qt2 2 rfl rfl), qz0 , by decide +kernel⟩
theorem qe_7_58 : qEnt (7, 58, 9, 409) := ⟨qz3 (qt1 201 rfl rfl) (qt1 202 rfl rfl) (qt1 8 rfl rfl), qz0 , by decide +kernel⟩
theorem qe_7_60 : qEnt (7, 60, 16, 3710) := ⟨qz2 (qt1 204 rfl rfl) (qt1 8 rfl rfl), qz1 (qtn 4 rfl), by decide +kernel⟩
theorem qe_7_61 : qEnt (7, 61, 1, 7082) := ⟨qz1 (qt2 3 rfl rfl), qz0 , by decide +kernel⟩
theorem qe_7_65 : qEnt (7, 65, 1, 7092) := ⟨qz1 (qt2 4 rfl rfl), qz0 , by decide +kernel⟩
theorem qe_7_68 : qEnt (7, 68, 11, 8021) := ⟨qz4 (qt2 30 rfl rfl) (qt2 31 rfl rfl) (qt2 32 rfl rfl) (qt1 6 rfl rfl), qz0 , by decide +kernel⟩
theorem qe_7_72 : qEnt (7, 72, 1, 6010) := ⟨qz1 (qt1 176 rfl rfl), qz0 , by decide +kernel⟩
theorem qe_7_76 : qEnt (7, 76, 11, 3921) := ⟨qz4 (qt2 42 rfl rfl) (qt2 43 rfl rfl) (qt2 44 rfl rfl) (qt1 8 rfl rfl), qz0 , by decide +kernel⟩
theorem qe_7_80 : qEnt (7, 80, 11, 3820) := ⟨qz4 (qt2 90 rfl rfl) (qt2 91 rfl rfl) (qt2 92 rfl rfl) (qt1 8 rfl rfl), qz0 , by decide +kernel⟩
theorem qe_7_84 : qEnt (7, 84, 12, 13311) := ⟨qz3 (qt2 101 rfl rfl) (qt2 102 rfl rfl) (qt1 1 rfl rfl), qz0 , by decide +kernel⟩
theorem qe_7_88 : qEnt (7, 88, 5, 2) := ⟨qz1 (qt2 104 rfl rfl), qz0 , by decide +kernel⟩
theorem qe_7_92 : qEnt (7, 92, 5, 1) := ⟨qz1 (qt2 106 rfl rfl), qz0 , by decide +kernel⟩
theorem qe_7_95 : qEnt (7, 95, 11, 3530) := ⟨qz4 (qt2 108 rfl rfl) (qt2 109 rfl rfl) (qt2 110 rfl rfl) (qt1 7 rfl rfl), qz0 , by decide +kernel⟩
theorem qe_7_99 : qEnt (7, 99, 5, 0) := ⟨qz1 (qt2 116 rfl rfl), qz0 , by decide +kernel⟩
theorem qe_7_102 : qEnt (7, 102, 11, 8411) := ⟨qz4 (qt2 122 rfl rfl) (qt2 123 rfl rfl) (qt2 124 rfl rfl) (qt1 6 rfl rfl), qz0 , by decide +kernel⟩
theorem qe_7_106 : qEnt (7, 106, 12, 13111) := ⟨qz3 (qt4 11 rfl rfl) (qt2 203 rfl rfl) (qt1 1 rfl rfl), qz0 , by decide +kernel⟩
theorem qe_7_112 : qEnt (7, 112, 1, 5012) := ⟨qz1 (qt1 45 rfl rfl), qz0 , by decide +kernel⟩
theorem qe_7_115 : qEnt (7, 115, 1, 5022) := ⟨qz1 (qt1 48 rfl rfl), qz0 , by decide +kernel⟩
theorem qe_7_118 : qEnt (7, 118, 1, 5032) := ⟨qz1 (qt1 52 rfl rfl), qz0 , by decide +kernel⟩
theorem qe_7_121 : qEnt (7, 121, 1, 5042) := ⟨qz1 (qt1 55 rfl rfl), qz0 , by decide +kernel⟩
theorem qe_7_124 : qEnt (7, 124, 11, 5831) := ⟨qz4 (qt4 239 rfl rfl) (qt3 116 rfl rfl) (qt3 117 rfl rfl) (qt1 3 rfl rfl), qz0 , by decide +kernel⟩
theorem qe_7_128 : qEnt (7, 128, 11, 1231) := ⟨qz4 (qt4 80 rfl rfl) (qt4 81 rfl rfl) (qt4 82 rfl rfl) (qt1 2 rfl rfl), qz0 , by decide +kernel⟩
theorem qe_7_132 : qEnt (7, 132, 12, 13211) := ⟨qz3 (qt3 233 rfl rfl) (qt2 235 rfl rfl) (qt1 1 rfl rfl), qz0 , by decide +kernel⟩
theorem qe_7_135 : qEnt (7, 135, 11, 5431) := ⟨qz4 (qt3 135 rfl rfl) (qt3 16 rfl rfl) (qt3 17 rfl rfl) (qt1 3 rfl rfl), qz0 , by decide +kernel⟩
theorem qe_7_138 : qEnt (7, 138, 11, 2120) := ⟨qz4 (qt2 189 rfl rfl) (qt2 190 rfl rfl) (qt2 191 rfl rfl) (qt1 5 rfl rfl), qz0 , by decide +kernel⟩
theorem qe_7_142 : qEnt (7, 142, 11, 321) := ⟨qz4 (qt2 198 rfl rfl) (qt2 199 rfl rfl) (qt2 200 rfl rfl) (qt1 2 rfl rfl), qz0 , by decide +kernel⟩
theorem qe_7_145 : qEnt (7, 145, 11, 12921) := ⟨qz4 (qt2 205 rfl rfl) (qt2 207 rfl rfl) (qtp 7 rfl rfl) (qt1 1 rfl rfl), qz0 , by decide +kernel⟩
theorem qe_7_148 : qEnt (7, 148, 11, 431) := ⟨qz4 (qt2 217 rfl rfl) (qt2 218 rfl rfl) (qt2 219 rfl rfl) (qt1 2 rfl rfl), qz0 , by decide +kernel⟩
theorem qe_7_151 : qEnt (7, 151, 11, 541) := ⟨qz4 (qt2 230 rfl rfl) (qt2 231 rfl rfl) (qt2 232 rfl rfl) (qt1 2 rfl rfl), qz0 , by decide +kernel⟩
theorem qe_7_155 : qEnt (7, 155, 1, 5052) := ⟨qz1 (qt1 59 rfl rfl), qz0 , by decide +kernel⟩
theorem qe_7_158 : qEnt (7, 158, 11, 5621) := ⟨qz4 (qt3 93 rfl rfl) (qt3 94 rfl rfl) (qt3 95 rfl rfl) (qt1 3 rfl rfl), qz0 , by decide +kernel⟩
theorem qe_7_161 : qEnt (7, 161, 11, 631) := ⟨qz4 (qt3 97 rfl rfl) (qt3 98 rfl rfl) (qt3 99 rfl rfl) (qt1 2 rfl rfl), qz0 , by decide +kernel⟩
theorem qe_7_164 : qEnt (7, 164, 12, 26711) := ⟨qz3 (qt3 101 rfl rfl) (qt3 102 rfl rfl) (qt1 20 rfl rfl), qz0 , by decide +kernel⟩
theorem qe_7_169 : qEnt (7, 169, 11, 721) := ⟨qz4 (qt3 111 rfl rfl) (qt3 112 rfl rfl) (qt3 113 rfl rfl) (qt1 2 rfl rfl), qz0 , by decide +kernel⟩
theorem qe_7_172 : qEnt (7, 172, 11, 3420) := ⟨qz4 (qt3 123 rfl rfl) (qt3 124 rfl rfl) (qt3 125 rfl rfl) (qt1 7 rfl rfl), qz0 , by decide +kernel⟩
theorem qe_7_176 : qEnt (7, 176, 11, 831) := ⟨qz4 (qt3 131 rfl rfl) (qt3 132 rfl rfl) (qt3 133 rfl rfl) (qt1 2 rfl rfl), qz0 , by decide +kernel⟩
theorem qe_7_179 : qEnt (7, 179, 11, 921) := ⟨qz4 (qt3 140 rfl rfl) (qt3 141 rfl rfl) (qt3 142 rfl rfl) (qt1 2 rfl rfl), qz0 , by decide +kernel⟩
theorem qe_7_182 : qEnt (7, 182, 11, 1021) := ⟨qz4 (qt3 148 rfl rfl) (qt3 149 rfl rfl) (qt3 150 rfl rfl) (qt1 2 rfl rfl), qz0 , by decide +kernel⟩
theorem qe_7_186 : qEnt (7, 186, 1, 22) := ⟨qz1 (qt1 131 rfl rfl), qz0 , by decide +kernel⟩
theorem qe_7_189 : qEnt (7, 189, 11, 3630) := ⟨qz4 (qt3 183 rfl rfl) (qt3 184 rfl rfl) (qt3 185 rfl rfl) (qt1 7 rfl rfl), qz0 , by decide +kernel⟩
theorem qe_7_193 : qEnt (7, 193, 11, 8511) := ⟨qz4 (qt3 191 rfl rfl) (qt3 192 rfl rfl) (qt3 193 rfl rfl) (qt1 6 rfl rfl), qz0 , by decide +kernel⟩
theorem qe_7_196 : qEnt (7, 196, 11, 8121) := ⟨qz4 (qt3 199 rfl rfl) (qt2 50 rfl rfl) (qt2 51 rfl rfl) (qt1 6 rfl rfl), qz0 , by decide +kernel⟩
theorem qe_7_198 : qEnt (7, 198, 11, 8221) := ⟨qz4 (qt3 200 rfl rfl) (qt3 201 rfl rfl) (qt3 202 rfl rfl) (qt1 6 rfl rfl), qz0 , by decide +kernel⟩
theorem qe_7_201 : qEnt (7, 201, 11, 261) := ⟨qz4 (qt3 205 rfl rfl) (qt3 206 rfl rfl) (qt3 207 rfl rfl) (qt1 2 rfl rfl), qz0 , by decide +kernel⟩
theorem qe_7_205 : qEnt (7, 205, 12, 8611) := ⟨qz3 (qt3 217 rfl rfl) (qt3 197 rfl rfl) (qt1 6 rfl rfl), qz0 , by decide +kernel⟩
theorem qe_7_208 : qEnt (7, 208, 22, 0) := ⟨qz4 (qt3 218 rfl rfl) (qt3 219 rfl rfl) (qt1 10 rfl rfl) (qt3 220 rfl rfl), qz0 , by decide +kernel⟩
theorem qe_7_213 : qEnt (7, 213, 11, 2210) := ⟨qz4 (qt2 209 rfl rfl) (qt2 210 rfl rfl) (qt2 211 rfl rfl) (qt1 5 rfl rfl), qz0 , by decide +kernel⟩
theorem qe_7_216 : qEnt (7, 216, 1, 1020) := ⟨qz1 (qt1 158 rfl rfl), qz0 , by decide +kernel⟩
theorem qe_7_217 : qEnt (7, 217, 11, 2320) := ⟨qz4 (qt3 225 rfl rfl) (qt3 226 rfl rfl) (qt3 227 rfl rfl) (qt1 5 rfl rfl), qz0 , by decide +kernel⟩
theorem qe_7_220 : qEnt (7, 220, 11, 7021) := ⟨qz4 (qt3 238 rfl rfl) (qt3 239 rfl rfl) (qt4 0 rfl rfl) (qt1 3 rfl rfl), qz0 , by decide +kernel⟩
theorem qe_7_223 : qEnt (7, 223, 1, 3010) := ⟨qz1 (qt1 194 rfl rfl), qz0 , by decide +kernel⟩
theorem qe_7_224 : qEnt (7, 224, 11, 7421) := ⟨qz4 (qt4 2 rfl rfl) (qt4 3 rfl rfl) (qt4 4 rfl rfl) (qt1 3 rfl rfl), qz0 , by decide +kernel⟩
theorem qe_7_227 : qEnt (7, 227, 11, 3320) := ⟨qz4 (qt4 6 rfl rfl) (qt2 113 rfl rfl) (qt2 114 rfl rfl) (qt1 7 rfl rfl), qz0 , by decide +kernel⟩
theorem qe_7_230 : qEnt (7, 230, 1, 5062) := ⟨qz1 (qt1 63 rfl rfl), qz0 , by decide +kernel⟩
theorem qe_7_233 : qEnt (7, 233, 1, 5082) := ⟨qz1 (qt1 67 rfl rfl), qz0 , by decide +kernel⟩
theorem qe_7_236 : qEnt (7, 236, 1, 5092) := ⟨qz1 (qt1 70 rfl rfl), qz0 , by decide +kernel⟩
theorem qe_7_239 : qEnt (7, 239, 11, 6441) := ⟨qz4 (qt4 16 rfl rfl) (qt3 5 rfl rfl) (qt3 6 rfl rfl) (qt1 3 rfl rfl), qz0 , by decide +kernel⟩
theorem qe_7_242 : qEnt (7, 242, 12, 13411) := ⟨qz3 (qt4 21 rfl rfl) (qt2 238 rfl rfl) (qt1 1 rfl rfl), qz0 , by decide +kernel⟩
theorem qe_7_245 : qEnt (7, 245, 11, 6541) := ⟨qz4 (qt4 22 rfl rfl) (qt3 1 rfl rfl) (qt3 2 rfl rfl) (qt1 3 rfl rfl), qz0 , by decide +kernel⟩
theorem qe_7_249 : qEnt (7, 249, 3, 85) := ⟨qz1 (qt4 23 rfl rfl), qz0 , by decide +kernel⟩
theorem qe_7_251 : qEnt (7, 251, 11, 6841) := ⟨qz4 (qt4 24 rfl rfl) (qt4 25 rfl rfl) (qt4 26 rfl rfl) (qt1 3 rfl rfl), qz0 , by decide +kernel⟩
theorem qe_7_254 : qEnt (7, 254, 12, 13511) := ⟨qz3 (qt3 14 rfl rfl) (qt3 9 rfl rfl) (qt1 1 rfl rfl), qz0 , by decide +kernel⟩
theorem qe_7_257 : qEnt (7, 257, 12, 13621) := ⟨qz3 (qt4 30 rfl rfl) (qt3 12 rfl rfl) (qt1 1 rfl rfl), qz0 , by decide +kernel⟩
theorem qe_7_260 : qEnt (7, 260, 11, 6951) := ⟨qz4 (qt4 31 rfl rfl) (qt4 32 rfl rfl) (qt4 33 rfl rfl) (qt1 3 rfl rfl), qz0 , by decide +kernel⟩
theorem qe_7_264 : qEnt (7, 264, 11, 7621) := ⟨qz4 (qt4 43 rfl rfl) (qt3 161 rfl rfl) (qt3 162 rfl rfl) (qt1 3 rfl rfl), qz0 , by decide +kernel⟩
theorem qe_7_267 : qEnt (7, 267, 1, 12) := ⟨qz1 (qt1 129 rfl rfl), qz0 , by decide +kernel⟩
theorem qe_7_271 : qEnt (7, 271, 11, 2520) := ⟨qz4 (qt4 48 rfl rfl) (qt3 157 rfl rfl) (qt3 158 rfl rfl) (qt1 4 rfl rfl), qz0 , by decide +kernel⟩
theorem qe_7_275 : qEnt (7, 275, 11, 2621) := ⟨qz4 (qt4 49 rfl rfl) (qt3 169 rfl rfl) (qt3 170 rfl rfl) (qt1 4 rfl rfl), qz0 , by decide +kernel⟩
theorem qe_7_278 : qEnt (7, 278, 11, 2721) := ⟨qz4 (qt4 50 rfl rfl) (qt4 51 rfl rfl) (qt4 52 rfl rfl) (qt1 4 rfl rfl), qz0 , by decide +kernel⟩
theorem qe_7_281 : qEnt (7, 281, 11, 2811) := ⟨qz4 (qt4 58 rfl rfl) (qt3 165 rfl rfl) (qt3 166 rfl rfl) (qt1 4 rfl rfl), qz0 , by decide +kernel⟩
theorem qe_7_284 : qEnt (7, 284, 11, 2921) := ⟨qz4 (qt4 63 rfl rfl) (qt4 64 rfl rfl) (qt4 65 rfl rfl) (qt1 4 rfl rfl), qz0 , by decide +kernel⟩
theorem qe_7_287 : qEnt (7, 287, 1, 2032) := ⟨qz1 (qt1 116 rfl rfl), qz0 , by decide +kernel⟩
theorem qe_7_290 : qEnt (7, 290, 11, 1121) := ⟨qz4 (qt4 79 rfl rfl) (qt3 153 rfl rfl) (qt3 154 rfl rfl) (qt1 2 rfl rfl), qz0 , by decide +kernel⟩
theorem qe_7_293 : qEnt (7, 293, 11, 13031) := ⟨qz4 (qt4 88 rfl rfl) (qt4 90 rfl rfl) (qtp 16 rfl rfl) (qt1 1 rfl rfl), qz0 , by decide +kernel⟩
theorem qe_7_297 : qEnt (7, 297, 11, 5320) := ⟨qz4 (qt4 92 rfl rfl) (qt2 194 rfl rfl) (qt2 195 rfl rfl) (qt1 3 rfl rfl), qz0 , by decide +kernel⟩
theorem qe_7_299 : qEnt (7, 299, 11, 5711) := ⟨qz4 (qt4 98 rfl rfl) (qt4 99 rfl rfl) (qt4 100 rfl rfl) (qt1 3 rfl rfl), qz0 , by decide +kernel⟩
theorem qe_7_302 : qEnt (7, 302, 11, 1320) := ⟨qz4 (qt4 93 rfl rfl) (qt3 120 rfl rfl) (qt3 121 rfl rfl) (qt1 2 rfl rfl), qz0 , by decide +kernel⟩
theorem qe_7_306 : qEnt (7, 306, 11, 6231) := ⟨qz4 (qt4 106 rfl rfl) (qt3 44 rfl rfl) (qt3 45 rfl rfl) (qt1 3 rfl rfl), qz0 , by decide +kernel⟩
theorem qe_7_309 : qEnt (7, 309, 11, 6331) := ⟨qz4 (qt4 107 rfl rfl) (qt3 52 rfl rfl) (qt3 53 rfl rfl) (qt1 3 rfl rfl), qz0 , by decide +kernel⟩
theorem qe_7_312 : qEnt (7, 312, 11, 6741) := ⟨qz4 (qt4 108 rfl rfl) (qt3 31 rfl rfl) (qt3 32 rfl rfl) (qt1 3 rfl rfl), qz0 , by decide +kernel⟩
theorem qe_7_315 : qEnt (7, 315, 11, 7111) := ⟨qz4 (qt4 121 rfl rfl) (qt4 122 rfl rfl) (qt4 123 rfl rfl) (qt1 3 rfl rfl), qz0 , by decide +kernel⟩
theorem qe_7_318 : qEnt (7, 318, 11, 6111) := ⟨qz4 (qt4 129 rfl rfl) (qt4 130 rfl rfl) (qt4 131 rfl rfl) (qt1 3 rfl rfl), qz0 , by decide +kernel⟩
theorem qe_7_321 : qEnt (7, 321, 1, 40) := ⟨qz1 (qt1 134 rfl rfl), qz0 , by decide +kernel⟩
theorem qe_7_324 : qEnt (7, 324, 4, 16) := ⟨qz0 , qz0 , by decide +kernel⟩
theorem qe_7_326 : qEnt (7, 326, 11, 121) := ⟨qz4 (qt4 142 rfl rfl) (qt4 143 rfl rfl) (qt4 144 rfl rfl) (qt1 2 rfl rfl), qz0 , by decide +kernel⟩
theorem qe_7_329 : qEnt (7, 329, 11, 26921) := ⟨qz4 (qt4 147 rfl rfl) (qt2 142 rfl rfl) (qt2 143 rfl rfl) (qt1 12 rfl rfl), qz0 , by decide +kernel⟩
theorem qe_7_335 : qEnt (7, 335, 4, 17) := ⟨qz0 , qz0 , by decide +kernel⟩
theorem qe_7_337 : qEnt (7, 337, 11, 6011) := ⟨qz4 (qt4 149 rfl rfl) (qt4 150 rfl rfl) (qt4 151 rfl rfl) (qt1 3 rfl rfl), qz0 , by decide +kernel⟩
theorem qe_7_340 : qEnt (7, 340, 1, 5110) := ⟨qz1 (qt1 74 rfl rfl), qz0 , by decide +kernel⟩
theorem qe_7_343 : qEnt (7, 343, 1, 5120) := ⟨qz1 (qt1 77 rfl rfl), qz0 , by decide +kernel⟩
theorem qe_7_346 : qEnt (7, 346, 11, 5911) := ⟨qz4 (qt4 165 rfl rfl) (qt4 166 rfl rfl) (qt4 167 rfl rfl) (qt1 3 rfl rfl), qz0 , by decide +kernel⟩
theorem qe_7_349 : qEnt (7, 349, 1, 3002) := ⟨qz1 (qt1 192 rfl rfl), qz0 , by decide +kernel⟩
def qcps_7_0 : List (Nat × Nat × Int) := [(1, 17, 0), (7, 9, 5), (9, 16, 10), (10, 1, 7002), (16, 1, 7012), (19, 1, 2), (23, 1, 7022), (26, 9, 103), (28, 13, 2010), (29, 1, 7032), (33, 9, 513), (35, 1, 7042), (39, 13, 5210), (40, 1, 7052), (44, 9, 602), (46, 16, 7910), (47, 1, 7062), (51, 9, 302), (53, 16, 3210), (54, 1, 7072)]
theorem qcps_7_0_ok : ∀ e ∈ qcps_7_0, qEnt (7, e) := List.forall_mem_cons.mpr ⟨qe_7_1, List.forall_mem_cons.mpr ⟨qe_7_7, List.forall_mem_cons.mpr ⟨qe_7_9, List.forall_mem_cons.mpr ⟨qe_7_10, List.forall_mem_cons.mpr ⟨qe_7_16, List.forall_mem_cons.mpr ⟨qe_7_19, List.forall_mem_cons.mpr ⟨qe_7_23, List.forall_mem_cons.mpr ⟨qe_7_26, List.forall_mem_cons.mpr ⟨qe_7_28, List.forall_mem_cons.mpr ⟨qe_7_29, List.forall_mem_cons.mpr ⟨qe_7_33, List.forall_mem_cons.mpr ⟨qe_7_35, List.forall_mem_cons.mpr ⟨qe_7_39, List.forall_mem_cons.mpr ⟨qe_7_40, List.forall_mem_cons.mpr ⟨qe_7_44, List.forall_mem_cons.mpr ⟨qe_7_46, List.forall_mem_cons.mpr ⟨qe_7_47, List.forall_mem_cons.mpr ⟨qe_7_51, List.forall_mem_cons.mpr ⟨qe_7_53, List.forall_mem_cons.mpr ⟨qe_7_54, (fun _ h => absurd h List.not_mem_nil)⟩⟩⟩⟩⟩⟩⟩⟩⟩⟩⟩⟩⟩⟩⟩⟩⟩⟩⟩⟩
def qcps_7_1 : List (Nat × Nat × Int) := [(58, 9, 409), (60, 16, 3710), (61, 1, 7082), (65, 1, 7092), (68, 11, 8021), (72, 1, 6010), (76, 11, 3921), (80, 11, 3820), (84, 12, 13311), (88, 5, 2), (92, 5, 1), (95, 11, 3530), (99, 5, 0), (102, 11, 8411), (106, 12, 13111), (112, 1, 5012), (115, 1, 5022), (118, 1, 5032), (121, 1, 5042), (124, 11, 5831)]
theorem qcps_7_1_ok : ∀ e ∈ qcps_7_1, qEnt (7, e) := List.forall_mem_cons.mpr ⟨qe_7_58, List.forall_mem_cons.mpr ⟨qe_7_60, List.forall_mem_cons.mpr ⟨qe_7_61, List.forall_mem_cons.mpr ⟨qe_7_65, List.forall_mem_cons.mpr ⟨qe_7_68, List.forall_mem_cons.mpr ⟨qe_7_72, List.forall_mem_cons.mpr ⟨qe_7_76, List.forall_mem_cons.mpr ⟨qe_7_80, List.forall_mem_cons.mpr ⟨qe_7_84, List.forall_mem_cons.mpr ⟨qe_7_88, List.forall_mem_cons.mpr ⟨qe_7_92, List.forall_mem_cons.mpr ⟨qe_7_95, List.forall_mem_cons.mpr ⟨qe_7_99, List.forall_mem_cons.mpr ⟨qe_7_102, List.forall_mem_cons.mpr ⟨qe_7_106, List.forall_mem_cons.mpr ⟨qe_7_112, List.forall_mem_cons.mpr ⟨qe_7_115, List.forall_mem_cons.mpr ⟨qe_7_118, List.forall_mem_cons.mpr ⟨qe_7_121, List.forall_mem_cons.mpr ⟨qe_7_124, (fun _ h => absurd h List.not_mem_nil)⟩⟩⟩⟩⟩⟩⟩⟩⟩⟩⟩⟩⟩⟩⟩⟩⟩⟩⟩⟩
def qcps_7_2 : List (Nat × Nat × Int) := [(128, 11, 1231), (132, 12, 13211), (135, 11, 5431), (138, 11, 2120), (142, 11, 321), (145, 11, 12921), (148, 11, 431), (151, 11, 541), (155, 1, 5052), (158, 11, 5621), (161, 11, 631), (164, 12, 26711), (169, 11, 721), (172, 11, 3420), (176, 11, 831), (179, 11, 921), (182, 11, 1021), (186, 1, 22), (189, 11, 3630), (193, 11, 8511)]
theorem qcps_7_2_ok : ∀ e ∈ qcps_7_2, qEnt (7, e) := List.forall_mem_cons.mpr ⟨qe_7_128, List.forall_mem_cons.mpr ⟨qe_7_132, List.forall_mem_cons.mpr ⟨qe_7_135, List.forall_mem_cons.mpr ⟨qe_7_138, List.forall_mem_cons.mpr ⟨qe_7_142, List.forall_mem_cons.mpr ⟨qe_7_145, List.forall_mem_cons.mpr ⟨qe_7_148, List.forall_mem_cons.mpr ⟨qe_7_151, List.forall_mem_cons.mpr ⟨qe_7_155, List.forall_mem_cons.mpr ⟨qe_7_158, List.forall_mem_cons.mpr ⟨qe_7_161, List.forall_mem_cons.mpr ⟨qe_7_164, List.forall_mem_cons.mpr ⟨qe_7_169, List.forall_mem_cons.mpr ⟨qe_7_172, List.forall_mem_cons.mpr ⟨qe_7_176, List.forall_mem_cons.mpr ⟨qe_7_179, List.forall_mem_cons.mpr ⟨qe_7_182, List.forall_mem_cons.mpr ⟨qe_7_186, List.forall_mem_cons.mpr ⟨qe_7_189, List.forall_mem_cons.mpr ⟨qe_7_193, (fun _ h => absurd h List.not_mem_nil)⟩⟩⟩⟩⟩⟩⟩⟩⟩⟩⟩⟩⟩⟩⟩⟩⟩⟩⟩⟩
def qcps_7_3 : List (Nat × Nat × Int) := [(196, 11, 8121), (198, 11, 8221), (201, 11, 261), (205, 12, 8611), (208, 22, 0), (213, 11, 2210), (216, 1, 1020), (217, 11, 2320), (220, 11, 7021), (223, 1, 3010), (224, 11, 7421), (227, 11, 3320), (230, 1, 5062), (233, 1, 5082), (236, 1, 5092), (239, 11, 6441), (242, 12, 13411), (245, 11, 6541), (249, 3, 85), (251, 11, 6841)]
theorem qcps_7_3_ok : ∀ e ∈ qcps_7_3, qEnt (7, e) := List.forall_mem_cons.mpr ⟨qe_7_196, List.forall_mem_cons.mpr ⟨qe_7_198, List.forall_mem_cons.mpr ⟨qe_7_201, List.forall_mem_cons.mpr ⟨qe_7_205, List.forall_mem_cons.mpr ⟨qe_7_208, List.forall_mem_cons.mpr ⟨qe_7_213, List.forall_mem_cons.mpr ⟨qe_7_216, List.forall_mem_cons.mpr ⟨qe_7_217, List.forall_mem_cons.mpr ⟨qe_7_220, List.forall_mem_cons.mpr ⟨qe_7_223, List.forall_mem_cons.mpr ⟨qe_7_224, List.forall_mem_cons.mpr ⟨qe_7_227, List.forall_mem_cons.mpr ⟨qe_7_230, List.forall_mem_cons.mpr ⟨qe_7_233, List.forall_mem_cons.mpr ⟨qe_7_236, List.forall_mem_cons.mpr ⟨qe_7_239, List.forall_mem_cons.mpr ⟨qe_7_242, List.forall_mem_cons.mpr ⟨qe_7_245, List.forall_mem_cons.mpr ⟨qe_7_249, List.forall_mem_cons.mpr ⟨qe_7_251, (fun _ h => absurd h List.not_mem_nil)⟩⟩⟩⟩⟩⟩⟩⟩⟩⟩⟩⟩⟩⟩⟩⟩⟩⟩⟩⟩
def qcps_7_4 : List (Nat × Nat × Int) := [(254, 12, 13511), (257, 12, 13621), (260, 11, 6951), (264, 11, 7621), (267, 1, 12), (271, 11, 2520), (275, 11, 2621), (278, 11, 2721), (281, 11, 2811), (284, 11, 2921), (287, 1, 2032), (290, 11, 1121), (293, 11, 13031), (297, 11, 5320), (299, 11, 5711), (302, 11, 1320), (306, 11, 6231), (309, 11, 6331), (312, 11, 6741), (315, 11, 7111)]
theorem qcps_7_4_ok : ∀ e ∈ qcps_7_4, qEnt (7, e) := List.forall_mem_cons.mpr ⟨qe_7_254, List.forall_mem_cons.mpr ⟨qe_7_257, List.forall_mem_cons.mpr ⟨qe_7_260, List.forall_mem_cons.mpr ⟨qe_7_264, List.forall_mem_cons.mpr ⟨qe_7_267, List.forall_mem_cons.mpr ⟨qe_7_271, List.forall_mem_cons.mpr ⟨qe_7_275, List.forall_mem_cons.mpr ⟨qe_7_278, List.forall_mem_cons.mpr ⟨qe_7_281, List.forall_mem_cons.mpr ⟨qe_7_284, List.forall_mem_cons.mpr ⟨qe_7_287, List.forall_mem_cons.mpr ⟨qe_7_290, List.forall_mem_cons.mpr ⟨qe_7_293, List.forall_mem_cons.mpr ⟨qe_7_297, List.forall_mem_cons.mpr ⟨qe_7_299, List.forall_mem_cons.mpr ⟨qe_7_302, List.forall_mem_cons.mpr ⟨qe_7_306, List.forall_mem_cons.mpr ⟨qe_7_309, List.forall_mem_cons.mpr ⟨qe_7_312, List.forall_mem_cons.mpr ⟨qe_7_315, (fun _ h => absurd h List.not_mem_nil)⟩⟩⟩⟩⟩⟩⟩⟩⟩⟩⟩⟩⟩⟩⟩⟩⟩⟩⟩⟩
def qcps_7_5 : List (Nat × Nat × Int) := [(318, 11, 6111), (321, 1, 40), (324, 4, 16), (326, 11, 121), (329, 11, 26921), (335, 4, 17), (337, 11, 6011), (340, 1, 5110), (343, 1, 5120), (346, 11, 5911), (349, 1, 3002)]
theorem qcps_7_5_ok : ∀ e ∈ qcps_7_5, qEnt (7, e) := List.forall_mem_cons.mpr ⟨qe_7_318, List.forall_mem_cons.mpr ⟨qe_7_321, List.forall_mem_cons.mpr ⟨qe_7_324, List.forall_mem_cons.mpr ⟨qe_7_326, List.forall_mem_cons.mpr ⟨qe_7_329, List.forall_mem_cons.mpr ⟨qe_7_335, List.forall_mem_cons.mpr ⟨qe_7_337, List.forall_mem_cons.mpr ⟨qe_7_340, List.forall_mem_cons.mpr ⟨qe_7_343, List.forall_mem_cons.mpr ⟨qe_7_346, List.forall_mem_cons.mpr ⟨qe_7_349, (fun _ h => absurd h List.not_mem_nil)⟩⟩⟩⟩⟩⟩⟩⟩⟩⟩⟩
theorem qcps_7_ok : ∀ e ∈ qcps_7, qEnt (7, e) := by
  rw [show qcps_7 = qcps_7_0 ++ (qcps_7_1 ++ (qcps_7_2 ++ (qcps_7_3 ++ (qcps_7_4 ++ (qcps_7_5))))) from rfl]
  exact List.forall_mem_append.mpr ⟨qcps_7_0_ok, List.forall_mem_append.mpr ⟨qcps_7_1_ok, List.forall_mem_append.mpr ⟨qcps_7_2_ok, List.forall_mem_append.mpr ⟨qcps_7_3_ok, List.forall_mem_append.mpr ⟨qcps_7_4_ok, qcps_7_5_ok⟩⟩⟩⟩⟩
theorem qe_8_3 : qEnt (8, 3, 1, 8000) := ⟨qz1 (qt5 121 rfl rfl), qz0 , by decide +kernel⟩
theorem qe_8_7 : qEnt (8, 7, 1, 8022) := ⟨qz1 (qt5 123 rfl rfl), qz0 , by decide +kernel⟩
theorem qe_8_11 : qEnt (8, 11, 1, 8010) := ⟨qz1 (qt5 122 rfl rfl), qz0 , by decide +kernel⟩
theorem qe_8_14 : qEnt (8, 14, 12, 14511) := ⟨qz3 (qt6 77 rfl rfl) (qt6 78 rfl rfl) (qt1 9 rfl rfl), qz0 , by decide +kernel⟩
theorem qe_8_18 : qEnt (8, 18, 3, 84) := ⟨qz1 (qt6 34 rfl rfl), qz0 , by decide +kernel⟩
theorem qe_8_20 : qEnt (8, 20, 12, 14131) := ⟨qz3 (qt5 23 rfl rfl) (qt5 24 rfl rfl) (qt1 9 rfl rfl), qz0 , by decide +kernel⟩
theorem qe_8_24 : qEnt (8, 24, 3, 6) := ⟨qz1 (qt5 22 rfl rfl), qz0 , by decide +kernel⟩
theorem qe_8_26 : qEnt (8, 26, 5, 3) := ⟨qz1 (qt5 45 rfl rfl), qz0 , by decide +kernel⟩
theorem qe_8_30 : qEnt (8, 30, 12, 14221) := ⟨qz3 (qt5 31 rfl rfl) (qt5 32 rfl rfl) (qt1 9 rfl rfl), qz0 , by decide +kernel⟩
theorem qe_8_34 : qEnt (8, 34, 5, 4) := ⟨qz1 (qt5 29 rfl rfl), qz0 , by decide +kernel⟩
theorem qe_8_37 : qEnt (8, 37, 12, 15021) := ⟨qz3 (qt5 26 rfl rfl) (qt5 27 rfl rfl) (qt1 9 rfl rfl), qz0 , by decide +kernel⟩
theorem qe_8_41 : qEnt (8, 41, 11, 14420) := ⟨qz4 (qt5 34 rfl rfl) (qt5 36 rfl rfl) (qtp 18 rfl rfl) (qt1 9 rfl rfl), qz0 , by decide +kernel⟩
theorem qe_8_45 : qEnt (8, 45, 12, 14311) := ⟨qz3 (qt5 39 rfl rfl) (qt5 40 rfl rfl) (qt1 9 rfl rfl), qz0 , by decide +kernel⟩
theorem qe_8_49 : qEnt (8, 49, 12, 14921) := ⟨qz3 (qt5 42 rfl rfl) (qt5 43 rfl rfl) (qt1 9 rfl rfl), qz0 , by decide +kernel⟩
theorem qe_8_52 : qEnt (8, 52, 1, 8040) := ⟨qz1 (qt5 125 rfl rfl), qz0 , by decide +kernel⟩
theorem qe_8_55 : qEnt (8, 55, 1, 8032) := ⟨qz1 (qt5 124 rfl rfl), qz0 , by decide +kernel⟩
theorem qe_8_58 : qEnt (8, 58, 1, 8050) := ⟨qz1 (qt5 126 rfl rfl), qz0 , by decide +kernel⟩
theorem qe_8_61 : qEnt (8, 61, 1, 8070) := ⟨qz1 (qt5 128 rfl rfl), qz0 , by decide +kernel⟩
theorem qe_8_64 : qEnt (8, 64, 21, 0) := ⟨qz4 (qt5 63 rfl rfl) (qt2 47 rfl rfl) (qt1 10 rfl rfl) (qt2 48 rfl rfl), qz0 , by decide +kernel⟩
theorem qe_8_69 : qEnt (8, 69, 1, 8060) := ⟨qz1 (qt5 127 rfl rfl), qz0 , by decide +kernel⟩
theorem qe_8_72 : qEnt (8, 72, 3, 48) := ⟨qz1 (qt5 92 rfl rfl), qz0 , by decide +kernel⟩
theorem qe_8_74 : qEnt (8, 74, 3, 57) := ⟨qz1 (qt5 93 rfl rfl), qz0 , by decide +kernel⟩
theorem qe_8_76 : qEnt (8, 76, 11, 26811) := ⟨qz4 (qt5 103 rfl rfl) (qt2 132 rfl rfl) (qt2 133 rfl rfl) (qt1 12 rfl rfl), qz0 , by decide +kernel⟩
theorem qe_8_82 : qEnt (8, 82, 11, 26921) := ⟨qz4 (qt5 104 rfl rfl) (qt2 142 rfl rfl) (qt2 143 rfl rfl) (qt1 12 rfl rfl), qz0 , by decide +kernel⟩
theorem qe_8_86 : qEnt (8, 86, 11, 15611) := ⟨qz4 (qt5 88 rfl rfl) (qt5 90 rfl rfl) (qtp 25 rfl rfl) (qt1 9 rfl rfl), qz0 , by decide +kernel⟩
theorem qe_8_90 : qEnt (8, 90, 11, 15821) := ⟨qz4 (qt5 94 rfl rfl) (qt5 96 rfl rfl) (qtp 26 rfl rfl) (qt1 9 rfl rfl), qz0 , by decide +kernel⟩
theorem qe_8_93 : qEnt (8, 93, 11, 15421) := ⟨qz4 (qt5 59 rfl rfl) (qt5 61 rfl rfl) (qtp 19 rfl rfl) (qt1 9 rfl rfl), qz0 , by decide +kernel⟩
theorem qe_8_96 : qEnt (8, 96, 11, 15521) := ⟨qz4 (qt5 64 rfl rfl) (qt5 66 rfl rfl) (qtp 20 rfl rfl) (qt1 9 rfl rfl), qz0 , by decide +kernel⟩
theorem qe_8_100 : qEnt (8, 100, 1, 8092) := ⟨qz1 (qt5 130 rfl rfl), qz0 , by decide +kernel⟩
theorem qe_8_103 : qEnt (8, 103, 1, 8110) := ⟨qz1 (qt5 132 rfl rfl), qz0 , by decide +kernel⟩
theorem qe_8_106 : qEnt (8, 106, 11, 16311) := ⟨qz4 (qt5 80 rfl rfl) (qt5 82 rfl rfl) (qtp 23 rfl rfl) (qt1 9 rfl rfl), qz0 , by decide +kernel⟩
theorem qe_8_109 : qEnt (8, 109, 11, 16220) := ⟨qz4 (qt5 84 rfl rfl) (qt5 86 rfl rfl) (qtp 24 rfl rfl) (qt1 9 rfl rfl), qz0 , by decide +kernel⟩
theorem qe_8_113 : qEnt (8, 113, 4, 18) := ⟨qz0 , qz0 , by decide +kernel⟩
theorem qe_8_115 : qEnt (8, 115, 11, 15721) := ⟨qz4 (qt5 99 rfl rfl) (qt5 101 rfl rfl) (qtp 27 rfl rfl) (qt1 9 rfl rfl), qz0 , by decide +kernel⟩
theorem qe_8_119 : qEnt (8, 119, 11, 16421) := ⟨qz4 (qt5 76 rfl rfl) (qt5 78 rfl rfl) (qtp 22 rfl rfl) (qt1 9 rfl rfl), qz0 , by decide +kernel⟩
theorem qe_8_122 : qEnt (8, 122, 4, 19) := ⟨qz0 , qz0 , by decide +kernel⟩
theorem qe_8_124 : qEnt (8, 124, 4, 20) := ⟨qz0 , qz0 , by decide +kernel⟩
theorem qe_8_126 : qEnt (8, 126, 4, 21) := ⟨qz0 , qz0 , by decide +kernel⟩
theorem qe_8_128 : qEnt (8, 128, 11, 16041) := ⟨qz4 (qt5 108 rfl rfl) (qt5 110 rfl rfl) (qtp 28 rfl rfl) (qt1 9 rfl rfl), qz0 , by decide +kernel⟩
theorem qe_8_132 : qEnt (8, 132, 1, 8100) := ⟨qz1 (qt5 131 rfl rfl), qz0 , by decide +kernel⟩
theorem qe_8_135 : qEnt (8, 135, 1, 8082) := ⟨qz1 (qt5 129 rfl rfl), qz0 , by decide +kernel⟩
theorem qe_8_138 : qEnt (8, 138, 11, 16511) := ⟨qz4 (qt5 72 rfl rfl) (qt5 74 rfl rfl) (qtp 21 rfl rfl) (qt1 9 rfl rfl), qz0 , by decide +kernel⟩
theorem qe_8_141 : qEnt (8, 141, 11, 16630) := ⟨qz4 (qt5 112 rfl rfl) (qt5 114 rfl rfl) (qtp 29 rfl rfl) (qt1 9 rfl rfl), qz0 , by decide +kernel⟩
theorem qe_8_145 : qEnt (8, 145, 1, 8122) := ⟨qz1 (qt5 133 rfl rfl), qz0 , by decide +kernel⟩
theorem qe_8_148 : qEnt (8, 148, 12, 16831) := ⟨qz3 (qt6 24 rfl rfl) (qt6 25 rfl rfl) (qt1 9 rfl rfl), qz0 , by decide +kernel⟩
theorem qe_8_152 : qEnt (8, 152, 1, 8132) := ⟨qz1 (qt5 134 rfl rfl), qz0 , by decide +kernel⟩
theorem qe_8_155 : qEnt (8, 155, 17, 0) := ⟨qz3 (qt5 120 rfl rfl) (qt1 27 rfl rfl) (qt1 28 rfl rfl), qz0 , by decide +kernel⟩
theorem qe_8_161 : qEnt (8, 161, 1, 8142) := ⟨qz1 (qt5 135 rfl rfl), qz0 , by decide +kernel⟩
theorem qe_8_164 : qEnt (8, 164, 1, 8152) := ⟨qz1 (qt5 136 rfl rfl), qz0 , by decide +kernel⟩
theorem qe_8_167 : qEnt (8, 167, 1, 8172) := ⟨qz1 (qt5 138 rfl rfl), qz0 , by decide +kernel⟩
theorem qe_8_170 : qEnt (8, 170, 1, 8192) := ⟨qz1 (qt5 140 rfl rfl), qz0 , by decide +kernel⟩
theorem qe_8_173 : qEnt (8, 173, 1, 8202) := ⟨qz1 (qt5 141 rfl rfl), qz0 , by decide +kernel⟩
theorem qe_8_176 : qEnt (8, 176, 1, 8212) := ⟨qz1 (qt5 142 rfl rfl), qz0 , by decide +kernel⟩
theorem qe_8_179 : qEnt (8, 179, 1, 8222) := ⟨qz1 (qt5 143 rfl rfl), qz0 , by decide +kernel⟩
theorem qe_8_182 : qEnt (8, 182, 1, 8232) := ⟨qz1 (qt5 144 rfl rfl), qz0 , by decide +kernel⟩
theorem qe_8_185 : qEnt (8, 185, 1, 8262) := ⟨qz1 (qt5 147 rfl rfl), qz0 , by decide +kernel⟩
theorem qe_8_188 : qEnt (8, 188, 1, 8272) := ⟨qz1 (qt5 148 rfl rfl), qz0 , by decide +kernel⟩
theorem qe_8_191 : qEnt (8, 191, 1, 8292) := ⟨qz1 (qt5 150 rfl rfl), qz0 , by decide +kernel⟩
theorem qe_8_195 : qEnt (8, 195, 1, 8302) := ⟨qz1 (qt5 151 rfl rfl), qz0 , by decide +kernel⟩
theorem qe_8_198 : qEnt (8, 198, 3, 7) := ⟨qz1 (qt5 226 rfl rfl), qz0 , by decide +kernel⟩
theorem qe_8_200 : qEnt (8, 200, 12, 17231) := ⟨qz3 (qt5 235 rfl rfl) (qt5 236 rfl rfl) (qt1 9 rfl rfl), qz0 , by decide +kernel⟩
theorem qe_8_204 : qEnt (8, 204, 12, 17621) := ⟨qz3 (qt6 14 rfl rfl) (qt6 15 rfl rfl) (qt1 9 rfl rfl), qz0 , by decide +kernel⟩
theorem qe_8_208 : qEnt (8, 208, 12, 17831) := ⟨qz3 (qt6 8 rfl rfl) (qt6 9 rfl rfl) (qt1 9 rfl rfl), qz0 , by decide +kernel⟩
theorem qe_8_212 : qEnt (8, 212, 12, 17731) := ⟨qz3 (qt6 11 rfl rfl) (qt6 12 rfl rfl) (qt1 9 rfl rfl), qz0 , by decide +kernel⟩
theorem qe_8_215 : qEnt (8, 215, 12, 18121) := ⟨qz3 (qt6 144 rfl rfl) (qt6 145 rfl rfl) (qt1 9 rfl rfl), qz0 , by decide +kernel⟩
theorem qe_8_219 : qEnt (8, 219, 12, 18431) := ⟨qz3 (qt6 5 rfl rfl) (qt6 6 rfl rfl) (qt1 9 rfl rfl), qz0 , by decide +kernel⟩
theorem qe_8_222 : qEnt (8, 222, 12, 18521) := ⟨qz3 (qt6 207 rfl rfl) (qt6 208 rfl rfl) (qt1 9 rfl rfl), qz0 , by decide +kernel⟩
theorem qe_8_225 : qEnt (8, 225, 12, 18621) := ⟨qz3 (qt6 204 rfl rfl) (qt6 205 rfl rfl) (qt1 9 rfl rfl), qz0 , by decide +kernel⟩
theorem qe_8_228 : qEnt (8, 228, 12, 17321) := ⟨qz3 (qt5 232 rfl rfl) (qt5 233 rfl rfl) (qt1 9 rfl rfl), qz0 , by decide +kernel⟩
theorem qe_8_231 : qEnt (8, 231, 12, 18821) := ⟨qz3 (qt6 2 rfl rfl) (qt6 3 rfl rfl) (qt1 9 rfl rfl), qz0 , by decide +kernel⟩
theorem qe_8_234 : qEnt (8, 234, 12, 17421) := ⟨qz3 (qt6 17 rfl rfl) (qt6 18 rfl rfl) (qt1 9 rfl rfl), qz0 , by decide +kernel⟩
theorem qe_8_237 : qEnt (8, 237, 11, 16911) := ⟨qz4 (qt6 20 rfl rfl) (qt6 22 rfl rfl) (qtp 32 rfl rfl) (qt1 9 rfl rfl), qz0 , by decide +kernel⟩
theorem qe_8_240 : qEnt (8, 240, 12, 19241) := ⟨qz3 (qt6 96 rfl rfl) (qt6 97 rfl rfl) (qt1 9 rfl rfl), qz0 , by decide +kernel⟩
theorem qe_8_244 : qEnt (8, 244, 12, 18021) := ⟨qz3 (qt6 102 rfl rfl) (qt6 103 rfl rfl) (qt1 9 rfl rfl), qz0 , by decide +kernel⟩
theorem qe_8_247 : qEnt (8, 247, 12, 17921) := ⟨qz3 (qt6 105 rfl rfl) (qt6 106 rfl rfl) (qt1 9 rfl rfl), qz0 , by decide +kernel⟩
theorem qe_8_250 : qEnt (8, 250, 12, 18341) := ⟨qz3 (qt6 108 rfl rfl) (qt6 109 rfl rfl) (qt1 9 rfl rfl), qz0 , by decide +kernel⟩
theorem qe_8_254 : qEnt (8, 254, 12, 19341) := ⟨qz3 (qt6 99 rfl rfl) (qt6 100 rfl rfl) (qt1 9 rfl rfl), qz0 , by decide +kernel⟩
theorem qe_8_257 : qEnt (8, 257, 12, 19040) := ⟨qz3 (qt6 111 rfl rfl) (qt6 112 rfl rfl) (qt1 9 rfl rfl), qz0 , by decide +kernel⟩
theorem qe_8_261 : qEnt (8, 261, 12, 19111) := ⟨qz3 (qt6 80 rfl rfl) (qt6 81 rfl rfl) (qt1 9 rfl rfl), qz0 , by decide +kernel⟩
theorem qe_8_264 : qEnt (8, 264, 12, 19521) := ⟨qz3 (qt6 87 rfl rfl) (qt6 88 rfl rfl) (qt1 9 rfl rfl), qz0 , by decide +kernel⟩
theorem qe_8_267 : qEnt (8, 267, 12, 19631) := ⟨qz3 (qt6 90 rfl rfl) (qt6 91 rfl rfl) (qt1 9 rfl rfl), qz0 , by decide +kernel⟩
theorem qe_8_270 : qEnt (8, 270, 12, 19441) := ⟨qz3 (qt6 93 rfl rfl) (qt6 94 rfl rfl) (qt1 9 rfl rfl), qz0 , by decide +kernel⟩
theorem qe_8_272 : qEnt (8, 272, 12, 19931) := ⟨qz3 (qt6 114 rfl rfl) (qt6 115 rfl rfl) (qt1 9 rfl rfl), qz0 , by decide +kernel⟩
theorem qe_8_275 : qEnt (8, 275, 11, 20341) := ⟨qz4 (qt6 117 rfl rfl) (qt6 119 rfl rfl) (qtp 39 rfl rfl) (qt1 9 rfl rfl), qz0 , by decide +kernel⟩
theorem qe_8_278 : qEnt (8, 278, 12, 14621) := ⟨qz3 (qt6 127 rfl rfl) (qt6 128 rfl rfl) (qt1 9 rfl rfl), qz0 , by decide +kernel⟩
theorem qe_8_281 : qEnt (8, 281, 12, 20031) := ⟨qz3 (qt6 124 rfl rfl) (qt6 125 rfl rfl) (qt1 9 rfl rfl), qz0 , by decide +kernel⟩
theorem qe_8_284 : qEnt (8, 284, 12, 20131) := ⟨qz3 (qt6 130 rfl rfl) (qt6 131 rfl rfl) (qt1 9 rfl rfl), qz0 , by decide +kernel⟩
theorem qe_8_287 : qEnt (8, 287, 12, 20231) := ⟨qz3 (qt6 121 rfl rfl) (qt6 122 rfl rfl) (qt1 9 rfl rfl), qz0 , by decide +kernel⟩
theorem qe_8_290 : qEnt (8, 290, 1, 8160) := ⟨qz1 (qt5 137 rfl rfl), qz0 , by decide +kernel⟩
theorem qe_8_293 : qEnt (8, 293, 11, 20440) := ⟨qz4 (qt6 133 rfl rfl) (qt6 135 rfl rfl) (qtp 40 rfl rfl) (qt1 9 rfl rfl), qz0 , by decide +kernel⟩
theorem qe_8_297 : qEnt (8, 297, 11, 20530) := ⟨qz4 (qt6 137 rfl rfl) (qt6 139 rfl rfl) (qtp 41 rfl rfl) (qt1 9 rfl rfl), qz0 , by decide +kernel⟩
theorem qe_8_300 : qEnt (8, 300, 12, 18231) := ⟨qz3 (qt6 141 rfl rfl) (qt6 142 rfl rfl) (qt1 9 rfl rfl), qz0 , by decide +kernel⟩
theorem qe_8_303 : qEnt (8, 303, 3, 15) := ⟨qz1 (qt6 147 rfl rfl), qz0 , by decide +kernel⟩
theorem qe_8_305 : qEnt (8, 305, 11, 19840) := ⟨qz4 (qt6 83 rfl rfl) (qt6 85 rfl rfl) (qtp 38 rfl rfl) (qt1 9 rfl rfl), qz0 , by decide +kernel⟩
theorem qe_8_309 : qEnt (8, 309, 12, 17111) := ⟨qz3 (qt5 223 rfl rfl) (qt5 224 rfl rfl) (qt1 9 rfl rfl), qz0 , by decide +kernel⟩
theorem qe_8_312 : qEnt (8, 312, 12, 14711) := ⟨qz3 (qt6 31 rfl rfl) (qt6 32 rfl rfl) (qt1 9 rfl rfl), qz0 , by decide +kernel⟩
theorem qe_8_315 : qEnt (8, 315, 12, 14811) := ⟨qz3 (qt6 71 rfl rfl) (qt6 72 rfl rfl) (qt1 9 rfl rfl), qz0 , by decide +kernel⟩
theorem qe_8_318 : qEnt (8, 318, 12, 19741) := ⟨qz3 (qt6 74 rfl rfl) (qt6 75 rfl rfl) (qt1 9 rfl rfl), qz0 , by decide +kernel⟩
theorem qe_8_321 : qEnt (8, 321, 3, 9) := ⟨qz1 (qt6 62 rfl rfl), qz0 , by decide +kernel⟩
theorem qe_8_323 : qEnt (8, 323, 12, 17521) := ⟨qz3 (qt6 156 rfl rfl) (qt6 157 rfl rfl) (qt1 9 rfl rfl), qz0 , by decide +kernel⟩
theorem qe_8_326 : qEnt (8, 326, 12, 26711) := ⟨qz3 (qt6 159 rfl rfl) (qt3 102 rfl rfl) (qt1 20 rfl rfl), qz0 , by decide +kernel⟩
theorem qe_8_331 : qEnt (8, 331, 11, 21031) := ⟨qz4 (qt6 168 rfl rfl) (qt6 170 rfl rfl) (qtp 44 rfl rfl) (qt1 9 rfl rfl), qz0 , by decide +kernel⟩
theorem qe_8_334 : qEnt (8, 334, 3, 20) := ⟨qz1 (qt6 180 rfl rfl), qz0 , by decide +kernel⟩
theorem qe_8_336 : qEnt (8, 336, 3, 2) := ⟨qz1 (qt6 188 rfl rfl), qz0 , by decide +kernel⟩
theorem qe_8_338 : qEnt (8, 338, 3, 5) := ⟨qz1 (qt5 227 rfl rfl), qz0 , by decide +kernel⟩
theorem qe_8_340 : qEnt (8, 340, 12, 18711) := ⟨qz3 (qt6 201 rfl rfl) (qt6 202 rfl rfl) (qt1 9 rfl rfl), qz0 , by decide +kernel⟩
theorem qe_8_344 : qEnt (8, 344, 11, 18931) := ⟨qz4 (qt5 238 rfl rfl) (qt6 0 rfl rfl) (qtp 31 rfl rfl) (qt1 9 rfl rfl), qz0 , by decide +kernel⟩
theorem qe_8_347 : qEnt (8, 347, 12, 26521) := ⟨qz3 (qt6 210 rfl rfl) (qt6 211 rfl rfl) (qt1 20 rfl rfl), qz0 , by decide +kernel⟩
theorem qe_8_350 : qEnt (8, 350, 11, 21421) := ⟨qz4 (qt6 197 rfl rfl) (qt6 199 rfl rfl) (qtp 47 rfl rfl) (qt1 9 rfl rfl), qz0 , by decide +kernel⟩
theorem qe_8_353 : qEnt (8, 353, 1, 8180) := ⟨qz1 (qt5 139 rfl rfl), qz0 , by decide +kernel⟩
theorem qe_8_356 : qEnt (8, 356, 11, 21721) := ⟨qz4 (qt6 51 rfl rfl) (qt6 53 rfl rfl) (qtp 36 rfl rfl) (qt1 9 rfl rfl), qz0 , by decide +kernel⟩
theorem qe_8_359 : qEnt (8, 359, 11, 14011) := ⟨qz4 (qt5 228 rfl rfl) (qt5 230 rfl rfl) (qtp 30 rfl rfl) (qt1 9 rfl rfl), qz0 , by decide +kernel⟩
theorem qe_8_362 : qEnt (8, 362, 11, 21610) := ⟨qz4 (qt6 39 rfl rfl) (qt6 41 rfl rfl) (qtp 33 rfl rfl) (qt1 9 rfl rfl), qz0 , by decide +kernel⟩
theorem qe_8_365 : qEnt (8, 365, 11, 20731) := ⟨qz4 (qt6 43 rfl rfl) (qt6 45 rfl rfl) (qtp 34 rfl rfl) (qt1 9 rfl rfl), qz0 , by decide +kernel⟩
theorem qe_8_368 : qEnt (8, 368, 11, 21821) := ⟨qz4 (qt6 47 rfl rfl) (qt6 49 rfl rfl) (qtp 35 rfl rfl) (qt1 9 rfl rfl), qz0 , by decide +kernel⟩
theorem qe_8_371 : qEnt (8, 371, 12, 20831) := ⟨qz3 (qt6 59 rfl rfl) (qt6 60 rfl rfl) (qt1 9 rfl rfl), qz0 , by decide +kernel⟩
theorem qe_8_374 : qEnt (8, 374, 11, 20651) := ⟨qz4 (qt6 67 rfl rfl) (qt6 69 rfl rfl) (qtp 37 rfl rfl) (qt1 9 rfl rfl), qz0 , by decide +kernel⟩
theorem qe_8_377 : qEnt (8, 377, 11, 20941) := ⟨qz4 (qt6 152 rfl rfl) (qt6 154 rfl rfl) (qtp 42 rfl rfl) (qt1 9 rfl rfl), qz0 , by decide +kernel⟩
theorem qe_8_380 : qEnt (8, 380, 11, 21131) := ⟨qz4 (qt6 164 rfl rfl) (qt6 166 rfl rfl) (qtp 43 rfl rfl) (qt1 9 rfl rfl), qz0 , by decide +kernel⟩
theorem qe_8_383 : qEnt (8, 383, 11, 21241) := ⟨qz4 (qt6 176 rfl rfl) (qt6 178 rfl rfl) (qtp 45 rfl rfl) (qt1 9 rfl rfl), qz0 , by decide +kernel⟩
theorem qe_8_386 : qEnt (8, 386, 12, 21321) := ⟨qz3 (qt6 185 rfl rfl) (qt6 186 rfl rfl) (qt1 9 rfl rfl), qz0 , by decide +kernel⟩
theorem qe_8_389 : qEnt (8, 389, 11, 21521) := ⟨qz4 (qt6 193 rfl rfl) (qt6 195 rfl rfl) (qtp 46 rfl rfl) (qt1 9 rfl rfl), qz0 , by decide +kernel⟩
theorem qe_8_392 : qEnt (8, 392, 1, 8240) := ⟨qz1 (qt5 145 rfl rfl), qz0 , by decide +kernel⟩
theorem qe_8_395 : qEnt (8, 395, 4, 22) := ⟨qz0 , qz0 , by decide +kernel⟩
theorem qe_8_397 : qEnt (8, 397, 11, 15911) := ⟨qz4 (qt6 222 rfl rfl) (qt6 224 rfl rfl) (qtp 49 rfl rfl) (qt1 9 rfl rfl), qz0 , by decide +kernel⟩
theorem qe_8_400 : qEnt (8, 400, 11, 23011) := ⟨qz4 (qt6 217 rfl rfl) (qt6 219 rfl rfl) (qtp 48 rfl rfl) (qt1 9 rfl rfl), qz0 , by decide +kernel⟩
theorem qe_8_403 : qEnt (8, 403, 11, 23121) := ⟨qz4 (qt6 226 rfl rfl) (qt6 228 rfl rfl) (qtp 50 rfl rfl) (qt1 9 rfl rfl), qz0 , by decide +kernel⟩
theorem qe_8_406 : qEnt (8, 406, 11, 23641) := ⟨qz4 (qt7 6 rfl rfl) (qt7 8 rfl rfl) (qtp 51 rfl rfl) (qt1 9 rfl rfl), qz0 , by decide +kernel⟩
theorem qe_8_409 : qEnt (8, 409, 1, 8250) := ⟨qz1 (qt5 146 rfl rfl), qz0 , by decide +kernel⟩
theorem qe_8_412 : qEnt (8, 412, 11, 23841) := ⟨qz4 (qt7 14 rfl rfl) (qt7 16 rfl rfl) (qtp 52 rfl rfl) (qt1 9 rfl rfl), qz0 , by decide +kernel⟩
theorem qe_8_415 : qEnt (8, 415, 3, 4) := ⟨qz1 (qt7 22 rfl rfl), qz0 , by decide +kernel⟩
theorem qe_8_417 : qEnt (8, 417, 2, 1000000) := ⟨qz1 (qt7 43 rfl rfl), qz0 , by decide +kernel⟩
theorem qe_8_418 : qEnt (8, 418, 11, 24420) := ⟨qz4 (qt7 39 rfl rfl) (qt7 41 rfl rfl) (qtp 53 rfl rfl) (qt1 9 rfl rfl), qz0 , by decide +kernel⟩
theorem qe_8_421 : qEnt (8, 421, 11, 24710) := ⟨qz4 (qt7 52 rfl rfl) (qt7 54 rfl rfl) (qtp 54 rfl rfl) (qt1 9 rfl rfl), qz0 , by decide +kernel⟩
theorem qe_8_424 : qEnt (8, 424, 12, 26611) := ⟨qz3 (qt7 60 rfl rfl) (qt7 61 rfl rfl) (qt1 20 rfl rfl), qz0 , by decide +kernel⟩
theorem qe_8_427 : qEnt (8, 427, 22, 0) := ⟨qz4 (qt7 80 rfl rfl) (qt3 219 rfl rfl) (qt1 10 rfl rfl) (qt3 220 rfl rfl), qz0 , by decide +kernel⟩
theorem qe_8_430 : qEnt (8, 430, 12, 25411) := ⟨qz3 (qt7 85 rfl rfl) (qt7 86 rfl rfl) (qt1 9 rfl rfl), qz0 , by decide +kernel⟩
theorem qe_8_433 : qEnt (8, 433, 1, 8280) := ⟨qz1 (qt5 149 rfl rfl), qz0 , by decide +kernel⟩
theorem qe_8_436 : qEnt (8, 436, 2, 1103515245) := ⟨qz1 (qt7 101 rfl rfl), qz0 , by decide +kernel⟩
theorem qe_8_437 : qEnt (8, 437, 11, 25721) := ⟨qz4 (qt7 97 rfl rfl) (qt7 99 rfl rfl) (qtp 55 rfl rfl) (qt1 9 rfl rfl), qz0 , by decide +kernel⟩
theorem qe_8_440 : qEnt (8, 440, 3, 40) := ⟨qz1 (qt7 96 rfl rfl), qz0 , by decide +kernel⟩
theorem qe_8_442 : qEnt (8, 442, 11, 25830) := ⟨qz4 (qt7 102 rfl rfl) (qt7 104 rfl rfl) (qtp 56 rfl rfl) (qt1 9 rfl rfl), qz0 , by decide +kernel⟩
theorem qe_8_446 : qEnt (8, 446, 12, 25911) := ⟨qz3 (qt7 106 rfl rfl) (qt7 107 rfl rfl) (qt1 9 rfl rfl), qz0 , by decide +kernel⟩
def qcps_8_0 : List (Nat × Nat × Int) := [(3, 1, 8000), (7, 1, 8022), (11, 1, 8010), (14, 12, 14511), (18, 3, 84), (20, 12, 14131), (24, 3, 6), (26, 5, 3), (30, 12, 14221), (34, 5, 4), (37, 12, 15021), (41, 11, 14420), (45, 12, 14311), (49, 12, 14921), (52, 1, 8040), (55, 1, 8032), (58, 1, 8050), (61, 1, 8070), (64, 21, 0), (69, 1, 8060)]
theorem qcps_8_0_ok : ∀ e ∈ qcps_8_0, qEnt (8, e) := List.forall_mem_cons.mpr ⟨qe_8_3, List.forall_mem_cons.mpr ⟨qe_8_7, List.forall_mem_cons.mpr ⟨qe_8_11, List.forall_mem_cons.mpr ⟨qe_8_14, List.forall_mem_cons.mpr ⟨qe_8_18, List.forall_mem_cons.mpr ⟨qe_8_20, List.forall_mem_cons.mpr ⟨qe_8_24, List.forall_mem_cons.mpr ⟨qe_8_26, List.forall_mem_cons.mpr ⟨qe_8_30, List.forall_mem_cons.mpr ⟨qe_8_34, List.forall_mem_cons.mpr ⟨qe_8_37, List.forall_mem_cons.mpr ⟨qe_8_41, List.forall_mem_cons.mpr ⟨qe_8_45, List.forall_mem_cons.mpr ⟨qe_8_49, List.forall_mem_cons.mpr ⟨qe_8_52, List.forall_mem_cons.mpr ⟨qe_8_55, List.forall_mem_cons.mpr ⟨qe_8_58, List.forall_mem_cons.mpr ⟨qe_8_61, List.forall_mem_cons.mpr ⟨qe_8_64, List.forall_mem_cons.mpr ⟨qe_8_69, (fun _ h => absurd h List.not_mem_nil)⟩⟩⟩⟩⟩⟩⟩⟩⟩⟩⟩⟩⟩⟩⟩⟩⟩⟩⟩⟩
def qcps_8_1 : List (Nat × Nat × Int) := [(72, 3, 48), (74, 3, 57), (76, 11, 26811), (82, 11, 26921), (86, 11, 15611), (90, 11, 15821), (93, 11, 15421), (96, 11, 15521), (100, 1, 8092), (103, 1, 8110), (106, 11, 16311), (109, 11, 16220), (113, 4, 18), (115, 11, 15721), (119, 11, 16421), (122, 4, 19), (124, 4, 20), (126, 4, 21), (128, 11, 16041), (132, 1, 8100)]
theorem qcps_8_1_ok : ∀ e ∈ qcps_8_1, qEnt (8, e) := List.forall_mem_cons.mpr ⟨qe_8_72, List.forall_mem_cons.mpr ⟨qe_8_74, List.forall_mem_cons.mpr ⟨qe_8_76, List.forall_mem_cons.mpr ⟨qe_8_82, List.forall_mem_cons.mpr ⟨qe_8_86, List.forall_mem_cons.mpr ⟨qe_8_90, List.forall_mem_cons.mpr ⟨qe_8_93, List.forall_mem_cons.mpr ⟨qe_8_96, List.forall_mem_cons.mpr ⟨qe_8_100, List.forall_mem_cons.mpr ⟨qe_8_103, List.forall_mem_cons.mpr ⟨qe_8_106, List.forall_mem_cons.mpr ⟨qe_8_109, List.forall_mem_cons.mpr ⟨qe_8_113, List.forall_mem_cons.mpr ⟨qe_8_115, List.forall_mem_cons.mpr ⟨qe_8_119, List.forall_mem_cons.mpr ⟨qe_8_122, List.forall_mem_cons.mpr ⟨qe_8_124, List.forall_mem_cons.mpr ⟨qe_8_126, List.forall_mem_cons.mpr ⟨qe_8_128, List.forall_mem_cons.mpr ⟨qe_8_132, (fun _ h => absurd h List.not_mem_nil)⟩⟩⟩⟩⟩⟩⟩⟩⟩⟩⟩⟩⟩⟩⟩⟩⟩⟩⟩⟩
def qcps_8_2 : List (Nat × Nat × Int) := [(135, 1, 8082), (138, 11, 16511), (141, 11, 16630), (145, 1, 8122), (148, 12, 16831), (152, 1, 8132), (155, 17, 0), (161, 1, 8142), (164, 1, 8152), (167, 1, 8172), (170, 1, 8192), (173, 1, 8202), (176, 1, 8212), (179, 1, 8222), (182, 1, 8232), (185, 1, 8262), (188, 1, 8272), (191, 1, 8292), (195, 1, 8302), (198, 3, 7)]
theorem qcps_8_2_ok : ∀ e ∈ qcps_8_2, qEnt (8, e) := List.forall_mem_cons.mpr ⟨qe_8_135, List.forall_mem_cons.mpr ⟨qe_8_138, List.forall_mem_cons.mpr ⟨qe_8_141, List.forall_mem_cons.mpr ⟨qe_8_145, List.forall_mem_cons.mpr ⟨qe_8_148, List.forall_mem_cons.mpr ⟨qe_8_152, List.forall_mem_cons.mpr ⟨qe_8_155, List.forall_mem_cons.mpr ⟨qe_8_161, List.forall_mem_cons.mpr ⟨qe_8_164, List.forall_mem_cons.mpr ⟨qe_8_167, List.forall_mem_cons.mpr ⟨qe_8_170, List.forall_mem_cons.mpr ⟨qe_8_173, List.forall_mem_cons.mpr ⟨qe_8_176, List.forall_mem_cons.mpr ⟨qe_8_179, List.forall_mem_cons.mpr ⟨qe_8_182, List.forall_mem_cons.mpr ⟨qe_8_185, List.forall_mem_cons.mpr ⟨qe_8_188, List.forall_mem_cons.mpr ⟨qe_8_191, List.forall_mem_cons.mpr ⟨qe_8_195, List.forall_mem_cons.mpr ⟨qe_8_198, (fun _ h => absurd h List.not_mem_nil)⟩⟩⟩⟩⟩⟩⟩⟩⟩⟩⟩⟩⟩⟩⟩⟩⟩⟩⟩⟩
def qcps_8_3 : List (Nat × Nat × Int) := [(200, 12, 17231), (204, 12, 17621), (208, 12, 17831), (212, 12, 17731), (215, 12, 18121), (219, 12, 18431), (222, 12, 18521), (225, 12, 18621), (228, 12, 17321), (231, 12, 18821), (234, 12, 17421), (237, 11, 16911), (240, 12, 19241), (244, 12, 18021), (247, 12, 17921), (250, 12, 18341), (254, 12, 19341), (257, 12, 19040), (261, 12, 19111), (264, 12, 19521)]
theorem qcps_8_3_ok : ∀ e ∈ qcps_8_3, qEnt (8, e) := List.forall_mem_cons.mpr ⟨qe_8_200, List.forall_mem_cons.mpr ⟨qe_8_204, List.forall_mem_cons.mpr ⟨qe_8_208, List.forall_mem_cons.mpr ⟨qe_8_212, List.forall_mem_cons.mpr ⟨qe_8_215, List.forall_mem_cons.mpr ⟨qe_8_219, List.forall_mem_cons.mpr ⟨qe_8_222, List.forall_mem_cons.mpr ⟨qe_8_225, List.forall_mem_cons.mpr ⟨qe_8_228, List.forall_mem_cons.mpr ⟨qe_8_231, List.forall_mem_cons.mpr ⟨qe_8_234, List.forall_mem_cons.mpr ⟨qe_8_237, List.forall_mem_cons.mpr ⟨qe_8_240, List.forall_mem_cons.mpr ⟨qe_8_244, List.forall_mem_cons.mpr ⟨qe_8_247, List.forall_mem_cons.mpr ⟨qe_8_250, List.forall_mem_cons.mpr ⟨qe_8_254, List.forall_mem_cons.mpr ⟨qe_8_257, List.forall_mem_cons.mpr ⟨qe_8_261, List.forall_mem_cons.mpr ⟨qe_8_264, (fun _ h => absurd h List.not_mem_nil)⟩⟩⟩⟩⟩⟩⟩⟩⟩⟩⟩⟩⟩⟩⟩⟩⟩⟩⟩⟩
def qcps_8_4 : List (Nat × Nat × Int) := [(267, 12, 19631), (270, 12, 19441), (272, 12, 19931), (275, 11, 20341), (278, 12, 14621), (281, 12, 20031), (284, 12, 20131), (287, 12, 20231), (290, 1, 8160), (293, 11, 20440), (297, 11, 20530), (300, 12, 18231), (303, 3, 15), (305, 11, 19840), (309, 12, 17111), (312, 12, 14711), (315, 12, 14811), (318, 12, 19741), (321, 3, 9), (323, 12, 17521)]
theorem qcps_8_4_ok : ∀ e ∈ qcps_8_4, qEnt (8, e) := List.forall_mem_cons.mpr ⟨qe_8_267, List.forall_mem_cons.mpr ⟨qe_8_270, List.forall_mem_cons.mpr ⟨qe_8_272, List.forall_mem_cons.mpr ⟨qe_8_275, List.forall_mem_cons.mpr ⟨qe_8_278, List.forall_mem_cons.mpr ⟨qe_8_281, List.forall_mem_cons.mpr ⟨qe_8_284, List.forall_mem_cons.mpr ⟨qe_8_287, List.forall_mem_cons.mpr ⟨qe_8_290, List.forall_mem_cons.mpr ⟨qe_8_293, List.forall_mem_cons.mpr ⟨qe_8_297, List.forall_mem_cons.mpr ⟨qe_8_300, List.forall_mem_cons.mpr ⟨qe_8_303, List.forall_mem_cons.mpr ⟨qe_8_305, List.forall_mem_cons.mpr ⟨qe_8_309, List.forall_mem_cons.mpr ⟨qe_8_312, List.forall_mem_cons.mpr ⟨qe_8_315, List.forall_mem_cons.mpr ⟨qe_8_318, List.forall_mem_cons.mpr ⟨qe_8_321, List.forall_mem_cons.mpr ⟨qe_8_323, (fun _ h => absurd h List.not_mem_nil)⟩⟩⟩⟩⟩⟩⟩⟩⟩⟩⟩⟩⟩⟩⟩⟩⟩⟩⟩⟩
def qcps_8_5 : List (Nat × Nat × Int) := [(326, 12, 26711), (331, 11, 21031), (334, 3, 20), (336, 3, 2), (338, 3, 5), (340, 12, 18711), (344, 11, 18931), (347, 12, 26521), (350, 11, 21421), (353, 1, 8180), (356, 11, 21721), (359, 11, 14011), (362, 11, 21610), (365, 11, 20731), (368, 11, 21821), (371, 12, 20831), (374, 11, 20651), (377, 11, 20941), (380, 11, 21131), (383, 11, 21241)]
theorem qcps_8_5_ok : ∀ e ∈ qcps_8_5, qEnt (8, e) := List.forall_mem_cons.mpr ⟨qe_8_326, List.forall_mem_cons.mpr ⟨qe_8_331, List.forall_mem_cons.mpr ⟨qe_8_334, List.forall_mem_cons.mpr ⟨qe_8_336, List.forall_mem_cons.mpr ⟨qe_8_338, List.forall_mem_cons.mpr ⟨qe_8_340, List.forall_mem_cons.mpr ⟨qe_8_344, List.forall_mem_cons.mpr ⟨qe_8_347, List.forall_mem_cons.mpr ⟨qe_8_350, List.forall_mem_cons.mpr ⟨qe_8_353, List.forall_mem_cons.mpr ⟨qe_8_356, List.forall_mem_cons.mpr ⟨qe_8_359, List.forall_mem_cons.mpr ⟨qe_8_362, List.forall_mem_cons.mpr ⟨qe_8_365, List.forall_mem_cons.mpr ⟨qe_8_368, List.forall_mem_cons.mpr ⟨qe_8_371, List.forall_mem_cons.mpr ⟨qe_8_374, List.forall_mem_cons.mpr ⟨qe_8_377, List.forall_mem_cons.mpr ⟨qe_8_380, List.forall_mem_cons.mpr ⟨qe_8_383, (fun _ h => absurd h List.not_mem_nil)⟩⟩⟩⟩⟩⟩⟩⟩⟩⟩⟩⟩⟩⟩⟩⟩⟩⟩⟩⟩
def qcps_8_6 : List (Nat × Nat × Int) := [(386, 12, 21321), (389, 11, 21521), (392, 1, 8240), (395, 4, 22), (397, 11, 15911), (400, 11, 23011), (403, 11, 23121), (406, 11, 23641), (409, 1, 8250), (412, 11, 23841), (415, 3, 4), (417, 2, 1000000), (418, 11, 24420), (421, 11, 24710), (424, 12, 26611), (427, 22, 0), (430, 12, 25411), (433, 1, 8280), (436, 2, 1103515245), (437, 11, 25721)]
theorem qcps_8_6_ok : ∀ e ∈ qcps_8_6, qEnt (8, e) := List.forall_mem_cons.mpr ⟨qe_8_386, List.forall_mem_cons.mpr ⟨qe_8_389, List.forall_mem_cons.mpr ⟨qe_8_392, List.forall_mem_cons.mpr ⟨qe_8_395, List.forall_mem_cons.mpr ⟨qe_8_397, List.forall_mem_cons.mpr ⟨qe_8_400, List.forall_mem_cons.mpr ⟨qe_8_403, List.forall_mem_cons.mpr ⟨qe_8_406, List.forall_mem_cons.mpr ⟨qe_8_409, List.forall_mem_cons.mpr ⟨qe_8_412, List.forall_mem_cons.mpr ⟨qe_8_415, List.forall_mem_cons.mpr ⟨qe_8_417, List.forall_mem_cons.mpr ⟨qe_8_418, List.forall_mem_cons.mpr ⟨qe_8_421, List.forall_mem_cons.mpr ⟨qe_8_424, List.forall_mem_cons.mpr ⟨qe_8_427, List.forall_mem_cons.mpr ⟨qe_8_430, List.forall_mem_cons.mpr ⟨qe_8_433, List.forall_mem_cons.mpr ⟨qe_8_436, List.forall_mem_cons.mpr ⟨qe_8_437, (fun _ h => absurd h List.not_mem_nil)⟩⟩⟩⟩⟩⟩⟩⟩⟩⟩⟩⟩⟩⟩⟩⟩⟩⟩⟩⟩
def qcps_8_7 : List (Nat × Nat × Int) := [(440, 3, 40), (442, 11, 25830), (446, 12, 25911)]
theorem qcps_8_7_ok : ∀ e ∈ qcps_8_7, qEnt (8, e) := List.forall_mem_cons.mpr ⟨qe_8_440, List.forall_mem_cons.mpr ⟨qe_8_442, List.forall_mem_cons.mpr ⟨qe_8_446, (fun _ h => absurd h List.not_mem_nil)⟩⟩⟩
theorem qcps_8_ok : ∀ e ∈ qcps_8, qEnt (8, e) := by
  rw [show qcps_8 = qcps_8_0 ++ (qcps_8_1 ++ (qcps_8_2 ++ (qcps_8_3 ++ (qcps_8_4 ++ (qcps_8_5 ++ (qcps_8_6 ++ (qcps_8_7))))))) from rfl]
  exact List.forall_mem_append.mpr ⟨qcps_8_0_ok, List.forall_mem_append.mpr ⟨qcps_8_1_ok, List.forall_mem_append.mpr ⟨qcps_8_2_ok, List.forall_mem_append.mpr ⟨qcps_8_3_ok, List.forall_mem_append.mpr ⟨qcps_8_4_ok, List.forall_mem_append.mpr ⟨qcps_8_5_ok, List.forall_mem_append.mpr ⟨qcps_8_6_ok, qcps_8_7_ok⟩⟩⟩⟩⟩⟩⟩
def qcps_9_0 : List (Nat × Nat × Int) := []
theorem qcps_9_0_ok : ∀ e ∈ qcps_9_0, qEnt (9, e) := (fun _ h => absurd h List.not_mem_nil)
theorem qcps_9_ok : ∀ e ∈ qcps_9, qEnt (9, e) := by
  rw [show qcps_9 = qcps_9_0 from rfl]
  exact qcps_9_0_ok
theorem qe_10_9 : qEnt (10, 9, 19, 0) := ⟨qz1 (qt7 138 rfl rfl), qz0 , by decide +kernel⟩
theorem qe_10_15 : qEnt (10, 15, 20, 1) := ⟨qz1 (qt7 139 rfl rfl), qz0 , by decide +kernel⟩
theorem qe_10_38 : qEnt (10, 38, 7, 1) := ⟨qz1 (qt2 139 rfl rfl), qz0 , by decide +kernel⟩
theorem qe_10_335 : qEnt (10, 335, 11, 27011) := ⟨qz4 (qt2 135 rfl rfl) (qt2 136 rfl rfl) (qt2 137 rfl rfl) (qt1 12 rfl rfl), qz0 , by decide +kernel⟩
theorem qe_10_492 : qEnt (10, 492, 11, 27111) := ⟨qz4 (qt2 145 rfl rfl) (qt2 146 rfl rfl) (qt2 147 rfl rfl) (qt1 12 rfl rfl), qz0 , by decide +kernel⟩
theorem qe_10_495 : qEnt (10, 495, 12, 27321) := ⟨qz3 (qt2 149 rfl rfl) (qt2 150 rfl rfl) (qt1 13 rfl rfl), qz0 , by decide +kernel⟩
theorem qe_10_498 : qEnt (10, 498, 12, 27621) := ⟨qz3 (qt2 160 rfl rfl) (qt2 161 rfl rfl) (qt1 15 rfl rfl), qz0 , by decide +kernel⟩
theorem qe_10_1053 : qEnt (10, 1053, 8, 50) := ⟨qz1 (qt2 155 rfl rfl), qz0 , by decide +kernel⟩
theorem qe_10_1059 : qEnt (10, 1059, 12, 27831) := ⟨qz3 (qt2 157 rfl rfl) (qt2 158 rfl rfl) (qt1 14 rfl rfl), qz0 , by decide +kernel⟩
def qcps_10_0 : List (Nat × Nat × Int) := [(9, 19, 0), (15, 20, 1), (38, 7, 1), (335, 11, 27011), (492, 11, 27111), (495, 12, 27321), (498, 12, 27621), (1053, 8, 50), (1059, 12, 27831)]
theorem qcps_10_0_ok : ∀ e ∈ qcps_10_0, qEnt (10, e) := List.forall_mem_cons.mpr ⟨qe_10_9, List.forall_mem_cons.mpr ⟨qe_10_15, List.forall_mem_cons.mpr ⟨qe_10_38, List.forall_mem_cons.mpr ⟨qe_10_335, List.forall_mem_cons.mpr ⟨qe_10_492, List.forall_mem_cons.mpr ⟨qe_10_495, List.forall_mem_cons.mpr ⟨qe_10_498, List.forall_mem_cons.mpr ⟨qe_10_1053, List.forall_mem_cons.mpr ⟨qe_10_1059, (fun _ h => absurd h List.not_mem_nil)⟩⟩⟩⟩⟩⟩⟩⟩⟩
theorem qcps_10_ok : ∀ e ∈ qcps_10, qEnt (10, e) := by
  rw [show qcps_10 = qcps_10_0 from rfl]
  exact qcps_10_0_ok
theorem qe_11_9 : qEnt (11, 9, 12, 27220) := ⟨qz3 (qt2 152 rfl rfl) (qt2 153 rfl rfl) (qt1 12 rfl rfl), qz0 , by decide +kernel⟩
def qcps_11_0 : List (Nat × Nat × Int) := [(9, 12, 27220)]
theorem qcps_11_0_ok : ∀ e ∈ qcps_11_0, qEnt (11, e) := List.forall_mem_cons.mpr ⟨qe_11_9, (fun _ h => absurd h List.not_mem_nil)⟩
theorem qcps_11_ok : ∀ e ∈ qcps_11, qEnt (11, e) := by
  rw [show qcps_11 = qcps_11_0 from rfl]
  exact qcps_11_0_ok
def qcps_12_0 : List (Nat × Nat × Int) := []
theorem qcps_12_0_ok : ∀ e ∈ qcps_12_0, qEnt (12, e) := (fun _ h => absurd h List.not_mem_nil)
theorem qcps_12_ok : ∀ e ∈ qcps_12, qEnt (12, e) := by
  rw [show qcps_12 = qcps_12_0 from rfl]
  exact qcps_12_0_ok
theorem qe_13_264 : qEnt (13, 264, 2, 65536) := ⟨qz1 (qt7 63 rfl rfl), qz0 , by decide +kernel⟩
theorem qe_13_265 : qEnt (13, 265, 2, 1431655765) := ⟨qz1 (qt3 104 rfl rfl), qz0 , by decide +kernel⟩
theorem qe_13_266 : qEnt (13, 266, 2, 858993459) := ⟨qz1 (qt3 105 rfl rfl), qz0 , by decide +kernel⟩
theorem qe_13_267 : qEnt (13, 267, 2, 252645135) := ⟨qz1 (qt3 106 rfl rfl), qz0 , by decide +kernel⟩
def qcps_13_0 : List (Nat × Nat × Int) := [(264, 2, 65536), (265, 2, 1431655765), (266, 2, 858993459), (267, 2, 252645135)]
theorem qcps_13_0_ok : ∀ e ∈ qcps_13_0, qEnt (13, e) := List.forall_mem_cons.mpr ⟨qe_13_264, List.forall_mem_cons.mpr ⟨qe_13_265, List.forall_mem_cons.mpr ⟨qe_13_266, List.forall_mem_cons.mpr ⟨qe_13_267, (fun _ h => absurd h List.not_mem_nil)⟩⟩⟩⟩
theorem qcps_13_ok : ∀ e ∈ qcps_13, qEnt (13, e) := by
  rw [show qcps_13 = qcps_13_0 from rfl]
  exact qcps_13_0_ok
def qcps_14_0 : List (Nat × Nat × Int) := []
theorem qcps_14_0_ok : ∀ e ∈ qcps_14_0, qEnt (14, e) := (fun _ h => absurd h List.not_mem_nil)
theorem qcps_14_ok : ∀ e ∈ qcps_14, qEnt (14, e) := by
  rw [show qcps_14 = qcps_14_0 from rfl]
  exact qcps_14_0_ok
def qcps_15_0 : List (Nat × Nat × Int) := []
theorem qcps_15_0_ok : ∀ e ∈ qcps_15_0, qEnt (15, e) := (fun _ h => absurd h List.not_mem_nil)
theorem qcps_15_ok : ∀ e ∈ qcps_15, qEnt (15, e) := by
  rw [show qcps_15 = qcps_15_0 from rfl]
  exact qcps_15_0_ok
theorem qcp_all (o : Nat) : ∀ e ∈ (qnth qcps o).getD [], qEnt (o, e) := by
  match o with
  | 0 => exact qcps_0_ok
  | 1 => exact qcps_1_ok
  | 2 => exact qcps_2_ok
  | 3 => exact qcps_3_ok
  | 4 => exact qcps_4_ok
  | 5 => exact qcps_5_ok
  | 6 => exact qcps_6_ok
  | 7 => exact qcps_7_ok
  | 8 => exact qcps_8_ok
  | 9 => exact qcps_9_ok
  | 10 => exact qcps_10_ok
  | 11 => exact qcps_11_ok
  | 12 => exact qcps_12_ok
  | 13 => exact qcps_13_ok
  | 14 => exact qcps_14_ok
  | 15 => exact qcps_15_ok
  | n + 16 => intro e he; cases he
/-- what an entry gives -/
theorem qcp_ok {o j tag : Nat} {v : Int} (h : qcpl o j = (tag, v)) (ht : tag ≠ 0) : qEnt (o, j, tag, v) := by
  unfold qcpl at h
  split at h
  · rename_i e he
    have hm := List.mem_of_find?_eq_some he
    have hp := List.find?_some he
    simp only [beq_iff_eq] at hp
    have hc := qcp_all o e hm
    obtain ⟨j', e2⟩ := e
    simp only at hp h
    subst hp; subst h
    exact hc
  · simp only [Prod.mk.injEq] at h
    exact absurd h.1.symm ht
/-- the methods' own words -/
def qMOK (M : Nat) : Prop := .code (qmy M) (qm M).2.2.2.1 (qm M).2.2.2.2.1 (qm M).2.2.2.2.2.1 ∈ qG ∧ .initialized (qmy M).cls ∈ qG ∧ plainName (qmy M).cls = true ∧ ((qmy M).cls ≠ "java/lang/invoke/MethodHandle" ∧ (qmy M).cls ≠ "java/lang/invoke/VarHandle") ∧ (qmy M).cls = qown (qm M).1
theorem qmk_0 : qMOK 0 := ⟨(qt1 33 rfl rfl), (qt1 2 rfl rfl), by decide +kernel, by decide +kernel, by decide +kernel⟩
theorem qmk_1 : qMOK 1 := ⟨(qt4 145 rfl rfl), (qt1 2 rfl rfl), by decide +kernel, by decide +kernel, by decide +kernel⟩
theorem qmk_2 : qMOK 2 := ⟨(qt3 208 rfl rfl), (qt1 2 rfl rfl), by decide +kernel, by decide +kernel, by decide +kernel⟩
theorem qmk_3 : qMOK 3 := ⟨(qt2 201 rfl rfl), (qt1 2 rfl rfl), by decide +kernel, by decide +kernel, by decide +kernel⟩
theorem qmk_4 : qMOK 4 := ⟨(qt2 220 rfl rfl), (qt1 2 rfl rfl), by decide +kernel, by decide +kernel, by decide +kernel⟩
theorem qmk_5 : qMOK 5 := ⟨(qt2 233 rfl rfl), (qt1 2 rfl rfl), by decide +kernel, by decide +kernel, by decide +kernel⟩
theorem qmk_6 : qMOK 6 := ⟨(qt3 100 rfl rfl), (qt1 2 rfl rfl), by decide +kernel, by decide +kernel, by decide +kernel⟩
theorem qmk_7 : qMOK 7 := ⟨(qt3 114 rfl rfl), (qt1 2 rfl rfl), by decide +kernel, by decide +kernel, by decide +kernel⟩
theorem qmk_8 : qMOK 8 := ⟨(qt3 134 rfl rfl), (qt1 2 rfl rfl), by decide +kernel, by decide +kernel, by decide +kernel⟩
theorem qmk_9 : qMOK 9 := ⟨(qt3 143 rfl rfl), (qt1 2 rfl rfl), by decide +kernel, by decide +kernel, by decide +kernel⟩
theorem qmk_10 : qMOK 10 := ⟨(qt3 151 rfl rfl), (qt1 2 rfl rfl), by decide +kernel, by decide +kernel, by decide +kernel⟩
theorem qmk_11 : qMOK 11 := ⟨(qt3 155 rfl rfl), (qt1 2 rfl rfl), by decide +kernel, by decide +kernel, by decide +kernel⟩
theorem qmk_12 : qMOK 12 := ⟨(qt4 83 rfl rfl), (qt1 2 rfl rfl), by decide +kernel, by decide +kernel, by decide +kernel⟩
theorem qmk_13 : qMOK 13 := ⟨(qt3 122 rfl rfl), (qt1 2 rfl rfl), by decide +kernel, by decide +kernel, by decide +kernel⟩
theorem qmk_14 : qMOK 14 := ⟨(qt2 224 rfl rfl), (qt1 2 rfl rfl), by decide +kernel, by decide +kernel, by decide +kernel⟩
theorem qmk_15 : qMOK 15 := ⟨(qt3 59 rfl rfl), (qt1 2 rfl rfl), by decide +kernel, by decide +kernel, by decide +kernel⟩
theorem qmk_16 : qMOK 16 := ⟨(qt3 63 rfl rfl), (qt1 2 rfl rfl), by decide +kernel, by decide +kernel, by decide +kernel⟩
theorem qmk_17 : qMOK 17 := ⟨(qt3 67 rfl rfl), (qt1 2 rfl rfl), by decide +kernel, by decide +kernel, by decide +kernel⟩
theorem qmk_18 : qMOK 18 := ⟨(qt3 22 rfl rfl), (qt1 2 rfl rfl), by decide +kernel, by decide +kernel, by decide +kernel⟩
theorem qmk_19 : qMOK 19 := ⟨(qt3 50 rfl rfl), (qt1 2 rfl rfl), by decide +kernel, by decide +kernel, by decide +kernel⟩
theorem qmk_20 : qMOK 20 := ⟨(qt1 150 rfl rfl), (qt1 5 rfl rfl), by decide +kernel, by decide +kernel, by decide +kernel⟩
theorem qmk_21 : qMOK 21 := ⟨(qt2 192 rfl rfl), (qt1 5 rfl rfl), by decide +kernel, by decide +kernel, by decide +kernel⟩
theorem qmk_22 : qMOK 22 := ⟨(qt2 212 rfl rfl), (qt1 5 rfl rfl), by decide +kernel, by decide +kernel, by decide +kernel⟩
theorem qmk_23 : qMOK 23 := ⟨(qt3 228 rfl rfl), (qt1 5 rfl rfl), by decide +kernel, by decide +kernel, by decide +kernel⟩
theorem qmk_24 : qMOK 24 := ⟨(qt1 110 rfl rfl), (qt1 4 rfl rfl), by decide +kernel, by decide +kernel, by decide +kernel⟩
theorem qmk_25 : qMOK 25 := ⟨(qt3 159 rfl rfl), (qt1 4 rfl rfl), by decide +kernel, by decide +kernel, by decide +kernel⟩
theorem qmk_26 : qMOK 26 := ⟨(qt3 171 rfl rfl), (qt1 4 rfl rfl), by decide +kernel, by decide +kernel, by decide +kernel⟩
theorem qmk_27 : qMOK 27 := ⟨(qt4 53 rfl rfl), (qt1 4 rfl rfl), by decide +kernel, by decide +kernel, by decide +kernel⟩
theorem qmk_28 : qMOK 28 := ⟨(qt3 167 rfl rfl), (qt1 4 rfl rfl), by decide +kernel, by decide +kernel, by decide +kernel⟩
theorem qmk_29 : qMOK 29 := ⟨(qt4 66 rfl rfl), (qt1 4 rfl rfl), by decide +kernel, by decide +kernel, by decide +kernel⟩
theorem qmk_30 : qMOK 30 := ⟨(qt4 70 rfl rfl), (qt1 4 rfl rfl), by decide +kernel, by decide +kernel, by decide +kernel⟩
theorem qmk_31 : qMOK 31 := ⟨(qt4 74 rfl rfl), (qt1 4 rfl rfl), by decide +kernel, by decide +kernel, by decide +kernel⟩
theorem qmk_32 : qMOK 32 := ⟨(qt1 189 rfl rfl), (qt1 7 rfl rfl), by decide +kernel, by decide +kernel, by decide +kernel⟩
theorem qmk_33 : qMOK 33 := ⟨(qt2 115 rfl rfl), (qt1 7 rfl rfl), by decide +kernel, by decide +kernel, by decide +kernel⟩
theorem qmk_34 : qMOK 34 := ⟨(qt3 126 rfl rfl), (qt1 7 rfl rfl), by decide +kernel, by decide +kernel, by decide +kernel⟩
theorem qmk_35 : qMOK 35 := ⟨(qt2 111 rfl rfl), (qt1 7 rfl rfl), by decide +kernel, by decide +kernel, by decide +kernel⟩
theorem qmk_36 : qMOK 36 := ⟨(qt3 186 rfl rfl), (qt1 7 rfl rfl), by decide +kernel, by decide +kernel, by decide +kernel⟩
theorem qmk_37 : qMOK 37 := ⟨(qt1 205 rfl rfl), (qt1 8 rfl rfl), by decide +kernel, by decide +kernel, by decide +kernel⟩
theorem qmk_38 : qMOK 38 := ⟨(qt2 93 rfl rfl), (qt1 8 rfl rfl), by decide +kernel, by decide +kernel, by decide +kernel⟩
theorem qmk_39 : qMOK 39 := ⟨(qt2 45 rfl rfl), (qt1 8 rfl rfl), by decide +kernel, by decide +kernel, by decide +kernel⟩
theorem qmk_40 : qMOK 40 := ⟨(qt2 86 rfl rfl), (qt1 8 rfl rfl), by decide +kernel, by decide +kernel, by decide +kernel⟩
theorem qmk_41 : qMOK 41 := ⟨(qt2 56 rfl rfl), (qt1 8 rfl rfl), by decide +kernel, by decide +kernel, by decide +kernel⟩
theorem qmk_42 : qMOK 42 := ⟨(qt2 63 rfl rfl), (qt1 8 rfl rfl), by decide +kernel, by decide +kernel, by decide +kernel⟩
theorem qmk_43 : qMOK 43 := ⟨(qt2 67 rfl rfl), (qt1 8 rfl rfl), by decide +kernel, by decide +kernel, by decide +kernel⟩
theorem qmk_44 : qMOK 44 := ⟨(qt2 71 rfl rfl), (qt1 8 rfl rfl), by decide +kernel, by decide +kernel, by decide +kernel⟩
theorem qmk_45 : qMOK 45 := ⟨(qt2 82 rfl rfl), (qt1 8 rfl rfl), by decide +kernel, by decide +kernel, by decide +kernel⟩
theorem qmk_46 : qMOK 46 := ⟨(qt2 78 rfl rfl), (qt1 8 rfl rfl), by decide +kernel, by decide +kernel, by decide +kernel⟩
theorem qmk_47 : qMOK 47 := ⟨(qt3 175 rfl rfl), (qt1 8 rfl rfl), by decide +kernel, by decide +kernel, by decide +kernel⟩
theorem qmk_48 : qMOK 48 := ⟨(qt3 182 rfl rfl), (qt1 8 rfl rfl), by decide +kernel, by decide +kernel, by decide +kernel⟩
theorem qmk_49 : qMOK 49 := ⟨(qt3 179 rfl rfl), (qt1 8 rfl rfl), by decide +kernel, by decide +kernel, by decide +kernel⟩
theorem qmk_50 : qMOK 50 := ⟨(qt2 74 rfl rfl), (qt1 8 rfl rfl), by decide +kernel, by decide +kernel, by decide +kernel⟩
theorem qmk_51 : qMOK 51 := ⟨(qt2 89 rfl rfl), (qt1 8 rfl rfl), by decide +kernel, by decide +kernel, by decide +kernel⟩
theorem qmk_52 : qMOK 52 := ⟨(qt1 39 rfl rfl), (qt1 3 rfl rfl), by decide +kernel, by decide +kernel, by decide +kernel⟩
theorem qmk_53 : qMOK 53 := ⟨(qt2 196 rfl rfl), (qt1 3 rfl rfl), by decide +kernel, by decide +kernel, by decide +kernel⟩
theorem qmk_54 : qMOK 54 := ⟨(qt3 18 rfl rfl), (qt1 3 rfl rfl), by decide +kernel, by decide +kernel, by decide +kernel⟩
theorem qmk_55 : qMOK 55 := ⟨(qt3 42 rfl rfl), (qt1 3 rfl rfl), by decide +kernel, by decide +kernel, by decide +kernel⟩
theorem qmk_56 : qMOK 56 := ⟨(qt3 96 rfl rfl), (qt1 3 rfl rfl), by decide +kernel, by decide +kernel, by decide +kernel⟩
theorem qmk_57 : qMOK 57 := ⟨(qt4 101 rfl rfl), (qt1 3 rfl rfl), by decide +kernel, by decide +kernel, by decide +kernel⟩
theorem qmk_58 : qMOK 58 := ⟨(qt3 118 rfl rfl), (qt1 3 rfl rfl), by decide +kernel, by decide +kernel, by decide +kernel⟩
theorem qmk_59 : qMOK 59 := ⟨(qt4 168 rfl rfl), (qt1 3 rfl rfl), by decide +kernel, by decide +kernel, by decide +kernel⟩
theorem qmk_60 : qMOK 60 := ⟨(qt4 152 rfl rfl), (qt1 3 rfl rfl), by decide +kernel, by decide +kernel, by decide +kernel⟩
theorem qmk_61 : qMOK 61 := ⟨(qt4 132 rfl rfl), (qt1 3 rfl rfl), by decide +kernel, by decide +kernel, by decide +kernel⟩
theorem qmk_62 : qMOK 62 := ⟨(qt3 46 rfl rfl), (qt1 3 rfl rfl), by decide +kernel, by decide +kernel, by decide +kernel⟩
theorem qmk_63 : qMOK 63 := ⟨(qt3 54 rfl rfl), (qt1 3 rfl rfl), by decide +kernel, by decide +kernel, by decide +kernel⟩
theorem qmk_64 : qMOK 64 := ⟨(qt3 7 rfl rfl), (qt1 3 rfl rfl), by decide +kernel, by decide +kernel, by decide +kernel⟩
theorem qmk_65 : qMOK 65 := ⟨(qt3 3 rfl rfl), (qt1 3 rfl rfl), by decide +kernel, by decide +kernel, by decide +kernel⟩
theorem qmk_66 : qMOK 66 := ⟨(qt3 83 rfl rfl), (qt1 3 rfl rfl), by decide +kernel, by decide +kernel, by decide +kernel⟩
theorem qmk_67 : qMOK 67 := ⟨(qt3 33 rfl rfl), (qt1 3 rfl rfl), by decide +kernel, by decide +kernel, by decide +kernel⟩
theorem qmk_68 : qMOK 68 := ⟨(qt4 27 rfl rfl), (qt1 3 rfl rfl), by decide +kernel, by decide +kernel, by decide +kernel⟩
theorem qmk_69 : qMOK 69 := ⟨(qt4 34 rfl rfl), (qt1 3 rfl rfl), by decide +kernel, by decide +kernel, by decide +kernel⟩
theorem qmk_70 : qMOK 70 := ⟨(qt4 1 rfl rfl), (qt1 3 rfl rfl), by decide +kernel, by decide +kernel, by decide +kernel⟩
theorem qmk_71 : qMOK 71 := ⟨(qt4 124 rfl rfl), (qt1 3 rfl rfl), by decide +kernel, by decide +kernel, by decide +kernel⟩
theorem qmk_72 : qMOK 72 := ⟨(qt3 79 rfl rfl), (qt1 3 rfl rfl), by decide +kernel, by decide +kernel, by decide +kernel⟩
theorem qmk_73 : qMOK 73 := ⟨(qt3 75 rfl rfl), (qt1 3 rfl rfl), by decide +kernel, by decide +kernel, by decide +kernel⟩
theorem qmk_74 : qMOK 74 := ⟨(qt4 5 rfl rfl), (qt1 3 rfl rfl), by decide +kernel, by decide +kernel, by decide +kernel⟩
theorem qmk_75 : qMOK 75 := ⟨(qt3 71 rfl rfl), (qt1 3 rfl rfl), by decide +kernel, by decide +kernel, by decide +kernel⟩
theorem qmk_76 : qMOK 76 := ⟨(qt3 163 rfl rfl), (qt1 3 rfl rfl), by decide +kernel, by decide +kernel, by decide +kernel⟩
theorem qmk_77 : qMOK 77 := ⟨(qt3 38 rfl rfl), (qt1 3 rfl rfl), by decide +kernel, by decide +kernel, by decide +kernel⟩
theorem qmk_78 : qMOK 78 := ⟨(qt3 87 rfl rfl), (qt1 3 rfl rfl), by decide +kernel, by decide +kernel, by decide +kernel⟩
theorem qmk_79 : qMOK 79 := ⟨(qt1 172 rfl rfl), (qt1 6 rfl rfl), by decide +kernel, by decide +kernel, by decide +kernel⟩
theorem qmk_80 : qMOK 80 := ⟨(qt2 33 rfl rfl), (qt1 6 rfl rfl), by decide +kernel, by decide +kernel, by decide +kernel⟩
theorem qmk_81 : qMOK 81 := ⟨(qt2 52 rfl rfl), (qt1 6 rfl rfl), by decide +kernel, by decide +kernel, by decide +kernel⟩
theorem qmk_82 : qMOK 82 := ⟨(qt3 203 rfl rfl), (qt1 6 rfl rfl), by decide +kernel, by decide +kernel, by decide +kernel⟩
theorem qmk_83 : qMOK 83 := ⟨(qt2 130 rfl rfl), (qt1 6 rfl rfl), by decide +kernel, by decide +kernel, by decide +kernel⟩
theorem qmk_84 : qMOK 84 := ⟨(qt2 125 rfl rfl), (qt1 6 rfl rfl), by decide +kernel, by decide +kernel, by decide +kernel⟩
theorem qmk_85 : qMOK 85 := ⟨(qt3 194 rfl rfl), (qt1 6 rfl rfl), by decide +kernel, by decide +kernel, by decide +kernel⟩
theorem qmk_86 : qMOK 86 := ⟨(qt3 198 rfl rfl), (qt1 6 rfl rfl), by decide +kernel, by decide +kernel, by decide +kernel⟩
theorem qmk_87 : qMOK 87 := ⟨(qt1 25 rfl rfl), (qt1 1 rfl rfl), by decide +kernel, by decide +kernel, by decide +kernel⟩
theorem qmk_88 : qMOK 88 := ⟨(qt2 29 rfl rfl), (qt1 1 rfl rfl), by decide +kernel, by decide +kernel, by decide +kernel⟩
theorem qmk_89 : qMOK 89 := ⟨(qt2 37 rfl rfl), (qt1 1 rfl rfl), by decide +kernel, by decide +kernel, by decide +kernel⟩
theorem qmk_90 : qMOK 90 := ⟨(qt2 41 rfl rfl), (qt1 1 rfl rfl), by decide +kernel, by decide +kernel, by decide +kernel⟩
theorem qmk_91 : qMOK 91 := ⟨(qt2 100 rfl rfl), (qt1 1 rfl rfl), by decide +kernel, by decide +kernel, by decide +kernel⟩
theorem qmk_92 : qMOK 92 := ⟨(qt2 121 rfl rfl), (qt1 1 rfl rfl), by decide +kernel, by decide +kernel, by decide +kernel⟩
theorem qmk_93 : qMOK 93 := ⟨(qt4 177 rfl rfl), (qt1 1 rfl rfl), by decide +kernel, by decide +kernel, by decide +kernel⟩
theorem qmk_94 : qMOK 94 := ⟨(qt5 6 rfl rfl), (qt1 1 rfl rfl), by decide +kernel, by decide +kernel, by decide +kernel⟩
theorem qmk_95 : qMOK 95 := ⟨(qt2 188 rfl rfl), (qt1 1 rfl rfl), by decide +kernel, by decide +kernel, by decide +kernel⟩
theorem qmk_96 : qMOK 96 := ⟨(qt2 216 rfl rfl), (qt1 1 rfl rfl), by decide +kernel, by decide +kernel, by decide +kernel⟩
theorem qmk_97 : qMOK 97 := ⟨(qt2 229 rfl rfl), (qt1 1 rfl rfl), by decide +kernel, by decide +kernel, by decide +kernel⟩
theorem qmk_98 : qMOK 98 := ⟨(qt3 92 rfl rfl), (qt1 1 rfl rfl), by decide +kernel, by decide +kernel, by decide +kernel⟩
theorem qmk_99 : qMOK 99 := ⟨(qt3 110 rfl rfl), (qt1 1 rfl rfl), by decide +kernel, by decide +kernel, by decide +kernel⟩
theorem qmk_100 : qMOK 100 := ⟨(qt3 130 rfl rfl), (qt1 1 rfl rfl), by decide +kernel, by decide +kernel, by decide +kernel⟩
theorem qmk_101 : qMOK 101 := ⟨(qt3 139 rfl rfl), (qt1 1 rfl rfl), by decide +kernel, by decide +kernel, by decide +kernel⟩
theorem qmk_102 : qMOK 102 := ⟨(qt3 147 rfl rfl), (qt1 1 rfl rfl), by decide +kernel, by decide +kernel, by decide +kernel⟩
theorem qmk_103 : qMOK 103 := ⟨(qt3 190 rfl rfl), (qt1 1 rfl rfl), by decide +kernel, by decide +kernel, by decide +kernel⟩
theorem qmk_104 : qMOK 104 := ⟨(qt3 224 rfl rfl), (qt1 1 rfl rfl), by decide +kernel, by decide +kernel, by decide +kernel⟩
theorem qmk_105 : qMOK 105 := ⟨(qt3 232 rfl rfl), (qt1 1 rfl rfl), by decide +kernel, by decide +kernel, by decide +kernel⟩
theorem qmk_106 : qMOK 106 := ⟨(qt3 237 rfl rfl), (qt1 1 rfl rfl), by decide +kernel, by decide +kernel, by decide +kernel⟩
theorem qmk_107 : qMOK 107 := ⟨(qt4 10 rfl rfl), (qt1 1 rfl rfl), by decide +kernel, by decide +kernel, by decide +kernel⟩
theorem qmk_108 : qMOK 108 := ⟨(qt4 15 rfl rfl), (qt1 1 rfl rfl), by decide +kernel, by decide +kernel, by decide +kernel⟩
theorem qmk_109 : qMOK 109 := ⟨(qt4 20 rfl rfl), (qt1 1 rfl rfl), by decide +kernel, by decide +kernel, by decide +kernel⟩
theorem qmk_110 : qMOK 110 := ⟨(qt4 38 rfl rfl), (qt1 1 rfl rfl), by decide +kernel, by decide +kernel, by decide +kernel⟩
theorem qmk_111 : qMOK 111 := ⟨(qt4 42 rfl rfl), (qt1 1 rfl rfl), by decide +kernel, by decide +kernel, by decide +kernel⟩
theorem qmk_112 : qMOK 112 := ⟨(qt4 47 rfl rfl), (qt1 1 rfl rfl), by decide +kernel, by decide +kernel, by decide +kernel⟩
theorem qmk_113 : qMOK 113 := ⟨(qt4 57 rfl rfl), (qt1 1 rfl rfl), by decide +kernel, by decide +kernel, by decide +kernel⟩
theorem qmk_114 : qMOK 114 := ⟨(qt4 62 rfl rfl), (qt1 1 rfl rfl), by decide +kernel, by decide +kernel, by decide +kernel⟩
theorem qmk_115 : qMOK 115 := ⟨(qt4 78 rfl rfl), (qt1 1 rfl rfl), by decide +kernel, by decide +kernel, by decide +kernel⟩
theorem qmk_116 : qMOK 116 := ⟨(qt4 87 rfl rfl), (qt1 1 rfl rfl), by decide +kernel, by decide +kernel, by decide +kernel⟩
theorem qmk_117 : qMOK 117 := ⟨(qt4 97 rfl rfl), (qt1 1 rfl rfl), by decide +kernel, by decide +kernel, by decide +kernel⟩
theorem qmk_118 : qMOK 118 := ⟨(qt4 105 rfl rfl), (qt1 1 rfl rfl), by decide +kernel, by decide +kernel, by decide +kernel⟩
theorem qmk_119 : qMOK 119 := ⟨(qt4 112 rfl rfl), (qt1 1 rfl rfl), by decide +kernel, by decide +kernel, by decide +kernel⟩
theorem qmk_120 : qMOK 120 := ⟨(qt4 116 rfl rfl), (qt1 1 rfl rfl), by decide +kernel, by decide +kernel, by decide +kernel⟩
theorem qmk_121 : qMOK 121 := ⟨(qt4 120 rfl rfl), (qt1 1 rfl rfl), by decide +kernel, by decide +kernel, by decide +kernel⟩
theorem qmk_122 : qMOK 122 := ⟨(qt4 128 rfl rfl), (qt1 1 rfl rfl), by decide +kernel, by decide +kernel, by decide +kernel⟩
theorem qmk_123 : qMOK 123 := ⟨(qt4 136 rfl rfl), (qt1 1 rfl rfl), by decide +kernel, by decide +kernel, by decide +kernel⟩
theorem qmk_124 : qMOK 124 := ⟨(qt4 140 rfl rfl), (qt1 1 rfl rfl), by decide +kernel, by decide +kernel, by decide +kernel⟩
theorem qmk_125 : qMOK 125 := ⟨(qt4 156 rfl rfl), (qt1 1 rfl rfl), by decide +kernel, by decide +kernel, by decide +kernel⟩
theorem qmk_126 : qMOK 126 := ⟨(qt4 160 rfl rfl), (qt1 1 rfl rfl), by decide +kernel, by decide +kernel, by decide +kernel⟩
theorem qmk_127 : qMOK 127 := ⟨(qt4 164 rfl rfl), (qt1 1 rfl rfl), by decide +kernel, by decide +kernel, by decide +kernel⟩
theorem qmk_128 : qMOK 128 := ⟨(qt5 13 rfl rfl), (qt1 1 rfl rfl), by decide +kernel, by decide +kernel, by decide +kernel⟩
theorem qmk_129 : qMOK 129 := ⟨(qt2 208 rfl rfl), (qt1 1 rfl rfl), by decide +kernel, by decide +kernel, by decide +kernel⟩
theorem qmk_130 : qMOK 130 := ⟨(qt4 91 rfl rfl), (qt1 1 rfl rfl), by decide +kernel, by decide +kernel, by decide +kernel⟩
theorem qmk_131 : qMOK 131 := ⟨(qt2 204 rfl rfl), (qt1 1 rfl rfl), by decide +kernel, by decide +kernel, by decide +kernel⟩
theorem qmk_132 : qMOK 132 := ⟨(qt2 236 rfl rfl), (qt1 1 rfl rfl), by decide +kernel, by decide +kernel, by decide +kernel⟩
theorem qmk_133 : qMOK 133 := ⟨(qt2 103 rfl rfl), (qt1 1 rfl rfl), by decide +kernel, by decide +kernel, by decide +kernel⟩
theorem qmk_134 : qMOK 134 := ⟨(qt2 239 rfl rfl), (qt1 1 rfl rfl), by decide +kernel, by decide +kernel, by decide +kernel⟩
theorem qmk_135 : qMOK 135 := ⟨(qt3 10 rfl rfl), (qt1 1 rfl rfl), by decide +kernel, by decide +kernel, by decide +kernel⟩
theorem qmk_136 : qMOK 136 := ⟨(qt3 13 rfl rfl), (qt1 1 rfl rfl), by decide +kernel, by decide +kernel, by decide +kernel⟩
theorem qmk_137 : qMOK 137 := ⟨(qt3 29 rfl rfl), (qt1 1 rfl rfl), by decide +kernel, by decide +kernel, by decide +kernel⟩
theorem qmk_138 : qMOK 138 := ⟨(qt2 59 rfl rfl), (qt1 1 rfl rfl), by decide +kernel, by decide +kernel, by decide +kernel⟩
theorem qmk_139 : qMOK 139 := ⟨(qt5 17 rfl rfl), (qt1 9 rfl rfl), by decide +kernel, by decide +kernel, by decide +kernel⟩
theorem qmk_140 : qMOK 140 := ⟨(qt5 231 rfl rfl), (qt1 9 rfl rfl), by decide +kernel, by decide +kernel, by decide +kernel⟩
theorem qmk_141 : qMOK 141 := ⟨(qt5 25 rfl rfl), (qt1 9 rfl rfl), by decide +kernel, by decide +kernel, by decide +kernel⟩
theorem qmk_142 : qMOK 142 := ⟨(qt5 33 rfl rfl), (qt1 9 rfl rfl), by decide +kernel, by decide +kernel, by decide +kernel⟩
theorem qmk_143 : qMOK 143 := ⟨(qt5 41 rfl rfl), (qt1 9 rfl rfl), by decide +kernel, by decide +kernel, by decide +kernel⟩
theorem qmk_144 : qMOK 144 := ⟨(qt5 38 rfl rfl), (qt1 9 rfl rfl), by decide +kernel, by decide +kernel, by decide +kernel⟩
theorem qmk_145 : qMOK 145 := ⟨(qt6 79 rfl rfl), (qt1 9 rfl rfl), by decide +kernel, by decide +kernel, by decide +kernel⟩
theorem qmk_146 : qMOK 146 := ⟨(qt6 129 rfl rfl), (qt1 9 rfl rfl), by decide +kernel, by decide +kernel, by decide +kernel⟩
theorem qmk_147 : qMOK 147 := ⟨(qt6 33 rfl rfl), (qt1 9 rfl rfl), by decide +kernel, by decide +kernel, by decide +kernel⟩
theorem qmk_148 : qMOK 148 := ⟨(qt6 73 rfl rfl), (qt1 9 rfl rfl), by decide +kernel, by decide +kernel, by decide +kernel⟩
theorem qmk_149 : qMOK 149 := ⟨(qt5 44 rfl rfl), (qt1 9 rfl rfl), by decide +kernel, by decide +kernel, by decide +kernel⟩
theorem qmk_150 : qMOK 150 := ⟨(qt5 28 rfl rfl), (qt1 9 rfl rfl), by decide +kernel, by decide +kernel, by decide +kernel⟩
theorem qmk_151 : qMOK 151 := ⟨(qt5 21 rfl rfl), (qt1 9 rfl rfl), by decide +kernel, by decide +kernel, by decide +kernel⟩
theorem qmk_152 : qMOK 152 := ⟨(qt5 50 rfl rfl), (qt1 9 rfl rfl), by decide +kernel, by decide +kernel, by decide +kernel⟩
theorem qmk_153 : qMOK 153 := ⟨(qt5 54 rfl rfl), (qt1 9 rfl rfl), by decide +kernel, by decide +kernel, by decide +kernel⟩
theorem qmk_154 : qMOK 154 := ⟨(qt5 62 rfl rfl), (qt1 9 rfl rfl), by decide +kernel, by decide +kernel, by decide +kernel⟩
theorem qmk_155 : qMOK 155 := ⟨(qt5 67 rfl rfl), (qt1 9 rfl rfl), by decide +kernel, by decide +kernel, by decide +kernel⟩
theorem qmk_156 : qMOK 156 := ⟨(qt5 91 rfl rfl), (qt1 9 rfl rfl), by decide +kernel, by decide +kernel, by decide +kernel⟩
theorem qmk_157 : qMOK 157 := ⟨(qt5 102 rfl rfl), (qt1 9 rfl rfl), by decide +kernel, by decide +kernel, by decide +kernel⟩
theorem qmk_158 : qMOK 158 := ⟨(qt5 97 rfl rfl), (qt1 9 rfl rfl), by decide +kernel, by decide +kernel, by decide +kernel⟩
theorem qmk_159 : qMOK 159 := ⟨(qt6 225 rfl rfl), (qt1 9 rfl rfl), by decide +kernel, by decide +kernel, by decide +kernel⟩
theorem qmk_160 : qMOK 160 := ⟨(qt5 111 rfl rfl), (qt1 9 rfl rfl), by decide +kernel, by decide +kernel, by decide +kernel⟩
theorem qmk_161 : qMOK 161 := ⟨(qt5 58 rfl rfl), (qt1 9 rfl rfl), by decide +kernel, by decide +kernel, by decide +kernel⟩
theorem qmk_162 : qMOK 162 := ⟨(qt5 87 rfl rfl), (qt1 9 rfl rfl), by decide +kernel, by decide +kernel, by decide +kernel⟩
theorem qmk_163 : qMOK 163 := ⟨(qt5 83 rfl rfl), (qt1 9 rfl rfl), by decide +kernel, by decide +kernel, by decide +kernel⟩
theorem qmk_164 : qMOK 164 := ⟨(qt5 79 rfl rfl), (qt1 9 rfl rfl), by decide +kernel, by decide +kernel, by decide +kernel⟩
theorem qmk_165 : qMOK 165 := ⟨(qt5 75 rfl rfl), (qt1 9 rfl rfl), by decide +kernel, by decide +kernel, by decide +kernel⟩
theorem qmk_166 : qMOK 166 := ⟨(qt5 115 rfl rfl), (qt1 9 rfl rfl), by decide +kernel, by decide +kernel, by decide +kernel⟩
theorem qmk_167 : qMOK 167 := ⟨(qt5 71 rfl rfl), (qt1 9 rfl rfl), by decide +kernel, by decide +kernel, by decide +kernel⟩
theorem qmk_168 : qMOK 168 := ⟨(qt6 26 rfl rfl), (qt1 9 rfl rfl), by decide +kernel, by decide +kernel, by decide +kernel⟩
theorem qmk_169 : qMOK 169 := ⟨(qt6 23 rfl rfl), (qt1 9 rfl rfl), by decide +kernel, by decide +kernel, by decide +kernel⟩
theorem qmk_170 : qMOK 170 := ⟨(qt5 119 rfl rfl), (qt1 9 rfl rfl), by decide +kernel, by decide +kernel, by decide +kernel⟩
theorem qmk_171 : qMOK 171 := ⟨(qt5 225 rfl rfl), (qt1 9 rfl rfl), by decide +kernel, by decide +kernel, by decide +kernel⟩
theorem qmk_172 : qMOK 172 := ⟨(qt5 237 rfl rfl), (qt1 9 rfl rfl), by decide +kernel, by decide +kernel, by decide +kernel⟩
theorem qmk_173 : qMOK 173 := ⟨(qt5 234 rfl rfl), (qt1 9 rfl rfl), by decide +kernel, by decide +kernel, by decide +kernel⟩
theorem qmk_174 : qMOK 174 := ⟨(qt6 19 rfl rfl), (qt1 9 rfl rfl), by decide +kernel, by decide +kernel, by decide +kernel⟩
theorem qmk_175 : qMOK 175 := ⟨(qt6 158 rfl rfl), (qt1 9 rfl rfl), by decide +kernel, by decide +kernel, by decide +kernel⟩
theorem qmk_176 : qMOK 176 := ⟨(qt6 16 rfl rfl), (qt1 9 rfl rfl), by decide +kernel, by decide +kernel, by decide +kernel⟩
theorem qmk_177 : qMOK 177 := ⟨(qt6 13 rfl rfl), (qt1 9 rfl rfl), by decide +kernel, by decide +kernel, by decide +kernel⟩
theorem qmk_178 : qMOK 178 := ⟨(qt6 10 rfl rfl), (qt1 9 rfl rfl), by decide +kernel, by decide +kernel, by decide +kernel⟩
theorem qmk_179 : qMOK 179 := ⟨(qt6 107 rfl rfl), (qt1 9 rfl rfl), by decide +kernel, by decide +kernel, by decide +kernel⟩
theorem qmk_180 : qMOK 180 := ⟨(qt6 104 rfl rfl), (qt1 9 rfl rfl), by decide +kernel, by decide +kernel, by decide +kernel⟩
theorem qmk_181 : qMOK 181 := ⟨(qt6 146 rfl rfl), (qt1 9 rfl rfl), by decide +kernel, by decide +kernel, by decide +kernel⟩
theorem qmk_182 : qMOK 182 := ⟨(qt6 143 rfl rfl), (qt1 9 rfl rfl), by decide +kernel, by decide +kernel, by decide +kernel⟩
theorem qmk_183 : qMOK 183 := ⟨(qt6 110 rfl rfl), (qt1 9 rfl rfl), by decide +kernel, by decide +kernel, by decide +kernel⟩
theorem qmk_184 : qMOK 184 := ⟨(qt6 7 rfl rfl), (qt1 9 rfl rfl), by decide +kernel, by decide +kernel, by decide +kernel⟩
theorem qmk_185 : qMOK 185 := ⟨(qt6 209 rfl rfl), (qt1 9 rfl rfl), by decide +kernel, by decide +kernel, by decide +kernel⟩
theorem qmk_186 : qMOK 186 := ⟨(qt6 206 rfl rfl), (qt1 9 rfl rfl), by decide +kernel, by decide +kernel, by decide +kernel⟩
theorem qmk_187 : qMOK 187 := ⟨(qt6 203 rfl rfl), (qt1 9 rfl rfl), by decide +kernel, by decide +kernel, by decide +kernel⟩
theorem qmk_188 : qMOK 188 := ⟨(qt6 4 rfl rfl), (qt1 9 rfl rfl), by decide +kernel, by decide +kernel, by decide +kernel⟩
theorem qmk_189 : qMOK 189 := ⟨(qt6 1 rfl rfl), (qt1 9 rfl rfl), by decide +kernel, by decide +kernel, by decide +kernel⟩
theorem qmk_190 : qMOK 190 := ⟨(qt6 113 rfl rfl), (qt1 9 rfl rfl), by decide +kernel, by decide +kernel, by decide +kernel⟩
theorem qmk_191 : qMOK 191 := ⟨(qt6 82 rfl rfl), (qt1 9 rfl rfl), by decide +kernel, by decide +kernel, by decide +kernel⟩
theorem qmk_192 : qMOK 192 := ⟨(qt6 98 rfl rfl), (qt1 9 rfl rfl), by decide +kernel, by decide +kernel, by decide +kernel⟩
theorem qmk_193 : qMOK 193 := ⟨(qt6 101 rfl rfl), (qt1 9 rfl rfl), by decide +kernel, by decide +kernel, by decide +kernel⟩
theorem qmk_194 : qMOK 194 := ⟨(qt6 95 rfl rfl), (qt1 9 rfl rfl), by decide +kernel, by decide +kernel, by decide +kernel⟩
theorem qmk_195 : qMOK 195 := ⟨(qt6 89 rfl rfl), (qt1 9 rfl rfl), by decide +kernel, by decide +kernel, by decide +kernel⟩
theorem qmk_196 : qMOK 196 := ⟨(qt6 92 rfl rfl), (qt1 9 rfl rfl), by decide +kernel, by decide +kernel, by decide +kernel⟩
theorem qmk_197 : qMOK 197 := ⟨(qt6 76 rfl rfl), (qt1 9 rfl rfl), by decide +kernel, by decide +kernel, by decide +kernel⟩
theorem qmk_198 : qMOK 198 := ⟨(qt6 86 rfl rfl), (qt1 9 rfl rfl), by decide +kernel, by decide +kernel, by decide +kernel⟩
theorem qmk_199 : qMOK 199 := ⟨(qt6 116 rfl rfl), (qt1 9 rfl rfl), by decide +kernel, by decide +kernel, by decide +kernel⟩
theorem qmk_200 : qMOK 200 := ⟨(qt6 126 rfl rfl), (qt1 9 rfl rfl), by decide +kernel, by decide +kernel, by decide +kernel⟩
theorem qmk_201 : qMOK 201 := ⟨(qt6 132 rfl rfl), (qt1 9 rfl rfl), by decide +kernel, by decide +kernel, by decide +kernel⟩
theorem qmk_202 : qMOK 202 := ⟨(qt6 123 rfl rfl), (qt1 9 rfl rfl), by decide +kernel, by decide +kernel, by decide +kernel⟩
theorem qmk_203 : qMOK 203 := ⟨(qt6 120 rfl rfl), (qt1 9 rfl rfl), by decide +kernel, by decide +kernel, by decide +kernel⟩
theorem qmk_204 : qMOK 204 := ⟨(qt6 136 rfl rfl), (qt1 9 rfl rfl), by decide +kernel, by decide +kernel, by decide +kernel⟩
theorem qmk_205 : qMOK 205 := ⟨(qt6 140 rfl rfl), (qt1 9 rfl rfl), by decide +kernel, by decide +kernel, by decide +kernel⟩
theorem qmk_206 : qMOK 206 := ⟨(qt6 70 rfl rfl), (qt1 9 rfl rfl), by decide +kernel, by decide +kernel, by decide +kernel⟩
theorem qmk_207 : qMOK 207 := ⟨(qt6 46 rfl rfl), (qt1 9 rfl rfl), by decide +kernel, by decide +kernel, by decide +kernel⟩
theorem qmk_208 : qMOK 208 := ⟨(qt6 61 rfl rfl), (qt1 9 rfl rfl), by decide +kernel, by decide +kernel, by decide +kernel⟩
theorem qmk_209 : qMOK 209 := ⟨(qt6 155 rfl rfl), (qt1 9 rfl rfl), by decide +kernel, by decide +kernel, by decide +kernel⟩
theorem qmk_210 : qMOK 210 := ⟨(qt6 171 rfl rfl), (qt1 9 rfl rfl), by decide +kernel, by decide +kernel, by decide +kernel⟩
theorem qmk_211 : qMOK 211 := ⟨(qt6 167 rfl rfl), (qt1 9 rfl rfl), by decide +kernel, by decide +kernel, by decide +kernel⟩
theorem qmk_212 : qMOK 212 := ⟨(qt6 179 rfl rfl), (qt1 9 rfl rfl), by decide +kernel, by decide +kernel, by decide +kernel⟩
theorem qmk_213 : qMOK 213 := ⟨(qt6 187 rfl rfl), (qt1 9 rfl rfl), by decide +kernel, by decide +kernel, by decide +kernel⟩
theorem qmk_214 : qMOK 214 := ⟨(qt6 200 rfl rfl), (qt1 9 rfl rfl), by decide +kernel, by decide +kernel, by decide +kernel⟩
theorem qmk_215 : qMOK 215 := ⟨(qt6 196 rfl rfl), (qt1 9 rfl rfl), by decide +kernel, by decide +kernel, by decide +kernel⟩
theorem qmk_216 : qMOK 216 := ⟨(qt6 42 rfl rfl), (qt1 9 rfl rfl), by decide +kernel, by decide +kernel, by decide +kernel⟩
theorem qmk_217 : qMOK 217 := ⟨(qt6 54 rfl rfl), (qt1 9 rfl rfl), by decide +kernel, by decide +kernel, by decide +kernel⟩
theorem qmk_218 : qMOK 218 := ⟨(qt6 50 rfl rfl), (qt1 9 rfl rfl), by decide +kernel, by decide +kernel, by decide +kernel⟩
theorem qmk_219 : qMOK 219 := ⟨(qt5 218 rfl rfl), (qt1 9 rfl rfl), by decide +kernel, by decide +kernel, by decide +kernel⟩
theorem qmk_220 : qMOK 220 := ⟨(qt5 222 rfl rfl), (qt1 9 rfl rfl), by decide +kernel, by decide +kernel, by decide +kernel⟩
theorem qmk_221 : qMOK 221 := ⟨(qt6 30 rfl rfl), (qt1 9 rfl rfl), by decide +kernel, by decide +kernel, by decide +kernel⟩
theorem qmk_222 : qMOK 222 := ⟨(qt6 38 rfl rfl), (qt1 9 rfl rfl), by decide +kernel, by decide +kernel, by decide +kernel⟩
theorem qmk_223 : qMOK 223 := ⟨(qt6 58 rfl rfl), (qt1 9 rfl rfl), by decide +kernel, by decide +kernel, by decide +kernel⟩
theorem qmk_224 : qMOK 224 := ⟨(qt6 66 rfl rfl), (qt1 9 rfl rfl), by decide +kernel, by decide +kernel, by decide +kernel⟩
theorem qmk_225 : qMOK 225 := ⟨(qt6 151 rfl rfl), (qt1 9 rfl rfl), by decide +kernel, by decide +kernel, by decide +kernel⟩
theorem qmk_226 : qMOK 226 := ⟨(qt6 163 rfl rfl), (qt1 9 rfl rfl), by decide +kernel, by decide +kernel, by decide +kernel⟩
theorem qmk_227 : qMOK 227 := ⟨(qt6 175 rfl rfl), (qt1 9 rfl rfl), by decide +kernel, by decide +kernel, by decide +kernel⟩
theorem qmk_228 : qMOK 228 := ⟨(qt6 184 rfl rfl), (qt1 9 rfl rfl), by decide +kernel, by decide +kernel, by decide +kernel⟩
theorem qmk_229 : qMOK 229 := ⟨(qt6 192 rfl rfl), (qt1 9 rfl rfl), by decide +kernel, by decide +kernel, by decide +kernel⟩
theorem qmk_230 : qMOK 230 := ⟨(qt6 220 rfl rfl), (qt1 9 rfl rfl), by decide +kernel, by decide +kernel, by decide +kernel⟩
theorem qmk_231 : qMOK 231 := ⟨(qt6 229 rfl rfl), (qt1 9 rfl rfl), by decide +kernel, by decide +kernel, by decide +kernel⟩
theorem qmk_232 : qMOK 232 := ⟨(qt6 216 rfl rfl), (qt1 9 rfl rfl), by decide +kernel, by decide +kernel, by decide +kernel⟩
theorem qmk_233 : qMOK 233 := ⟨(qt6 233 rfl rfl), (qt1 9 rfl rfl), by decide +kernel, by decide +kernel, by decide +kernel⟩
theorem qmk_234 : qMOK 234 := ⟨(qt6 237 rfl rfl), (qt1 9 rfl rfl), by decide +kernel, by decide +kernel, by decide +kernel⟩
theorem qmk_235 : qMOK 235 := ⟨(qt7 1 rfl rfl), (qt1 9 rfl rfl), by decide +kernel, by decide +kernel, by decide +kernel⟩
theorem qmk_236 : qMOK 236 := ⟨(qt7 9 rfl rfl), (qt1 9 rfl rfl), by decide +kernel, by decide +kernel, by decide +kernel⟩
theorem qmk_237 : qMOK 237 := ⟨(qt7 5 rfl rfl), (qt1 9 rfl rfl), by decide +kernel, by decide +kernel, by decide +kernel⟩
theorem qmk_238 : qMOK 238 := ⟨(qt7 17 rfl rfl), (qt1 9 rfl rfl), by decide +kernel, by decide +kernel, by decide +kernel⟩
theorem qmk_239 : qMOK 239 := ⟨(qt7 13 rfl rfl), (qt1 9 rfl rfl), by decide +kernel, by decide +kernel, by decide +kernel⟩
theorem qmk_240 : qMOK 240 := ⟨(qt7 21 rfl rfl), (qt1 9 rfl rfl), by decide +kernel, by decide +kernel, by decide +kernel⟩
theorem qmk_241 : qMOK 241 := ⟨(qt7 26 rfl rfl), (qt1 9 rfl rfl), by decide +kernel, by decide +kernel, by decide +kernel⟩
theorem qmk_242 : qMOK 242 := ⟨(qt7 30 rfl rfl), (qt1 9 rfl rfl), by decide +kernel, by decide +kernel, by decide +kernel⟩
theorem qmk_243 : qMOK 243 := ⟨(qt7 34 rfl rfl), (qt1 9 rfl rfl), by decide +kernel, by decide +kernel, by decide +kernel⟩
theorem qmk_244 : qMOK 244 := ⟨(qt7 42 rfl rfl), (qt1 9 rfl rfl), by decide +kernel, by decide +kernel, by decide +kernel⟩
theorem qmk_245 : qMOK 245 := ⟨(qt7 38 rfl rfl), (qt1 9 rfl rfl), by decide +kernel, by decide +kernel, by decide +kernel⟩
theorem qmk_246 : qMOK 246 := ⟨(qt7 47 rfl rfl), (qt1 9 rfl rfl), by decide +kernel, by decide +kernel, by decide +kernel⟩
theorem qmk_247 : qMOK 247 := ⟨(qt7 55 rfl rfl), (qt1 9 rfl rfl), by decide +kernel, by decide +kernel, by decide +kernel⟩
theorem qmk_248 : qMOK 248 := ⟨(qt7 51 rfl rfl), (qt1 9 rfl rfl), by decide +kernel, by decide +kernel, by decide +kernel⟩
theorem qmk_249 : qMOK 249 := ⟨(qt7 59 rfl rfl), (qt1 9 rfl rfl), by decide +kernel, by decide +kernel, by decide +kernel⟩
theorem qmk_250 : qMOK 250 := ⟨(qt7 67 rfl rfl), (qt1 9 rfl rfl), by decide +kernel, by decide +kernel, by decide +kernel⟩
theorem qmk_251 : qMOK 251 := ⟨(qt7 71 rfl rfl), (qt1 9 rfl rfl), by decide +kernel, by decide +kernel, by decide +kernel⟩
theorem qmk_252 : qMOK 252 := ⟨(qt7 75 rfl rfl), (qt1 9 rfl rfl), by decide +kernel, by decide +kernel, by decide +kernel⟩
theorem qmk_253 : qMOK 253 := ⟨(qt7 79 rfl rfl), (qt1 9 rfl rfl), by decide +kernel, by decide +kernel, by decide +kernel⟩
theorem qmk_254 : qMOK 254 := ⟨(qt7 87 rfl rfl), (qt1 9 rfl rfl), by decide +kernel, by decide +kernel, by decide +kernel⟩
theorem qmk_255 : qMOK 255 := ⟨(qt7 84 rfl rfl), (qt1 9 rfl rfl), by decide +kernel, by decide +kernel, by decide +kernel⟩
theorem qmk_256 : qMOK 256 := ⟨(qt7 91 rfl rfl), (qt1 9 rfl rfl), by decide +kernel, by decide +kernel, by decide +kernel⟩
theorem qmk_257 : qMOK 257 := ⟨(qt7 100 rfl rfl), (qt1 9 rfl rfl), by decide +kernel, by decide +kernel, by decide +kernel⟩
theorem qmk_258 : qMOK 258 := ⟨(qt7 105 rfl rfl), (qt1 9 rfl rfl), by decide +kernel, by decide +kernel, by decide +kernel⟩
theorem qmk_259 : qMOK 259 := ⟨(qt7 108 rfl rfl), (qt1 9 rfl rfl), by decide +kernel, by decide +kernel, by decide +kernel⟩
theorem qmk_260 : qMOK 260 := ⟨(qt7 95 rfl rfl), (qt1 9 rfl rfl), by decide +kernel, by decide +kernel, by decide +kernel⟩
theorem qmk_261 : qMOK 261 := ⟨(qt7 112 rfl rfl), (qt1 9 rfl rfl), by decide +kernel, by decide +kernel, by decide +kernel⟩
theorem qmk_262 : qMOK 262 := ⟨(qt7 116 rfl rfl), (qt1 9 rfl rfl), by decide +kernel, by decide +kernel, by decide +kernel⟩
theorem qmk_263 : qMOK 263 := ⟨(qt7 120 rfl rfl), (qt1 9 rfl rfl), by decide +kernel, by decide +kernel, by decide +kernel⟩
theorem qmk_264 : qMOK 264 := ⟨(qt7 124 rfl rfl), (qt1 9 rfl rfl), by decide +kernel, by decide +kernel, by decide +kernel⟩
theorem qmk_265 : qMOK 265 := ⟨(qt6 212 rfl rfl), (qt1 20 rfl rfl), by decide +kernel, by decide +kernel, by decide +kernel⟩
theorem qmk_266 : qMOK 266 := ⟨(qt7 62 rfl rfl), (qt1 20 rfl rfl), by decide +kernel, by decide +kernel, by decide +kernel⟩
theorem qmk_267 : qMOK 267 := ⟨(qt3 103 rfl rfl), (qt1 20 rfl rfl), by decide +kernel, by decide +kernel, by decide +kernel⟩
theorem qmk_268 : qMOK 268 := ⟨(qt2 134 rfl rfl), (qt1 12 rfl rfl), by decide +kernel, by decide +kernel, by decide +kernel⟩
theorem qmk_269 : qMOK 269 := ⟨(qt2 144 rfl rfl), (qt1 12 rfl rfl), by decide +kernel, by decide +kernel, by decide +kernel⟩
theorem qmk_270 : qMOK 270 := ⟨(qt2 138 rfl rfl), (qt1 12 rfl rfl), by decide +kernel, by decide +kernel, by decide +kernel⟩
theorem qmk_271 : qMOK 271 := ⟨(qt2 148 rfl rfl), (qt1 12 rfl rfl), by decide +kernel, by decide +kernel, by decide +kernel⟩
theorem qmk_272 : qMOK 272 := ⟨(qt2 154 rfl rfl), (qt1 12 rfl rfl), by decide +kernel, by decide +kernel, by decide +kernel⟩
theorem qmk_273 : qMOK 273 := ⟨(qt2 151 rfl rfl), (qt1 13 rfl rfl), by decide +kernel, by decide +kernel, by decide +kernel⟩
theorem qmk_274 : qMOK 274 := ⟨(qt2 172 rfl rfl), (qt1 15 rfl rfl), by decide +kernel, by decide +kernel, by decide +kernel⟩
theorem qmk_275 : qMOK 275 := ⟨(qt2 168 rfl rfl), (qt1 15 rfl rfl), by decide +kernel, by decide +kernel, by decide +kernel⟩
theorem qmk_276 : qMOK 276 := ⟨(qt2 162 rfl rfl), (qt1 15 rfl rfl), by decide +kernel, by decide +kernel, by decide +kernel⟩
theorem qmk_277 : qMOK 277 := ⟨(qt2 165 rfl rfl), (qt1 15 rfl rfl), by decide +kernel, by decide +kernel, by decide +kernel⟩
theorem qmk_278 : qMOK 278 := ⟨(qt2 159 rfl rfl), (qt1 14 rfl rfl), by decide +kernel, by decide +kernel, by decide +kernel⟩
theorem qmkc_0 : ∀ M ∈ [0, 1, 2, 3, 4, 5, 6, 7, 8, 9, 10, 11, 12, 13, 14, 15, 16, 17, 18, 19], qMOK M := List.forall_mem_cons.mpr ⟨qmk_0, List.forall_mem_cons.mpr ⟨qmk_1, List.forall_mem_cons.mpr ⟨qmk_2, List.forall_mem_cons.mpr ⟨qmk_3, List.forall_mem_cons.mpr ⟨qmk_4, List.forall_mem_cons.mpr ⟨qmk_5, List.forall_mem_cons.mpr ⟨qmk_6, List.forall_mem_cons.mpr ⟨qmk_7, List.forall_mem_cons.mpr ⟨qmk_8, List.forall_mem_cons.mpr ⟨qmk_9, List.forall_mem_cons.mpr ⟨qmk_10, List.forall_mem_cons.mpr ⟨qmk_11, List.forall_mem_cons.mpr ⟨qmk_12, List.forall_mem_cons.mpr ⟨qmk_13, List.forall_mem_cons.mpr ⟨qmk_14, List.forall_mem_cons.mpr ⟨qmk_15, List.forall_mem_cons.mpr ⟨qmk_16, List.forall_mem_cons.mpr ⟨qmk_17, List.forall_mem_cons.mpr ⟨qmk_18, List.forall_mem_cons.mpr ⟨qmk_19, (fun _ h => absurd h List.not_mem_nil)⟩⟩⟩⟩⟩⟩⟩⟩⟩⟩⟩⟩⟩⟩⟩⟩⟩⟩⟩⟩
theorem qmkc_1 : ∀ M ∈ [20, 21, 22, 23, 24, 25, 26, 27, 28, 29, 30, 31, 32, 33, 34, 35, 36, 37, 38, 39], qMOK M := List.forall_mem_cons.mpr ⟨qmk_20, List.forall_mem_cons.mpr ⟨qmk_21, List.forall_mem_cons.mpr ⟨qmk_22, List.forall_mem_cons.mpr ⟨qmk_23, List.forall_mem_cons.mpr ⟨qmk_24, List.forall_mem_cons.mpr ⟨qmk_25, List.forall_mem_cons.mpr ⟨qmk_26, List.forall_mem_cons.mpr ⟨qmk_27, List.forall_mem_cons.mpr ⟨qmk_28, List.forall_mem_cons.mpr ⟨qmk_29, List.forall_mem_cons.mpr ⟨qmk_30, List.forall_mem_cons.mpr ⟨qmk_31, List.forall_mem_cons.mpr ⟨qmk_32, List.forall_mem_cons.mpr ⟨qmk_33, List.forall_mem_cons.mpr ⟨qmk_34, List.forall_mem_cons.mpr ⟨qmk_35, List.forall_mem_cons.mpr ⟨qmk_36, List.forall_mem_cons.mpr ⟨qmk_37, List.forall_mem_cons.mpr ⟨qmk_38, List.forall_mem_cons.mpr ⟨qmk_39, (fun _ h => absurd h List.not_mem_nil)⟩⟩⟩⟩⟩⟩⟩⟩⟩⟩⟩⟩⟩⟩⟩⟩⟩⟩⟩⟩
theorem qmkc_2 : ∀ M ∈ [40, 41, 42, 43, 44, 45, 46, 47, 48, 49, 50, 51, 52, 53, 54, 55, 56, 57, 58, 59], qMOK M := List.forall_mem_cons.mpr ⟨qmk_40, List.forall_mem_cons.mpr ⟨qmk_41, List.forall_mem_cons.mpr ⟨qmk_42, List.forall_mem_cons.mpr ⟨qmk_43, List.forall_mem_cons.mpr ⟨qmk_44, List.forall_mem_cons.mpr ⟨qmk_45, List.forall_mem_cons.mpr ⟨qmk_46, List.forall_mem_cons.mpr ⟨qmk_47, List.forall_mem_cons.mpr ⟨qmk_48, List.forall_mem_cons.mpr ⟨qmk_49, List.forall_mem_cons.mpr ⟨qmk_50, List.forall_mem_cons.mpr ⟨qmk_51, List.forall_mem_cons.mpr ⟨qmk_52, List.forall_mem_cons.mpr ⟨qmk_53, List.forall_mem_cons.mpr ⟨qmk_54, List.forall_mem_cons.mpr ⟨qmk_55, List.forall_mem_cons.mpr ⟨qmk_56, List.forall_mem_cons.mpr ⟨qmk_57, List.forall_mem_cons.mpr ⟨qmk_58, List.forall_mem_cons.mpr ⟨qmk_59, (fun _ h => absurd h List.not_mem_nil)⟩⟩⟩⟩⟩⟩⟩⟩⟩⟩⟩⟩⟩⟩⟩⟩⟩⟩⟩⟩
theorem qmkc_3 : ∀ M ∈ [60, 61, 62, 63, 64, 65, 66, 67, 68, 69, 70, 71, 72, 73, 74, 75, 76, 77, 78, 79], qMOK M := List.forall_mem_cons.mpr ⟨qmk_60, List.forall_mem_cons.mpr ⟨qmk_61, List.forall_mem_cons.mpr ⟨qmk_62, List.forall_mem_cons.mpr ⟨qmk_63, List.forall_mem_cons.mpr ⟨qmk_64, List.forall_mem_cons.mpr ⟨qmk_65, List.forall_mem_cons.mpr ⟨qmk_66, List.forall_mem_cons.mpr ⟨qmk_67, List.forall_mem_cons.mpr ⟨qmk_68, List.forall_mem_cons.mpr ⟨qmk_69, List.forall_mem_cons.mpr ⟨qmk_70, List.forall_mem_cons.mpr ⟨qmk_71, List.forall_mem_cons.mpr ⟨qmk_72, List.forall_mem_cons.mpr ⟨qmk_73, List.forall_mem_cons.mpr ⟨qmk_74, List.forall_mem_cons.mpr ⟨qmk_75, List.forall_mem_cons.mpr ⟨qmk_76, List.forall_mem_cons.mpr ⟨qmk_77, List.forall_mem_cons.mpr ⟨qmk_78, List.forall_mem_cons.mpr ⟨qmk_79, (fun _ h => absurd h List.not_mem_nil)⟩⟩⟩⟩⟩⟩⟩⟩⟩⟩⟩⟩⟩⟩⟩⟩⟩⟩⟩⟩
theorem qmkc_4 : ∀ M ∈ [80, 81, 82, 83, 84, 85, 86, 87, 88, 89, 90, 91, 92, 93, 94, 95, 96, 97, 98, 99], qMOK M := List.forall_mem_cons.mpr ⟨qmk_80, List.forall_mem_cons.mpr ⟨qmk_81, List.forall_mem_cons.mpr ⟨qmk_82, List.forall_mem_cons.mpr ⟨qmk_83, List.forall_mem_cons.mpr ⟨qmk_84, List.forall_mem_cons.mpr ⟨qmk_85, List.forall_mem_cons.mpr ⟨qmk_86, List.forall_mem_cons.mpr ⟨qmk_87, List.forall_mem_cons.mpr ⟨qmk_88, List.forall_mem_cons.mpr ⟨qmk_89, List.forall_mem_cons.mpr ⟨qmk_90, List.forall_mem_cons.mpr ⟨qmk_91, List.forall_mem_cons.mpr ⟨qmk_92, List.forall_mem_cons.mpr ⟨qmk_93, List.forall_mem_cons.mpr ⟨qmk_94, List.forall_mem_cons.mpr ⟨qmk_95, List.forall_mem_cons.mpr ⟨qmk_96, List.forall_mem_cons.mpr ⟨qmk_97, List.forall_mem_cons.mpr ⟨qmk_98, List.forall_mem_cons.mpr ⟨qmk_99, (fun _ h => absurd h List.not_mem_nil)⟩⟩⟩⟩⟩⟩⟩⟩⟩⟩⟩⟩⟩⟩⟩⟩⟩⟩⟩⟩
theorem qmkc_5 : ∀ M ∈ [100, 101, 102, 103, 104, 105, 106, 107, 108, 109, 110, 111, 112, 113, 114, 115, 116, 117, 118, 119], qMOK M := List.forall_mem_cons.mpr ⟨qmk_100, List.forall_mem_cons.mpr ⟨qmk_101, List.forall_mem_cons.mpr ⟨qmk_102, List.forall_mem_cons.mpr ⟨qmk_103, List.forall_mem_cons.mpr ⟨qmk_104, List.forall_mem_cons.mpr ⟨qmk_105, List.forall_mem_cons.mpr ⟨qmk_106, List.forall_mem_cons.mpr ⟨qmk_107, List.forall_mem_cons.mpr ⟨qmk_108, List.forall_mem_cons.mpr ⟨qmk_109, List.forall_mem_cons.mpr ⟨qmk_110, List.forall_mem_cons.mpr ⟨qmk_111, List.forall_mem_cons.mpr ⟨qmk_112, List.forall_mem_cons.mpr ⟨qmk_113, List.forall_mem_cons.mpr ⟨qmk_114, List.forall_mem_cons.mpr ⟨qmk_115, List.forall_mem_cons.mpr ⟨qmk_116, List.forall_mem_cons.mpr ⟨qmk_117, List.forall_mem_cons.mpr ⟨qmk_118, List.forall_mem_cons.mpr ⟨qmk_119, (fun _ h => absurd h List.not_mem_nil)⟩⟩⟩⟩⟩⟩⟩⟩⟩⟩⟩⟩⟩⟩⟩⟩⟩⟩⟩⟩
theorem qmkc_6 : ∀ M ∈ [120, 121, 122, 123, 124, 125, 126, 127, 128, 129, 130, 131, 132, 133, 134, 135, 136, 137, 138, 139], qMOK M := List.forall_mem_cons.mpr ⟨qmk_120, List.forall_mem_cons.mpr ⟨qmk_121, List.forall_mem_cons.mpr ⟨qmk_122, List.forall_mem_cons.mpr ⟨qmk_123, List.forall_mem_cons.mpr ⟨qmk_124, List.forall_mem_cons.mpr ⟨qmk_125, List.forall_mem_cons.mpr ⟨qmk_126, List.forall_mem_cons.mpr ⟨qmk_127, List.forall_mem_cons.mpr ⟨qmk_128, List.forall_mem_cons.mpr ⟨qmk_129, List.forall_mem_cons.mpr ⟨qmk_130, List.forall_mem_cons.mpr ⟨qmk_131, List.forall_mem_cons.mpr ⟨qmk_132, List.forall_mem_cons.mpr ⟨qmk_133, List.forall_mem_cons.mpr ⟨qmk_134, List.forall_mem_cons.mpr ⟨qmk_135, List.forall_mem_cons.mpr ⟨qmk_136, List.forall_mem_cons.mpr ⟨qmk_137, List.forall_mem_cons.mpr ⟨qmk_138, List.forall_mem_cons.mpr ⟨qmk_139, (fun _ h => absurd h List.not_mem_nil)⟩⟩⟩⟩⟩⟩⟩⟩⟩⟩⟩⟩⟩⟩⟩⟩⟩⟩⟩⟩
theorem qmkc_7 : ∀ M ∈ [140, 141, 142, 143, 144, 145, 146, 147, 148, 149, 150, 151, 152, 153, 154, 155, 156, 157, 158, 159], qMOK M := List.forall_mem_cons.mpr ⟨qmk_140, List.forall_mem_cons.mpr ⟨qmk_141, List.forall_mem_cons.mpr ⟨qmk_142, List.forall_mem_cons.mpr ⟨qmk_143, List.forall_mem_cons.mpr ⟨qmk_144, List.forall_mem_cons.mpr ⟨qmk_145, List.forall_mem_cons.mpr ⟨qmk_146, List.forall_mem_cons.mpr ⟨qmk_147, List.forall_mem_cons.mpr ⟨qmk_148, List.forall_mem_cons.mpr ⟨qmk_149, List.forall_mem_cons.mpr ⟨qmk_150, List.forall_mem_cons.mpr ⟨qmk_151, List.forall_mem_cons.mpr ⟨qmk_152, List.forall_mem_cons.mpr ⟨qmk_153, List.forall_mem_cons.mpr ⟨qmk_154, List.forall_mem_cons.mpr ⟨qmk_155, List.forall_mem_cons.mpr ⟨qmk_156, List.forall_mem_cons.mpr ⟨qmk_157, List.forall_mem_cons.mpr ⟨qmk_158, List.forall_mem_cons.mpr ⟨qmk_159, (fun _ h => absurd h List.not_mem_nil)⟩⟩⟩⟩⟩⟩⟩⟩⟩⟩⟩⟩⟩⟩⟩⟩⟩⟩⟩⟩
theorem qmkc_8 : ∀ M ∈ [160, 161, 162, 163, 164, 165, 166, 167, 168, 169, 170, 171, 172, 173, 174, 175, 176, 177, 178, 179], qMOK M := List.forall_mem_cons.mpr ⟨qmk_160, List.forall_mem_cons.mpr ⟨qmk_161, List.forall_mem_cons.mpr ⟨qmk_162, List.forall_mem_cons.mpr ⟨qmk_163, List.forall_mem_cons.mpr ⟨qmk_164, List.forall_mem_cons.mpr ⟨qmk_165, List.forall_mem_cons.mpr ⟨qmk_166, List.forall_mem_cons.mpr ⟨qmk_167, List.forall_mem_cons.mpr ⟨qmk_168, List.forall_mem_cons.mpr ⟨qmk_169, List.forall_mem_cons.mpr ⟨qmk_170, List.forall_mem_cons.mpr ⟨qmk_171, List.forall_mem_cons.mpr ⟨qmk_172, List.forall_mem_cons.mpr ⟨qmk_173, List.forall_mem_cons.mpr ⟨qmk_174, List.forall_mem_cons.mpr ⟨qmk_175, List.forall_mem_cons.mpr ⟨qmk_176, List.forall_mem_cons.mpr ⟨qmk_177, List.forall_mem_cons.mpr ⟨qmk_178, List.forall_mem_cons.mpr ⟨qmk_179, (fun _ h => absurd h List.not_mem_nil)⟩⟩⟩⟩⟩⟩⟩⟩⟩⟩⟩⟩⟩⟩⟩⟩⟩⟩⟩⟩
theorem qmkc_9 : ∀ M ∈ [180, 181, 182, 183, 184, 185, 186, 187, 188, 189, 190, 191, 192, 193, 194, 195, 196, 197, 198, 199], qMOK M := List.forall_mem_cons.mpr ⟨qmk_180, List.forall_mem_cons.mpr ⟨qmk_181, List.forall_mem_cons.mpr ⟨qmk_182, List.forall_mem_cons.mpr ⟨qmk_183, List.forall_mem_cons.mpr ⟨qmk_184, List.forall_mem_cons.mpr ⟨qmk_185, List.forall_mem_cons.mpr ⟨qmk_186, List.forall_mem_cons.mpr ⟨qmk_187, List.forall_mem_cons.mpr ⟨qmk_188, List.forall_mem_cons.mpr ⟨qmk_189, List.forall_mem_cons.mpr ⟨qmk_190, List.forall_mem_cons.mpr ⟨qmk_191, List.forall_mem_cons.mpr ⟨qmk_192, List.forall_mem_cons.mpr ⟨qmk_193, List.forall_mem_cons.mpr ⟨qmk_194, List.forall_mem_cons.mpr ⟨qmk_195, List.forall_mem_cons.mpr ⟨qmk_196, List.forall_mem_cons.mpr ⟨qmk_197, List.forall_mem_cons.mpr ⟨qmk_198, List.forall_mem_cons.mpr ⟨qmk_199, (fun _ h => absurd h List.not_mem_nil)⟩⟩⟩⟩⟩⟩⟩⟩⟩⟩⟩⟩⟩⟩⟩⟩⟩⟩⟩⟩
theorem qmkc_10 : ∀ M ∈ [200, 201, 202, 203, 204, 205, 206, 207, 208, 209, 210, 211, 212, 213, 214, 215, 216, 217, 218, 219], qMOK M := List.forall_mem_cons.mpr ⟨qmk_200, List.forall_mem_cons.mpr ⟨qmk_201, List.forall_mem_cons.mpr ⟨qmk_202, List.forall_mem_cons.mpr ⟨qmk_203, List.forall_mem_cons.mpr ⟨qmk_204, List.forall_mem_cons.mpr ⟨qmk_205, List.forall_mem_cons.mpr ⟨qmk_206, List.forall_mem_cons.mpr ⟨qmk_207, List.forall_mem_cons.mpr ⟨qmk_208, List.forall_mem_cons.mpr ⟨qmk_209, List.forall_mem_cons.mpr ⟨qmk_210, List.forall_mem_cons.mpr ⟨qmk_211, List.forall_mem_cons.mpr ⟨qmk_212, List.forall_mem_cons.mpr ⟨qmk_213, List.forall_mem_cons.mpr ⟨qmk_214, List.forall_mem_cons.mpr ⟨qmk_215, List.forall_mem_cons.mpr ⟨qmk_216, List.forall_mem_cons.mpr ⟨qmk_217, List.forall_mem_cons.mpr ⟨qmk_218, List.forall_mem_cons.mpr ⟨qmk_219, (fun _ h => absurd h List.not_mem_nil)⟩⟩⟩⟩⟩⟩⟩⟩⟩⟩⟩⟩⟩⟩⟩⟩⟩⟩⟩⟩
theorem qmkc_11 : ∀ M ∈ [220, 221, 222, 223, 224, 225, 226, 227, 228, 229, 230, 231, 232, 233, 234, 235, 236, 237, 238, 239], qMOK M := List.forall_mem_cons.mpr ⟨qmk_220, List.forall_mem_cons.mpr ⟨qmk_221, List.forall_mem_cons.mpr ⟨qmk_222, List.forall_mem_cons.mpr ⟨qmk_223, List.forall_mem_cons.mpr ⟨qmk_224, List.forall_mem_cons.mpr ⟨qmk_225, List.forall_mem_cons.mpr ⟨qmk_226, List.forall_mem_cons.mpr ⟨qmk_227, List.forall_mem_cons.mpr ⟨qmk_228, List.forall_mem_cons.mpr ⟨qmk_229, List.forall_mem_cons.mpr ⟨qmk_230, List.forall_mem_cons.mpr ⟨qmk_231, List.forall_mem_cons.mpr ⟨qmk_232, List.forall_mem_cons.mpr ⟨qmk_233, List.forall_mem_cons.mpr ⟨qmk_234, List.forall_mem_cons.mpr ⟨qmk_235, List.forall_mem_cons.mpr ⟨qmk_236, List.forall_mem_cons.mpr ⟨qmk_237, List.forall_mem_cons.mpr ⟨qmk_238, List.forall_mem_cons.mpr ⟨qmk_239, (fun _ h => absurd h List.not_mem_nil)⟩⟩⟩⟩⟩⟩⟩⟩⟩⟩⟩⟩⟩⟩⟩⟩⟩⟩⟩⟩
theorem qmkc_12 : ∀ M ∈ [240, 241, 242, 243, 244, 245, 246, 247, 248, 249, 250, 251, 252, 253, 254, 255, 256, 257, 258, 259], qMOK M := List.forall_mem_cons.mpr ⟨qmk_240, List.forall_mem_cons.mpr ⟨qmk_241, List.forall_mem_cons.mpr ⟨qmk_242, List.forall_mem_cons.mpr ⟨qmk_243, List.forall_mem_cons.mpr ⟨qmk_244, List.forall_mem_cons.mpr ⟨qmk_245, List.forall_mem_cons.mpr ⟨qmk_246, List.forall_mem_cons.mpr ⟨qmk_247, List.forall_mem_cons.mpr ⟨qmk_248, List.forall_mem_cons.mpr ⟨qmk_249, List.forall_mem_cons.mpr ⟨qmk_250, List.forall_mem_cons.mpr ⟨qmk_251, List.forall_mem_cons.mpr ⟨qmk_252, List.forall_mem_cons.mpr ⟨qmk_253, List.forall_mem_cons.mpr ⟨qmk_254, List.forall_mem_cons.mpr ⟨qmk_255, List.forall_mem_cons.mpr ⟨qmk_256, List.forall_mem_cons.mpr ⟨qmk_257, List.forall_mem_cons.mpr ⟨qmk_258, List.forall_mem_cons.mpr ⟨qmk_259, (fun _ h => absurd h List.not_mem_nil)⟩⟩⟩⟩⟩⟩⟩⟩⟩⟩⟩⟩⟩⟩⟩⟩⟩⟩⟩⟩
theorem qmkc_13 : ∀ M ∈ [260, 261, 262, 263, 264, 265, 266, 267, 268, 269, 270, 271, 272, 273, 274, 275, 276, 277, 278], qMOK M := List.forall_mem_cons.mpr ⟨qmk_260, List.forall_mem_cons.mpr ⟨qmk_261, List.forall_mem_cons.mpr ⟨qmk_262, List.forall_mem_cons.mpr ⟨qmk_263, List.forall_mem_cons.mpr ⟨qmk_264, List.forall_mem_cons.mpr ⟨qmk_265, List.forall_mem_cons.mpr ⟨qmk_266, List.forall_mem_cons.mpr ⟨qmk_267, List.forall_mem_cons.mpr ⟨qmk_268, List.forall_mem_cons.mpr ⟨qmk_269, List.forall_mem_cons.mpr ⟨qmk_270, List.forall_mem_cons.mpr ⟨qmk_271, List.forall_mem_cons.mpr ⟨qmk_272, List.forall_mem_cons.mpr ⟨qmk_273, List.forall_mem_cons.mpr ⟨qmk_274, List.forall_mem_cons.mpr ⟨qmk_275, List.forall_mem_cons.mpr ⟨qmk_276, List.forall_mem_cons.mpr ⟨qmk_277, List.forall_mem_cons.mpr ⟨qmk_278, (fun _ h => absurd h List.not_mem_nil)⟩⟩⟩⟩⟩⟩⟩⟩⟩⟩⟩⟩⟩⟩⟩⟩⟩⟩⟩
theorem qm_ok {M : Nat} (hM : M < 279) : qMOK M := by
  have h : M ∈ List.range 279 := List.mem_range.mpr hM
  rw [show List.range 279 = ([0, 1, 2, 3, 4, 5, 6, 7, 8, 9, 10, 11, 12, 13, 14, 15, 16, 17, 18, 19] ++ ([20, 21, 22, 23, 24, 25, 26, 27, 28, 29, 30, 31, 32, 33, 34, 35, 36, 37, 38, 39] ++ ([40, 41, 42, 43, 44, 45, 46, 47, 48, 49, 50, 51, 52, 53, 54, 55, 56, 57, 58, 59] ++ ([60, 61, 62, 63, 64, 65, 66, 67, 68, 69, 70, 71, 72, 73, 74, 75, 76, 77, 78, 79] ++ ([80, 81, 82, 83, 84, 85, 86, 87, 88, 89, 90, 91, 92, 93, 94, 95, 96, 97, 98, 99] ++ ([100, 101, 102, 103, 104, 105, 106, 107, 108, 109, 110, 111, 112, 113, 114, 115, 116, 117, 118, 119] ++ ([120, 121, 122, 123, 124, 125, 126, 127, 128, 129, 130, 131, 132, 133, 134, 135, 136, 137, 138, 139] ++ ([140, 141, 142, 143, 144, 145, 146, 147, 148, 149, 150, 151, 152, 153, 154, 155, 156, 157, 158, 159] ++ ([160, 161, 162, 163, 164, 165, 166, 167, 168, 169, 170, 171, 172, 173, 174, 175, 176, 177, 178, 179] ++ ([180, 181, 182, 183, 184, 185, 186, 187, 188, 189, 190, 191, 192, 193, 194, 195, 196, 197, 198, 199] ++ ([200, 201, 202, 203, 204, 205, 206, 207, 208, 209, 210, 211, 212, 213, 214, 215, 216, 217, 218, 219] ++ ([220, 221, 222, 223, 224, 225, 226, 227, 228, 229, 230, 231, 232, 233, 234, 235, 236, 237, 238, 239] ++ ([240, 241, 242, 243, 244, 245, 246, 247, 248, 249, 250, 251, 252, 253, 254, 255, 256, 257, 258, 259] ++ ([260, 261, 262, 263, 264, 265, 266, 267, 268, 269, 270, 271, 272, 273, 274, 275, 276, 277, 278])))))))))))))) from by decide +kernel] at h
  exact (List.forall_mem_append.mpr ⟨qmkc_0, List.forall_mem_append.mpr ⟨qmkc_1, List.forall_mem_append.mpr ⟨qmkc_2, List.forall_mem_append.mpr ⟨qmkc_3, List.forall_mem_append.mpr ⟨qmkc_4, List.forall_mem_append.mpr ⟨qmkc_5, List.forall_mem_append.mpr ⟨qmkc_6, List.forall_mem_append.mpr ⟨qmkc_7, List.forall_mem_append.mpr ⟨qmkc_8, List.forall_mem_append.mpr ⟨qmkc_9, List.forall_mem_append.mpr ⟨qmkc_10, List.forall_mem_append.mpr ⟨qmkc_11, List.forall_mem_append.mpr ⟨qmkc_12, qmkc_13⟩⟩⟩⟩⟩⟩⟩⟩⟩⟩⟩⟩⟩ : ∀ M ∈ ([0, 1, 2, 3, 4, 5, 6, 7, 8, 9, 10, 11, 12, 13, 14, 15, 16, 17, 18, 19] ++ ([20, 21, 22, 23, 24, 25, 26, 27, 28, 29, 30, 31, 32, 33, 34, 35, 36, 37, 38, 39] ++ ([40, 41, 42, 43, 44, 45, 46, 47, 48, 49, 50, 51, 52, 53, 54, 55, 56, 57, 58, 59] ++ ([60, 61, 62, 63, 64, 65, 66, 67, 68, 69, 70, 71, 72, 73, 74, 75, 76, 77, 78, 79] ++ ([80, 81, 82, 83, 84, 85, 86, 87, 88, 89, 90, 91, 92, 93, 94, 95, 96, 97, 98, 99] ++ ([100, 101, 102, 103, 104, 105, 106, 107, 108, 109, 110, 111, 112, 113, 114, 115, 116, 117, 118, 119] ++ ([120, 121, 122, 123, 124, 125, 126, 127, 128, 129, 130, 131, 132, 133, 134, 135, 136, 137, 138, 139] ++ ([140, 141, 142, 143, 144, 145, 146, 147, 148, 149, 150, 151, 152, 153, 154, 155, 156, 157, 158, 159] ++ ([160, 161, 162, 163, 164, 165, 166, 167, 168, 169, 170, 171, 172, 173, 174, 175, 176, 177, 178, 179] ++ ([180, 181, 182, 183, 184, 185, 186, 187, 188, 189, 190, 191, 192, 193, 194, 195, 196, 197, 198, 199] ++ ([200, 201, 202, 203, 204, 205, 206, 207, 208, 209, 210, 211, 212, 213, 214, 215, 216, 217, 218, 219] ++ ([220, 221, 222, 223, 224, 225, 226, 227, 228, 229, 230, 231, 232, 233, 234, 235, 236, 237, 238, 239] ++ ([240, 241, 242, 243, 244, 245, 246, 247, 248, 249, 250, 251, 252, 253, 254, 255, 256, 257, 258, 259] ++ ([260, 261, 262, 263, 264, 265, 266, 267, 268, 269, 270, 271, 272, 273, 274, 275, 276, 277, 278])))))))))))))), qMOK M) M h
theorem qmem_nth {α : Type} {l : List α} : ∀ {ws : List α} {ps : List Nat}, ws.map some = ps.map (qnth l) → ∀ w ∈ ws, w ∈ l := by
  intro ws
  induction ws with
  | nil => intro ps _ w hw; cases hw
  | cons a ws ih =>
    intro ps h w hw
    cases ps with
    | nil => cases h
    | cons i ps =>
      simp only [List.map_cons, List.cons.injEq] at h
      rcases List.mem_cons.mp hw with rfl | hw
      · have := h.1.symm
        rw [qnth_eq] at this
        exact List.mem_of_getElem? this
      · exact ih h.2 w hw
/-- the fields' words of each class -/
theorem qin_0 : ∀ w ∈ wsX00, w ∈ qG := fun w h => qG_in (qmem_nth (l := lw_tbl) (ws := wsX00) (ps := [192, 194, 196, 198, 200]) (by decide +kernel) w h) (List.all_eq_true.mp (show wsX00.all goodWord = true by decide +kernel) w h)
theorem qin_1 : ∀ w ∈ wsX10, w ∈ qG := fun w h => qG_in (qmem_nth (l := lw_tbl) (ws := wsX10) (ps := [216, 218, 220]) (by decide +kernel) w h) (List.all_eq_true.mp (show wsX10.all goodWord = true by decide +kernel) w h)
theorem qin_2 : ∀ w ∈ wsX20, w ∈ qG := fun w h => qG_in (qmem_nth (l := lw_tbl) (ws := wsX20) (ps := [174, 176, 178, 180]) (by decide +kernel) w h) (List.all_eq_true.mp (show wsX20.all goodWord = true by decide +kernel) w h)
theorem qin_3 : ∀ w ∈ wsX30, w ∈ qG := fun w h => qG_in (qmem_nth (l := lw_tbl) (ws := wsX30) (ps := [252, 254]) (by decide +kernel) w h) (List.all_eq_true.mp (show wsX30.all goodWord = true by decide +kernel) w h)
theorem qin_4 : ∀ w ∈ wsX40, w ∈ qG := fun w h => qG_in (qmem_nth (l := lw_tbl) (ws := wsX40) (ps := [273, 275, 277, 279, 281, 283, 285, 287, 289]) (by decide +kernel) w h) (List.all_eq_true.mp (show wsX40.all goodWord = true by decide +kernel) w h)
theorem qin_5 : ∀ w ∈ wsX50, w ∈ qG := fun w h => qG_in (qmem_nth (l := lw_tbl) (ws := wsX50) (ps := [135, 137, 139, 141, 143, 145, 147, 149, 151, 153, 155, 157, 159]) (by decide +kernel) w h) (List.all_eq_true.mp (show wsX50.all goodWord = true by decide +kernel) w h)
theorem qin_6 : ∀ w ∈ wsX60, w ∈ qG := fun w h => qG_in (qmem_nth (l := lw_tbl) (ws := wsX60) (ps := [235, 237]) (by decide +kernel) w h) (List.all_eq_true.mp (show wsX60.all goodWord = true by decide +kernel) w h)
theorem qin_7 : ∀ w ∈ wsX70, w ∈ qG := fun w h => qG_in (qmem_nth (l := lw_tbl) (ws := wsX70) (ps := [302, 304, 306, 308, 310, 312, 314, 316, 318, 320]) (by decide +kernel) w h) (List.all_eq_true.mp (show wsX70.all goodWord = true by decide +kernel) w h)
theorem qin_8 : ∀ w ∈ wsX80, w ∈ qG := fun w h => qG_in (qmem_nth (l := lw_tbl) (ws := wsX80) (ps := [1169, 1171, 1173, 1175, 1177, 1179, 1181, 1183, 1185, 1187, 1189, 1191, 1193, 1195, 1197, 1199, 1201, 1203, 1205, 1207, 1209, 1211, 1213, 1215, 1217, 1219, 1221, 1223, 1225, 1227, 1229]) (by decide +kernel) w h) (List.all_eq_true.mp (show wsX80.all goodWord = true by decide +kernel) w h)
theorem qin_cl (c : Nat) (hc : c < 9) : vwCl[c]? = some (qcl c) ∧ (∀ w ∈ u_ws (qcl c).1 (qcl c).2.1 (qcl c).2.2, w ∈ qG) ∧ (∀ k, k < (qcl c).2.2 → parseFieldDescriptor ((qcl c).2.1 k).2.2.1 = some (qtyF c k)) ∧ (∀ a, a < (qcl c).2.2 → ∀ b, b < (qcl c).2.2 → a ≠ b → ((qcl c).2.1 a).2.1 ≠ ((qcl c).2.1 b).2.1) ∧ qfn c = (qcl c).2.2 := by
  match c, hc with
  | 0, _ => exact ⟨rfl, qin_0, tyX0_ok, nmX0, by decide +kernel⟩
  | 1, _ => exact ⟨rfl, qin_1, tyX1_ok, nmX1, by decide +kernel⟩
  | 2, _ => exact ⟨rfl, qin_2, tyX2_ok, nmX2, by decide +kernel⟩
  | 3, _ => exact ⟨rfl, qin_3, tyX3_ok, nmX3, by decide +kernel⟩
  | 4, _ => exact ⟨rfl, qin_4, tyX4_ok, nmX4, by decide +kernel⟩
  | 5, _ => exact ⟨rfl, qin_5, tyX5_ok, nmX5, by decide +kernel⟩
  | 6, _ => exact ⟨rfl, qin_6, tyX6_ok, nmX6, by decide +kernel⟩
  | 7, _ => exact ⟨rfl, qin_7, tyX7_ok, nmX7, by decide +kernel⟩
  | 8, _ => exact ⟨rfl, qin_8, tyX8_ok, nmX8, by decide +kernel⟩
  | n + 9, h => exact absurd h (by omega)
end
section
/-! THE CODES AGREE WITH THE BYTES: each resolved instruction is what the bytes decode to -/
def qbpc (cd : qC) (pc : Nat) : Nat := match qnth cd pc with
  | some row => row.1
  | none => 0
def qterm : Instr → Bool
  | .goto _ => true
  | .ireturn => true
  | .lreturn => true
  | .return_ => true
  | .tableswitch .. => true
  | .lookupswitch .. => true
  | _ => false
/-- the target's row for x -/
def qswt (d : Int) (ps : List (Int × Int)) (x : Int) : Int := match ps with
  | [] => d
  | (a, t) :: ps => if x = a then t else qswt d ps x
def qtgt (cd : qC) (b : Nat) (off t : Int) : Bool := decide ((b : Int) + off = (qbpc cd t.toNat : Int))
def qlk (cd : qC) (b : Nat) : List (Int × Int) → List (Int × Int) → Bool
  | [], [] => true
  | (a, o) :: ps, (a', t) :: qs => decide (a = a') && qtgt cd b o t && qlk cd b ps qs
  | _, _ => false
def qkeys (ps : List (Int × Int)) : Bool := ps.all fun z => decide ((Int32.ofInt z.1).toInt = z.1)
def qentry (o j : Nat) (i : Instr) : Bool := match (qcpl o j).1 with
  | 2 => decide (i = .iconst (qcpl o j).2)
  | 4 => decide (i = .jsr (qcpl o j).2)
  | _ => false
def qis (o j tag : Nat) (v : Nat) : Bool := decide (qcpl o j = (tag, (v : Int)))
def qrel (o : Nat) (ret : Option FieldType) (ini : Bool) (nL : Nat) (cd : qC) (b : Nat) (di i : Instr) : Bool := match di with
  | .iconst n => decide (i = .iconst n)
  | .bipush n => (match i with
      | .iconst m => decide ((Int8.ofInt n).toInt32 = Int32.ofInt m)
      | _ => false)
  | .sipush n => (match i with
      | .iconst m => decide ((Int16.ofInt n).toInt32 = Int32.ofInt m)
      | _ => false)
  | .ldc j => qentry o j i
  | .ldc_w j => qentry o j i
  | .lconst n => (match i with
      | .goto_w m => decide (Int64.ofNat (n : Nat) = Int64.ofInt m)
      | _ => false)
  | .ldc2_w j => decide ((qcpl o j).1 = 3 ∧ i = .goto_w (qcpl o j).2)
  | .iload j => decide (i = .iload j)
  | .lload j => decide (i = .lload j)
  | .aload j => decide (i = .aload j)
  | .iload_n j => decide (i = .iload j)
  | .lload_n j => decide (i = .lload j)
  | .aload_n j => decide (i = .aload j)
  | .istore j => decide (i = .istore j) && decide (j < nL)
  | .lstore j => decide (i = .lstore j) && decide (j + 1 < nL)
  | .astore j => decide (i = .astore j) && decide (j < nL)
  | .istore_n j => decide (i = .istore j) && decide ((j : Nat) < nL)
  | .lstore_n j => decide (i = .lstore j) && decide ((j : Nat) + 1 < nL)
  | .astore_n j => decide (i = .astore j) && decide ((j : Nat) < nL)
  | .iinc j n => decide (i = .iinc j n) && decide (j < nL)
  | .iadd => decide (i = .iadd)
  | .isub => decide (i = .isub)
  | .imul => decide (i = .imul)
  | .iand => decide (i = .iand)
  | .ior => decide (i = .ior)
  | .ixor => decide (i = .ixor)
  | .idiv => decide (i = .idiv)
  | .irem => decide (i = .irem)
  | .ineg => decide (i = .ineg)
  | .ishl => decide (i = .ishl)
  | .ishr => decide (i = .ishr)
  | .iushr => decide (i = .iushr)
  | .land => decide (i = .land)
  | .lor => decide (i = .lor)
  | .lshl => decide (i = .lshl)
  | .lshr => decide (i = .lshr)
  | .lcmp => decide (i = .lcmp)
  | .i2l => decide (i = .i2l)
  | .l2i => decide (i = .l2i)
  | .i2c => decide (i = .i2c)
  | .dup => decide (i = .dup)
  | .dup2 => decide (i = .dup2)
  | .pop => decide (i = .pop)
  | .ifCond c off => (match i with
      | .ifCond c' t => decide (c = c') && qtgt cd b off t
      | _ => false)
  | .if_icmp c off => (match i with
      | .if_icmp c' t => decide (c = c') && qtgt cd b off t
      | _ => false)
  | .goto off => (match i with
      | .goto t => qtgt cd b off t
      | _ => false)
  | .tableswitch d lo hi offs => (match i with
      | .lookupswitch d' ps => qtgt cd b d d' && qkeys ps.toList && ps.toList.all (fun z => decide (lo ≤ z.1 ∧ z.1 ≤ hi)) && decide ((offs.size : Int) = hi - lo + 1) && (List.range offs.size).all fun k => match offs[k]? with
          | some off => qtgt cd b off (qswt d' ps.toList (lo + (k : Int)))
          | none => false
      | _ => false)
  | .lookupswitch d ps => (match i with
      | .lookupswitch d' qs => qtgt cd b d d' && qkeys qs.toList && qlk cd b ps.toList qs.toList && (ps.toList.zip (ps.toList.drop 1)).all (fun (a, next) => a.1 < next.1)
      | _ => false)
  | .getfield j => (match i with
      | .getfield n => qis o j 1 n || (decide (n = 0) && qis o j 19 n) || (decide (n = 1) && qis o j 20 n)
      | _ => false)
  | .putfield j => (match i with
      | .putfield n => qis o j 1 n && (!(qfT n).2.2.2 || (ini && decide ((qfT n).1 = qown o)))
      | _ => false)
  | .getstatic j => (match i with
      | .jsr n => decide ((qcpl o j).2 = n) && decide ((qcpl o j).1 = 5 ∨ (qcpl o j).1 = 6 ∨ (qcpl o j).1 = 8)
      | .iconst n => decide (n = 1) && qis o j 7 1
      | _ => false)
  | .iaload => decide (i = .iaload)
  | .caload => decide (i = .caload)
  | .baload => decide (i = .baload)
  | .laload => decide (i = .laload)
  | .aaload => decide (i = .aaload)
  | .iastore => decide (i = .iastore)
  | .castore => decide (i = .castore)
  | .bastore => decide (i = .bastore)
  | .lastore => decide (i = .lastore)
  | .aastore => decide (i = .aastore)
  | .arraylength => decide (i = .arraylength)
  | .new j => (match i with
      | .new n => qis o j 9 n
      | _ => false)
  | .newarray t => (match i with
      | .anewarray n => (match t with
          | .int => n == 20
          | .long => n == 21
          | .char => n == 22
          | .boolean => n == 23
          | _ => false)
      | _ => false)
  | .anewarray j => decide (i = .anewarray 24) && qis o j 9 513
  | .invokevirtual j => (match i with
      | .invokestatic n => qis o j 11 n || qis o j 14 n
      | _ => false)
  | .invokestatic j => (match i with
      | .invokestatic n => qis o j 12 n || qis o j 15 n
      | .multianewarray .. => qis o j 18 0
      | .fmul => qis o j 21 0
      | .fadd => qis o j 22 0
      | _ => false)
  | .invokespecial j => (match i with
      | .invokestatic n => qis o j 13 n || qis o j 16 n
      | .pop2 => qis o j 17 0
      | _ => false)
  | .ireturn => (match i with
      | .ireturn => decide (ret = some .int)
      | .freturn => decide (ret = some .boolean)
      | .dreturn => decide (ret = some .char)
      | .areturn => decide (ret = some .byte)
      | _ => false)
  | .lreturn => decide (i = .lreturn ∧ ret = some .long)
  | .return_ => decide (i = .return_ ∧ ret = none)
  | _ => false
def qlen (di : Instr) : Nat := match di with
  | .bipush _ => 2
  | .sipush _ => 3
  | .ldc _ => 2
  | .ldc_w _ => 3
  | .ldc2_w _ => 3
  | .iload _ => 2
  | .lload _ => 2
  | .aload _ => 2
  | .istore _ => 2
  | .lstore _ => 2
  | .astore _ => 2
  | .iinc _ _ => 3
  | .ifCond _ _ => 3
  | .if_icmp _ _ => 3
  | .goto _ => 3
  | .getfield _ => 3
  | .putfield _ => 3
  | .getstatic _ => 3
  | .new _ => 3
  | .newarray _ => 2
  | .anewarray _ => 3
  | .invokevirtual _ => 3
  | .invokestatic _ => 3
  | .invokespecial _ => 3
  | _ => 1
def qrowok (o : Nat) (ret : Option FieldType) (ini : Bool) (nL : Nat) (b : ByteArray) (cd : qC) (k : Nat) (row : Nat × Nat × Instr) : Bool :=
  decide (row.2.2 = .nop) || match decode b row.1 with
    | .ok (di, len) => qrel o ret ini nL cd row.1 di row.2.2 && (qterm di || (decide (len = qlen di) && match qnth cd (k + 1) with
        | some nx => decide (nx.1 = row.1 + len)
        | none => false)) && (match di with
          | .goto _ => decide (len = 3)
          | .ireturn => decide (len = 1)
          | .lreturn => decide (len = 1)
          | .return_ => decide (len = 1)
          | _ => true)
    | .error _ => false
def qcodes (o : Nat) (ret : Option FieldType) (ini : Bool) (nL : Nat) (b : ByteArray) (cd : qC) : Nat → List (Nat × Nat × Instr) → Bool
  | _, [] => true
  | k, row :: l => qrowok o ret ini nL b cd k row && qcodes o ret ini nL b cd (k + 1) l
/-- a method's code is as its bytes have it -/
abbrev qcodeok (M : Nat) : Prop := qcodes (qm M).1 (qm M).2.2.2.2.2.1 (decide ((qmy M).name = "<init>")) (qm M).2.2.2.2.1 (qm M).2.2.2.1 (qm M).2.2.2.2.2.2 0 (qm M).2.2.2.2.2.2 = true
theorem qcodes_at {o : Nat} {ret : Option FieldType} {ini : Bool} {nL : Nat} {b : ByteArray} {cd : qC} : ∀ {l : List (Nat × Nat × Instr)} {k i : Nat} {row : Nat × Nat × Instr}, qcodes o ret ini nL b cd k l = true → qnth l i = some row → qrowok o ret ini nL b cd (k + i) row = true := by
  intro l
  induction l with
  | nil => intro k i row h hi; cases i <;> cases hi
  | cons a l ih =>
    intro k i row h hi
    simp only [qcodes, Bool.and_eq_true] at h
    cases i with
    | zero => simp only [qnth, Option.some.injEq] at hi; rw [← hi]; exact h.1
    | succ i =>
      have := ih h.2 (show qnth l i = some row from hi)
      rw [show k + (i + 1) = k + 1 + i by omega]
      exact this
end
section
/-! SOUNDNESS, FIRST PART: locals, writes, new objects -/
def qal (base : Nat) (cv : Nat → Value) (L : List Value) : List (Nat × Value) := (List.range L.length).filterMap fun i => match qnth L i with
  | some .null => none
  | some v => some (i, qtr base cv v)
  | none => none
theorem qal_mem {base : Nat} {cv : Nat → Value} {L : List Value} {i : Nat} {w : Value} : (i, w) ∈ qal base cv L ↔ ∃ v, qnth L i = some v ∧ v ≠ .null ∧ w = qtr base cv v := by
  unfold qal
  rw [List.mem_filterMap]
  constructor
  · rintro ⟨j, hj, h⟩
    split at h
    · cases h
    · rename_i v hn he
      simp only [Option.some.injEq, Prod.mk.injEq] at h
      obtain ⟨rfl, rfl⟩ := h
      exact ⟨v, he, fun z => hn (by rw [z]), rfl⟩
    · cases h
  · rintro ⟨v, h1, h2, rfl⟩
    refine ⟨i, List.mem_range.mpr (qnth_lt h1), ?_⟩
    rw [h1]
    split
    · rename_i h; exact absurd (Option.some.inj h) h2
    · rename_i v' _ h; rw [Option.some.inj h]
    · rename_i h; cases h
theorem qLs.has {base : Nat} {cv : Nat → Value} {ls : Array Slot} {nL : Nat} {L : List Value} (h : qLs base cv ls nL L) : lv_has ls nL (qal base cv L) := by
  refine ⟨h.1, h.2.2.1, fun q hq => ?_⟩
  obtain ⟨i, w⟩ := q
  obtain ⟨v, h1, h2, rfl⟩ := qal_mem.mp hq
  exact h.2.2.2 i v h1 h2
theorem qLs.at {base : Nat} {cv : Nat → Value} {ls : Array Slot} {nL : Nat} {L : List Value} (h : qLs base cv ls nL L) {i : Nat} {v : Value} (h1 : qnth L i = some v) (h2 : v ≠ .null) : ls[i]? = some (.val (qtr base cv v)) := h.2.2.2 i v h1 h2
def qtwo (v : Value) : Prop := (∃ x, v = .long x) ∨ ∃ x, v = .double x
theorem qtr_cat {base : Nat} {cv : Nat → Value} (hcv : ∀ j, (cv j).category = 1) {v : Value} (h : ¬ qtwo v) : (qtr base cv v).category = 1 := by
  cases v with
  | long x => exact absurd (Or.inl ⟨x, rfl⟩) h
  | double x => exact absurd (Or.inr ⟨x, rfl⟩) h
  | ref a => cases a <;> rfl
  | retAddr j => exact hcv j
  | _ => rfl
theorem qnth_set {α : Type} {l : List α} {i j : Nat} {a : α} (h : j ≠ i) : qnth (l.set i a) j = qnth l j := by
  rw [qnth_eq, qnth_eq, List.getElem?_set_ne (fun e => h e.symm)]
theorem qnth_set_self {α : Type} {l : List α} {i : Nat} {a b : α} (h : qnth (l.set i a) i = some b) : b = a := by
  rw [qnth_eq, List.getElem?_set_self'] at h
  cases hq : l[i]? with
  | none => rw [hq] at h; cases h
  | some z => rw [hq] at h; exact (Option.some.inj h).symm
theorem qst_len (L : List Value) (i : Nat) (v : Value) : (qst L i v).length = L.length := by
  unfold qst
  split
  · simp
  · split <;> simp
theorem qst_self {L : List Value} {i : Nat} {v w : Value} (h : qnth (qst L i v) i = some w) : w = v := by
  unfold qst at h
  split at h
  · exact qnth_set_self h
  · split at h <;> exact qnth_set_self h
theorem qst_ne {L : List Value} {i j : Nat} {v w : Value} (hj : j ≠ i) (h : qnth (qst L i v) j = some w) (hw : w ≠ .null) : qnth L j = some w ∧ (j + 1 = i → ¬ qtwo w) := by
  unfold qst at h
  split at h
  · rw [qnth_set hj] at h
    exact ⟨h, fun e => by omega⟩
  · rename_i i
    split at h
    · rw [qnth_set hj] at h
      by_cases hi : j = i
      · subst hi; exact absurd (qnth_set_self h) hw
      · rw [qnth_set hi] at h
        exact ⟨h, fun e => by omega⟩
    · rw [qnth_set hj] at h
      by_cases hi : j = i
      · subst hi; exact absurd (qnth_set_self h) hw
      · rw [qnth_set hi] at h
        exact ⟨h, fun e => by omega⟩
    · rename_i h1 h2
      rw [qnth_set hj] at h
      refine ⟨h, fun e q => ?_⟩
      have e2 : j = i := by omega
      subst e2
      rcases q with ⟨x, rfl⟩ | ⟨x, rfl⟩
      · exact h1 x h
      · exact h2 x h
theorem qLs.st1 {base : Nat} {cv : Nat → Value} {ls ls' : Array Slot} {nL i : Nat} {L : List Value} {v : Value} (hcv : ∀ j, (cv j).category = 1) (h : qLs base cv ls nL L)
    (h' : lv_has ls' nL ((i, qtr base cv v) :: (qal base cv L).filter (fun q => !(q.1 == i) && !(q.1 + 1 == i && q.2.category == 2)))) : qLs base cv ls' nL (qst L i v) := by
  refine ⟨h'.1, by rw [qst_len]; exact h.2.1, h'.2.1, fun j w hj hw => ?_⟩
  refine h'.2.2 (j, qtr base cv w) ?_
  by_cases hji : j = i
  · subst hji
    rw [qst_self hj]
    exact List.mem_cons_self
  · obtain ⟨g1, g2⟩ := qst_ne hji hj hw
    refine List.mem_cons_of_mem _ (List.mem_filter.mpr ⟨qal_mem.mpr ⟨w, g1, hw, rfl⟩, ?_⟩)
    by_cases hjj : j + 1 = i
    · simp [hji, qtr_cat hcv (g2 hjj)]
    · simp [hji, hjj]
theorem qLs.st2 {base : Nat} {cv : Nat → Value} {ls ls' : Array Slot} {nL i : Nat} {L : List Value} {x : Int64} (hcv : ∀ j, (cv j).category = 1) (h : qLs base cv ls nL L)
    (h' : lv_has ls' nL ((i, Value.long x) :: (qal base cv L).filter (fun q => !(q.1 == i) && (!(q.1 == i + 1) && !(q.1 + 1 == i && q.2.category == 2))))) : qLs base cv ls' nL (qst (L.set (i + 1) .null) i (.long x)) := by
  refine ⟨h'.1, by rw [qst_len, List.length_set]; exact h.2.1, h'.2.1, fun j w hj hw => ?_⟩
  refine h'.2.2 (j, qtr base cv w) ?_
  by_cases hji : j = i
  · subst hji
    rw [qst_self hj]
    exact List.mem_cons_self
  · obtain ⟨g1, g2⟩ := qst_ne hji hj hw
    by_cases hj1 : j = i + 1
    · subst hj1; exact absurd (qnth_set_self g1) hw
    · rw [qnth_set hj1] at g1
      refine List.mem_cons_of_mem _ (List.mem_filter.mpr ⟨qal_mem.mpr ⟨w, g1, hw, rfl⟩, ?_⟩)
      by_cases hjj : j + 1 = i
      · simp [hji, hj1, qtr_cat hcv (g2 hjj)]
      · simp [hji, hj1, hjj]
/-- fewer locals are known -/
def qle : List Value → List Value → Prop
  | [], _ => True
  | _ :: _, [] => False
  | v :: l, w :: k => (v = .null ∨ v = w) ∧ qle l k
theorem qle_nth : ∀ {L L' : List Value} {i : Nat} {v : Value}, qle L L' → qnth L i = some v → v ≠ .null → qnth L' i = some v := by
  intro L
  induction L with
  | nil => intro L' i v _ h; cases i <;> cases h
  | cons a L ih =>
    intro L' i v h h1 h2
    cases L' with
    | nil => exact h.elim
    | cons b L' =>
      cases i with
      | zero =>
        simp only [qnth, Option.some.injEq] at h1 ⊢
        rcases h.1 with e | e
        · exact absurd (h1.symm.trans e) h2
        · rw [← e]; exact h1
      | succ i => exact (show qnth L' i = some v from ih h.2 (show qnth L i = some v from h1) h2)
theorem qLs.le {base : Nat} {cv : Nat → Value} {ls : Array Slot} {nL : Nat} {L L' : List Value} (h : qLs base cv ls nL L') (hn : L.length = L'.length) (hq : qle L L') : qLs base cv ls nL L :=
  ⟨h.1, hn.trans h.2.1, h.2.2.1, fun i v h1 h2 => h.2.2.2 i v (qle_nth hq h1 h2) h2⟩
theorem qtys_ok : ∀ c, c < 9 → ∀ j, j < qfn c → (qfty c j = 0 ∧ qtyF c j = .int) ∨ (qfty c j = 3 ∧ qtyF c j = .boolean) ∨ (qfty c j = 2 ∧ ((∃ n, qtyF c j = .object n) ∨ ∃ t, qtyF c j = .array t)) := by
  intro c hc j hj
  have key : ∀ c, c < 9 → ∀ j, j < qfn c → (qfty c j = 0 ∧ qtyF c j = .int) ∨ (qfty c j = 3 ∧ qtyF c j = .boolean) ∨ (qfty c j = 2 ∧ (match qtyF c j with | .object _ => true | .array _ => true | _ => false) = true) := by decide +kernel
  rcases key c hc j hj with h | h | h
  · exact Or.inl h
  · exact Or.inr (Or.inl h)
  · refine Or.inr (Or.inr ⟨h.1, ?_⟩)
    have h2 := h.2
    revert h2
    cases qtyF c j with
    | object n => exact fun _ => Or.inl ⟨n, rfl⟩
    | array t => exact fun _ => Or.inr ⟨t, rfl⟩
    | _ => exact fun h => by cases h
theorem qE_obj {base : Nat} {ca : Nat → ClassId} {cv : Nat → Value} {μ : qM} {k c n : Nat} (h : qnth μ.1 k = some (c, n)) (hc : c < 20) : qE base ca cv μ k = .inr (c, (List.range (qfn c)).map (qslot base cv μ k c)) := by
  unfold qE; rw [h]; simp [hc]
theorem qE_int {base : Nat} {ca : Nat → ClassId} {cv : Nat → Value} {μ : qM} {k c n : Nat} (h : qnth μ.1 k = some (c, n)) (h1 : ¬ c < 20) (h2 : c ≠ 21) (h3 : c ≠ 24) : qE base ca cv μ k = .inl (ca c, n, .inl (qI μ (k + 1))) := by
  unfold qE; rw [h]; simp [h1, h2, h3]
theorem qE_long {base : Nat} {ca : Nat → ClassId} {cv : Nat → Value} {μ : qM} {k n : Nat} (h : qnth μ.1 k = some (21, n)) : qE base ca cv μ k = .inl (ca 21, n, .inr (.inl (qL μ (k + 1)))) := by
  unfold qE; rw [h]; simp
theorem qE_ref {base : Nat} {ca : Nat → ClassId} {cv : Nat → Value} {μ : qM} {k n : Nat} (h : qnth μ.1 k = some (24, n)) : qE base ca cv μ k = .inl (ca 24, n, .inr (.inr (.inr (.inr fun j => qopt base (qP μ (k + 1) j))))) := by
  unfold qE; rw [h]; simp
theorem qE_setI {base : Nat} {ca : Nat → ClassId} {cv : Nat → Value} {μ : qM} {k c n j : Nat} {x : Int32} (h : qnth μ.1 k = some (c, n)) (hc : c < 20) (hj : qfty c j ≠ 2) : qE base ca cv (qsI μ (k + 1) j x) k = .inr (c, ((List.range (qfn c)).map (qslot base cv μ k c)).set j (.int x)) := by
  rw [qE_obj (μ := qsI μ (k + 1) j x) h hc]
  congr 2
  apply List.ext_getElem?
  intro i
  rw [List.getElem?_set]
  by_cases hi : i < qfn c
  · by_cases hij : j = i
    · subst hij
      simp [hi, qslot, hj, qI, qsI]
    · have hij' : ¬ i = j := fun e => hij e.symm
      simp only [hij, if_false, List.getElem?_map, List.getElem?_range hi, Option.map_some]
      congr 1
      simp [qslot, qI, qsI, hij', qP]
  · by_cases hij : j = i
    · subst hij; simp [hi]
    · simp [hij, Nat.not_lt.mp hi]
theorem qE_setP {base : Nat} {ca : Nat → ClassId} {cv : Nat → Value} {μ : qM} {k c n j x : Nat} (h : qnth μ.1 k = some (c, n)) (hc : c < 20) (hj : qfty c j = 2) : qE base ca cv (qsP μ (k + 1) j x) k = .inr (c, ((List.range (qfn c)).map (qslot base cv μ k c)).set j (qtr base cv (.ref x))) := by
  rw [qE_obj (μ := qsP μ (k + 1) j x) h hc]
  congr 2
  apply List.ext_getElem?
  intro i
  rw [List.getElem?_set]
  by_cases hi : i < qfn c
  · by_cases hij : j = i
    · subst hij
      simp [hi, qslot, hj, qP, qsP]
    · have hij' : ¬ i = j := fun e => hij e.symm
      simp only [hij, if_false, List.getElem?_map, List.getElem?_range hi, Option.map_some]
      congr 1
      simp [qslot, qI, qsP, hij', qP]
  · by_cases hij : j = i
    · subst hij; simp [hi]
    · simp [hij, Nat.not_lt.mp hi]
theorem qfits_ref {base : Nat} {cv : Nat → Value} {ty : FieldType} (h : (∃ n, ty = .object n) ∨ ∃ t, ty = .array t) (x : Nat) : narrow ty (qtr base cv (.ref x)) = qtr base cv (.ref x) ∧ fits ty (qtr base cv (.ref x)) = true := by
  rcases h with ⟨n, rfl⟩ | ⟨t, rfl⟩ <;> cases x <;> exact ⟨rfl, rfl⟩
theorem qfits_bool {x : Int32} (h : x = 0 ∨ x = 1) : narrow .boolean (.int x) = .int x ∧ fits .boolean (.int x) = true := by
  rcases h with rfl | rfl <;> exact ⟨by decide +kernel, by decide +kernel⟩
theorem qfits_int (x : Int32) : narrow .int (.int x) = .int x ∧ fits .int (.int x) = true := ⟨rfl, rfl⟩
section QPUT
variable {p : Program} {l : Launch} {e : Env} {R : Room} {s : State} {m : MethodId} {args : Array Value} {below : List Frame} {meth : Method} {c : Code} {H : Heap} {locs : List Loc} {cells slots : Nat} {Q : State → Prop}
variable {cc : ByteArray} {pc : Nat} {ls : Array Slot} {rest : List Value} {D : va_G} {A : Nat → Prop} {ws : va_W} {tys : List (ClassId × FieldType)} {H0 : Heap}
/-- a field of ours is written; how large the heap is stays -/
theorem qr_put (hx : p.tables.exec = Jvm.exec) (hb : c.code = cc) {own : String} {ci index : Nat} (hts : ∀ w ∈ qG, w.before args s = true) (hci : ci < 9) (hown : s.vm.findClass own = some m.cls) (hK : va_K D vwCl tys s) (hP : va_P D vwCl ws H) (hD : va_D A ws) (hS0 : va_S A H0 H locs)
    (q0 : Nat) {a : Nat} {fs : List Value} (he : ws[q0]? = some (a, .inr (ci, fs))) (k : Nat) (hk : k < qfn ci) (hlink : (Cond.fieldLink own index ((qcl ci).2.1 k).1 ((qcl ci).2.1 k).2.1 ((qcl ci).2.1 k).2.2.1).before args s = true) (hfin : ((qcl ci).2.1 k).2.2.2 = false ∨ (meth.name = "<init>" ∧ ((qcl ci).2.1 k).1 = own)) {v : Value} (hn : narrow (qtyF ci k) v = v) (hfit : fits (qtyF ci k) v = true) (hl : k < fs.length)
    (hdg : decode cc pc = .ok (.putfield index, 3)) (kk : ∀ (H1 : Heap) (locs1 : List Loc), va_P D vwCl (ws.set q0 (a, .inr (ci, fs.set k v))) H1 → va_S A H0 H1 locs1 → H1.size = H.size → W p l e R s m args below meth c H1 locs1 cells slots Q (F0 m (pc + 3) ls rest)) : W p l e R s m args below meth c H locs cells slots Q (F0 m pc ls (v :: .ref a :: rest)) := by
  obtain ⟨hc, hin, hty, hnm, hfn⟩ := qin_cl ci hci
  rw [hfn] at hk
  have hap := va_apart (own := own) hts hin (qtyF ci) hty hnm hK hc
  obtain ⟨r, h1, cell, q1, q2, q3, q4⟩ := hP q0 _ he
  have hr : r = qcl ci := Option.some.inj (h1.symm.trans hc)
  subst hr
  obtain ⟨hSl, hfc, kC, hkC, hkind⟩ := hK.1 ci _ hc
  obtain ⟨cf, kf, fi, f, hi, hsl⟩ := hSl k hk
  have hd := hty k hk
  have hall := u_lays hts hin hk
  have hst := (u_facts hfc hkC hall hi).1
  have fin : ∀ H' : Heap, H'[a]? = some (cell.setSlot f.slot v) → (∀ q, q ≠ a → H'[q]? = H[q]?) → va_P D vwCl (ws.set q0 (a, .inr (ci, fs.set k v))) H' := by
    intro H' e1 e3
    rw [hsl] at e1
    exact hP.set hD he ⟨_, hc, t_OB.to (V := updV (vp_V fs) k v) ⟨_, e1, q2, q3, t_set q4 hap hk v⟩ (fun j _ => vp_updV_set hl v j)⟩ e3
  have h6 := u_fits hfc hkC hkind hall hi hd hn hfit
  rcases hfin with hfin | ⟨hini, hdecl⟩
  · have hlay := hts _ (hin _ (u_in_lay hk))
    unfold u_lay at hlay
    rw [if_neg (by rw [hfin]; decide)] at hlay
    have h7 := u_store hfc hkC hkind hlay hi hd hn hfit
    exact W.putK hx hb (f := f) ⟨hown, hlink, ⟨_, _, _, hi⟩, hst⟩ (by rw [q2]; exact h7) q1 q3 (by rw [hsl]; exact k2_hasslot (q4 k hk)) rfl rfl hdg fun H' e1 e2 e3 => kk H' _ (fin H' e1 e3) (hS0.put e2 e3 (hD.2 q0 _ he)) e2
  · by_cases hf2 : ((qcl ci).2.1 k).2.2.2 = true
    · have hlay := hts _ (hin _ (u_in_lay hk))
      unfold u_lay at hlay
      rw [if_pos hf2] at hlay
      have hcf : m.cls = cf := by
        obtain ⟨_, _, c', _, _, _, -, -, hf', -, -, -, hown2, -⟩ := Cond.laysFinal_spec hlay
        have e1 : c' = cf := by have := hi.symm.trans hf'; simp at this; exact this.1.symm
        rw [hdecl] at hown2
        rw [← e1]; exact Option.some.inj (hown.symm.trans hown2)
      exact W.putFinK hx hb hown hlink hi hst hcf hini (by rw [q2]; exact h6) q1 q3 (by rw [hsl]; exact k2_hasslot (q4 k hk)) rfl rfl hdg fun H' e1 e2 e3 => kk H' _ (fin H' e1 e3) (hS0.put e2 e3 (hD.2 q0 _ he)) e2
    · have hlay := hts _ (hin _ (u_in_lay hk))
      unfold u_lay at hlay
      rw [if_neg hf2] at hlay
      have h7 := u_store hfc hkC hkind hlay hi hd hn hfit
      exact W.putK hx hb (f := f) ⟨hown, hlink, ⟨_, _, _, hi⟩, hst⟩ (by rw [q2]; exact h7) q1 q3 (by rw [hsl]; exact k2_hasslot (q4 k hk)) rfl rfl hdg fun H' e1 e2 e3 => kk H' _ (fin H' e1 e3) (hS0.put e2 e3 (hD.2 q0 _ he)) e2
theorem qr_ist (hx : p.tables.exec = Jvm.exec) (hb : c.code = cc) (hK : va_K D vwCl tys s) (hP : va_P D vwCl ws H) (hD : va_D A ws) (hS : va_S A H0 H locs) (q0 t0 : Nat) {a : Nat} {cA : ClassId} {n : Nat} {f : Nat → Int32} (ha : ws[q0]? = some (a, .inl (cA, n, .inl f))) (ht : tys[t0]? = some (cA, .int)) {i x : Int32} (hin : vp_in i n) (hdg : decode cc pc = .ok (.iastore, 1))
    (kk : ∀ (H1 : Heap) (locs1 : List Loc), va_P D vwCl (ws.set q0 (a, .inl (cA, n, .inl (upd f i.toNatClampNeg x)))) H1 → va_S A H0 H1 locs1 → H1.size = H.size → W p l e R s m args below meth c H1 locs1 cells slots Q (F0 m (pc + 1) ls rest)) : W p l e R s m args below meth c H locs cells slots Q (F0 m pc ls (.int x :: .int i :: .ref a :: rest)) := by
  refine W.iast hx hb (hP q0 _ ha) ((hK.2 t0 _ ht).1 n (fun j => .int (f j))) (fun q => by cases q) (by show ¬ (i < 0 ∨ (arrV _ _ _).slots.size ≤ _); rw [arrV_size]; exact hin) rfl rfl hdg fun H1 ee z oq => ?_
  refine kk H1 _ (hP.set hD ha ?_ oq) (hS.put z oq (hD.2 q0 _ ha)) z
  show H1[a]? = some (vp_cell _ _)
  rw [ee, vp_cell_i, vp_cell_i, arrV_store]
  congr 2
  funext q
  by_cases hq : q = i.toNatClampNeg
  · simp [updV, upd, hq]
  · simp [updV, upd, hq]
theorem qr_ast (hx : p.tables.exec = Jvm.exec) (hb : c.code = cc) (hK : va_K D vwCl tys s) (hP : va_P D vwCl ws H) (hD : va_D A ws) (hS : va_S A H0 H locs) (q0 t0 qk ci : Nat) {a : Nat} {cA : ClassId} {r : vw_C} {n v : Nat} {vs : List Value} {f : Nat → Option Nat} (ha : ws[q0]? = some (a, .inl (cA, n, .inr (.inr (.inr (.inr f)))))) (ht : tys[t0]? = some (cA, .object r.1)) (hv : ws[qk]? = some (v, .inr (ci, vs))) (hc : vwCl[ci]? = some r) {i : Int32} (hin : vp_in i n) (hdg : decode cc pc = .ok (.aastore, 1))
    (kk : ∀ (H1 : Heap) (locs1 : List Loc), va_P D vwCl (ws.set q0 (a, .inl (cA, n, .inr (.inr (.inr (.inr (va_up f i.toNatClampNeg (some v)))))))) H1 → va_S A H0 H1 locs1 → H1.size = H.size → W p l e R s m args below meth c H1 locs1 cells slots Q (F0 m (pc + 1) ls rest)) : W p l e R s m args below meth c H locs cells slots Q (F0 m pc ls (.ref v :: .int i :: .ref a :: rest)) := by
  have hlt : i.toNatClampNeg < n := Nat.not_le.mp fun q => hin (Or.inr q)
  have h0 : ¬ i < 0 := fun q => hin (Or.inl q)
  obtain ⟨r', hr', cellV, g1, g2, g3, -⟩ := hP qk _ hv
  have hcls := (hK.1 ci r hc).2
  obtain ⟨kA, comp, k1, k2, k3, -⟩ := (hK.2 t0 _ ht).2
  have hcomp : comp = D.1 ci := Option.some.inj (k3.symm.trans hcls.1)
  subst hcomp
  obtain ⟨kC, hkC, -⟩ := hcls.2
  refine W.aast hx hb (hP q0 _ ha) (fun q h => by cases h) (fun h => by cases h) k1 k2 rfl hkC ⟨h0, by show _ < (arrV _ _ _).slots.size; rw [arrV_size]; exact hlt⟩ g1 (fun q h => by rw [g3] at h; cases h) (by rw [g2]; exact hkC) (by rw [g2]; exact va_assign hcls) rfl rfl hdg fun H1 ee z oq => ?_
  refine kk H1 _ (hP.set hD ha ?_ oq) (hS.put z oq (hD.2 q0 _ ha)) z
  show H1[a]? = some (vp_cell _ _)
  rw [ee, vp_cell_q, vp_cell_q, arrV_store]
  congr 2
  funext q
  by_cases hq : q = i.toNatClampNeg
  · simp [updV, va_up, va_rf, hq]
  · simp [updV, va_up, hq]
end QPUT
end
section
/-! SOUNDNESS, SECOND PART: what the pure machine does in a step the machine does -/
section QSND
variable {p : Program} {l : Launch} {e : Env} {R : Room} {s : State} {m : MethodId} {args : Array Value} {below : List Frame} {meth : Method} {c : Code} {Q : State → Prop}
variable {al : Bool} {base : Nat} {D : va_G} {ca : Nat → ClassId} {cv : Nat → Value} {o : Nat} {cc : ByteArray} {cd : qC} {nL rc rs mc ms : Nat}
/-- what stands fast in a method -/
def qCtx (p : Program) (R : Room) (s : State) (m : MethodId) (args : Array Value) (meth : Method) (c : Code) (base : Nat) (D : va_G) (ca : Nat → ClassId) (cv : Nat → Value) (o : Nat) (ini : Bool) (cc : ByteArray) (nL mc ms d : Nat) : Prop :=
  p.tables.exec = Jvm.exec ∧ c.code = cc ∧ c.maxLocals = nL ∧ s.vm.findClass (qown o) = some m.cls ∧ (∀ w ∈ qG, w.before args s = true) ∧ va_K D vwCl (qtys ca) s ∧ qSt base cv s s.heap ∧ base ≤ s.heap.size ∧ (∀ j, (cv j).category = 1) ∧ (ini = true → meth.name = "<init>") ∧ 1 ≤ d ∧ d ≤ R.frames ∧ 40 * d ≤ R.locals ∧ mc ≤ R.cells ∧ ms ≤ R.slots
/-- from these rows, locals, stack and memory the machine comes to Q; rc, rs: the cells and slots made in the end, mc, ms: those that the method may make -/
def qGo (al : Bool) (p : Program) (l : Launch) (e : Env) (R : Room) (s : State) (m : MethodId) (args : Array Value) (below : List Frame) (meth : Method) (c : Code) (Q : State → Prop) (base : Nat) (D : va_G) (ca : Nat → ClassId) (cv : Nat → Value) (cd : qC) (nL rc rs mc ms : Nat) (pc : Nat) (L S : List Value) (μ : qM) : Prop :=
  (μ.2.2.2.2.1 ≤ rc ∧ μ.2.2.2.2.2 ≤ rs) ∧ ∀ (H : Heap) (locs : List Loc) (cells slots : Nat) (ls : Array Slot), va_P D vwCl (qW base ca cv μ) H → va_S (qA base) s.heap H locs → (al = true → H.size = base + μ.1.length) → qLs base cv ls nL L → cells + (rc - μ.2.2.2.2.1) = mc → slots + (rs - μ.2.2.2.2.2) = ms → W p l e R s m args below meth c H locs cells slots Q (F0 m (qbpc cd pc) ls (S.map (qtr base cv)))
theorem qGo.same {pc pc' : Nat} {L L' S S' : List Value} {μ : qM} (hk : qGo al p l e R s m args below meth c Q base D ca cv cd nL rc rs mc ms pc' L' S' μ)
    (st : ∀ (H : Heap) (locs : List Loc) (cells slots : Nat) (ls : Array Slot), va_P D vwCl (qW base ca cv μ) H → va_S (qA base) s.heap H locs → qLs base cv ls nL L → cells ≤ mc → slots ≤ ms → (∀ ls', qLs base cv ls' nL L' → W p l e R s m args below meth c H locs cells slots Q (F0 m (qbpc cd pc') ls' (S'.map (qtr base cv)))) → W p l e R s m args below meth c H locs cells slots Q (F0 m (qbpc cd pc) ls (S.map (qtr base cv)))) : qGo al p l e R s m args below meth c Q base D ca cv cd nL rc rs mc ms pc L S μ :=
  ⟨hk.1, fun H locs cells slots ls hP hS hz hl e1 e2 => st H locs cells slots ls hP hS hl (by omega) (by omega) (fun ls' hl' => hk.2 H locs cells slots ls' hP hS hz hl' e1 e2)⟩
/-- the memory changes, nothing is made -/
theorem qGo.mem {pc pc' : Nat} {L L' S S' : List Value} {μ μ' : qM} (hk : qGo al p l e R s m args below meth c Q base D ca cv cd nL rc rs mc ms pc' L' S' μ') (h1 : μ'.1 = μ.1) (h2 : μ'.2.2.2.2 = μ.2.2.2.2)
    (st : ∀ (H : Heap) (locs : List Loc) (cells slots : Nat) (ls : Array Slot), va_P D vwCl (qW base ca cv μ) H → va_S (qA base) s.heap H locs → qLs base cv ls nL L → cells ≤ mc → slots ≤ ms → (∀ H1 locs1 ls', va_P D vwCl (qW base ca cv μ') H1 → va_S (qA base) s.heap H1 locs1 → (al = true → H1.size = H.size) → qLs base cv ls' nL L' → W p l e R s m args below meth c H1 locs1 cells slots Q (F0 m (qbpc cd pc') ls' (S'.map (qtr base cv)))) → W p l e R s m args below meth c H locs cells slots Q (F0 m (qbpc cd pc) ls (S.map (qtr base cv)))) : qGo al p l e R s m args below meth c Q base D ca cv cd nL rc rs mc ms pc L S μ := by
  obtain ⟨g1, g2⟩ := hk
  rw [h2] at g1
  refine ⟨g1, fun H locs cells slots ls hP hS hz hl e1 e2 => st H locs cells slots ls hP hS hl (by omega) (by omega) (fun H1 locs1 ls' hP1 hS1 hz1 hl' => g2 H1 locs1 cells slots ls' hP1 hS1 (fun ha => ?_) hl' ?_ ?_)⟩
  · rw [hz1 ha, hz ha, h1]
  · rw [h2]; exact e1
  · rw [h2]; exact e2
theorem qcats_tr (hcv : ∀ j, (cv j).category = 1) (S : List Value) : ((S.map (qtr base cv)).map fun v => v.category).sum ≤ qcats S := by
  unfold qcats
  induction S with
  | nil => exact Nat.le_refl _
  | cons a S ih =>
    simp only [List.map_cons, List.sum_cons]
    have : (qtr base cv a).category ≤ a.category := by
      cases a with
      | ref x => cases x <;> exact Nat.le_refl _
      | retAddr j => rw [show qtr base cv (.retAddr j) = cv j from rfl, hcv j]; exact Nat.le_refl _
      | _ => exact Nat.le_refl _
    omega
variable {d : Nat} {ini : Bool} {k : qK} {cf : qF} {r : qR} {pc : Nat} {L S : List Value} {μ : qM}

theorem qs_iadd (C : qCtx p R s m args meth c base D ca cv o ini cc nL mc ms d)  (hd : decode cc (qbpc cd pc) = .ok (.iadd, 1)) (hn : qbpc cd (pc + 1) = qbpc cd pc + 1) (hk : ∀ pc L S μ, k pc L S μ = some r → qGo al p l e R s m args below meth c Q base D ca cv cd nL rc rs mc ms pc L S μ) (h : qop al cf (.iadd) pc L S μ k = some r) : qGo al p l e R s m args below meth c Q base D ca cv cd nL rc rs mc ms pc L S μ := by
  obtain ⟨hx, hb, hml, hown, hts, hK, hSt, hbs, hcv, hini, hd1, hfr, hlo, hmc, hms⟩ := C
  simp only [qop, q2] at h
  split at h
  · rename_i y x S1
    exact (hk _ _ _ _ h).same fun H locs cells slots ls hP hS hl hc hs kk => lv_iadd hx hb hd (by rw [← hn]; exact kk ls hl)
  · cases h
theorem qs_isub (C : qCtx p R s m args meth c base D ca cv o ini cc nL mc ms d)  (hd : decode cc (qbpc cd pc) = .ok (.isub, 1)) (hn : qbpc cd (pc + 1) = qbpc cd pc + 1) (hk : ∀ pc L S μ, k pc L S μ = some r → qGo al p l e R s m args below meth c Q base D ca cv cd nL rc rs mc ms pc L S μ) (h : qop al cf (.isub) pc L S μ k = some r) : qGo al p l e R s m args below meth c Q base D ca cv cd nL rc rs mc ms pc L S μ := by
  obtain ⟨hx, hb, hml, hown, hts, hK, hSt, hbs, hcv, hini, hd1, hfr, hlo, hmc, hms⟩ := C
  simp only [qop, q2] at h
  split at h
  · rename_i y x S1
    exact (hk _ _ _ _ h).same fun H locs cells slots ls hP hS hl hc hs kk => lv_isub hx hb hd (by rw [← hn]; exact kk ls hl)
  · cases h
theorem qs_imul (C : qCtx p R s m args meth c base D ca cv o ini cc nL mc ms d)  (hd : decode cc (qbpc cd pc) = .ok (.imul, 1)) (hn : qbpc cd (pc + 1) = qbpc cd pc + 1) (hk : ∀ pc L S μ, k pc L S μ = some r → qGo al p l e R s m args below meth c Q base D ca cv cd nL rc rs mc ms pc L S μ) (h : qop al cf (.imul) pc L S μ k = some r) : qGo al p l e R s m args below meth c Q base D ca cv cd nL rc rs mc ms pc L S μ := by
  obtain ⟨hx, hb, hml, hown, hts, hK, hSt, hbs, hcv, hini, hd1, hfr, hlo, hmc, hms⟩ := C
  simp only [qop, q2] at h
  split at h
  · rename_i y x S1
    exact (hk _ _ _ _ h).same fun H locs cells slots ls hP hS hl hc hs kk => lv_imul hx hb hd (by rw [← hn]; exact kk ls hl)
  · cases h
theorem qs_iand (C : qCtx p R s m args meth c base D ca cv o ini cc nL mc ms d)  (hd : decode cc (qbpc cd pc) = .ok (.iand, 1)) (hn : qbpc cd (pc + 1) = qbpc cd pc + 1) (hk : ∀ pc L S μ, k pc L S μ = some r → qGo al p l e R s m args below meth c Q base D ca cv cd nL rc rs mc ms pc L S μ) (h : qop al cf (.iand) pc L S μ k = some r) : qGo al p l e R s m args below meth c Q base D ca cv cd nL rc rs mc ms pc L S μ := by
  obtain ⟨hx, hb, hml, hown, hts, hK, hSt, hbs, hcv, hini, hd1, hfr, hlo, hmc, hms⟩ := C
  simp only [qop, q2] at h
  split at h
  · rename_i y x S1
    exact (hk _ _ _ _ h).same fun H locs cells slots ls hP hS hl hc hs kk => lv_iand hx hb hd (by rw [← hn]; exact kk ls hl)
  · cases h
theorem qs_ior (C : qCtx p R s m args meth c base D ca cv o ini cc nL mc ms d)  (hd : decode cc (qbpc cd pc) = .ok (.ior, 1)) (hn : qbpc cd (pc + 1) = qbpc cd pc + 1) (hk : ∀ pc L S μ, k pc L S μ = some r → qGo al p l e R s m args below meth c Q base D ca cv cd nL rc rs mc ms pc L S μ) (h : qop al cf (.ior) pc L S μ k = some r) : qGo al p l e R s m args below meth c Q base D ca cv cd nL rc rs mc ms pc L S μ := by
  obtain ⟨hx, hb, hml, hown, hts, hK, hSt, hbs, hcv, hini, hd1, hfr, hlo, hmc, hms⟩ := C
  simp only [qop, q2] at h
  split at h
  · rename_i y x S1
    exact (hk _ _ _ _ h).same fun H locs cells slots ls hP hS hl hc hs kk => lv_ior hx hb hd (by rw [← hn]; exact kk ls hl)
  · cases h
theorem qs_ixor (C : qCtx p R s m args meth c base D ca cv o ini cc nL mc ms d)  (hd : decode cc (qbpc cd pc) = .ok (.ixor, 1)) (hn : qbpc cd (pc + 1) = qbpc cd pc + 1) (hk : ∀ pc L S μ, k pc L S μ = some r → qGo al p l e R s m args below meth c Q base D ca cv cd nL rc rs mc ms pc L S μ) (h : qop al cf (.ixor) pc L S μ k = some r) : qGo al p l e R s m args below meth c Q base D ca cv cd nL rc rs mc ms pc L S μ := by
  obtain ⟨hx, hb, hml, hown, hts, hK, hSt, hbs, hcv, hini, hd1, hfr, hlo, hmc, hms⟩ := C
  simp only [qop, q2] at h
  split at h
  · rename_i y x S1
    exact (hk _ _ _ _ h).same fun H locs cells slots ls hP hS hl hc hs kk => lv_ixor hx hb hd (by rw [← hn]; exact kk ls hl)
  · cases h
theorem qs_ishl (C : qCtx p R s m args meth c base D ca cv o ini cc nL mc ms d)  (hd : decode cc (qbpc cd pc) = .ok (.ishl, 1)) (hn : qbpc cd (pc + 1) = qbpc cd pc + 1) (hk : ∀ pc L S μ, k pc L S μ = some r → qGo al p l e R s m args below meth c Q base D ca cv cd nL rc rs mc ms pc L S μ) (h : qop al cf (.ishl) pc L S μ k = some r) : qGo al p l e R s m args below meth c Q base D ca cv cd nL rc rs mc ms pc L S μ := by
  obtain ⟨hx, hb, hml, hown, hts, hK, hSt, hbs, hcv, hini, hd1, hfr, hlo, hmc, hms⟩ := C
  simp only [qop, q2] at h
  split at h
  · rename_i y x S1
    exact (hk _ _ _ _ h).same fun H locs cells slots ls hP hS hl hc hs kk => lv_ishl hx hb hd (by rw [← hn]; exact kk ls hl)
  · cases h
theorem qs_ishr (C : qCtx p R s m args meth c base D ca cv o ini cc nL mc ms d)  (hd : decode cc (qbpc cd pc) = .ok (.ishr, 1)) (hn : qbpc cd (pc + 1) = qbpc cd pc + 1) (hk : ∀ pc L S μ, k pc L S μ = some r → qGo al p l e R s m args below meth c Q base D ca cv cd nL rc rs mc ms pc L S μ) (h : qop al cf (.ishr) pc L S μ k = some r) : qGo al p l e R s m args below meth c Q base D ca cv cd nL rc rs mc ms pc L S μ := by
  obtain ⟨hx, hb, hml, hown, hts, hK, hSt, hbs, hcv, hini, hd1, hfr, hlo, hmc, hms⟩ := C
  simp only [qop, q2] at h
  split at h
  · rename_i y x S1
    exact (hk _ _ _ _ h).same fun H locs cells slots ls hP hS hl hc hs kk => lv_ishr hx hb hd (by rw [← hn]; exact kk ls hl)
  · cases h
theorem qs_iushr (C : qCtx p R s m args meth c base D ca cv o ini cc nL mc ms d)  (hd : decode cc (qbpc cd pc) = .ok (.iushr, 1)) (hn : qbpc cd (pc + 1) = qbpc cd pc + 1) (hk : ∀ pc L S μ, k pc L S μ = some r → qGo al p l e R s m args below meth c Q base D ca cv cd nL rc rs mc ms pc L S μ) (h : qop al cf (.iushr) pc L S μ k = some r) : qGo al p l e R s m args below meth c Q base D ca cv cd nL rc rs mc ms pc L S μ := by
  obtain ⟨hx, hb, hml, hown, hts, hK, hSt, hbs, hcv, hini, hd1, hfr, hlo, hmc, hms⟩ := C
  simp only [qop, q2] at h
  split at h
  · exact (hk _ _ _ _ h).same fun H locs cells slots ls hP hS hl hc hs kk => lv_iushr hx hb hd rfl (by rw [← hn]; exact kk ls hl)
  · cases h
theorem qs_idiv (C : qCtx p R s m args meth c base D ca cv o ini cc nL mc ms d)  (hd : decode cc (qbpc cd pc) = .ok (.idiv, 1)) (hn : qbpc cd (pc + 1) = qbpc cd pc + 1) (hk : ∀ pc L S μ, k pc L S μ = some r → qGo al p l e R s m args below meth c Q base D ca cv cd nL rc rs mc ms pc L S μ) (h : qop al cf (.idiv) pc L S μ k = some r) : qGo al p l e R s m args below meth c Q base D ca cv cd nL rc rs mc ms pc L S μ := by
  obtain ⟨hx, hb, hml, hown, hts, hK, hSt, hbs, hcv, hini, hd1, hfr, hlo, hmc, hms⟩ := C
  simp only [qop, q2] at h
  split at h
  · split at h
    · cases h
    · rename_i hne
      exact (hk _ _ _ _ h).same fun H locs cells slots ls hP hS hl hc hs kk => lv_idiv hx hb hd hne (by rw [← hn]; exact kk ls hl)
  · cases h
theorem qs_irem (C : qCtx p R s m args meth c base D ca cv o ini cc nL mc ms d)  (hd : decode cc (qbpc cd pc) = .ok (.irem, 1)) (hn : qbpc cd (pc + 1) = qbpc cd pc + 1) (hk : ∀ pc L S μ, k pc L S μ = some r → qGo al p l e R s m args below meth c Q base D ca cv cd nL rc rs mc ms pc L S μ) (h : qop al cf (.irem) pc L S μ k = some r) : qGo al p l e R s m args below meth c Q base D ca cv cd nL rc rs mc ms pc L S μ := by
  obtain ⟨hx, hb, hml, hown, hts, hK, hSt, hbs, hcv, hini, hd1, hfr, hlo, hmc, hms⟩ := C
  simp only [qop, q2] at h
  split at h
  · split at h
    · cases h
    · rename_i hne
      exact (hk _ _ _ _ h).same fun H locs cells slots ls hP hS hl hc hs kk => lv_irem hx hb hd hne (by rw [← hn]; exact kk ls hl)
  · cases h
theorem qs_ineg (C : qCtx p R s m args meth c base D ca cv o ini cc nL mc ms d)  (hd : decode cc (qbpc cd pc) = .ok (.ineg, 1)) (hn : qbpc cd (pc + 1) = qbpc cd pc + 1) (hk : ∀ pc L S μ, k pc L S μ = some r → qGo al p l e R s m args below meth c Q base D ca cv cd nL rc rs mc ms pc L S μ) (h : qop al cf (.ineg) pc L S μ k = some r) : qGo al p l e R s m args below meth c Q base D ca cv cd nL rc rs mc ms pc L S μ := by
  obtain ⟨hx, hb, hml, hown, hts, hK, hSt, hbs, hcv, hini, hd1, hfr, hlo, hmc, hms⟩ := C
  simp only [qop, q1] at h
  split at h
  · rename_i x S1
    exact (hk _ _ _ _ h).same fun H locs cells slots ls hP hS hl hc hs kk => lv_ineg hx hb hd (by rw [← hn]; exact kk ls hl)
  · cases h
theorem qs_land (C : qCtx p R s m args meth c base D ca cv o ini cc nL mc ms d)  (hd : decode cc (qbpc cd pc) = .ok (.land, 1)) (hn : qbpc cd (pc + 1) = qbpc cd pc + 1) (hk : ∀ pc L S μ, k pc L S μ = some r → qGo al p l e R s m args below meth c Q base D ca cv cd nL rc rs mc ms pc L S μ) (h : qop al cf (.land) pc L S μ k = some r) : qGo al p l e R s m args below meth c Q base D ca cv cd nL rc rs mc ms pc L S μ := by
  obtain ⟨hx, hb, hml, hown, hts, hK, hSt, hbs, hcv, hini, hd1, hfr, hlo, hmc, hms⟩ := C
  simp only [qop, ql2] at h
  split at h
  · rename_i y x S1
    exact (hk _ _ _ _ h).same fun H locs cells slots ls hP hS hl hc hs kk => lv_land hx hb hd (by rw [← hn]; exact kk ls hl)
  · cases h
theorem qs_lor (C : qCtx p R s m args meth c base D ca cv o ini cc nL mc ms d)  (hd : decode cc (qbpc cd pc) = .ok (.lor, 1)) (hn : qbpc cd (pc + 1) = qbpc cd pc + 1) (hk : ∀ pc L S μ, k pc L S μ = some r → qGo al p l e R s m args below meth c Q base D ca cv cd nL rc rs mc ms pc L S μ) (h : qop al cf (.lor) pc L S μ k = some r) : qGo al p l e R s m args below meth c Q base D ca cv cd nL rc rs mc ms pc L S μ := by
  obtain ⟨hx, hb, hml, hown, hts, hK, hSt, hbs, hcv, hini, hd1, hfr, hlo, hmc, hms⟩ := C
  simp only [qop, ql2] at h
  split at h
  · rename_i y x S1
    exact (hk _ _ _ _ h).same fun H locs cells slots ls hP hS hl hc hs kk => lv_lor hx hb hd (by rw [← hn]; exact kk ls hl)
  · cases h
theorem qs_lshl (C : qCtx p R s m args meth c base D ca cv o ini cc nL mc ms d)  (hd : decode cc (qbpc cd pc) = .ok (.lshl, 1)) (hn : qbpc cd (pc + 1) = qbpc cd pc + 1) (hk : ∀ pc L S μ, k pc L S μ = some r → qGo al p l e R s m args below meth c Q base D ca cv cd nL rc rs mc ms pc L S μ) (h : qop al cf (.lshl) pc L S μ k = some r) : qGo al p l e R s m args below meth c Q base D ca cv cd nL rc rs mc ms pc L S μ := by
  obtain ⟨hx, hb, hml, hown, hts, hK, hSt, hbs, hcv, hini, hd1, hfr, hlo, hmc, hms⟩ := C
  simp only [qop, qli] at h
  split at h
  · exact (hk _ _ _ _ h).same fun H locs cells slots ls hP hS hl hc hs kk => lv_lshl hx hb hd rfl (by rw [← hn]; exact kk ls hl)
  · cases h
theorem qs_lshr (C : qCtx p R s m args meth c base D ca cv o ini cc nL mc ms d)  (hd : decode cc (qbpc cd pc) = .ok (.lshr, 1)) (hn : qbpc cd (pc + 1) = qbpc cd pc + 1) (hk : ∀ pc L S μ, k pc L S μ = some r → qGo al p l e R s m args below meth c Q base D ca cv cd nL rc rs mc ms pc L S μ) (h : qop al cf (.lshr) pc L S μ k = some r) : qGo al p l e R s m args below meth c Q base D ca cv cd nL rc rs mc ms pc L S μ := by
  obtain ⟨hx, hb, hml, hown, hts, hK, hSt, hbs, hcv, hini, hd1, hfr, hlo, hmc, hms⟩ := C
  simp only [qop, qli] at h
  split at h
  · exact (hk _ _ _ _ h).same fun H locs cells slots ls hP hS hl hc hs kk => lv_lshr hx hb hd rfl (by rw [← hn]; exact kk ls hl)
  · cases h
theorem qs_lcmp (C : qCtx p R s m args meth c base D ca cv o ini cc nL mc ms d)  (hd : decode cc (qbpc cd pc) = .ok (.lcmp, 1)) (hn : qbpc cd (pc + 1) = qbpc cd pc + 1) (hk : ∀ pc L S μ, k pc L S μ = some r → qGo al p l e R s m args below meth c Q base D ca cv cd nL rc rs mc ms pc L S μ) (h : qop al cf (.lcmp) pc L S μ k = some r) : qGo al p l e R s m args below meth c Q base D ca cv cd nL rc rs mc ms pc L S μ := by
  obtain ⟨hx, hb, hml, hown, hts, hK, hSt, hbs, hcv, hini, hd1, hfr, hlo, hmc, hms⟩ := C
  simp only [qop, ql2] at h
  split at h
  · exact (hk _ _ _ _ h).same fun H locs cells slots ls hP hS hl hc hs kk => W.lcmp hx hb hd (by rw [← hn]; exact kk ls hl)
  · cases h
theorem qs_i2l (C : qCtx p R s m args meth c base D ca cv o ini cc nL mc ms d)  (hd : decode cc (qbpc cd pc) = .ok (.i2l, 1)) (hn : qbpc cd (pc + 1) = qbpc cd pc + 1) (hk : ∀ pc L S μ, k pc L S μ = some r → qGo al p l e R s m args below meth c Q base D ca cv cd nL rc rs mc ms pc L S μ) (h : qop al cf (.i2l) pc L S μ k = some r) : qGo al p l e R s m args below meth c Q base D ca cv cd nL rc rs mc ms pc L S μ := by
  obtain ⟨hx, hb, hml, hown, hts, hK, hSt, hbs, hcv, hini, hd1, hfr, hlo, hmc, hms⟩ := C
  simp only [qop, q1] at h
  split at h
  · exact (hk _ _ _ _ h).same fun H locs cells slots ls hP hS hl hc hs kk => lv_i2l hx hb hd rfl (by rw [← hn]; exact kk ls hl)
  · cases h
theorem qs_l2i (C : qCtx p R s m args meth c base D ca cv o ini cc nL mc ms d)  (hd : decode cc (qbpc cd pc) = .ok (.l2i, 1)) (hn : qbpc cd (pc + 1) = qbpc cd pc + 1) (hk : ∀ pc L S μ, k pc L S μ = some r → qGo al p l e R s m args below meth c Q base D ca cv cd nL rc rs mc ms pc L S μ) (h : qop al cf (.l2i) pc L S μ k = some r) : qGo al p l e R s m args below meth c Q base D ca cv cd nL rc rs mc ms pc L S μ := by
  obtain ⟨hx, hb, hml, hown, hts, hK, hSt, hbs, hcv, hini, hd1, hfr, hlo, hmc, hms⟩ := C
  simp only [qop, ql1] at h
  split at h
  · exact (hk _ _ _ _ h).same fun H locs cells slots ls hP hS hl hc hs kk => lv_l2i hx hb hd rfl (by rw [← hn]; exact kk ls hl)
  · cases h
theorem qs_i2c (C : qCtx p R s m args meth c base D ca cv o ini cc nL mc ms d)  (hd : decode cc (qbpc cd pc) = .ok (.i2c, 1)) (hn : qbpc cd (pc + 1) = qbpc cd pc + 1) (hk : ∀ pc L S μ, k pc L S μ = some r → qGo al p l e R s m args below meth c Q base D ca cv cd nL rc rs mc ms pc L S μ) (h : qop al cf (.i2c) pc L S μ k = some r) : qGo al p l e R s m args below meth c Q base D ca cv cd nL rc rs mc ms pc L S μ := by
  obtain ⟨hx, hb, hml, hown, hts, hK, hSt, hbs, hcv, hini, hd1, hfr, hlo, hmc, hms⟩ := C
  simp only [qop, q1] at h
  split at h
  · exact (hk _ _ _ _ h).same fun H locs cells slots ls hP hS hl hc hs kk => lv_i2c hx hb hd rfl (by rw [← hn]; exact kk ls hl)
  · cases h
theorem qs_iconst (C : qCtx p R s m args meth c base D ca cv o ini cc nL mc ms d) {n : Int} (hd : decode cc (qbpc cd pc) = .ok (.iconst n, 1)) (hn : qbpc cd (pc + 1) = qbpc cd pc + 1) (hk : ∀ pc L S μ, k pc L S μ = some r → qGo al p l e R s m args below meth c Q base D ca cv cd nL rc rs mc ms pc L S μ) (h : qop al cf (.iconst n) pc L S μ k = some r) : qGo al p l e R s m args below meth c Q base D ca cv cd nL rc rs mc ms pc L S μ := by
  obtain ⟨hx, hb, hml, hown, hts, hK, hSt, hbs, hcv, hini, hd1, hfr, hlo, hmc, hms⟩ := C
  exact (hk _ _ _ _ h).same fun H locs cells slots ls hP hS hl hc hs kk => lv_iconst hx hb hd rfl (by rw [← hn]; exact kk ls hl)
theorem qs_bipush (C : qCtx p R s m args meth c base D ca cv o ini cc nL mc ms d) {n z : Int} (hz : (Int8.ofInt n).toInt32 = Int32.ofInt z) (hd : decode cc (qbpc cd pc) = .ok (.bipush n, 2)) (hn : qbpc cd (pc + 1) = qbpc cd pc + 2) (hk : ∀ pc L S μ, k pc L S μ = some r → qGo al p l e R s m args below meth c Q base D ca cv cd nL rc rs mc ms pc L S μ) (h : qop al cf (.iconst z) pc L S μ k = some r) : qGo al p l e R s m args below meth c Q base D ca cv cd nL rc rs mc ms pc L S μ := by
  obtain ⟨hx, hb, hml, hown, hts, hK, hSt, hbs, hcv, hini, hd1, hfr, hlo, hmc, hms⟩ := C
  exact (hk _ _ _ _ h).same fun H locs cells slots ls hP hS hl hc hs kk => lv_bipush hx hb hd hz (by rw [← hn]; exact kk ls hl)
theorem qs_sipush (C : qCtx p R s m args meth c base D ca cv o ini cc nL mc ms d) {n z : Int} (hz : (Int16.ofInt n).toInt32 = Int32.ofInt z) (hd : decode cc (qbpc cd pc) = .ok (.sipush n, 3)) (hn : qbpc cd (pc + 1) = qbpc cd pc + 3) (hk : ∀ pc L S μ, k pc L S μ = some r → qGo al p l e R s m args below meth c Q base D ca cv cd nL rc rs mc ms pc L S μ) (h : qop al cf (.iconst z) pc L S μ k = some r) : qGo al p l e R s m args below meth c Q base D ca cv cd nL rc rs mc ms pc L S μ := by
  obtain ⟨hx, hb, hml, hown, hts, hK, hSt, hbs, hcv, hini, hd1, hfr, hlo, hmc, hms⟩ := C
  exact (hk _ _ _ _ h).same fun H locs cells slots ls hP hS hl hc hs kk => lv_sipush hx hb hd hz (by rw [← hn]; exact kk ls hl)
theorem qs_lconst (C : qCtx p R s m args meth c base D ca cv o ini cc nL mc ms d) {n : Fin 2} {z : Int} (hz : Int64.ofNat (n : Nat) = Int64.ofInt z) (hd : decode cc (qbpc cd pc) = .ok (.lconst n, 1)) (hn : qbpc cd (pc + 1) = qbpc cd pc + 1) (hk : ∀ pc L S μ, k pc L S μ = some r → qGo al p l e R s m args below meth c Q base D ca cv cd nL rc rs mc ms pc L S μ) (h : qop al cf (.goto_w z) pc L S μ k = some r) : qGo al p l e R s m args below meth c Q base D ca cv cd nL rc rs mc ms pc L S μ := by
  obtain ⟨hx, hb, hml, hown, hts, hK, hSt, hbs, hcv, hini, hd1, hfr, hlo, hmc, hms⟩ := C
  exact (hk _ _ _ _ h).same fun H locs cells slots ls hP hS hl hc hs kk => lv_lconst hx hb hd hz (by rw [← hn]; exact kk ls hl)
theorem qs_ldci (C : qCtx p R s m args meth c base D ca cv o ini cc nL mc ms d) {j : Nat} {z : Int} (hq : qcpl o j = (2, z)) (hd : decode cc (qbpc cd pc) = .ok (.ldc j, 2)) (hn : qbpc cd (pc + 1) = qbpc cd pc + 2) (hk : ∀ pc L S μ, k pc L S μ = some r → qGo al p l e R s m args below meth c Q base D ca cv cd nL rc rs mc ms pc L S μ) (h : qop al cf (.iconst z) pc L S μ k = some r) : qGo al p l e R s m args below meth c Q base D ca cv cd nL rc rs mc ms pc L S μ := by
  obtain ⟨hx, hb, hml, hown, hts, hK, hSt, hbs, hcv, hini, hd1, hfr, hlo, hmc, hms⟩ := C
  have hw := (qcp_ok hq (by decide)).1 (.constant (qown o) j (Int32.ofInt z)) (by simp [qcw])
  exact (hk _ _ _ _ h).same fun H locs cells slots ls hP hS hl hc hs kk => lv_ldc hx hb hown (hts _ hw) hd (by rw [← hn]; exact kk ls hl)
theorem qs_ldc_wi (C : qCtx p R s m args meth c base D ca cv o ini cc nL mc ms d) {j : Nat} {z : Int} (hq : qcpl o j = (2, z)) (hd : decode cc (qbpc cd pc) = .ok (.ldc_w j, 3)) (hn : qbpc cd (pc + 1) = qbpc cd pc + 3) (hk : ∀ pc L S μ, k pc L S μ = some r → qGo al p l e R s m args below meth c Q base D ca cv cd nL rc rs mc ms pc L S μ) (h : qop al cf (.iconst z) pc L S μ k = some r) : qGo al p l e R s m args below meth c Q base D ca cv cd nL rc rs mc ms pc L S μ := by
  obtain ⟨hx, hb, hml, hown, hts, hK, hSt, hbs, hcv, hini, hd1, hfr, hlo, hmc, hms⟩ := C
  have hw := (qcp_ok hq (by decide)).1 (.constant (qown o) j (Int32.ofInt z)) (by simp [qcw])
  exact (hk _ _ _ _ h).same fun H locs cells slots ls hP hS hl hc hs kk => lv_ldcw hx hb hown (hts _ hw) hd (by rw [← hn]; exact kk ls hl)
theorem qs_ldc2 (C : qCtx p R s m args meth c base D ca cv o ini cc nL mc ms d) {j : Nat} {z : Int} (hq : qcpl o j = (3, z)) (hd : decode cc (qbpc cd pc) = .ok (.ldc2_w j, 3)) (hn : qbpc cd (pc + 1) = qbpc cd pc + 3) (hk : ∀ pc L S μ, k pc L S μ = some r → qGo al p l e R s m args below meth c Q base D ca cv cd nL rc rs mc ms pc L S μ) (h : qop al cf (.goto_w z) pc L S μ k = some r) : qGo al p l e R s m args below meth c Q base D ca cv cd nL rc rs mc ms pc L S μ := by
  obtain ⟨hx, hb, hml, hown, hts, hK, hSt, hbs, hcv, hini, hd1, hfr, hlo, hmc, hms⟩ := C
  have hw := (qcp_ok hq (by decide)).1 (.constantLong (qown o) j (Int64.ofInt z)) (by simp [qcw])
  exact (hk _ _ _ _ h).same fun H locs cells slots ls hP hS hl hc hs kk => lv_ldc2 hx hb hown (hts _ hw) hd (by rw [← hn]; exact kk ls hl)
theorem qs_ldcs (C : qCtx p R s m args meth c base D ca cv o ini cc nL mc ms d) {j : Nat} {z : Int} (hq : qcpl o j = (4, z)) (hd : decode cc (qbpc cd pc) = .ok (.ldc j, 2)) (hn : qbpc cd (pc + 1) = qbpc cd pc + 2) (hk : ∀ pc L S μ, k pc L S μ = some r → qGo al p l e R s m args below meth c Q base D ca cv cd nL rc rs mc ms pc L S μ) (h : qop al cf (.jsr z) pc L S μ k = some r) : qGo al p l e R s m args below meth c Q base D ca cv cd nL rc rs mc ms pc L S μ := by
  obtain ⟨hx, hb, hml, hown, hts, hK, hSt, hbs, hcv, hini, hd1, hfr, hlo, hmc, hms⟩ := C
  have hcb := (qcp_ok hq (by decide)).2.2
  simp only [qcb, Bool.and_eq_true, decide_eq_true_eq] at hcb
  obtain ⟨-, hz1, hz2, hz3, hz4⟩ := hcb
  obtain ⟨q, v, e1, e2, e3, -⟩ := hSt.2.1 (z.toNat - 10) (by omega)
  rw [hz3, hz4] at e3
  rw [show 10 + (z.toNat - 10) = z.toNat by omega] at e1
  have hcv2 : qtr base cv (.retAddr z.toNat) = .ref q := e1
  simp only [qop] at h
  refine (hk _ _ _ _ h).same fun H locs cells slots ls hP hS hl hc hs kk => ?_
  have kk2 := kk ls hl
  rw [List.map_cons, hcv2, hn] at kk2
  exact va_ldcS hx hb hown e3 hd kk2
theorem qs_ldc_ws (C : qCtx p R s m args meth c base D ca cv o ini cc nL mc ms d) {j : Nat} {z : Int} (hq : qcpl o j = (4, z)) (hd : decode cc (qbpc cd pc) = .ok (.ldc_w j, 3)) (hn : qbpc cd (pc + 1) = qbpc cd pc + 3) (hk : ∀ pc L S μ, k pc L S μ = some r → qGo al p l e R s m args below meth c Q base D ca cv cd nL rc rs mc ms pc L S μ) (h : qop al cf (.jsr z) pc L S μ k = some r) : qGo al p l e R s m args below meth c Q base D ca cv cd nL rc rs mc ms pc L S μ := by
  obtain ⟨hx, hb, hml, hown, hts, hK, hSt, hbs, hcv, hini, hd1, hfr, hlo, hmc, hms⟩ := C
  have hcb := (qcp_ok hq (by decide)).2.2
  simp only [qcb, Bool.and_eq_true, decide_eq_true_eq] at hcb
  obtain ⟨-, hz1, hz2, hz3, hz4⟩ := hcb
  obtain ⟨q, v, e1, e2, e3, -⟩ := hSt.2.1 (z.toNat - 10) (by omega)
  rw [hz3, hz4] at e3
  rw [show 10 + (z.toNat - 10) = z.toNat by omega] at e1
  have hcv2 : qtr base cv (.retAddr z.toNat) = .ref q := e1
  simp only [qop] at h
  refine (hk _ _ _ _ h).same fun H locs cells slots ls hP hS hl hc hs kk => ?_
  have kk2 := kk ls hl
  rw [List.map_cons, hcv2, hn] at kk2
  intro T hT X
  obtain ⟨t, a1, b1⟩ := kk2 T hT X
  exact ⟨t, X.ldcStringW hx hown (a := q) e3.1 e3.2 (g := F0 m (qbpc cd pc) ls (S.map (qtr base cv))) rfl (by rw [hb]; exact hd) t a1, b1⟩
theorem qs_iload (C : qCtx p R s m args meth c base D ca cv o ini cc nL mc ms d) {j : Nat} (hd : decode cc (qbpc cd pc) = .ok (.iload j, 2)) (hn : qbpc cd (pc + 1) = qbpc cd pc + 2) (hk : ∀ pc L S μ, k pc L S μ = some r → qGo al p l e R s m args below meth c Q base D ca cv cd nL rc rs mc ms pc L S μ) (h : qop al cf (.iload j) pc L S μ k = some r) : qGo al p l e R s m args below meth c Q base D ca cv cd nL rc rs mc ms pc L S μ := by
  obtain ⟨hx, hb, hml, hown, hts, hK, hSt, hbs, hcv, hini, hd1, hfr, hlo, hmc, hms⟩ := C
  simp only [qop] at h
  split at h
  · rename_i x hq
    exact (hk _ _ _ _ h).same fun H locs cells slots ls hP hS hl hc hs kk => lv_iload hx hb hd (hl.at hq (by simp)) (by rw [← hn]; exact kk ls hl)
  · cases h
theorem qs_iload_n (C : qCtx p R s m args meth c base D ca cv o ini cc nL mc ms d) {j : Fin 4} (hd : decode cc (qbpc cd pc) = .ok (.iload_n j, 1)) (hn : qbpc cd (pc + 1) = qbpc cd pc + 1) (hk : ∀ pc L S μ, k pc L S μ = some r → qGo al p l e R s m args below meth c Q base D ca cv cd nL rc rs mc ms pc L S μ) (h : qop al cf (.iload j) pc L S μ k = some r) : qGo al p l e R s m args below meth c Q base D ca cv cd nL rc rs mc ms pc L S μ := by
  obtain ⟨hx, hb, hml, hown, hts, hK, hSt, hbs, hcv, hini, hd1, hfr, hlo, hmc, hms⟩ := C
  simp only [qop] at h
  split at h
  · rename_i x hq
    exact (hk _ _ _ _ h).same fun H locs cells slots ls hP hS hl hc hs kk => lv_iload_n hx hb hd rfl (hl.at hq (by simp)) (by rw [← hn]; exact kk ls hl)
  · cases h
theorem qs_lload (C : qCtx p R s m args meth c base D ca cv o ini cc nL mc ms d) {j : Nat} (hd : decode cc (qbpc cd pc) = .ok (.lload j, 2)) (hn : qbpc cd (pc + 1) = qbpc cd pc + 2) (hk : ∀ pc L S μ, k pc L S μ = some r → qGo al p l e R s m args below meth c Q base D ca cv cd nL rc rs mc ms pc L S μ) (h : qop al cf (.lload j) pc L S μ k = some r) : qGo al p l e R s m args below meth c Q base D ca cv cd nL rc rs mc ms pc L S μ := by
  obtain ⟨hx, hb, hml, hown, hts, hK, hSt, hbs, hcv, hini, hd1, hfr, hlo, hmc, hms⟩ := C
  simp only [qop] at h
  split at h
  · rename_i x hq
    exact (hk _ _ _ _ h).same fun H locs cells slots ls hP hS hl hc hs kk => lv_lload hx hb hd (hl.at hq (by simp)) (by rw [← hn]; exact kk ls hl)
  · cases h
theorem qs_lload_n (C : qCtx p R s m args meth c base D ca cv o ini cc nL mc ms d) {j : Fin 4} (hd : decode cc (qbpc cd pc) = .ok (.lload_n j, 1)) (hn : qbpc cd (pc + 1) = qbpc cd pc + 1) (hk : ∀ pc L S μ, k pc L S μ = some r → qGo al p l e R s m args below meth c Q base D ca cv cd nL rc rs mc ms pc L S μ) (h : qop al cf (.lload j) pc L S μ k = some r) : qGo al p l e R s m args below meth c Q base D ca cv cd nL rc rs mc ms pc L S μ := by
  obtain ⟨hx, hb, hml, hown, hts, hK, hSt, hbs, hcv, hini, hd1, hfr, hlo, hmc, hms⟩ := C
  simp only [qop] at h
  split at h
  · rename_i x hq
    exact (hk _ _ _ _ h).same fun H locs cells slots ls hP hS hl hc hs kk => lv_lload_n hx hb hd rfl (hl.at hq (by simp)) (by rw [← hn]; exact kk ls hl)
  · cases h
theorem qs_aload (C : qCtx p R s m args meth c base D ca cv o ini cc nL mc ms d) {j : Nat} (hd : decode cc (qbpc cd pc) = .ok (.aload j, 2)) (hn : qbpc cd (pc + 1) = qbpc cd pc + 2) (hk : ∀ pc L S μ, k pc L S μ = some r → qGo al p l e R s m args below meth c Q base D ca cv cd nL rc rs mc ms pc L S μ) (h : qop al cf (.aload j) pc L S μ k = some r) : qGo al p l e R s m args below meth c Q base D ca cv cd nL rc rs mc ms pc L S μ := by
  obtain ⟨hx, hb, hml, hown, hts, hK, hSt, hbs, hcv, hini, hd1, hfr, hlo, hmc, hms⟩ := C
  simp only [qop] at h
  have key : ∀ v : Value, qnth L j = some v → v ≠ .null → (qtr base cv v = .null ∨ ∃ a, qtr base cv v = .ref a) → qGo al p l e R s m args below meth c Q base D ca cv cd nL rc rs mc ms (pc + 1) L (v :: S) μ → qGo al p l e R s m args below meth c Q base D ca cv cd nL rc rs mc ms pc L S μ := by
    intro v hq hv hr hgo
    refine hgo.same fun H locs cells slots ls hP hS hl hc hs kk => ?_
    have g1 := hl.at hq hv
    have kk2 := kk ls hl
    rw [List.map_cons, hn] at kk2
    rcases hr with hr | ⟨a, hr⟩
    · rw [hr] at g1 kk2
      exact lv_aloadN hx hb hd g1 kk2
    · rw [hr] at g1 kk2
      exact lv_aload hx hb hd g1 kk2
  split at h
  · rename_i x hq
    refine key _ hq (by simp) ?_ (hk _ _ _ _ h)
    cases x with
    | zero => exact Or.inl rfl
    | succ x => exact Or.inr ⟨_, rfl⟩
  · rename_i x hq
    exact key _ hq (by simp) (qSt_cv hSt x) (hk _ _ _ _ h)
  · cases h
theorem qs_aload_n (C : qCtx p R s m args meth c base D ca cv o ini cc nL mc ms d) {j : Fin 4} (hd : decode cc (qbpc cd pc) = .ok (.aload_n j, 1)) (hn : qbpc cd (pc + 1) = qbpc cd pc + 1) (hk : ∀ pc L S μ, k pc L S μ = some r → qGo al p l e R s m args below meth c Q base D ca cv cd nL rc rs mc ms pc L S μ) (h : qop al cf (.aload j) pc L S μ k = some r) : qGo al p l e R s m args below meth c Q base D ca cv cd nL rc rs mc ms pc L S μ := by
  obtain ⟨hx, hb, hml, hown, hts, hK, hSt, hbs, hcv, hini, hd1, hfr, hlo, hmc, hms⟩ := C
  simp only [qop] at h
  have key : ∀ v : Value, qnth L j = some v → v ≠ .null → (qtr base cv v = .null ∨ ∃ a, qtr base cv v = .ref a) → qGo al p l e R s m args below meth c Q base D ca cv cd nL rc rs mc ms (pc + 1) L (v :: S) μ → qGo al p l e R s m args below meth c Q base D ca cv cd nL rc rs mc ms pc L S μ := by
    intro v hq hv hr hgo
    refine hgo.same fun H locs cells slots ls hP hS hl hc hs kk => ?_
    have g1 := hl.at hq hv
    have kk2 := kk ls hl
    rw [List.map_cons, hn] at kk2
    rcases hr with hr | ⟨a, hr⟩
    · rw [hr] at g1 kk2
      exact lv_aload_nN hx hb hd rfl g1 kk2
    · rw [hr] at g1 kk2
      exact lv_aload_n hx hb hd rfl g1 kk2
  split at h
  · rename_i x hq
    refine key _ hq (by simp) ?_ (hk _ _ _ _ h)
    cases x with
    | zero => exact Or.inl rfl
    | succ x => exact Or.inr ⟨_, rfl⟩
  · rename_i x hq
    exact key _ hq (by simp) (qSt_cv hSt x) (hk _ _ _ _ h)
  · cases h
theorem qs_istore (C : qCtx p R s m args meth c base D ca cv o ini cc nL mc ms d) {j : Nat} (hj : (j : Nat) < nL) (hd : decode cc (qbpc cd pc) = .ok (.istore j, 2)) (hn : qbpc cd (pc + 1) = qbpc cd pc + 2) (hk : ∀ pc L S μ, k pc L S μ = some r → qGo al p l e R s m args below meth c Q base D ca cv cd nL rc rs mc ms pc L S μ) (h : qop al cf (.istore j) pc L S μ k = some r) : qGo al p l e R s m args below meth c Q base D ca cv cd nL rc rs mc ms pc L S μ := by
  obtain ⟨hx, hb, hml, hown, hts, hK, hSt, hbs, hcv, hini, hd1, hfr, hlo, hmc, hms⟩ := C
  simp only [qop, q1] at h
  split at h
  · exact (hk _ _ _ _ h).same fun H locs cells slots ls hP hS hl hc hs kk => lv_istore hx hb hd hl.has hj rfl (fun ls' hl' => by rw [← hn]; exact kk ls' (hl.st1 hcv hl'))
  · cases h
theorem qs_istore_n (C : qCtx p R s m args meth c base D ca cv o ini cc nL mc ms d) {j : Fin 4} (hj : (j : Nat) < nL) (hd : decode cc (qbpc cd pc) = .ok (.istore_n j, 1)) (hn : qbpc cd (pc + 1) = qbpc cd pc + 1) (hk : ∀ pc L S μ, k pc L S μ = some r → qGo al p l e R s m args below meth c Q base D ca cv cd nL rc rs mc ms pc L S μ) (h : qop al cf (.istore j) pc L S μ k = some r) : qGo al p l e R s m args below meth c Q base D ca cv cd nL rc rs mc ms pc L S μ := by
  obtain ⟨hx, hb, hml, hown, hts, hK, hSt, hbs, hcv, hini, hd1, hfr, hlo, hmc, hms⟩ := C
  simp only [qop, q1] at h
  split at h
  · exact (hk _ _ _ _ h).same fun H locs cells slots ls hP hS hl hc hs kk => lv_istore_n hx hb hd rfl hl.has hj rfl (fun ls' hl' => by rw [← hn]; exact kk ls' (hl.st1 hcv hl'))
  · cases h
theorem qs_lstore (C : qCtx p R s m args meth c base D ca cv o ini cc nL mc ms d) {j : Nat} (hj : (j : Nat) + 1 < nL) (hd : decode cc (qbpc cd pc) = .ok (.lstore j, 2)) (hn : qbpc cd (pc + 1) = qbpc cd pc + 2) (hk : ∀ pc L S μ, k pc L S μ = some r → qGo al p l e R s m args below meth c Q base D ca cv cd nL rc rs mc ms pc L S μ) (h : qop al cf (.lstore j) pc L S μ k = some r) : qGo al p l e R s m args below meth c Q base D ca cv cd nL rc rs mc ms pc L S μ := by
  obtain ⟨hx, hb, hml, hown, hts, hK, hSt, hbs, hcv, hini, hd1, hfr, hlo, hmc, hms⟩ := C
  simp only [qop, ql1] at h
  split at h
  · exact (hk _ _ _ _ h).same fun H locs cells slots ls hP hS hl hc hs kk => lv_lstore hx hb hd hl.has hj rfl (fun ls' hl' => by rw [← hn]; exact kk ls' (hl.st2 hcv hl'))
  · cases h
theorem qs_lstore_n (C : qCtx p R s m args meth c base D ca cv o ini cc nL mc ms d) {j : Fin 4} (hj : (j : Nat) + 1 < nL) (hd : decode cc (qbpc cd pc) = .ok (.lstore_n j, 1)) (hn : qbpc cd (pc + 1) = qbpc cd pc + 1) (hk : ∀ pc L S μ, k pc L S μ = some r → qGo al p l e R s m args below meth c Q base D ca cv cd nL rc rs mc ms pc L S μ) (h : qop al cf (.lstore j) pc L S μ k = some r) : qGo al p l e R s m args below meth c Q base D ca cv cd nL rc rs mc ms pc L S μ := by
  obtain ⟨hx, hb, hml, hown, hts, hK, hSt, hbs, hcv, hini, hd1, hfr, hlo, hmc, hms⟩ := C
  simp only [qop, ql1] at h
  split at h
  · exact (hk _ _ _ _ h).same fun H locs cells slots ls hP hS hl hc hs kk => lv_lstore_n hx hb hd rfl hl.has hj rfl (fun ls' hl' => by rw [← hn]; exact kk ls' (hl.st2 hcv hl'))
  · cases h
theorem qs_astore (C : qCtx p R s m args meth c base D ca cv o ini cc nL mc ms d) {j : Nat} (hj : (j : Nat) < nL) (hd : decode cc (qbpc cd pc) = .ok (.astore j, 2)) (hn : qbpc cd (pc + 1) = qbpc cd pc + 2) (hk : ∀ pc L S μ, k pc L S μ = some r → qGo al p l e R s m args below meth c Q base D ca cv cd nL rc rs mc ms pc L S μ) (h : qop al cf (.astore j) pc L S μ k = some r) : qGo al p l e R s m args below meth c Q base D ca cv cd nL rc rs mc ms pc L S μ := by
  obtain ⟨hx, hb, hml, hown, hts, hK, hSt, hbs, hcv, hini, hd1, hfr, hlo, hmc, hms⟩ := C
  simp only [qop] at h
  have key : ∀ (v : Value) (S1 : List Value), (qtr base cv v = .null ∨ ∃ a, qtr base cv v = .ref a) → qGo al p l e R s m args below meth c Q base D ca cv cd nL rc rs mc ms (pc + 1) (qst L j v) S1 μ → qGo al p l e R s m args below meth c Q base D ca cv cd nL rc rs mc ms pc L (v :: S1) μ := by
    intro v S1 hr hgo
    refine hgo.same fun H locs cells slots ls hP hS hl hc hs kk => ?_
    rw [List.map_cons]
    rcases hr with hr | ⟨a, hr⟩
    · rw [hr]
      exact lv_astoreN hx hb hd hl.has hj rfl (fun ls' hl' => by rw [← hn]; exact kk ls' (hl.st1 hcv (by rw [hr]; exact hl')))
    · rw [hr]
      exact lv_astore hx hb hd hl.has hj rfl (fun ls' hl' => by rw [← hn]; exact kk ls' (hl.st1 hcv (by rw [hr]; exact hl')))
  split at h
  · rename_i x S1
    refine key _ _ ?_ (hk _ _ _ _ h)
    cases x with
    | zero => exact Or.inl rfl
    | succ x => exact Or.inr ⟨_, rfl⟩
  · rename_i x S1
    exact key _ _ (qSt_cv hSt x) (hk _ _ _ _ h)
  · cases h
theorem qs_astore_n (C : qCtx p R s m args meth c base D ca cv o ini cc nL mc ms d) {j : Fin 4} (hj : (j : Nat) < nL) (hd : decode cc (qbpc cd pc) = .ok (.astore_n j, 1)) (hn : qbpc cd (pc + 1) = qbpc cd pc + 1) (hk : ∀ pc L S μ, k pc L S μ = some r → qGo al p l e R s m args below meth c Q base D ca cv cd nL rc rs mc ms pc L S μ) (h : qop al cf (.astore j) pc L S μ k = some r) : qGo al p l e R s m args below meth c Q base D ca cv cd nL rc rs mc ms pc L S μ := by
  obtain ⟨hx, hb, hml, hown, hts, hK, hSt, hbs, hcv, hini, hd1, hfr, hlo, hmc, hms⟩ := C
  simp only [qop] at h
  have key : ∀ (v : Value) (S1 : List Value), (qtr base cv v = .null ∨ ∃ a, qtr base cv v = .ref a) → qGo al p l e R s m args below meth c Q base D ca cv cd nL rc rs mc ms (pc + 1) (qst L j v) S1 μ → qGo al p l e R s m args below meth c Q base D ca cv cd nL rc rs mc ms pc L (v :: S1) μ := by
    intro v S1 hr hgo
    refine hgo.same fun H locs cells slots ls hP hS hl hc hs kk => ?_
    rw [List.map_cons]
    rcases hr with hr | ⟨a, hr⟩
    · rw [hr]
      exact lv_astore_nN hx hb hd rfl hl.has hj rfl (fun ls' hl' => by rw [← hn]; exact kk ls' (hl.st1 hcv (by rw [hr]; exact hl')))
    · rw [hr]
      exact lv_astore_n hx hb hd rfl hl.has hj rfl (fun ls' hl' => by rw [← hn]; exact kk ls' (hl.st1 hcv (by rw [hr]; exact hl')))
  split at h
  · rename_i x S1
    refine key _ _ ?_ (hk _ _ _ _ h)
    cases x with
    | zero => exact Or.inl rfl
    | succ x => exact Or.inr ⟨_, rfl⟩
  · rename_i x S1
    exact key _ _ (qSt_cv hSt x) (hk _ _ _ _ h)
  · cases h
theorem qs_iinc (C : qCtx p R s m args meth c base D ca cv o ini cc nL mc ms d) {j : Nat} {n : Int} (hj : j < nL) (hd : decode cc (qbpc cd pc) = .ok (.iinc j n, 3)) (hn : qbpc cd (pc + 1) = qbpc cd pc + 3) (hk : ∀ pc L S μ, k pc L S μ = some r → qGo al p l e R s m args below meth c Q base D ca cv cd nL rc rs mc ms pc L S μ) (h : qop al cf (.iinc j n) pc L S μ k = some r) : qGo al p l e R s m args below meth c Q base D ca cv cd nL rc rs mc ms pc L S μ := by
  obtain ⟨hx, hb, hml, hown, hts, hK, hSt, hbs, hcv, hini, hd1, hfr, hlo, hmc, hms⟩ := C
  simp only [qop] at h
  split at h
  · rename_i x hq
    refine (hk _ _ _ _ h).same fun H locs cells slots ls hP hS hl hc hs kk => ?_
    obtain ⟨i, hi⟩ := List.getElem?_of_mem (qal_mem (base := base) (cv := cv).mpr ⟨_, hq, by simp, rfl⟩)
    exact lv_iinc hx hb hd hl.has hi rfl hj rfl (fun ls' hl' => by rw [← hn]; exact kk ls' (hl.st1 hcv hl'))
  · cases h
theorem qs_dup (C : qCtx p R s m args meth c base D ca cv o ini cc nL mc ms d)  (hd : decode cc (qbpc cd pc) = .ok (.dup, 1)) (hn : qbpc cd (pc + 1) = qbpc cd pc + 1) (hk : ∀ pc L S μ, k pc L S μ = some r → qGo al p l e R s m args below meth c Q base D ca cv cd nL rc rs mc ms pc L S μ) (h : qop al cf (.dup) pc L S μ k = some r) : qGo al p l e R s m args below meth c Q base D ca cv cd nL rc rs mc ms pc L S μ := by
  obtain ⟨hx, hb, hml, hown, hts, hK, hSt, hbs, hcv, hini, hd1, hfr, hlo, hmc, hms⟩ := C
  simp only [qop] at h
  split at h
  · exact (hk _ _ _ _ h).same fun H locs cells slots ls hP hS hl hc hs kk => lv_dup hx hb hd rfl (by rw [← hn]; exact kk ls hl)
  · rename_i x S1
    exact (hk _ _ _ _ h).same fun H locs cells slots ls hP hS hl hc hs kk => lv_dup hx hb hd (by cases x <;> rfl) (by rw [← hn]; exact kk ls hl)
  · cases h
theorem qs_dup2 (C : qCtx p R s m args meth c base D ca cv o ini cc nL mc ms d)  (hd : decode cc (qbpc cd pc) = .ok (.dup2, 1)) (hn : qbpc cd (pc + 1) = qbpc cd pc + 1) (hk : ∀ pc L S μ, k pc L S μ = some r → qGo al p l e R s m args below meth c Q base D ca cv cd nL rc rs mc ms pc L S μ) (h : qop al cf (.dup2) pc L S μ k = some r) : qGo al p l e R s m args below meth c Q base D ca cv cd nL rc rs mc ms pc L S μ := by
  obtain ⟨hx, hb, hml, hown, hts, hK, hSt, hbs, hcv, hini, hd1, hfr, hlo, hmc, hms⟩ := C
  simp only [qop] at h
  split at h
  · rename_i x y S1
    exact (hk _ _ _ _ h).same fun H locs cells slots ls hP hS hl hc hs kk => lv_dup2_11 hx hb hd rfl (by cases y <;> rfl) (by rw [← hn]; exact kk ls hl)
  · cases h
theorem qs_pop (C : qCtx p R s m args meth c base D ca cv o ini cc nL mc ms d)  (hd : decode cc (qbpc cd pc) = .ok (.pop, 1)) (hn : qbpc cd (pc + 1) = qbpc cd pc + 1) (hk : ∀ pc L S μ, k pc L S μ = some r → qGo al p l e R s m args below meth c Q base D ca cv cd nL rc rs mc ms pc L S μ) (h : qop al cf (.pop) pc L S μ k = some r) : qGo al p l e R s m args below meth c Q base D ca cv cd nL rc rs mc ms pc L S μ := by
  obtain ⟨hx, hb, hml, hown, hts, hK, hSt, hbs, hcv, hini, hd1, hfr, hlo, hmc, hms⟩ := C
  simp only [qop] at h
  split at h
  · exact (hk _ _ _ _ h).same fun H locs cells slots ls hP hS hl hc hs kk => lv_pop hx hb hd rfl (by rw [← hn]; exact kk ls hl)
  · rename_i x S1
    exact (hk _ _ _ _ h).same fun H locs cells slots ls hP hS hl hc hs kk => lv_pop hx hb hd (by cases x <;> rfl) (by rw [← hn]; exact kk ls hl)
  · cases h
theorem qs_ifCond (C : qCtx p R s m args meth c base D ca cv o ini cc nL mc ms d) {cn : ClassFile.Cond} {off t : Int} (ht : (qbpc cd pc : Int) + off = (qbpc cd t.toNat : Int)) (hd : decode cc (qbpc cd pc) = .ok (.ifCond cn off, 3)) (hn : qbpc cd (pc + 1) = qbpc cd pc + 3) (hk : ∀ pc L S μ, k pc L S μ = some r → qGo al p l e R s m args below meth c Q base D ca cv cd nL rc rs mc ms pc L S μ) (h : qop al cf (.ifCond cn t) pc L S μ k = some r) : qGo al p l e R s m args below meth c Q base D ca cv cd nL rc rs mc ms pc L S μ := by
  obtain ⟨hx, hb, hml, hown, hts, hK, hSt, hbs, hcv, hini, hd1, hfr, hlo, hmc, hms⟩ := C
  simp only [qop, q1] at h
  split at h
  · rename_i x S1
    cases cn <;> simp only [qcond] at h <;> split at h
    · rename_i hc0; exact (hk _ _ _ _ h).same fun H locs cells slots ls hP hS hl hc hs kk => lv_if_eq hx hb hd ht (fun _ => kk ls hl) (fun y => absurd hc0 y)
    · rename_i hc0; exact (hk _ _ _ _ h).same fun H locs cells slots ls hP hS hl hc hs kk => lv_if_eq hx hb hd ht (fun y => absurd y hc0) (fun _ => by rw [← hn]; exact kk ls hl)
    · rename_i hc0; exact (hk _ _ _ _ h).same fun H locs cells slots ls hP hS hl hc hs kk => lv_if_ne hx hb hd ht (fun y => absurd hc0 y) (fun _ => by rw [← hn]; exact kk ls hl)
    · rename_i hc0; exact (hk _ _ _ _ h).same fun H locs cells slots ls hP hS hl hc hs kk => lv_if_ne hx hb hd ht (fun _ => kk ls hl) (fun y => absurd y hc0)
    · rename_i hc0; exact (hk _ _ _ _ h).same fun H locs cells slots ls hP hS hl hc hs kk => lv_if_lt hx hb hd ht (fun _ => kk ls hl) (fun y => absurd hc0 y)
    · rename_i hc0; exact (hk _ _ _ _ h).same fun H locs cells slots ls hP hS hl hc hs kk => lv_if_lt hx hb hd ht (fun y => absurd y hc0) (fun _ => by rw [← hn]; exact kk ls hl)
    · rename_i hc0; exact (hk _ _ _ _ h).same fun H locs cells slots ls hP hS hl hc hs kk => lv_if_ge hx hb hd ht (fun _ => kk ls hl) (fun y => absurd hc0 y)
    · rename_i hc0; exact (hk _ _ _ _ h).same fun H locs cells slots ls hP hS hl hc hs kk => lv_if_ge hx hb hd ht (fun y => absurd y hc0) (fun _ => by rw [← hn]; exact kk ls hl)
    · rename_i hc0; exact (hk _ _ _ _ h).same fun H locs cells slots ls hP hS hl hc hs kk => lv_if_gt hx hb hd ht (fun _ => kk ls hl) (fun y => absurd hc0 y)
    · rename_i hc0; exact (hk _ _ _ _ h).same fun H locs cells slots ls hP hS hl hc hs kk => lv_if_gt hx hb hd ht (fun y => absurd y hc0) (fun _ => by rw [← hn]; exact kk ls hl)
    · rename_i hc0; exact (hk _ _ _ _ h).same fun H locs cells slots ls hP hS hl hc hs kk => lv_if_le hx hb hd ht (fun _ => kk ls hl) (fun y => absurd hc0 y)
    · rename_i hc0; exact (hk _ _ _ _ h).same fun H locs cells slots ls hP hS hl hc hs kk => lv_if_le hx hb hd ht (fun y => absurd y hc0) (fun _ => by rw [← hn]; exact kk ls hl)
  · cases h
theorem qs_if_icmp (C : qCtx p R s m args meth c base D ca cv o ini cc nL mc ms d) {cn : ClassFile.Cond} {off t : Int} (ht : (qbpc cd pc : Int) + off = (qbpc cd t.toNat : Int)) (hd : decode cc (qbpc cd pc) = .ok (.if_icmp cn off, 3)) (hn : qbpc cd (pc + 1) = qbpc cd pc + 3) (hk : ∀ pc L S μ, k pc L S μ = some r → qGo al p l e R s m args below meth c Q base D ca cv cd nL rc rs mc ms pc L S μ) (h : qop al cf (.if_icmp cn t) pc L S μ k = some r) : qGo al p l e R s m args below meth c Q base D ca cv cd nL rc rs mc ms pc L S μ := by
  obtain ⟨hx, hb, hml, hown, hts, hK, hSt, hbs, hcv, hini, hd1, hfr, hlo, hmc, hms⟩ := C
  simp only [qop, q2] at h
  split at h
  · rename_i y x S1
    cases cn <;> simp only [qcond] at h <;> split at h
    · rename_i hc0; exact (hk _ _ _ _ h).same fun H locs cells slots ls hP hS hl hc hs kk => lv_icmp_eq hx hb hd ht (fun _ => kk ls hl) (fun y => absurd hc0 y)
    · rename_i hc0; exact (hk _ _ _ _ h).same fun H locs cells slots ls hP hS hl hc hs kk => lv_icmp_eq hx hb hd ht (fun y => absurd y hc0) (fun _ => by rw [← hn]; exact kk ls hl)
    · rename_i hc0; exact (hk _ _ _ _ h).same fun H locs cells slots ls hP hS hl hc hs kk => lv_icmp_ne hx hb hd ht (fun y => absurd hc0 y) (fun _ => by rw [← hn]; exact kk ls hl)
    · rename_i hc0; exact (hk _ _ _ _ h).same fun H locs cells slots ls hP hS hl hc hs kk => lv_icmp_ne hx hb hd ht (fun _ => kk ls hl) (fun y => absurd y hc0)
    · rename_i hc0; exact (hk _ _ _ _ h).same fun H locs cells slots ls hP hS hl hc hs kk => lv_icmp_lt hx hb hd ht (fun _ => kk ls hl) (fun y => absurd hc0 y)
    · rename_i hc0; exact (hk _ _ _ _ h).same fun H locs cells slots ls hP hS hl hc hs kk => lv_icmp_lt hx hb hd ht (fun y => absurd y hc0) (fun _ => by rw [← hn]; exact kk ls hl)
    · rename_i hc0; exact (hk _ _ _ _ h).same fun H locs cells slots ls hP hS hl hc hs kk => lv_icmp_ge hx hb hd ht (fun _ => kk ls hl) (fun y => absurd hc0 y)
    · rename_i hc0; exact (hk _ _ _ _ h).same fun H locs cells slots ls hP hS hl hc hs kk => lv_icmp_ge hx hb hd ht (fun y => absurd y hc0) (fun _ => by rw [← hn]; exact kk ls hl)
    · rename_i hc0; exact (hk _ _ _ _ h).same fun H locs cells slots ls hP hS hl hc hs kk => lv_icmp_gt hx hb hd ht (fun _ => kk ls hl) (fun y => absurd hc0 y)
    · rename_i hc0; exact (hk _ _ _ _ h).same fun H locs cells slots ls hP hS hl hc hs kk => lv_icmp_gt hx hb hd ht (fun y => absurd y hc0) (fun _ => by rw [← hn]; exact kk ls hl)
    · rename_i hc0; exact (hk _ _ _ _ h).same fun H locs cells slots ls hP hS hl hc hs kk => lv_icmp_le hx hb hd ht (fun _ => kk ls hl) (fun y => absurd hc0 y)
    · rename_i hc0; exact (hk _ _ _ _ h).same fun H locs cells slots ls hP hS hl hc hs kk => lv_icmp_le hx hb hd ht (fun y => absurd y hc0) (fun _ => by rw [← hn]; exact kk ls hl)
  · cases h
theorem qs_goto (C : qCtx p R s m args meth c base D ca cv o ini cc nL mc ms d) {off t : Int} (ht : (qbpc cd pc : Int) + off = (qbpc cd t.toNat : Int)) (hd : decode cc (qbpc cd pc) = .ok (.goto off, 3)) (hk : ∀ pc L S μ, k pc L S μ = some r → qGo al p l e R s m args below meth c Q base D ca cv cd nL rc rs mc ms pc L S μ) (h : qop al cf (.goto t) pc L S μ k = some r) : qGo al p l e R s m args below meth c Q base D ca cv cd nL rc rs mc ms pc L S μ := by
  obtain ⟨hx, hb, hml, hown, hts, hK, hSt, hbs, hcv, hini, hd1, hfr, hlo, hmc, hms⟩ := C
  exact (hk _ _ _ _ h).same fun H locs cells slots ls hP hS hl hc hs kk => lv_goto hx hb hd ht (kk ls hl)
end QSND
end
section
/-! SOUNDNESS, THIRD PART: switches, fields, arrays, new objects, ends -/
theorem qbnd_some {α : Type} {o : Option α} {f : α → Option qR} {r : qR} (h : qbnd o f = some r) : ∃ a, o = some a ∧ f a = some r := by
  cases o with
  | none => cases h
  | some a => exact ⟨a, rfl, h⟩
theorem ite_some {P : Prop} [Decidable P] {α : Type} {a r : α} (h : (if P then some a else none) = some r) : P ∧ a = r := by
  by_cases hp : P
  · rw [if_pos hp] at h; exact ⟨hp, Option.some.inj h⟩
  · rw [if_neg hp] at h; cases h
theorem qlook_swt {d : Int} {x : Int32} {k : Nat → Option qR} : ∀ {ps : List (Int × Int)}, qkeys ps = true → qlook d ps x k = k (qswt d ps x.toInt).toNat := by
  intro ps
  induction ps with
  | nil => intro _; rfl
  | cons a ps ih =>
    obtain ⟨a, t⟩ := a
    intro hk
    simp only [qkeys, List.all_cons, Bool.and_eq_true, decide_eq_true_eq] at hk
    simp only [qlook, qswt]
    by_cases hxa : x = Int32.ofInt a
    · rw [if_pos hxa, if_pos (by rw [hxa]; exact hk.1)]
    · rw [if_neg hxa, if_neg (fun q => hxa (Int32.toInt_inj.mp (by rw [hk.1]; exact q)))]
      exact ih hk.2
theorem qlk_swt {cd : qC} {b : Nat} {d d' : Int} (hd : (b : Int) + d = (qbpc cd d'.toNat : Int)) (x : Int) : ∀ {ps qs : List (Int × Int)}, qlk cd b ps qs = true → (b : Int) + Op.lookupswitch.offset ps d x = (qbpc cd (qswt d' qs x).toNat : Int) := by
  intro ps
  induction ps with
  | nil => intro qs h; cases qs with
    | nil => exact hd
    | cons _ _ => cases h
  | cons a ps ih =>
    obtain ⟨a, t⟩ := a
    intro qs h
    cases qs with
    | nil => cases h
    | cons z qs =>
      obtain ⟨a', t'⟩ := z
      simp only [qlk, qtgt, Bool.and_eq_true, decide_eq_true_eq] at h
      obtain ⟨⟨rfl, h2⟩, h3⟩ := h
      rw [Op.lookupswitch.offset_cons]
      simp only [qswt]
      by_cases hxa : x = a
      · rw [if_pos hxa.symm, if_pos hxa]; exact h2
      · rw [if_neg (fun q => hxa q.symm), if_neg hxa]; exact ih h3
theorem qswt_out {d : Int} {lo hi x : Int} (hx : x < lo ∨ hi < x) : ∀ {ps : List (Int × Int)}, (ps.all fun z => decide (lo ≤ z.1 ∧ z.1 ≤ hi)) = true → qswt d ps x = d := by
  intro ps
  induction ps with
  | nil => intro _; rfl
  | cons a ps ih =>
    obtain ⟨a, t⟩ := a
    intro h
    simp only [List.all_cons, Bool.and_eq_true, decide_eq_true_eq] at h
    simp only [qswt]
    rw [if_neg (by omega)]
    exact ih h.2
section QTHR
variable {p : Program} {l : Launch} {e : Env} {R : Room} {s : State} {m : MethodId} {args : Array Value} {below : List Frame} {meth : Method} {c : Code} {Q : State → Prop}
variable {al : Bool} {base : Nat} {D : va_G} {ca : Nat → ClassId} {cv : Nat → Value} {o : Nat} {cc : ByteArray} {cd : qC} {nL rc rs mc ms : Nat}
variable {d : Nat} {ini : Bool} {k : qK} {cf : qF} {r : qR} {pc : Nat} {L S : List Value} {μ : qM}
theorem qs_tableswitch (C : qCtx p R s m args meth c base D ca cv o ini cc nL mc ms d) {df lo hi df2 : Int} {offs : Array Int} {ps : Array (Int × Int)} {ln : Nat} (ht : qtgt cd (qbpc cd pc) df df2 = true) (hks : qkeys ps.toList = true) (hb2 : (ps.toList.all fun z => decide (lo ≤ z.1 ∧ z.1 ≤ hi)) = true) (hsz : (offs.size : Int) = hi - lo + 1) (hall : ((List.range offs.size).all fun k => match offs[k]? with | some off => qtgt cd (qbpc cd pc) off (qswt df2 ps.toList (lo + (k : Int))) | none => false) = true) (hd : decode cc (qbpc cd pc) = .ok (.tableswitch df lo hi offs, ln)) (hk : ∀ pc L S μ, k pc L S μ = some r → qGo al p l e R s m args below meth c Q base D ca cv cd nL rc rs mc ms pc L S μ) (h : qop al cf (.lookupswitch df2 ps) pc L S μ k = some r) : qGo al p l e R s m args below meth c Q base D ca cv cd nL rc rs mc ms pc L S μ := by
  obtain ⟨hx, hb, hml, hown, hts, hK, hSt, hbs, hcv, hini, hd1, hfr, hlo, hmc, hms⟩ := C
  simp only [qop, q1] at h
  split at h
  · rename_i x S1
    rw [qlook_swt hks] at h
    refine (hk _ _ _ _ h).same fun H locs cells slots ls hP hS hl hc hs kk => ?_
    by_cases hout : x.toInt < lo ∨ hi < x.toInt
    · rw [qswt_out hout hb2] at kk
      exact lv_tableOut hx hb hd hout (of_decide_eq_true ht) (kk ls hl)
    · have h1 : ¬ x.toInt < lo := fun q => hout (Or.inl q)
      have h2 : ¬ hi < x.toInt := fun q => hout (Or.inr q)
      have hi2 : (x.toInt - lo).toNat < offs.size := by omega
      have hq := List.all_eq_true.mp hall (x.toInt - lo).toNat (List.mem_range.mpr hi2)
      rw [Array.getElem?_eq_getElem hi2] at hq
      simp only at hq
      rw [show lo + ((x.toInt - lo).toNat : Int) = x.toInt by omega] at hq
      exact lv_tableIn hx hb hd h1 h2 (Array.getElem?_eq_getElem hi2) (of_decide_eq_true hq) (kk ls hl)
  · cases h
theorem qs_lookupswitch (C : qCtx p R s m args meth c base D ca cv o ini cc nL mc ms d) {df df2 : Int} {ps qs : Array (Int × Int)} {ln : Nat} (ht : qtgt cd (qbpc cd pc) df df2 = true) (hks : qkeys qs.toList = true) (hlk : qlk cd (qbpc cd pc) ps.toList qs.toList = true) (hsort : (ps.toList.zip (ps.toList.drop 1)).all (fun (a, next) => a.1 < next.1) = true) (hd : decode cc (qbpc cd pc) = .ok (.lookupswitch df ps, ln)) (hk : ∀ pc L S μ, k pc L S μ = some r → qGo al p l e R s m args below meth c Q base D ca cv cd nL rc rs mc ms pc L S μ) (h : qop al cf (.lookupswitch df2 qs) pc L S μ k = some r) : qGo al p l e R s m args below meth c Q base D ca cv cd nL rc rs mc ms pc L S μ := by
  obtain ⟨hx, hb, hml, hown, hts, hK, hSt, hbs, hcv, hini, hd1, hfr, hlo, hmc, hms⟩ := C
  simp only [qop, q1] at h
  split at h
  · rename_i x S1
    rw [qlook_swt hks] at h
    exact (hk _ _ _ _ h).same fun H locs cells slots ls hP hS hl hc hs kk => lv_lookup hx hb hd hsort rfl (qlk_swt (of_decide_eq_true ht) x.toInt hlk) (kk ls hl)
  · cases h
theorem qs_getfield (C : qCtx p R s m args meth c base D ca cv o ini cc nL mc ms d) {j n : Nat} (hq : qcpl o j = (1, (n : Int))) (hd : decode cc (qbpc cd pc) = .ok (.getfield j, 3)) (hn : qbpc cd (pc + 1) = qbpc cd pc + 3) (hk : ∀ pc L S μ, k pc L S μ = some r → qGo al p l e R s m args below meth c Q base D ca cv cd nL rc rs mc ms pc L S μ) (h : qop al cf (.getfield n) pc L S μ k = some r) : qGo al p l e R s m args below meth c Q base D ca cv cd nL rc rs mc ms pc L S μ := by
  obtain ⟨hx, hb, hml, hown, hts, hK, hSt, hbs, hcv, hini, hd1, hfr, hlo, hmc, hms⟩ := C
  obtain ⟨hw, -, hcb⟩ := qcp_ok hq (by decide)
  have hw := hw (.fieldLink (qown o) j (qfT n).1 (qfT n).2.1 (qfT n).2.2.1) (by simp [qcw])
  simp only [qcb, Int.toNat_natCast, Bool.and_eq_true, decide_eq_true_eq] at hcb
  obtain ⟨-, hc9, hkf, hty, hn2⟩ := hcb
  obtain ⟨hcl, hin, htyF, hnm, hfn⟩ := qin_cl _ hc9
  have key : ∀ (a : Nat) (S1 : List Value) (v : Value), (qk μ a).1 = n / 1000 → (∀ k1, a = k1 + 1 → qtr base cv v = qslot base cv μ k1 (n / 1000) (n % 1000 / 10)) → qGo al p l e R s m args below meth c Q base D ca cv cd nL rc rs mc ms (pc + 1) L (v :: S1) μ → qGo al p l e R s m args below meth c Q base D ca cv cd nL rc rs mc ms pc L (.ref a :: S1) μ := by
    intro a S1 v ha hv hgo
    obtain ⟨k1, rfl, hk1⟩ := qk_at ha (by omega)
    refine hgo.same fun H locs cells slots ls hP hS hl hc hs kk => ?_
    have he := qW_get (base := base) (ca := ca) (cv := cv) hk1
    rw [qE_obj hk1 (by omega)] at he
    have kk2 := kk ls hl
    rw [List.map_cons, hn] at kk2
    exact va_get (D := D) (C := (qcl (n / 1000)).1) (T := (qcl (n / 1000)).2.1) (N := (qcl (n / 1000)).2.2) hx hb hts hin hown hK hP k1 he hcl (n % 1000 / 10) (by rw [← hfn]; exact hkf) (hts _ hw) (fun _ h9 => h9) (v := qtr base cv v) (by rw [hv k1 rfl, List.getElem?_map, List.getElem?_range hkf]; rfl) hd kk2
  simp only [qop, qget] at h
  split at h
  · rename_i a S1
    rw [if_neg (by omega)] at h
    split at h
    · rename_i h2
      obtain ⟨x, e1, e2⟩ := qbnd_some h
      obtain ⟨g1, rfl⟩ := ite_some e1
      refine key a S1 _ g1 (fun k1 hk1 => ?_) (hk _ _ _ _ e2)
      subst hk1
      simp only [qslot]
      rw [if_pos (by rw [← hty]; exact h2)]
    · rename_i h2
      obtain ⟨x, e1, e2⟩ := qbnd_some h
      obtain ⟨g1, rfl⟩ := ite_some e1
      refine key a S1 _ g1 (fun k1 hk1 => ?_) (hk _ _ _ _ e2)
      subst hk1
      simp only [qslot]
      rw [if_neg (by rw [← hty]; exact h2)]
      rfl
  · split at h
    · split at h
      · omega
      · omega
      · cases h
    · cases h
  · cases h
theorem qs_gets_value (C : qCtx p R s m args meth c base D ca cv o ini cc nL mc ms d) {j : Nat} (hq : qcpl o j = (19, 0)) (hd : decode cc (qbpc cd pc) = .ok (.getfield j, 3)) (hn : qbpc cd (pc + 1) = qbpc cd pc + 3) (hk : ∀ pc L S μ, k pc L S μ = some r → qGo al p l e R s m args below meth c Q base D ca cv cd nL rc rs mc ms pc L S μ) (h : qop al cf (.getfield 0) pc L S μ k = some r) : qGo al p l e R s m args below meth c Q base D ca cv cd nL rc rs mc ms pc L S μ := by
  obtain ⟨hx, hb, hml, hown, hts, hK, hSt, hbs, hcv, hini, hd1, hfr, hlo, hmc, hms⟩ := C
  obtain ⟨hw, -, -⟩ := qcp_ok hq (by decide)
  have hw := hw (.fieldLink (qown o) j "java/lang/String" "value" "[B") (by simp [qcw])
  simp only [qop, qget] at h
  split at h
  · rw [if_pos (by decide)] at h; cases h
  · rename_i jj S1
    split at h
    · rename_i hk2
      have hk3 : 10 ≤ jj ∧ jj < 23 := by
        simp only [qtk] at hk2
        split at hk2
        · cases hk2
        · split at hk2
          · rename_i z; exact z
          · split at hk2 <;> cases hk2
      obtain ⟨q, v, e1, e2, e3, e4, e5, e6, e7⟩ := hSt.2.1 (jj - 10) (by omega)
      rw [show 10 + (jj - 10) = jj by omega] at e1
      rw [show 30 + (jj - 10) = jj + 20 by omega] at e2
      refine (hk _ _ _ _ h).same fun H locs cells slots ls hP hS hl hc hs kk => ?_
      have kk2 := kk ls hl
      rw [List.map_cons, hn] at kk2
      rw [List.map_cons, show qtr base cv (.retAddr jj) = .ref q from e1]
      exact vk_getf hx hb e6 hS hown (hts _ hw) (fun _ h9 => h9) hd (by rw [show qtr base cv (.retAddr (jj + 20)) = .ref v from e2] at kk2; exact kk2)
    · cases h
  · cases h
theorem qs_gets_coder (C : qCtx p R s m args meth c base D ca cv o ini cc nL mc ms d) {j : Nat} (hq : qcpl o j = (20, 1)) (hd : decode cc (qbpc cd pc) = .ok (.getfield j, 3)) (hn : qbpc cd (pc + 1) = qbpc cd pc + 3) (hk : ∀ pc L S μ, k pc L S μ = some r → qGo al p l e R s m args below meth c Q base D ca cv cd nL rc rs mc ms pc L S μ) (h : qop al cf (.getfield 1) pc L S μ k = some r) : qGo al p l e R s m args below meth c Q base D ca cv cd nL rc rs mc ms pc L S μ := by
  obtain ⟨hx, hb, hml, hown, hts, hK, hSt, hbs, hcv, hini, hd1, hfr, hlo, hmc, hms⟩ := C
  obtain ⟨hw, -, -⟩ := qcp_ok hq (by decide)
  have hw := hw (.fieldLink (qown o) j "java/lang/String" "coder" "B") (by simp [qcw])
  simp only [qop, qget] at h
  split at h
  · rw [if_pos (by decide)] at h; cases h
  · rename_i jj S1
    split at h
    · rename_i hk2
      have hk3 : 10 ≤ jj ∧ jj < 23 := by
        simp only [qtk] at hk2
        split at hk2
        · cases hk2
        · split at hk2
          · rename_i z; exact z
          · split at hk2 <;> cases hk2
      obtain ⟨q, v, e1, e2, e3, e4, e5, e6, e7⟩ := hSt.2.1 (jj - 10) (by omega)
      rw [show 10 + (jj - 10) = jj by omega] at e1
      rw [show 30 + (jj - 10) = jj + 20 by omega] at e2
      refine (hk _ _ _ _ h).same fun H locs cells slots ls hP hS hl hc hs kk => ?_
      have kk2 := kk ls hl
      rw [List.map_cons, hn] at kk2
      rw [List.map_cons, show qtr base cv (.retAddr jj) = .ref q from e1]
      exact vk_getf hx hb e5 hS hown (hts _ hw) (fun _ h9 => h9) hd kk2
    · cases h
  · cases h
theorem qs_putfield (C : qCtx p R s m args meth c base D ca cv o ini cc nL mc ms d) {j n : Nat} (hq : qcpl o j = (1, (n : Int))) (hfi : (!(qfT n).2.2.2 || (ini && decide ((qfT n).1 = qown o))) = true) (hd : decode cc (qbpc cd pc) = .ok (.putfield j, 3)) (hn : qbpc cd (pc + 1) = qbpc cd pc + 3) (hk : ∀ pc L S μ, k pc L S μ = some r → qGo al p l e R s m args below meth c Q base D ca cv cd nL rc rs mc ms pc L S μ) (h : qop al cf (.putfield n) pc L S μ k = some r) : qGo al p l e R s m args below meth c Q base D ca cv cd nL rc rs mc ms pc L S μ := by
  obtain ⟨hx, hb, hml, hown, hts, hK, hSt, hbs, hcv, hini, hd1, hfr, hlo, hmc, hms⟩ := C
  obtain ⟨hw, -, hcb⟩ := qcp_ok hq (by decide)
  have hw := hw (.fieldLink (qown o) j (qfT n).1 (qfT n).2.1 (qfT n).2.2.1) (by simp [qcw])
  simp only [qcb, Int.toNat_natCast, Bool.and_eq_true, decide_eq_true_eq] at hcb
  obtain ⟨-, hc9, hkf, hty, hn2⟩ := hcb
  have hfin : ((qcl (n / 1000)).2.1 (n % 1000 / 10)).2.2.2 = false ∨ (meth.name = "<init>" ∧ ((qcl (n / 1000)).2.1 (n % 1000 / 10)).1 = qown o) := by
    simp only [Bool.or_eq_true, Bool.not_eq_true', Bool.and_eq_true, decide_eq_true_eq] at hfi
    rcases hfi with z | ⟨z1, z2⟩
    · exact Or.inl z
    · exact Or.inr ⟨hini z1, z2⟩
  have key : ∀ (a : Nat) (S1 : List Value) (v : Value) (μ' : qM), (qk μ a).1 = n / 1000 → narrow (qtyF (n / 1000) (n % 1000 / 10)) (qtr base cv v) = qtr base cv v → fits (qtyF (n / 1000) (n % 1000 / 10)) (qtr base cv v) = true → μ'.1 = μ.1 → μ'.2.2.2.2 = μ.2.2.2.2 →
      (∀ k1 nn, a = k1 + 1 → qnth μ.1 k1 = some (n / 1000, nn) → qE base ca cv μ' k1 = .inr (n / 1000, ((List.range (qfn (n / 1000))).map (qslot base cv μ k1 (n / 1000))).set (n % 1000 / 10) (qtr base cv v)) ∧ ∀ i, i ≠ k1 → qE base ca cv μ' i = qE base ca cv μ i) → qGo al p l e R s m args below meth c Q base D ca cv cd nL rc rs mc ms (pc + 1) L S1 μ' → qGo al p l e R s m args below meth c Q base D ca cv cd nL rc rs mc ms pc L (v :: .ref a :: S1) μ := by
    intro a S1 v μ' ha hnr hft h1 h2 hset hgo
    obtain ⟨k1, rfl, hk1⟩ := qk_at ha (by omega)
    obtain ⟨hs1, hs2⟩ := hset k1 _ rfl hk1
    refine hgo.mem h1 h2 fun H locs cells slots ls hP hS hl hc hs kk => ?_
    have he := qW_get (base := base) (ca := ca) (cv := cv) hk1
    rw [qE_obj hk1 (by omega)] at he
    refine qr_put (D := D) hx hb hts hc9 hown hK hP (qD base ca cv μ) hS k1 he (n % 1000 / 10) hkf (hts _ hw) hfin hnr hft (by simp [hkf]) hd (fun H1 locs1 hP1 hS1 hz => ?_)
    rw [qW_set h1 hs1 hs2] at hP1
    rw [← hn]
    exact kk H1 locs1 ls hP1 hS1 (fun _ => hz) hl
  simp only [qop, qput] at h
  split at h
  · rename_i x a S1
    split at h
    · rename_i h0
      obtain ⟨μ1, e1, e2⟩ := qbnd_some h
      obtain ⟨g1, rfl⟩ := ite_some e1
      have hq0 : qfty (n / 1000) (n % 1000 / 10) = 0 := by rw [← hty]; exact h0
      have hT : qtyF (n / 1000) (n % 1000 / 10) = .int := by
        rcases qtys_ok _ hc9 _ hkf with z | z | z
        · exact z.2
        · omega
        · omega
      refine key a S1 (.int x) (qsI μ a (n % 1000 / 10) x) g1 (by rw [hT]; rfl) (by rw [hT]; rfl) rfl rfl (fun k1 nn hk1 hk2 => ?_) (hk _ _ _ _ e2)
      subst hk1
      exact ⟨qE_setI hk2 (by omega) (by omega), fun i hi => qE_I (by omega)⟩
    · rename_i h0
      split at h
      · rename_i hx01
        obtain ⟨μ1, e1, e2⟩ := qbnd_some h
        obtain ⟨g1, rfl⟩ := ite_some e1
        have hT : qtyF (n / 1000) (n % 1000 / 10) = .boolean := by
          rcases qtys_ok _ hc9 _ hkf with z | z | z
          · omega
          · exact z.2
          · omega
        refine key a S1 (.int x) (qsI μ a (n % 1000 / 10) x) g1 (by rw [hT]; exact (qfits_bool hx01).1) (by rw [hT]; exact (qfits_bool hx01).2) rfl rfl (fun k1 nn hk1 hk2 => ?_) (hk _ _ _ _ e2)
        subst hk1
        exact ⟨qE_setI hk2 (by omega) (by omega), fun i hi => qE_I (by omega)⟩
      · cases h
    · cases h
  · rename_i x a S1
    split at h
    · rename_i h0
      obtain ⟨μ1, e1, e2⟩ := qbnd_some h
      obtain ⟨g1, rfl⟩ := ite_some e1
      have hT : (∃ n', qtyF (n / 1000) (n % 1000 / 10) = .object n') ∨ ∃ t, qtyF (n / 1000) (n % 1000 / 10) = .array t := by
        rcases qtys_ok _ hc9 _ hkf with z | z | z
        · omega
        · omega
        · exact z.2
      refine key a S1 (.ref x) (qsP μ a (n % 1000 / 10) x) g1 (qfits_ref hT x).1 (qfits_ref hT x).2 rfl rfl (fun k1 nn hk1 hk2 => ?_) (hk _ _ _ _ e2)
      subst hk1
      exact ⟨qE_setP hk2 (by omega) (by omega), fun i hi => qE_P (by omega)⟩
    · cases h
  · cases h
theorem qs_getstatic (C : qCtx p R s m args meth c base D ca cv o ini cc nL mc ms d) {j tag : Nat} {z : Int} (hq : qcpl o j = (tag, z)) (htag : tag = 5 ∨ tag = 6 ∨ tag = 8) (hd : decode cc (qbpc cd pc) = .ok (.getstatic j, 3)) (hn : qbpc cd (pc + 1) = qbpc cd pc + 3) (hk : ∀ pc L S μ, k pc L S μ = some r → qGo al p l e R s m args below meth c Q base D ca cv cd nL rc rs mc ms pc L S μ) (h : qop al cf (.jsr z) pc L S μ k = some r) : qGo al p l e R s m args below meth c Q base D ca cv cd nL rc rs mc ms pc L S μ := by
  obtain ⟨hx, hb, hml, hown, hts, hK, hSt, hbs, hcv, hini, hd1, hfr, hlo, hmc, hms⟩ := C
  obtain ⟨hw, hnw, hcb⟩ := qcp_ok hq (by omega)
  simp only [qop] at h
  refine (hk _ _ _ _ h).same fun H locs cells slots ls hP hS hl hc hs kk => ?_
  have kk2 := kk ls hl
  rw [List.map_cons, hn] at kk2
  rcases htag with rfl | rfl | rfl
  · simp only [qcb, Bool.and_eq_true, decide_eq_true_eq] at hcb
    exact va_gets hx hb (hSt.1 z.toNat hcb.2).1 hS hown (hts _ (hw _ (by simp only [qcw]; exact List.mem_cons_self))) (fun _ h9 => h9) hd kk2
  · simp only [qcb, Bool.and_eq_true, decide_eq_true_eq] at hcb
    have hnw := hSt.2.2.2.2.2.1 _ (hnw _ (by simp only [qcnw]; exact List.mem_cons_self))
    exact va_getsN hx hb (hSt.1 z.toNat hcb.2).1 hS hown (va_Nw.use rfl hnw) (fun _ h9 => h9) hd kk2
  · simp only [qcb, Bool.and_eq_true, decide_eq_true_eq] at hcb
    have kk3 : W p l e R s m args below meth c H locs cells slots Q (F0 m (qbpc cd pc + 3) ls (cv 50 :: S.map (qtr base cv))) := by
      have : qtr base cv (.retAddr z.toNat) = cv 50 := by rw [hcb.2]; rfl
      rw [← this]; exact kk2
    exact va_gets hx hb hSt.2.2.2.1.2 hS hown (hts _ (hw _ (by simp only [qcw]; exact List.mem_cons_self))) (fun _ h9 => h9) hd kk3
theorem qs_getstaticC (C : qCtx p R s m args meth c base D ca cv o ini cc nL mc ms d) {j : Nat} (hq : qcpl o j = (7, 1)) (hd : decode cc (qbpc cd pc) = .ok (.getstatic j, 3)) (hn : qbpc cd (pc + 1) = qbpc cd pc + 3) (hk : ∀ pc L S μ, k pc L S μ = some r → qGo al p l e R s m args below meth c Q base D ca cv cd nL rc rs mc ms pc L S μ) (h : qop al cf (.iconst 1) pc L S μ k = some r) : qGo al p l e R s m args below meth c Q base D ca cv cd nL rc rs mc ms pc L S μ := by
  obtain ⟨hx, hb, hml, hown, hts, hK, hSt, hbs, hcv, hini, hd1, hfr, hlo, hmc, hms⟩ := C
  obtain ⟨hw, -, -⟩ := qcp_ok hq (by decide)
  simp only [qop] at h
  refine (hk _ _ _ _ h).same fun H locs cells slots ls hP hS hl hc hs kk => ?_
  have kk2 := kk ls hl
  rw [List.map_cons, hn] at kk2
  exact va_gets hx hb hSt.2.2.1 hS hown (hts _ (hw _ (by simp only [qcw]; exact List.mem_cons_self))) (fun _ h9 => h9) hd kk2
theorem qs_iaload (C : qCtx p R s m args meth c base D ca cv o ini cc nL mc ms d)  (hd : decode cc (qbpc cd pc) = .ok (.iaload, 1)) (hn : qbpc cd (pc + 1) = qbpc cd pc + 1) (hk : ∀ pc L S μ, k pc L S μ = some r → qGo al p l e R s m args below meth c Q base D ca cv cd nL rc rs mc ms pc L S μ) (h : qop al cf (.iaload) pc L S μ k = some r) : qGo al p l e R s m args below meth c Q base D ca cv cd nL rc rs mc ms pc L S μ := by
  obtain ⟨hx, hb, hml, hown, hts, hK, hSt, hbs, hcv, hini, hd1, hfr, hlo, hmc, hms⟩ := C
  simp only [qop, qld] at h
  split at h
  · rename_i i a S1
    obtain ⟨x, e1, e2⟩ := qbnd_some h
    obtain ⟨⟨g1, g2⟩, rfl⟩ := ite_some e1
    obtain ⟨k1, rfl, hk1⟩ := qk_at g1 (by decide)
    refine (hk _ _ _ _ e2).same fun H locs cells slots ls hP hS hl hc hs kk => ?_
    have he := qW_get (base := base) (ca := ca) (cv := cv) hk1
    rw [qE_int hk1 (by decide) (by decide) (by decide)] at he
    exact va_iald (D := D) hx hb hK hP k1 0 he rfl g2 hd (by rw [← hn]; exact kk ls hl)
  · rename_i i j S1
    obtain ⟨x, e1, e2⟩ := qbnd_some h
    obtain ⟨⟨g1, g2⟩, rfl⟩ := ite_some e1
    have hj : j < 5 := by
      simp only [qtk] at g1
      split at g1
      · assumption
      · split at g1
        · cases g1
        · split at g1 <;> cases g1
    obtain ⟨t, e3, e4⟩ := (hSt.1 j hj).2
    refine (hk _ _ _ _ e2).same fun H locs cells slots ls hP hS hl hc hs kk => ?_
    have kk2 := kk ls hl
    rw [List.map_cons, hn] at kk2
    rw [List.map_cons, List.map_cons, show qtr base cv (.retAddr j) = .ref t from e3]
    exact va_ti hx hb e4 hS g2 rfl hd kk2
  · cases h
theorem qs_baload (C : qCtx p R s m args meth c base D ca cv o ini cc nL mc ms d)  (hd : decode cc (qbpc cd pc) = .ok (.baload, 1)) (hn : qbpc cd (pc + 1) = qbpc cd pc + 1) (hk : ∀ pc L S μ, k pc L S μ = some r → qGo al p l e R s m args below meth c Q base D ca cv cd nL rc rs mc ms pc L S μ) (h : qop al cf (.baload) pc L S μ k = some r) : qGo al p l e R s m args below meth c Q base D ca cv cd nL rc rs mc ms pc L S μ := by
  obtain ⟨hx, hb, hml, hown, hts, hK, hSt, hbs, hcv, hini, hd1, hfr, hlo, hmc, hms⟩ := C
  simp only [qop, qld] at h
  split at h
  · rename_i i a S1
    obtain ⟨x, e1, e2⟩ := qbnd_some h
    obtain ⟨⟨g1, g2⟩, rfl⟩ := ite_some e1
    obtain ⟨k1, rfl, hk1⟩ := qk_at g1 (by decide)
    refine (hk _ _ _ _ e2).same fun H locs cells slots ls hP hS hl hc hs kk => ?_
    have he := qW_get (base := base) (ca := ca) (cv := cv) hk1
    rw [qE_int hk1 (by decide) (by decide) (by decide)] at he
    exact va_zald (D := D) hx hb hK hP k1 3 he rfl g2 hd (by rw [← hn]; exact kk ls hl)
  · rename_i i j S1
    obtain ⟨x, e1, e2⟩ := qbnd_some h
    obtain ⟨⟨g1, g2⟩, rfl⟩ := ite_some e1
    have hj : 30 ≤ j ∧ j < 43 := by
      simp only [qtk] at g1
      split at g1
      · cases g1
      · split at g1
        · cases g1
        · split at g1
          · rename_i z; exact z
          · cases g1
    obtain ⟨q, v, e3, e4, e5, e6, e7, e8, e9⟩ := hSt.2.1 (j - 30) (by omega)
    rw [show 30 + (j - 30) = j by omega] at e4 e9
    refine (hk _ _ _ _ e2).same fun H locs cells slots ls hP hS hl hc hs kk => ?_
    have kk2 := kk ls hl
    rw [List.map_cons, hn] at kk2
    rw [List.map_cons, List.map_cons, show qtr base cv (.retAddr j) = .ref v from e4]
    exact va_tb hx hb e9 hS g2 rfl hd kk2
  · cases h
theorem qs_caload (C : qCtx p R s m args meth c base D ca cv o ini cc nL mc ms d)  (hd : decode cc (qbpc cd pc) = .ok (.caload, 1)) (hn : qbpc cd (pc + 1) = qbpc cd pc + 1) (hk : ∀ pc L S μ, k pc L S μ = some r → qGo al p l e R s m args below meth c Q base D ca cv cd nL rc rs mc ms pc L S μ) (h : qop al cf (.caload) pc L S μ k = some r) : qGo al p l e R s m args below meth c Q base D ca cv cd nL rc rs mc ms pc L S μ := by
  obtain ⟨hx, hb, hml, hown, hts, hK, hSt, hbs, hcv, hini, hd1, hfr, hlo, hmc, hms⟩ := C
  simp only [qop, qld] at h
  split at h
  · rename_i i a S1
    obtain ⟨x, e1, e2⟩ := qbnd_some h
    obtain ⟨⟨g1, g2⟩, rfl⟩ := ite_some e1
    obtain ⟨k1, rfl, hk1⟩ := qk_at g1 (by decide)
    refine (hk _ _ _ _ e2).same fun H locs cells slots ls hP hS hl hc hs kk => ?_
    have he := qW_get (base := base) (ca := ca) (cv := cv) hk1
    rw [qE_int hk1 (by decide) (by decide) (by decide)] at he
    exact va_cald (D := D) hx hb hK hP k1 2 he rfl g2 hd (by rw [← hn]; exact kk ls hl)
  · rename_i i j S1
    obtain ⟨x, e1, e2⟩ := qbnd_some h
    obtain ⟨⟨g1, g2⟩, rfl⟩ := ite_some e1
    exfalso
    simp only [qtk] at g1
    split at g1
    · cases g1
    · split at g1
      · cases g1
      · split at g1 <;> cases g1
  · cases h
theorem qs_laload (C : qCtx p R s m args meth c base D ca cv o ini cc nL mc ms d)  (hd : decode cc (qbpc cd pc) = .ok (.laload, 1)) (hn : qbpc cd (pc + 1) = qbpc cd pc + 1) (hk : ∀ pc L S μ, k pc L S μ = some r → qGo al p l e R s m args below meth c Q base D ca cv cd nL rc rs mc ms pc L S μ) (h : qop al cf (.laload) pc L S μ k = some r) : qGo al p l e R s m args below meth c Q base D ca cv cd nL rc rs mc ms pc L S μ := by
  obtain ⟨hx, hb, hml, hown, hts, hK, hSt, hbs, hcv, hini, hd1, hfr, hlo, hmc, hms⟩ := C
  simp only [qop] at h
  split at h
  · rename_i i a S1
    obtain ⟨x, e1, e2⟩ := qbnd_some h
    obtain ⟨⟨g1, g2⟩, rfl⟩ := ite_some e1
    obtain ⟨k1, rfl, hk1⟩ := qk_at g1 (by decide)
    refine (hk _ _ _ _ e2).same fun H locs cells slots ls hP hS hl hc hs kk => ?_
    have he := qW_get (base := base) (ca := ca) (cv := cv) hk1
    rw [qE_long hk1] at he
    exact va_lald (D := D) hx hb hK hP k1 1 he rfl g2 hd (by rw [← hn]; exact kk ls hl)
  · cases h
theorem qs_aaload (C : qCtx p R s m args meth c base D ca cv o ini cc nL mc ms d)  (hd : decode cc (qbpc cd pc) = .ok (.aaload, 1)) (hn : qbpc cd (pc + 1) = qbpc cd pc + 1) (hk : ∀ pc L S μ, k pc L S μ = some r → qGo al p l e R s m args below meth c Q base D ca cv cd nL rc rs mc ms pc L S μ) (h : qop al cf (.aaload) pc L S μ k = some r) : qGo al p l e R s m args below meth c Q base D ca cv cd nL rc rs mc ms pc L S μ := by
  obtain ⟨hx, hb, hml, hown, hts, hK, hSt, hbs, hcv, hini, hd1, hfr, hlo, hmc, hms⟩ := C
  simp only [qop] at h
  split at h
  · rename_i i a S1
    obtain ⟨x, e1, e2⟩ := qbnd_some h
    obtain ⟨⟨g1, g2⟩, rfl⟩ := ite_some e1
    obtain ⟨k1, rfl, hk1⟩ := qk_at g1 (by decide)
    refine (hk _ _ _ _ e2).same fun H locs cells slots ls hP hS hl hc hs kk => ?_
    have he := qW_get (base := base) (ca := ca) (cv := cv) hk1
    rw [qE_ref hk1] at he
    have kk2 := kk ls hl
    rw [List.map_cons, hn, ← qopt_tr] at kk2
    exact va_aldq (D := D) hx hb hK hP k1 4 he rfl g2 hd kk2
  · cases h
theorem qs_iastore (C : qCtx p R s m args meth c base D ca cv o ini cc nL mc ms d)  (hd : decode cc (qbpc cd pc) = .ok (.iastore, 1)) (hn : qbpc cd (pc + 1) = qbpc cd pc + 1) (hk : ∀ pc L S μ, k pc L S μ = some r → qGo al p l e R s m args below meth c Q base D ca cv cd nL rc rs mc ms pc L S μ) (h : qop al cf (.iastore) pc L S μ k = some r) : qGo al p l e R s m args below meth c Q base D ca cv cd nL rc rs mc ms pc L S μ := by
  obtain ⟨hx, hb, hml, hown, hts, hK, hSt, hbs, hcv, hini, hd1, hfr, hlo, hmc, hms⟩ := C
  simp only [qop, qsto] at h
  split at h
  · rename_i x i a S1
    obtain ⟨μ1, e1, e2⟩ := qbnd_some h
    obtain ⟨⟨g1, g2⟩, rfl⟩ := ite_some e1
    obtain ⟨k1, rfl, hk1⟩ := qk_at g1 (by decide)
    refine (hk _ _ _ _ e2).mem rfl rfl fun H locs cells slots ls hP hS hl hc hs kk => ?_
    have he := qW_get (base := base) (ca := ca) (cv := cv) hk1
    rw [qE_int hk1 (by decide) (by decide) (by decide)] at he
    refine qr_ist (D := D) hx hb hK hP (qD base ca cv μ) hS k1 0 he rfl g2 hd (fun H1 locs1 hP1 hS1 hz => ?_)
    rw [qW_set (base := base) (ca := ca) (cv := cv) (μ := μ) (k := k1) (μ' := qsI μ (k1 + 1) i.toNatClampNeg (x)) rfl ?_ (fun i' hi' => qE_I (by omega))] at hP1
    · rw [← hn]
      exact kk H1 locs1 ls hP1 hS1 (fun _ => hz) hl
    · rw [qE_int (μ := qsI μ (k1 + 1) i.toNatClampNeg (x)) (c := 20) hk1 (by decide) (by decide) (by decide)]
      congr 4
      funext q
      by_cases hq : q = i.toNatClampNeg
      · simp [qI, qsI, upd, hq]
      · simp [qI, qsI, upd, hq]
  · cases h
theorem qs_castore (C : qCtx p R s m args meth c base D ca cv o ini cc nL mc ms d)  (hd : decode cc (qbpc cd pc) = .ok (.castore, 1)) (hn : qbpc cd (pc + 1) = qbpc cd pc + 1) (hk : ∀ pc L S μ, k pc L S μ = some r → qGo al p l e R s m args below meth c Q base D ca cv cd nL rc rs mc ms pc L S μ) (h : qop al cf (.castore) pc L S μ k = some r) : qGo al p l e R s m args below meth c Q base D ca cv cd nL rc rs mc ms pc L S μ := by
  obtain ⟨hx, hb, hml, hown, hts, hK, hSt, hbs, hcv, hini, hd1, hfr, hlo, hmc, hms⟩ := C
  simp only [qop, qsto] at h
  by_cases hal : al = true
  · rw [if_pos hal] at h; cases h
  rw [if_neg hal] at h
  split at h
  · rename_i x i a S1
    obtain ⟨μ1, e1, e2⟩ := qbnd_some h
    obtain ⟨⟨g1, g2⟩, rfl⟩ := ite_some e1
    obtain ⟨k1, rfl, hk1⟩ := qk_at g1 (by decide)
    refine (hk _ _ _ _ e2).mem rfl rfl fun H locs cells slots ls hP hS hl hc hs kk => ?_
    have he := qW_get (base := base) (ca := ca) (cv := cv) hk1
    rw [qE_int hk1 (by decide) (by decide) (by decide)] at he
    refine va_cast (D := D) hx hb hK hP (qD base ca cv μ) hS k1 2 he rfl g2 hd (fun H1 locs1 hP1 hD1 hS1 => ?_)
    rw [qW_set (base := base) (ca := ca) (cv := cv) (μ := μ) (k := k1) (μ' := qsI μ (k1 + 1) i.toNatClampNeg (qnc x)) rfl ?_ (fun i' hi' => qE_I (by omega))] at hP1
    · rw [← hn]
      exact kk H1 locs1 ls hP1 hS1 (fun ha => absurd ha hal) hl
    · rw [qE_int (μ := qsI μ (k1 + 1) i.toNatClampNeg (qnc x)) (c := 22) hk1 (by decide) (by decide) (by decide)]
      congr 4
      funext q
      by_cases hq : q = i.toNatClampNeg
      · simp [qI, qsI, upd, hq, qnc]
      · simp [qI, qsI, upd, hq]
  · cases h
theorem qs_bastore (C : qCtx p R s m args meth c base D ca cv o ini cc nL mc ms d)  (hd : decode cc (qbpc cd pc) = .ok (.bastore, 1)) (hn : qbpc cd (pc + 1) = qbpc cd pc + 1) (hk : ∀ pc L S μ, k pc L S μ = some r → qGo al p l e R s m args below meth c Q base D ca cv cd nL rc rs mc ms pc L S μ) (h : qop al cf (.bastore) pc L S μ k = some r) : qGo al p l e R s m args below meth c Q base D ca cv cd nL rc rs mc ms pc L S μ := by
  obtain ⟨hx, hb, hml, hown, hts, hK, hSt, hbs, hcv, hini, hd1, hfr, hlo, hmc, hms⟩ := C
  simp only [qop, qsto] at h
  by_cases hal : al = true
  · rw [if_pos hal] at h; cases h
  rw [if_neg hal] at h
  split at h
  · rename_i x i a S1
    obtain ⟨μ1, e1, e2⟩ := qbnd_some h
    obtain ⟨⟨g1, g2⟩, rfl⟩ := ite_some e1
    obtain ⟨k1, rfl, hk1⟩ := qk_at g1 (by decide)
    refine (hk _ _ _ _ e2).mem rfl rfl fun H locs cells slots ls hP hS hl hc hs kk => ?_
    have he := qW_get (base := base) (ca := ca) (cv := cv) hk1
    rw [qE_int hk1 (by decide) (by decide) (by decide)] at he
    refine va_zast (D := D) hx hb hK hP (qD base ca cv μ) hS k1 3 he rfl g2 hd (fun H1 locs1 hP1 hD1 hS1 => ?_)
    rw [qW_set (base := base) (ca := ca) (cv := cv) (μ := μ) (k := k1) (μ' := qsI μ (k1 + 1) i.toNatClampNeg (qnz x)) rfl ?_ (fun i' hi' => qE_I (by omega))] at hP1
    · rw [← hn]
      exact kk H1 locs1 ls hP1 hS1 (fun ha => absurd ha hal) hl
    · rw [qE_int (μ := qsI μ (k1 + 1) i.toNatClampNeg (qnz x)) (c := 23) hk1 (by decide) (by decide) (by decide)]
      congr 4
      funext q
      by_cases hq : q = i.toNatClampNeg
      · simp [qI, qsI, upd, hq, qnz]
      · simp [qI, qsI, upd, hq]
  · cases h
theorem qs_lastore (C : qCtx p R s m args meth c base D ca cv o ini cc nL mc ms d)  (hd : decode cc (qbpc cd pc) = .ok (.lastore, 1)) (hn : qbpc cd (pc + 1) = qbpc cd pc + 1) (hk : ∀ pc L S μ, k pc L S μ = some r → qGo al p l e R s m args below meth c Q base D ca cv cd nL rc rs mc ms pc L S μ) (h : qop al cf (.lastore) pc L S μ k = some r) : qGo al p l e R s m args below meth c Q base D ca cv cd nL rc rs mc ms pc L S μ := by
  obtain ⟨hx, hb, hml, hown, hts, hK, hSt, hbs, hcv, hini, hd1, hfr, hlo, hmc, hms⟩ := C
  simp only [qop] at h
  split at h
  · rename_i x i a S1
    by_cases hal : al = true
    · rw [if_pos hal] at h; cases h
    rw [if_neg hal] at h
    obtain ⟨μ1, e1, e2⟩ := qbnd_some h
    obtain ⟨⟨g1, g2⟩, rfl⟩ := ite_some e1
    obtain ⟨k1, rfl, hk1⟩ := qk_at g1 (by decide)
    refine (hk _ _ _ _ e2).mem rfl rfl fun H locs cells slots ls hP hS hl hc hs kk => ?_
    have he := qW_get (base := base) (ca := ca) (cv := cv) hk1
    rw [qE_long hk1] at he
    refine va_last (D := D) hx hb hK hP (qD base ca cv μ) hS k1 1 he rfl g2 hd (fun H1 locs1 hP1 hD1 hS1 => ?_)
    rw [qW_set (base := base) (ca := ca) (cv := cv) (μ := μ) (k := k1) (μ' := qsL μ (k1 + 1) i.toNatClampNeg x) rfl ?_ (fun i' hi' => qE_L (by omega))] at hP1
    · rw [← hn]
      exact kk H1 locs1 ls hP1 hS1 (fun ha => absurd ha hal) hl
    · rw [qE_long (μ := qsL μ (k1 + 1) i.toNatClampNeg x) hk1]
      congr 5
      funext q
      by_cases hq : q = i.toNatClampNeg
      · simp [qL, qsL, vp_updL, hq]
      · simp [qL, qsL, vp_updL, hq]
  · cases h
theorem qs_aastore (C : qCtx p R s m args meth c base D ca cv o ini cc nL mc ms d)  (hd : decode cc (qbpc cd pc) = .ok (.aastore, 1)) (hn : qbpc cd (pc + 1) = qbpc cd pc + 1) (hk : ∀ pc L S μ, k pc L S μ = some r → qGo al p l e R s m args below meth c Q base D ca cv cd nL rc rs mc ms pc L S μ) (h : qop al cf (.aastore) pc L S μ k = some r) : qGo al p l e R s m args below meth c Q base D ca cv cd nL rc rs mc ms pc L S μ := by
  obtain ⟨hx, hb, hml, hown, hts, hK, hSt, hbs, hcv, hini, hd1, hfr, hlo, hmc, hms⟩ := C
  simp only [qop] at h
  split at h
  · rename_i x i a S1
    obtain ⟨μ1, e1, e2⟩ := qbnd_some h
    obtain ⟨⟨g1, g2, g3⟩, rfl⟩ := ite_some e1
    obtain ⟨k1, rfl, hk1⟩ := qk_at g1 (by decide)
    obtain ⟨k2, rfl, hk2⟩ := qk_at g3 (by decide)
    refine (hk _ _ _ _ e2).mem rfl rfl fun H locs cells slots ls hP hS hl hc hs kk => ?_
    have he := qW_get (base := base) (ca := ca) (cv := cv) hk1
    rw [qE_ref hk1] at he
    have he2 := qW_get (base := base) (ca := ca) (cv := cv) hk2
    rw [qE_obj hk2 (by decide)] at he2
    refine qr_ast (D := D) hx hb hK hP (qD base ca cv μ) hS k1 4 k2 5 he (r := qcl 5) rfl he2 (qin_cl 5 (by decide)).1 g2 hd (fun H1 locs1 hP1 hS1 hz => ?_)
    rw [qW_set (base := base) (ca := ca) (cv := cv) (μ := μ) (k := k1) (μ' := qsP μ (k1 + 1) i.toNatClampNeg (k2 + 1)) rfl ?_ (fun i' hi' => qE_P (by omega))] at hP1
    · rw [← hn]
      exact kk H1 locs1 ls hP1 hS1 (fun _ => hz) hl
    · rw [qE_ref (μ := qsP μ (k1 + 1) i.toNatClampNeg (k2 + 1)) hk1]
      congr 8
      funext q
      by_cases hq : q = i.toNatClampNeg
      · simp [qP, qsP, va_up, hq, qopt]
      · simp [qP, qsP, va_up, hq]
  · cases h
theorem qs_arraylength (C : qCtx p R s m args meth c base D ca cv o ini cc nL mc ms d)  (hd : decode cc (qbpc cd pc) = .ok (.arraylength, 1)) (hn : qbpc cd (pc + 1) = qbpc cd pc + 1) (hk : ∀ pc L S μ, k pc L S μ = some r → qGo al p l e R s m args below meth c Q base D ca cv cd nL rc rs mc ms pc L S μ) (h : qop al cf (.arraylength) pc L S μ k = some r) : qGo al p l e R s m args below meth c Q base D ca cv cd nL rc rs mc ms pc L S μ := by
  obtain ⟨hx, hb, hml, hown, hts, hK, hSt, hbs, hcv, hini, hd1, hfr, hlo, hmc, hms⟩ := C
  simp only [qop] at h
  split at h
  · rename_i a S1
    obtain ⟨x, e1, e2⟩ := qbnd_some h
    obtain ⟨⟨g1, g2⟩, rfl⟩ := ite_some e1
    obtain ⟨k1, rfl, hk1⟩ := qk_some (μ := μ) (a := a) (c := (qk μ a).1) (n := (qk μ a).2) rfl (by omega)
    refine (hk _ _ _ _ e2).same fun H locs cells slots ls hP hS hl hc hs kk => ?_
    have he := qW_get (base := base) (ca := ca) (cv := cv) hk1
    have kk2 := kk ls hl
    rw [List.map_cons, hn] at kk2
    generalize hcc : (qk μ (k1 + 1)).1 = c1 at *
    have : c1 = 20 ∨ c1 = 21 ∨ c1 = 22 ∨ c1 = 23 ∨ c1 = 24 := by omega
    rcases this with rfl | rfl | rfl | rfl | rfl
    · rw [qE_int hk1 (by decide) (by decide) (by decide)] at he
      exact va_alen (D := D) hx hb hK hP k1 0 he rfl rfl hd kk2
    · rw [qE_long hk1] at he
      exact va_alen (D := D) hx hb hK hP k1 1 he rfl rfl hd kk2
    · rw [qE_int hk1 (by decide) (by decide) (by decide)] at he
      exact va_alen (D := D) hx hb hK hP k1 2 he rfl rfl hd kk2
    · rw [qE_int hk1 (by decide) (by decide) (by decide)] at he
      exact va_alen (D := D) hx hb hK hP k1 3 he rfl rfl hd kk2
    · rw [qE_ref hk1] at he
      exact va_alen (D := D) hx hb hK hP k1 4 he rfl rfl hd kk2
  · rename_i j S1
    split at h
    · rename_i hj
      refine (hk _ _ _ _ h).same fun H locs cells slots ls hP hS hl hc hs kk => ?_
      have kk2 := kk ls hl
      rw [List.map_cons, hn] at kk2
      have hj2 : j < 5 ∨ (30 ≤ j ∧ j < 43) := by
        simp only [qtk] at hj
        split at hj
        · rename_i z; exact Or.inl z
        · split at hj
          · rcases hj with z | z <;> cases z
          · split at hj
            · rename_i z; exact Or.inr z
            · rcases hj with z | z <;> cases z
      rw [List.map_cons]
      rcases hj2 with hj2 | hj2
      · obtain ⟨t, e3, e4⟩ := (hSt.1 j hj2).2
        rw [show qtr base cv (.retAddr j) = .ref t from e3]
        exact va_tlen hx hb e4 hS rfl hd kk2
      · obtain ⟨q, v, e3, e4, e5, e6, e7, e8, e9⟩ := hSt.2.1 (j - 30) (by omega)
        rw [show 30 + (j - 30) = j by omega] at e4 e9
        rw [show qtr base cv (.retAddr j) = .ref v from e4]
        exact va_tlen hx hb e9 hS rfl hd kk2
    · cases h
  · cases h
theorem qs_objinit (C : qCtx p R s m args meth c base D ca cv o ini cc nL mc ms d) {j : Nat} (hq : qcpl o j = (17, 0)) (hd : decode cc (qbpc cd pc) = .ok (.invokespecial j, 3)) (hn : qbpc cd (pc + 1) = qbpc cd pc + 3) (hk : ∀ pc L S μ, k pc L S μ = some r → qGo al p l e R s m args below meth c Q base D ca cv cd nL rc rs mc ms pc L S μ) (h : qop al cf (.pop2) pc L S μ k = some r) : qGo al p l e R s m args below meth c Q base D ca cv cd nL rc rs mc ms pc L S μ := by
  obtain ⟨hx, hb, hml, hown, hts, hK, hSt, hbs, hcv, hini, hd1, hfr, hlo, hmc, hms⟩ := C
  obtain ⟨hw, -, -⟩ := qcp_ok hq (by decide)
  have w1 := hts _ (hw (.methodLink (qown o) j Lib.objectInit) (by simp [qcw]))
  have w2 := hts _ (hw (.instanceMethod Lib.objectInit) (by simp [qcw]))
  have w3 := hts _ (hw (.code Lib.objectInit ⟨#[0xb1]⟩ 1 none) (by simp [qcw]))
  simp only [qop] at h
  split at h
  · rename_i a S1
    split at h
    · rename_i ha
      obtain ⟨ha1, ha2⟩ := ha
      obtain ⟨k1, hk1⟩ := Nat.exists_eq_succ_of_ne_zero (Nat.ne_of_gt ha1)
      subst hk1
      refine (hk _ _ _ _ h).same fun H locs cells slots ls hP hS hl hc hs kk => ?_
      have hcs := qcats_tr (base := base) hcv S1
      refine W.objInit hx hb hown w1 w2 w3 (g := F0 m (qbpc cd pc) ls (.ref (base + k1) :: S1.map (qtr base cv))) rfl (by rw [hml]; exact hl.1) rfl hd (by omega) (by show 2 * 0 + _ + 12 ≤ _; omega) ?_
      have kk2 := kk ls hl
      rw [hn] at kk2
      exact kk2
    · cases h
  · cases h
theorem qs_min (C : qCtx p R s m args meth c base D ca cv o ini cc nL mc ms d) {j : Nat} (hq : qcpl o j = (21, 0)) (hd : decode cc (qbpc cd pc) = .ok (.invokestatic j, 3)) (hn : qbpc cd (pc + 1) = qbpc cd pc + 3) (hk : ∀ pc L S μ, k pc L S μ = some r → qGo al p l e R s m args below meth c Q base D ca cv cd nL rc rs mc ms pc L S μ) (h : qop al cf (.fmul) pc L S μ k = some r) : qGo al p l e R s m args below meth c Q base D ca cv cd nL rc rs mc ms pc L S μ := by
  obtain ⟨hx, hb, hml, hown, hts, hK, hSt, hbs, hcv, hini, hd1, hfr, hlo, hmc, hms⟩ := C
  obtain ⟨hw, -, -⟩ := qcp_ok hq (by decide)
  have w1 := hts _ (hw (.methodLink (qown o) j Lib.Math.min.name) (by simp [qcw]))
  have w2 := hts _ (hw (.static Lib.Math.min.name) (by simp [qcw]))
  have w3 := hts _ (hw (.initialized "java/lang/Math") (by simp [qcw]))
  have w4 := hts _ (hw (.code Lib.Math.min.name Lib.Math.min.code 2 (some .int)) (by simp [qcw]))
  simp only [qop, q2] at h
  split at h
  · rename_i y x S1
    split at h
    · rename_i ha
      refine (hk _ _ _ _ h).same fun H locs cells slots ls hP hS hl hc hs kk => ?_
      have hcs := qcats_tr (base := base) hcv S1
      exact va_mmin hx hb (by rw [hml]; exact hl.1.symm) hown w1 w2 w3 w4 (by omega) (by omega) (by omega) (by omega) hd (by rw [← hn]; exact kk ls hl)
    · cases h
  · cases h
theorem qs_max (C : qCtx p R s m args meth c base D ca cv o ini cc nL mc ms d) {j : Nat} (hq : qcpl o j = (22, 0)) (hd : decode cc (qbpc cd pc) = .ok (.invokestatic j, 3)) (hn : qbpc cd (pc + 1) = qbpc cd pc + 3) (hk : ∀ pc L S μ, k pc L S μ = some r → qGo al p l e R s m args below meth c Q base D ca cv cd nL rc rs mc ms pc L S μ) (h : qop al cf (.fadd) pc L S μ k = some r) : qGo al p l e R s m args below meth c Q base D ca cv cd nL rc rs mc ms pc L S μ := by
  obtain ⟨hx, hb, hml, hown, hts, hK, hSt, hbs, hcv, hini, hd1, hfr, hlo, hmc, hms⟩ := C
  obtain ⟨hw, -, -⟩ := qcp_ok hq (by decide)
  have w1 := hts _ (hw (.methodLink (qown o) j Lib.Math.max.name) (by simp [qcw]))
  have w2 := hts _ (hw (.static Lib.Math.max.name) (by simp [qcw]))
  have w3 := hts _ (hw (.initialized "java/lang/Math") (by simp [qcw]))
  have w4 := hts _ (hw (.code Lib.Math.max.name Lib.Math.max.code 2 (some .int)) (by simp [qcw]))
  simp only [qop, q2] at h
  split at h
  · rename_i y x S1
    split at h
    · rename_i ha
      refine (hk _ _ _ _ h).same fun H locs cells slots ls hP hS hl hc hs kk => ?_
      have hcs := qcats_tr (base := base) hcv S1
      exact va_mmax hx hb (by rw [hml]; exact hl.1.symm) hown w1 w2 w3 w4 (by omega) (by omega) (by omega) (by omega) hd (by rw [← hn]; exact kk ls hl)
    · cases h
  · cases h
theorem qs_copy (C : qCtx p R s m args meth c base D ca cv o ini cc nL mc ms d) {j z1 z2 : Nat} (hq : qcpl o j = (18, 0)) (hd : decode cc (qbpc cd pc) = .ok (.invokestatic j, 3)) (hn : qbpc cd (pc + 1) = qbpc cd pc + 3) (hk : ∀ pc L S μ, k pc L S μ = some r → qGo al p l e R s m args below meth c Q base D ca cv cd nL rc rs mc ms pc L S μ) (h : qop al cf (.multianewarray z1 z2) pc L S μ k = some r) : qGo al p l e R s m args below meth c Q base D ca cv cd nL rc rs mc ms pc L S μ := by
  obtain ⟨hx, hb, hml, hown, hts, hK, hSt, hbs, hcv, hini, hd1, hfr, hlo, hmc, hms⟩ := C
  obtain ⟨hw, -, -⟩ := qcp_ok hq (by decide)
  have w1 := hts _ (hw (.methodLink (qown o) j arraycopyName) (by simp [qcw]))
  have w2 := hts _ (hw (.native arraycopyName) (by simp [qcw]))
  have w3 := hts _ (hw (.static arraycopyName) (by simp [qcw]))
  have w4 := hts _ (hw (.initialized "java/lang/System") (by simp [qcw]))
  simp only [qop] at h
  split at h
  · rename_i n dp a1 sp a0 S1
    split at h
    · rename_i ha
      obtain ⟨μ1, e1, e2⟩ := qbnd_some h
      obtain ⟨⟨⟨g1, g2⟩, ⟨g3, g4, g5⟩, g6, g7⟩, rfl⟩ := ite_some e1
      obtain ⟨k0, rfl, hk0⟩ := qk_at g1 (by decide)
      obtain ⟨k1, rfl, hk1⟩ := qk_at g2 (by decide)
      refine (hk _ _ _ _ e2).mem rfl rfl fun H locs cells slots ls hP hS hl hc hs kk => ?_
      have hcs := qcats_tr (base := base) hcv S1
      have he0 := qW_get (base := base) (ca := ca) (cv := cv) hk0
      rw [qE_int hk0 (by decide) (by decide) (by decide)] at he0
      have he1 := qW_get (base := base) (ca := ca) (cv := cv) hk1
      rw [qE_int hk1 (by decide) (by decide) (by decide)] at he1
      refine va_copyi (D := D) hx hb (by rw [hml]; exact hl.1.symm) hown w1 w2 w3 w4 hK hP (qD base ca cv μ) hS k0 k1 0 0 (ty := .int) he0 he1 rfl rfl rfl g3 g4 g5 g6 g7 (fun i hi => rfl) (by omega) (by rw [show nativeFrameWords "java/lang/System" "arraycopy" 5 = 7 by decide +kernel]; omega) hd (fun H1 locs1 hP1 hD1 hS1 => ?_)
      rw [qW_set (base := base) (ca := ca) (cv := cv) (μ := μ) (k := k1) (μ' := qcpy μ (k0 + 1) sp.toNatClampNeg (k1 + 1) dp.toNatClampNeg n.toNatClampNeg) rfl ?_ (fun i' hi' => qE_C (by omega))] at hP1
      · rw [← hn]
        exact kk H1 locs1 ls hP1 hS1 (fun hal => by rw [ha.1] at hal; cases hal) hl
      · rw [qE_int (μ := qcpy μ (k0 + 1) sp.toNatClampNeg (k1 + 1) dp.toNatClampNeg n.toNatClampNeg) (c := 20) hk1 (by decide) (by decide) (by decide)]
        congr 4
        funext q
        simp [qI, qcpy, va_cpy]
    · cases h
  · cases h
end QTHR
end
section
/-! SOUNDNESS, FOURTH PART: calls, ends, new objects; all instructions; blocks and methods -/
/-- the receiver is of the method's class -/
def qrecv (M : Nat) (as : List Value) (μ : qM) : Prop := (qm M).2.1 = true ∨ match as with
  | .ref a :: _ => (qm M).1 < 9 ∧ (qk μ a).1 = (qm M).1
  | .retAddr j :: _ => (qm M).1 = 10 ∧ qtk j = 2
  | _ => False
def qQ (al : Bool) (base : Nat) (D : va_G) (ca : Nat → ClassId) (cv : Nat → Value) (ret : Option FieldType) (r : qR) : Array Value → State → Outcome → State → Prop := match ret with
  | none => va_Qv (S := Unit) (fun _ => True) (fun _ t => qRep al base D ca cv r.2.2 t) (qA base)
  | some .long => va_Ql (S := Unit) (fun x _ => x = r.2.1) (fun _ t => qRep al base D ca cv r.2.2 t) (qA base)
  | some _ => va_Qi (S := Unit) (fun x _ => x = r.1) (fun _ t => qRep al base D ca cv r.2.2 t) (qA base)
abbrev qmw (M : Nat) : List Cond := .code (qmy M) (qm M).2.2.2.1 (qm M).2.2.2.2.1 (qm M).2.2.2.2.2.1 :: qG
def qrm (d mc ms : Nat) : Room := { frames := d, cells := mc, slots := ms, locals := 40 * d }
def qargn (M : Nat) (as : List Value) : Prop := (parseMethodDescriptor (qmy M).desc).map (fun d => d.parameters.length) = some (if (qm M).2.1 = true then as.length else as.length - 1)
/-- the method M, called at depth d with these values in this memory, answers r -/
def qGood (al : Bool) (base : Nat) (D : va_G) (ca : Nat → ClassId) (cv : Nat → Value) (d M : Nat) (as : List Value) (μ : qM) (r : qR) : Prop :=
  (μ.2.2.2.2.1 ≤ r.2.2.2.2.2.2.1 ∧ μ.2.2.2.2.2 ≤ r.2.2.2.2.2.2.2) ∧ qrecv M as μ ∧ qargn M as ∧ ∃ d', d' ≤ d ∧ ∀ l : Launch, Met l (qmy M) (qmw M) (qrm d' (r.2.2.2.2.2.2.1 - μ.2.2.2.2.1) (r.2.2.2.2.2.2.2 - μ.2.2.2.2.2)) (va_Pc (as.map (qtr base cv)) (qRep al base D ca cv μ)) (qQ al base D ca cv (qm M).2.2.2.2.2.1 r) (r.2.2.2.2.2.2.1 - μ.2.2.2.2.1) (r.2.2.2.2.2.2.2 - μ.2.2.2.2.2) (qA base)
theorem qGood.mono {al : Bool} {base : Nat} {D : va_G} {ca : Nat → ClassId} {cv : Nat → Value} {d d2 M : Nat} {as : List Value} {μ : qM} {r : qR} (h : qGood al base D ca cv d M as μ r) (hd : d ≤ d2) : qGood al base D ca cv d2 M as μ r := by
  obtain ⟨h1, h2, h3, d', h4, h5⟩ := h
  exact ⟨h1, h2, h3, d', Nat.le_trans h4 hd, h5⟩
theorem qblind {al : Bool} {base : Nat} {D : va_G} {ca : Nat → ClassId} {cv : Nat → Value} {as : List Value} {μ : qM} : FrameBlind (va_Pc as (qRep al base D ca cv μ)) := by
  intro a U g mk h
  obtain ⟨h1, h2, h3, h4, h5, h6⟩ := h
  exact ⟨h1, h2, va_K.moved (u := U) (U := U.calling g mk a) (Vm.Alike.refl U.vm) h3, qSt.same (u := U) (U := U.calling g mk a) rfl h4, h5, h6⟩
section QFOUR
variable {p : Program} {l : Launch} {e : Env} {R : Room} {s : State} {m : MethodId} {args : Array Value} {below : List Frame} {meth : Method} {c : Code} {Q : State → Prop}
variable {al : Bool} {base : Nat} {D : va_G} {ca : Nat → ClassId} {cv : Nat → Value} {o : Nat} {cc : ByteArray} {cd : qC} {nL rc rs mc ms : Nat}
variable {d : Nat} {ini : Bool} {k : qK} {cf : qF} {r : qR} {pc : Nat} {L S : List Value} {μ : qM}
theorem qrep_of (hK : va_K D vwCl (qtys ca) s) (hSt : qSt base cv s s.heap) (hbs : base ≤ s.heap.size) {H : Heap} {locs : List Loc} (hP : va_P D vwCl (qW base ca cv μ) H) (hS : va_S (qA base) s.heap H locs) (hz : al = true → H.size = base + μ.1.length) {U : State} (hU : U.heap = H) (hW : s.WarmedH U.vm) : qRep al base D ca cv μ U := by
  refine ⟨by rw [hU]; exact hP, va_K.moved hW.alike hK, ?_, by rw [hU]; exact Nat.le_trans hbs hS.1, by rw [hU]; exact hz⟩
  rw [hU]
  exact qSt.moved hW (qSt.kept hS.2.1 hSt)
theorem qmw_in {M : Nat} (h : qMOK M) : ∀ w ∈ qmw M, w ∈ qG := List.forall_mem_cons.mpr ⟨h.1, fun w h => h⟩
/-- what a call does, by what kind it is -/
theorem qs_run (C : qCtx p R s m args meth c base D ca cv o ini cc nL mc ms d) {M n tag j : Nat} {di : Instr} {as : List Value} {rest : List Value} {r1 : qR} (hM : M = n / 100) (htag : (tag = 11 ∨ tag = 14) ∧ di = .invokevirtual j ∨ (tag = 12 ∨ tag = 15) ∧ di = .invokestatic j ∨ (tag = 13 ∨ tag = 16) ∧ di = .invokespecial j) (hq : qcpl o j = (tag, (n : Int)))
    (hd : decode cc (qbpc cd pc) = .ok (di, 3)) {d0 : Nat} (hd0 : d0 + 1 ≤ d) (hg : qGood al base D ca cv d0 M as μ r1) (hcat : (rest.map fun v => v.category).sum ≤ 8)
    {H : Heap} {locs : List Loc} {cells slots : Nat} {ls : Array Slot} (hP : va_P D vwCl (qW base ca cv μ) H) (hS : va_S (qA base) s.heap H locs) (hz : al = true → H.size = base + μ.1.length) (hl : qLs base cv ls nL L) (hc1 : cells + (r1.2.2.2.2.2.2.1 - μ.2.2.2.2.1) ≤ mc) (hs1 : slots + (r1.2.2.2.2.2.2.2 - μ.2.2.2.2.2) ≤ ms) :
    va_Run p l e R s m args below meth c H locs cells slots (r1.2.2.2.2.2.2.1 - μ.2.2.2.2.1) (r1.2.2.2.2.2.2.2 - μ.2.2.2.2.2) (F0 m (qbpc cd pc) ls ((as.map (qtr base cv)).reverse ++ rest)) rest (qQ al base D ca cv (qm M).2.2.2.2.2.1 r1 (as.map (qtr base cv)).toArray) (qA base) := by
  subst hM
  obtain ⟨hx, hb, hml, hown, hts, hK, hSt, hbs, hcv, hini, hd1, hfr, hlo, hmc, hms⟩ := C
  obtain ⟨hcs, hrv, hag, d', hd', hMet⟩ := hg
  obtain ⟨hw, hnw, hcb⟩ := qcp_ok hq (by rcases htag with ⟨z | z, -⟩ | ⟨z | z, -⟩ | ⟨z | z, -⟩ <;> omega)
  have hPc : ∀ U : State, U.heap = H → s.WarmedH U.vm → va_Pc (as.map (qtr base cv)) (qRep al base D ca cv μ) (as.map (qtr base cv)).toArray U := fun U hU hW => ⟨rfl, qrep_of hK hSt hbs hP hS hz hU hW⟩
  have hfix : CallFix p m c cc nL s args qG (qown o) := ⟨hx, hb, hml, hown, hts⟩
  have hsigof : ∀ st, qsig st n = true → (parseMethodDescriptor (qmy (n / 100)).desc).map (fun d => d.parameters.length) = some (if st = true then as.length else as.length - 1) ∧ (qm (n / 100)).2.1 = st ∧ (qm (n / 100)).2.2.2.2.1 ≤ 21 ∧ n / 100 < 279 := by
    intro st h
    simp only [qsig, Bool.and_eq_true, decide_eq_true_eq] at h
    obtain ⟨⟨⟨⟨⟨h1, h2⟩, h3⟩, h4⟩, h5⟩, h6⟩ := h
    refine ⟨?_, h3, h5, h6⟩
    unfold qargn at hag
    rw [h3] at hag
    exact hag
  -- static and special calls, calls of an instance
  have hlo2 : 8 + (21 + 11) + 40 * d' ≤ R.locals := by omega
  have room : ∀ nl : Nat, nl ≤ 21 → (qrm d' (r1.2.2.2.2.2.2.1 - μ.2.2.2.2.1) (r1.2.2.2.2.2.2.2 - μ.2.2.2.2.2)).frames + 1 ≤ R.frames ∧ 8 + (nl + 11) + (qrm d' (r1.2.2.2.2.2.2.1 - μ.2.2.2.2.1) (r1.2.2.2.2.2.2.2 - μ.2.2.2.2.2)).locals ≤ R.locals := by
    intro nl hnl
    show d' + 1 ≤ R.frames ∧ 8 + (nl + 11) + 40 * d' ≤ R.locals
    omega
  have hf : cells + (r1.2.2.2.2.2.2.1 - μ.2.2.2.2.1) ≤ R.cells ∧ slots + (r1.2.2.2.2.2.2.2 - μ.2.2.2.2.2) ≤ R.slots := ⟨by omega, by omega⟩
  have hW8 : 2 * (F0 m (qbpc cd pc) ls ((as.map (qtr base cv)).reverse ++ rest)).monitorRoom + (rest.map fun v => v.category).sum ≤ 8 := by show 2 * 0 + _ ≤ 8; omega
  rcases htag with ⟨htag, rfl⟩ | ⟨htag, rfl⟩ | ⟨htag, rfl⟩
  · -- an instance
    have hcb2 : qsig false n = true ∧ (qmy (n / 100)).cls = (if (qm (n / 100)).1 < 9 then (qcl (qm (n / 100)).1).1 else "java/lang/String") ∧ ((qm (n / 100)).1 < 9 ∨ (qm (n / 100)).1 = 10) := by
      rcases htag with rfl | rfl <;> (simp only [qcb, Int.toNat_natCast, Bool.and_eq_true, decide_eq_true_eq] at hcb; exact ⟨hcb.2.1.1, hcb.2.1.2, hcb.2.2⟩)
    obtain ⟨hsg, hcls, ho⟩ := hcb2
    obtain ⟨hnp, hst, hnl, hMlt⟩ := hsigof false hsg
    simp only [Bool.false_eq_true, if_false] at hnp
    have hmok := qm_ok hMlt
    -- the receiver
    have hrec : ∃ b as', as.map (qtr base cv) = .ref b :: as' ∧ as'.length = as.length - 1 ∧ ∃ cellB : Cell, H[b]? = some cellB ∧ cellB.vm.isStatics = false ∧ s.vm.findClass (qmy (n / 100)).cls = some cellB.cls := by
      rcases hrv with z | z
      · rw [hst] at z; cases z
      · cases as with
        | nil => exact z.elim
        | cons v as =>
          cases v with
          | ref a =>
            obtain ⟨z1, z2⟩ := z
            obtain ⟨k1, rfl, hk1⟩ := qk_at z2 (by omega)
            have he := qW_get (base := base) (ca := ca) (cv := cv) hk1
            rw [qE_obj hk1 (by omega)] at he
            refine ⟨base + k1, as.map (qtr base cv), rfl, by simp, ?_⟩
            rw [hcls, if_pos z1]
            exact va_recv hK hP (qin_cl _ z1).1 he
          | retAddr jj =>
            obtain ⟨z1, z2⟩ := z
            have hk3 : 10 ≤ jj ∧ jj < 23 := by
              simp only [qtk] at z2
              split at z2
              · cases z2
              · split at z2
                · rename_i z; exact z
                · split at z2 <;> cases z2
            obtain ⟨q, v, e1, e2, e3, e4, e5⟩ := hSt.2.1 (jj - 10) (by omega)
            rw [show 10 + (jj - 10) = jj by omega] at e1
            obtain ⟨cell, f1, f2, f3, -⟩ := e4.kept hS.2.1
            refine ⟨q, as.map (qtr base cv), by rw [List.map_cons, show qtr base cv (.retAddr jj) = .ref q from e1], by simp, cell, f1, f2, ?_⟩
            rw [hcls, if_neg (by omega)]
            exact f3
          | _ => exact z.elim
    obtain ⟨b, as', has, hlen, hcell⟩ := hrec
    rw [has] at hPc hMet ⊢
    have hstk : ((Value.ref b :: as').reverse ++ rest) = as'.reverse ++ Value.ref b :: rest := by simp
    have hp : PreV s H (qmy (n / 100)).cls b (va_Pc (Value.ref b :: as') (qRep al base D ca cv μ)) as' := ⟨qblind, hcell, hPc⟩
    rcases htag with rfl | rfl
    · have hT : GoodIn qG (wsV (qown o) j (qmy (n / 100)).cls (qmy (n / 100)) (qmw (n / 100))) := qG_sub _ (fun w hw2 => by
        unfold wsV at hw2
        rcases List.mem_append.mp hw2 with z | z
        · exact hw w z
        · exact qmw_in hmok w z)
      exact va_runV hfix (hMet l) (cwV (as.length - 1) hts hT rfl rfl rfl ⟨rfl, hmok.2.2.2.1.1, hmok.2.2.2.1.2, hnp⟩ (room _ hnl)) hp rfl hlen hl.1 hstk hW8 hd hf
    · have hT : GoodIn qG (qmw (n / 100)) := qG_sub _ (qmw_in hmok)
      have hn1 := hSt.2.2.2.2.2.1 _ (hnw (.methodLinkNest (qown o) j (qmy (n / 100)) "LockLadder") (by simp [qcnw]))
      exact va_runVN hfix (hMet l) ⟨va_cnB (as.length - 1) hts hT rfl rfl rfl hn1 (hts _ hmok.2.1) ⟨hmok.2.2.2.1.1, hmok.2.2.2.1.2, hnp⟩ (room _ hnl), hts _ (hw _ (by simp only [qcw]; exact List.mem_cons_self)), hts _ (hw _ (by simp only [qcw]; exact List.mem_cons_of_mem _ List.mem_cons_self))⟩ hp rfl hlen hl.1 hstk hW8 hd hf
  · -- static
    have hcb2 : qsig true n = true := by
      rcases htag with rfl | rfl <;> (simp only [qcb, Bool.and_eq_true] at hcb; exact hcb.2)
    obtain ⟨hnp, hst, hnl, hMlt⟩ := hsigof true hcb2
    simp only [if_true] at hnp
    have hmok := qm_ok hMlt
    have hp : PreS s H (va_Pc (as.map (qtr base cv)) (qRep al base D ca cv μ)) (as.map (qtr base cv)) := ⟨qblind, hPc⟩
    rcases htag with rfl | rfl
    · have hT : GoodIn qG (va_wsS (qown o) j (qmy (n / 100)) (qmw (n / 100))) := qG_sub _ (fun w hw2 => by
        unfold va_wsS at hw2
        rcases List.mem_append.mp hw2 with z | z
        · exact hw w z
        · exact qmw_in hmok w z)
      exact va_runS hfix (hMet l) (va_cwS as.length hts hT rfl rfl rfl ⟨hmok.2.2.2.1.1, hmok.2.2.2.1.2, hnp⟩ (room _ hnl)) hp rfl (by simp) hl.1 rfl hW8 hd hf
    · have hT : GoodIn qG (qmw (n / 100)) := qG_sub _ (qmw_in hmok)
      have hn1 := hSt.2.2.2.2.2.1 _ (hnw (.methodLinkNest (qown o) j (qmy (n / 100)) "LockLadder") (by simp [qcnw]))
      exact va_runSN hfix (hMet l) ⟨va_cnB as.length hts hT rfl rfl rfl hn1 (hts _ hmok.2.1) ⟨hmok.2.2.2.1.1, hmok.2.2.2.1.2, hnp⟩ (room _ hnl), hts _ (hw _ (by simp only [qcw]; exact List.mem_cons_self)), trivial⟩ hp rfl (by simp) hl.1 rfl hW8 hd hf
  · -- a constructor
    have hcb2 : qsig false n = true ∧ (qmy (n / 100)).name = "<init>" ∧ (qm (n / 100)).2.2.2.2.2.1 = none := by
      rcases htag with rfl | rfl <;> (simp only [qcb, Bool.and_eq_true, decide_eq_true_eq] at hcb; exact ⟨hcb.2.1, hcb.2.2.1, hcb.2.2.2⟩)
    obtain ⟨hsg, hnm, hret⟩ := hcb2
    obtain ⟨hnp, hst, hnl, hMlt⟩ := hsigof false hsg
    simp only [Bool.false_eq_true, if_false] at hnp
    have hmok := qm_ok hMlt
    have hrec : ∃ b as', as.map (qtr base cv) = .ref b :: as' ∧ as'.length = as.length - 1 := by
      rcases hrv with z | z
      · rw [hst] at z; cases z
      · cases as with
        | nil => exact z.elim
        | cons v as =>
          cases v with
          | ref a =>
            obtain ⟨z1, z2⟩ := z
            obtain ⟨k1, rfl, hk1⟩ := qk_at z2 (by omega)
            exact ⟨base + k1, as.map (qtr base cv), rfl, by simp⟩
          | retAddr jj =>
            obtain ⟨z1, z2⟩ := z
            have hk3 : 10 ≤ jj ∧ jj < 23 := by
              simp only [qtk] at z2
              split at z2
              · cases z2
              · split at z2
                · rename_i z; exact z
                · split at z2 <;> cases z2
            obtain ⟨q, v, e1, -⟩ := hSt.2.1 (jj - 10) (by omega)
            rw [show 10 + (jj - 10) = jj by omega] at e1
            exact ⟨q, as.map (qtr base cv), by rw [List.map_cons, show qtr base cv (.retAddr jj) = .ref q from e1], by simp⟩
          | _ => exact z.elim
    obtain ⟨b, as', has, hlen⟩ := hrec
    rw [has] at hPc hMet ⊢
    have hstk : ((Value.ref b :: as').reverse ++ rest) = as'.reverse ++ Value.ref b :: rest := by simp
    have hp : PreS s H (va_Pc (Value.ref b :: as') (qRep al base D ca cv μ)) (Value.ref b :: as') := ⟨qblind, hPc⟩
    have hM2 := hMet l
    have hqm : qmw (n / 100) = .code (qmy (n / 100)) (qm (n / 100)).2.2.2.1 (qm (n / 100)).2.2.2.2.1 none :: qG := by simp only [qmw, hret]
    have hT : GoodIn qG (qmw (n / 100)) := qG_sub _ (qmw_in hmok)
    rcases htag with rfl | rfl
    · exact va_runI hfix hM2 (cwI (as.length - 1) hts hT hqm rfl rfl (hts _ hmok.2.1) (hts _ (hw _ (by simp only [qcw]; exact List.mem_cons_self))) (hts _ (hw _ (by simp only [qcw]; exact List.mem_cons_of_mem _ List.mem_cons_self))) hnm ⟨hmok.2.2.2.1.1, hmok.2.2.2.1.2, hnp⟩ (room _ hnl)) hp rfl hlen hl.1 hstk hW8 hd hf
    · have hn1 := hSt.2.2.2.2.2.1 _ (hnw (.methodLinkNest (qown o) j (qmy (n / 100)) "LockLadder") (by simp [qcnw]))
      exact va_runIN hfix hM2 ⟨va_cnB (as.length - 1) hts hT hqm rfl rfl hn1 (hts _ hmok.2.1) ⟨hmok.2.2.2.1.1, hmok.2.2.2.1.2, hnp⟩ (room _ hnl), hnm, hts _ (hw _ (by simp only [qcw]; exact List.mem_cons_self))⟩ hp rfl hlen hl.1 hstk hW8 hd hf
theorem qs_call (C : qCtx p R s m args meth c base D ca cv o ini cc nL mc ms d) {n tag j : Nat} {di : Instr} (htag : (tag = 11 ∨ tag = 14) ∧ di = .invokevirtual j ∨ (tag = 12 ∨ tag = 15) ∧ di = .invokestatic j ∨ (tag = 13 ∨ tag = 16) ∧ di = .invokespecial j) (hq : qcpl o j = (tag, (n : Int)))
    (hd : decode cc (qbpc cd pc) = .ok (di, 3)) (hn : qbpc cd (pc + 1) = qbpc cd pc + 3) {d0 : Nat} (hd0 : d0 + 1 ≤ d) (hcf : ∀ M as μ r1, cf M as μ = some r1 → qGood al base D ca cv d0 M as μ r1)
    (hk : ∀ pc L S μ, k pc L S μ = some r → qGo al p l e R s m args below meth c Q base D ca cv cd nL rc rs mc ms pc L S μ) (h : qop al cf (.invokestatic n) pc L S μ k = some r) : qGo al p l e R s m args below meth c Q base D ca cv cd nL rc rs mc ms pc L S μ := by
  simp only [qop, qcall] at h
  split at h
  · rename_i hcat
    obtain ⟨r1, e1, e2⟩ := qbnd_some h
    have hg := hcf _ _ _ _ e1
    have hcv := C.2.2.2.2.2.2.2.2.1
    have hcat2 := Nat.le_trans (qcats_tr (base := base) hcv (S.drop (n % 100 / 10))) hcat
    have hstk : ((((S.take (n % 100 / 10)).reverse).map (qtr base cv)).reverse ++ (S.drop (n % 100 / 10)).map (qtr base cv)) = S.map (qtr base cv) := by
      rw [← List.map_reverse, List.reverse_reverse, ← List.map_append, List.take_append_drop]
    have hmcR := C.2.2.2.2.2.2.2.2.2.2.2.2.2
    -- by what it answers
    have hret : (n % 10 = 0 ∧ (qm (n / 100)).2.2.2.2.2.1 = none) ∨ (n % 10 = 2 ∧ (qm (n / 100)).2.2.2.2.2.1 = some .long) ∨ (n % 10 = 1 ∧ ∃ ty, (qm (n / 100)).2.2.2.2.2.1 = some ty ∧ ty ≠ .long) := by
      obtain ⟨-, -, hcb⟩ := qcp_ok hq (by rcases htag with ⟨z | z, -⟩ | ⟨z | z, -⟩ | ⟨z | z, -⟩ <;> omega)
      have hsg : ∃ st, qsig st n = true := by
        rcases htag with ⟨z | z, -⟩ | ⟨z | z, -⟩ | ⟨z | z, -⟩ <;> subst z <;> simp only [qcb, Int.toNat_natCast, Bool.and_eq_true] at hcb
        · exact ⟨_, hcb.2.1.1⟩
        · exact ⟨_, hcb.2.1.1⟩
        · exact ⟨_, hcb.2⟩
        · exact ⟨_, hcb.2⟩
        · exact ⟨_, hcb.2.1⟩
        · exact ⟨_, hcb.2.1⟩
      obtain ⟨st, hsg⟩ := hsg
      simp only [qsig, Bool.and_eq_true] at hsg
      have h4 := hsg.1.1.2
      split at h4
      · rename_i hr; exact Or.inl ⟨by simpa using h4, hr⟩
      · rename_i hr; exact Or.inr (Or.inl ⟨by simpa using h4, hr⟩)
      · rename_i ty hne hr; exact Or.inr (Or.inr ⟨by simpa using h4, ty, hr, fun z => hne z⟩)
    have hgo : ∀ S1, k (pc + 1) L S1 r1.2.2 = some r → ((r1.2.2.2.2.2.2.1 ≤ rc ∧ r1.2.2.2.2.2.2.2 ≤ rs) ∧ ∀ (H1 : Heap) (locs1 : List Loc) (cells slots : Nat) (ls : Array Slot), va_P D vwCl (qW base ca cv r1.2.2) H1 → va_S (qA base) s.heap H1 locs1 → (al = true → H1.size = base + r1.2.2.1.length) → qLs base cv ls nL L → cells + (rc - r1.2.2.2.2.2.2.1) = mc → slots + (rs - r1.2.2.2.2.2.2.2) = ms → W p l e R s m args below meth c H1 locs1 cells slots Q (F0 m (qbpc cd pc + 3) ls (S1.map (qtr base cv)))) := by
      intro S1 h1
      have := hk _ _ _ _ h1
      rw [qGo, hn] at this
      exact this
    obtain ⟨⟨g1, g2⟩, -⟩ := id hg
    rcases hret with ⟨hr, hrt⟩ | ⟨hr, hrt⟩ | ⟨hr, ty, hrt, hty⟩
    · rw [hr] at e2
      obtain ⟨⟨b1, b2⟩, hgo⟩ := hgo _ e2
      refine ⟨⟨by omega, by omega⟩, fun H locs cells slots ls hP hS hz hl q1 q2 => ?_⟩
      have hrun := qs_run (l := l) (e := e) (below := below) C rfl htag hq hd hd0 hg hcat2 hP hS hz hl (cells := cells) (slots := slots) (by omega) (by omega)
      rw [hstk, hrt] at hrun
      have hrun2 : va_Run p l e R s m args below meth c H locs cells slots (r1.2.2.2.2.2.2.1 - μ.2.2.2.2.1) (r1.2.2.2.2.2.2.2 - μ.2.2.2.2.2) (F0 m (qbpc cd pc) ls (S.map (qtr base cv))) ((S.drop (n % 100 / 10)).map (qtr base cv)) (va_Qv (S := Unit) (fun _ => True) (fun _ t => qRep al base D ca cv r1.2.2 t) (qA base) (((S.take (n % 100 / 10)).reverse).map (qtr base cv)).toArray) (qA base) := hrun
      exact va_callv hrun2 hS (fun q _ h => h) (fun q h => h) (fun u t H1 locs1 ht hvm hpo hB hz1 hk1 hS1 => hgo H1 locs1 _ _ ls (by rw [← ht]; exact hB.1) hS1 (fun ha => by rw [← ht]; exact hB.2.2.2.2 ha) hl (by omega) (by omega))
    · rw [hr] at e2
      obtain ⟨⟨b1, b2⟩, hgo⟩ := hgo _ e2
      refine ⟨⟨by omega, by omega⟩, fun H locs cells slots ls hP hS hz hl q1 q2 => ?_⟩
      have hrun := qs_run (l := l) (e := e) (below := below) C rfl htag hq hd hd0 hg hcat2 hP hS hz hl (cells := cells) (slots := slots) (by omega) (by omega)
      rw [hstk, hrt] at hrun
      have hrun2 : va_Run p l e R s m args below meth c H locs cells slots (r1.2.2.2.2.2.2.1 - μ.2.2.2.2.1) (r1.2.2.2.2.2.2.2 - μ.2.2.2.2.2) (F0 m (qbpc cd pc) ls (S.map (qtr base cv))) ((S.drop (n % 100 / 10)).map (qtr base cv)) (va_Ql (S := Unit) (fun x _ => x = r1.2.1) (fun _ t => qRep al base D ca cv r1.2.2 t) (qA base) (((S.take (n % 100 / 10)).reverse).map (qtr base cv)).toArray) (qA base) := hrun
      exact va_calll hrun2 hS (fun q _ h => h) (fun q h => h) (fun rr u t H1 locs1 ht hvm hpo hB hz1 hk1 hS1 => by subst hpo; exact hgo H1 locs1 _ _ ls (by rw [← ht]; exact hB.1) hS1 (fun ha => by rw [← ht]; exact hB.2.2.2.2 ha) hl (by omega) (by omega))
    · rw [hr] at e2
      obtain ⟨⟨b1, b2⟩, hgo⟩ := hgo _ e2
      refine ⟨⟨by omega, by omega⟩, fun H locs cells slots ls hP hS hz hl q1 q2 => ?_⟩
      have hrun := qs_run (l := l) (e := e) (below := below) C rfl htag hq hd hd0 hg hcat2 hP hS hz hl (cells := cells) (slots := slots) (by omega) (by omega)
      rw [hstk, hrt] at hrun
      have hrun2 : va_Run p l e R s m args below meth c H locs cells slots (r1.2.2.2.2.2.2.1 - μ.2.2.2.2.1) (r1.2.2.2.2.2.2.2 - μ.2.2.2.2.2) (F0 m (qbpc cd pc) ls (S.map (qtr base cv))) ((S.drop (n % 100 / 10)).map (qtr base cv)) (va_Qi (S := Unit) (fun x _ => x = r1.1) (fun _ t => qRep al base D ca cv r1.2.2 t) (qA base) (((S.take (n % 100 / 10)).reverse).map (qtr base cv)).toArray) (qA base) := by
        cases ty with
        | long => exact absurd rfl hty
        | _ => exact hrun
      exact va_calli hrun2 hS (fun q _ h => h) (fun q h => h) (fun rr u t H1 locs1 ht hvm hpo hB hz1 hk1 hS1 => by subst hpo; exact hgo H1 locs1 _ _ ls (by rw [← ht]; exact hB.1) hS1 (fun ha => by rw [← ht]; exact hB.2.2.2.2 ha) hl (by omega) (by omega))
  · cases h
end QFOUR
end
section
/-! SOUNDNESS, FIFTH PART: new objects, ends, all instructions, blocks, methods -/
section QFIVE
variable {p : Program} {l : Launch} {e : Env} {R : Room} {s : State} {m : MethodId} {args : Array Value} {below : List Frame} {meth : Method} {c : Code} {Q : State → Prop}
variable {al : Bool} {base : Nat} {D : va_G} {ca : Nat → ClassId} {cv : Nat → Value} {o : Nat} {cc : ByteArray} {cd : qC} {nL rc rs mc ms : Nat}
variable {d : Nat} {ini : Bool} {k : qK} {cf : qF} {r : qR} {pc : Nat} {L S : List Value} {μ : qM}
theorem qnth_app {α : Type} {l : List α} {a : α} {i : Nat} (h : i < l.length) : qnth (l ++ [a]) i = qnth l i := by
  rw [qnth_eq, qnth_eq, List.getElem?_append_left h]
theorem qnth_last {α : Type} {l : List α} {a : α} : qnth (l ++ [a]) l.length = some a := by
  rw [qnth_eq]; simp
/-- the world grows -/
theorem qW_new {e1 : va_E} {kc kn : Nat} (he : qE base ca cv (qnew μ kc kn) μ.1.length = e1) (hold : ∀ i, i < μ.1.length → qE base ca cv (qnew μ kc kn) i = qE base ca cv μ i) : qW base ca cv (qnew μ kc kn) = qW base ca cv μ ++ [(base + μ.1.length, e1)] := by
  apply List.ext_getElem?
  intro i
  by_cases hi : i < μ.1.length
  · rw [List.getElem?_append_left (by simp [qW, hi])]
    simp only [qW, List.getElem?_map]
    rw [List.getElem?_range (by show i < (μ.1 ++ [(kc, kn)]).length; simp; omega), List.getElem?_range hi]
    simp only [Option.map_some]
    rw [hold i hi]
  · rw [List.getElem?_append_right (by simp [qW]; omega)]
    by_cases h2 : i = μ.1.length
    · subst h2
      simp only [qW, List.getElem?_map]
      rw [List.getElem?_range (by show μ.1.length < (μ.1 ++ [(kc, kn)]).length; simp)]
      simp [he]
    · have h3 : (μ.1 ++ [(kc, kn)]).length ≤ i := by simp; omega
      have h4 : ¬ i < (qnew μ kc kn).1.length := Nat.not_lt.mpr h3
      have h5 : ¬ i - (qW base ca cv μ).length < 1 := by simp [qW]; omega
      rw [List.getElem?_eq_none (by simp [qW]; exact h3), List.getElem?_eq_none (by simp; omega)]
theorem qE_new_old {kc kn i : Nat} (hi : i < μ.1.length) : qE base ca cv (qnew μ kc kn) i = qE base ca cv μ i := by
  have h1 : qnth (qnew μ kc kn).1 i = qnth μ.1 i := qnth_app hi
  have hne : ¬ i + 1 = μ.1.length + 1 := by omega
  have hI : qI (qnew μ kc kn) (i + 1) = qI μ (i + 1) := funext fun j => by simp [qI, qnew]; omega
  have hL : qL (qnew μ kc kn) (i + 1) = qL μ (i + 1) := funext fun j => by simp [qL, qnew]; omega
  have hPp : qP (qnew μ kc kn) (i + 1) = qP μ (i + 1) := funext fun j => by simp [qP, qnew]; omega
  have hs : qslot base cv (qnew μ kc kn) i = qslot base cv μ i := by
    funext c j
    simp only [qslot, hI, hPp]
  unfold qE
  rw [h1, hI, hL, hPp, hs]
theorem qI_new {kc kn : Nat} : qI (qnew μ kc kn) (μ.1.length + 1) = fun _ => 0 := funext fun j => by simp [qI, qnew]
theorem qL_new {kc kn : Nat} : qL (qnew μ kc kn) (μ.1.length + 1) = fun _ => 0 := funext fun j => by simp [qL, qnew]
theorem qP_new {kc kn : Nat} : qP (qnew μ kc kn) (μ.1.length + 1) = fun _ => 0 := funext fun j => by simp [qP, qnew]
theorem qdefault : ∀ c, c < 9 → ∀ j, j < qfn c → defaultValue (qtyF c j) = (if qfty c j = 2 then .null else .int 0) := by
  intro c hc j hj
  rcases qtys_ok c hc j hj with ⟨h1, h2⟩ | ⟨h1, h2⟩ | ⟨h1, ⟨n, h2⟩ | ⟨n, h2⟩⟩ <;> rw [h1, h2] <;> rfl
theorem qs_new (C : qCtx p R s m args meth c base D ca cv o ini cc nL mc ms d) {j n : Nat} (hq : qcpl o j = (9, (n : Int))) (hd : decode cc (qbpc cd pc) = .ok (.new j, 3)) (hn : qbpc cd (pc + 1) = qbpc cd pc + 3) (hk : ∀ pc L S μ, k pc L S μ = some r → qGo al p l e R s m args below meth c Q base D ca cv cd nL rc rs mc ms pc L S μ) (h : qop al cf (.new n) pc L S μ k = some r) : qGo al p l e R s m args below meth c Q base D ca cv cd nL rc rs mc ms pc L S μ := by
  obtain ⟨hx, hb, hml, hown, hts, hK, hSt, hbs, hcv, hini, hd1, hfr, hlo, hmc, hms⟩ := C
  obtain ⟨hw, -, hcb⟩ := qcp_ok hq (by decide)
  simp only [qcb, Int.toNat_natCast, Bool.and_eq_true, decide_eq_true_eq] at hcb
  obtain ⟨-, hc9, hnn⟩ := hcb
  have w1 := hts _ (hw (.classLink (qown o) j (qcl (n / 100)).1) (by simp [qcw]))
  have w2 := hts _ (hw (.instantiable (qcl (n / 100)).1 (n % 100)) (by simp [qcw]))
  have w3 := hts _ (hw (.initialized (qcl (n / 100)).1) (by simp [qcw]))
  obtain ⟨hcl, hin, htyF, hnm, hfn⟩ := qin_cl _ hc9
  rw [hnn, hfn] at w2
  simp only [qop] at h
  obtain ⟨r0, e1, e2⟩ := qbnd_some h
  obtain ⟨hal, rfl⟩ := ite_some e1
  simp only at e2
  have hgo := hk _ _ _ _ e2
  obtain ⟨⟨b1, b2⟩, hgo⟩ := hgo
  have c1 : (qnew μ (n / 100) (n % 100)).2.2.2.2.1 = μ.2.2.2.2.1 + 1 := rfl
  have c2 : (qnew μ (n / 100) (n % 100)).2.2.2.2.2 = μ.2.2.2.2.2 + n % 100 := rfl
  rw [c1] at b1 hgo
  rw [c2] at b2 hgo
  refine ⟨⟨by omega, by omega⟩, fun H locs cells slots ls hP hS hz hl q1 q2 => ?_⟩
  have hKn := hK.1 (n / 100) _ hcl
  have hzz := hz hal
  refine W.newcK hx hb hown w1 w2 w3 rfl hd (by omega) (by rw [← hfn, ← hnn]; omega) hKn.2.1 rfl fun H1 kC hkC ee1 z1 o1 => ?_
  have hkp : ∀ (k1 : Nat) (x : Nat × va_E), (qW base ca cv μ)[k1]? = some x → H1[x.1]? = H[x.1]? := fun k1 x hx => o1 x.1 ((hP k1 x hx).lt)
  have hE : qE base ca cv (qnew μ (n / 100) (n % 100)) μ.1.length = .inr (n / 100, (List.range (qfn (n / 100))).map fun j => if qfty (n / 100) j = 2 then .null else .int 0) := by
    rw [qE_obj (c := n / 100) (n := n % 100) qnth_last (by omega)]
    congr 2
    apply List.map_congr_left
    intro j hj
    simp only [qslot, qI_new, qP_new]
    rfl
  have hPn : va_P D vwCl (qW base ca cv (qnew μ (n / 100) (n % 100))) H1 := by
    rw [qW_new hE (fun i hi => qE_new_old hi)]
    refine (hP.kept hkp).app (fun k1 x hx => ?_)
    have hz : k1 < 1 := (List.getElem?_eq_some_iff.mp hx).1
    rw [show k1 = 0 by omega] at hx
    cases hx
    refine ⟨_, hcl, (u_born (qtyF (n / 100)) hts hin hKn hkC (by rw [hzz] at ee1; exact ee1) htyF).to (fun j hj => ?_)⟩
    rw [← hfn] at hj
    rw [qdefault _ hc9 j hj]
    simp [vp_V, hj]
  have hS1 : va_S (qA base) s.heap H1 locs := ⟨Nat.le_trans hS.1 (by omega), fun x h1 h2 => (o1 x (Nat.lt_of_lt_of_le h1 hS.1)).trans (hS.2.1 x h1 h2), hS.2.2⟩
  have fin := hgo H1 locs (cells + 1) (slots + n % 100) ls hPn hS1 (fun _ => by rw [z1, hzz]; show _ = base + (μ.1 ++ [(n / 100, n % 100)]).length; simp; omega) hl (by omega) (by omega)
  rw [hn, hnn, hfn, List.map_cons, show qtr base cv (.ref (μ.1.length + 1)) = .ref (base + μ.1.length) from rfl, ← hzz] at fin
  exact fin
theorem qarr_data {t n : Nat} (h : t = 20 ∨ t = 21 ∨ t = 22 ∨ t = 23) : ∃ (a0 : vp_A) (ty : FieldType) (t0 : Nat), qE base ca cv (qnew μ t n) μ.1.length = .inl (ca t, a0) ∧ (∀ cA : ClassId, vp_cell cA a0 = arrV cA n (fun _ => defaultValue ty)) ∧ (qtys ca)[t0]? = some (ca t, ty) ∧ ((t = 20 ∧ ty = .int) ∨ (t = 21 ∧ ty = .long) ∨ (t = 22 ∧ ty = .char) ∨ (t = 23 ∧ ty = .boolean)) := by
  rcases h with rfl | rfl | rfl | rfl
  · exact ⟨_, .int, 0, by rw [qE_int (c := 20) qnth_last (by decide) (by decide) (by decide), qI_new], fun cA => by rw [vp_cell_i]; rfl, rfl, Or.inl ⟨rfl, rfl⟩⟩
  · exact ⟨_, .long, 1, by rw [qE_long qnth_last, qL_new], fun cA => by rw [vp_cell_l]; rfl, rfl, Or.inr (Or.inl ⟨rfl, rfl⟩)⟩
  · exact ⟨_, .char, 2, by rw [qE_int (c := 22) qnth_last (by decide) (by decide) (by decide), qI_new], fun cA => by rw [vp_cell_i]; rfl, rfl, Or.inr (Or.inr (Or.inl ⟨rfl, rfl⟩))⟩
  · exact ⟨_, .boolean, 3, by rw [qE_int (c := 23) qnth_last (by decide) (by decide) (by decide), qI_new], fun cA => by rw [vp_cell_i]; rfl, rfl, Or.inr (Or.inr (Or.inr ⟨rfl, rfl⟩))⟩
theorem qarr_words : Cond.arrayClass .int ∈ qG ∧ Cond.arrayClass .long ∈ qG ∧ Cond.arrayClass .char ∈ qG ∧ Cond.arrayClass .boolean ∈ qG := ⟨qt1 105 rfl rfl, qt1 200 rfl rfl, qt1 184 rfl rfl, qt1 183 rfl rfl⟩
theorem qs_newarray (C : qCtx p R s m args meth c base D ca cv o ini cc nL mc ms d) {at0 : ArrayType} {t : Nat} (hat : (at0 = .int ∧ t = 20) ∨ (at0 = .long ∧ t = 21) ∨ (at0 = .char ∧ t = 22) ∨ (at0 = .boolean ∧ t = 23)) (hd : decode cc (qbpc cd pc) = .ok (.newarray at0, 2)) (hn : qbpc cd (pc + 1) = qbpc cd pc + 2) (hk : ∀ pc L S μ, k pc L S μ = some r → qGo al p l e R s m args below meth c Q base D ca cv cd nL rc rs mc ms pc L S μ) (h : qop al cf (.anewarray t) pc L S μ k = some r) : qGo al p l e R s m args below meth c Q base D ca cv cd nL rc rs mc ms pc L S μ := by
  obtain ⟨hx, hb, hml, hown, hts, hK, hSt, hbs, hcv, hini, hd1, hfr, hlo, hmc, hms⟩ := C
  simp only [qop, q1] at h
  split at h
  · rename_i n S1
    obtain ⟨r0, e1, e2⟩ := qbnd_some h
    have e3 : (¬ n < 0 ∧ n.toNatClampNeg < 100000 ∧ al = true) ∧ (μ.1.length + 1, qnew μ t n.toNatClampNeg) = r0 := by
      unfold oArr at e1
      split at e1
      · cases e1
      · rename_i hh
        refine ⟨⟨fun z => hh (Or.inl (Or.inl z)), Nat.lt_of_not_le fun z => hh (Or.inl (Or.inr z)), ?_⟩, Option.some.inj e1⟩
        cases al with
        | true => rfl
        | false => exact absurd (Or.inr rfl) hh
    obtain ⟨⟨g1, g2, hal⟩, rfl⟩ := e3
    simp only at e2
    obtain ⟨⟨b1, b2⟩, hgo⟩ := hk _ _ _ _ e2
    have c1 : (qnew μ t n.toNatClampNeg).2.2.2.2.1 = μ.2.2.2.2.1 + 1 := rfl
    have c2 : (qnew μ t n.toNatClampNeg).2.2.2.2.2 = μ.2.2.2.2.2 + n.toNatClampNeg := rfl
    rw [c1] at b1 hgo
    rw [c2] at b2 hgo
    refine ⟨⟨by omega, by omega⟩, fun H locs cells slots ls hP hS hz hl q1 q2 => ?_⟩
    have hzz := hz hal
    obtain ⟨a0, ty, t0, hE, ha0, hty, htt⟩ := qarr_data (base := base) (ca := ca) (cv := cv) (μ := μ) (t := t) (n := n.toNatClampNeg) (by rcases hat with ⟨-, z⟩ | ⟨-, z⟩ | ⟨-, z⟩ | ⟨-, z⟩ <;> omega)
    have hto : newarray.typeOf at0 = ty := by
      rcases hat with ⟨rfl, z⟩ | ⟨rfl, z⟩ | ⟨rfl, z⟩ | ⟨rfl, z⟩ <;> rcases htt with ⟨y, rfl⟩ | ⟨y, rfl⟩ | ⟨y, rfl⟩ | ⟨y, rfl⟩ <;> first | rfl | omega
    have hword : (Cond.arrayClass (newarray.typeOf at0)).before args s = true := by
      rcases hat with ⟨rfl, z⟩ | ⟨rfl, z⟩ | ⟨rfl, z⟩ | ⟨rfl, z⟩
      · exact hts _ qarr_words.1
      · exact hts _ qarr_words.2.1
      · exact hts _ qarr_words.2.2.1
      · exact hts _ qarr_words.2.2.2
    have hby : n.toNatClampNeg * componentBytes (newarray.typeOf at0) ≤ 536870912 := by
      rcases hat with ⟨rfl, z⟩ | ⟨rfl, z⟩ | ⟨rfl, z⟩ | ⟨rfl, z⟩
      · show _ * 4 ≤ _; omega
      · show _ * 8 ≤ _; omega
      · show _ * 2 ≤ _; omega
      · show _ * 1 ≤ _; omega
    have hS0 : S1.map (qtr base cv) = S1.map (qtr base cv) := rfl
    refine va_newaK hx hb hword (g := F0 m (qbpc cd pc) ls (.int n :: S1.map (qtr base cv))) rfl hd rfl g1 rfl hby (by omega) (by omega) rfl fun H1 cA ee1 z1 o1 hAr hNm => ?_
    have hcA : cA = ca t := by
      have h9 := (hK.2 t0 _ hty).2
      rw [hto] at hNm
      have : va_RA s (ca t) ty := h9
      rcases htt with ⟨-, rfl⟩ | ⟨-, rfl⟩ | ⟨-, rfl⟩ | ⟨-, rfl⟩ <;> exact Option.some.inj (hNm.symm.trans this)
    subst hcA
    have hkp : ∀ (k1 : Nat) (x : Nat × va_E), (qW base ca cv μ)[k1]? = some x → H1[x.1]? = H[x.1]? := fun k1 x hx => o1 x.1 ((hP k1 x hx).lt)
    have hPn : va_P D vwCl (qW base ca cv (qnew μ t n.toNatClampNeg)) H1 := by
      rw [qW_new hE (fun i hi => qE_new_old hi)]
      refine (hP.kept hkp).app (fun k1 x hx => ?_)
      have hz : k1 < 1 := (List.getElem?_eq_some_iff.mp hx).1
      rw [show k1 = 0 by omega] at hx
      cases hx
      show H1[base + μ.1.length]? = some (vp_cell _ _)
      rw [ha0, ← hto, ← hzz]
      exact ee1
    have hS1 : va_S (qA base) s.heap H1 locs := ⟨Nat.le_trans hS.1 (by omega), fun x h1 h2 => (o1 x (Nat.lt_of_lt_of_le h1 hS.1)).trans (hS.2.1 x h1 h2), hS.2.2⟩
    have fin := hgo H1 locs (cells + 1) (slots + n.toNatClampNeg) ls hPn hS1 (fun _ => by rw [z1, hzz]; show _ = base + (μ.1 ++ [(t, n.toNatClampNeg)]).length; simp; omega) hl (by omega) (by omega)
    rw [hn, List.map_cons, show qtr base cv (.ref (μ.1.length + 1)) = .ref (base + μ.1.length) from rfl, ← hzz] at fin
    exact fin
  · cases h
theorem qs_anewarray (C : qCtx p R s m args meth c base D ca cv o ini cc nL mc ms d) {j : Nat} (hq : qcpl o j = (9, 513)) (hd : decode cc (qbpc cd pc) = .ok (.anewarray j, 3)) (hn : qbpc cd (pc + 1) = qbpc cd pc + 3) (hk : ∀ pc L S μ, k pc L S μ = some r → qGo al p l e R s m args below meth c Q base D ca cv cd nL rc rs mc ms pc L S μ) (h : qop al cf (.anewarray 24) pc L S μ k = some r) : qGo al p l e R s m args below meth c Q base D ca cv cd nL rc rs mc ms pc L S μ := by
  obtain ⟨hx, hb, hml, hown, hts, hK, hSt, hbs, hcv, hini, hd1, hfr, hlo, hmc, hms⟩ := C
  obtain ⟨hw, -, -⟩ := qcp_ok hq (by decide)
  have w1 := hts _ (hw (.classLink (qown o) j "LockLadder$State") (by simp only [qcw]; exact List.mem_cons_self))
  simp only [qop, q1] at h
  split at h
  · rename_i n S1
    obtain ⟨r0, e1, e2⟩ := qbnd_some h
    have e3 : (¬ n < 0 ∧ n.toNatClampNeg < 100000 ∧ al = true) ∧ (μ.1.length + 1, qnew μ 24 n.toNatClampNeg) = r0 := by
      unfold oArr at e1
      split at e1
      · cases e1
      · rename_i hh
        refine ⟨⟨fun z => hh (Or.inl (Or.inl z)), Nat.lt_of_not_le fun z => hh (Or.inl (Or.inr z)), ?_⟩, Option.some.inj e1⟩
        cases al with
        | true => rfl
        | false => exact absurd (Or.inr rfl) hh
    obtain ⟨⟨g1, g2, hal⟩, rfl⟩ := e3
    simp only at e2
    obtain ⟨⟨b1, b2⟩, hgo⟩ := hk _ _ _ _ e2
    have c1 : (qnew μ 24 n.toNatClampNeg).2.2.2.2.1 = μ.2.2.2.2.1 + 1 := rfl
    have c2 : (qnew μ 24 n.toNatClampNeg).2.2.2.2.2 = μ.2.2.2.2.2 + n.toNatClampNeg := rfl
    rw [c1] at b1 hgo
    rw [c2] at b2 hgo
    refine ⟨⟨by omega, by omega⟩, fun H locs cells slots ls hP hS hz hl q1 q2 => ?_⟩
    have hzz := hz hal
    have hE : qE base ca cv (qnew μ 24 n.toNatClampNeg) μ.1.length = .inl (ca 24, n.toNatClampNeg, .inr (.inr (.inr (.inr fun _ => none)))) := by
      rw [qE_ref qnth_last, qP_new]
      rfl
    refine W.anew hx hb hown w1 (va_AO.use hSt.2.2.2.2.2.2.1) rfl hd rfl g1 (by omega) (by omega) (by omega) fun cA kA comp f1 f2 f3 f4 => ?_
    generalize hH1 : H.push ({ cls := cA, slots := Array.replicate n.toNatClampNeg .null, vm := .none } : Cell) = H1
    have z1 : H1.size = H.size + 1 := by rw [← hH1, Array.size_push]
    have ee1 : H1[H.size]? = some (arrV cA n.toNatClampNeg (fun _ => .null)) := by rw [← hH1, Array.getElem?_push_size, ← arrV_new]
    have o1 : ∀ q : Nat, q < H.size → H1[q]? = H[q]? := fun q hq => by rw [← hH1, Array.getElem?_push, if_neg (Nat.ne_of_lt hq)]
    have hcA : cA = ca 24 := by
      obtain ⟨kA', comp', y1, y2, y3, y4⟩ := (hK.2 4 _ rfl).2
      exact Option.some.inj (f1.symm.trans y4)
    subst hcA
    have hkp : ∀ (k1 : Nat) (x : Nat × va_E), (qW base ca cv μ)[k1]? = some x → H1[x.1]? = H[x.1]? := fun k1 x hx => o1 x.1 ((hP k1 x hx).lt)
    have hPn : va_P D vwCl (qW base ca cv (qnew μ 24 n.toNatClampNeg)) H1 := by
      rw [qW_new hE (fun i hi => qE_new_old hi)]
      refine (hP.kept hkp).app (fun k1 x hx => ?_)
      have hz : k1 < 1 := (List.getElem?_eq_some_iff.mp hx).1
      rw [show k1 = 0 by omega] at hx
      cases hx
      show H1[base + μ.1.length]? = some (vp_cell _ _)
      rw [vp_cell_q, ← hzz]
      exact ee1
    have hS1 : va_S (qA base) s.heap H1 locs := ⟨Nat.le_trans hS.1 (by omega), fun x h1 h2 => (o1 x (Nat.lt_of_lt_of_le h1 hS.1)).trans (hS.2.1 x h1 h2), hS.2.2⟩
    have fin := hgo H1 locs (cells + 1) (slots + n.toNatClampNeg) ls hPn hS1 (fun _ => by rw [z1, hzz]; show _ = base + (μ.1 ++ [(24, n.toNatClampNeg)]).length; simp; omega) hl (by omega) (by omega)
    rw [hn, List.map_cons, show qtr base cv (.ref (μ.1.length + 1)) = .ref (base + μ.1.length) from rfl, ← hzz] at fin
    exact fin
  · cases h
end QFIVE
end
section
/-! SOUNDNESS, SIXTH PART: every instruction; blocks; methods -/
section QSIX
variable {p : Program} {l : Launch} {e : Env} {R : Room} {s : State} {m : MethodId} {args : Array Value} {below : List Frame} {meth : Method} {c : Code} {Q : State → Prop}
variable {al : Bool} {base : Nat} {D : va_G} {ca : Nat → ClassId} {cv : Nat → Value} {o : Nat} {cc : ByteArray} {cd : qC} {nL rc rs mc ms : Nat}
variable {d : Nat} {ini : Bool} {k : qK} {cf : qF} {r : qR} {pc : Nat} {L S : List Value} {μ : qM}
theorem qis_eq {j tag v : Nat} (h : qis o j tag v = true) : qcpl o j = (tag, (v : Int)) := of_decide_eq_true h
theorem qentry_cases {j : Nat} {i : Instr} (h : qentry o j i = true) : (∃ z, i = .iconst z ∧ qcpl o j = (2, z)) ∨ ∃ z, i = .jsr z ∧ qcpl o j = (4, z) := by
  unfold qentry at h
  split at h
  · rename_i hh; exact Or.inl ⟨_, of_decide_eq_true h, by rw [← hh]⟩
  · rename_i hh; exact Or.inr ⟨_, of_decide_eq_true h, by rw [← hh]⟩
  · cases h
set_option maxHeartbeats 4000000 in
theorem qs_op (C : qCtx p R s m args meth c base D ca cv o ini cc nL mc ms d) {ret : Option FieldType} {i : Instr} {b ln : Nat} (hrow : qnth cd pc = some (b, ln, i)) (hok : qrowok o ret ini nL cc cd pc (b, ln, i) = true)
    {d0 : Nat} (hd0 : d0 + 1 ≤ d) (hcf : ∀ M as μ r1, cf M as μ = some r1 → qGood al base D ca cv d0 M as μ r1)
    (hk : ∀ pc L S μ, k pc L S μ = some r → qGo al p l e R s m args below meth c Q base D ca cv cd nL rc rs mc ms pc L S μ)
    (hret : ∀ di, decode cc (qbpc cd pc) = .ok (di, 1) → (di = .ireturn ∨ di = .lreturn ∨ di = .return_) → qrel o ret ini nL cd (qbpc cd pc) di i = true → qGo al p l e R s m args below meth c Q base D ca cv cd nL rc rs mc ms pc L S μ)
    (h : qop al cf i pc L S μ k = some r) : qGo al p l e R s m args below meth c Q base D ca cv cd nL rc rs mc ms pc L S μ := by
  have hb0 : b = qbpc cd pc := by unfold qbpc; rw [hrow]
  subst hb0
  unfold qrowok at hok
  rw [Bool.or_eq_true] at hok
  rcases hok with hnop | hok
  · have := of_decide_eq_true hnop
    simp only at this
    subst this
    cases h
  simp only at hok
  cases hdec : decode cc (qbpc cd pc) with
  | error z => rw [hdec] at hok; cases hok
  | ok z =>
    obtain ⟨di, len⟩ := z
    rw [hdec] at hok
    simp only [Bool.and_eq_true] at hok
    obtain ⟨⟨hrel, hlen⟩, hterm⟩ := hok
    have hgen : qterm di = false → len = qlen di ∧ qbpc cd (pc + 1) = qbpc cd pc + len := by
      intro ht
      rw [ht, Bool.false_or, Bool.and_eq_true] at hlen
      refine ⟨of_decide_eq_true hlen.1, ?_⟩
      have h2 := hlen.2
      split at h2
      · rename_i nx hnx
        unfold qbpc at h2 ⊢
        rw [hnx]
        exact of_decide_eq_true h2
      · cases h2
    clear hlen
    cases di with
    | iadd =>
      obtain ⟨rfl, hnx⟩ := hgen rfl
      simp only [qrel, decide_eq_true_eq] at hrel
      subst hrel
      exact qs_iadd C hdec hnx hk h
    | isub =>
      obtain ⟨rfl, hnx⟩ := hgen rfl
      simp only [qrel, decide_eq_true_eq] at hrel
      subst hrel
      exact qs_isub C hdec hnx hk h
    | imul =>
      obtain ⟨rfl, hnx⟩ := hgen rfl
      simp only [qrel, decide_eq_true_eq] at hrel
      subst hrel
      exact qs_imul C hdec hnx hk h
    | iand =>
      obtain ⟨rfl, hnx⟩ := hgen rfl
      simp only [qrel, decide_eq_true_eq] at hrel
      subst hrel
      exact qs_iand C hdec hnx hk h
    | ior =>
      obtain ⟨rfl, hnx⟩ := hgen rfl
      simp only [qrel, decide_eq_true_eq] at hrel
      subst hrel
      exact qs_ior C hdec hnx hk h
    | ixor =>
      obtain ⟨rfl, hnx⟩ := hgen rfl
      simp only [qrel, decide_eq_true_eq] at hrel
      subst hrel
      exact qs_ixor C hdec hnx hk h
    | ishl =>
      obtain ⟨rfl, hnx⟩ := hgen rfl
      simp only [qrel, decide_eq_true_eq] at hrel
      subst hrel
      exact qs_ishl C hdec hnx hk h
    | ishr =>
      obtain ⟨rfl, hnx⟩ := hgen rfl
      simp only [qrel, decide_eq_true_eq] at hrel
      subst hrel
      exact qs_ishr C hdec hnx hk h
    | iushr =>
      obtain ⟨rfl, hnx⟩ := hgen rfl
      simp only [qrel, decide_eq_true_eq] at hrel
      subst hrel
      exact qs_iushr C hdec hnx hk h
    | idiv =>
      obtain ⟨rfl, hnx⟩ := hgen rfl
      simp only [qrel, decide_eq_true_eq] at hrel
      subst hrel
      exact qs_idiv C hdec hnx hk h
    | irem =>
      obtain ⟨rfl, hnx⟩ := hgen rfl
      simp only [qrel, decide_eq_true_eq] at hrel
      subst hrel
      exact qs_irem C hdec hnx hk h
    | ineg =>
      obtain ⟨rfl, hnx⟩ := hgen rfl
      simp only [qrel, decide_eq_true_eq] at hrel
      subst hrel
      exact qs_ineg C hdec hnx hk h
    | land =>
      obtain ⟨rfl, hnx⟩ := hgen rfl
      simp only [qrel, decide_eq_true_eq] at hrel
      subst hrel
      exact qs_land C hdec hnx hk h
    | lor =>
      obtain ⟨rfl, hnx⟩ := hgen rfl
      simp only [qrel, decide_eq_true_eq] at hrel
      subst hrel
      exact qs_lor C hdec hnx hk h
    | lshl =>
      obtain ⟨rfl, hnx⟩ := hgen rfl
      simp only [qrel, decide_eq_true_eq] at hrel
      subst hrel
      exact qs_lshl C hdec hnx hk h
    | lshr =>
      obtain ⟨rfl, hnx⟩ := hgen rfl
      simp only [qrel, decide_eq_true_eq] at hrel
      subst hrel
      exact qs_lshr C hdec hnx hk h
    | lcmp =>
      obtain ⟨rfl, hnx⟩ := hgen rfl
      simp only [qrel, decide_eq_true_eq] at hrel
      subst hrel
      exact qs_lcmp C hdec hnx hk h
    | i2l =>
      obtain ⟨rfl, hnx⟩ := hgen rfl
      simp only [qrel, decide_eq_true_eq] at hrel
      subst hrel
      exact qs_i2l C hdec hnx hk h
    | l2i =>
      obtain ⟨rfl, hnx⟩ := hgen rfl
      simp only [qrel, decide_eq_true_eq] at hrel
      subst hrel
      exact qs_l2i C hdec hnx hk h
    | i2c =>
      obtain ⟨rfl, hnx⟩ := hgen rfl
      simp only [qrel, decide_eq_true_eq] at hrel
      subst hrel
      exact qs_i2c C hdec hnx hk h
    | dup =>
      obtain ⟨rfl, hnx⟩ := hgen rfl
      simp only [qrel, decide_eq_true_eq] at hrel
      subst hrel
      exact qs_dup C hdec hnx hk h
    | dup2 =>
      obtain ⟨rfl, hnx⟩ := hgen rfl
      simp only [qrel, decide_eq_true_eq] at hrel
      subst hrel
      exact qs_dup2 C hdec hnx hk h
    | pop =>
      obtain ⟨rfl, hnx⟩ := hgen rfl
      simp only [qrel, decide_eq_true_eq] at hrel
      subst hrel
      exact qs_pop C hdec hnx hk h
    | iaload =>
      obtain ⟨rfl, hnx⟩ := hgen rfl
      simp only [qrel, decide_eq_true_eq] at hrel
      subst hrel
      exact qs_iaload C hdec hnx hk h
    | caload =>
      obtain ⟨rfl, hnx⟩ := hgen rfl
      simp only [qrel, decide_eq_true_eq] at hrel
      subst hrel
      exact qs_caload C hdec hnx hk h
    | baload =>
      obtain ⟨rfl, hnx⟩ := hgen rfl
      simp only [qrel, decide_eq_true_eq] at hrel
      subst hrel
      exact qs_baload C hdec hnx hk h
    | laload =>
      obtain ⟨rfl, hnx⟩ := hgen rfl
      simp only [qrel, decide_eq_true_eq] at hrel
      subst hrel
      exact qs_laload C hdec hnx hk h
    | aaload =>
      obtain ⟨rfl, hnx⟩ := hgen rfl
      simp only [qrel, decide_eq_true_eq] at hrel
      subst hrel
      exact qs_aaload C hdec hnx hk h
    | iastore =>
      obtain ⟨rfl, hnx⟩ := hgen rfl
      simp only [qrel, decide_eq_true_eq] at hrel
      subst hrel
      exact qs_iastore C hdec hnx hk h
    | castore =>
      obtain ⟨rfl, hnx⟩ := hgen rfl
      simp only [qrel, decide_eq_true_eq] at hrel
      subst hrel
      exact qs_castore C hdec hnx hk h
    | bastore =>
      obtain ⟨rfl, hnx⟩ := hgen rfl
      simp only [qrel, decide_eq_true_eq] at hrel
      subst hrel
      exact qs_bastore C hdec hnx hk h
    | lastore =>
      obtain ⟨rfl, hnx⟩ := hgen rfl
      simp only [qrel, decide_eq_true_eq] at hrel
      subst hrel
      exact qs_lastore C hdec hnx hk h
    | aastore =>
      obtain ⟨rfl, hnx⟩ := hgen rfl
      simp only [qrel, decide_eq_true_eq] at hrel
      subst hrel
      exact qs_aastore C hdec hnx hk h
    | arraylength =>
      obtain ⟨rfl, hnx⟩ := hgen rfl
      simp only [qrel, decide_eq_true_eq] at hrel
      subst hrel
      exact qs_arraylength C hdec hnx hk h
    | iconst n =>
      obtain ⟨rfl, hnx⟩ := hgen rfl
      simp only [qrel, decide_eq_true_eq] at hrel
      subst hrel
      exact qs_iconst C hdec hnx hk h
    | iload j =>
      obtain ⟨rfl, hnx⟩ := hgen rfl
      simp only [qrel, decide_eq_true_eq] at hrel
      subst hrel
      exact qs_iload C hdec hnx hk h
    | iload_n j =>
      obtain ⟨rfl, hnx⟩ := hgen rfl
      simp only [qrel, decide_eq_true_eq] at hrel
      subst hrel
      exact qs_iload_n C hdec hnx hk h
    | lload j =>
      obtain ⟨rfl, hnx⟩ := hgen rfl
      simp only [qrel, decide_eq_true_eq] at hrel
      subst hrel
      exact qs_lload C hdec hnx hk h
    | lload_n j =>
      obtain ⟨rfl, hnx⟩ := hgen rfl
      simp only [qrel, decide_eq_true_eq] at hrel
      subst hrel
      exact qs_lload_n C hdec hnx hk h
    | aload j =>
      obtain ⟨rfl, hnx⟩ := hgen rfl
      simp only [qrel, decide_eq_true_eq] at hrel
      subst hrel
      exact qs_aload C hdec hnx hk h
    | aload_n j =>
      obtain ⟨rfl, hnx⟩ := hgen rfl
      simp only [qrel, decide_eq_true_eq] at hrel
      subst hrel
      exact qs_aload_n C hdec hnx hk h
    | istore j =>
      obtain ⟨rfl, hnx⟩ := hgen rfl
      simp only [qrel, Bool.and_eq_true, decide_eq_true_eq] at hrel
      obtain ⟨rfl, hj⟩ := hrel
      exact qs_istore C hj hdec hnx hk h
    | istore_n j =>
      obtain ⟨rfl, hnx⟩ := hgen rfl
      simp only [qrel, Bool.and_eq_true, decide_eq_true_eq] at hrel
      obtain ⟨rfl, hj⟩ := hrel
      exact qs_istore_n C hj hdec hnx hk h
    | lstore j =>
      obtain ⟨rfl, hnx⟩ := hgen rfl
      simp only [qrel, Bool.and_eq_true, decide_eq_true_eq] at hrel
      obtain ⟨rfl, hj⟩ := hrel
      exact qs_lstore C hj hdec hnx hk h
    | lstore_n j =>
      obtain ⟨rfl, hnx⟩ := hgen rfl
      simp only [qrel, Bool.and_eq_true, decide_eq_true_eq] at hrel
      obtain ⟨rfl, hj⟩ := hrel
      exact qs_lstore_n C hj hdec hnx hk h
    | astore j =>
      obtain ⟨rfl, hnx⟩ := hgen rfl
      simp only [qrel, Bool.and_eq_true, decide_eq_true_eq] at hrel
      obtain ⟨rfl, hj⟩ := hrel
      exact qs_astore C hj hdec hnx hk h
    | astore_n j =>
      obtain ⟨rfl, hnx⟩ := hgen rfl
      simp only [qrel, Bool.and_eq_true, decide_eq_true_eq] at hrel
      obtain ⟨rfl, hj⟩ := hrel
      exact qs_astore_n C hj hdec hnx hk h
    | iinc j n =>
      obtain ⟨rfl, hnx⟩ := hgen rfl
      simp only [qrel, Bool.and_eq_true, decide_eq_true_eq] at hrel
      obtain ⟨rfl, hj⟩ := hrel
      exact qs_iinc C hj hdec hnx hk h
    | bipush n =>
      obtain ⟨rfl, hnx⟩ := hgen rfl
      simp only [qrel] at hrel
      split at hrel
      · exact qs_bipush C (of_decide_eq_true hrel) hdec hnx hk h
      · cases hrel
    | sipush n =>
      obtain ⟨rfl, hnx⟩ := hgen rfl
      simp only [qrel] at hrel
      split at hrel
      · exact qs_sipush C (of_decide_eq_true hrel) hdec hnx hk h
      · cases hrel
    | lconst n =>
      obtain ⟨rfl, hnx⟩ := hgen rfl
      simp only [qrel] at hrel
      split at hrel
      · exact qs_lconst C (of_decide_eq_true hrel) hdec hnx hk h
      · cases hrel
    | ldc j =>
      obtain ⟨rfl, hnx⟩ := hgen rfl
      rcases qentry_cases hrel with ⟨z, rfl, hq⟩ | ⟨z, rfl, hq⟩
      · exact qs_ldci C hq hdec hnx hk h
      · exact qs_ldcs C hq hdec hnx hk h
    | ldc_w j =>
      obtain ⟨rfl, hnx⟩ := hgen rfl
      rcases qentry_cases hrel with ⟨z, rfl, hq⟩ | ⟨z, rfl, hq⟩
      · exact qs_ldc_wi C hq hdec hnx hk h
      · exact qs_ldc_ws C hq hdec hnx hk h
    | ldc2_w j =>
      obtain ⟨rfl, hnx⟩ := hgen rfl
      simp only [qrel, decide_eq_true_eq] at hrel
      obtain ⟨h1, rfl⟩ := hrel
      exact qs_ldc2 C (by rw [← h1]) hdec hnx hk h
    | ifCond cn off =>
      obtain ⟨rfl, hnx⟩ := hgen rfl
      simp only [qrel] at hrel
      split at hrel
      · simp only [Bool.and_eq_true, decide_eq_true_eq] at hrel
        obtain ⟨rfl, h2⟩ := hrel
        exact qs_ifCond C (of_decide_eq_true h2) hdec hnx hk h
      · cases hrel
    | if_icmp cn off =>
      obtain ⟨rfl, hnx⟩ := hgen rfl
      simp only [qrel] at hrel
      split at hrel
      · simp only [Bool.and_eq_true, decide_eq_true_eq] at hrel
        obtain ⟨rfl, h2⟩ := hrel
        exact qs_if_icmp C (of_decide_eq_true h2) hdec hnx hk h
      · cases hrel
    | goto off =>
      simp only [decide_eq_true_eq] at hterm
      subst hterm
      simp only [qrel] at hrel
      split at hrel
      · exact qs_goto C (of_decide_eq_true hrel) hdec hk h
      · cases hrel
    | tableswitch df lo hi offs =>
      simp only [qrel] at hrel
      split at hrel
      · simp only [Bool.and_eq_true, decide_eq_true_eq] at hrel
        obtain ⟨⟨⟨⟨h1, h2⟩, h3⟩, h4⟩, h5⟩ := hrel
        exact qs_tableswitch C h1 h2 h3 h4 h5 hdec hk h
      · cases hrel
    | lookupswitch df ps =>
      simp only [qrel] at hrel
      split at hrel
      · simp only [Bool.and_eq_true] at hrel
        obtain ⟨⟨⟨h1, h2⟩, h3⟩, h4⟩ := hrel
        exact qs_lookupswitch C h1 h2 h3 h4 hdec hk h
      · cases hrel
    | getfield j =>
      obtain ⟨rfl, hnx⟩ := hgen rfl
      simp only [qrel] at hrel
      split at hrel
      · simp only [Bool.or_eq_true, Bool.and_eq_true, decide_eq_true_eq] at hrel
        rcases hrel with (h1 | ⟨rfl, h1⟩) | ⟨rfl, h1⟩
        · exact qs_getfield C (qis_eq h1) hdec hnx hk h
        · exact qs_gets_value C (qis_eq h1) hdec hnx hk h
        · exact qs_gets_coder C (qis_eq h1) hdec hnx hk h
      · cases hrel
    | putfield j =>
      obtain ⟨rfl, hnx⟩ := hgen rfl
      simp only [qrel] at hrel
      split at hrel
      · rw [Bool.and_eq_true] at hrel
        exact qs_putfield C (qis_eq hrel.1) hrel.2 hdec hnx hk h
      · cases hrel
    | getstatic j =>
      obtain ⟨rfl, hnx⟩ := hgen rfl
      simp only [qrel] at hrel
      split at hrel
      · simp only [Bool.and_eq_true, decide_eq_true_eq] at hrel
        obtain ⟨rfl, h2⟩ := hrel
        exact qs_getstatic C (tag := (qcpl o j).1) rfl h2 hdec hnx hk h
      · simp only [Bool.and_eq_true, decide_eq_true_eq] at hrel
        obtain ⟨rfl, h2⟩ := hrel
        exact qs_getstaticC C (qis_eq h2) hdec hnx hk h
      · cases hrel
    | new j =>
      obtain ⟨rfl, hnx⟩ := hgen rfl
      simp only [qrel] at hrel
      split at hrel
      · exact qs_new C (qis_eq hrel) hdec hnx hk h
      · cases hrel
    | newarray t =>
      obtain ⟨rfl, hnx⟩ := hgen rfl
      simp only [qrel] at hrel
      split at hrel
      · refine qs_newarray C ?_ hdec hnx hk h
        split at hrel
        · exact Or.inl ⟨rfl, by simpa using hrel⟩
        · exact Or.inr (Or.inl ⟨rfl, by simpa using hrel⟩)
        · exact Or.inr (Or.inr (Or.inl ⟨rfl, by simpa using hrel⟩))
        · exact Or.inr (Or.inr (Or.inr ⟨rfl, by simpa using hrel⟩))
        · cases hrel
      · cases hrel
    | anewarray j =>
      obtain ⟨rfl, hnx⟩ := hgen rfl
      simp only [qrel, Bool.and_eq_true, decide_eq_true_eq] at hrel
      obtain ⟨rfl, h1⟩ := hrel
      exact qs_anewarray C (qis_eq h1) hdec hnx hk h
    | invokevirtual j =>
      obtain ⟨rfl, hnx⟩ := hgen rfl
      simp only [qrel] at hrel
      split at hrel
      · rw [Bool.or_eq_true] at hrel
        rcases hrel with h1 | h1
        · exact qs_call C (Or.inl ⟨Or.inl rfl, rfl⟩) (qis_eq h1) hdec hnx hd0 hcf hk h
        · exact qs_call C (Or.inl ⟨Or.inr rfl, rfl⟩) (qis_eq h1) hdec hnx hd0 hcf hk h
      · cases hrel
    | invokestatic j =>
      obtain ⟨rfl, hnx⟩ := hgen rfl
      simp only [qrel] at hrel
      split at hrel
      · rw [Bool.or_eq_true] at hrel
        rcases hrel with h1 | h1
        · exact qs_call C (Or.inr (Or.inl ⟨Or.inl rfl, rfl⟩)) (qis_eq h1) hdec hnx hd0 hcf hk h
        · exact qs_call C (Or.inr (Or.inl ⟨Or.inr rfl, rfl⟩)) (qis_eq h1) hdec hnx hd0 hcf hk h
      · exact qs_copy C (qis_eq hrel) hdec hnx hk h
      · exact qs_min C (qis_eq hrel) hdec hnx hk h
      · exact qs_max C (qis_eq hrel) hdec hnx hk h
      · cases hrel
    | invokespecial j =>
      obtain ⟨rfl, hnx⟩ := hgen rfl
      simp only [qrel] at hrel
      split at hrel
      · rw [Bool.or_eq_true] at hrel
        rcases hrel with h1 | h1
        · exact qs_call C (Or.inr (Or.inr ⟨Or.inl rfl, rfl⟩)) (qis_eq h1) hdec hnx hd0 hcf hk h
        · exact qs_call C (Or.inr (Or.inr ⟨Or.inr rfl, rfl⟩)) (qis_eq h1) hdec hnx hd0 hcf hk h
      · exact qs_objinit C (qis_eq hrel) hdec hnx hk h
      · cases hrel
    | ireturn =>
      simp only [decide_eq_true_eq] at hterm
      subst hterm
      exact hret _ hdec (Or.inl rfl) hrel
    | lreturn =>
      simp only [decide_eq_true_eq] at hterm
      subst hterm
      exact hret _ hdec (Or.inr (Or.inl rfl)) hrel
    | return_ =>
      simp only [decide_eq_true_eq] at hterm
      subst hterm
      exact hret _ hdec (Or.inr (Or.inr rfl)) hrel
    | _ => exact absurd hrel (by simp [qrel])
end QSIX
/-- a narrowed int stays -/
theorem qnar_z (x : Int32) : narrow .boolean (.int x) = .int (qnz x) := by
  unfold qnz vp_nar
  cases h : narrow .boolean (.int x) with
  | int y => rfl
  | _ => simp [narrow] at h
theorem qnar_c (x : Int32) : narrow .char (.int x) = .int (qnc x) := by
  unfold qnc vp_nar
  cases h : narrow .char (.int x) with
  | int y => rfl
  | _ => simp [narrow] at h
theorem qnar_b (x : Int32) : narrow .byte (.int x) = .int (qnb x) := by
  unfold qnb vp_nar
  cases h : narrow .byte (.int x) with
  | int y => rfl
  | _ => simp [narrow] at h
def qcnt (μ μ' : qM) : Prop := μ.2.2.2.2.1 ≤ μ'.2.2.2.2.1 ∧ μ.2.2.2.2.2 ≤ μ'.2.2.2.2.2
theorem qcnt.rf {μ : qM} : qcnt μ μ := ⟨Nat.le_refl _, Nat.le_refl _⟩
theorem qcnt.tr {a b c : qM} (h : qcnt a b) (h2 : qcnt b c) : qcnt a c := ⟨Nat.le_trans h.1 h2.1, Nat.le_trans h.2 h2.2⟩
theorem qcnt.eq {a a' b : qM} (e : a'.2.2.2.2 = a.2.2.2.2) (h : qcnt a' b) : qcnt a b := by unfold qcnt at *; rw [e] at h; exact h
theorem qlook_some {d : Int} {x : Int32} {k : Nat → Option qR} {r : qR} : ∀ {ps : List (Int × Int)}, qlook d ps x k = some r → ∃ t, k t = some r := by
  intro ps
  induction ps with
  | nil => intro h; exact ⟨_, h⟩
  | cons a ps ih =>
    intro h
    simp only [qlook] at h
    split at h
    · exact ⟨_, h⟩
    · exact ih h
set_option maxHeartbeats 4000000 in
theorem qop_cnt {al : Bool} {cf : qF} {i : Instr} {pc : Nat} {L S : List Value} {μ : qM} {k : qK} {r : qR} (hcf : ∀ M as μ r1, cf M as μ = some r1 → qcnt μ r1.2.2) (hk : ∀ pc L S μ, k pc L S μ = some r → qcnt μ r.2.2) (h : qop al cf i pc L S μ k = some r) : qcnt μ r.2.2 := by
  have hb : ∀ {α : Type} {o : Option α} {f : α → Option qR}, qbnd o f = some r → ∃ a, o = some a ∧ f a = some r := fun h => qbnd_some h
  have put : ∀ {μ' : qM} {pc : Nat} {L S : List Value} {P : Prop} [Decidable P] {a : qM}, (if P then some a else none) = some μ' → a.2.2.2.2 = μ.2.2.2.2 → k pc L S μ' = some r → qcnt μ r.2.2 := by
    intro μ' pc L S P _ a h1 h2 h3
    obtain ⟨-, rfl⟩ := ite_some h1
    exact qcnt.eq h2 (hk _ _ _ _ h3)
  have new : ∀ {c n : Nat}, qcnt (qnew μ c n) r.2.2 → qcnt μ r.2.2 := fun h => ⟨Nat.le_trans (Nat.le_succ _) h.1, Nat.le_trans (Nat.le_add_right _ _) h.2⟩
  cases i with
  | invokestatic n =>
    simp only [qop, qcall] at h
    split at h
    · obtain ⟨r1, e1, e2⟩ := hb h
      refine (hcf _ _ _ _ e1).tr ?_
      split at e2 <;> exact hk _ _ _ _ e2
    · cases h
  | getfield n =>
    simp only [qop, qget] at h
    split at h
    · split at h
      · cases h
      · split at h <;> (obtain ⟨x, e1, e2⟩ := hb h; exact hk _ _ _ _ e2)
    · split at h
      · split at h
        · exact hk _ _ _ _ h
        · exact hk _ _ _ _ h
        · cases h
      · cases h
    · cases h
  | putfield n =>
    simp only [qop, qput] at h
    split at h
    · split at h
      · obtain ⟨x, e1, e2⟩ := hb h; exact put e1 rfl e2
      · split at h
        · obtain ⟨x, e1, e2⟩ := hb h; exact put e1 rfl e2
        · cases h
      · cases h
    · split at h
      · obtain ⟨x, e1, e2⟩ := hb h; exact put e1 rfl e2
      · cases h
    · cases h
  | iastore =>
    simp only [qop, qsto] at h
    split at h
    all_goals try split at h
    all_goals first | (cases h; done) | exact hk _ _ _ _ h | (obtain ⟨x, e1, e2⟩ := hb h; first | exact put e1 rfl e2 | exact hk _ _ _ _ e2) | (cases h; exact qcnt.rf) | (obtain ⟨-, rfl⟩ := ite_some h; exact qcnt.rf)
  | castore =>
    simp only [qop, qsto] at h
    split at h
    all_goals try split at h
    all_goals first | (cases h; done) | exact hk _ _ _ _ h | (obtain ⟨x, e1, e2⟩ := hb h; first | exact put e1 rfl e2 | exact hk _ _ _ _ e2) | (cases h; exact qcnt.rf) | (obtain ⟨-, rfl⟩ := ite_some h; exact qcnt.rf)
  | bastore =>
    simp only [qop, qsto] at h
    split at h
    all_goals try split at h
    all_goals first | (cases h; done) | exact hk _ _ _ _ h | (obtain ⟨x, e1, e2⟩ := hb h; first | exact put e1 rfl e2 | exact hk _ _ _ _ e2) | (cases h; exact qcnt.rf) | (obtain ⟨-, rfl⟩ := ite_some h; exact qcnt.rf)
  | lastore =>
    simp only [qop] at h
    split at h
    all_goals try split at h
    all_goals first | (cases h; done) | exact hk _ _ _ _ h | (obtain ⟨x, e1, e2⟩ := hb h; first | exact put e1 rfl e2 | exact hk _ _ _ _ e2) | (cases h; exact qcnt.rf) | (obtain ⟨-, rfl⟩ := ite_some h; exact qcnt.rf)
  | aastore =>
    simp only [qop] at h
    split at h
    all_goals try split at h
    all_goals first | (cases h; done) | exact hk _ _ _ _ h | (obtain ⟨x, e1, e2⟩ := hb h; first | exact put e1 rfl e2 | exact hk _ _ _ _ e2) | (cases h; exact qcnt.rf) | (obtain ⟨-, rfl⟩ := ite_some h; exact qcnt.rf)
  | multianewarray a b =>
    simp only [qop] at h
    split at h
    all_goals try split at h
    all_goals first | (cases h; done) | exact hk _ _ _ _ h | (obtain ⟨x, e1, e2⟩ := hb h; first | exact put e1 rfl e2 | exact hk _ _ _ _ e2) | (cases h; exact qcnt.rf) | (obtain ⟨-, rfl⟩ := ite_some h; exact qcnt.rf)
  | new n =>
    simp only [qop] at h
    obtain ⟨x, e1, e2⟩ := hb h
    obtain ⟨-, rfl⟩ := ite_some e1
    exact new (hk _ _ _ _ e2)
  | anewarray n =>
    simp only [qop, q1] at h
    split at h
    · obtain ⟨x, e1, e2⟩ := hb h
      unfold oArr at e1
      split at e1
      · cases e1
      · cases e1; exact new (hk _ _ _ _ e2)
    · cases h
  | lookupswitch d ps =>
    simp only [qop, q1] at h
    split at h
    · obtain ⟨t, e⟩ := qlook_some h; exact hk _ _ _ _ e
    · cases h
  | ifCond c t =>
    simp only [qop, q1] at h
    split at h
    · cases c <;> simp only [qcond] at h <;> split at h <;> exact hk _ _ _ _ h
    · cases h
  | if_icmp c t =>
    simp only [qop, q2] at h
    split at h
    · cases c <;> simp only [qcond] at h <;> split at h <;> exact hk _ _ _ _ h
    · cases h
  | iaload =>
    simp only [qop, qld] at h
    split at h
    all_goals try split at h
    all_goals first | (cases h; done) | exact hk _ _ _ _ h | (obtain ⟨x, e1, e2⟩ := hb h; first | exact put e1 rfl e2 | exact hk _ _ _ _ e2) | (cases h; exact qcnt.rf) | (obtain ⟨-, rfl⟩ := ite_some h; exact qcnt.rf)
  | caload =>
    simp only [qop, qld] at h
    split at h
    all_goals try split at h
    all_goals first | (cases h; done) | exact hk _ _ _ _ h | (obtain ⟨x, e1, e2⟩ := hb h; first | exact put e1 rfl e2 | exact hk _ _ _ _ e2) | (cases h; exact qcnt.rf) | (obtain ⟨-, rfl⟩ := ite_some h; exact qcnt.rf)
  | baload =>
    simp only [qop, qld] at h
    split at h
    all_goals try split at h
    all_goals first | (cases h; done) | exact hk _ _ _ _ h | (obtain ⟨x, e1, e2⟩ := hb h; first | exact put e1 rfl e2 | exact hk _ _ _ _ e2) | (cases h; exact qcnt.rf) | (obtain ⟨-, rfl⟩ := ite_some h; exact qcnt.rf)
  | laload =>
    simp only [qop] at h
    split at h
    all_goals try split at h
    all_goals first | (cases h; done) | exact hk _ _ _ _ h | (obtain ⟨x, e1, e2⟩ := hb h; first | exact put e1 rfl e2 | exact hk _ _ _ _ e2) | (cases h; exact qcnt.rf) | (obtain ⟨-, rfl⟩ := ite_some h; exact qcnt.rf)
  | aaload =>
    simp only [qop] at h
    split at h
    all_goals try split at h
    all_goals first | (cases h; done) | exact hk _ _ _ _ h | (obtain ⟨x, e1, e2⟩ := hb h; first | exact put e1 rfl e2 | exact hk _ _ _ _ e2) | (cases h; exact qcnt.rf) | (obtain ⟨-, rfl⟩ := ite_some h; exact qcnt.rf)
  | arraylength =>
    simp only [qop] at h
    split at h
    all_goals try split at h
    all_goals first | (cases h; done) | exact hk _ _ _ _ h | (obtain ⟨x, e1, e2⟩ := hb h; first | exact put e1 rfl e2 | exact hk _ _ _ _ e2) | (cases h; exact qcnt.rf) | (obtain ⟨-, rfl⟩ := ite_some h; exact qcnt.rf)
  | ireturn =>
    simp only [qop] at h
    split at h
    all_goals try split at h
    all_goals first | (cases h; done) | exact hk _ _ _ _ h | (obtain ⟨x, e1, e2⟩ := hb h; first | exact put e1 rfl e2 | exact hk _ _ _ _ e2) | (cases h; exact qcnt.rf) | (obtain ⟨-, rfl⟩ := ite_some h; exact qcnt.rf)
  | lreturn =>
    simp only [qop] at h
    split at h
    all_goals try split at h
    all_goals first | (cases h; done) | exact hk _ _ _ _ h | (obtain ⟨x, e1, e2⟩ := hb h; first | exact put e1 rfl e2 | exact hk _ _ _ _ e2) | (cases h; exact qcnt.rf) | (obtain ⟨-, rfl⟩ := ite_some h; exact qcnt.rf)
  | return_ =>
    simp only [qop] at h
    split at h
    all_goals try split at h
    all_goals first | (cases h; done) | exact hk _ _ _ _ h | (obtain ⟨x, e1, e2⟩ := hb h; first | exact put e1 rfl e2 | exact hk _ _ _ _ e2) | (cases h; exact qcnt.rf) | (obtain ⟨-, rfl⟩ := ite_some h; exact qcnt.rf)
  | freturn =>
    simp only [qop] at h
    split at h
    all_goals try split at h
    all_goals first | (cases h; done) | exact hk _ _ _ _ h | (obtain ⟨x, e1, e2⟩ := hb h; first | exact put e1 rfl e2 | exact hk _ _ _ _ e2) | (cases h; exact qcnt.rf) | (obtain ⟨-, rfl⟩ := ite_some h; exact qcnt.rf)
  | dreturn =>
    simp only [qop] at h
    split at h
    all_goals try split at h
    all_goals first | (cases h; done) | exact hk _ _ _ _ h | (obtain ⟨x, e1, e2⟩ := hb h; first | exact put e1 rfl e2 | exact hk _ _ _ _ e2) | (cases h; exact qcnt.rf) | (obtain ⟨-, rfl⟩ := ite_some h; exact qcnt.rf)
  | areturn =>
    simp only [qop] at h
    split at h
    all_goals try split at h
    all_goals first | (cases h; done) | exact hk _ _ _ _ h | (obtain ⟨x, e1, e2⟩ := hb h; first | exact put e1 rfl e2 | exact hk _ _ _ _ e2) | (cases h; exact qcnt.rf) | (obtain ⟨-, rfl⟩ := ite_some h; exact qcnt.rf)
  | idiv =>
    simp only [qop, q2] at h
    split at h
    all_goals try split at h
    all_goals first | (cases h; done) | exact hk _ _ _ _ h | (obtain ⟨x, e1, e2⟩ := hb h; first | exact put e1 rfl e2 | exact hk _ _ _ _ e2) | (cases h; exact qcnt.rf) | (obtain ⟨-, rfl⟩ := ite_some h; exact qcnt.rf)
  | irem =>
    simp only [qop, q2] at h
    split at h
    all_goals try split at h
    all_goals first | (cases h; done) | exact hk _ _ _ _ h | (obtain ⟨x, e1, e2⟩ := hb h; first | exact put e1 rfl e2 | exact hk _ _ _ _ e2) | (cases h; exact qcnt.rf) | (obtain ⟨-, rfl⟩ := ite_some h; exact qcnt.rf)
  | pop2 =>
    simp only [qop] at h
    split at h
    all_goals try split at h
    all_goals first | (cases h; done) | exact hk _ _ _ _ h | (obtain ⟨x, e1, e2⟩ := hb h; first | exact put e1 rfl e2 | exact hk _ _ _ _ e2) | (cases h; exact qcnt.rf) | (obtain ⟨-, rfl⟩ := ite_some h; exact qcnt.rf)
  | fmul =>
    simp only [qop, q2] at h
    split at h
    all_goals try split at h
    all_goals first | (cases h; done) | exact hk _ _ _ _ h | (obtain ⟨x, e1, e2⟩ := hb h; first | exact put e1 rfl e2 | exact hk _ _ _ _ e2) | (cases h; exact qcnt.rf) | (obtain ⟨-, rfl⟩ := ite_some h; exact qcnt.rf)
  | fadd =>
    simp only [qop, q2] at h
    split at h
    all_goals try split at h
    all_goals first | (cases h; done) | exact hk _ _ _ _ h | (obtain ⟨x, e1, e2⟩ := hb h; first | exact put e1 rfl e2 | exact hk _ _ _ _ e2) | (cases h; exact qcnt.rf) | (obtain ⟨-, rfl⟩ := ite_some h; exact qcnt.rf)
  | iconst n => exact hk _ _ _ _ h
  | goto_w n => exact hk _ _ _ _ h
  | jsr n => exact hk _ _ _ _ h
  | goto n => exact hk _ _ _ _ h
  | _ => first | (cases h; done) | (simp only [qop, q1, q2, ql1, ql2, qli] at h; split at h <;> first | exact hk _ _ _ _ h | cases h)
theorem qmw_last {x : Int32} {μ : qM} {r : qR} {z : Int32} (h : (if z = x then some ((x, 0, μ) : qR) else none) = some r) : z = x ∧ r = (x, 0, μ) := by
  by_cases hz : z = x
  · rw [if_pos hz] at h; exact ⟨hz, (Option.some.inj h).symm⟩
  · rw [if_neg hz] at h; cases h
section QSEV
variable {p : Program} {l : Launch} {e : Env} {R : Room} {s : State} {m : MethodId} {args : Array Value} {below : List Frame} {meth : Method} {c : Code}
variable {al : Bool} {base : Nat} {D : va_G} {ca : Nat → ClassId} {cv : Nat → Value} {o : Nat} {cc : ByteArray} {cd : qC} {nL mc ms : Nat}
variable {d : Nat} {ini : Bool} {k : qK} {cf : qF} {r : qR} {pc : Nat} {L S : List Value} {μ : qM}
/-- a method's end -/
theorem qret_sound (C : qCtx p R s m args meth c base D ca cv o ini cc nL mc ms d) {ret : Option FieldType} (hrt : meth.sig.returnType = ret) (hlocks : meth.locks = false) {i di : Instr}
    (hd : decode cc (qbpc cd pc) = .ok (di, 1)) (hdi : di = .ireturn ∨ di = .lreturn ∨ di = .return_) (hrel : qrel o ret ini nL cd (qbpc cd pc) di i = true) (h : qop al cf i pc L S μ k = some r) :
    qGo al p l e R s m args below meth c (MQ below (qQ al base D ca cv ret r) args s mc ms (qA base)) base D ca cv cd nL r.2.2.2.2.2.2.1 r.2.2.2.2.2.2.2 mc ms pc L S μ := by
  obtain ⟨hx, hb, hml, hown, hts, hK, hSt, hbs, hcv, hini, hd1, hfr, hlo, hmc, hms⟩ := C
  have kint : ∀ (x : Int32) (ty : FieldType), ret = some ty → ty ≠ .long → narrow ty (.int x) = .int x → S = [.int x] → r = (x, 0, μ) → di = .ireturn → qGo al p l e R s m args below meth c (MQ below (qQ al base D ca cv ret r) args s mc ms (qA base)) base D ca cv cd nL r.2.2.2.2.2.2.1 r.2.2.2.2.2.2.2 mc ms pc L S μ := by
    intro x ty e1 e2 e3 e4 e5 e6
    subst e1; subst e4; subst e5; subst e6
    refine ⟨⟨Nat.le_refl _, Nat.le_refl _⟩, fun H locs cells slots ls hP hS hz hl q1 q2 => ?_⟩
    have hc : cells = mc := by simpa using q1
    have hs : slots = ms := by simpa using q2
    subst hc; subst hs
    refine W.zret (v := x) hx hb hrt e3 (fun t ht hW => ?_) hS.2.2 hd hlocks
    have hq : va_Qi (S := Unit) (fun y _ => y = x) (fun _ t => qRep al base D ca cv μ t) (qA base) args s (.returned (some (.int x))) t := ⟨⟨x, (), rfl, rfl, qrep_of hK hSt hbs hP hS hz ht hW⟩, hS.F ht⟩
    cases ty with
    | long => exact absurd rfl e2
    | _ => exact hq
  rcases hdi with rfl | rfl | rfl
  · simp only [qrel] at hrel
    split at hrel
    · have hr := of_decide_eq_true hrel
      simp only [qop] at h
      split at h
      · rename_i x; exact kint x .int hr (fun z => by cases z) rfl rfl (Option.some.inj h).symm rfl
      · cases h
    · have hr := of_decide_eq_true hrel
      simp only [qop] at h
      split at h
      · rename_i x
        obtain ⟨h1, h2⟩ := qmw_last h
        exact kint x .boolean hr (fun z => by cases z) (by rw [qnar_z, h1]) rfl h2 rfl
      · cases h
    · have hr := of_decide_eq_true hrel
      simp only [qop] at h
      split at h
      · rename_i x
        obtain ⟨h1, h2⟩ := qmw_last h
        exact kint x .char hr (fun z => by cases z) (by rw [qnar_c, h1]) rfl h2 rfl
      · cases h
    · have hr := of_decide_eq_true hrel
      simp only [qop] at h
      split at h
      · rename_i x
        obtain ⟨h1, h2⟩ := qmw_last h
        exact kint x .byte hr (fun z => by cases z) (by rw [qnar_b, h1]) rfl h2 rfl
      · cases h
    · cases hrel
  · simp only [qrel, decide_eq_true_eq] at hrel
    obtain ⟨rfl, hr⟩ := hrel
    subst hr
    simp only [qop] at h
    split at h
    · rename_i x
      have h2 := (Option.some.inj h).symm
      subst h2
      refine ⟨⟨Nat.le_refl _, Nat.le_refl _⟩, fun H locs cells slots ls hP hS hz hl q1 q2 => ?_⟩
      have hc : cells = mc := by simpa using q1
      have hs : slots = ms := by simpa using q2
      subst hc; subst hs
      exact W.lret (v := x) hx hb hrt (fun t ht hW => ⟨⟨x, (), rfl, rfl, qrep_of hK hSt hbs hP hS hz ht hW⟩, hS.F ht⟩) hS.2.2 hd hlocks
    · cases h
  · simp only [qrel, decide_eq_true_eq] at hrel
    obtain ⟨rfl, hr⟩ := hrel
    subst hr
    simp only [qop] at h
    split at h
    · have h2 := (Option.some.inj h).symm
      subst h2
      refine ⟨⟨Nat.le_refl _, Nat.le_refl _⟩, fun H locs cells slots ls hP hS hz hl q1 q2 => ?_⟩
      have hc : cells = mc := by simpa using q1
      have hs : slots = ms := by simpa using q2
      subst hc; subst hs
      exact W.vret hx hb hrt (fun t ht hW => ⟨⟨(), rfl, trivial, qrep_of hK hSt hbs hP hS hz ht hW⟩, hS.F ht⟩) hS.2.2 hd hlocks
    · cases h
end QSEV
abbrev qmo (M : Nat) : Nat := (qm M).1
abbrev qmret (M : Nat) : Option FieldType := (qm M).2.2.2.2.2.1
abbrev qmc (M : Nat) : qC := (qm M).2.2.2.2.2.2
abbrev qmL (M : Nat) : Nat := (qm M).2.2.2.2.1
abbrev qmb (M : Nat) : ByteArray := (qm M).2.2.2.1
abbrev qmi (M : Nat) : Bool := decide ((qmy M).name = "<init>")
/-- in the method M, from this row on, with these locals, stack and memory, the machine ends with the answer r -/
def qEv (al : Bool) (base : Nat) (D : va_G) (ca : Nat → ClassId) (cv : Nat → Value) (d M : Nat) (r : qR) (pc : Nat) (L S : List Value) (μ : qM) : Prop :=
  qcnt μ r.2.2 ∧ ∀ (p : Program) (l : Launch) (e : Env) (R : Room) (s : State) (m : MethodId) (args : Array Value) (below : List Frame) (meth : Method) (c : Code) (mc ms : Nat), qCtx p R s m args meth c base D ca cv (qmo M) (qmi M) (qmb M) (qmL M) mc ms d → meth.sig.returnType = qmret M → meth.locks = false →
    qGo al p l e R s m args below meth c (MQ below (qQ al base D ca cv (qmret M) r) args s mc ms (qA base)) base D ca cv (qmc M) (qmL M) r.2.2.2.2.2.2.1 r.2.2.2.2.2.2.2 mc ms pc L S μ
theorem qEv.le {al : Bool} {base : Nat} {D : va_G} {ca : Nat → ClassId} {cv : Nat → Value} {d M : Nat} {r : qR} {pc : Nat} {L L' S : List Value} {μ : qM} (h : qEv al base D ca cv d M r pc L S μ) (hn : L.length = L'.length) (hq : qle L L') : qEv al base D ca cv d M r pc L' S μ := by
  refine ⟨h.1, ?_⟩
  intro p l e R s m args below meth c mc ms C hrt hlk
  obtain ⟨h1, h2⟩ := h.2 p l e R s m args below meth c mc ms C hrt hlk
  exact ⟨h1, fun H locs cells slots ls hP hS hz hl q1 q2 => h2 H locs cells slots ls hP hS hz (hl.le hn hq) q1 q2⟩
/-- A BLOCK: where the pure machine comes to an answer, the machine does -/
theorem qblk_ev {al : Bool} {base : Nat} {D : va_G} {ca : Nat → ClassId} {cv : Nat → Value} {d d0 M : Nat} {cf : qF} {st : Nat → Bool} {K : qK} (hok : qcodeok M) (hd0 : d0 + 1 ≤ d) (hcf : ∀ M' as μ r1, cf M' as μ = some r1 → qGood al base D ca cv d0 M' as μ r1)
    (hK : ∀ pc L S μ r, K pc L S μ = some r → qEv al base D ca cv d M r pc L S μ) : ∀ (n : Nat) {pc : Nat} {L S : List Value} {μ : qM} {r : qR}, qblk al cf (qmc M) st K n pc L S μ = some r → qEv al base D ca cv d M r pc L S μ := by
  intro n
  induction n with
  | zero => intro pc L S μ r h; cases h
  | succ n ih =>
    intro pc L S μ r h
    simp only [qblk, qstep] at h
    split at h
    · rename_i b ln i hrow
      refine ⟨qop_cnt (fun M as μ r1 h1 => (hcf M as μ r1 h1).1) (fun pc' L' S' μ' h' => ?_) h, ?_⟩
      · split at h'
        · exact (hK _ _ _ _ _ h').1
        · exact (ih h').1
      intro p l e R s m args below meth c mc ms C hrt hlk
      have hrk := qcodes_at (i := pc) hok hrow
      rw [Nat.zero_add] at hrk
      refine qs_op C hrow hrk hd0 hcf (fun pc' L' S' μ' h' => ?_) (fun di hdi hdd hrel => qret_sound C hrt hlk hdi hdd hrel h) h
      split at h'
      · exact (hK _ _ _ _ _ h').2 p l e R s m args below meth c mc ms C hrt hlk
      · exact (ih h').2 p l e R s m args below meth c mc ms C hrt hlk
    · cases h
theorem qblk_ev2 {al : Bool} {base : Nat} {D : va_G} {ca : Nat → ClassId} {cv : Nat → Value} {d d0 M : Nat} {cd : qC} {cf : qF} {st : Nat → Bool} {K : qK} (hcd : qmc M = cd) (hok : qcodeok M) (hd0 : d0 + 1 ≤ d) (hcf : ∀ M' as μ r1, cf M' as μ = some r1 → qGood al base D ca cv d0 M' as μ r1)
    (hK : ∀ pc L S μ r, K pc L S μ = some r → qEv al base D ca cv d M r pc L S μ) (n : Nat) {pc : Nat} {L S : List Value} {μ : qM} {r : qR} (h : qblk al cf cd st K n pc L S μ = some r) : qEv al base D ca cv d M r pc L S μ := by
  subst hcd
  exact qblk_ev hok hd0 hcf hK n h
def qnodb : List Value → Bool
  | [] => true
  | .double _ :: _ => false
  | .float _ :: _ => false
  | .null :: _ => false
  | _ :: l => qnodb l
theorem qent_at {base : Nat} {cv : Nat → Value} (hcv : ∀ j, (cv j).category = 1) : ∀ (as : List Value) (n k : Nat), qnodb as = true → (lg_sl (as.map (qtr base cv))).length ≤ n → (qent as n).length = n ∧ ∀ i v, qnth (qent as n) i = some v → v ≠ .null → (k + i, qtr base cv v) ∈ lv_args k (as.map (qtr base cv)) := by
  intro as
  induction as with
  | nil =>
    intro n k _ _
    refine ⟨by simp [qent], fun i v h hv => ?_⟩
    rw [qent, qnth_eq, List.getElem?_replicate] at h
    split at h
    · exact absurd (Option.some.inj h).symm hv
    · cases h
  | cons a as ih =>
    intro n k hnd hsl
    have one : ∀ (w : Value), qtr base cv a = w → w.category = 1 → (∀ x, a ≠ .long x) → qnodb as = true → a ≠ .null → (qent (a :: as) n).length = n ∧ ∀ i v, qnth (qent (a :: as) n) i = some v → v ≠ .null → (k + i, qtr base cv v) ∈ lv_args k ((a :: as).map (qtr base cv)) := by
      intro w hw hcat hnl hnd2 hnn
      have he : qent (a :: as) n = a :: qent as (n - 1) := by
        cases a with
        | long x => exact absurd rfl (hnl x)
        | _ => rfl
      have hs2 : (lg_sl (as.map (qtr base cv))).length + 1 ≤ n := by
        have h1 : lg_sl ((a :: as).map (qtr base cv)) = [Slot.val w] ++ lg_sl (as.map (qtr base cv)) := by
          rw [List.map_cons, hw]
          simp [lg_sl, hcat]
        rw [h1] at hsl
        simp at hsl
        omega
      obtain ⟨i1, i2⟩ := ih (n - 1) (k + 1) hnd2 (by omega)
      rw [he]
      refine ⟨by simp [i1]; omega, fun i v h hv => ?_⟩
      rw [List.map_cons, lv_args, hw, if_neg (by rw [hcat]; decide)]
      cases i with
      | zero =>
        simp only [qnth, Option.some.injEq] at h
        subst h
        rw [hw]
        exact List.mem_cons_self
      | succ i =>
        have := i2 i v h hv
        rw [show k + 1 + i = k + (i + 1) by omega] at this
        exact List.mem_cons_of_mem _ this
    cases a with
    | long x =>
      have hs2 : (lg_sl (as.map (qtr base cv))).length + 2 ≤ n := by
        have h1 : lg_sl ((Value.long x :: as).map (qtr base cv)) = [Slot.val (.long x), Slot.second] ++ lg_sl (as.map (qtr base cv)) := by
          rw [List.map_cons, show qtr base cv (.long x) = .long x from rfl]
          simp [lg_sl, Value.category]
        rw [h1] at hsl
        simp at hsl
        omega
      obtain ⟨i1, i2⟩ := ih (n - 2) (k + 2) hnd (by omega)
      refine ⟨by simp [qent, i1]; omega, fun i v h hv => ?_⟩
      rw [List.map_cons, lv_args, show qtr base cv (.long x) = .long x from rfl, if_pos (show (Value.long x).category = 2 from rfl)]
      match i, h with
      | 0, h =>
        simp only [qent, qnth, Option.some.injEq] at h
        subst h
        exact List.mem_cons_self
      | 1, h =>
        simp only [qent, qnth, Option.some.injEq] at h
        exact absurd h.symm hv
      | i + 2, h =>
        have := i2 i v h hv
        rw [show k + 2 + i = k + (i + 2) by omega] at this
        exact List.mem_cons_of_mem _ this
    | double x => cases hnd
    | float x => cases hnd
    | null => cases hnd
    | int x => exact one _ rfl rfl (fun y h => by cases h) hnd (fun h => by cases h)
    | ref x => exact one _ rfl (by cases x <;> rfl) (fun y h => by cases h) hnd (fun h => by cases h)
    | retAddr j => exact one _ rfl (hcv j) (fun y h => by cases h) hnd (fun h => by cases h)
def qslots : List Value → Nat
  | [] => 0
  | .long _ :: l => qslots l + 2
  | _ :: l => qslots l + 1
theorem qslots_le {base : Nat} {cv : Nat → Value} (hcv : ∀ j, (cv j).category = 1) : ∀ (as : List Value), qnodb as = true → (lg_sl (as.map (qtr base cv))).length ≤ qslots as := by
  intro as
  induction as with
  | nil => intro _; exact Nat.le_refl _
  | cons a as ih =>
    intro h
    have hc : ∀ w : Value, (lg_sl (w :: as.map (qtr base cv))).length ≤ w.category + (lg_sl (as.map (qtr base cv))).length := by
      intro w
      simp only [lg_sl, List.flatMap_cons, List.length_append]
      rcases lv_cat w with h1 | h1 <;> simp [h1]
    rw [List.map_cons]
    cases a with
    | long x => have := hc (.long x); have := ih h; simp only [qslots, Value.category, qtr] at *; omega
    | double x => cases h
    | float x => cases h
    | null => cases h
    | int x => have := hc (.int x); have := ih h; simp only [qslots, Value.category, qtr] at *; omega
    | ref x =>
      have h1 := hc (qtr base cv (.ref x))
      have h2 : (qtr base cv (.ref x)).category = 1 := by cases x <;> rfl
      have := ih h
      simp only [qslots]
      omega
    | retAddr j =>
      have h1 := hc (qtr base cv (.retAddr j))
      have h2 : (qtr base cv (.retAddr j)).category = 1 := hcv j
      have := ih h
      simp only [qslots]
      omega
/-- A METHOD: from its entry on -/
theorem qgood_of {al : Bool} {base : Nat} {D : va_G} {ca : Nat → ClassId} {cv : Nat → Value} {d M : Nat} {as : List Value} {μ : qM} {r : qR} (hM : M < 279) (hd : 1 ≤ d) (hcvj : ∀ j, (cv j).category = 1) (hrv : qrecv M as μ) (hag : qargn M as) (hnd : qnodb as = true) (hsl : qslots as ≤ qmL M) (h0 : qbpc (qmc M) 0 = 0)
    (h : qEv al base D ca cv d M r 0 (qent as (qmL M)) [] μ) : qGood al base D ca cv d M as μ r := by
  have hmok := qm_ok hM
  refine ⟨h.1, hrv, hag, d, Nat.le_refl _, fun l => ?_⟩
  refine Met.ofW (cc := qmb M) (maxL := qmL M) (ret := qmret M) hmok.2.2.1 rfl ?_
  intro p e s m args below meth c s₁ B hml hv
  obtain ⟨rfl, hrep⟩ := hv
  obtain ⟨hP, hK, hSt, hbs, hz⟩ := hrep
  have hts : ∀ w ∈ qmw M, w.before _ s = true := atoms_spec (ws := qmw M) B.pre
  have hown : s.vm.findClass (qown (qmo M)) = some m.cls := by
    rw [← hmok.2.2.2.2]; exact findClass_of_methodNamed B.named
  have hini : qmi M = true → meth.name = "<init>" := by
    intro hi
    rw [(name_of_methodNamed B.named B.method).1]
    exact of_decide_eq_true hi
  have C : qCtx p (headSpec (qmw M) (qrm d (r.2.2.2.2.2.2.1 - μ.2.2.2.2.1) (r.2.2.2.2.2.2.2 - μ.2.2.2.2.2))).room s m (as.map (qtr base cv)).toArray meth c base D ca cv (qmo M) (qmi M) (qmb M) (qmL M) (r.2.2.2.2.2.2.1 - μ.2.2.2.2.1) (r.2.2.2.2.2.2.2 - μ.2.2.2.2.2) d :=
    ⟨B.exec, B.bytes, hml, hown, fun w hw => hts w (List.mem_cons_of_mem _ hw), hK, hSt, hbs, hcvj, hini, hd, Nat.le_refl _, Nat.le_refl _, Nat.le_refl _, Nat.le_refl _⟩
  have hgo := h.2 p l e _ s m _ below meth c _ _ C B.returns B.notSynchronized
  have hsl2 : (lg_sl (as.map (qtr base cv))).length ≤ qmL M := Nat.le_trans (qslots_le hcvj as hnd) hsl
  have hl := lv_entry (as.map (qtr base cv)) (n := qmL M) hsl2
  rw [lg_entry_eq]
  obtain ⟨i1, i2⟩ := qent_at (base := base) hcvj as (qmL M) 0 hnd hsl2
  have hls : qLs base cv ((lg_sl (as.map (qtr base cv)) ++ List.replicate (qmL M - (lg_sl (as.map (qtr base cv))).length) Slot.unset).toArray) (qmL M) (qent as (qmL M)) := by
    refine ⟨hl.1, i1, hl.2.1, fun i v h1 h2 => ?_⟩
    have := i2 i v h1 h2
    rw [Nat.zero_add] at this
    exact hl.2.2 _ this
  have fin := hgo.2 s.heap [] 0 0 _ hP va_S.rf hz hls (by omega) (by omega)
  rw [h0] at fin
  exact fin
end
section
set_option maxRecDepth 100000 in
theorem qcok_X0_init : qcodeok 0 := by decide +kernel
set_option maxRecDepth 100000 in
theorem qcok_X0_draw : qcodeok 1 := by decide +kernel
set_option maxRecDepth 100000 in
theorem qcok_X0_act : qcodeok 2 := by decide +kernel
set_option maxRecDepth 100000 in
theorem qcok_X0_start : qcodeok 3 := by decide +kernel
set_option maxRecDepth 100000 in
theorem qcok_X0_labour : qcodeok 4 := by decide +kernel
set_option maxRecDepth 100000 in
theorem qcok_X0_lock : qcodeok 5 := by decide +kernel
set_option maxRecDepth 100000 in
theorem qcok_X0_unlock : qcodeok 6 := by decide +kernel
set_option maxRecDepth 100000 in
theorem qcok_X0_finish : qcodeok 7 := by decide +kernel
set_option maxRecDepth 100000 in
theorem qcok_X0_collect : qcodeok 8 := by decide +kernel
set_option maxRecDepth 100000 in
theorem qcok_X0_setBulk : qcodeok 9 := by decide +kernel
set_option maxRecDepth 100000 in
theorem qcok_X0_fellAll : qcodeok 10 := by decide +kernel
set_option maxRecDepth 100000 in
theorem qcok_X0_cheapest : qcodeok 11 := by decide +kernel
set_option maxRecDepth 100000 in
theorem qcok_X0_costOf : qcodeok 12 := by decide +kernel
set_option maxRecDepth 100000 in
theorem qcok_X0_leave : qcodeok 13 := by decide +kernel
set_option maxRecDepth 100000 in
theorem qcok_X0_idle : qcodeok 14 := by decide +kernel
set_option maxRecDepth 100000 in
theorem qcok_X0_release : qcodeok 15 := by decide +kernel
set_option maxRecDepth 100000 in
theorem qcok_X0_takeDue : qcodeok 16 := by decide +kernel
set_option maxRecDepth 100000 in
theorem qcok_X0_serve : qcodeok 17 := by decide +kernel
set_option maxRecDepth 100000 in
theorem qcok_X0_goOn : qcodeok 18 := by decide +kernel
set_option maxRecDepth 100000 in
theorem qcok_X0_gatherAt : qcodeok 19 := by decide +kernel
set_option maxRecDepth 100000 in
theorem qcok_X1_init : qcodeok 20 := by decide +kernel
set_option maxRecDepth 100000 in
theorem qcok_X1_mark : qcodeok 21 := by decide +kernel
set_option maxRecDepth 100000 in
theorem qcok_X1_commit : qcodeok 22 := by decide +kernel
set_option maxRecDepth 100000 in
theorem qcok_X1_back : qcodeok 23 := by decide +kernel
set_option maxRecDepth 100000 in
theorem qcok_X2_init : qcodeok 24 := by decide +kernel
set_option maxRecDepth 100000 in
theorem qcok_X2_read : qcodeok 25 := by decide +kernel
set_option maxRecDepth 100000 in
theorem qcok_X2_waiters : qcodeok 26 := by decide +kernel
set_option maxRecDepth 100000 in
theorem qcok_X2_reachers : qcodeok 27 := by decide +kernel
set_option maxRecDepth 100000 in
theorem qcok_X2_inRings : qcodeok 28 := by decide +kernel
set_option maxRecDepth 100000 in
theorem qcok_X2_shortest : qcodeok 29 := by decide +kernel
set_option maxRecDepth 100000 in
theorem qcok_X2_measure : qcodeok 30 := by decide +kernel
set_option maxRecDepth 100000 in
theorem qcok_X2_nearer : qcodeok 31 := by decide +kernel
set_option maxRecDepth 100000 in
theorem qcok_X3_init : qcodeok 32 := by decide +kernel
set_option maxRecDepth 100000 in
theorem qcok_X3_add : qcodeok 33 := by decide +kernel
set_option maxRecDepth 100000 in
theorem qcok_X3_one : qcodeok 34 := by decide +kernel
set_option maxRecDepth 100000 in
theorem qcok_X3_two : qcodeok 35 := by decide +kernel
set_option maxRecDepth 100000 in
theorem qcok_X3_list : qcodeok 36 := by decide +kernel
set_option maxRecDepth 100000 in
theorem qcok_X4_init : qcodeok 37 := by decide +kernel
set_option maxRecDepth 100000 in
theorem qcok_X4_copy : qcodeok 38 := by decide +kernel
set_option maxRecDepth 100000 in
theorem qcok_X4_read : qcodeok 39 := by decide +kernel
set_option maxRecDepth 100000 in
theorem qcok_X4_takeThing : qcodeok 40 := by decide +kernel
set_option maxRecDepth 100000 in
theorem qcok_X4_takeBehind : qcodeok 41 := by decide +kernel
set_option maxRecDepth 100000 in
theorem qcok_X4_takeDigit : qcodeok 42 := by decide +kernel
set_option maxRecDepth 100000 in
theorem qcok_X4_close : qcodeok 43 := by decide +kernel
set_option maxRecDepth 100000 in
theorem qcok_X4_settle : qcodeok 44 := by decide +kernel
set_option maxRecDepth 100000 in
theorem qcok_X4_postpone : qcodeok 45 := by decide +kernel
set_option maxRecDepth 100000 in
theorem qcok_X4_put : qcodeok 46 := by decide +kernel
set_option maxRecDepth 100000 in
theorem qcok_X4_cost : qcodeok 47 := by decide +kernel
set_option maxRecDepth 100000 in
theorem qcok_X4_valueOf : qcodeok 48 := by decide +kernel
set_option maxRecDepth 100000 in
theorem qcok_X4_reckon : qcodeok 49 := by decide +kernel
set_option maxRecDepth 100000 in
theorem qcok_X4_rankOf : qcodeok 50 := by decide +kernel
set_option maxRecDepth 100000 in
theorem qcok_X4_isLetter : qcodeok 51 := by decide +kernel
set_option maxRecDepth 100000 in
theorem qcok_X5_init : qcodeok 52 := by decide +kernel
set_option maxRecDepth 100000 in
theorem qcok_X5_copy : qcodeok 53 := by decide +kernel
set_option maxRecDepth 100000 in
theorem qcok_X5_modeAt : qcodeok 54 := by decide +kernel
set_option maxRecDepth 100000 in
theorem qcok_X5_setMode : qcodeok 55 := by decide +kernel
set_option maxRecDepth 100000 in
theorem qcok_X5_standing : qcodeok 56 := by decide +kernel
set_option maxRecDepth 100000 in
theorem qcok_X5_firstRunning : qcodeok 57 := by decide +kernel
set_option maxRecDepth 100000 in
theorem qcok_X5_holdings : qcodeok 58 := by decide +kernel
set_option maxRecDepth 100000 in
theorem qcok_X5_allHoldings : qcodeok 59 := by decide +kernel
set_option maxRecDepth 100000 in
theorem qcok_X5_allFalls : qcodeok 60 := by decide +kernel
set_option maxRecDepth 100000 in
theorem qcok_X5_heldSum : qcodeok 61 := by decide +kernel
set_option maxRecDepth 100000 in
theorem qcok_X5_holdingsBelow : qcodeok 62 := by decide +kernel
set_option maxRecDepth 100000 in
theorem qcok_X5_gatherMode : qcodeok 63 := by decide +kernel
set_option maxRecDepth 100000 in
theorem qcok_X5_firstAbove : qcodeok 64 := by decide +kernel
set_option maxRecDepth 100000 in
theorem qcok_X5_isCovered : qcodeok 65 := by decide +kernel
set_option maxRecDepth 100000 in
theorem qcok_X5_fits : qcodeok 66 := by decide +kernel
set_option maxRecDepth 100000 in
theorem qcok_X5_isOpen : qcodeok 67 := by decide +kernel
set_option maxRecDepth 100000 in
theorem qcok_X5_stopLevel : qcodeok 68 := by decide +kernel
set_option maxRecDepth 100000 in
theorem qcok_X5_newSteps : qcodeok 69 := by decide +kernel
set_option maxRecDepth 100000 in
theorem qcok_X5_requests : qcodeok 70 := by decide +kernel
set_option maxRecDepth 100000 in
theorem qcok_X5_changes : qcodeok 71 := by decide +kernel
set_option maxRecDepth 100000 in
theorem qcok_X5_isChange : qcodeok 72 := by decide +kernel
set_option maxRecDepth 100000 in
theorem qcok_X5_isAhead : qcodeok 73 := by decide +kernel
set_option maxRecDepth 100000 in
theorem qcok_X5_position : qcodeok 74 := by decide +kernel
set_option maxRecDepth 100000 in
theorem qcok_X5_firstInQueue : qcodeok 75 := by decide +kernel
set_option maxRecDepth 100000 in
theorem qcok_X5_forWhom : qcodeok 76 := by decide +kernel
set_option maxRecDepth 100000 in
theorem qcok_X5_enqueue : qcodeok 77 := by decide +kernel
set_option maxRecDepth 100000 in
theorem qcok_X5_grant : qcodeok 78 := by decide +kernel
set_option maxRecDepth 100000 in
theorem qcok_X6_init : qcodeok 79 := by decide +kernel
set_option maxRecDepth 100000 in
theorem qcok_X6_addFour : qcodeok 80 := by decide +kernel
set_option maxRecDepth 100000 in
theorem qcok_X6_at : qcodeok 81 := by decide +kernel
set_option maxRecDepth 100000 in
theorem qcok_X6_digit : qcodeok 82 := by decide +kernel
set_option maxRecDepth 100000 in
theorem qcok_X6_says : qcodeok 83 := by decide +kernel
set_option maxRecDepth 100000 in
theorem qcok_X6_modeName : qcodeok 84 := by decide +kernel
set_option maxRecDepth 100000 in
theorem qcok_X6_wrongInDay : qcodeok 85 := by decide +kernel
set_option maxRecDepth 100000 in
theorem qcok_X6_digitsOf : qcodeok 86 := by decide +kernel
set_option maxRecDepth 100000 in
theorem qcok_X7_init : qcodeok 87 := by decide +kernel
set_option maxRecDepth 100000 in
theorem qcok_X7_sign : qcodeok 88 := by decide +kernel
set_option maxRecDepth 100000 in
theorem qcok_X7_end : qcodeok 89 := by decide +kernel
set_option maxRecDepth 100000 in
theorem qcok_X7_rule : qcodeok 90 := by decide +kernel
set_option maxRecDepth 100000 in
theorem qcok_X7_modes : qcodeok 91 := by decide +kernel
set_option maxRecDepth 100000 in
theorem qcok_X7_named : qcodeok 92 := by decide +kernel
set_option maxRecDepth 100000 in
theorem qcok_X7_owner : qcodeok 93 := by decide +kernel
set_option maxRecDepth 100000 in
theorem qcok_X7_held : qcodeok 94 := by decide +kernel
set_option maxRecDepth 100000 in
theorem qcok_X7_begins : qcodeok 95 := by decide +kernel
set_option maxRecDepth 100000 in
theorem qcok_X7_works : qcodeok 96 := by decide +kernel
set_option maxRecDepth 100000 in
theorem qcok_X7_locks : qcodeok 97 := by decide +kernel
set_option maxRecDepth 100000 in
theorem qcok_X7_unlocks : qcodeok 98 := by decide +kernel
set_option maxRecDepth 100000 in
theorem qcok_X7_ends : qcodeok 99 := by decide +kernel
set_option maxRecDepth 100000 in
theorem qcok_X7_gathers : qcodeok 100 := by decide +kernel
set_option maxRecDepth 100000 in
theorem qcok_X7_bulk : qcodeok 101 := by decide +kernel
set_option maxRecDepth 100000 in
theorem qcok_X7_fells : qcodeok 102 := by decide +kernel
set_option maxRecDepth 100000 in
theorem qcok_X7_day : qcodeok 103 := by decide +kernel
set_option maxRecDepth 100000 in
theorem qcok_X7_undo : qcodeok 104 := by decide +kernel
set_option maxRecDepth 100000 in
theorem qcok_X7_holders : qcodeok 105 := by decide +kernel
set_option maxRecDepth 100000 in
theorem qcok_X7_queue : qcodeok 106 := by decide +kernel
set_option maxRecDepth 100000 in
theorem qcok_X7_waits : qcodeok 107 := by decide +kernel
set_option maxRecDepth 100000 in
theorem qcok_X7_covers : qcodeok 108 := by decide +kernel
set_option maxRecDepth 100000 in
theorem qcok_X7_may : qcodeok 109 := by decide +kernel
set_option maxRecDepth 100000 in
theorem qcok_X7_free : qcodeok 110 := by decide +kernel
set_option maxRecDepth 100000 in
theorem qcok_X7_behind : qcodeok 111 := by decide +kernel
set_option maxRecDepth 100000 in
theorem qcok_X7_stops : qcodeok 112 := by decide +kernel
set_option maxRecDepth 100000 in
theorem qcok_X7_rings : qcodeok 113 := by decide +kernel
set_option maxRecDepth 100000 in
theorem qcok_X7_ring : qcodeok 114 := by decide +kernel
set_option maxRecDepth 100000 in
theorem qcok_X7_victim : qcodeok 115 := by decide +kernel
set_option maxRecDepth 100000 in
theorem qcok_X7_frees : qcodeok 116 := by decide +kernel
set_option maxRecDepth 100000 in
theorem qcok_X7_drains : qcodeok 117 := by decide +kernel
set_option maxRecDepth 100000 in
theorem qcok_X7_saves : qcodeok 118 := by decide +kernel
set_option maxRecDepth 100000 in
theorem qcok_X7_holds : qcodeok 119 := by decide +kernel
set_option maxRecDepth 100000 in
theorem qcok_X7_common : qcodeok 120 := by decide +kernel
set_option maxRecDepth 100000 in
theorem qcok_X7_queues : qcodeok 121 := by decide +kernel
set_option maxRecDepth 100000 in
theorem qcok_X7_sum : qcodeok 122 := by decide +kernel
set_option maxRecDepth 100000 in
theorem qcok_X7_law : qcodeok 123 := by decide +kernel
set_option maxRecDepth 100000 in
theorem qcok_X7_years : qcodeok 124 := by decide +kernel
set_option maxRecDepth 100000 in
theorem qcok_X7_keep : qcodeok 125 := by decide +kernel
set_option maxRecDepth 100000 in
theorem qcok_X7_again : qcodeok 126 := by decide +kernel
set_option maxRecDepth 100000 in
theorem qcok_X7_count : qcodeok 127 := by decide +kernel
set_option maxRecDepth 100000 in
theorem qcok_X7_row : qcodeok 128 := by decide +kernel
set_option maxRecDepth 100000 in
theorem qcok_X7_noted : qcodeok 129 := by decide +kernel
set_option maxRecDepth 100000 in
theorem qcok_X7_runsWithout : qcodeok 130 := by decide +kernel
set_option maxRecDepth 100000 in
theorem qcok_X7_isOwner : qcodeok 131 := by decide +kernel
set_option maxRecDepth 100000 in
theorem qcok_X7_isPlace : qcodeok 132 := by decide +kernel
set_option maxRecDepth 100000 in
theorem qcok_X7_isMode : qcodeok 133 := by decide +kernel
set_option maxRecDepth 100000 in
theorem qcok_X7_isLockMode : qcodeok 134 := by decide +kernel
set_option maxRecDepth 100000 in
theorem qcok_X7_levelOf : qcodeok 135 := by decide +kernel
set_option maxRecDepth 100000 in
theorem qcok_X7_onPath : qcodeok 136 := by decide +kernel
set_option maxRecDepth 100000 in
theorem qcok_X7_stepMode : qcodeok 137 := by decide +kernel
set_option maxRecDepth 100000 in
theorem qcok_X7_isDigit : qcodeok 138 := by decide +kernel
set_option maxRecDepth 100000 in
theorem qcok_X8_thrown : qcodeok 139 := by decide +kernel
set_option maxRecDepth 100000 in
theorem qcok_X8_refuse : qcodeok 140 := by decide +kernel
set_option maxRecDepth 100000 in
theorem qcok_X8_in : qcodeok 141 := by decide +kernel
set_option maxRecDepth 100000 in
theorem qcok_X8_has : qcodeok 142 := by decide +kernel
set_option maxRecDepth 100000 in
theorem qcok_X8_flag : qcodeok 143 := by decide +kernel
set_option maxRecDepth 100000 in
theorem qcok_X8_enters : qcodeok 144 := by decide +kernel
set_option maxRecDepth 100000 in
theorem qcok_X8_parent : qcodeok 145 := by decide +kernel
set_option maxRecDepth 100000 in
theorem qcok_X8_isBelow : qcodeok 146 := by decide +kernel
set_option maxRecDepth 100000 in
theorem qcok_X8_isPlace : qcodeok 147 := by decide +kernel
set_option maxRecDepth 100000 in
theorem qcok_X8_isMode : qcodeok 148 := by decide +kernel
set_option maxRecDepth 100000 in
theorem qcok_X8_together : qcodeok 149 := by decide +kernel
set_option maxRecDepth 100000 in
theorem qcok_X8_both : qcodeok 150 := by decide +kernel
set_option maxRecDepth 100000 in
theorem qcok_X8_modes : qcodeok 151 := by decide +kernel
set_option maxRecDepth 100000 in
theorem qcok_X8_sign : qcodeok 152 := by decide +kernel
set_option maxRecDepth 100000 in
theorem qcok_X8_end : qcodeok 153 := by decide +kernel
set_option maxRecDepth 100000 in
theorem qcok_X8_reads : qcodeok 154 := by decide +kernel
set_option maxRecDepth 100000 in
theorem qcok_X8_takes : qcodeok 155 := by decide +kernel
set_option maxRecDepth 100000 in
theorem qcok_X8_isDigit : qcodeok 156 := by decide +kernel
set_option maxRecDepth 100000 in
theorem qcok_X8_takesOf : qcodeok 157 := by decide +kernel
set_option maxRecDepth 100000 in
theorem qcok_X8_number : qcodeok 158 := by decide +kernel
set_option maxRecDepth 100000 in
theorem qcok_X8_two : qcodeok 159 := by decide +kernel
set_option maxRecDepth 100000 in
theorem qcok_X8_faultOf : qcodeok 160 := by decide +kernel
set_option maxRecDepth 100000 in
theorem qcok_X8_named : qcodeok 161 := by decide +kernel
set_option maxRecDepth 100000 in
theorem qcok_X8_codes : qcodeok 162 := by decide +kernel
set_option maxRecDepth 100000 in
theorem qcok_X8_readsThing : qcodeok 163 := by decide +kernel
set_option maxRecDepth 100000 in
theorem qcok_X8_readsRank : qcodeok 164 := by decide +kernel
set_option maxRecDepth 100000 in
theorem qcok_X8_readsRule : qcodeok 165 := by decide +kernel
set_option maxRecDepth 100000 in
theorem qcok_X8_laysCode : qcodeok 166 := by decide +kernel
set_option maxRecDepth 100000 in
theorem qcok_X8_rule : qcodeok 167 := by decide +kernel
set_option maxRecDepth 100000 in
theorem qcok_X8_worked : qcodeok 168 := by decide +kernel
set_option maxRecDepth 100000 in
theorem qcok_X8_ruled : qcodeok 169 := by decide +kernel
set_option maxRecDepth 100000 in
theorem qcok_X8_init : qcodeok 170 := by decide +kernel
set_option maxRecDepth 100000 in
theorem qcok_X8_isOwner : qcodeok 171 := by decide +kernel
set_option maxRecDepth 100000 in
theorem qcok_X8_held : qcodeok 172 := by decide +kernel
set_option maxRecDepth 100000 in
theorem qcok_X8_heldMany : qcodeok 173 := by decide +kernel
set_option maxRecDepth 100000 in
theorem qcok_X8_aloneMany : qcodeok 174 := by decide +kernel
set_option maxRecDepth 100000 in
theorem qcok_X8_so : qcodeok 175 := by decide +kernel
set_option maxRecDepth 100000 in
theorem qcok_X8_isChange : qcodeok 176 := by decide +kernel
set_option maxRecDepth 100000 in
theorem qcok_X8_isAhead : qcodeok 177 := by decide +kernel
set_option maxRecDepth 100000 in
theorem qcok_X8_isIn : qcodeok 178 := by decide +kernel
set_option maxRecDepth 100000 in
theorem qcok_X8_queued : qcodeok 179 := by decide +kernel
set_option maxRecDepth 100000 in
theorem qcok_X8_hasChange : qcodeok 180 := by decide +kernel
set_option maxRecDepth 100000 in
theorem qcok_X8_aheadOf : qcodeok 181 := by decide +kernel
set_option maxRecDepth 100000 in
theorem qcok_X8_inQueue : qcodeok 182 := by decide +kernel
set_option maxRecDepth 100000 in
theorem qcok_X8_goesWithOthers : qcodeok 183 := by decide +kernel
set_option maxRecDepth 100000 in
theorem qcok_X8_waitsFor : qcodeok 184 := by decide +kernel
set_option maxRecDepth 100000 in
theorem qcok_X8_behindOf : qcodeok 185 := by decide +kernel
set_option maxRecDepth 100000 in
theorem qcok_X8_comesTo : qcodeok 186 := by decide +kernel
set_option maxRecDepth 100000 in
theorem qcok_X8_ringed : qcodeok 187 := by decide +kernel
set_option maxRecDepth 100000 in
theorem qcok_X8_waitersOf : qcodeok 188 := by decide +kernel
set_option maxRecDepth 100000 in
theorem qcok_X8_cost : qcodeok 189 := by decide +kernel
set_option maxRecDepth 100000 in
theorem qcok_X8_holdsNow : qcodeok 190 := by decide +kernel
set_option maxRecDepth 100000 in
theorem qcok_X8_isShared : qcodeok 191 := by decide +kernel
set_option maxRecDepth 100000 in
theorem qcok_X8_wanted : qcodeok 192 := by decide +kernel
set_option maxRecDepth 100000 in
theorem qcok_X8_isGranted : qcodeok 193 := by decide +kernel
set_option maxRecDepth 100000 in
theorem qcok_X8_steps : qcodeok 194 := by decide +kernel
set_option maxRecDepth 100000 in
theorem qcok_X8_nextOn : qcodeok 195 := by decide +kernel
set_option maxRecDepth 100000 in
theorem qcok_X8_modeOn : qcodeok 196 := by decide +kernel
set_option maxRecDepth 100000 in
theorem qcok_X8_isCovered : qcodeok 197 := by decide +kernel
set_option maxRecDepth 100000 in
theorem qcok_X8_goesOn : qcodeok 198 := by decide +kernel
set_option maxRecDepth 100000 in
theorem qcok_X8_rowsHeld : qcodeok 199 := by decide +kernel
set_option maxRecDepth 100000 in
theorem qcok_X8_belowMany : qcodeok 200 := by decide +kernel
set_option maxRecDepth 100000 in
theorem qcok_X8_gatheredMode : qcodeok 201 := by decide +kernel
set_option maxRecDepth 100000 in
theorem qcok_X8_canGather : qcodeok 202 := by decide +kernel
set_option maxRecDepth 100000 in
theorem qcok_X8_gathersOne : qcodeok 203 := by decide +kernel
set_option maxRecDepth 100000 in
theorem qcok_X8_servesAll : qcodeok 204 := by decide +kernel
set_option maxRecDepth 100000 in
theorem qcok_X8_serves : qcodeok 205 := by decide +kernel
set_option maxRecDepth 100000 in
theorem qcok_X8_locksOne : qcodeok 206 := by decide +kernel
set_option maxRecDepth 100000 in
theorem qcok_X8_beginsOne : qcodeok 207 := by decide +kernel
set_option maxRecDepth 100000 in
theorem qcok_X8_worksOne : qcodeok 208 := by decide +kernel
set_option maxRecDepth 100000 in
theorem qcok_X8_unlocksOne : qcodeok 209 := by decide +kernel
set_option maxRecDepth 100000 in
theorem qcok_X8_goes : qcodeok 210 := by decide +kernel
set_option maxRecDepth 100000 in
theorem qcok_X8_endsOne : qcodeok 211 := by decide +kernel
set_option maxRecDepth 100000 in
theorem qcok_X8_gathersAt : qcodeok 212 := by decide +kernel
set_option maxRecDepth 100000 in
theorem qcok_X8_bulksOne : qcodeok 213 := by decide +kernel
set_option maxRecDepth 100000 in
theorem qcok_X8_cheapest : qcodeok 214 := by decide +kernel
set_option maxRecDepth 100000 in
theorem qcok_X8_fellsAll : qcodeok 215 := by decide +kernel
set_option maxRecDepth 100000 in
theorem qcok_X8_putsBy : qcodeok 216 := by decide +kernel
set_option maxRecDepth 100000 in
theorem qcok_X8_adds : qcodeok 217 := by decide +kernel
set_option maxRecDepth 100000 in
theorem qcok_X8_counted : qcodeok 218 := by decide +kernel
set_option maxRecDepth 100000 in
theorem qcok_X8_undo : qcodeok 219 := by decide +kernel
set_option maxRecDepth 100000 in
theorem qcok_X8_owner : qcodeok 220 := by decide +kernel
set_option maxRecDepth 100000 in
theorem qcok_X8_held_ : qcodeok 221 := by decide +kernel
set_option maxRecDepth 100000 in
theorem qcok_X8_begins : qcodeok 222 := by decide +kernel
set_option maxRecDepth 100000 in
theorem qcok_X8_works : qcodeok 223 := by decide +kernel
set_option maxRecDepth 100000 in
theorem qcok_X8_locks : qcodeok 224 := by decide +kernel
set_option maxRecDepth 100000 in
theorem qcok_X8_unlocks : qcodeok 225 := by decide +kernel
set_option maxRecDepth 100000 in
theorem qcok_X8_ends : qcodeok 226 := by decide +kernel
set_option maxRecDepth 100000 in
theorem qcok_X8_gathers : qcodeok 227 := by decide +kernel
set_option maxRecDepth 100000 in
theorem qcok_X8_bulk : qcodeok 228 := by decide +kernel
set_option maxRecDepth 100000 in
theorem qcok_X8_fells : qcodeok 229 := by decide +kernel
set_option maxRecDepth 100000 in
theorem qcok_X8_readsAct : qcodeok 230 := by decide +kernel
set_option maxRecDepth 100000 in
theorem qcok_X8_does : qcodeok 231 := by decide +kernel
set_option maxRecDepth 100000 in
theorem qcok_X8_day : qcodeok 232 := by decide +kernel
set_option maxRecDepth 100000 in
theorem qcok_X8_holders : qcodeok 233 := by decide +kernel
set_option maxRecDepth 100000 in
theorem qcok_X8_queue : qcodeok 234 := by decide +kernel
set_option maxRecDepth 100000 in
theorem qcok_X8_waits : qcodeok 235 := by decide +kernel
set_option maxRecDepth 100000 in
theorem qcok_X8_firstAbove : qcodeok 236 := by decide +kernel
set_option maxRecDepth 100000 in
theorem qcok_X8_covers : qcodeok 237 := by decide +kernel
set_option maxRecDepth 100000 in
theorem qcok_X8_wouldWait : qcodeok 238 := by decide +kernel
set_option maxRecDepth 100000 in
theorem qcok_X8_may : qcodeok 239 := by decide +kernel
set_option maxRecDepth 100000 in
theorem qcok_X8_free : qcodeok 240 := by decide +kernel
set_option maxRecDepth 100000 in
theorem qcok_X8_behind : qcodeok 241 := by decide +kernel
set_option maxRecDepth 100000 in
theorem qcok_X8_stops : qcodeok 242 := by decide +kernel
set_option maxRecDepth 100000 in
theorem qcok_X8_rings : qcodeok 243 := by decide +kernel
set_option maxRecDepth 100000 in
theorem qcok_X8_laysSteps : qcodeok 244 := by decide +kernel
set_option maxRecDepth 100000 in
theorem qcok_X8_ring : qcodeok 245 := by decide +kernel
set_option maxRecDepth 100000 in
theorem qcok_X8_victim : qcodeok 246 := by decide +kernel
set_option maxRecDepth 100000 in
theorem qcok_X8_copies : qcodeok 247 := by decide +kernel
set_option maxRecDepth 100000 in
theorem qcok_X8_frees : qcodeok 248 := by decide +kernel
set_option maxRecDepth 100000 in
theorem qcok_X8_drains : qcodeok 249 := by decide +kernel
set_option maxRecDepth 100000 in
theorem qcok_X8_saves : qcodeok 250 := by decide +kernel
set_option maxRecDepth 100000 in
theorem qcok_X8_holds : qcodeok 251 := by decide +kernel
set_option maxRecDepth 100000 in
theorem qcok_X8_common : qcodeok 252 := by decide +kernel
set_option maxRecDepth 100000 in
theorem qcok_X8_queues : qcodeok 253 := by decide +kernel
set_option maxRecDepth 100000 in
theorem qcok_X8_sumOf : qcodeok 254 := by decide +kernel
set_option maxRecDepth 100000 in
theorem qcok_X8_sum : qcodeok 255 := by decide +kernel
set_option maxRecDepth 100000 in
theorem qcok_X8_law : qcodeok 256 := by decide +kernel
set_option maxRecDepth 100000 in
theorem qcok_X8_draws : qcodeok 257 := by decide +kernel
set_option maxRecDepth 100000 in
theorem qcok_X8_drawnAct : qcodeok 258 := by decide +kernel
set_option maxRecDepth 100000 in
theorem qcok_X8_fallsOf : qcodeok 259 := by decide +kernel
set_option maxRecDepth 100000 in
theorem qcok_X8_years : qcodeok 260 := by decide +kernel
set_option maxRecDepth 100000 in
theorem qcok_X8_keep : qcodeok 261 := by decide +kernel
set_option maxRecDepth 100000 in
theorem qcok_X8_again : qcodeok 262 := by decide +kernel
set_option maxRecDepth 100000 in
theorem qcok_X8_count : qcodeok 263 := by decide +kernel
set_option maxRecDepth 100000 in
theorem qcok_X8_row : qcodeok 264 := by decide +kernel
set_option maxRecDepth 100000 in
theorem qcok_J6_compare_7cf53 : qcodeok 265 := by decide +kernel
set_option maxRecDepth 100000 in
theorem qcok_J6_numberOfTrailingZeros_0f7a4 : qcodeok 266 := by decide +kernel
set_option maxRecDepth 100000 in
theorem qcok_J6_bitCount_0f7a4 : qcodeok 267 := by decide +kernel
set_option maxRecDepth 100000 in
theorem qcok_J0_length_8abf5 : qcodeok 268 := by decide +kernel
set_option maxRecDepth 100000 in
theorem qcok_J0_charAt_5068e : qcodeok 269 := by decide +kernel
set_option maxRecDepth 100000 in
theorem qcok_J0_coder_7d493 : qcodeok 270 := by decide +kernel
set_option maxRecDepth 100000 in
theorem qcok_J0_isLatin1_aae02 : qcodeok 271 := by decide +kernel
set_option maxRecDepth 100000 in
theorem qcok_J0_checkIndex_df160 : qcodeok 272 := by decide +kernel
set_option maxRecDepth 100000 in
theorem qcok_J1_charAt_3b067 : qcodeok 273 := by decide +kernel
set_option maxRecDepth 100000 in
theorem qcok_J3_checkIndex_8e157 : qcodeok 278 := by decide +kernel
end
section
/-! FUNCTIONS out of the codes, and that the machine does as they do, 0 (printed by gen/emit6.py) -/
noncomputable def gX0_draw (a0 : Nat) (a1 : Int32) (μ : qM) : Option qR :=
  qbnd (oGetI μ 0 a0 4) fun v1 =>
  qbnd (oPutI μ 0 a0 4 ((v1 * (1103515245 : Int32)) + (12345 : Int32))) fun μ2 =>
  if (1 : Int32) ≤ a1 then
    qbnd (oGetI μ2 0 a0 4) fun v3 =>
    if a1 = 0 then none else
    some (((qush v3 (16 : Int32)) - (qush v3 (16 : Int32)) / a1 * a1), 0, μ2)
  else
    some ((0 : Int32), 0, μ2)
noncomputable def fX0_draw (a0 : Nat) (a1 : Int32) (μ : qM) : Option qR := if (qk μ a0).1 = 0 then gX0_draw a0 a1 μ else none
noncomputable def aX0_draw (l : List Value) (μ : qM) : Option qR := match l with
  | [.ref x0, .int x1] => fX0_draw x0 x1 μ
  | _ => none
noncomputable def cfX0_draw : qF := fun n l μ => none
theorem hcX0_draw {base : Nat} {D : va_G} {ca : Nat → ClassId} {cv : Nat → Value} (hcv : ∀ j, (cv j).category = 1) : ∀ M as μ r, cfX0_draw M as μ = some r → qGood false base D ca cv 0 M as μ r := by
  intro M as μ r h
  cases h
theorem npX0_draw : (parseMethodDescriptor (qmy 1).desc).map (fun d => d.parameters.length) = some 1 := by decide +kernel
theorem gdX0_draw {base : Nat} {D : va_G} {ca : Nat → ClassId} {cv : Nat → Value} (hcv : ∀ j, (cv j).category = 1) {a0 : Nat} {a1 : Int32} {μ : qM} {r : qR} (h : fX0_draw a0 a1 μ = some r) : qGood false base D ca cv 1 1 [.ref a0, .int a1] μ r := by
  unfold fX0_draw at h
  split at h
  · rename_i hk0
    exact qgood_of (by decide) (by omega) hcv (Or.inr ⟨by decide +kernel, hk0⟩) npX0_draw rfl (by decide) rfl (qblk_ev2 (cf := cfX0_draw) (st := (fun n => qin [] n)) (K := (fun pc L S μ => none)) (cd := qcX0_draw) (M := 1) (d0 := 0) rfl qcok_X0_draw (Nat.le_refl _) (hcX0_draw hcv) (by
    intro pc L S μ r h
    cases h) 400 (pc := 0) (L := qent [.ref a0, .int a1] 2) (S := []) h)
  · cases h
theorem gaX0_draw {base : Nat} {D : va_G} {ca : Nat → ClassId} {cv : Nat → Value} (hcv : ∀ j, (cv j).category = 1) {l : List Value} {μ : qM} {r : qR} (h : aX0_draw l μ = some r) : qGood false base D ca cv 1 1 l μ r := by
  unfold aX0_draw at h
  split at h
  · exact gdX0_draw hcv h
  · cases h
noncomputable def fX7_isOwner (a0 : Int32) (μ : qM) : Option qR :=
  if a0 < 0 then
    if qnz (0 : Int32) = (0 : Int32) then some ((0 : Int32), 0, μ) else none
  else
    if (8 : Int32) ≤ a0 then
      if qnz (0 : Int32) = (0 : Int32) then some ((0 : Int32), 0, μ) else none
    else
      if qnz (1 : Int32) = (1 : Int32) then some ((1 : Int32), 0, μ) else none
noncomputable def aX7_isOwner (l : List Value) (μ : qM) : Option qR := match l with
  | [.int x0] => fX7_isOwner x0 μ
  | _ => none
noncomputable def cfX7_isOwner : qF := fun n l μ => none
theorem hcX7_isOwner {base : Nat} {D : va_G} {ca : Nat → ClassId} {cv : Nat → Value} (hcv : ∀ j, (cv j).category = 1) : ∀ M as μ r, cfX7_isOwner M as μ = some r → qGood false base D ca cv 0 M as μ r := by
  intro M as μ r h
  cases h
theorem npX7_isOwner : (parseMethodDescriptor (qmy 131).desc).map (fun d => d.parameters.length) = some 1 := by decide +kernel
theorem gdX7_isOwner {base : Nat} {D : va_G} {ca : Nat → ClassId} {cv : Nat → Value} (hcv : ∀ j, (cv j).category = 1) {a0 : Int32} {μ : qM} {r : qR} (h : fX7_isOwner a0 μ = some r) : qGood false base D ca cv 1 131 [.int a0] μ r := by
  exact qgood_of (by decide) (by omega) hcv (Or.inl rfl) npX7_isOwner rfl (by decide) rfl (qblk_ev2 (cf := cfX7_isOwner) (st := (fun n => qin [] n)) (K := (fun pc L S μ => none)) (cd := qcX7_isOwner) (M := 131) (d0 := 0) rfl qcok_X7_isOwner (Nat.le_refl _) (hcX7_isOwner hcv) (by
    intro pc L S μ r h
    cases h) 400 (pc := 0) (L := qent [.int a0] 1) (S := []) h)
theorem gaX7_isOwner {base : Nat} {D : va_G} {ca : Nat → ClassId} {cv : Nat → Value} (hcv : ∀ j, (cv j).category = 1) {l : List Value} {μ : qM} {r : qR} (h : aX7_isOwner l μ = some r) : qGood false base D ca cv 1 131 l μ r := by
  unfold aX7_isOwner at h
  split at h
  · exact gdX7_isOwner hcv h
  · cases h
noncomputable def gX0_start (a0 : Nat) (a1 : Int32) (μ : qM) : Option qR :=
  qbnd (fX7_isOwner a1 μ) fun r1 =>
  if r1.1 = 0 then
    some ((-1 : Int32), 0, r1.2.2)
  else
    qbnd (oGetP r1.2.2 0 a0 0) fun v2 =>
    qbnd (oGetP r1.2.2 5 v2 1) fun v3 =>
    qbnd (oLdI 20 r1.2.2 v3 a1) fun v4 =>
    if v4 = 0 then
      qbnd (oGetP r1.2.2 0 a0 0) fun v5 =>
      qbnd (oGetI r1.2.2 5 v5 11) fun v6 =>
      qbnd (oPutI r1.2.2 5 v5 11 (v6 + (1 : Int32))) fun μ7 =>
      qbnd (oGetP μ7 0 a0 0) fun v8 =>
      qbnd (oGetP μ7 5 v8 1) fun v9 =>
      qbnd (oStI 20 μ7 v9 a1 (1 : Int32)) fun μ10 =>
      qbnd (oGetP μ10 0 a0 0) fun v11 =>
      qbnd (oGetP μ10 5 v11 2) fun v12 =>
      qbnd (oGetP μ10 0 a0 0) fun v13 =>
      qbnd (oGetI μ10 5 v13 11) fun v14 =>
      qbnd (oStI 20 μ10 v12 a1 v14) fun μ15 =>
      qbnd (oGetP μ15 0 a0 0) fun v16 =>
      qbnd (oGetI μ15 5 v16 11) fun v17 =>
      some (v17, 0, μ15)
    else
      some ((-2 : Int32), 0, r1.2.2)
noncomputable def fX0_start (a0 : Nat) (a1 : Int32) (μ : qM) : Option qR := if (qk μ a0).1 = 0 then gX0_start a0 a1 μ else none
noncomputable def aX0_start (l : List Value) (μ : qM) : Option qR := match l with
  | [.ref x0, .int x1] => fX0_start x0 x1 μ
  | _ => none
noncomputable def cfX0_start : qF := fun n l μ => if n = 131 then aX7_isOwner l μ else none
theorem hcX0_start {base : Nat} {D : va_G} {ca : Nat → ClassId} {cv : Nat → Value} (hcv : ∀ j, (cv j).category = 1) : ∀ M as μ r, cfX0_start M as μ = some r → qGood false base D ca cv 1 M as μ r := by
  intro M as μ r h
  unfold cfX0_start at h
  split at h
  · rename_i e; subst e; exact (gaX7_isOwner hcv h).mono (by omega)
  cases h
theorem npX0_start : (parseMethodDescriptor (qmy 3).desc).map (fun d => d.parameters.length) = some 1 := by decide +kernel
theorem gdX0_start {base : Nat} {D : va_G} {ca : Nat → ClassId} {cv : Nat → Value} (hcv : ∀ j, (cv j).category = 1) {a0 : Nat} {a1 : Int32} {μ : qM} {r : qR} (h : fX0_start a0 a1 μ = some r) : qGood false base D ca cv 2 3 [.ref a0, .int a1] μ r := by
  unfold fX0_start at h
  split at h
  · rename_i hk0
    exact qgood_of (by decide) (by omega) hcv (Or.inr ⟨by decide +kernel, hk0⟩) npX0_start rfl (by decide) rfl (qblk_ev2 (cf := cfX0_start) (st := (fun n => qin [] n)) (K := (fun pc L S μ => none)) (cd := qcX0_start) (M := 3) (d0 := 1) rfl qcok_X0_start (Nat.le_refl _) (hcX0_start hcv) (by
    intro pc L S μ r h
    cases h) 400 (pc := 0) (L := qent [.ref a0, .int a1] 2) (S := []) h)
  · cases h
theorem gaX0_start {base : Nat} {D : va_G} {ca : Nat → ClassId} {cv : Nat → Value} (hcv : ∀ j, (cv j).category = 1) {l : List Value} {μ : qM} {r : qR} (h : aX0_start l μ = some r) : qGood false base D ca cv 2 3 l μ r := by
  unfold aX0_start at h
  split at h
  · exact gdX0_start hcv h
  · cases h
noncomputable def gX0_idle (a0 : Nat) (a1 : Int32) (μ : qM) : Option qR :=
  qbnd (oGetP μ 0 a0 0) fun v1 =>
  qbnd (oGetP μ 5 v1 1) fun v2 =>
  qbnd (oLdI 20 μ v2 a1) fun v3 =>
  if v3 = 0 then
    some ((-2 : Int32), 0, μ)
  else
    some ((-3 : Int32), 0, μ)
noncomputable def fX0_idle (a0 : Nat) (a1 : Int32) (μ : qM) : Option qR := if (qk μ a0).1 = 0 then gX0_idle a0 a1 μ else none
noncomputable def aX0_idle (l : List Value) (μ : qM) : Option qR := match l with
  | [.ref x0, .int x1] => fX0_idle x0 x1 μ
  | _ => none
noncomputable def cfX0_idle : qF := fun n l μ => none
theorem hcX0_idle {base : Nat} {D : va_G} {ca : Nat → ClassId} {cv : Nat → Value} (hcv : ∀ j, (cv j).category = 1) : ∀ M as μ r, cfX0_idle M as μ = some r → qGood false base D ca cv 0 M as μ r := by
  intro M as μ r h
  cases h
theorem npX0_idle : (parseMethodDescriptor (qmy 14).desc).map (fun d => d.parameters.length) = some 1 := by decide +kernel
theorem gdX0_idle {base : Nat} {D : va_G} {ca : Nat → ClassId} {cv : Nat → Value} (hcv : ∀ j, (cv j).category = 1) {a0 : Nat} {a1 : Int32} {μ : qM} {r : qR} (h : fX0_idle a0 a1 μ = some r) : qGood false base D ca cv 1 14 [.ref a0, .int a1] μ r := by
  unfold fX0_idle at h
  split at h
  · rename_i hk0
    exact qgood_of (by decide) (by omega) hcv (Or.inr ⟨by decide +kernel, hk0⟩) npX0_idle rfl (by decide) rfl (qblk_ev2 (cf := cfX0_idle) (st := (fun n => qin [] n)) (K := (fun pc L S μ => none)) (cd := qcX0_idle) (M := 14) (d0 := 0) rfl qcok_X0_idle (Nat.le_refl _) (hcX0_idle hcv) (by
    intro pc L S μ r h
    cases h) 400 (pc := 0) (L := qent [.ref a0, .int a1] 2) (S := []) h)
  · cases h
theorem gaX0_idle {base : Nat} {D : va_G} {ca : Nat → ClassId} {cv : Nat → Value} (hcv : ∀ j, (cv j).category = 1) {l : List Value} {μ : qM} {r : qR} (h : aX0_idle l μ = some r) : qGood false base D ca cv 1 14 l μ r := by
  unfold aX0_idle at h
  split at h
  · exact gdX0_idle hcv h
  · cases h
noncomputable def gX0_labour (a0 : Nat) (a1 : Int32) (a2 : Int32) (μ : qM) : Option qR :=
  qbnd (fX7_isOwner a1 μ) fun r1 =>
  if r1.1 = 0 then
    some ((-1 : Int32), 0, r1.2.2)
  else
    if a2 < (1 : Int32) then
      some ((-1 : Int32), 0, r1.2.2)
    else
      if a2 ≤ (9 : Int32) then
        qbnd (oGetP r1.2.2 0 a0 0) fun v2 =>
        qbnd (oGetP r1.2.2 5 v2 1) fun v3 =>
        qbnd (oLdI 20 r1.2.2 v3 a1) fun v4 =>
        if v4 = (1 : Int32) then
          qbnd (oGetP r1.2.2 0 a0 0) fun v5 =>
          qbnd (oGetP r1.2.2 5 v5 3) fun v6 =>
          qbnd (oGetP r1.2.2 0 a0 0) fun v7 =>
          qbnd (oGetP r1.2.2 5 v7 3) fun v8 =>
          qbnd (oLdI 20 r1.2.2 v8 a1) fun v9 =>
          qbnd (oStI 20 r1.2.2 v6 a1 (if (v9 + a2) < (99 : Int32) then (v9 + a2) else (99 : Int32))) fun μ10 =>
          qbnd (oGetP μ10 0 a0 0) fun v11 =>
          qbnd (oGetP μ10 5 v11 3) fun v12 =>
          qbnd (oLdI 20 μ10 v12 a1) fun v13 =>
          some (v13, 0, μ10)
        else
          qbnd (fX0_idle a0 a1 r1.2.2) fun r14 =>
          some (r14.1, 0, r14.2.2)
      else
        some ((-1 : Int32), 0, r1.2.2)
noncomputable def fX0_labour (a0 : Nat) (a1 : Int32) (a2 : Int32) (μ : qM) : Option qR := if (qk μ a0).1 = 0 then gX0_labour a0 a1 a2 μ else none
noncomputable def aX0_labour (l : List Value) (μ : qM) : Option qR := match l with
  | [.ref x0, .int x1, .int x2] => fX0_labour x0 x1 x2 μ
  | _ => none
noncomputable def cfX0_labour : qF := fun n l μ => if n = 131 then aX7_isOwner l μ else if n = 14 then aX0_idle l μ else none
theorem hcX0_labour {base : Nat} {D : va_G} {ca : Nat → ClassId} {cv : Nat → Value} (hcv : ∀ j, (cv j).category = 1) : ∀ M as μ r, cfX0_labour M as μ = some r → qGood false base D ca cv 1 M as μ r := by
  intro M as μ r h
  unfold cfX0_labour at h
  split at h
  · rename_i e; subst e; exact (gaX7_isOwner hcv h).mono (by omega)
  split at h
  · rename_i e; subst e; exact (gaX0_idle hcv h).mono (by omega)
  cases h
theorem npX0_labour : (parseMethodDescriptor (qmy 4).desc).map (fun d => d.parameters.length) = some 2 := by decide +kernel
theorem gdX0_labour {base : Nat} {D : va_G} {ca : Nat → ClassId} {cv : Nat → Value} (hcv : ∀ j, (cv j).category = 1) {a0 : Nat} {a1 : Int32} {a2 : Int32} {μ : qM} {r : qR} (h : fX0_labour a0 a1 a2 μ = some r) : qGood false base D ca cv 2 4 [.ref a0, .int a1, .int a2] μ r := by
  unfold fX0_labour at h
  split at h
  · rename_i hk0
    exact qgood_of (by decide) (by omega) hcv (Or.inr ⟨by decide +kernel, hk0⟩) npX0_labour rfl (by decide) rfl (qblk_ev2 (cf := cfX0_labour) (st := (fun n => qin [] n)) (K := (fun pc L S μ => none)) (cd := qcX0_labour) (M := 4) (d0 := 1) rfl qcok_X0_labour (Nat.le_refl _) (hcX0_labour hcv) (by
    intro pc L S μ r h
    cases h) 400 (pc := 0) (L := qent [.ref a0, .int a1, .int a2] 3) (S := []) h)
  · cases h
theorem gaX0_labour {base : Nat} {D : va_G} {ca : Nat → ClassId} {cv : Nat → Value} (hcv : ∀ j, (cv j).category = 1) {l : List Value} {μ : qM} {r : qR} (h : aX0_labour l μ = some r) : qGood false base D ca cv 2 4 l μ r := by
  unfold aX0_labour at h
  split at h
  · exact gdX0_labour hcv h
  · cases h
noncomputable def fX7_isPlace (a0 : Int32) (μ : qM) : Option qR :=
  if a0 < 0 then
    if qnz (0 : Int32) = (0 : Int32) then some ((0 : Int32), 0, μ) else none
  else
    if (85 : Int32) ≤ a0 then
      if qnz (0 : Int32) = (0 : Int32) then some ((0 : Int32), 0, μ) else none
    else
      if qnz (1 : Int32) = (1 : Int32) then some ((1 : Int32), 0, μ) else none
noncomputable def aX7_isPlace (l : List Value) (μ : qM) : Option qR := match l with
  | [.int x0] => fX7_isPlace x0 μ
  | _ => none
noncomputable def cfX7_isPlace : qF := fun n l μ => none
theorem hcX7_isPlace {base : Nat} {D : va_G} {ca : Nat → ClassId} {cv : Nat → Value} (hcv : ∀ j, (cv j).category = 1) : ∀ M as μ r, cfX7_isPlace M as μ = some r → qGood false base D ca cv 0 M as μ r := by
  intro M as μ r h
  cases h
theorem npX7_isPlace : (parseMethodDescriptor (qmy 132).desc).map (fun d => d.parameters.length) = some 1 := by decide +kernel
theorem gdX7_isPlace {base : Nat} {D : va_G} {ca : Nat → ClassId} {cv : Nat → Value} (hcv : ∀ j, (cv j).category = 1) {a0 : Int32} {μ : qM} {r : qR} (h : fX7_isPlace a0 μ = some r) : qGood false base D ca cv 1 132 [.int a0] μ r := by
  exact qgood_of (by decide) (by omega) hcv (Or.inl rfl) npX7_isPlace rfl (by decide) rfl (qblk_ev2 (cf := cfX7_isPlace) (st := (fun n => qin [] n)) (K := (fun pc L S μ => none)) (cd := qcX7_isPlace) (M := 132) (d0 := 0) rfl qcok_X7_isPlace (Nat.le_refl _) (hcX7_isPlace hcv) (by
    intro pc L S μ r h
    cases h) 400 (pc := 0) (L := qent [.int a0] 1) (S := []) h)
theorem gaX7_isPlace {base : Nat} {D : va_G} {ca : Nat → ClassId} {cv : Nat → Value} (hcv : ∀ j, (cv j).category = 1) {l : List Value} {μ : qM} {r : qR} (h : aX7_isPlace l μ = some r) : qGood false base D ca cv 1 132 l μ r := by
  unfold aX7_isPlace at h
  split at h
  · exact gdX7_isPlace hcv h
  · cases h
noncomputable def fX7_isLockMode (a0 : Int32) (μ : qM) : Option qR :=
  if a0 < (1 : Int32) then
    if qnz (0 : Int32) = (0 : Int32) then some ((0 : Int32), 0, μ) else none
  else
    if (7 : Int32) ≤ a0 then
      if qnz (0 : Int32) = (0 : Int32) then some ((0 : Int32), 0, μ) else none
    else
      if qnz (1 : Int32) = (1 : Int32) then some ((1 : Int32), 0, μ) else none
noncomputable def aX7_isLockMode (l : List Value) (μ : qM) : Option qR := match l with
  | [.int x0] => fX7_isLockMode x0 μ
  | _ => none
noncomputable def cfX7_isLockMode : qF := fun n l μ => none
theorem hcX7_isLockMode {base : Nat} {D : va_G} {ca : Nat → ClassId} {cv : Nat → Value} (hcv : ∀ j, (cv j).category = 1) : ∀ M as μ r, cfX7_isLockMode M as μ = some r → qGood false base D ca cv 0 M as μ r := by
  intro M as μ r h
  cases h
theorem npX7_isLockMode : (parseMethodDescriptor (qmy 134).desc).map (fun d => d.parameters.length) = some 1 := by decide +kernel
theorem gdX7_isLockMode {base : Nat} {D : va_G} {ca : Nat → ClassId} {cv : Nat → Value} (hcv : ∀ j, (cv j).category = 1) {a0 : Int32} {μ : qM} {r : qR} (h : fX7_isLockMode a0 μ = some r) : qGood false base D ca cv 1 134 [.int a0] μ r := by
  exact qgood_of (by decide) (by omega) hcv (Or.inl rfl) npX7_isLockMode rfl (by decide) rfl (qblk_ev2 (cf := cfX7_isLockMode) (st := (fun n => qin [] n)) (K := (fun pc L S μ => none)) (cd := qcX7_isLockMode) (M := 134) (d0 := 0) rfl qcok_X7_isLockMode (Nat.le_refl _) (hcX7_isLockMode hcv) (by
    intro pc L S μ r h
    cases h) 400 (pc := 0) (L := qent [.int a0] 1) (S := []) h)
theorem gaX7_isLockMode {base : Nat} {D : va_G} {ca : Nat → ClassId} {cv : Nat → Value} (hcv : ∀ j, (cv j).category = 1) {l : List Value} {μ : qM} {r : qR} (h : aX7_isLockMode l μ = some r) : qGood false base D ca cv 1 134 l μ r := by
  unfold aX7_isLockMode at h
  split at h
  · exact gdX7_isLockMode hcv h
  · cases h
noncomputable def fX7_levelOf (a0 : Int32) (μ : qM) : Option qR :=
  if a0 < (21 : Int32) then
    if a0 < (5 : Int32) then
      if a0 < (1 : Int32) then
        some ((0 : Int32), 0, μ)
      else
        some ((1 : Int32), 0, μ)
    else
      some ((2 : Int32), 0, μ)
  else
    some ((3 : Int32), 0, μ)
noncomputable def aX7_levelOf (l : List Value) (μ : qM) : Option qR := match l with
  | [.int x0] => fX7_levelOf x0 μ
  | _ => none
noncomputable def cfX7_levelOf : qF := fun n l μ => none
theorem hcX7_levelOf {base : Nat} {D : va_G} {ca : Nat → ClassId} {cv : Nat → Value} (hcv : ∀ j, (cv j).category = 1) : ∀ M as μ r, cfX7_levelOf M as μ = some r → qGood false base D ca cv 0 M as μ r := by
  intro M as μ r h
  cases h
theorem npX7_levelOf : (parseMethodDescriptor (qmy 135).desc).map (fun d => d.parameters.length) = some 1 := by decide +kernel
theorem gdX7_levelOf {base : Nat} {D : va_G} {ca : Nat → ClassId} {cv : Nat → Value} (hcv : ∀ j, (cv j).category = 1) {a0 : Int32} {μ : qM} {r : qR} (h : fX7_levelOf a0 μ = some r) : qGood false base D ca cv 1 135 [.int a0] μ r := by
  exact qgood_of (by decide) (by omega) hcv (Or.inl rfl) npX7_levelOf rfl (by decide) rfl (qblk_ev2 (cf := cfX7_levelOf) (st := (fun n => qin [] n)) (K := (fun pc L S μ => none)) (cd := qcX7_levelOf) (M := 135) (d0 := 0) rfl qcok_X7_levelOf (Nat.le_refl _) (hcX7_levelOf hcv) (by
    intro pc L S μ r h
    cases h) 400 (pc := 0) (L := qent [.int a0] 1) (S := []) h)
theorem gaX7_levelOf {base : Nat} {D : va_G} {ca : Nat → ClassId} {cv : Nat → Value} (hcv : ∀ j, (cv j).category = 1) {l : List Value} {μ : qM} {r : qR} (h : aX7_levelOf l μ = some r) : qGood false base D ca cv 1 135 l μ r := by
  unfold aX7_levelOf at h
  split at h
  · exact gdX7_levelOf hcv h
  · cases h
noncomputable def fX7_onPath_5 : Nat → Int32 → Int32 → Int32 → qM → Option qR
  | 0 => fun _ _ _ _ => none
  | n + 1 => fun x1 x2 x3 μ =>
    if x3 ≤ x1 then
      some (x2, 0, μ)
    else
      if (4 : Int32) = 0 then none else
      fX7_onPath_5 n x1 ((x2 - (1 : Int32)) / (4 : Int32)) (x3 + (-1 : Int32)) μ
noncomputable def fX7_onPath (a0 : Int32) (a1 : Int32) (μ : qM) : Option qR :=
  qbnd (fX7_levelOf a0 μ) fun r1 =>
  fX7_onPath_5 qfu a1 a0 r1.1 r1.2.2
noncomputable def aX7_onPath (l : List Value) (μ : qM) : Option qR := match l with
  | [.int x0, .int x1] => fX7_onPath x0 x1 μ
  | _ => none
noncomputable def cfX7_onPath : qF := fun n l μ => if n = 135 then aX7_levelOf l μ else none
theorem hcX7_onPath {base : Nat} {D : va_G} {ca : Nat → ClassId} {cv : Nat → Value} (hcv : ∀ j, (cv j).category = 1) : ∀ M as μ r, cfX7_onPath M as μ = some r → qGood false base D ca cv 1 M as μ r := by
  intro M as μ r h
  unfold cfX7_onPath at h
  split at h
  · rename_i e; subst e; exact (gaX7_levelOf hcv h).mono (by omega)
  cases h
def jX7_onPath_5 (f : Int32 → Int32 → Int32 → qM → Option qR) (L S : List Value) (μ : qM) : Option qR := match L, S with
  | [_, .int x1, .int x2, .int x3], [] => f x1 x2 x3 μ
  | _, _ => none
theorem jeX7_onPath_5 {base : Nat} {D : va_G} {ca : Nat → ClassId} {cv : Nat → Value} {d : Nat} {f : Int32 → Int32 → Int32 → qM → Option qR} (hf : ∀ (x1 : Int32) (x2 : Int32) (x3 : Int32) (μ : qM) (r : qR), f x1 x2 x3 μ = some r → qEv false base D ca cv d 136 r 5 [.null, .int x1, .int x2, .int x3] [] μ) {L S : List Value} {μ : qM} {r : qR} (h : jX7_onPath_5 f L S μ = some r) : qEv false base D ca cv d 136 r 5 L S μ := by
  unfold jX7_onPath_5 at h
  split at h
  · exact (hf _ _ _ _ _ h).le rfl ⟨Or.inl rfl, Or.inr rfl, Or.inr rfl, Or.inr rfl, trivial⟩
  · cases h
theorem lbX7_onPath_5 {base : Nat} {D : va_G} {ca : Nat → ClassId} {cv : Nat → Value} (hcv : ∀ j, (cv j).category = 1) : ∀ (n : Nat) (x1 : Int32) (x2 : Int32) (x3 : Int32) (μ : qM) (r : qR), fX7_onPath_5 n x1 x2 x3 μ = some r → qEv false base D ca cv 2 136 r 5 [.null, .int x1, .int x2, .int x3] [] μ := by
  intro n
  induction n with
  | zero => intro x1 x2 x3 μ r h; exact Option.noConfusion (show (none : Option qR) = some r from h)
  | succ n ih =>
    intro x1 x2 x3 μ r h
    exact qblk_ev2 (cf := cfX7_onPath) (st := (fun n => qin [5] n)) (K := (fun pc L S μ => if pc = 5 then jX7_onPath_5 (fX7_onPath_5 n) L S μ else none)) (cd := qcX7_onPath) (M := 136) (d0 := 1) rfl qcok_X7_onPath (Nat.le_refl _) (hcX7_onPath hcv) (by
    intro pc L S μ r h
    split at h
    · rename_i e; subst e; exact jeX7_onPath_5 ih h
    cases h) 400 (pc := 5) (L := [.null, .int x1, .int x2, .int x3]) (S := []) h
theorem npX7_onPath : (parseMethodDescriptor (qmy 136).desc).map (fun d => d.parameters.length) = some 2 := by decide +kernel
theorem gdX7_onPath {base : Nat} {D : va_G} {ca : Nat → ClassId} {cv : Nat → Value} (hcv : ∀ j, (cv j).category = 1) {a0 : Int32} {a1 : Int32} {μ : qM} {r : qR} (h : fX7_onPath a0 a1 μ = some r) : qGood false base D ca cv 2 136 [.int a0, .int a1] μ r := by
  exact qgood_of (by decide) (by omega) hcv (Or.inl rfl) npX7_onPath rfl (by decide) rfl (qblk_ev2 (cf := cfX7_onPath) (st := (fun n => qin [5] n)) (K := (fun pc L S μ => if pc = 5 then jX7_onPath_5 (fX7_onPath_5 qfu) L S μ else none)) (cd := qcX7_onPath) (M := 136) (d0 := 1) rfl qcok_X7_onPath (Nat.le_refl _) (hcX7_onPath hcv) (by
    intro pc L S μ r h
    split at h
    · rename_i e; subst e; exact jeX7_onPath_5 (lbX7_onPath_5 hcv qfu) h
    cases h) 400 (pc := 0) (L := qent [.int a0, .int a1] 4) (S := []) h)
theorem gaX7_onPath {base : Nat} {D : va_G} {ca : Nat → ClassId} {cv : Nat → Value} (hcv : ∀ j, (cv j).category = 1) {l : List Value} {μ : qM} {r : qR} (h : aX7_onPath l μ = some r) : qGood false base D ca cv 2 136 l μ r := by
  unfold aX7_onPath at h
  split at h
  · exact gdX7_onPath hcv h
  · cases h
noncomputable def gX5_modeAt (a0 : Nat) (a1 : Int32) (a2 : Int32) (μ : qM) : Option qR :=
  qbnd (oGetP μ 5 a0 0) fun v1 =>
  qbnd (oLdI 20 μ v1 a2) fun v2 =>
  some (((qush v2 ((4 : Int32) * a1)) &&& (15 : Int32)), 0, μ)
noncomputable def fX5_modeAt (a0 : Nat) (a1 : Int32) (a2 : Int32) (μ : qM) : Option qR := if (qk μ a0).1 = 5 then gX5_modeAt a0 a1 a2 μ else none
noncomputable def aX5_modeAt (l : List Value) (μ : qM) : Option qR := match l with
  | [.ref x0, .int x1, .int x2] => fX5_modeAt x0 x1 x2 μ
  | _ => none
noncomputable def cfX5_modeAt : qF := fun n l μ => none
theorem hcX5_modeAt {base : Nat} {D : va_G} {ca : Nat → ClassId} {cv : Nat → Value} (hcv : ∀ j, (cv j).category = 1) : ∀ M as μ r, cfX5_modeAt M as μ = some r → qGood false base D ca cv 0 M as μ r := by
  intro M as μ r h
  cases h
theorem npX5_modeAt : (parseMethodDescriptor (qmy 54).desc).map (fun d => d.parameters.length) = some 2 := by decide +kernel
theorem gdX5_modeAt {base : Nat} {D : va_G} {ca : Nat → ClassId} {cv : Nat → Value} (hcv : ∀ j, (cv j).category = 1) {a0 : Nat} {a1 : Int32} {a2 : Int32} {μ : qM} {r : qR} (h : fX5_modeAt a0 a1 a2 μ = some r) : qGood false base D ca cv 1 54 [.ref a0, .int a1, .int a2] μ r := by
  unfold fX5_modeAt at h
  split at h
  · rename_i hk0
    exact qgood_of (by decide) (by omega) hcv (Or.inr ⟨by decide +kernel, hk0⟩) npX5_modeAt rfl (by decide) rfl (qblk_ev2 (cf := cfX5_modeAt) (st := (fun n => qin [] n)) (K := (fun pc L S μ => none)) (cd := qcX5_modeAt) (M := 54) (d0 := 0) rfl qcok_X5_modeAt (Nat.le_refl _) (hcX5_modeAt hcv) (by
    intro pc L S μ r h
    cases h) 400 (pc := 0) (L := qent [.ref a0, .int a1, .int a2] 3) (S := []) h)
  · cases h
theorem gaX5_modeAt {base : Nat} {D : va_G} {ca : Nat → ClassId} {cv : Nat → Value} (hcv : ∀ j, (cv j).category = 1) {l : List Value} {μ : qM} {r : qR} (h : aX5_modeAt l μ = some r) : qGood false base D ca cv 1 54 l μ r := by
  unfold aX5_modeAt at h
  split at h
  · exact gdX5_modeAt hcv h
  · cases h
noncomputable def fX5_firstAbove_2 : Nat → Nat → Int32 → Int32 → Int32 → Int32 → qM → Option qR
  | 0 => fun _ _ _ _ _ _ => none
  | n + 1 => fun x0 x1 x2 x3 x4 μ =>
    qbnd (fX7_levelOf x2 μ) fun r1 =>
    if r1.1 ≤ x4 then
      some ((85 : Int32), 0, r1.2.2)
    else
      qbnd (fX7_onPath x2 x4 r1.2.2) fun r2 =>
      qbnd (fX5_modeAt x0 x1 r2.1 r2.2.2) fun r3 =>
      if ((qush x3 r3.1) &&& (1 : Int32)) = 0 then
        fX5_firstAbove_2 n x0 x1 x2 x3 (x4 + (1 : Int32)) r3.2.2
      else
        some (r2.1, 0, r3.2.2)
noncomputable def gX5_firstAbove (a0 : Nat) (a1 : Int32) (a2 : Int32) (a3 : Int32) (μ : qM) : Option qR :=
  fX5_firstAbove_2 qfu a0 a1 a2 a3 (0 : Int32) μ
noncomputable def fX5_firstAbove (a0 : Nat) (a1 : Int32) (a2 : Int32) (a3 : Int32) (μ : qM) : Option qR := if (qk μ a0).1 = 5 then gX5_firstAbove a0 a1 a2 a3 μ else none
noncomputable def aX5_firstAbove (l : List Value) (μ : qM) : Option qR := match l with
  | [.ref x0, .int x1, .int x2, .int x3] => fX5_firstAbove x0 x1 x2 x3 μ
  | _ => none
noncomputable def cfX5_firstAbove : qF := fun n l μ => if n = 135 then aX7_levelOf l μ else if n = 136 then aX7_onPath l μ else if n = 54 then aX5_modeAt l μ else none
theorem hcX5_firstAbove {base : Nat} {D : va_G} {ca : Nat → ClassId} {cv : Nat → Value} (hcv : ∀ j, (cv j).category = 1) : ∀ M as μ r, cfX5_firstAbove M as μ = some r → qGood false base D ca cv 2 M as μ r := by
  intro M as μ r h
  unfold cfX5_firstAbove at h
  split at h
  · rename_i e; subst e; exact (gaX7_levelOf hcv h).mono (by omega)
  split at h
  · rename_i e; subst e; exact (gaX7_onPath hcv h).mono (by omega)
  split at h
  · rename_i e; subst e; exact (gaX5_modeAt hcv h).mono (by omega)
  cases h
def jX5_firstAbove_2 (f : Nat → Int32 → Int32 → Int32 → Int32 → qM → Option qR) (L S : List Value) (μ : qM) : Option qR := match L, S with
  | [.ref x0, .int x1, .int x2, .int x3, .int x4, _], [] => f x0 x1 x2 x3 x4 μ
  | _, _ => none
theorem jeX5_firstAbove_2 {base : Nat} {D : va_G} {ca : Nat → ClassId} {cv : Nat → Value} {d : Nat} {f : Nat → Int32 → Int32 → Int32 → Int32 → qM → Option qR} (hf : ∀ (x0 : Nat) (x1 : Int32) (x2 : Int32) (x3 : Int32) (x4 : Int32) (μ : qM) (r : qR), f x0 x1 x2 x3 x4 μ = some r → qEv false base D ca cv d 64 r 2 [.ref x0, .int x1, .int x2, .int x3, .int x4, .null] [] μ) {L S : List Value} {μ : qM} {r : qR} (h : jX5_firstAbove_2 f L S μ = some r) : qEv false base D ca cv d 64 r 2 L S μ := by
  unfold jX5_firstAbove_2 at h
  split at h
  · exact (hf _ _ _ _ _ _ _ h).le rfl ⟨Or.inr rfl, Or.inr rfl, Or.inr rfl, Or.inr rfl, Or.inr rfl, Or.inl rfl, trivial⟩
  · cases h
theorem lbX5_firstAbove_2 {base : Nat} {D : va_G} {ca : Nat → ClassId} {cv : Nat → Value} (hcv : ∀ j, (cv j).category = 1) : ∀ (n : Nat) (x0 : Nat) (x1 : Int32) (x2 : Int32) (x3 : Int32) (x4 : Int32) (μ : qM) (r : qR), fX5_firstAbove_2 n x0 x1 x2 x3 x4 μ = some r → qEv false base D ca cv 3 64 r 2 [.ref x0, .int x1, .int x2, .int x3, .int x4, .null] [] μ := by
  intro n
  induction n with
  | zero => intro x0 x1 x2 x3 x4 μ r h; exact Option.noConfusion (show (none : Option qR) = some r from h)
  | succ n ih =>
    intro x0 x1 x2 x3 x4 μ r h
    exact qblk_ev2 (cf := cfX5_firstAbove) (st := (fun n => qin [2] n)) (K := (fun pc L S μ => if pc = 2 then jX5_firstAbove_2 (fX5_firstAbove_2 n) L S μ else none)) (cd := qcX5_firstAbove) (M := 64) (d0 := 2) rfl qcok_X5_firstAbove (Nat.le_refl _) (hcX5_firstAbove hcv) (by
    intro pc L S μ r h
    split at h
    · rename_i e; subst e; exact jeX5_firstAbove_2 ih h
    cases h) 400 (pc := 2) (L := [.ref x0, .int x1, .int x2, .int x3, .int x4, .null]) (S := []) h
theorem npX5_firstAbove : (parseMethodDescriptor (qmy 64).desc).map (fun d => d.parameters.length) = some 3 := by decide +kernel
theorem gdX5_firstAbove {base : Nat} {D : va_G} {ca : Nat → ClassId} {cv : Nat → Value} (hcv : ∀ j, (cv j).category = 1) {a0 : Nat} {a1 : Int32} {a2 : Int32} {a3 : Int32} {μ : qM} {r : qR} (h : fX5_firstAbove a0 a1 a2 a3 μ = some r) : qGood false base D ca cv 3 64 [.ref a0, .int a1, .int a2, .int a3] μ r := by
  unfold fX5_firstAbove at h
  split at h
  · rename_i hk0
    exact qgood_of (by decide) (by omega) hcv (Or.inr ⟨by decide +kernel, hk0⟩) npX5_firstAbove rfl (by decide) rfl (qblk_ev2 (cf := cfX5_firstAbove) (st := (fun n => qin [2] n)) (K := (fun pc L S μ => if pc = 2 then jX5_firstAbove_2 (fX5_firstAbove_2 qfu) L S μ else none)) (cd := qcX5_firstAbove) (M := 64) (d0 := 2) rfl qcok_X5_firstAbove (Nat.le_refl _) (hcX5_firstAbove hcv) (by
    intro pc L S μ r h
    split at h
    · rename_i e; subst e; exact jeX5_firstAbove_2 (lbX5_firstAbove_2 hcv qfu) h
    cases h) 400 (pc := 0) (L := qent [.ref a0, .int a1, .int a2, .int a3] 6) (S := []) h)
  · cases h
theorem gaX5_firstAbove {base : Nat} {D : va_G} {ca : Nat → ClassId} {cv : Nat → Value} (hcv : ∀ j, (cv j).category = 1) {l : List Value} {μ : qM} {r : qR} (h : aX5_firstAbove l μ = some r) : qGood false base D ca cv 3 64 l μ r := by
  unfold aX5_firstAbove at h
  split at h
  · exact gdX5_firstAbove hcv h
  · cases h
noncomputable def fX5_isCovered_9 (x0 : Nat) (x1 : Int32) (x2 : Int32) (s0 : Int32) (μ : qM) : Option qR :=
  qbnd (fX5_firstAbove x0 x1 x2 s0 μ) fun r1 =>
  if r1.1 = (85 : Int32) then
    if qnz (0 : Int32) = (0 : Int32) then some ((0 : Int32), 0, r1.2.2) else none
  else
    if qnz (1 : Int32) = (1 : Int32) then some ((1 : Int32), 0, r1.2.2) else none
noncomputable def fX5_isCovered_6 (x0 : Nat) (x1 : Int32) (x2 : Int32) (μ : qM) : Option qR :=
  fX5_isCovered_9 x0 x1 x2 (120 : Int32) μ
noncomputable def gX5_isCovered (a0 : Nat) (a1 : Int32) (a2 : Int32) (a3 : Int32) (μ : qM) : Option qR :=
  if a3 = (1 : Int32) then
    fX5_isCovered_6 a0 a1 a2 μ
  else
    if a3 = (3 : Int32) then
      fX5_isCovered_6 a0 a1 a2 μ
    else
      fX5_isCovered_9 a0 a1 a2 (64 : Int32) μ
noncomputable def fX5_isCovered (a0 : Nat) (a1 : Int32) (a2 : Int32) (a3 : Int32) (μ : qM) : Option qR := if (qk μ a0).1 = 5 then gX5_isCovered a0 a1 a2 a3 μ else none
noncomputable def aX5_isCovered (l : List Value) (μ : qM) : Option qR := match l with
  | [.ref x0, .int x1, .int x2, .int x3] => fX5_isCovered x0 x1 x2 x3 μ
  | _ => none
noncomputable def cfX5_isCovered : qF := fun n l μ => if n = 64 then aX5_firstAbove l μ else none
theorem hcX5_isCovered {base : Nat} {D : va_G} {ca : Nat → ClassId} {cv : Nat → Value} (hcv : ∀ j, (cv j).category = 1) : ∀ M as μ r, cfX5_isCovered M as μ = some r → qGood false base D ca cv 3 M as μ r := by
  intro M as μ r h
  unfold cfX5_isCovered at h
  split at h
  · rename_i e; subst e; exact (gaX5_firstAbove hcv h).mono (by omega)
  cases h
def jX5_isCovered_6 (f : Nat → Int32 → Int32 → qM → Option qR) (L S : List Value) (μ : qM) : Option qR := match L, S with
  | [.ref x0, .int x1, .int x2, _, _], [] => f x0 x1 x2 μ
  | _, _ => none
theorem jeX5_isCovered_6 {base : Nat} {D : va_G} {ca : Nat → ClassId} {cv : Nat → Value} {d : Nat} {f : Nat → Int32 → Int32 → qM → Option qR} (hf : ∀ (x0 : Nat) (x1 : Int32) (x2 : Int32) (μ : qM) (r : qR), f x0 x1 x2 μ = some r → qEv false base D ca cv d 65 r 6 [.ref x0, .int x1, .int x2, .null, .null] [] μ) {L S : List Value} {μ : qM} {r : qR} (h : jX5_isCovered_6 f L S μ = some r) : qEv false base D ca cv d 65 r 6 L S μ := by
  unfold jX5_isCovered_6 at h
  split at h
  · exact (hf _ _ _ _ _ h).le rfl ⟨Or.inr rfl, Or.inr rfl, Or.inr rfl, Or.inl rfl, Or.inl rfl, trivial⟩
  · cases h
def jX5_isCovered_9 (f : Nat → Int32 → Int32 → Int32 → qM → Option qR) (L S : List Value) (μ : qM) : Option qR := match L, S with
  | [.ref x0, .int x1, .int x2, _, _], [.int s0] => f x0 x1 x2 s0 μ
  | _, _ => none
theorem jeX5_isCovered_9 {base : Nat} {D : va_G} {ca : Nat → ClassId} {cv : Nat → Value} {d : Nat} {f : Nat → Int32 → Int32 → Int32 → qM → Option qR} (hf : ∀ (x0 : Nat) (x1 : Int32) (x2 : Int32) (s0 : Int32) (μ : qM) (r : qR), f x0 x1 x2 s0 μ = some r → qEv false base D ca cv d 65 r 9 [.ref x0, .int x1, .int x2, .null, .null] [.int s0] μ) {L S : List Value} {μ : qM} {r : qR} (h : jX5_isCovered_9 f L S μ = some r) : qEv false base D ca cv d 65 r 9 L S μ := by
  unfold jX5_isCovered_9 at h
  split at h
  · exact (hf _ _ _ _ _ _ h).le rfl ⟨Or.inr rfl, Or.inr rfl, Or.inr rfl, Or.inl rfl, Or.inl rfl, trivial⟩
  · cases h
theorem lbX5_isCovered_9 {base : Nat} {D : va_G} {ca : Nat → ClassId} {cv : Nat → Value} (hcv : ∀ j, (cv j).category = 1) (x0 : Nat) (x1 : Int32) (x2 : Int32) (s0 : Int32) (μ : qM) (r : qR) (h : fX5_isCovered_9 x0 x1 x2 s0 μ = some r) : qEv false base D ca cv 4 65 r 9 [.ref x0, .int x1, .int x2, .null, .null] [.int s0] μ := by
    exact qblk_ev2 (cf := cfX5_isCovered) (st := (fun n => qin [6, 9] n)) (K := (fun pc L S μ => if pc = 6 then jX5_isCovered_6 (fX5_isCovered_6) L S μ else if pc = 9 then jX5_isCovered_9 (fX5_isCovered_9) L S μ else none)) (cd := qcX5_isCovered) (M := 65) (d0 := 3) rfl qcok_X5_isCovered (Nat.le_refl _) (hcX5_isCovered hcv) (by
    intro pc L S μ r h
    split at h
    · rename_i e; subst e; exact jeX5_isCovered_6 (lbX5_isCovered_6 hcv) h
    split at h
    · rename_i e; subst e; exact jeX5_isCovered_9 (lbX5_isCovered_9 hcv) h
    cases h) 400 (pc := 9) (L := [.ref x0, .int x1, .int x2, .null, .null]) (S := [.int s0]) h
theorem lbX5_isCovered_6 {base : Nat} {D : va_G} {ca : Nat → ClassId} {cv : Nat → Value} (hcv : ∀ j, (cv j).category = 1) (x0 : Nat) (x1 : Int32) (x2 : Int32) (μ : qM) (r : qR) (h : fX5_isCovered_6 x0 x1 x2 μ = some r) : qEv false base D ca cv 4 65 r 6 [.ref x0, .int x1, .int x2, .null, .null] [] μ := by
    exact qblk_ev2 (cf := cfX5_isCovered) (st := (fun n => qin [6, 9] n)) (K := (fun pc L S μ => if pc = 6 then jX5_isCovered_6 (fX5_isCovered_6) L S μ else if pc = 9 then jX5_isCovered_9 (fX5_isCovered_9) L S μ else none)) (cd := qcX5_isCovered) (M := 65) (d0 := 3) rfl qcok_X5_isCovered (Nat.le_refl _) (hcX5_isCovered hcv) (by
    intro pc L S μ r h
    split at h
    · rename_i e; subst e; exact jeX5_isCovered_6 (lbX5_isCovered_6 hcv) h
    split at h
    · rename_i e; subst e; exact jeX5_isCovered_9 (lbX5_isCovered_9 hcv) h
    cases h) 400 (pc := 6) (L := [.ref x0, .int x1, .int x2, .null, .null]) (S := []) h
theorem npX5_isCovered : (parseMethodDescriptor (qmy 65).desc).map (fun d => d.parameters.length) = some 3 := by decide +kernel
theorem gdX5_isCovered {base : Nat} {D : va_G} {ca : Nat → ClassId} {cv : Nat → Value} (hcv : ∀ j, (cv j).category = 1) {a0 : Nat} {a1 : Int32} {a2 : Int32} {a3 : Int32} {μ : qM} {r : qR} (h : fX5_isCovered a0 a1 a2 a3 μ = some r) : qGood false base D ca cv 4 65 [.ref a0, .int a1, .int a2, .int a3] μ r := by
  unfold fX5_isCovered at h
  split at h
  · rename_i hk0
    exact qgood_of (by decide) (by omega) hcv (Or.inr ⟨by decide +kernel, hk0⟩) npX5_isCovered rfl (by decide) rfl (qblk_ev2 (cf := cfX5_isCovered) (st := (fun n => qin [6, 9] n)) (K := (fun pc L S μ => if pc = 6 then jX5_isCovered_6 (fX5_isCovered_6) L S μ else if pc = 9 then jX5_isCovered_9 (fX5_isCovered_9) L S μ else none)) (cd := qcX5_isCovered) (M := 65) (d0 := 3) rfl qcok_X5_isCovered (Nat.le_refl _) (hcX5_isCovered hcv) (by
    intro pc L S μ r h
    split at h
    · rename_i e; subst e; exact jeX5_isCovered_6 (lbX5_isCovered_6 hcv) h
    split at h
    · rename_i e; subst e; exact jeX5_isCovered_9 (lbX5_isCovered_9 hcv) h
    cases h) 400 (pc := 0) (L := qent [.ref a0, .int a1, .int a2, .int a3] 5) (S := []) h)
  · cases h
theorem gaX5_isCovered {base : Nat} {D : va_G} {ca : Nat → ClassId} {cv : Nat → Value} (hcv : ∀ j, (cv j).category = 1) {l : List Value} {μ : qM} {r : qR} (h : aX5_isCovered l μ = some r) : qGood false base D ca cv 4 65 l μ r := by
  unfold aX5_isCovered at h
  split at h
  · exact gdX5_isCovered hcv h
  · cases h
noncomputable def fX5_gatherMode_46 (k12 : Nat → Int32 → Int32 → Int32 → Int32 → qM → Option qR) (x0 : Nat) (x1 : Int32) (x2 : Int32) (x3 : Int32) (x4 : Int32) (μ : qM) : Option qR :=
  k12 x0 x1 x2 (((4 : Int32) * x3) + (4 : Int32)) (((4 : Int32) * x4) + (1 : Int32)) μ
noncomputable def fX5_gatherMode_17 (k12 : Nat → Int32 → Int32 → Int32 → Int32 → qM → Option qR) : Nat → Nat → Int32 → Int32 → Int32 → Int32 → Int32 → qM → Option qR
  | 0 => fun _ _ _ _ _ _ _ => none
  | n + 1 => fun x0 x1 x2 x3 x4 x5 μ =>
    if x3 < x5 then
      fX5_gatherMode_46 k12 x0 x1 x2 x3 x4 μ
    else
      if (85 : Int32) ≤ x5 then
        fX5_gatherMode_46 k12 x0 x1 x2 x3 x4 μ
      else
        qbnd (oGetP μ 5 x0 0) fun v1 =>
        qbnd (oLdI 20 μ v1 x5) fun v2 =>
        let w3 : Int32 := ((qush v2 ((4 : Int32) * x1)) &&& (15 : Int32))
        if w3 = 0 then
          fX5_gatherMode_17 k12 n x0 x1 x2 x3 x4 (x5 + (1 : Int32)) μ
        else
          if w3 = (1 : Int32) then
            fX5_gatherMode_17 k12 n x0 x1 x2 x3 x4 (x5 + (1 : Int32)) μ
          else
            if w3 = (3 : Int32) then
              fX5_gatherMode_17 k12 n x0 x1 x2 x3 x4 (x5 + (1 : Int32)) μ
            else
              some ((6 : Int32), 0, μ)
noncomputable def fX5_gatherMode_12 : Nat → Nat → Int32 → Int32 → Int32 → Int32 → qM → Option qR
  | 0 => fun _ _ _ _ _ _ => none
  | n + 1 => fun x0 x1 x2 x3 x4 μ =>
    if (85 : Int32) ≤ x4 then
      qbnd (oGetP μ 5 x0 0) fun v1 =>
      qbnd (oLdI 20 μ v1 x2) fun v2 =>
      qbnd (oTab 1 2 (((7 : Int32) * ((qush v2 ((4 : Int32) * x1)) &&& (15 : Int32))) + (3 : Int32))) fun v3 =>
      some (v3, 0, μ)
    else
      fX5_gatherMode_17 (fX5_gatherMode_12 n) qfu x0 x1 x2 x3 x4 x4 μ
noncomputable def gX5_gatherMode (a0 : Nat) (a1 : Int32) (a2 : Int32) (μ : qM) : Option qR :=
  fX5_gatherMode_12 qfu a0 a1 a2 (((4 : Int32) * a2) + (4 : Int32)) (((4 : Int32) * a2) + (1 : Int32)) μ
noncomputable def fX5_gatherMode (a0 : Nat) (a1 : Int32) (a2 : Int32) (μ : qM) : Option qR := if (qk μ a0).1 = 5 then gX5_gatherMode a0 a1 a2 μ else none
noncomputable def aX5_gatherMode (l : List Value) (μ : qM) : Option qR := match l with
  | [.ref x0, .int x1, .int x2] => fX5_gatherMode x0 x1 x2 μ
  | _ => none
noncomputable def cfX5_gatherMode : qF := fun n l μ => none
theorem hcX5_gatherMode {base : Nat} {D : va_G} {ca : Nat → ClassId} {cv : Nat → Value} (hcv : ∀ j, (cv j).category = 1) : ∀ M as μ r, cfX5_gatherMode M as μ = some r → qGood false base D ca cv 0 M as μ r := by
  intro M as μ r h
  cases h
def jX5_gatherMode_12 (f : Nat → Int32 → Int32 → Int32 → Int32 → qM → Option qR) (L S : List Value) (μ : qM) : Option qR := match L, S with
  | [.ref x0, .int x1, .int x2, .int x3, .int x4, _, _], [] => f x0 x1 x2 x3 x4 μ
  | _, _ => none
theorem jeX5_gatherMode_12 {base : Nat} {D : va_G} {ca : Nat → ClassId} {cv : Nat → Value} {d : Nat} {f : Nat → Int32 → Int32 → Int32 → Int32 → qM → Option qR} (hf : ∀ (x0 : Nat) (x1 : Int32) (x2 : Int32) (x3 : Int32) (x4 : Int32) (μ : qM) (r : qR), f x0 x1 x2 x3 x4 μ = some r → qEv false base D ca cv d 63 r 12 [.ref x0, .int x1, .int x2, .int x3, .int x4, .null, .null] [] μ) {L S : List Value} {μ : qM} {r : qR} (h : jX5_gatherMode_12 f L S μ = some r) : qEv false base D ca cv d 63 r 12 L S μ := by
  unfold jX5_gatherMode_12 at h
  split at h
  · exact (hf _ _ _ _ _ _ _ h).le rfl ⟨Or.inr rfl, Or.inr rfl, Or.inr rfl, Or.inr rfl, Or.inr rfl, Or.inl rfl, Or.inl rfl, trivial⟩
  · cases h
def jX5_gatherMode_17 (f : Nat → Int32 → Int32 → Int32 → Int32 → Int32 → qM → Option qR) (L S : List Value) (μ : qM) : Option qR := match L, S with
  | [.ref x0, .int x1, .int x2, .int x3, .int x4, .int x5, _], [] => f x0 x1 x2 x3 x4 x5 μ
  | _, _ => none
theorem jeX5_gatherMode_17 {base : Nat} {D : va_G} {ca : Nat → ClassId} {cv : Nat → Value} {d : Nat} {f : Nat → Int32 → Int32 → Int32 → Int32 → Int32 → qM → Option qR} (hf : ∀ (x0 : Nat) (x1 : Int32) (x2 : Int32) (x3 : Int32) (x4 : Int32) (x5 : Int32) (μ : qM) (r : qR), f x0 x1 x2 x3 x4 x5 μ = some r → qEv false base D ca cv d 63 r 17 [.ref x0, .int x1, .int x2, .int x3, .int x4, .int x5, .null] [] μ) {L S : List Value} {μ : qM} {r : qR} (h : jX5_gatherMode_17 f L S μ = some r) : qEv false base D ca cv d 63 r 17 L S μ := by
  unfold jX5_gatherMode_17 at h
  split at h
  · exact (hf _ _ _ _ _ _ _ _ h).le rfl ⟨Or.inr rfl, Or.inr rfl, Or.inr rfl, Or.inr rfl, Or.inr rfl, Or.inr rfl, Or.inl rfl, trivial⟩
  · cases h
def jX5_gatherMode_46 (f : Nat → Int32 → Int32 → Int32 → Int32 → qM → Option qR) (L S : List Value) (μ : qM) : Option qR := match L, S with
  | [.ref x0, .int x1, .int x2, .int x3, .int x4, _, _], [] => f x0 x1 x2 x3 x4 μ
  | _, _ => none
theorem jeX5_gatherMode_46 {base : Nat} {D : va_G} {ca : Nat → ClassId} {cv : Nat → Value} {d : Nat} {f : Nat → Int32 → Int32 → Int32 → Int32 → qM → Option qR} (hf : ∀ (x0 : Nat) (x1 : Int32) (x2 : Int32) (x3 : Int32) (x4 : Int32) (μ : qM) (r : qR), f x0 x1 x2 x3 x4 μ = some r → qEv false base D ca cv d 63 r 46 [.ref x0, .int x1, .int x2, .int x3, .int x4, .null, .null] [] μ) {L S : List Value} {μ : qM} {r : qR} (h : jX5_gatherMode_46 f L S μ = some r) : qEv false base D ca cv d 63 r 46 L S μ := by
  unfold jX5_gatherMode_46 at h
  split at h
  · exact (hf _ _ _ _ _ _ _ h).le rfl ⟨Or.inr rfl, Or.inr rfl, Or.inr rfl, Or.inr rfl, Or.inr rfl, Or.inl rfl, Or.inl rfl, trivial⟩
  · cases h
theorem lbX5_gatherMode_46 {base : Nat} {D : va_G} {ca : Nat → ClassId} {cv : Nat → Value} (hcv : ∀ j, (cv j).category = 1) {k12 : Nat → Int32 → Int32 → Int32 → Int32 → qM → Option qR} (hk12 : ∀ (y0 : Nat) (y1 : Int32) (y2 : Int32) (y3 : Int32) (y4 : Int32) (μ : qM) (r : qR), k12 y0 y1 y2 y3 y4 μ = some r → qEv false base D ca cv 1 63 r 12 [.ref y0, .int y1, .int y2, .int y3, .int y4, .null, .null] [] μ) (x0 : Nat) (x1 : Int32) (x2 : Int32) (x3 : Int32) (x4 : Int32) (μ : qM) (r : qR) (h : fX5_gatherMode_46 k12 x0 x1 x2 x3 x4 μ = some r) : qEv false base D ca cv 1 63 r 46 [.ref x0, .int x1, .int x2, .int x3, .int x4, .null, .null] [] μ := by
    exact qblk_ev2 (cf := cfX5_gatherMode) (st := (fun n => qin [12, 17, 46] n)) (K := (fun pc L S μ => if pc = 12 then jX5_gatherMode_12 k12 L S μ else if pc = 17 then jX5_gatherMode_17 (fX5_gatherMode_17 k12 qfu) L S μ else if pc = 46 then jX5_gatherMode_46 (fX5_gatherMode_46 k12) L S μ else none)) (cd := qcX5_gatherMode) (M := 63) (d0 := 0) rfl qcok_X5_gatherMode (Nat.le_refl _) (hcX5_gatherMode hcv) (by
    intro pc L S μ r h
    split at h
    · rename_i e; subst e; exact jeX5_gatherMode_12 hk12 h
    split at h
    · rename_i e; subst e; exact jeX5_gatherMode_17 (lbX5_gatherMode_17 hcv hk12 qfu) h
    split at h
    · rename_i e; subst e; exact jeX5_gatherMode_46 (lbX5_gatherMode_46 hcv hk12) h
    cases h) 400 (pc := 46) (L := [.ref x0, .int x1, .int x2, .int x3, .int x4, .null, .null]) (S := []) h
theorem lbX5_gatherMode_17 {base : Nat} {D : va_G} {ca : Nat → ClassId} {cv : Nat → Value} (hcv : ∀ j, (cv j).category = 1) {k12 : Nat → Int32 → Int32 → Int32 → Int32 → qM → Option qR} (hk12 : ∀ (y0 : Nat) (y1 : Int32) (y2 : Int32) (y3 : Int32) (y4 : Int32) (μ : qM) (r : qR), k12 y0 y1 y2 y3 y4 μ = some r → qEv false base D ca cv 1 63 r 12 [.ref y0, .int y1, .int y2, .int y3, .int y4, .null, .null] [] μ) : ∀ (n : Nat) (x0 : Nat) (x1 : Int32) (x2 : Int32) (x3 : Int32) (x4 : Int32) (x5 : Int32) (μ : qM) (r : qR), fX5_gatherMode_17 k12 n x0 x1 x2 x3 x4 x5 μ = some r → qEv false base D ca cv 1 63 r 17 [.ref x0, .int x1, .int x2, .int x3, .int x4, .int x5, .null] [] μ := by
  intro n
  induction n with
  | zero => intro x0 x1 x2 x3 x4 x5 μ r h; exact Option.noConfusion (show (none : Option qR) = some r from h)
  | succ n ih =>
    intro x0 x1 x2 x3 x4 x5 μ r h
    exact qblk_ev2 (cf := cfX5_gatherMode) (st := (fun n => qin [12, 17, 46] n)) (K := (fun pc L S μ => if pc = 12 then jX5_gatherMode_12 k12 L S μ else if pc = 17 then jX5_gatherMode_17 (fX5_gatherMode_17 k12 n) L S μ else if pc = 46 then jX5_gatherMode_46 (fX5_gatherMode_46 k12) L S μ else none)) (cd := qcX5_gatherMode) (M := 63) (d0 := 0) rfl qcok_X5_gatherMode (Nat.le_refl _) (hcX5_gatherMode hcv) (by
    intro pc L S μ r h
    split at h
    · rename_i e; subst e; exact jeX5_gatherMode_12 hk12 h
    split at h
    · rename_i e; subst e; exact jeX5_gatherMode_17 ih h
    split at h
    · rename_i e; subst e; exact jeX5_gatherMode_46 (lbX5_gatherMode_46 hcv hk12) h
    cases h) 400 (pc := 17) (L := [.ref x0, .int x1, .int x2, .int x3, .int x4, .int x5, .null]) (S := []) h
theorem lbX5_gatherMode_12 {base : Nat} {D : va_G} {ca : Nat → ClassId} {cv : Nat → Value} (hcv : ∀ j, (cv j).category = 1) : ∀ (n : Nat) (x0 : Nat) (x1 : Int32) (x2 : Int32) (x3 : Int32) (x4 : Int32) (μ : qM) (r : qR), fX5_gatherMode_12 n x0 x1 x2 x3 x4 μ = some r → qEv false base D ca cv 1 63 r 12 [.ref x0, .int x1, .int x2, .int x3, .int x4, .null, .null] [] μ := by
  intro n
  induction n with
  | zero => intro x0 x1 x2 x3 x4 μ r h; exact Option.noConfusion (show (none : Option qR) = some r from h)
  | succ n ih =>
    intro x0 x1 x2 x3 x4 μ r h
    exact qblk_ev2 (cf := cfX5_gatherMode) (st := (fun n => qin [12, 17, 46] n)) (K := (fun pc L S μ => if pc = 12 then jX5_gatherMode_12 (fX5_gatherMode_12 n) L S μ else if pc = 17 then jX5_gatherMode_17 (fX5_gatherMode_17 (fX5_gatherMode_12 n) qfu) L S μ else if pc = 46 then jX5_gatherMode_46 (fX5_gatherMode_46 (fX5_gatherMode_12 n)) L S μ else none)) (cd := qcX5_gatherMode) (M := 63) (d0 := 0) rfl qcok_X5_gatherMode (Nat.le_refl _) (hcX5_gatherMode hcv) (by
    intro pc L S μ r h
    split at h
    · rename_i e; subst e; exact jeX5_gatherMode_12 ih h
    split at h
    · rename_i e; subst e; exact jeX5_gatherMode_17 (lbX5_gatherMode_17 hcv ih qfu) h
    split at h
    · rename_i e; subst e; exact jeX5_gatherMode_46 (lbX5_gatherMode_46 hcv ih) h
    cases h) 400 (pc := 12) (L := [.ref x0, .int x1, .int x2, .int x3, .int x4, .null, .null]) (S := []) h
theorem npX5_gatherMode : (parseMethodDescriptor (qmy 63).desc).map (fun d => d.parameters.length) = some 2 := by decide +kernel
theorem gdX5_gatherMode {base : Nat} {D : va_G} {ca : Nat → ClassId} {cv : Nat → Value} (hcv : ∀ j, (cv j).category = 1) {a0 : Nat} {a1 : Int32} {a2 : Int32} {μ : qM} {r : qR} (h : fX5_gatherMode a0 a1 a2 μ = some r) : qGood false base D ca cv 1 63 [.ref a0, .int a1, .int a2] μ r := by
  unfold fX5_gatherMode at h
  split at h
  · rename_i hk0
    exact qgood_of (by decide) (by omega) hcv (Or.inr ⟨by decide +kernel, hk0⟩) npX5_gatherMode rfl (by decide) rfl (qblk_ev2 (cf := cfX5_gatherMode) (st := (fun n => qin [12, 17, 46] n)) (K := (fun pc L S μ => if pc = 12 then jX5_gatherMode_12 (fX5_gatherMode_12 qfu) L S μ else none)) (cd := qcX5_gatherMode) (M := 63) (d0 := 0) rfl qcok_X5_gatherMode (Nat.le_refl _) (hcX5_gatherMode hcv) (by
    intro pc L S μ r h
    split at h
    · rename_i e; subst e; exact jeX5_gatherMode_12 (lbX5_gatherMode_12 hcv qfu) h
    cases h) 400 (pc := 0) (L := qent [.ref a0, .int a1, .int a2] 7) (S := []) h)
  · cases h
theorem gaX5_gatherMode {base : Nat} {D : va_G} {ca : Nat → ClassId} {cv : Nat → Value} (hcv : ∀ j, (cv j).category = 1) {l : List Value} {μ : qM} {r : qR} (h : aX5_gatherMode l μ = some r) : qGood false base D ca cv 1 63 l μ r := by
  unfold aX5_gatherMode at h
  split at h
  · exact gdX5_gatherMode hcv h
  · cases h
noncomputable def fX5_holdingsBelow_44 (k14 : Nat → Int32 → Int32 → Int32 → Int32 → qM → Option qR) (x0 : Nat) (x1 : Int32) (x3 : Int32) (x4 : Int32) (x5 : Int32) (μ : qM) : Option qR :=
  k14 x0 x1 x3 (((4 : Int32) * x4) + (4 : Int32)) (((4 : Int32) * x5) + (1 : Int32)) μ
noncomputable def fX5_holdingsBelow_19 (k14 : Nat → Int32 → Int32 → Int32 → Int32 → qM → Option qR) : Nat → Nat → Int32 → Int32 → Int32 → Int32 → Int32 → qM → Option qR
  | 0 => fun _ _ _ _ _ _ _ => none
  | n + 1 => fun x0 x1 x3 x4 x5 x6 μ =>
    if x4 < x6 then
      fX5_holdingsBelow_44 k14 x0 x1 x3 x4 x5 μ
    else
      if (85 : Int32) ≤ x6 then
        fX5_holdingsBelow_44 k14 x0 x1 x3 x4 x5 μ
      else
        qbnd (oGetP μ 5 x0 0) fun v1 =>
        qbnd (oLdI 20 μ v1 x6) fun v2 =>
        if ((qush v2 ((4 : Int32) * x1)) &&& (15 : Int32)) = 0 then
          fX5_holdingsBelow_19 k14 n x0 x1 (x3 + (0 : Int32)) x4 x5 (x6 + (1 : Int32)) μ
        else
          fX5_holdingsBelow_19 k14 n x0 x1 (x3 + (1 : Int32)) x4 x5 (x6 + (1 : Int32)) μ
noncomputable def fX5_holdingsBelow_14 : Nat → Nat → Int32 → Int32 → Int32 → Int32 → qM → Option qR
  | 0 => fun _ _ _ _ _ _ => none
  | n + 1 => fun x0 x1 x3 x4 x5 μ =>
    if (85 : Int32) ≤ x5 then
      some (x3, 0, μ)
    else
      fX5_holdingsBelow_19 (fX5_holdingsBelow_14 n) qfu x0 x1 x3 x4 x5 x5 μ
noncomputable def gX5_holdingsBelow (a0 : Nat) (a1 : Int32) (a2 : Int32) (μ : qM) : Option qR :=
  fX5_holdingsBelow_14 qfu a0 a1 (0 : Int32) (((4 : Int32) * a2) + (4 : Int32)) (((4 : Int32) * a2) + (1 : Int32)) μ
noncomputable def fX5_holdingsBelow (a0 : Nat) (a1 : Int32) (a2 : Int32) (μ : qM) : Option qR := if (qk μ a0).1 = 5 then gX5_holdingsBelow a0 a1 a2 μ else none
noncomputable def aX5_holdingsBelow (l : List Value) (μ : qM) : Option qR := match l with
  | [.ref x0, .int x1, .int x2] => fX5_holdingsBelow x0 x1 x2 μ
  | _ => none
noncomputable def cfX5_holdingsBelow : qF := fun n l μ => none
theorem hcX5_holdingsBelow {base : Nat} {D : va_G} {ca : Nat → ClassId} {cv : Nat → Value} (hcv : ∀ j, (cv j).category = 1) : ∀ M as μ r, cfX5_holdingsBelow M as μ = some r → qGood false base D ca cv 0 M as μ r := by
  intro M as μ r h
  cases h
def jX5_holdingsBelow_14 (f : Nat → Int32 → Int32 → Int32 → Int32 → qM → Option qR) (L S : List Value) (μ : qM) : Option qR := match L, S with
  | [.ref x0, .int x1, _, .int x3, .int x4, .int x5, _], [] => f x0 x1 x3 x4 x5 μ
  | _, _ => none
theorem jeX5_holdingsBelow_14 {base : Nat} {D : va_G} {ca : Nat → ClassId} {cv : Nat → Value} {d : Nat} {f : Nat → Int32 → Int32 → Int32 → Int32 → qM → Option qR} (hf : ∀ (x0 : Nat) (x1 : Int32) (x3 : Int32) (x4 : Int32) (x5 : Int32) (μ : qM) (r : qR), f x0 x1 x3 x4 x5 μ = some r → qEv false base D ca cv d 62 r 14 [.ref x0, .int x1, .null, .int x3, .int x4, .int x5, .null] [] μ) {L S : List Value} {μ : qM} {r : qR} (h : jX5_holdingsBelow_14 f L S μ = some r) : qEv false base D ca cv d 62 r 14 L S μ := by
  unfold jX5_holdingsBelow_14 at h
  split at h
  · exact (hf _ _ _ _ _ _ _ h).le rfl ⟨Or.inr rfl, Or.inr rfl, Or.inl rfl, Or.inr rfl, Or.inr rfl, Or.inr rfl, Or.inl rfl, trivial⟩
  · cases h
def jX5_holdingsBelow_19 (f : Nat → Int32 → Int32 → Int32 → Int32 → Int32 → qM → Option qR) (L S : List Value) (μ : qM) : Option qR := match L, S with
  | [.ref x0, .int x1, _, .int x3, .int x4, .int x5, .int x6], [] => f x0 x1 x3 x4 x5 x6 μ
  | _, _ => none
theorem jeX5_holdingsBelow_19 {base : Nat} {D : va_G} {ca : Nat → ClassId} {cv : Nat → Value} {d : Nat} {f : Nat → Int32 → Int32 → Int32 → Int32 → Int32 → qM → Option qR} (hf : ∀ (x0 : Nat) (x1 : Int32) (x3 : Int32) (x4 : Int32) (x5 : Int32) (x6 : Int32) (μ : qM) (r : qR), f x0 x1 x3 x4 x5 x6 μ = some r → qEv false base D ca cv d 62 r 19 [.ref x0, .int x1, .null, .int x3, .int x4, .int x5, .int x6] [] μ) {L S : List Value} {μ : qM} {r : qR} (h : jX5_holdingsBelow_19 f L S μ = some r) : qEv false base D ca cv d 62 r 19 L S μ := by
  unfold jX5_holdingsBelow_19 at h
  split at h
  · exact (hf _ _ _ _ _ _ _ _ h).le rfl ⟨Or.inr rfl, Or.inr rfl, Or.inl rfl, Or.inr rfl, Or.inr rfl, Or.inr rfl, Or.inr rfl, trivial⟩
  · cases h
def jX5_holdingsBelow_44 (f : Nat → Int32 → Int32 → Int32 → Int32 → qM → Option qR) (L S : List Value) (μ : qM) : Option qR := match L, S with
  | [.ref x0, .int x1, _, .int x3, .int x4, .int x5, _], [] => f x0 x1 x3 x4 x5 μ
  | _, _ => none
theorem jeX5_holdingsBelow_44 {base : Nat} {D : va_G} {ca : Nat → ClassId} {cv : Nat → Value} {d : Nat} {f : Nat → Int32 → Int32 → Int32 → Int32 → qM → Option qR} (hf : ∀ (x0 : Nat) (x1 : Int32) (x3 : Int32) (x4 : Int32) (x5 : Int32) (μ : qM) (r : qR), f x0 x1 x3 x4 x5 μ = some r → qEv false base D ca cv d 62 r 44 [.ref x0, .int x1, .null, .int x3, .int x4, .int x5, .null] [] μ) {L S : List Value} {μ : qM} {r : qR} (h : jX5_holdingsBelow_44 f L S μ = some r) : qEv false base D ca cv d 62 r 44 L S μ := by
  unfold jX5_holdingsBelow_44 at h
  split at h
  · exact (hf _ _ _ _ _ _ _ h).le rfl ⟨Or.inr rfl, Or.inr rfl, Or.inl rfl, Or.inr rfl, Or.inr rfl, Or.inr rfl, Or.inl rfl, trivial⟩
  · cases h
theorem lbX5_holdingsBelow_44 {base : Nat} {D : va_G} {ca : Nat → ClassId} {cv : Nat → Value} (hcv : ∀ j, (cv j).category = 1) {k14 : Nat → Int32 → Int32 → Int32 → Int32 → qM → Option qR} (hk14 : ∀ (y0 : Nat) (y1 : Int32) (y3 : Int32) (y4 : Int32) (y5 : Int32) (μ : qM) (r : qR), k14 y0 y1 y3 y4 y5 μ = some r → qEv false base D ca cv 1 62 r 14 [.ref y0, .int y1, .null, .int y3, .int y4, .int y5, .null] [] μ) (x0 : Nat) (x1 : Int32) (x3 : Int32) (x4 : Int32) (x5 : Int32) (μ : qM) (r : qR) (h : fX5_holdingsBelow_44 k14 x0 x1 x3 x4 x5 μ = some r) : qEv false base D ca cv 1 62 r 44 [.ref x0, .int x1, .null, .int x3, .int x4, .int x5, .null] [] μ := by
    exact qblk_ev2 (cf := cfX5_holdingsBelow) (st := (fun n => qin [14, 19, 44] n)) (K := (fun pc L S μ => if pc = 14 then jX5_holdingsBelow_14 k14 L S μ else if pc = 19 then jX5_holdingsBelow_19 (fX5_holdingsBelow_19 k14 qfu) L S μ else if pc = 44 then jX5_holdingsBelow_44 (fX5_holdingsBelow_44 k14) L S μ else none)) (cd := qcX5_holdingsBelow) (M := 62) (d0 := 0) rfl qcok_X5_holdingsBelow (Nat.le_refl _) (hcX5_holdingsBelow hcv) (by
    intro pc L S μ r h
    split at h
    · rename_i e; subst e; exact jeX5_holdingsBelow_14 hk14 h
    split at h
    · rename_i e; subst e; exact jeX5_holdingsBelow_19 (lbX5_holdingsBelow_19 hcv hk14 qfu) h
    split at h
    · rename_i e; subst e; exact jeX5_holdingsBelow_44 (lbX5_holdingsBelow_44 hcv hk14) h
    cases h) 400 (pc := 44) (L := [.ref x0, .int x1, .null, .int x3, .int x4, .int x5, .null]) (S := []) h
theorem lbX5_holdingsBelow_19 {base : Nat} {D : va_G} {ca : Nat → ClassId} {cv : Nat → Value} (hcv : ∀ j, (cv j).category = 1) {k14 : Nat → Int32 → Int32 → Int32 → Int32 → qM → Option qR} (hk14 : ∀ (y0 : Nat) (y1 : Int32) (y3 : Int32) (y4 : Int32) (y5 : Int32) (μ : qM) (r : qR), k14 y0 y1 y3 y4 y5 μ = some r → qEv false base D ca cv 1 62 r 14 [.ref y0, .int y1, .null, .int y3, .int y4, .int y5, .null] [] μ) : ∀ (n : Nat) (x0 : Nat) (x1 : Int32) (x3 : Int32) (x4 : Int32) (x5 : Int32) (x6 : Int32) (μ : qM) (r : qR), fX5_holdingsBelow_19 k14 n x0 x1 x3 x4 x5 x6 μ = some r → qEv false base D ca cv 1 62 r 19 [.ref x0, .int x1, .null, .int x3, .int x4, .int x5, .int x6] [] μ := by
  intro n
  induction n with
  | zero => intro x0 x1 x3 x4 x5 x6 μ r h; exact Option.noConfusion (show (none : Option qR) = some r from h)
  | succ n ih =>
    intro x0 x1 x3 x4 x5 x6 μ r h
    exact qblk_ev2 (cf := cfX5_holdingsBelow) (st := (fun n => qin [14, 19, 44] n)) (K := (fun pc L S μ => if pc = 14 then jX5_holdingsBelow_14 k14 L S μ else if pc = 19 then jX5_holdingsBelow_19 (fX5_holdingsBelow_19 k14 n) L S μ else if pc = 44 then jX5_holdingsBelow_44 (fX5_holdingsBelow_44 k14) L S μ else none)) (cd := qcX5_holdingsBelow) (M := 62) (d0 := 0) rfl qcok_X5_holdingsBelow (Nat.le_refl _) (hcX5_holdingsBelow hcv) (by
    intro pc L S μ r h
    split at h
    · rename_i e; subst e; exact jeX5_holdingsBelow_14 hk14 h
    split at h
    · rename_i e; subst e; exact jeX5_holdingsBelow_19 ih h
    split at h
    · rename_i e; subst e; exact jeX5_holdingsBelow_44 (lbX5_holdingsBelow_44 hcv hk14) h
    cases h) 400 (pc := 19) (L := [.ref x0, .int x1, .null, .int x3, .int x4, .int x5, .int x6]) (S := []) h
theorem lbX5_holdingsBelow_14 {base : Nat} {D : va_G} {ca : Nat → ClassId} {cv : Nat → Value} (hcv : ∀ j, (cv j).category = 1) : ∀ (n : Nat) (x0 : Nat) (x1 : Int32) (x3 : Int32) (x4 : Int32) (x5 : Int32) (μ : qM) (r : qR), fX5_holdingsBelow_14 n x0 x1 x3 x4 x5 μ = some r → qEv false base D ca cv 1 62 r 14 [.ref x0, .int x1, .null, .int x3, .int x4, .int x5, .null] [] μ := by
  intro n
  induction n with
  | zero => intro x0 x1 x3 x4 x5 μ r h; exact Option.noConfusion (show (none : Option qR) = some r from h)
  | succ n ih =>
    intro x0 x1 x3 x4 x5 μ r h
    exact qblk_ev2 (cf := cfX5_holdingsBelow) (st := (fun n => qin [14, 19, 44] n)) (K := (fun pc L S μ => if pc = 14 then jX5_holdingsBelow_14 (fX5_holdingsBelow_14 n) L S μ else if pc = 19 then jX5_holdingsBelow_19 (fX5_holdingsBelow_19 (fX5_holdingsBelow_14 n) qfu) L S μ else if pc = 44 then jX5_holdingsBelow_44 (fX5_holdingsBelow_44 (fX5_holdingsBelow_14 n)) L S μ else none)) (cd := qcX5_holdingsBelow) (M := 62) (d0 := 0) rfl qcok_X5_holdingsBelow (Nat.le_refl _) (hcX5_holdingsBelow hcv) (by
    intro pc L S μ r h
    split at h
    · rename_i e; subst e; exact jeX5_holdingsBelow_14 ih h
    split at h
    · rename_i e; subst e; exact jeX5_holdingsBelow_19 (lbX5_holdingsBelow_19 hcv ih qfu) h
    split at h
    · rename_i e; subst e; exact jeX5_holdingsBelow_44 (lbX5_holdingsBelow_44 hcv ih) h
    cases h) 400 (pc := 14) (L := [.ref x0, .int x1, .null, .int x3, .int x4, .int x5, .null]) (S := []) h
theorem npX5_holdingsBelow : (parseMethodDescriptor (qmy 62).desc).map (fun d => d.parameters.length) = some 2 := by decide +kernel
theorem gdX5_holdingsBelow {base : Nat} {D : va_G} {ca : Nat → ClassId} {cv : Nat → Value} (hcv : ∀ j, (cv j).category = 1) {a0 : Nat} {a1 : Int32} {a2 : Int32} {μ : qM} {r : qR} (h : fX5_holdingsBelow a0 a1 a2 μ = some r) : qGood false base D ca cv 1 62 [.ref a0, .int a1, .int a2] μ r := by
  unfold fX5_holdingsBelow at h
  split at h
  · rename_i hk0
    exact qgood_of (by decide) (by omega) hcv (Or.inr ⟨by decide +kernel, hk0⟩) npX5_holdingsBelow rfl (by decide) rfl (qblk_ev2 (cf := cfX5_holdingsBelow) (st := (fun n => qin [14, 19, 44] n)) (K := (fun pc L S μ => if pc = 14 then jX5_holdingsBelow_14 (fX5_holdingsBelow_14 qfu) L S μ else none)) (cd := qcX5_holdingsBelow) (M := 62) (d0 := 0) rfl qcok_X5_holdingsBelow (Nat.le_refl _) (hcX5_holdingsBelow hcv) (by
    intro pc L S μ r h
    split at h
    · rename_i e; subst e; exact jeX5_holdingsBelow_14 (lbX5_holdingsBelow_14 hcv qfu) h
    cases h) 400 (pc := 0) (L := qent [.ref a0, .int a1, .int a2] 7) (S := []) h)
  · cases h
theorem gaX5_holdingsBelow {base : Nat} {D : va_G} {ca : Nat → ClassId} {cv : Nat → Value} (hcv : ∀ j, (cv j).category = 1) {l : List Value} {μ : qM} {r : qR} (h : aX5_holdingsBelow l μ = some r) : qGood false base D ca cv 1 62 l μ r := by
  unfold aX5_holdingsBelow at h
  split at h
  · exact gdX5_holdingsBelow hcv h
  · cases h
noncomputable def fX5_isOpen_43 (k17 : Nat → Int32 → Int32 → Int32 → Int32 → Int32 → qM → Option qR) (x0 : Nat) (x1 : Int32) (x2 : Int32) (x3 : Int32) (x4 : Int32) (x5 : Int32) (x6 : Int32) (μ : qM) : Option qR :=
  if x5 = x1 then
    k17 x0 x1 x2 x3 x4 (x5 + (1 : Int32)) μ
  else
    qbnd (oTab 1 0 x3) fun v1 =>
    if ((qush v1 x6) &&& (1 : Int32)) = 0 then
      if qnz (0 : Int32) = (0 : Int32) then some ((0 : Int32), 0, μ) else none
    else
      k17 x0 x1 x2 x3 x4 (x5 + (1 : Int32)) μ
noncomputable def fX5_isOpen_17 : Nat → Nat → Int32 → Int32 → Int32 → Int32 → Int32 → qM → Option qR
  | 0 => fun _ _ _ _ _ _ _ => none
  | n + 1 => fun x0 x1 x2 x3 x4 x5 μ =>
    if (8 : Int32) ≤ x5 then
      if qnz (1 : Int32) = (1 : Int32) then some ((1 : Int32), 0, μ) else none
    else
      qbnd (oGetP μ 5 x0 0) fun v1 =>
      qbnd (oLdI 20 μ v1 x2) fun v2 =>
      let w3 : Int32 := ((qush v2 ((4 : Int32) * x5)) &&& (15 : Int32))
      qbnd (oGetP μ 5 x0 5) fun v4 =>
      qbnd (oLdI 20 μ v4 x5) fun v5 =>
      if v5 = x2 then
        if x4 = 0 then
          if w3 = 0 then
            fX5_isOpen_43 (fX5_isOpen_17 n) x0 x1 x2 x3 x4 x5 w3 μ
          else
            if qnz (0 : Int32) = (0 : Int32) then some ((0 : Int32), 0, μ) else none
        else
          if qnz (0 : Int32) = (0 : Int32) then some ((0 : Int32), 0, μ) else none
      else
        fX5_isOpen_43 (fX5_isOpen_17 n) x0 x1 x2 x3 x4 x5 w3 μ
noncomputable def gX5_isOpen (a0 : Nat) (a1 : Int32) (a2 : Int32) (a3 : Int32) (μ : qM) : Option qR :=
  qbnd (oGetP μ 5 a0 0) fun v1 =>
  qbnd (oLdI 20 μ v1 a2) fun v2 =>
  if ((qush v2 ((4 : Int32) * a1)) &&& (15 : Int32)) = 0 then
    fX5_isOpen_17 qfu a0 a1 a2 a3 (1 : Int32) (0 : Int32) μ
  else
    fX5_isOpen_17 qfu a0 a1 a2 a3 (0 : Int32) (0 : Int32) μ
noncomputable def fX5_isOpen (a0 : Nat) (a1 : Int32) (a2 : Int32) (a3 : Int32) (μ : qM) : Option qR := if (qk μ a0).1 = 5 then gX5_isOpen a0 a1 a2 a3 μ else none
noncomputable def aX5_isOpen (l : List Value) (μ : qM) : Option qR := match l with
  | [.ref x0, .int x1, .int x2, .int x3] => fX5_isOpen x0 x1 x2 x3 μ
  | _ => none
noncomputable def cfX5_isOpen : qF := fun n l μ => none
theorem hcX5_isOpen {base : Nat} {D : va_G} {ca : Nat → ClassId} {cv : Nat → Value} (hcv : ∀ j, (cv j).category = 1) : ∀ M as μ r, cfX5_isOpen M as μ = some r → qGood false base D ca cv 0 M as μ r := by
  intro M as μ r h
  cases h
def jX5_isOpen_17 (f : Nat → Int32 → Int32 → Int32 → Int32 → Int32 → qM → Option qR) (L S : List Value) (μ : qM) : Option qR := match L, S with
  | [.ref x0, .int x1, .int x2, .int x3, .int x4, .int x5, _], [] => f x0 x1 x2 x3 x4 x5 μ
  | _, _ => none
theorem jeX5_isOpen_17 {base : Nat} {D : va_G} {ca : Nat → ClassId} {cv : Nat → Value} {d : Nat} {f : Nat → Int32 → Int32 → Int32 → Int32 → Int32 → qM → Option qR} (hf : ∀ (x0 : Nat) (x1 : Int32) (x2 : Int32) (x3 : Int32) (x4 : Int32) (x5 : Int32) (μ : qM) (r : qR), f x0 x1 x2 x3 x4 x5 μ = some r → qEv false base D ca cv d 67 r 17 [.ref x0, .int x1, .int x2, .int x3, .int x4, .int x5, .null] [] μ) {L S : List Value} {μ : qM} {r : qR} (h : jX5_isOpen_17 f L S μ = some r) : qEv false base D ca cv d 67 r 17 L S μ := by
  unfold jX5_isOpen_17 at h
  split at h
  · exact (hf _ _ _ _ _ _ _ _ h).le rfl ⟨Or.inr rfl, Or.inr rfl, Or.inr rfl, Or.inr rfl, Or.inr rfl, Or.inr rfl, Or.inl rfl, trivial⟩
  · cases h
def jX5_isOpen_43 (f : Nat → Int32 → Int32 → Int32 → Int32 → Int32 → Int32 → qM → Option qR) (L S : List Value) (μ : qM) : Option qR := match L, S with
  | [.ref x0, .int x1, .int x2, .int x3, .int x4, .int x5, .int x6], [] => f x0 x1 x2 x3 x4 x5 x6 μ
  | _, _ => none
theorem jeX5_isOpen_43 {base : Nat} {D : va_G} {ca : Nat → ClassId} {cv : Nat → Value} {d : Nat} {f : Nat → Int32 → Int32 → Int32 → Int32 → Int32 → Int32 → qM → Option qR} (hf : ∀ (x0 : Nat) (x1 : Int32) (x2 : Int32) (x3 : Int32) (x4 : Int32) (x5 : Int32) (x6 : Int32) (μ : qM) (r : qR), f x0 x1 x2 x3 x4 x5 x6 μ = some r → qEv false base D ca cv d 67 r 43 [.ref x0, .int x1, .int x2, .int x3, .int x4, .int x5, .int x6] [] μ) {L S : List Value} {μ : qM} {r : qR} (h : jX5_isOpen_43 f L S μ = some r) : qEv false base D ca cv d 67 r 43 L S μ := by
  unfold jX5_isOpen_43 at h
  split at h
  · exact (hf _ _ _ _ _ _ _ _ _ h).le rfl ⟨Or.inr rfl, Or.inr rfl, Or.inr rfl, Or.inr rfl, Or.inr rfl, Or.inr rfl, Or.inr rfl, trivial⟩
  · cases h
theorem lbX5_isOpen_43 {base : Nat} {D : va_G} {ca : Nat → ClassId} {cv : Nat → Value} (hcv : ∀ j, (cv j).category = 1) {k17 : Nat → Int32 → Int32 → Int32 → Int32 → Int32 → qM → Option qR} (hk17 : ∀ (y0 : Nat) (y1 : Int32) (y2 : Int32) (y3 : Int32) (y4 : Int32) (y5 : Int32) (μ : qM) (r : qR), k17 y0 y1 y2 y3 y4 y5 μ = some r → qEv false base D ca cv 1 67 r 17 [.ref y0, .int y1, .int y2, .int y3, .int y4, .int y5, .null] [] μ) (x0 : Nat) (x1 : Int32) (x2 : Int32) (x3 : Int32) (x4 : Int32) (x5 : Int32) (x6 : Int32) (μ : qM) (r : qR) (h : fX5_isOpen_43 k17 x0 x1 x2 x3 x4 x5 x6 μ = some r) : qEv false base D ca cv 1 67 r 43 [.ref x0, .int x1, .int x2, .int x3, .int x4, .int x5, .int x6] [] μ := by
    exact qblk_ev2 (cf := cfX5_isOpen) (st := (fun n => qin [17, 43] n)) (K := (fun pc L S μ => if pc = 17 then jX5_isOpen_17 k17 L S μ else if pc = 43 then jX5_isOpen_43 (fX5_isOpen_43 k17) L S μ else none)) (cd := qcX5_isOpen) (M := 67) (d0 := 0) rfl qcok_X5_isOpen (Nat.le_refl _) (hcX5_isOpen hcv) (by
    intro pc L S μ r h
    split at h
    · rename_i e; subst e; exact jeX5_isOpen_17 hk17 h
    split at h
    · rename_i e; subst e; exact jeX5_isOpen_43 (lbX5_isOpen_43 hcv hk17) h
    cases h) 400 (pc := 43) (L := [.ref x0, .int x1, .int x2, .int x3, .int x4, .int x5, .int x6]) (S := []) h
theorem lbX5_isOpen_17 {base : Nat} {D : va_G} {ca : Nat → ClassId} {cv : Nat → Value} (hcv : ∀ j, (cv j).category = 1) : ∀ (n : Nat) (x0 : Nat) (x1 : Int32) (x2 : Int32) (x3 : Int32) (x4 : Int32) (x5 : Int32) (μ : qM) (r : qR), fX5_isOpen_17 n x0 x1 x2 x3 x4 x5 μ = some r → qEv false base D ca cv 1 67 r 17 [.ref x0, .int x1, .int x2, .int x3, .int x4, .int x5, .null] [] μ := by
  intro n
  induction n with
  | zero => intro x0 x1 x2 x3 x4 x5 μ r h; exact Option.noConfusion (show (none : Option qR) = some r from h)
  | succ n ih =>
    intro x0 x1 x2 x3 x4 x5 μ r h
    exact qblk_ev2 (cf := cfX5_isOpen) (st := (fun n => qin [17, 43] n)) (K := (fun pc L S μ => if pc = 17 then jX5_isOpen_17 (fX5_isOpen_17 n) L S μ else if pc = 43 then jX5_isOpen_43 (fX5_isOpen_43 (fX5_isOpen_17 n)) L S μ else none)) (cd := qcX5_isOpen) (M := 67) (d0 := 0) rfl qcok_X5_isOpen (Nat.le_refl _) (hcX5_isOpen hcv) (by
    intro pc L S μ r h
    split at h
    · rename_i e; subst e; exact jeX5_isOpen_17 ih h
    split at h
    · rename_i e; subst e; exact jeX5_isOpen_43 (lbX5_isOpen_43 hcv ih) h
    cases h) 400 (pc := 17) (L := [.ref x0, .int x1, .int x2, .int x3, .int x4, .int x5, .null]) (S := []) h
theorem npX5_isOpen : (parseMethodDescriptor (qmy 67).desc).map (fun d => d.parameters.length) = some 3 := by decide +kernel
theorem gdX5_isOpen {base : Nat} {D : va_G} {ca : Nat → ClassId} {cv : Nat → Value} (hcv : ∀ j, (cv j).category = 1) {a0 : Nat} {a1 : Int32} {a2 : Int32} {a3 : Int32} {μ : qM} {r : qR} (h : fX5_isOpen a0 a1 a2 a3 μ = some r) : qGood false base D ca cv 1 67 [.ref a0, .int a1, .int a2, .int a3] μ r := by
  unfold fX5_isOpen at h
  split at h
  · rename_i hk0
    exact qgood_of (by decide) (by omega) hcv (Or.inr ⟨by decide +kernel, hk0⟩) npX5_isOpen rfl (by decide) rfl (qblk_ev2 (cf := cfX5_isOpen) (st := (fun n => qin [17, 43] n)) (K := (fun pc L S μ => if pc = 17 then jX5_isOpen_17 (fX5_isOpen_17 qfu) L S μ else none)) (cd := qcX5_isOpen) (M := 67) (d0 := 0) rfl qcok_X5_isOpen (Nat.le_refl _) (hcX5_isOpen hcv) (by
    intro pc L S μ r h
    split at h
    · rename_i e; subst e; exact jeX5_isOpen_17 (lbX5_isOpen_17 hcv qfu) h
    cases h) 400 (pc := 0) (L := qent [.ref a0, .int a1, .int a2, .int a3] 7) (S := []) h)
  · cases h
theorem gaX5_isOpen {base : Nat} {D : va_G} {ca : Nat → ClassId} {cv : Nat → Value} (hcv : ∀ j, (cv j).category = 1) {l : List Value} {μ : qM} {r : qR} (h : aX5_isOpen l μ = some r) : qGood false base D ca cv 1 67 l μ r := by
  unfold aX5_isOpen at h
  split at h
  · exact gdX5_isOpen hcv h
  · cases h
noncomputable def gX5_setMode (a0 : Nat) (a1 : Int32) (a2 : Int32) (a3 : Int32) (μ : qM) : Option qR :=
  qbnd (oGetP μ 5 a0 0) fun v1 =>
  qbnd (oGetP μ 5 a0 0) fun v2 =>
  qbnd (oLdI 20 μ v2 a2) fun v3 =>
  qbnd (oStI 20 μ v1 a2 ((v3 &&& (((15 : Int32) <<< (((4 : Int32) * a1) &&& 31)) ^^^ (-1 : Int32))) ||| (a3 <<< (((4 : Int32) * a1) &&& 31)))) fun μ4 =>
  some (0, 0, μ4)
noncomputable def fX5_setMode (a0 : Nat) (a1 : Int32) (a2 : Int32) (a3 : Int32) (μ : qM) : Option qR := if (qk μ a0).1 = 5 then gX5_setMode a0 a1 a2 a3 μ else none
noncomputable def aX5_setMode (l : List Value) (μ : qM) : Option qR := match l with
  | [.ref x0, .int x1, .int x2, .int x3] => fX5_setMode x0 x1 x2 x3 μ
  | _ => none
noncomputable def cfX5_setMode : qF := fun n l μ => none
theorem hcX5_setMode {base : Nat} {D : va_G} {ca : Nat → ClassId} {cv : Nat → Value} (hcv : ∀ j, (cv j).category = 1) : ∀ M as μ r, cfX5_setMode M as μ = some r → qGood false base D ca cv 0 M as μ r := by
  intro M as μ r h
  cases h
theorem npX5_setMode : (parseMethodDescriptor (qmy 55).desc).map (fun d => d.parameters.length) = some 3 := by decide +kernel
theorem gdX5_setMode {base : Nat} {D : va_G} {ca : Nat → ClassId} {cv : Nat → Value} (hcv : ∀ j, (cv j).category = 1) {a0 : Nat} {a1 : Int32} {a2 : Int32} {a3 : Int32} {μ : qM} {r : qR} (h : fX5_setMode a0 a1 a2 a3 μ = some r) : qGood false base D ca cv 1 55 [.ref a0, .int a1, .int a2, .int a3] μ r := by
  unfold fX5_setMode at h
  split at h
  · rename_i hk0
    exact qgood_of (by decide) (by omega) hcv (Or.inr ⟨by decide +kernel, hk0⟩) npX5_setMode rfl (by decide) rfl (qblk_ev2 (cf := cfX5_setMode) (st := (fun n => qin [] n)) (K := (fun pc L S μ => none)) (cd := qcX5_setMode) (M := 55) (d0 := 0) rfl qcok_X5_setMode (Nat.le_refl _) (hcX5_setMode hcv) (by
    intro pc L S μ r h
    cases h) 400 (pc := 0) (L := qent [.ref a0, .int a1, .int a2, .int a3] 4) (S := []) h)
  · cases h
theorem gaX5_setMode {base : Nat} {D : va_G} {ca : Nat → ClassId} {cv : Nat → Value} (hcv : ∀ j, (cv j).category = 1) {l : List Value} {μ : qM} {r : qR} (h : aX5_setMode l μ = some r) : qGood false base D ca cv 1 55 l μ r := by
  unfold aX5_setMode at h
  split at h
  · exact gdX5_setMode hcv h
  · cases h
noncomputable def gX0_release (a0 : Nat) (a1 : Int32) (a2 : Int32) (μ : qM) : Option qR :=
  qbnd (oGetP μ 0 a0 0) fun v1 =>
  qbnd (oGetP μ 5 v1 0) fun v2 =>
  qbnd (oLdI 20 μ v2 a2) fun v3 =>
  qbnd (oStI 20 μ v2 a2 (v3 &&& (((15 : Int32) <<< (((4 : Int32) * a1) &&& 31)) ^^^ (-1 : Int32)))) fun μ4 =>
  qbnd (oGetP μ4 0 a0 3) fun v5 =>
  qbnd (oLdI 20 μ4 v5 a2) fun v6 =>
  qbnd (oStI 20 μ4 v5 a2 (v6 ||| ((1 : Int32) <<< (a1 &&& 31)))) fun μ7 =>
  some (0, 0, μ7)
noncomputable def fX0_release (a0 : Nat) (a1 : Int32) (a2 : Int32) (μ : qM) : Option qR := if (qk μ a0).1 = 0 then gX0_release a0 a1 a2 μ else none
noncomputable def aX0_release (l : List Value) (μ : qM) : Option qR := match l with
  | [.ref x0, .int x1, .int x2] => fX0_release x0 x1 x2 μ
  | _ => none
noncomputable def cfX0_release : qF := fun n l μ => none
theorem hcX0_release {base : Nat} {D : va_G} {ca : Nat → ClassId} {cv : Nat → Value} (hcv : ∀ j, (cv j).category = 1) : ∀ M as μ r, cfX0_release M as μ = some r → qGood false base D ca cv 0 M as μ r := by
  intro M as μ r h
  cases h
theorem npX0_release : (parseMethodDescriptor (qmy 15).desc).map (fun d => d.parameters.length) = some 2 := by decide +kernel
theorem gdX0_release {base : Nat} {D : va_G} {ca : Nat → ClassId} {cv : Nat → Value} (hcv : ∀ j, (cv j).category = 1) {a0 : Nat} {a1 : Int32} {a2 : Int32} {μ : qM} {r : qR} (h : fX0_release a0 a1 a2 μ = some r) : qGood false base D ca cv 1 15 [.ref a0, .int a1, .int a2] μ r := by
  unfold fX0_release at h
  split at h
  · rename_i hk0
    exact qgood_of (by decide) (by omega) hcv (Or.inr ⟨by decide +kernel, hk0⟩) npX0_release rfl (by decide) rfl (qblk_ev2 (cf := cfX0_release) (st := (fun n => qin [] n)) (K := (fun pc L S μ => none)) (cd := qcX0_release) (M := 15) (d0 := 0) rfl qcok_X0_release (Nat.le_refl _) (hcX0_release hcv) (by
    intro pc L S μ r h
    cases h) 400 (pc := 0) (L := qent [.ref a0, .int a1, .int a2] 3) (S := []) h)
  · cases h
theorem gaX0_release {base : Nat} {D : va_G} {ca : Nat → ClassId} {cv : Nat → Value} (hcv : ∀ j, (cv j).category = 1) {l : List Value} {μ : qM} {r : qR} (h : aX0_release l μ = some r) : qGood false base D ca cv 1 15 l μ r := by
  unfold aX0_release at h
  split at h
  · exact gdX0_release hcv h
  · cases h
noncomputable def fX0_takeDue_12 (x0 : Nat) (x1 : Int32) (x2 : Int32) (s0 : Int32) (μ : qM) : Option qR :=
  qbnd (oGetP μ 0 x0 3) fun v1 =>
  qbnd (oLdI 20 μ v1 x2) fun v2 =>
  qbnd (oStI 20 μ v1 x2 (v2 &&& (((1 : Int32) <<< (x1 &&& 31)) ^^^ (-1 : Int32)))) fun μ3 =>
  if qnz s0 = s0 then some (s0, 0, μ3) else none
noncomputable def gX0_takeDue (a0 : Nat) (a1 : Int32) (a2 : Int32) (μ : qM) : Option qR :=
  qbnd (oGetP μ 0 a0 3) fun v1 =>
  qbnd (oLdI 20 μ v1 a2) fun v2 =>
  if ((qush v2 a1) &&& (1 : Int32)) = 0 then
    fX0_takeDue_12 a0 a1 a2 (0 : Int32) μ
  else
    fX0_takeDue_12 a0 a1 a2 (1 : Int32) μ
noncomputable def fX0_takeDue (a0 : Nat) (a1 : Int32) (a2 : Int32) (μ : qM) : Option qR := if (qk μ a0).1 = 0 then gX0_takeDue a0 a1 a2 μ else none
noncomputable def aX0_takeDue (l : List Value) (μ : qM) : Option qR := match l with
  | [.ref x0, .int x1, .int x2] => fX0_takeDue x0 x1 x2 μ
  | _ => none
noncomputable def cfX0_takeDue : qF := fun n l μ => none
theorem hcX0_takeDue {base : Nat} {D : va_G} {ca : Nat → ClassId} {cv : Nat → Value} (hcv : ∀ j, (cv j).category = 1) : ∀ M as μ r, cfX0_takeDue M as μ = some r → qGood false base D ca cv 0 M as μ r := by
  intro M as μ r h
  cases h
def jX0_takeDue_12 (f : Nat → Int32 → Int32 → Int32 → qM → Option qR) (L S : List Value) (μ : qM) : Option qR := match L, S with
  | [.ref x0, .int x1, .int x2, _], [.int s0] => f x0 x1 x2 s0 μ
  | _, _ => none
theorem jeX0_takeDue_12 {base : Nat} {D : va_G} {ca : Nat → ClassId} {cv : Nat → Value} {d : Nat} {f : Nat → Int32 → Int32 → Int32 → qM → Option qR} (hf : ∀ (x0 : Nat) (x1 : Int32) (x2 : Int32) (s0 : Int32) (μ : qM) (r : qR), f x0 x1 x2 s0 μ = some r → qEv false base D ca cv d 16 r 12 [.ref x0, .int x1, .int x2, .null] [.int s0] μ) {L S : List Value} {μ : qM} {r : qR} (h : jX0_takeDue_12 f L S μ = some r) : qEv false base D ca cv d 16 r 12 L S μ := by
  unfold jX0_takeDue_12 at h
  split at h
  · exact (hf _ _ _ _ _ _ h).le rfl ⟨Or.inr rfl, Or.inr rfl, Or.inr rfl, Or.inl rfl, trivial⟩
  · cases h
theorem lbX0_takeDue_12 {base : Nat} {D : va_G} {ca : Nat → ClassId} {cv : Nat → Value} (hcv : ∀ j, (cv j).category = 1) (x0 : Nat) (x1 : Int32) (x2 : Int32) (s0 : Int32) (μ : qM) (r : qR) (h : fX0_takeDue_12 x0 x1 x2 s0 μ = some r) : qEv false base D ca cv 1 16 r 12 [.ref x0, .int x1, .int x2, .null] [.int s0] μ := by
    exact qblk_ev2 (cf := cfX0_takeDue) (st := (fun n => qin [12] n)) (K := (fun pc L S μ => if pc = 12 then jX0_takeDue_12 (fX0_takeDue_12) L S μ else none)) (cd := qcX0_takeDue) (M := 16) (d0 := 0) rfl qcok_X0_takeDue (Nat.le_refl _) (hcX0_takeDue hcv) (by
    intro pc L S μ r h
    split at h
    · rename_i e; subst e; exact jeX0_takeDue_12 (lbX0_takeDue_12 hcv) h
    cases h) 400 (pc := 12) (L := [.ref x0, .int x1, .int x2, .null]) (S := [.int s0]) h
theorem npX0_takeDue : (parseMethodDescriptor (qmy 16).desc).map (fun d => d.parameters.length) = some 2 := by decide +kernel
theorem gdX0_takeDue {base : Nat} {D : va_G} {ca : Nat → ClassId} {cv : Nat → Value} (hcv : ∀ j, (cv j).category = 1) {a0 : Nat} {a1 : Int32} {a2 : Int32} {μ : qM} {r : qR} (h : fX0_takeDue a0 a1 a2 μ = some r) : qGood false base D ca cv 1 16 [.ref a0, .int a1, .int a2] μ r := by
  unfold fX0_takeDue at h
  split at h
  · rename_i hk0
    exact qgood_of (by decide) (by omega) hcv (Or.inr ⟨by decide +kernel, hk0⟩) npX0_takeDue rfl (by decide) rfl (qblk_ev2 (cf := cfX0_takeDue) (st := (fun n => qin [12] n)) (K := (fun pc L S μ => if pc = 12 then jX0_takeDue_12 (fX0_takeDue_12) L S μ else none)) (cd := qcX0_takeDue) (M := 16) (d0 := 0) rfl qcok_X0_takeDue (Nat.le_refl _) (hcX0_takeDue hcv) (by
    intro pc L S μ r h
    split at h
    · rename_i e; subst e; exact jeX0_takeDue_12 (lbX0_takeDue_12 hcv) h
    cases h) 400 (pc := 0) (L := qent [.ref a0, .int a1, .int a2] 4) (S := []) h)
  · cases h
theorem gaX0_takeDue {base : Nat} {D : va_G} {ca : Nat → ClassId} {cv : Nat → Value} (hcv : ∀ j, (cv j).category = 1) {l : List Value} {μ : qM} {r : qR} (h : aX0_takeDue l μ = some r) : qGood false base D ca cv 1 16 l μ r := by
  unfold aX0_takeDue at h
  split at h
  · exact gdX0_takeDue hcv h
  · cases h
noncomputable def fX7_stepMode (a0 : Int32) (a1 : Int32) (a2 : Int32) (μ : qM) : Option qR :=
  qbnd (fX7_levelOf a0 μ) fun r1 =>
  if a1 = r1.1 then
    some (a2, 0, r1.2.2)
  else
    if a2 = (1 : Int32) then
      some ((1 : Int32), 0, r1.2.2)
    else
      if a2 = (3 : Int32) then
        some ((1 : Int32), 0, r1.2.2)
      else
        some ((2 : Int32), 0, r1.2.2)
noncomputable def aX7_stepMode (l : List Value) (μ : qM) : Option qR := match l with
  | [.int x0, .int x1, .int x2] => fX7_stepMode x0 x1 x2 μ
  | _ => none
noncomputable def cfX7_stepMode : qF := fun n l μ => if n = 135 then aX7_levelOf l μ else none
theorem hcX7_stepMode {base : Nat} {D : va_G} {ca : Nat → ClassId} {cv : Nat → Value} (hcv : ∀ j, (cv j).category = 1) : ∀ M as μ r, cfX7_stepMode M as μ = some r → qGood false base D ca cv 1 M as μ r := by
  intro M as μ r h
  unfold cfX7_stepMode at h
  split at h
  · rename_i e; subst e; exact (gaX7_levelOf hcv h).mono (by omega)
  cases h
theorem npX7_stepMode : (parseMethodDescriptor (qmy 137).desc).map (fun d => d.parameters.length) = some 3 := by decide +kernel
theorem gdX7_stepMode {base : Nat} {D : va_G} {ca : Nat → ClassId} {cv : Nat → Value} (hcv : ∀ j, (cv j).category = 1) {a0 : Int32} {a1 : Int32} {a2 : Int32} {μ : qM} {r : qR} (h : fX7_stepMode a0 a1 a2 μ = some r) : qGood false base D ca cv 2 137 [.int a0, .int a1, .int a2] μ r := by
  exact qgood_of (by decide) (by omega) hcv (Or.inl rfl) npX7_stepMode rfl (by decide) rfl (qblk_ev2 (cf := cfX7_stepMode) (st := (fun n => qin [] n)) (K := (fun pc L S μ => none)) (cd := qcX7_stepMode) (M := 137) (d0 := 1) rfl qcok_X7_stepMode (Nat.le_refl _) (hcX7_stepMode hcv) (by
    intro pc L S μ r h
    cases h) 400 (pc := 0) (L := qent [.int a0, .int a1, .int a2] 3) (S := []) h)
theorem gaX7_stepMode {base : Nat} {D : va_G} {ca : Nat → ClassId} {cv : Nat → Value} (hcv : ∀ j, (cv j).category = 1) {l : List Value} {μ : qM} {r : qR} (h : aX7_stepMode l μ = some r) : qGood false base D ca cv 2 137 l μ r := by
  unfold aX7_stepMode at h
  split at h
  · exact gdX7_stepMode hcv h
  · cases h
noncomputable def gX5_enqueue (a0 : Nat) (a1 : Int32) (a2 : Int32) (a3 : Int32) (μ : qM) : Option qR :=
  qbnd (oGetP μ 5 a0 1) fun v1 =>
  qbnd (oStI 20 μ v1 a1 (2 : Int32)) fun μ2 =>
  qbnd (oGetP μ2 5 a0 5) fun v3 =>
  qbnd (oStI 20 μ2 v3 a1 a2) fun μ4 =>
  qbnd (oGetP μ4 5 a0 6) fun v5 =>
  qbnd (oStI 20 μ4 v5 a1 a3) fun μ6 =>
  qbnd (oGetP μ6 5 a0 7) fun v7 =>
  qbnd (oGetI μ6 5 a0 10) fun v8 =>
  qbnd (oStI 20 μ6 v7 a1 v8) fun μ9 =>
  qbnd (oGetI μ9 5 a0 10) fun v10 =>
  qbnd (oPutI μ9 5 a0 10 (v10 + (1 : Int32))) fun μ11 =>
  some (0, 0, μ11)
noncomputable def fX5_enqueue (a0 : Nat) (a1 : Int32) (a2 : Int32) (a3 : Int32) (μ : qM) : Option qR := if (qk μ a0).1 = 5 then gX5_enqueue a0 a1 a2 a3 μ else none
noncomputable def aX5_enqueue (l : List Value) (μ : qM) : Option qR := match l with
  | [.ref x0, .int x1, .int x2, .int x3] => fX5_enqueue x0 x1 x2 x3 μ
  | _ => none
noncomputable def cfX5_enqueue : qF := fun n l μ => none
theorem hcX5_enqueue {base : Nat} {D : va_G} {ca : Nat → ClassId} {cv : Nat → Value} (hcv : ∀ j, (cv j).category = 1) : ∀ M as μ r, cfX5_enqueue M as μ = some r → qGood false base D ca cv 0 M as μ r := by
  intro M as μ r h
  cases h
theorem npX5_enqueue : (parseMethodDescriptor (qmy 77).desc).map (fun d => d.parameters.length) = some 3 := by decide +kernel
theorem gdX5_enqueue {base : Nat} {D : va_G} {ca : Nat → ClassId} {cv : Nat → Value} (hcv : ∀ j, (cv j).category = 1) {a0 : Nat} {a1 : Int32} {a2 : Int32} {a3 : Int32} {μ : qM} {r : qR} (h : fX5_enqueue a0 a1 a2 a3 μ = some r) : qGood false base D ca cv 1 77 [.ref a0, .int a1, .int a2, .int a3] μ r := by
  unfold fX5_enqueue at h
  split at h
  · rename_i hk0
    exact qgood_of (by decide) (by omega) hcv (Or.inr ⟨by decide +kernel, hk0⟩) npX5_enqueue rfl (by decide) rfl (qblk_ev2 (cf := cfX5_enqueue) (st := (fun n => qin [] n)) (K := (fun pc L S μ => none)) (cd := qcX5_enqueue) (M := 77) (d0 := 0) rfl qcok_X5_enqueue (Nat.le_refl _) (hcX5_enqueue hcv) (by
    intro pc L S μ r h
    cases h) 400 (pc := 0) (L := qent [.ref a0, .int a1, .int a2, .int a3] 4) (S := []) h)
  · cases h
theorem gaX5_enqueue {base : Nat} {D : va_G} {ca : Nat → ClassId} {cv : Nat → Value} (hcv : ∀ j, (cv j).category = 1) {l : List Value} {μ : qM} {r : qR} (h : aX5_enqueue l μ = some r) : qGood false base D ca cv 1 77 l μ r := by
  unfold aX5_enqueue at h
  split at h
  · exact gdX5_enqueue hcv h
  · cases h
noncomputable def gX5_isChange (a0 : Nat) (a1 : Int32) (μ : qM) : Option qR :=
  qbnd (oGetP μ 5 a0 5) fun v1 =>
  qbnd (oLdI 20 μ v1 a1) fun v2 =>
  if v2 = (85 : Int32) then
    if qnz (0 : Int32) = (0 : Int32) then some ((0 : Int32), 0, μ) else none
  else
    qbnd (oGetP μ 5 a0 0) fun v3 =>
    qbnd (oGetP μ 5 a0 5) fun v4 =>
    qbnd (oLdI 20 μ v4 a1) fun v5 =>
    qbnd (oLdI 20 μ v3 v5) fun v6 =>
    if ((qush v6 ((4 : Int32) * a1)) &&& (15 : Int32)) = 0 then
      if qnz (0 : Int32) = (0 : Int32) then some ((0 : Int32), 0, μ) else none
    else
      if qnz (1 : Int32) = (1 : Int32) then some ((1 : Int32), 0, μ) else none
noncomputable def fX5_isChange (a0 : Nat) (a1 : Int32) (μ : qM) : Option qR := if (qk μ a0).1 = 5 then gX5_isChange a0 a1 μ else none
noncomputable def aX5_isChange (l : List Value) (μ : qM) : Option qR := match l with
  | [.ref x0, .int x1] => fX5_isChange x0 x1 μ
  | _ => none
noncomputable def cfX5_isChange : qF := fun n l μ => none
theorem hcX5_isChange {base : Nat} {D : va_G} {ca : Nat → ClassId} {cv : Nat → Value} (hcv : ∀ j, (cv j).category = 1) : ∀ M as μ r, cfX5_isChange M as μ = some r → qGood false base D ca cv 0 M as μ r := by
  intro M as μ r h
  cases h
theorem npX5_isChange : (parseMethodDescriptor (qmy 72).desc).map (fun d => d.parameters.length) = some 1 := by decide +kernel
theorem gdX5_isChange {base : Nat} {D : va_G} {ca : Nat → ClassId} {cv : Nat → Value} (hcv : ∀ j, (cv j).category = 1) {a0 : Nat} {a1 : Int32} {μ : qM} {r : qR} (h : fX5_isChange a0 a1 μ = some r) : qGood false base D ca cv 1 72 [.ref a0, .int a1] μ r := by
  unfold fX5_isChange at h
  split at h
  · rename_i hk0
    exact qgood_of (by decide) (by omega) hcv (Or.inr ⟨by decide +kernel, hk0⟩) npX5_isChange rfl (by decide) rfl (qblk_ev2 (cf := cfX5_isChange) (st := (fun n => qin [] n)) (K := (fun pc L S μ => none)) (cd := qcX5_isChange) (M := 72) (d0 := 0) rfl qcok_X5_isChange (Nat.le_refl _) (hcX5_isChange hcv) (by
    intro pc L S μ r h
    cases h) 400 (pc := 0) (L := qent [.ref a0, .int a1] 2) (S := []) h)
  · cases h
theorem gaX5_isChange {base : Nat} {D : va_G} {ca : Nat → ClassId} {cv : Nat → Value} (hcv : ∀ j, (cv j).category = 1) {l : List Value} {μ : qM} {r : qR} (h : aX5_isChange l μ = some r) : qGood false base D ca cv 1 72 l μ r := by
  unfold aX5_isChange at h
  split at h
  · exact gdX5_isChange hcv h
  · cases h
noncomputable def gX5_isAhead (a0 : Nat) (a1 : Int32) (a2 : Int32) (μ : qM) : Option qR :=
  qbnd (fX5_isChange a0 a1 μ) fun r1 =>
  qbnd (fX5_isChange a0 a2 r1.2.2) fun r2 =>
  if r1.1 = r2.1 then
    qbnd (oGetP r2.2.2 5 a0 7) fun v3 =>
    qbnd (oLdI 20 r2.2.2 v3 a1) fun v4 =>
    qbnd (oGetP r2.2.2 5 a0 7) fun v5 =>
    qbnd (oLdI 20 r2.2.2 v5 a2) fun v6 =>
    if v6 ≤ v4 then
      if qnz (0 : Int32) = (0 : Int32) then some ((0 : Int32), 0, r2.2.2) else none
    else
      if qnz (1 : Int32) = (1 : Int32) then some ((1 : Int32), 0, r2.2.2) else none
  else
    if qnz r1.1 = r1.1 then some (r1.1, 0, r2.2.2) else none
noncomputable def fX5_isAhead (a0 : Nat) (a1 : Int32) (a2 : Int32) (μ : qM) : Option qR := if (qk μ a0).1 = 5 then gX5_isAhead a0 a1 a2 μ else none
noncomputable def aX5_isAhead (l : List Value) (μ : qM) : Option qR := match l with
  | [.ref x0, .int x1, .int x2] => fX5_isAhead x0 x1 x2 μ
  | _ => none
noncomputable def cfX5_isAhead : qF := fun n l μ => if n = 72 then aX5_isChange l μ else none
theorem hcX5_isAhead {base : Nat} {D : va_G} {ca : Nat → ClassId} {cv : Nat → Value} (hcv : ∀ j, (cv j).category = 1) : ∀ M as μ r, cfX5_isAhead M as μ = some r → qGood false base D ca cv 1 M as μ r := by
  intro M as μ r h
  unfold cfX5_isAhead at h
  split at h
  · rename_i e; subst e; exact (gaX5_isChange hcv h).mono (by omega)
  cases h
theorem npX5_isAhead : (parseMethodDescriptor (qmy 73).desc).map (fun d => d.parameters.length) = some 2 := by decide +kernel
theorem gdX5_isAhead {base : Nat} {D : va_G} {ca : Nat → ClassId} {cv : Nat → Value} (hcv : ∀ j, (cv j).category = 1) {a0 : Nat} {a1 : Int32} {a2 : Int32} {μ : qM} {r : qR} (h : fX5_isAhead a0 a1 a2 μ = some r) : qGood false base D ca cv 2 73 [.ref a0, .int a1, .int a2] μ r := by
  unfold fX5_isAhead at h
  split at h
  · rename_i hk0
    exact qgood_of (by decide) (by omega) hcv (Or.inr ⟨by decide +kernel, hk0⟩) npX5_isAhead rfl (by decide) rfl (qblk_ev2 (cf := cfX5_isAhead) (st := (fun n => qin [] n)) (K := (fun pc L S μ => none)) (cd := qcX5_isAhead) (M := 73) (d0 := 1) rfl qcok_X5_isAhead (Nat.le_refl _) (hcX5_isAhead hcv) (by
    intro pc L S μ r h
    cases h) 400 (pc := 0) (L := qent [.ref a0, .int a1, .int a2] 4) (S := []) h)
  · cases h
theorem gaX5_isAhead {base : Nat} {D : va_G} {ca : Nat → ClassId} {cv : Nat → Value} (hcv : ∀ j, (cv j).category = 1) {l : List Value} {μ : qM} {r : qR} (h : aX5_isAhead l μ = some r) : qGood false base D ca cv 2 73 l μ r := by
  unfold aX5_isAhead at h
  split at h
  · exact gdX5_isAhead hcv h
  · cases h
noncomputable def fX5_firstInQueue_4 : Nat → Nat → Int32 → Int32 → Int32 → qM → Option qR
  | 0 => fun _ _ _ _ _ => none
  | n + 1 => fun x0 x1 x2 x3 μ =>
    if (8 : Int32) ≤ x3 then
      some (x2, 0, μ)
    else
      qbnd (oGetP μ 5 x0 5) fun v1 =>
      qbnd (oLdI 20 μ v1 x3) fun v2 =>
      if v2 = x1 then
        if x2 = (-1 : Int32) then
          fX5_firstInQueue_4 n x0 x1 x3 (x3 + (1 : Int32)) μ
        else
          qbnd (fX5_isAhead x0 x3 x2 μ) fun r3 =>
          if r3.1 = 0 then
            fX5_firstInQueue_4 n x0 x1 x2 (x3 + (1 : Int32)) r3.2.2
          else
            fX5_firstInQueue_4 n x0 x1 x3 (x3 + (1 : Int32)) r3.2.2
      else
        fX5_firstInQueue_4 n x0 x1 x2 (x3 + (1 : Int32)) μ
noncomputable def gX5_firstInQueue (a0 : Nat) (a1 : Int32) (μ : qM) : Option qR :=
  fX5_firstInQueue_4 qfu a0 a1 (-1 : Int32) (0 : Int32) μ
noncomputable def fX5_firstInQueue (a0 : Nat) (a1 : Int32) (μ : qM) : Option qR := if (qk μ a0).1 = 5 then gX5_firstInQueue a0 a1 μ else none
noncomputable def aX5_firstInQueue (l : List Value) (μ : qM) : Option qR := match l with
  | [.ref x0, .int x1] => fX5_firstInQueue x0 x1 μ
  | _ => none
noncomputable def cfX5_firstInQueue : qF := fun n l μ => if n = 73 then aX5_isAhead l μ else none
theorem hcX5_firstInQueue {base : Nat} {D : va_G} {ca : Nat → ClassId} {cv : Nat → Value} (hcv : ∀ j, (cv j).category = 1) : ∀ M as μ r, cfX5_firstInQueue M as μ = some r → qGood false base D ca cv 2 M as μ r := by
  intro M as μ r h
  unfold cfX5_firstInQueue at h
  split at h
  · rename_i e; subst e; exact (gaX5_isAhead hcv h).mono (by omega)
  cases h
def jX5_firstInQueue_4 (f : Nat → Int32 → Int32 → Int32 → qM → Option qR) (L S : List Value) (μ : qM) : Option qR := match L, S with
  | [.ref x0, .int x1, .int x2, .int x3], [] => f x0 x1 x2 x3 μ
  | _, _ => none
theorem jeX5_firstInQueue_4 {base : Nat} {D : va_G} {ca : Nat → ClassId} {cv : Nat → Value} {d : Nat} {f : Nat → Int32 → Int32 → Int32 → qM → Option qR} (hf : ∀ (x0 : Nat) (x1 : Int32) (x2 : Int32) (x3 : Int32) (μ : qM) (r : qR), f x0 x1 x2 x3 μ = some r → qEv false base D ca cv d 75 r 4 [.ref x0, .int x1, .int x2, .int x3] [] μ) {L S : List Value} {μ : qM} {r : qR} (h : jX5_firstInQueue_4 f L S μ = some r) : qEv false base D ca cv d 75 r 4 L S μ := by
  unfold jX5_firstInQueue_4 at h
  split at h
  · exact (hf _ _ _ _ _ _ h).le rfl ⟨Or.inr rfl, Or.inr rfl, Or.inr rfl, Or.inr rfl, trivial⟩
  · cases h
theorem lbX5_firstInQueue_4 {base : Nat} {D : va_G} {ca : Nat → ClassId} {cv : Nat → Value} (hcv : ∀ j, (cv j).category = 1) : ∀ (n : Nat) (x0 : Nat) (x1 : Int32) (x2 : Int32) (x3 : Int32) (μ : qM) (r : qR), fX5_firstInQueue_4 n x0 x1 x2 x3 μ = some r → qEv false base D ca cv 3 75 r 4 [.ref x0, .int x1, .int x2, .int x3] [] μ := by
  intro n
  induction n with
  | zero => intro x0 x1 x2 x3 μ r h; exact Option.noConfusion (show (none : Option qR) = some r from h)
  | succ n ih =>
    intro x0 x1 x2 x3 μ r h
    exact qblk_ev2 (cf := cfX5_firstInQueue) (st := (fun n => qin [4] n)) (K := (fun pc L S μ => if pc = 4 then jX5_firstInQueue_4 (fX5_firstInQueue_4 n) L S μ else none)) (cd := qcX5_firstInQueue) (M := 75) (d0 := 2) rfl qcok_X5_firstInQueue (Nat.le_refl _) (hcX5_firstInQueue hcv) (by
    intro pc L S μ r h
    split at h
    · rename_i e; subst e; exact jeX5_firstInQueue_4 ih h
    cases h) 400 (pc := 4) (L := [.ref x0, .int x1, .int x2, .int x3]) (S := []) h
theorem npX5_firstInQueue : (parseMethodDescriptor (qmy 75).desc).map (fun d => d.parameters.length) = some 1 := by decide +kernel
theorem gdX5_firstInQueue {base : Nat} {D : va_G} {ca : Nat → ClassId} {cv : Nat → Value} (hcv : ∀ j, (cv j).category = 1) {a0 : Nat} {a1 : Int32} {μ : qM} {r : qR} (h : fX5_firstInQueue a0 a1 μ = some r) : qGood false base D ca cv 3 75 [.ref a0, .int a1] μ r := by
  unfold fX5_firstInQueue at h
  split at h
  · rename_i hk0
    exact qgood_of (by decide) (by omega) hcv (Or.inr ⟨by decide +kernel, hk0⟩) npX5_firstInQueue rfl (by decide) rfl (qblk_ev2 (cf := cfX5_firstInQueue) (st := (fun n => qin [4] n)) (K := (fun pc L S μ => if pc = 4 then jX5_firstInQueue_4 (fX5_firstInQueue_4 qfu) L S μ else none)) (cd := qcX5_firstInQueue) (M := 75) (d0 := 2) rfl qcok_X5_firstInQueue (Nat.le_refl _) (hcX5_firstInQueue hcv) (by
    intro pc L S μ r h
    split at h
    · rename_i e; subst e; exact jeX5_firstInQueue_4 (lbX5_firstInQueue_4 hcv qfu) h
    cases h) 400 (pc := 0) (L := qent [.ref a0, .int a1] 4) (S := []) h)
  · cases h
theorem gaX5_firstInQueue {base : Nat} {D : va_G} {ca : Nat → ClassId} {cv : Nat → Value} (hcv : ∀ j, (cv j).category = 1) {l : List Value} {μ : qM} {r : qR} (h : aX5_firstInQueue l μ = some r) : qGood false base D ca cv 3 75 l μ r := by
  unfold aX5_firstInQueue at h
  split at h
  · exact gdX5_firstInQueue hcv h
  · cases h
noncomputable def fX5_fits_2 : Nat → Nat → Int32 → Int32 → Int32 → Int32 → qM → Option qR
  | 0 => fun _ _ _ _ _ _ => none
  | n + 1 => fun x0 x1 x2 x3 x4 μ =>
    if (8 : Int32) ≤ x4 then
      if qnz (1 : Int32) = (1 : Int32) then some ((1 : Int32), 0, μ) else none
    else
      if x4 = x1 then
        fX5_fits_2 n x0 x1 x2 x3 (x4 + (1 : Int32)) μ
      else
        qbnd (oTab 1 0 x3) fun v1 =>
        qbnd (fX5_modeAt x0 x4 x2 μ) fun r2 =>
        if ((qush v1 r2.1) &&& (1 : Int32)) = 0 then
          if qnz (0 : Int32) = (0 : Int32) then some ((0 : Int32), 0, r2.2.2) else none
        else
          fX5_fits_2 n x0 x1 x2 x3 (x4 + (1 : Int32)) r2.2.2
noncomputable def gX5_fits (a0 : Nat) (a1 : Int32) (a2 : Int32) (a3 : Int32) (μ : qM) : Option qR :=
  fX5_fits_2 qfu a0 a1 a2 a3 (0 : Int32) μ
noncomputable def fX5_fits (a0 : Nat) (a1 : Int32) (a2 : Int32) (a3 : Int32) (μ : qM) : Option qR := if (qk μ a0).1 = 5 then gX5_fits a0 a1 a2 a3 μ else none
noncomputable def aX5_fits (l : List Value) (μ : qM) : Option qR := match l with
  | [.ref x0, .int x1, .int x2, .int x3] => fX5_fits x0 x1 x2 x3 μ
  | _ => none
noncomputable def cfX5_fits : qF := fun n l μ => if n = 54 then aX5_modeAt l μ else none
theorem hcX5_fits {base : Nat} {D : va_G} {ca : Nat → ClassId} {cv : Nat → Value} (hcv : ∀ j, (cv j).category = 1) : ∀ M as μ r, cfX5_fits M as μ = some r → qGood false base D ca cv 1 M as μ r := by
  intro M as μ r h
  unfold cfX5_fits at h
  split at h
  · rename_i e; subst e; exact (gaX5_modeAt hcv h).mono (by omega)
  cases h
def jX5_fits_2 (f : Nat → Int32 → Int32 → Int32 → Int32 → qM → Option qR) (L S : List Value) (μ : qM) : Option qR := match L, S with
  | [.ref x0, .int x1, .int x2, .int x3, .int x4], [] => f x0 x1 x2 x3 x4 μ
  | _, _ => none
theorem jeX5_fits_2 {base : Nat} {D : va_G} {ca : Nat → ClassId} {cv : Nat → Value} {d : Nat} {f : Nat → Int32 → Int32 → Int32 → Int32 → qM → Option qR} (hf : ∀ (x0 : Nat) (x1 : Int32) (x2 : Int32) (x3 : Int32) (x4 : Int32) (μ : qM) (r : qR), f x0 x1 x2 x3 x4 μ = some r → qEv false base D ca cv d 66 r 2 [.ref x0, .int x1, .int x2, .int x3, .int x4] [] μ) {L S : List Value} {μ : qM} {r : qR} (h : jX5_fits_2 f L S μ = some r) : qEv false base D ca cv d 66 r 2 L S μ := by
  unfold jX5_fits_2 at h
  split at h
  · exact (hf _ _ _ _ _ _ _ h).le rfl ⟨Or.inr rfl, Or.inr rfl, Or.inr rfl, Or.inr rfl, Or.inr rfl, trivial⟩
  · cases h
theorem lbX5_fits_2 {base : Nat} {D : va_G} {ca : Nat → ClassId} {cv : Nat → Value} (hcv : ∀ j, (cv j).category = 1) : ∀ (n : Nat) (x0 : Nat) (x1 : Int32) (x2 : Int32) (x3 : Int32) (x4 : Int32) (μ : qM) (r : qR), fX5_fits_2 n x0 x1 x2 x3 x4 μ = some r → qEv false base D ca cv 2 66 r 2 [.ref x0, .int x1, .int x2, .int x3, .int x4] [] μ := by
  intro n
  induction n with
  | zero => intro x0 x1 x2 x3 x4 μ r h; exact Option.noConfusion (show (none : Option qR) = some r from h)
  | succ n ih =>
    intro x0 x1 x2 x3 x4 μ r h
    exact qblk_ev2 (cf := cfX5_fits) (st := (fun n => qin [2] n)) (K := (fun pc L S μ => if pc = 2 then jX5_fits_2 (fX5_fits_2 n) L S μ else none)) (cd := qcX5_fits) (M := 66) (d0 := 1) rfl qcok_X5_fits (Nat.le_refl _) (hcX5_fits hcv) (by
    intro pc L S μ r h
    split at h
    · rename_i e; subst e; exact jeX5_fits_2 ih h
    cases h) 400 (pc := 2) (L := [.ref x0, .int x1, .int x2, .int x3, .int x4]) (S := []) h
theorem npX5_fits : (parseMethodDescriptor (qmy 66).desc).map (fun d => d.parameters.length) = some 3 := by decide +kernel
theorem gdX5_fits {base : Nat} {D : va_G} {ca : Nat → ClassId} {cv : Nat → Value} (hcv : ∀ j, (cv j).category = 1) {a0 : Nat} {a1 : Int32} {a2 : Int32} {a3 : Int32} {μ : qM} {r : qR} (h : fX5_fits a0 a1 a2 a3 μ = some r) : qGood false base D ca cv 2 66 [.ref a0, .int a1, .int a2, .int a3] μ r := by
  unfold fX5_fits at h
  split at h
  · rename_i hk0
    exact qgood_of (by decide) (by omega) hcv (Or.inr ⟨by decide +kernel, hk0⟩) npX5_fits rfl (by decide) rfl (qblk_ev2 (cf := cfX5_fits) (st := (fun n => qin [2] n)) (K := (fun pc L S μ => if pc = 2 then jX5_fits_2 (fX5_fits_2 qfu) L S μ else none)) (cd := qcX5_fits) (M := 66) (d0 := 1) rfl qcok_X5_fits (Nat.le_refl _) (hcX5_fits hcv) (by
    intro pc L S μ r h
    split at h
    · rename_i e; subst e; exact jeX5_fits_2 (lbX5_fits_2 hcv qfu) h
    cases h) 400 (pc := 0) (L := qent [.ref a0, .int a1, .int a2, .int a3] 5) (S := []) h)
  · cases h
theorem gaX5_fits {base : Nat} {D : va_G} {ca : Nat → ClassId} {cv : Nat → Value} (hcv : ∀ j, (cv j).category = 1) {l : List Value} {μ : qM} {r : qR} (h : aX5_fits l μ = some r) : qGood false base D ca cv 2 66 l μ r := by
  unfold aX5_fits at h
  split at h
  · exact gdX5_fits hcv h
  · cases h
noncomputable def gX5_grant (a0 : Nat) (a1 : Int32) (μ : qM) : Option qR :=
  qbnd (oGetP μ 5 a0 5) fun v1 =>
  qbnd (oLdI 20 μ v1 a1) fun v2 =>
  qbnd (oGetP μ 5 a0 6) fun v3 =>
  qbnd (oLdI 20 μ v3 a1) fun v4 =>
  qbnd (fX5_setMode a0 a1 v2 v4 μ) fun r5 =>
  qbnd (oGetP r5.2.2 5 a0 1) fun v6 =>
  qbnd (oStI 20 r5.2.2 v6 a1 (1 : Int32)) fun μ7 =>
  qbnd (oGetP μ7 5 a0 5) fun v8 =>
  qbnd (oStI 20 μ7 v8 a1 (85 : Int32)) fun μ9 =>
  some (0, 0, μ9)
noncomputable def fX5_grant (a0 : Nat) (a1 : Int32) (μ : qM) : Option qR := if (qk μ a0).1 = 5 then gX5_grant a0 a1 μ else none
noncomputable def aX5_grant (l : List Value) (μ : qM) : Option qR := match l with
  | [.ref x0, .int x1] => fX5_grant x0 x1 μ
  | _ => none
noncomputable def cfX5_grant : qF := fun n l μ => if n = 55 then aX5_setMode l μ else none
theorem hcX5_grant {base : Nat} {D : va_G} {ca : Nat → ClassId} {cv : Nat → Value} (hcv : ∀ j, (cv j).category = 1) : ∀ M as μ r, cfX5_grant M as μ = some r → qGood false base D ca cv 1 M as μ r := by
  intro M as μ r h
  unfold cfX5_grant at h
  split at h
  · rename_i e; subst e; exact (gaX5_setMode hcv h).mono (by omega)
  cases h
theorem npX5_grant : (parseMethodDescriptor (qmy 78).desc).map (fun d => d.parameters.length) = some 1 := by decide +kernel
theorem gdX5_grant {base : Nat} {D : va_G} {ca : Nat → ClassId} {cv : Nat → Value} (hcv : ∀ j, (cv j).category = 1) {a0 : Nat} {a1 : Int32} {μ : qM} {r : qR} (h : fX5_grant a0 a1 μ = some r) : qGood false base D ca cv 2 78 [.ref a0, .int a1] μ r := by
  unfold fX5_grant at h
  split at h
  · rename_i hk0
    exact qgood_of (by decide) (by omega) hcv (Or.inr ⟨by decide +kernel, hk0⟩) npX5_grant rfl (by decide) rfl (qblk_ev2 (cf := cfX5_grant) (st := (fun n => qin [] n)) (K := (fun pc L S μ => none)) (cd := qcX5_grant) (M := 78) (d0 := 1) rfl qcok_X5_grant (Nat.le_refl _) (hcX5_grant hcv) (by
    intro pc L S μ r h
    cases h) 400 (pc := 0) (L := qent [.ref a0, .int a1] 2) (S := []) h)
  · cases h
theorem gaX5_grant {base : Nat} {D : va_G} {ca : Nat → ClassId} {cv : Nat → Value} (hcv : ∀ j, (cv j).category = 1) {l : List Value} {μ : qM} {r : qR} (h : aX5_grant l μ = some r) : qGood false base D ca cv 2 78 l μ r := by
  unfold aX5_grant at h
  split at h
  · exact gdX5_grant hcv h
  · cases h
noncomputable def fX0_gatherAt_62 (R : qF) (k39 : Nat → Int32 → Int32 → Int32 → Int32 → Int32 → qM → Option qR) (x0 : Nat) (x1 : Int32) (x2 : Int32) (x3 : Int32) (x5 : Int32) (x6 : Int32) (μ : qM) : Option qR :=
  k39 x0 x1 x2 x3 (((4 : Int32) * x5) + (4 : Int32)) (((4 : Int32) * x6) + (1 : Int32)) μ
noncomputable def fX0_gatherAt_44 (R : qF) (k39 : Nat → Int32 → Int32 → Int32 → Int32 → Int32 → qM → Option qR) : Nat → Nat → Int32 → Int32 → Int32 → Int32 → Int32 → Int32 → qM → Option qR
  | 0 => fun _ _ _ _ _ _ _ _ => none
  | n + 1 => fun x0 x1 x2 x3 x5 x6 x7 μ =>
    if x5 < x7 then
      fX0_gatherAt_62 R k39 x0 x1 x2 x3 x5 x6 μ
    else
      if (85 : Int32) ≤ x7 then
        fX0_gatherAt_62 R k39 x0 x1 x2 x3 x5 x6 μ
      else
        qbnd (oGetP μ 0 x0 0) fun v1 =>
        qbnd (fX5_modeAt v1 x1 x7 μ) fun r2 =>
        if r2.1 = 0 then
          fX0_gatherAt_44 R k39 n x0 x1 x2 x3 x5 x6 (x7 + (1 : Int32)) r2.2.2
        else
          qbnd (fX0_release x0 x1 x7 r2.2.2) fun r3 =>
          fX0_gatherAt_44 R k39 n x0 x1 x2 x3 x5 x6 (x7 + (1 : Int32)) r3.2.2
noncomputable def fX0_gatherAt_79 (R : qF) : Nat → Nat → Int32 → Int32 → Int32 → qM → Option qR
  | 0 => fun _ _ _ _ _ => none
  | n + 1 => fun x0 x1 x3 x6 μ =>
    if (85 : Int32) ≤ x6 then
      if qnz (1 : Int32) = (1 : Int32) then some ((1 : Int32), 0, μ) else none
    else
      qbnd (oGetP μ 0 x0 3) fun v1 =>
      qbnd (oLdI 20 μ v1 x6) fun v2 =>
      if v2 = 0 then
        fX0_gatherAt_79 R n x0 x1 x3 (x6 + (1 : Int32)) μ
      else
        qbnd (fX0_takeDue x0 x1 x6 μ) fun r3 =>
        if r3.1 = 0 then
          fX0_gatherAt_79 R n x0 x1 x3 (x6 + (1 : Int32)) r3.2.2
        else
          qbnd (R 17 [.ref x0, .int x6, .int (x3 + (1 : Int32))] r3.2.2) fun r4 =>
          fX0_gatherAt_79 R n x0 x1 x3 (x6 + (1 : Int32)) r4.2.2
noncomputable def fX0_gatherAt_39 (R : qF) : Nat → Nat → Int32 → Int32 → Int32 → Int32 → Int32 → qM → Option qR
  | 0 => fun _ _ _ _ _ _ _ => none
  | n + 1 => fun x0 x1 x2 x3 x5 x6 μ =>
    if (85 : Int32) ≤ x6 then
      fX0_gatherAt_79 R qfu x0 x1 x3 (x2 + (1 : Int32)) μ
    else
      fX0_gatherAt_44 R (fX0_gatherAt_39 R n) qfu x0 x1 x2 x3 x5 x6 x6 μ
noncomputable def gX0_gatherAt (R : qF) (a0 : Nat) (a1 : Int32) (a2 : Int32) (a3 : Int32) (μ : qM) : Option qR :=
  qbnd (oGetP μ 0 a0 0) fun v1 =>
  qbnd (fX5_gatherMode v1 a1 a2 μ) fun r2 =>
  qbnd (oGetP r2.2.2 0 a0 0) fun v3 =>
  qbnd (fX5_holdingsBelow v3 a1 a2 r2.2.2) fun r4 =>
  if r4.1 = 0 then
    if qnz (0 : Int32) = (0 : Int32) then some ((0 : Int32), 0, r4.2.2) else none
  else
    qbnd (oGetP r4.2.2 0 a0 0) fun v5 =>
    qbnd (fX5_isOpen v5 a1 a2 r2.1 r4.2.2) fun r6 =>
    if r6.1 = 0 then
      if qnz (0 : Int32) = (0 : Int32) then some ((0 : Int32), 0, r6.2.2) else none
    else
      qbnd (oGetP r6.2.2 0 a0 0) fun v7 =>
      qbnd (fX5_setMode v7 a1 a2 r2.1 r6.2.2) fun r8 =>
      fX0_gatherAt_39 R qfu a0 a1 a2 a3 (((4 : Int32) * a2) + (4 : Int32)) (((4 : Int32) * a2) + (1 : Int32)) r8.2.2
noncomputable def fX0_gatherAt (R : qF) (a0 : Nat) (a1 : Int32) (a2 : Int32) (a3 : Int32) (μ : qM) : Option qR := if (qk μ a0).1 = 0 then gX0_gatherAt R a0 a1 a2 a3 μ else none
noncomputable def aX0_gatherAt (R : qF) (l : List Value) (μ : qM) : Option qR := match l with
  | [.ref x0, .int x1, .int x2, .int x3] => fX0_gatherAt R x0 x1 x2 x3 μ
  | _ => none
noncomputable def cfX0_gatherAt (R : qF) : qF := fun n l μ => if n = 63 then aX5_gatherMode l μ else if n = 62 then aX5_holdingsBelow l μ else if n = 67 then aX5_isOpen l μ else if n = 55 then aX5_setMode l μ else if n = 54 then aX5_modeAt l μ else if n = 15 then aX0_release l μ else if n = 16 then aX0_takeDue l μ else if n = 17 then R 17 l μ else none
theorem hcX0_gatherAt {base : Nat} {D : va_G} {ca : Nat → ClassId} {cv : Nat → Value} (hcv : ∀ j, (cv j).category = 1) {δ : Nat} {R : qF} (hδ : 10 ≤ δ) (hR : ∀ M as μ r, R M as μ = some r → qGood false base D ca cv δ M as μ r) : ∀ M as μ r, cfX0_gatherAt R M as μ = some r → qGood false base D ca cv (δ + 0) M as μ r := by
  intro M as μ r h
  unfold cfX0_gatherAt at h
  split at h
  · rename_i e; subst e; exact (gaX5_gatherMode hcv h).mono (by omega)
  split at h
  · rename_i e; subst e; exact (gaX5_holdingsBelow hcv h).mono (by omega)
  split at h
  · rename_i e; subst e; exact (gaX5_isOpen hcv h).mono (by omega)
  split at h
  · rename_i e; subst e; exact (gaX5_setMode hcv h).mono (by omega)
  split at h
  · rename_i e; subst e; exact (gaX5_modeAt hcv h).mono (by omega)
  split at h
  · rename_i e; subst e; exact (gaX0_release hcv h).mono (by omega)
  split at h
  · rename_i e; subst e; exact (gaX0_takeDue hcv h).mono (by omega)
  split at h
  · rename_i e; subst e; exact (hR _ _ _ _ h).mono (by omega)
  cases h
def jX0_gatherAt_39 (f : Nat → Int32 → Int32 → Int32 → Int32 → Int32 → qM → Option qR) (L S : List Value) (μ : qM) : Option qR := match L, S with
  | [.ref x0, .int x1, .int x2, .int x3, _, .int x5, .int x6, _], [] => f x0 x1 x2 x3 x5 x6 μ
  | _, _ => none
theorem jeX0_gatherAt_39 {base : Nat} {D : va_G} {ca : Nat → ClassId} {cv : Nat → Value} {d : Nat} {f : Nat → Int32 → Int32 → Int32 → Int32 → Int32 → qM → Option qR} (hf : ∀ (x0 : Nat) (x1 : Int32) (x2 : Int32) (x3 : Int32) (x5 : Int32) (x6 : Int32) (μ : qM) (r : qR), f x0 x1 x2 x3 x5 x6 μ = some r → qEv false base D ca cv d 19 r 39 [.ref x0, .int x1, .int x2, .int x3, .null, .int x5, .int x6, .null] [] μ) {L S : List Value} {μ : qM} {r : qR} (h : jX0_gatherAt_39 f L S μ = some r) : qEv false base D ca cv d 19 r 39 L S μ := by
  unfold jX0_gatherAt_39 at h
  split at h
  · exact (hf _ _ _ _ _ _ _ _ h).le rfl ⟨Or.inr rfl, Or.inr rfl, Or.inr rfl, Or.inr rfl, Or.inl rfl, Or.inr rfl, Or.inr rfl, Or.inl rfl, trivial⟩
  · cases h
def jX0_gatherAt_44 (f : Nat → Int32 → Int32 → Int32 → Int32 → Int32 → Int32 → qM → Option qR) (L S : List Value) (μ : qM) : Option qR := match L, S with
  | [.ref x0, .int x1, .int x2, .int x3, _, .int x5, .int x6, .int x7], [] => f x0 x1 x2 x3 x5 x6 x7 μ
  | _, _ => none
theorem jeX0_gatherAt_44 {base : Nat} {D : va_G} {ca : Nat → ClassId} {cv : Nat → Value} {d : Nat} {f : Nat → Int32 → Int32 → Int32 → Int32 → Int32 → Int32 → qM → Option qR} (hf : ∀ (x0 : Nat) (x1 : Int32) (x2 : Int32) (x3 : Int32) (x5 : Int32) (x6 : Int32) (x7 : Int32) (μ : qM) (r : qR), f x0 x1 x2 x3 x5 x6 x7 μ = some r → qEv false base D ca cv d 19 r 44 [.ref x0, .int x1, .int x2, .int x3, .null, .int x5, .int x6, .int x7] [] μ) {L S : List Value} {μ : qM} {r : qR} (h : jX0_gatherAt_44 f L S μ = some r) : qEv false base D ca cv d 19 r 44 L S μ := by
  unfold jX0_gatherAt_44 at h
  split at h
  · exact (hf _ _ _ _ _ _ _ _ _ h).le rfl ⟨Or.inr rfl, Or.inr rfl, Or.inr rfl, Or.inr rfl, Or.inl rfl, Or.inr rfl, Or.inr rfl, Or.inr rfl, trivial⟩
  · cases h
def jX0_gatherAt_62 (f : Nat → Int32 → Int32 → Int32 → Int32 → Int32 → qM → Option qR) (L S : List Value) (μ : qM) : Option qR := match L, S with
  | [.ref x0, .int x1, .int x2, .int x3, _, .int x5, .int x6, _], [] => f x0 x1 x2 x3 x5 x6 μ
  | _, _ => none
theorem jeX0_gatherAt_62 {base : Nat} {D : va_G} {ca : Nat → ClassId} {cv : Nat → Value} {d : Nat} {f : Nat → Int32 → Int32 → Int32 → Int32 → Int32 → qM → Option qR} (hf : ∀ (x0 : Nat) (x1 : Int32) (x2 : Int32) (x3 : Int32) (x5 : Int32) (x6 : Int32) (μ : qM) (r : qR), f x0 x1 x2 x3 x5 x6 μ = some r → qEv false base D ca cv d 19 r 62 [.ref x0, .int x1, .int x2, .int x3, .null, .int x5, .int x6, .null] [] μ) {L S : List Value} {μ : qM} {r : qR} (h : jX0_gatherAt_62 f L S μ = some r) : qEv false base D ca cv d 19 r 62 L S μ := by
  unfold jX0_gatherAt_62 at h
  split at h
  · exact (hf _ _ _ _ _ _ _ _ h).le rfl ⟨Or.inr rfl, Or.inr rfl, Or.inr rfl, Or.inr rfl, Or.inl rfl, Or.inr rfl, Or.inr rfl, Or.inl rfl, trivial⟩
  · cases h
def jX0_gatherAt_79 (f : Nat → Int32 → Int32 → Int32 → qM → Option qR) (L S : List Value) (μ : qM) : Option qR := match L, S with
  | [.ref x0, .int x1, _, .int x3, _, _, .int x6, _], [] => f x0 x1 x3 x6 μ
  | _, _ => none
theorem jeX0_gatherAt_79 {base : Nat} {D : va_G} {ca : Nat → ClassId} {cv : Nat → Value} {d : Nat} {f : Nat → Int32 → Int32 → Int32 → qM → Option qR} (hf : ∀ (x0 : Nat) (x1 : Int32) (x3 : Int32) (x6 : Int32) (μ : qM) (r : qR), f x0 x1 x3 x6 μ = some r → qEv false base D ca cv d 19 r 79 [.ref x0, .int x1, .null, .int x3, .null, .null, .int x6, .null] [] μ) {L S : List Value} {μ : qM} {r : qR} (h : jX0_gatherAt_79 f L S μ = some r) : qEv false base D ca cv d 19 r 79 L S μ := by
  unfold jX0_gatherAt_79 at h
  split at h
  · exact (hf _ _ _ _ _ _ h).le rfl ⟨Or.inr rfl, Or.inr rfl, Or.inl rfl, Or.inr rfl, Or.inl rfl, Or.inl rfl, Or.inr rfl, Or.inl rfl, trivial⟩
  · cases h
theorem lbX0_gatherAt_62 {base : Nat} {D : va_G} {ca : Nat → ClassId} {cv : Nat → Value} (hcv : ∀ j, (cv j).category = 1) {δ : Nat} {R : qF} (hδ : 10 ≤ δ) (hR : ∀ M as μ r, R M as μ = some r → qGood false base D ca cv δ M as μ r) {k39 : Nat → Int32 → Int32 → Int32 → Int32 → Int32 → qM → Option qR} (hk39 : ∀ (y0 : Nat) (y1 : Int32) (y2 : Int32) (y3 : Int32) (y5 : Int32) (y6 : Int32) (μ : qM) (r : qR), k39 y0 y1 y2 y3 y5 y6 μ = some r → qEv false base D ca cv (δ + 1) 19 r 39 [.ref y0, .int y1, .int y2, .int y3, .null, .int y5, .int y6, .null] [] μ) (x0 : Nat) (x1 : Int32) (x2 : Int32) (x3 : Int32) (x5 : Int32) (x6 : Int32) (μ : qM) (r : qR) (h : fX0_gatherAt_62 R k39 x0 x1 x2 x3 x5 x6 μ = some r) : qEv false base D ca cv (δ + 1) 19 r 62 [.ref x0, .int x1, .int x2, .int x3, .null, .int x5, .int x6, .null] [] μ := by
    exact qblk_ev2 (cf := cfX0_gatherAt R) (st := (fun n => qin [39, 44, 62, 79] n)) (K := (fun pc L S μ => if pc = 39 then jX0_gatherAt_39 k39 L S μ else if pc = 44 then jX0_gatherAt_44 (fX0_gatherAt_44 R k39 qfu) L S μ else if pc = 62 then jX0_gatherAt_62 (fX0_gatherAt_62 R k39) L S μ else if pc = 79 then jX0_gatherAt_79 (fX0_gatherAt_79 R qfu) L S μ else none)) (cd := qcX0_gatherAt) (M := 19) (d0 := (δ + 0)) rfl qcok_X0_gatherAt (Nat.le_refl _) (hcX0_gatherAt hcv hδ hR) (by
    intro pc L S μ r h
    split at h
    · rename_i e; subst e; exact jeX0_gatherAt_39 hk39 h
    split at h
    · rename_i e; subst e; exact jeX0_gatherAt_44 (lbX0_gatherAt_44 hcv hδ hR hk39 qfu) h
    split at h
    · rename_i e; subst e; exact jeX0_gatherAt_62 (lbX0_gatherAt_62 hcv hδ hR hk39) h
    split at h
    · rename_i e; subst e; exact jeX0_gatherAt_79 (lbX0_gatherAt_79 hcv hδ hR qfu) h
    cases h) 400 (pc := 62) (L := [.ref x0, .int x1, .int x2, .int x3, .null, .int x5, .int x6, .null]) (S := []) h
theorem lbX0_gatherAt_44 {base : Nat} {D : va_G} {ca : Nat → ClassId} {cv : Nat → Value} (hcv : ∀ j, (cv j).category = 1) {δ : Nat} {R : qF} (hδ : 10 ≤ δ) (hR : ∀ M as μ r, R M as μ = some r → qGood false base D ca cv δ M as μ r) {k39 : Nat → Int32 → Int32 → Int32 → Int32 → Int32 → qM → Option qR} (hk39 : ∀ (y0 : Nat) (y1 : Int32) (y2 : Int32) (y3 : Int32) (y5 : Int32) (y6 : Int32) (μ : qM) (r : qR), k39 y0 y1 y2 y3 y5 y6 μ = some r → qEv false base D ca cv (δ + 1) 19 r 39 [.ref y0, .int y1, .int y2, .int y3, .null, .int y5, .int y6, .null] [] μ) : ∀ (n : Nat) (x0 : Nat) (x1 : Int32) (x2 : Int32) (x3 : Int32) (x5 : Int32) (x6 : Int32) (x7 : Int32) (μ : qM) (r : qR), fX0_gatherAt_44 R k39 n x0 x1 x2 x3 x5 x6 x7 μ = some r → qEv false base D ca cv (δ + 1) 19 r 44 [.ref x0, .int x1, .int x2, .int x3, .null, .int x5, .int x6, .int x7] [] μ := by
  intro n
  induction n with
  | zero => intro x0 x1 x2 x3 x5 x6 x7 μ r h; exact Option.noConfusion (show (none : Option qR) = some r from h)
  | succ n ih =>
    intro x0 x1 x2 x3 x5 x6 x7 μ r h
    exact qblk_ev2 (cf := cfX0_gatherAt R) (st := (fun n => qin [39, 44, 62, 79] n)) (K := (fun pc L S μ => if pc = 39 then jX0_gatherAt_39 k39 L S μ else if pc = 44 then jX0_gatherAt_44 (fX0_gatherAt_44 R k39 n) L S μ else if pc = 62 then jX0_gatherAt_62 (fX0_gatherAt_62 R k39) L S μ else if pc = 79 then jX0_gatherAt_79 (fX0_gatherAt_79 R qfu) L S μ else none)) (cd := qcX0_gatherAt) (M := 19) (d0 := (δ + 0)) rfl qcok_X0_gatherAt (Nat.le_refl _) (hcX0_gatherAt hcv hδ hR) (by
    intro pc L S μ r h
    split at h
    · rename_i e; subst e; exact jeX0_gatherAt_39 hk39 h
    split at h
    · rename_i e; subst e; exact jeX0_gatherAt_44 ih h
    split at h
    · rename_i e; subst e; exact jeX0_gatherAt_62 (lbX0_gatherAt_62 hcv hδ hR hk39) h
    split at h
    · rename_i e; subst e; exact jeX0_gatherAt_79 (lbX0_gatherAt_79 hcv hδ hR qfu) h
    cases h) 400 (pc := 44) (L := [.ref x0, .int x1, .int x2, .int x3, .null, .int x5, .int x6, .int x7]) (S := []) h
theorem lbX0_gatherAt_79 {base : Nat} {D : va_G} {ca : Nat → ClassId} {cv : Nat → Value} (hcv : ∀ j, (cv j).category = 1) {δ : Nat} {R : qF} (hδ : 10 ≤ δ) (hR : ∀ M as μ r, R M as μ = some r → qGood false base D ca cv δ M as μ r) : ∀ (n : Nat) (x0 : Nat) (x1 : Int32) (x3 : Int32) (x6 : Int32) (μ : qM) (r : qR), fX0_gatherAt_79 R n x0 x1 x3 x6 μ = some r → qEv false base D ca cv (δ + 1) 19 r 79 [.ref x0, .int x1, .null, .int x3, .null, .null, .int x6, .null] [] μ := by
  intro n
  induction n with
  | zero => intro x0 x1 x3 x6 μ r h; exact Option.noConfusion (show (none : Option qR) = some r from h)
  | succ n ih =>
    intro x0 x1 x3 x6 μ r h
    exact qblk_ev2 (cf := cfX0_gatherAt R) (st := (fun n => qin [39, 44, 62, 79] n)) (K := (fun pc L S μ => if pc = 39 then jX0_gatherAt_39 (fX0_gatherAt_39 R qfu) L S μ else if pc = 79 then jX0_gatherAt_79 (fX0_gatherAt_79 R n) L S μ else none)) (cd := qcX0_gatherAt) (M := 19) (d0 := (δ + 0)) rfl qcok_X0_gatherAt (Nat.le_refl _) (hcX0_gatherAt hcv hδ hR) (by
    intro pc L S μ r h
    split at h
    · rename_i e; subst e; exact jeX0_gatherAt_39 (lbX0_gatherAt_39 hcv hδ hR qfu) h
    split at h
    · rename_i e; subst e; exact jeX0_gatherAt_79 ih h
    cases h) 400 (pc := 79) (L := [.ref x0, .int x1, .null, .int x3, .null, .null, .int x6, .null]) (S := []) h
theorem lbX0_gatherAt_39 {base : Nat} {D : va_G} {ca : Nat → ClassId} {cv : Nat → Value} (hcv : ∀ j, (cv j).category = 1) {δ : Nat} {R : qF} (hδ : 10 ≤ δ) (hR : ∀ M as μ r, R M as μ = some r → qGood false base D ca cv δ M as μ r) : ∀ (n : Nat) (x0 : Nat) (x1 : Int32) (x2 : Int32) (x3 : Int32) (x5 : Int32) (x6 : Int32) (μ : qM) (r : qR), fX0_gatherAt_39 R n x0 x1 x2 x3 x5 x6 μ = some r → qEv false base D ca cv (δ + 1) 19 r 39 [.ref x0, .int x1, .int x2, .int x3, .null, .int x5, .int x6, .null] [] μ := by
  intro n
  induction n with
  | zero => intro x0 x1 x2 x3 x5 x6 μ r h; exact Option.noConfusion (show (none : Option qR) = some r from h)
  | succ n ih =>
    intro x0 x1 x2 x3 x5 x6 μ r h
    exact qblk_ev2 (cf := cfX0_gatherAt R) (st := (fun n => qin [39, 44, 62, 79] n)) (K := (fun pc L S μ => if pc = 39 then jX0_gatherAt_39 (fX0_gatherAt_39 R n) L S μ else if pc = 44 then jX0_gatherAt_44 (fX0_gatherAt_44 R (fX0_gatherAt_39 R n) qfu) L S μ else if pc = 62 then jX0_gatherAt_62 (fX0_gatherAt_62 R (fX0_gatherAt_39 R n)) L S μ else if pc = 79 then jX0_gatherAt_79 (fX0_gatherAt_79 R qfu) L S μ else none)) (cd := qcX0_gatherAt) (M := 19) (d0 := (δ + 0)) rfl qcok_X0_gatherAt (Nat.le_refl _) (hcX0_gatherAt hcv hδ hR) (by
    intro pc L S μ r h
    split at h
    · rename_i e; subst e; exact jeX0_gatherAt_39 ih h
    split at h
    · rename_i e; subst e; exact jeX0_gatherAt_44 (lbX0_gatherAt_44 hcv hδ hR ih qfu) h
    split at h
    · rename_i e; subst e; exact jeX0_gatherAt_62 (lbX0_gatherAt_62 hcv hδ hR ih) h
    split at h
    · rename_i e; subst e; exact jeX0_gatherAt_79 (lbX0_gatherAt_79 hcv hδ hR qfu) h
    cases h) 400 (pc := 39) (L := [.ref x0, .int x1, .int x2, .int x3, .null, .int x5, .int x6, .null]) (S := []) h
theorem npX0_gatherAt : (parseMethodDescriptor (qmy 19).desc).map (fun d => d.parameters.length) = some 3 := by decide +kernel
theorem gdX0_gatherAt {base : Nat} {D : va_G} {ca : Nat → ClassId} {cv : Nat → Value} (hcv : ∀ j, (cv j).category = 1) {δ : Nat} {R : qF} (hδ : 10 ≤ δ) (hR : ∀ M as μ r, R M as μ = some r → qGood false base D ca cv δ M as μ r) {a0 : Nat} {a1 : Int32} {a2 : Int32} {a3 : Int32} {μ : qM} {r : qR} (h : fX0_gatherAt R a0 a1 a2 a3 μ = some r) : qGood false base D ca cv (δ + 1) 19 [.ref a0, .int a1, .int a2, .int a3] μ r := by
  unfold fX0_gatherAt at h
  split at h
  · rename_i hk0
    exact qgood_of (by decide) (by omega) hcv (Or.inr ⟨by decide +kernel, hk0⟩) npX0_gatherAt rfl (by decide) rfl (qblk_ev2 (cf := cfX0_gatherAt R) (st := (fun n => qin [39, 44, 62, 79] n)) (K := (fun pc L S μ => if pc = 39 then jX0_gatherAt_39 (fX0_gatherAt_39 R qfu) L S μ else if pc = 79 then jX0_gatherAt_79 (fX0_gatherAt_79 R qfu) L S μ else none)) (cd := qcX0_gatherAt) (M := 19) (d0 := (δ + 0)) rfl qcok_X0_gatherAt (Nat.le_refl _) (hcX0_gatherAt hcv hδ hR) (by
    intro pc L S μ r h
    split at h
    · rename_i e; subst e; exact jeX0_gatherAt_39 (lbX0_gatherAt_39 hcv hδ hR qfu) h
    split at h
    · rename_i e; subst e; exact jeX0_gatherAt_79 (lbX0_gatherAt_79 hcv hδ hR qfu) h
    cases h) 400 (pc := 0) (L := qent [.ref a0, .int a1, .int a2, .int a3] 8) (S := []) h)
  · cases h
theorem gaX0_gatherAt {base : Nat} {D : va_G} {ca : Nat → ClassId} {cv : Nat → Value} (hcv : ∀ j, (cv j).category = 1) {δ : Nat} {R : qF} (hδ : 10 ≤ δ) (hR : ∀ M as μ r, R M as μ = some r → qGood false base D ca cv δ M as μ r) {l : List Value} {μ : qM} {r : qR} (h : aX0_gatherAt R l μ = some r) : qGood false base D ca cv (δ + 1) 19 l μ r := by
  unfold aX0_gatherAt at h
  split at h
  · exact gdX0_gatherAt hcv hδ hR h
  · cases h
noncomputable def fX0_goOn_89 (R : qF) (x0 : Nat) (x1 : Int32) (x3 : Int32) (x6 : Int32) (s0 : Int32) (μ : qM) : Option qR :=
  if s0 = 0 then
    some ((1 : Int32), 0, μ)
  else
    qbnd (fX0_gatherAt R x0 x1 x6 x3 μ) fun r1 =>
    if r1.1 = 0 then
      some ((1 : Int32), 0, r1.2.2)
    else
      some ((2 : Int32), 0, r1.2.2)
noncomputable def fX0_goOn_11 (R : qF) : Nat → Nat → Int32 → Int32 → Int32 → Int32 → Int32 → qM → Option qR
  | 0 => fun _ _ _ _ _ _ _ => none
  | n + 1 => fun x0 x1 x3 x4 x5 x6 μ =>
    if x5 < x6 then
      if x5 = (3 : Int32) then
        qbnd (fX7_onPath x4 (x5 - (1 : Int32)) μ) fun r1 =>
        qbnd (oGetP r1.2.2 0 x0 0) fun v2 =>
        qbnd (fX5_holdingsBelow v2 x1 r1.1 r1.2.2) fun r3 =>
        qbnd (oGetP r3.2.2 0 x0 0) fun v4 =>
        qbnd (oGetI r3.2.2 5 v4 12) fun v5 =>
        if r3.1 < v5 then
          fX0_goOn_89 R x0 x1 x3 r1.1 (0 : Int32) r3.2.2
        else
          fX0_goOn_89 R x0 x1 x3 r1.1 (1 : Int32) r3.2.2
      else
        some ((1 : Int32), 0, μ)
    else
      qbnd (fX7_onPath x4 x6 μ) fun r6 =>
      qbnd (oGetP r6.2.2 0 x0 0) fun v7 =>
      qbnd (fX5_modeAt v7 x1 r6.1 r6.2.2) fun r8 =>
      qbnd (oGetP r8.2.2 0 x0 0) fun v9 =>
      qbnd (oGetP r8.2.2 5 v9 9) fun v10 =>
      qbnd (oLdI 20 r8.2.2 v10 x1) fun v11 =>
      qbnd (fX7_stepMode x4 x6 v11 r8.2.2) fun r12 =>
      qbnd (oTab 1 2 (((7 : Int32) * r8.1) + r12.1)) fun v13 =>
      if v13 = r8.1 then
        fX0_goOn_11 R n x0 x1 x3 x4 x5 (x6 + (1 : Int32)) r12.2.2
      else
        qbnd (oGetP r12.2.2 0 x0 0) fun v14 =>
        qbnd (fX5_isOpen v14 x1 r6.1 v13 r12.2.2) fun r15 =>
        if r15.1 = 0 then
          qbnd (oGetP r15.2.2 0 x0 0) fun v18 =>
          qbnd (fX5_enqueue v18 x1 r6.1 v13 r15.2.2) fun r19 =>
          some ((0 : Int32), 0, r19.2.2)
        else
          qbnd (oGetP r15.2.2 0 x0 0) fun v16 =>
          qbnd (fX5_setMode v16 x1 r6.1 v13 r15.2.2) fun r17 =>
          fX0_goOn_11 R n x0 x1 x3 x4 x5 (x6 + (1 : Int32)) r17.2.2
noncomputable def gX0_goOn (R : qF) (a0 : Nat) (a1 : Int32) (a2 : Int32) (a3 : Int32) (μ : qM) : Option qR :=
  qbnd (oGetP μ 0 a0 0) fun v1 =>
  qbnd (oGetP μ 5 v1 8) fun v2 =>
  qbnd (oLdI 20 μ v2 a1) fun v3 =>
  qbnd (fX7_levelOf v3 μ) fun r4 =>
  fX0_goOn_11 R qfu a0 a1 a3 v3 r4.1 a2 r4.2.2
noncomputable def fX0_goOn (R : qF) (a0 : Nat) (a1 : Int32) (a2 : Int32) (a3 : Int32) (μ : qM) : Option qR := if (qk μ a0).1 = 0 then gX0_goOn R a0 a1 a2 a3 μ else none
noncomputable def aX0_goOn (R : qF) (l : List Value) (μ : qM) : Option qR := match l with
  | [.ref x0, .int x1, .int x2, .int x3] => fX0_goOn R x0 x1 x2 x3 μ
  | _ => none
noncomputable def cfX0_goOn (R : qF) : qF := fun n l μ => if n = 135 then aX7_levelOf l μ else if n = 136 then aX7_onPath l μ else if n = 54 then aX5_modeAt l μ else if n = 137 then aX7_stepMode l μ else if n = 67 then aX5_isOpen l μ else if n = 77 then aX5_enqueue l μ else if n = 55 then aX5_setMode l μ else if n = 62 then aX5_holdingsBelow l μ else if n = 19 then aX0_gatherAt R l μ else none
theorem hcX0_goOn {base : Nat} {D : va_G} {ca : Nat → ClassId} {cv : Nat → Value} (hcv : ∀ j, (cv j).category = 1) {δ : Nat} {R : qF} (hδ : 10 ≤ δ) (hR : ∀ M as μ r, R M as μ = some r → qGood false base D ca cv δ M as μ r) : ∀ M as μ r, cfX0_goOn R M as μ = some r → qGood false base D ca cv (δ + 1) M as μ r := by
  intro M as μ r h
  unfold cfX0_goOn at h
  split at h
  · rename_i e; subst e; exact (gaX7_levelOf hcv h).mono (by omega)
  split at h
  · rename_i e; subst e; exact (gaX7_onPath hcv h).mono (by omega)
  split at h
  · rename_i e; subst e; exact (gaX5_modeAt hcv h).mono (by omega)
  split at h
  · rename_i e; subst e; exact (gaX7_stepMode hcv h).mono (by omega)
  split at h
  · rename_i e; subst e; exact (gaX5_isOpen hcv h).mono (by omega)
  split at h
  · rename_i e; subst e; exact (gaX5_enqueue hcv h).mono (by omega)
  split at h
  · rename_i e; subst e; exact (gaX5_setMode hcv h).mono (by omega)
  split at h
  · rename_i e; subst e; exact (gaX5_holdingsBelow hcv h).mono (by omega)
  split at h
  · rename_i e; subst e; exact (gaX0_gatherAt hcv hδ hR h).mono (by omega)
  cases h
def jX0_goOn_11 (f : Nat → Int32 → Int32 → Int32 → Int32 → Int32 → qM → Option qR) (L S : List Value) (μ : qM) : Option qR := match L, S with
  | [.ref x0, .int x1, _, .int x3, .int x4, .int x5, .int x6, _, _, _], [] => f x0 x1 x3 x4 x5 x6 μ
  | _, _ => none
theorem jeX0_goOn_11 {base : Nat} {D : va_G} {ca : Nat → ClassId} {cv : Nat → Value} {d : Nat} {f : Nat → Int32 → Int32 → Int32 → Int32 → Int32 → qM → Option qR} (hf : ∀ (x0 : Nat) (x1 : Int32) (x3 : Int32) (x4 : Int32) (x5 : Int32) (x6 : Int32) (μ : qM) (r : qR), f x0 x1 x3 x4 x5 x6 μ = some r → qEv false base D ca cv d 18 r 11 [.ref x0, .int x1, .null, .int x3, .int x4, .int x5, .int x6, .null, .null, .null] [] μ) {L S : List Value} {μ : qM} {r : qR} (h : jX0_goOn_11 f L S μ = some r) : qEv false base D ca cv d 18 r 11 L S μ := by
  unfold jX0_goOn_11 at h
  split at h
  · exact (hf _ _ _ _ _ _ _ _ h).le rfl ⟨Or.inr rfl, Or.inr rfl, Or.inl rfl, Or.inr rfl, Or.inr rfl, Or.inr rfl, Or.inr rfl, Or.inl rfl, Or.inl rfl, Or.inl rfl, trivial⟩
  · cases h
def jX0_goOn_89 (f : Nat → Int32 → Int32 → Int32 → Int32 → qM → Option qR) (L S : List Value) (μ : qM) : Option qR := match L, S with
  | [.ref x0, .int x1, _, .int x3, _, _, .int x6, _, _, _], [.int s0] => f x0 x1 x3 x6 s0 μ
  | _, _ => none
theorem jeX0_goOn_89 {base : Nat} {D : va_G} {ca : Nat → ClassId} {cv : Nat → Value} {d : Nat} {f : Nat → Int32 → Int32 → Int32 → Int32 → qM → Option qR} (hf : ∀ (x0 : Nat) (x1 : Int32) (x3 : Int32) (x6 : Int32) (s0 : Int32) (μ : qM) (r : qR), f x0 x1 x3 x6 s0 μ = some r → qEv false base D ca cv d 18 r 89 [.ref x0, .int x1, .null, .int x3, .null, .null, .int x6, .null, .null, .null] [.int s0] μ) {L S : List Value} {μ : qM} {r : qR} (h : jX0_goOn_89 f L S μ = some r) : qEv false base D ca cv d 18 r 89 L S μ := by
  unfold jX0_goOn_89 at h
  split at h
  · exact (hf _ _ _ _ _ _ _ h).le rfl ⟨Or.inr rfl, Or.inr rfl, Or.inl rfl, Or.inr rfl, Or.inl rfl, Or.inl rfl, Or.inr rfl, Or.inl rfl, Or.inl rfl, Or.inl rfl, trivial⟩
  · cases h
theorem lbX0_goOn_89 {base : Nat} {D : va_G} {ca : Nat → ClassId} {cv : Nat → Value} (hcv : ∀ j, (cv j).category = 1) {δ : Nat} {R : qF} (hδ : 10 ≤ δ) (hR : ∀ M as μ r, R M as μ = some r → qGood false base D ca cv δ M as μ r) (x0 : Nat) (x1 : Int32) (x3 : Int32) (x6 : Int32) (s0 : Int32) (μ : qM) (r : qR) (h : fX0_goOn_89 R x0 x1 x3 x6 s0 μ = some r) : qEv false base D ca cv (δ + 2) 18 r 89 [.ref x0, .int x1, .null, .int x3, .null, .null, .int x6, .null, .null, .null] [.int s0] μ := by
    exact qblk_ev2 (cf := cfX0_goOn R) (st := (fun n => qin [11, 89] n)) (K := (fun pc L S μ => if pc = 11 then jX0_goOn_11 (fX0_goOn_11 R qfu) L S μ else if pc = 89 then jX0_goOn_89 (fX0_goOn_89 R) L S μ else none)) (cd := qcX0_goOn) (M := 18) (d0 := (δ + 1)) rfl qcok_X0_goOn (Nat.le_refl _) (hcX0_goOn hcv hδ hR) (by
    intro pc L S μ r h
    split at h
    · rename_i e; subst e; exact jeX0_goOn_11 (lbX0_goOn_11 hcv hδ hR qfu) h
    split at h
    · rename_i e; subst e; exact jeX0_goOn_89 (lbX0_goOn_89 hcv hδ hR) h
    cases h) 400 (pc := 89) (L := [.ref x0, .int x1, .null, .int x3, .null, .null, .int x6, .null, .null, .null]) (S := [.int s0]) h
theorem lbX0_goOn_11 {base : Nat} {D : va_G} {ca : Nat → ClassId} {cv : Nat → Value} (hcv : ∀ j, (cv j).category = 1) {δ : Nat} {R : qF} (hδ : 10 ≤ δ) (hR : ∀ M as μ r, R M as μ = some r → qGood false base D ca cv δ M as μ r) : ∀ (n : Nat) (x0 : Nat) (x1 : Int32) (x3 : Int32) (x4 : Int32) (x5 : Int32) (x6 : Int32) (μ : qM) (r : qR), fX0_goOn_11 R n x0 x1 x3 x4 x5 x6 μ = some r → qEv false base D ca cv (δ + 2) 18 r 11 [.ref x0, .int x1, .null, .int x3, .int x4, .int x5, .int x6, .null, .null, .null] [] μ := by
  intro n
  induction n with
  | zero => intro x0 x1 x3 x4 x5 x6 μ r h; exact Option.noConfusion (show (none : Option qR) = some r from h)
  | succ n ih =>
    intro x0 x1 x3 x4 x5 x6 μ r h
    exact qblk_ev2 (cf := cfX0_goOn R) (st := (fun n => qin [11, 89] n)) (K := (fun pc L S μ => if pc = 11 then jX0_goOn_11 (fX0_goOn_11 R n) L S μ else if pc = 89 then jX0_goOn_89 (fX0_goOn_89 R) L S μ else none)) (cd := qcX0_goOn) (M := 18) (d0 := (δ + 1)) rfl qcok_X0_goOn (Nat.le_refl _) (hcX0_goOn hcv hδ hR) (by
    intro pc L S μ r h
    split at h
    · rename_i e; subst e; exact jeX0_goOn_11 ih h
    split at h
    · rename_i e; subst e; exact jeX0_goOn_89 (lbX0_goOn_89 hcv hδ hR) h
    cases h) 400 (pc := 11) (L := [.ref x0, .int x1, .null, .int x3, .int x4, .int x5, .int x6, .null, .null, .null]) (S := []) h
theorem npX0_goOn : (parseMethodDescriptor (qmy 18).desc).map (fun d => d.parameters.length) = some 3 := by decide +kernel
theorem gdX0_goOn {base : Nat} {D : va_G} {ca : Nat → ClassId} {cv : Nat → Value} (hcv : ∀ j, (cv j).category = 1) {δ : Nat} {R : qF} (hδ : 10 ≤ δ) (hR : ∀ M as μ r, R M as μ = some r → qGood false base D ca cv δ M as μ r) {a0 : Nat} {a1 : Int32} {a2 : Int32} {a3 : Int32} {μ : qM} {r : qR} (h : fX0_goOn R a0 a1 a2 a3 μ = some r) : qGood false base D ca cv (δ + 2) 18 [.ref a0, .int a1, .int a2, .int a3] μ r := by
  unfold fX0_goOn at h
  split at h
  · rename_i hk0
    exact qgood_of (by decide) (by omega) hcv (Or.inr ⟨by decide +kernel, hk0⟩) npX0_goOn rfl (by decide) rfl (qblk_ev2 (cf := cfX0_goOn R) (st := (fun n => qin [11, 89] n)) (K := (fun pc L S μ => if pc = 11 then jX0_goOn_11 (fX0_goOn_11 R qfu) L S μ else if pc = 89 then jX0_goOn_89 (fX0_goOn_89 R) L S μ else none)) (cd := qcX0_goOn) (M := 18) (d0 := (δ + 1)) rfl qcok_X0_goOn (Nat.le_refl _) (hcX0_goOn hcv hδ hR) (by
    intro pc L S μ r h
    split at h
    · rename_i e; subst e; exact jeX0_goOn_11 (lbX0_goOn_11 hcv hδ hR qfu) h
    split at h
    · rename_i e; subst e; exact jeX0_goOn_89 (lbX0_goOn_89 hcv hδ hR) h
    cases h) 400 (pc := 0) (L := qent [.ref a0, .int a1, .int a2, .int a3] 10) (S := []) h)
  · cases h
theorem gaX0_goOn {base : Nat} {D : va_G} {ca : Nat → ClassId} {cv : Nat → Value} (hcv : ∀ j, (cv j).category = 1) {δ : Nat} {R : qF} (hδ : 10 ≤ δ) (hR : ∀ M as μ r, R M as μ = some r → qGood false base D ca cv δ M as μ r) {l : List Value} {μ : qM} {r : qR} (h : aX0_goOn R l μ = some r) : qGood false base D ca cv (δ + 2) 18 l μ r := by
  unfold aX0_goOn at h
  split at h
  · exact gdX0_goOn hcv hδ hR h
  · cases h
noncomputable def fX0_serve_53 (R : qF) : Nat → Nat → Int32 → Int32 → Int32 → Int32 → Int32 → qM → Option qR
  | 0 => fun _ _ _ _ _ _ _ => none
  | n + 1 => fun x0 x2 x3 x4 x5 x6 μ =>
    if x4 ≤ x6 then
      some (0, 0, μ)
    else
      qbnd (fX0_goOn R x0 ((qush x3 ((4 : Int32) * x6)) &&& (7 : Int32)) (x5 + (1 : Int32)) x2 μ) fun r1 =>
      fX0_serve_53 R n x0 x2 x3 x4 x5 (x6 + (1 : Int32)) r1.2.2
noncomputable def fX0_serve_10 (R : qF) : Nat → Nat → Int32 → Int32 → Int32 → Int32 → Int32 → qM → Option qR
  | 0 => fun _ _ _ _ _ _ _ => none
  | n + 1 => fun x0 x1 x2 x3 x4 x5 μ =>
    if (8 : Int32) ≤ x5 then
      qbnd (fX7_levelOf x1 μ) fun r1 =>
      fX0_serve_53 R qfu x0 x2 x3 x4 r1.1 (0 : Int32) r1.2.2
    else
      qbnd (oGetP μ 0 x0 0) fun v2 =>
      qbnd (fX5_firstInQueue v2 x1 μ) fun r3 =>
      if r3.1 = (-1 : Int32) then
        qbnd (fX7_levelOf x1 r3.2.2) fun r4 =>
        fX0_serve_53 R qfu x0 x2 x3 x4 r4.1 (0 : Int32) r4.2.2
      else
        qbnd (oGetP r3.2.2 0 x0 0) fun v5 =>
        qbnd (oGetP r3.2.2 0 x0 0) fun v6 =>
        qbnd (oGetP r3.2.2 5 v6 6) fun v7 =>
        qbnd (oLdI 20 r3.2.2 v7 r3.1) fun v8 =>
        qbnd (fX5_fits v5 r3.1 x1 v8 r3.2.2) fun r9 =>
        if r9.1 = 0 then
          qbnd (fX7_levelOf x1 r9.2.2) fun r13 =>
          fX0_serve_53 R qfu x0 x2 x3 x4 r13.1 (0 : Int32) r13.2.2
        else
          qbnd (oGetP r9.2.2 0 x0 0) fun v10 =>
          qbnd (fX5_grant v10 r3.1 r9.2.2) fun r11 =>
          let w12 : Int32 := (x3 ||| (r3.1 <<< (((4 : Int32) * x4) &&& 31)))
          fX0_serve_10 R n x0 x1 x2 w12 (x4 + (1 : Int32)) (x5 + (1 : Int32)) r11.2.2
noncomputable def gX0_serve (R : qF) (a0 : Nat) (a1 : Int32) (a2 : Int32) (μ : qM) : Option qR :=
  if a2 ≤ (16 : Int32) then
    fX0_serve_10 R qfu a0 a1 a2 (0 : Int32) (0 : Int32) (0 : Int32) μ
  else
    some (0, 0, μ)
noncomputable def fX0_serve (R : qF) (a0 : Nat) (a1 : Int32) (a2 : Int32) (μ : qM) : Option qR := if (qk μ a0).1 = 0 then gX0_serve R a0 a1 a2 μ else none
noncomputable def aX0_serve (R : qF) (l : List Value) (μ : qM) : Option qR := match l with
  | [.ref x0, .int x1, .int x2] => fX0_serve R x0 x1 x2 μ
  | _ => none
noncomputable def cfX0_serve (R : qF) : qF := fun n l μ => if n = 75 then aX5_firstInQueue l μ else if n = 66 then aX5_fits l μ else if n = 78 then aX5_grant l μ else if n = 135 then aX7_levelOf l μ else if n = 18 then aX0_goOn R l μ else none
theorem hcX0_serve {base : Nat} {D : va_G} {ca : Nat → ClassId} {cv : Nat → Value} (hcv : ∀ j, (cv j).category = 1) {δ : Nat} {R : qF} (hδ : 10 ≤ δ) (hR : ∀ M as μ r, R M as μ = some r → qGood false base D ca cv δ M as μ r) : ∀ M as μ r, cfX0_serve R M as μ = some r → qGood false base D ca cv (δ + 2) M as μ r := by
  intro M as μ r h
  unfold cfX0_serve at h
  split at h
  · rename_i e; subst e; exact (gaX5_firstInQueue hcv h).mono (by omega)
  split at h
  · rename_i e; subst e; exact (gaX5_fits hcv h).mono (by omega)
  split at h
  · rename_i e; subst e; exact (gaX5_grant hcv h).mono (by omega)
  split at h
  · rename_i e; subst e; exact (gaX7_levelOf hcv h).mono (by omega)
  split at h
  · rename_i e; subst e; exact (gaX0_goOn hcv hδ hR h).mono (by omega)
  cases h
def jX0_serve_10 (f : Nat → Int32 → Int32 → Int32 → Int32 → Int32 → qM → Option qR) (L S : List Value) (μ : qM) : Option qR := match L, S with
  | [.ref x0, .int x1, .int x2, .int x3, .int x4, .int x5, _], [] => f x0 x1 x2 x3 x4 x5 μ
  | _, _ => none
theorem jeX0_serve_10 {base : Nat} {D : va_G} {ca : Nat → ClassId} {cv : Nat → Value} {d : Nat} {f : Nat → Int32 → Int32 → Int32 → Int32 → Int32 → qM → Option qR} (hf : ∀ (x0 : Nat) (x1 : Int32) (x2 : Int32) (x3 : Int32) (x4 : Int32) (x5 : Int32) (μ : qM) (r : qR), f x0 x1 x2 x3 x4 x5 μ = some r → qEv false base D ca cv d 17 r 10 [.ref x0, .int x1, .int x2, .int x3, .int x4, .int x5, .null] [] μ) {L S : List Value} {μ : qM} {r : qR} (h : jX0_serve_10 f L S μ = some r) : qEv false base D ca cv d 17 r 10 L S μ := by
  unfold jX0_serve_10 at h
  split at h
  · exact (hf _ _ _ _ _ _ _ _ h).le rfl ⟨Or.inr rfl, Or.inr rfl, Or.inr rfl, Or.inr rfl, Or.inr rfl, Or.inr rfl, Or.inl rfl, trivial⟩
  · cases h
def jX0_serve_53 (f : Nat → Int32 → Int32 → Int32 → Int32 → Int32 → qM → Option qR) (L S : List Value) (μ : qM) : Option qR := match L, S with
  | [.ref x0, _, .int x2, .int x3, .int x4, .int x5, .int x6], [] => f x0 x2 x3 x4 x5 x6 μ
  | _, _ => none
theorem jeX0_serve_53 {base : Nat} {D : va_G} {ca : Nat → ClassId} {cv : Nat → Value} {d : Nat} {f : Nat → Int32 → Int32 → Int32 → Int32 → Int32 → qM → Option qR} (hf : ∀ (x0 : Nat) (x2 : Int32) (x3 : Int32) (x4 : Int32) (x5 : Int32) (x6 : Int32) (μ : qM) (r : qR), f x0 x2 x3 x4 x5 x6 μ = some r → qEv false base D ca cv d 17 r 53 [.ref x0, .null, .int x2, .int x3, .int x4, .int x5, .int x6] [] μ) {L S : List Value} {μ : qM} {r : qR} (h : jX0_serve_53 f L S μ = some r) : qEv false base D ca cv d 17 r 53 L S μ := by
  unfold jX0_serve_53 at h
  split at h
  · exact (hf _ _ _ _ _ _ _ _ h).le rfl ⟨Or.inr rfl, Or.inl rfl, Or.inr rfl, Or.inr rfl, Or.inr rfl, Or.inr rfl, Or.inr rfl, trivial⟩
  · cases h
theorem lbX0_serve_53 {base : Nat} {D : va_G} {ca : Nat → ClassId} {cv : Nat → Value} (hcv : ∀ j, (cv j).category = 1) {δ : Nat} {R : qF} (hδ : 10 ≤ δ) (hR : ∀ M as μ r, R M as μ = some r → qGood false base D ca cv δ M as μ r) : ∀ (n : Nat) (x0 : Nat) (x2 : Int32) (x3 : Int32) (x4 : Int32) (x5 : Int32) (x6 : Int32) (μ : qM) (r : qR), fX0_serve_53 R n x0 x2 x3 x4 x5 x6 μ = some r → qEv false base D ca cv (δ + 3) 17 r 53 [.ref x0, .null, .int x2, .int x3, .int x4, .int x5, .int x6] [] μ := by
  intro n
  induction n with
  | zero => intro x0 x2 x3 x4 x5 x6 μ r h; exact Option.noConfusion (show (none : Option qR) = some r from h)
  | succ n ih =>
    intro x0 x2 x3 x4 x5 x6 μ r h
    exact qblk_ev2 (cf := cfX0_serve R) (st := (fun n => qin [10, 53] n)) (K := (fun pc L S μ => if pc = 10 then jX0_serve_10 (fX0_serve_10 R qfu) L S μ else if pc = 53 then jX0_serve_53 (fX0_serve_53 R n) L S μ else none)) (cd := qcX0_serve) (M := 17) (d0 := (δ + 2)) rfl qcok_X0_serve (Nat.le_refl _) (hcX0_serve hcv hδ hR) (by
    intro pc L S μ r h
    split at h
    · rename_i e; subst e; exact jeX0_serve_10 (lbX0_serve_10 hcv hδ hR qfu) h
    split at h
    · rename_i e; subst e; exact jeX0_serve_53 ih h
    cases h) 400 (pc := 53) (L := [.ref x0, .null, .int x2, .int x3, .int x4, .int x5, .int x6]) (S := []) h
theorem lbX0_serve_10 {base : Nat} {D : va_G} {ca : Nat → ClassId} {cv : Nat → Value} (hcv : ∀ j, (cv j).category = 1) {δ : Nat} {R : qF} (hδ : 10 ≤ δ) (hR : ∀ M as μ r, R M as μ = some r → qGood false base D ca cv δ M as μ r) : ∀ (n : Nat) (x0 : Nat) (x1 : Int32) (x2 : Int32) (x3 : Int32) (x4 : Int32) (x5 : Int32) (μ : qM) (r : qR), fX0_serve_10 R n x0 x1 x2 x3 x4 x5 μ = some r → qEv false base D ca cv (δ + 3) 17 r 10 [.ref x0, .int x1, .int x2, .int x3, .int x4, .int x5, .null] [] μ := by
  intro n
  induction n with
  | zero => intro x0 x1 x2 x3 x4 x5 μ r h; exact Option.noConfusion (show (none : Option qR) = some r from h)
  | succ n ih =>
    intro x0 x1 x2 x3 x4 x5 μ r h
    exact qblk_ev2 (cf := cfX0_serve R) (st := (fun n => qin [10, 53] n)) (K := (fun pc L S μ => if pc = 10 then jX0_serve_10 (fX0_serve_10 R n) L S μ else if pc = 53 then jX0_serve_53 (fX0_serve_53 R qfu) L S μ else none)) (cd := qcX0_serve) (M := 17) (d0 := (δ + 2)) rfl qcok_X0_serve (Nat.le_refl _) (hcX0_serve hcv hδ hR) (by
    intro pc L S μ r h
    split at h
    · rename_i e; subst e; exact jeX0_serve_10 ih h
    split at h
    · rename_i e; subst e; exact jeX0_serve_53 (lbX0_serve_53 hcv hδ hR qfu) h
    cases h) 400 (pc := 10) (L := [.ref x0, .int x1, .int x2, .int x3, .int x4, .int x5, .null]) (S := []) h
theorem npX0_serve : (parseMethodDescriptor (qmy 17).desc).map (fun d => d.parameters.length) = some 2 := by decide +kernel
theorem gdX0_serve {base : Nat} {D : va_G} {ca : Nat → ClassId} {cv : Nat → Value} (hcv : ∀ j, (cv j).category = 1) {δ : Nat} {R : qF} (hδ : 10 ≤ δ) (hR : ∀ M as μ r, R M as μ = some r → qGood false base D ca cv δ M as μ r) {a0 : Nat} {a1 : Int32} {a2 : Int32} {μ : qM} {r : qR} (h : fX0_serve R a0 a1 a2 μ = some r) : qGood false base D ca cv (δ + 3) 17 [.ref a0, .int a1, .int a2] μ r := by
  unfold fX0_serve at h
  split at h
  · rename_i hk0
    exact qgood_of (by decide) (by omega) hcv (Or.inr ⟨by decide +kernel, hk0⟩) npX0_serve rfl (by decide) rfl (qblk_ev2 (cf := cfX0_serve R) (st := (fun n => qin [10, 53] n)) (K := (fun pc L S μ => if pc = 10 then jX0_serve_10 (fX0_serve_10 R qfu) L S μ else if pc = 53 then jX0_serve_53 (fX0_serve_53 R qfu) L S μ else none)) (cd := qcX0_serve) (M := 17) (d0 := (δ + 2)) rfl qcok_X0_serve (Nat.le_refl _) (hcX0_serve hcv hδ hR) (by
    intro pc L S μ r h
    split at h
    · rename_i e; subst e; exact jeX0_serve_10 (lbX0_serve_10 hcv hδ hR qfu) h
    split at h
    · rename_i e; subst e; exact jeX0_serve_53 (lbX0_serve_53 hcv hδ hR qfu) h
    cases h) 400 (pc := 0) (L := qent [.ref a0, .int a1, .int a2] 7) (S := []) h)
  · cases h
theorem gaX0_serve {base : Nat} {D : va_G} {ca : Nat → ClassId} {cv : Nat → Value} (hcv : ∀ j, (cv j).category = 1) {δ : Nat} {R : qF} (hδ : 10 ≤ δ) (hR : ∀ M as μ r, R M as μ = some r → qGood false base D ca cv δ M as μ r) {l : List Value} {μ : qM} {r : qR} (h : aX0_serve R l μ = some r) : qGood false base D ca cv (δ + 3) 17 l μ r := by
  unfold aX0_serve at h
  split at h
  · exact gdX0_serve hcv hδ hR h
  · cases h
noncomputable def sX0_serve : Nat → qF
  | 0 => fun _ _ _ => none
  | n + 1 => fun m l μ => if m = 17 then aX0_serve (sX0_serve n) l μ else none
theorem gdsX0_serve {base : Nat} {D : va_G} {ca : Nat → ClassId} {cv : Nat → Value} (hcv : ∀ j, (cv j).category = 1) : ∀ n M as μ r, sX0_serve n M as μ = some r → qGood false base D ca cv (10 + 3 * n) M as μ r := by
  intro n
  induction n with
  | zero => intro M as μ r h; exact Option.noConfusion (show (none : Option qR) = some r from h)
  | succ n ih =>
    intro M as μ r h
    simp only [sX0_serve] at h
    split at h
    · rename_i e; subst e; exact (gaX0_serve hcv (by omega) ih h).mono (by omega)
    cases h
theorem gssX0_serve_X0_gatherAt {base : Nat} {D : va_G} {ca : Nat → ClassId} {cv : Nat → Value} (hcv : ∀ j, (cv j).category = 1) {l : List Value} {μ : qM} {r : qR} (h : aX0_gatherAt (sX0_serve qdp) l μ = some r) : qGood false base D ca cv (1000 + 1) 19 l μ r := (gaX0_gatherAt hcv (by omega) (gdsX0_serve hcv qdp) h).mono (by rw [qdp_eq]; omega)
theorem gssX0_serve_X0_goOn {base : Nat} {D : va_G} {ca : Nat → ClassId} {cv : Nat → Value} (hcv : ∀ j, (cv j).category = 1) {l : List Value} {μ : qM} {r : qR} (h : aX0_goOn (sX0_serve qdp) l μ = some r) : qGood false base D ca cv (1000 + 2) 18 l μ r := (gaX0_goOn hcv (by omega) (gdsX0_serve hcv qdp) h).mono (by rw [qdp_eq]; omega)
theorem gssX0_serve_X0_serve {base : Nat} {D : va_G} {ca : Nat → ClassId} {cv : Nat → Value} (hcv : ∀ j, (cv j).category = 1) {l : List Value} {μ : qM} {r : qR} (h : aX0_serve (sX0_serve qdp) l μ = some r) : qGood false base D ca cv (1000 + 3) 17 l μ r := (gaX0_serve hcv (by omega) (gdsX0_serve hcv qdp) h).mono (by rw [qdp_eq]; omega)
noncomputable def gX0_lock (a0 : Nat) (a1 : Int32) (a2 : Int32) (a3 : Int32) (μ : qM) : Option qR :=
  qbnd (fX7_isOwner a1 μ) fun r1 =>
  if r1.1 = 0 then
    some ((-1 : Int32), 0, r1.2.2)
  else
    qbnd (fX7_isPlace a2 r1.2.2) fun r2 =>
    if r2.1 = 0 then
      some ((-1 : Int32), 0, r2.2.2)
    else
      qbnd (fX7_isLockMode a3 r2.2.2) fun r3 =>
      if r3.1 = 0 then
        some ((-1 : Int32), 0, r3.2.2)
      else
        qbnd (oGetP r3.2.2 0 a0 0) fun v4 =>
        qbnd (oGetP r3.2.2 5 v4 1) fun v5 =>
        qbnd (oLdI 20 r3.2.2 v5 a1) fun v6 =>
        if v6 = (1 : Int32) then
          qbnd (oGetP r3.2.2 0 a0 0) fun v7 =>
          qbnd (fX5_isCovered v7 a1 a2 a3 r3.2.2) fun r8 =>
          if r8.1 = 0 then
            qbnd (oGetP r8.2.2 0 a0 0) fun v9 =>
            qbnd (oGetP r8.2.2 5 v9 8) fun v10 =>
            qbnd (oStI 20 r8.2.2 v10 a1 a2) fun μ11 =>
            qbnd (oGetP μ11 0 a0 0) fun v12 =>
            qbnd (oGetP μ11 5 v12 9) fun v13 =>
            qbnd (oStI 20 μ11 v13 a1 a3) fun μ14 =>
            qbnd (fX0_goOn (sX0_serve qdp) a0 a1 (0 : Int32) (0 : Int32) μ14) fun r15 =>
            some (r15.1, 0, r15.2.2)
          else
            some ((1 : Int32), 0, r8.2.2)
        else
          qbnd (fX0_idle a0 a1 r3.2.2) fun r16 =>
          some (r16.1, 0, r16.2.2)
noncomputable def fX0_lock (a0 : Nat) (a1 : Int32) (a2 : Int32) (a3 : Int32) (μ : qM) : Option qR := if (qk μ a0).1 = 0 then gX0_lock a0 a1 a2 a3 μ else none
noncomputable def aX0_lock (l : List Value) (μ : qM) : Option qR := match l with
  | [.ref x0, .int x1, .int x2, .int x3] => fX0_lock x0 x1 x2 x3 μ
  | _ => none
noncomputable def cfX0_lock : qF := fun n l μ => if n = 131 then aX7_isOwner l μ else if n = 132 then aX7_isPlace l μ else if n = 134 then aX7_isLockMode l μ else if n = 14 then aX0_idle l μ else if n = 65 then aX5_isCovered l μ else if n = 18 then aX0_goOn (sX0_serve qdp) l μ else none
theorem hcX0_lock {base : Nat} {D : va_G} {ca : Nat → ClassId} {cv : Nat → Value} (hcv : ∀ j, (cv j).category = 1) : ∀ M as μ r, cfX0_lock M as μ = some r → qGood false base D ca cv 1002 M as μ r := by
  intro M as μ r h
  unfold cfX0_lock at h
  split at h
  · rename_i e; subst e; exact (gaX7_isOwner hcv h).mono (by omega)
  split at h
  · rename_i e; subst e; exact (gaX7_isPlace hcv h).mono (by omega)
  split at h
  · rename_i e; subst e; exact (gaX7_isLockMode hcv h).mono (by omega)
  split at h
  · rename_i e; subst e; exact (gaX0_idle hcv h).mono (by omega)
  split at h
  · rename_i e; subst e; exact (gaX5_isCovered hcv h).mono (by omega)
  split at h
  · rename_i e; subst e; exact (gssX0_serve_X0_goOn hcv h).mono (by omega)
  cases h
theorem npX0_lock : (parseMethodDescriptor (qmy 5).desc).map (fun d => d.parameters.length) = some 3 := by decide +kernel
theorem gdX0_lock {base : Nat} {D : va_G} {ca : Nat → ClassId} {cv : Nat → Value} (hcv : ∀ j, (cv j).category = 1) {a0 : Nat} {a1 : Int32} {a2 : Int32} {a3 : Int32} {μ : qM} {r : qR} (h : fX0_lock a0 a1 a2 a3 μ = some r) : qGood false base D ca cv 1003 5 [.ref a0, .int a1, .int a2, .int a3] μ r := by
  unfold fX0_lock at h
  split at h
  · rename_i hk0
    exact qgood_of (by decide) (by omega) hcv (Or.inr ⟨by decide +kernel, hk0⟩) npX0_lock rfl (by decide) rfl (qblk_ev2 (cf := cfX0_lock) (st := (fun n => qin [] n)) (K := (fun pc L S μ => none)) (cd := qcX0_lock) (M := 5) (d0 := 1002) rfl qcok_X0_lock (Nat.le_refl _) (hcX0_lock hcv) (by
    intro pc L S μ r h
    cases h) 400 (pc := 0) (L := qent [.ref a0, .int a1, .int a2, .int a3] 4) (S := []) h)
  · cases h
theorem gaX0_lock {base : Nat} {D : va_G} {ca : Nat → ClassId} {cv : Nat → Value} (hcv : ∀ j, (cv j).category = 1) {l : List Value} {μ : qM} {r : qR} (h : aX0_lock l μ = some r) : qGood false base D ca cv 1003 5 l μ r := by
  unfold aX0_lock at h
  split at h
  · exact gdX0_lock hcv h
  · cases h
noncomputable def gX0_unlock (a0 : Nat) (a1 : Int32) (a2 : Int32) (μ : qM) : Option qR :=
  qbnd (fX7_isOwner a1 μ) fun r1 =>
  if r1.1 = 0 then
    some ((-1 : Int32), 0, r1.2.2)
  else
    qbnd (fX7_isPlace a2 r1.2.2) fun r2 =>
    if r2.1 = 0 then
      some ((-1 : Int32), 0, r2.2.2)
    else
      qbnd (oGetP r2.2.2 0 a0 0) fun v3 =>
      qbnd (oGetP r2.2.2 5 v3 1) fun v4 =>
      qbnd (oLdI 20 r2.2.2 v4 a1) fun v5 =>
      if v5 = (1 : Int32) then
        qbnd (oGetP r2.2.2 0 a0 0) fun v6 =>
        qbnd (fX5_modeAt v6 a1 a2 r2.2.2) fun r7 =>
        if r7.1 = 0 then
          some ((-4 : Int32), 0, r7.2.2)
        else
          qbnd (oGetP r7.2.2 0 a0 0) fun v8 =>
          qbnd (fX5_holdingsBelow v8 a1 a2 r7.2.2) fun r9 =>
          if r9.1 ≤ 0 then
            qbnd (oGetP r9.2.2 0 a0 0) fun v10 =>
            qbnd (fX5_setMode v10 a1 a2 (0 : Int32) r9.2.2) fun r11 =>
            qbnd (fX0_serve (sX0_serve qdp) a0 a2 (0 : Int32) r11.2.2) fun r12 =>
            some ((0 : Int32), 0, r12.2.2)
          else
            some ((-5 : Int32), 0, r9.2.2)
      else
        qbnd (fX0_idle a0 a1 r2.2.2) fun r13 =>
        some (r13.1, 0, r13.2.2)
noncomputable def fX0_unlock (a0 : Nat) (a1 : Int32) (a2 : Int32) (μ : qM) : Option qR := if (qk μ a0).1 = 0 then gX0_unlock a0 a1 a2 μ else none
noncomputable def aX0_unlock (l : List Value) (μ : qM) : Option qR := match l with
  | [.ref x0, .int x1, .int x2] => fX0_unlock x0 x1 x2 μ
  | _ => none
noncomputable def cfX0_unlock : qF := fun n l μ => if n = 131 then aX7_isOwner l μ else if n = 132 then aX7_isPlace l μ else if n = 14 then aX0_idle l μ else if n = 54 then aX5_modeAt l μ else if n = 62 then aX5_holdingsBelow l μ else if n = 55 then aX5_setMode l μ else if n = 17 then aX0_serve (sX0_serve qdp) l μ else none
theorem hcX0_unlock {base : Nat} {D : va_G} {ca : Nat → ClassId} {cv : Nat → Value} (hcv : ∀ j, (cv j).category = 1) : ∀ M as μ r, cfX0_unlock M as μ = some r → qGood false base D ca cv 1003 M as μ r := by
  intro M as μ r h
  unfold cfX0_unlock at h
  split at h
  · rename_i e; subst e; exact (gaX7_isOwner hcv h).mono (by omega)
  split at h
  · rename_i e; subst e; exact (gaX7_isPlace hcv h).mono (by omega)
  split at h
  · rename_i e; subst e; exact (gaX0_idle hcv h).mono (by omega)
  split at h
  · rename_i e; subst e; exact (gaX5_modeAt hcv h).mono (by omega)
  split at h
  · rename_i e; subst e; exact (gaX5_holdingsBelow hcv h).mono (by omega)
  split at h
  · rename_i e; subst e; exact (gaX5_setMode hcv h).mono (by omega)
  split at h
  · rename_i e; subst e; exact (gssX0_serve_X0_serve hcv h).mono (by omega)
  cases h
theorem npX0_unlock : (parseMethodDescriptor (qmy 6).desc).map (fun d => d.parameters.length) = some 2 := by decide +kernel
theorem gdX0_unlock {base : Nat} {D : va_G} {ca : Nat → ClassId} {cv : Nat → Value} (hcv : ∀ j, (cv j).category = 1) {a0 : Nat} {a1 : Int32} {a2 : Int32} {μ : qM} {r : qR} (h : fX0_unlock a0 a1 a2 μ = some r) : qGood false base D ca cv 1004 6 [.ref a0, .int a1, .int a2] μ r := by
  unfold fX0_unlock at h
  split at h
  · rename_i hk0
    exact qgood_of (by decide) (by omega) hcv (Or.inr ⟨by decide +kernel, hk0⟩) npX0_unlock rfl (by decide) rfl (qblk_ev2 (cf := cfX0_unlock) (st := (fun n => qin [] n)) (K := (fun pc L S μ => none)) (cd := qcX0_unlock) (M := 6) (d0 := 1003) rfl qcok_X0_unlock (Nat.le_refl _) (hcX0_unlock hcv) (by
    intro pc L S μ r h
    cases h) 400 (pc := 0) (L := qent [.ref a0, .int a1, .int a2] 3) (S := []) h)
  · cases h
theorem gaX0_unlock {base : Nat} {D : va_G} {ca : Nat → ClassId} {cv : Nat → Value} (hcv : ∀ j, (cv j).category = 1) {l : List Value} {μ : qM} {r : qR} (h : aX0_unlock l μ = some r) : qGood false base D ca cv 1004 6 l μ r := by
  unfold aX0_unlock at h
  split at h
  · exact gdX0_unlock hcv h
  · cases h
noncomputable def fX5_holdings_4 : Nat → Nat → Int32 → Int32 → Int32 → Int32 → qM → Option qR
  | 0 => fun _ _ _ _ _ _ => none
  | n + 1 => fun x0 x1 x2 x3 x4 μ =>
    if (85 : Int32) ≤ x4 then
      some (x3, 0, μ)
    else
      qbnd (fX5_modeAt x0 x1 x4 μ) fun r1 =>
      if r1.1 = 0 then
        fX5_holdings_4 n x0 x1 x2 x3 (x4 + (1 : Int32)) r1.2.2
      else
        if x2 = 0 then
          fX5_holdings_4 n x0 x1 x2 (x3 + (1 : Int32)) (x4 + (1 : Int32)) r1.2.2
        else
          if r1.1 = x2 then
            fX5_holdings_4 n x0 x1 x2 (x3 + (1 : Int32)) (x4 + (1 : Int32)) r1.2.2
          else
            fX5_holdings_4 n x0 x1 x2 x3 (x4 + (1 : Int32)) r1.2.2
noncomputable def gX5_holdings (a0 : Nat) (a1 : Int32) (a2 : Int32) (μ : qM) : Option qR :=
  fX5_holdings_4 qfu a0 a1 a2 (0 : Int32) (0 : Int32) μ
noncomputable def fX5_holdings (a0 : Nat) (a1 : Int32) (a2 : Int32) (μ : qM) : Option qR := if (qk μ a0).1 = 5 then gX5_holdings a0 a1 a2 μ else none
noncomputable def aX5_holdings (l : List Value) (μ : qM) : Option qR := match l with
  | [.ref x0, .int x1, .int x2] => fX5_holdings x0 x1 x2 μ
  | _ => none
noncomputable def cfX5_holdings : qF := fun n l μ => if n = 54 then aX5_modeAt l μ else none
theorem hcX5_holdings {base : Nat} {D : va_G} {ca : Nat → ClassId} {cv : Nat → Value} (hcv : ∀ j, (cv j).category = 1) : ∀ M as μ r, cfX5_holdings M as μ = some r → qGood false base D ca cv 1 M as μ r := by
  intro M as μ r h
  unfold cfX5_holdings at h
  split at h
  · rename_i e; subst e; exact (gaX5_modeAt hcv h).mono (by omega)
  cases h
def jX5_holdings_4 (f : Nat → Int32 → Int32 → Int32 → Int32 → qM → Option qR) (L S : List Value) (μ : qM) : Option qR := match L, S with
  | [.ref x0, .int x1, .int x2, .int x3, .int x4, _], [] => f x0 x1 x2 x3 x4 μ
  | _, _ => none
theorem jeX5_holdings_4 {base : Nat} {D : va_G} {ca : Nat → ClassId} {cv : Nat → Value} {d : Nat} {f : Nat → Int32 → Int32 → Int32 → Int32 → qM → Option qR} (hf : ∀ (x0 : Nat) (x1 : Int32) (x2 : Int32) (x3 : Int32) (x4 : Int32) (μ : qM) (r : qR), f x0 x1 x2 x3 x4 μ = some r → qEv false base D ca cv d 58 r 4 [.ref x0, .int x1, .int x2, .int x3, .int x4, .null] [] μ) {L S : List Value} {μ : qM} {r : qR} (h : jX5_holdings_4 f L S μ = some r) : qEv false base D ca cv d 58 r 4 L S μ := by
  unfold jX5_holdings_4 at h
  split at h
  · exact (hf _ _ _ _ _ _ _ h).le rfl ⟨Or.inr rfl, Or.inr rfl, Or.inr rfl, Or.inr rfl, Or.inr rfl, Or.inl rfl, trivial⟩
  · cases h
theorem lbX5_holdings_4 {base : Nat} {D : va_G} {ca : Nat → ClassId} {cv : Nat → Value} (hcv : ∀ j, (cv j).category = 1) : ∀ (n : Nat) (x0 : Nat) (x1 : Int32) (x2 : Int32) (x3 : Int32) (x4 : Int32) (μ : qM) (r : qR), fX5_holdings_4 n x0 x1 x2 x3 x4 μ = some r → qEv false base D ca cv 2 58 r 4 [.ref x0, .int x1, .int x2, .int x3, .int x4, .null] [] μ := by
  intro n
  induction n with
  | zero => intro x0 x1 x2 x3 x4 μ r h; exact Option.noConfusion (show (none : Option qR) = some r from h)
  | succ n ih =>
    intro x0 x1 x2 x3 x4 μ r h
    exact qblk_ev2 (cf := cfX5_holdings) (st := (fun n => qin [4] n)) (K := (fun pc L S μ => if pc = 4 then jX5_holdings_4 (fX5_holdings_4 n) L S μ else none)) (cd := qcX5_holdings) (M := 58) (d0 := 1) rfl qcok_X5_holdings (Nat.le_refl _) (hcX5_holdings hcv) (by
    intro pc L S μ r h
    split at h
    · rename_i e; subst e; exact jeX5_holdings_4 ih h
    cases h) 400 (pc := 4) (L := [.ref x0, .int x1, .int x2, .int x3, .int x4, .null]) (S := []) h
theorem npX5_holdings : (parseMethodDescriptor (qmy 58).desc).map (fun d => d.parameters.length) = some 2 := by decide +kernel
theorem gdX5_holdings {base : Nat} {D : va_G} {ca : Nat → ClassId} {cv : Nat → Value} (hcv : ∀ j, (cv j).category = 1) {a0 : Nat} {a1 : Int32} {a2 : Int32} {μ : qM} {r : qR} (h : fX5_holdings a0 a1 a2 μ = some r) : qGood false base D ca cv 2 58 [.ref a0, .int a1, .int a2] μ r := by
  unfold fX5_holdings at h
  split at h
  · rename_i hk0
    exact qgood_of (by decide) (by omega) hcv (Or.inr ⟨by decide +kernel, hk0⟩) npX5_holdings rfl (by decide) rfl (qblk_ev2 (cf := cfX5_holdings) (st := (fun n => qin [4] n)) (K := (fun pc L S μ => if pc = 4 then jX5_holdings_4 (fX5_holdings_4 qfu) L S μ else none)) (cd := qcX5_holdings) (M := 58) (d0 := 1) rfl qcok_X5_holdings (Nat.le_refl _) (hcX5_holdings hcv) (by
    intro pc L S μ r h
    split at h
    · rename_i e; subst e; exact jeX5_holdings_4 (lbX5_holdings_4 hcv qfu) h
    cases h) 400 (pc := 0) (L := qent [.ref a0, .int a1, .int a2] 6) (S := []) h)
  · cases h
theorem gaX5_holdings {base : Nat} {D : va_G} {ca : Nat → ClassId} {cv : Nat → Value} (hcv : ∀ j, (cv j).category = 1) {l : List Value} {μ : qM} {r : qR} (h : aX5_holdings l μ = some r) : qGood false base D ca cv 2 58 l μ r := by
  unfold aX5_holdings at h
  split at h
  · exact gdX5_holdings hcv h
  · cases h
noncomputable def fX0_leave_60 : Nat → Nat → Int32 → Int32 → qM → Option qR
  | 0 => fun _ _ _ _ => none
  | n + 1 => fun x0 x1 x4 μ =>
    if (85 : Int32) ≤ x4 then
      some (0, 0, μ)
    else
      qbnd (oGetP μ 0 x0 3) fun v1 =>
      qbnd (oLdI 20 μ v1 x4) fun v2 =>
      if v2 = 0 then
        fX0_leave_60 n x0 x1 (x4 + (1 : Int32)) μ
      else
        qbnd (fX0_takeDue x0 x1 x4 μ) fun r3 =>
        if r3.1 = 0 then
          fX0_leave_60 n x0 x1 (x4 + (1 : Int32)) r3.2.2
        else
          qbnd (fX0_serve (sX0_serve qdp) x0 x4 (0 : Int32) r3.2.2) fun r4 =>
          fX0_leave_60 n x0 x1 (x4 + (1 : Int32)) r4.2.2
noncomputable def fX0_leave_14 : Nat → Nat → Int32 → Int32 → Int32 → Int32 → qM → Option qR
  | 0 => fun _ _ _ _ _ _ => none
  | n + 1 => fun x0 x1 x2 x3 x4 μ =>
    if (85 : Int32) ≤ x4 then
      qbnd (oGetP μ 0 x0 0) fun v1 =>
      qbnd (oGetP μ 5 v1 1) fun v2 =>
      qbnd (oStI 20 μ v2 x1 (0 : Int32)) fun μ3 =>
      qbnd (oGetP μ3 0 x0 0) fun v4 =>
      qbnd (oGetP μ3 5 v4 5) fun v5 =>
      qbnd (oStI 20 μ3 v5 x1 (85 : Int32)) fun μ6 =>
      qbnd (oGetP μ6 0 x0 0) fun v7 =>
      qbnd (oGetP μ6 5 v7 2) fun v8 =>
      qbnd (oStI 20 μ6 v8 x1 (0 : Int32)) fun μ9 =>
      qbnd (oGetP μ9 0 x0 0) fun v10 =>
      qbnd (oGetP μ9 5 v10 3) fun v11 =>
      qbnd (oStI 20 μ9 v11 x1 (0 : Int32)) fun μ12 =>
      fX0_leave_60 qfu x0 x1 (0 : Int32) μ12
    else
      qbnd (oGetP μ 0 x0 0) fun v13 =>
      qbnd (oGetP μ 5 v13 0) fun v14 =>
      qbnd (oLdI 20 μ v14 x4) fun v15 =>
      if (v15 &&& x2) = 0 then
        if x4 = x3 then
          qbnd (fX0_release x0 x1 x4 μ) fun r17 =>
          fX0_leave_14 n x0 x1 x2 x3 (x4 + (1 : Int32)) r17.2.2
        else
          fX0_leave_14 n x0 x1 x2 x3 (x4 + (1 : Int32)) μ
      else
        qbnd (fX0_release x0 x1 x4 μ) fun r16 =>
        fX0_leave_14 n x0 x1 x2 x3 (x4 + (1 : Int32)) r16.2.2
noncomputable def gX0_leave (a0 : Nat) (a1 : Int32) (μ : qM) : Option qR :=
  let w1 : Int32 := ((15 : Int32) <<< (((4 : Int32) * a1) &&& 31))
  qbnd (oGetP μ 0 a0 0) fun v2 =>
  qbnd (oGetP μ 5 v2 5) fun v3 =>
  qbnd (oLdI 20 μ v3 a1) fun v4 =>
  fX0_leave_14 qfu a0 a1 w1 v4 (0 : Int32) μ
noncomputable def fX0_leave (a0 : Nat) (a1 : Int32) (μ : qM) : Option qR := if (qk μ a0).1 = 0 then gX0_leave a0 a1 μ else none
noncomputable def aX0_leave (l : List Value) (μ : qM) : Option qR := match l with
  | [.ref x0, .int x1] => fX0_leave x0 x1 μ
  | _ => none
noncomputable def cfX0_leave : qF := fun n l μ => if n = 15 then aX0_release l μ else if n = 16 then aX0_takeDue l μ else if n = 17 then aX0_serve (sX0_serve qdp) l μ else none
theorem hcX0_leave {base : Nat} {D : va_G} {ca : Nat → ClassId} {cv : Nat → Value} (hcv : ∀ j, (cv j).category = 1) : ∀ M as μ r, cfX0_leave M as μ = some r → qGood false base D ca cv 1003 M as μ r := by
  intro M as μ r h
  unfold cfX0_leave at h
  split at h
  · rename_i e; subst e; exact (gaX0_release hcv h).mono (by omega)
  split at h
  · rename_i e; subst e; exact (gaX0_takeDue hcv h).mono (by omega)
  split at h
  · rename_i e; subst e; exact (gssX0_serve_X0_serve hcv h).mono (by omega)
  cases h
def jX0_leave_14 (f : Nat → Int32 → Int32 → Int32 → Int32 → qM → Option qR) (L S : List Value) (μ : qM) : Option qR := match L, S with
  | [.ref x0, .int x1, .int x2, .int x3, .int x4], [] => f x0 x1 x2 x3 x4 μ
  | _, _ => none
theorem jeX0_leave_14 {base : Nat} {D : va_G} {ca : Nat → ClassId} {cv : Nat → Value} {d : Nat} {f : Nat → Int32 → Int32 → Int32 → Int32 → qM → Option qR} (hf : ∀ (x0 : Nat) (x1 : Int32) (x2 : Int32) (x3 : Int32) (x4 : Int32) (μ : qM) (r : qR), f x0 x1 x2 x3 x4 μ = some r → qEv false base D ca cv d 13 r 14 [.ref x0, .int x1, .int x2, .int x3, .int x4] [] μ) {L S : List Value} {μ : qM} {r : qR} (h : jX0_leave_14 f L S μ = some r) : qEv false base D ca cv d 13 r 14 L S μ := by
  unfold jX0_leave_14 at h
  split at h
  · exact (hf _ _ _ _ _ _ _ h).le rfl ⟨Or.inr rfl, Or.inr rfl, Or.inr rfl, Or.inr rfl, Or.inr rfl, trivial⟩
  · cases h
def jX0_leave_60 (f : Nat → Int32 → Int32 → qM → Option qR) (L S : List Value) (μ : qM) : Option qR := match L, S with
  | [.ref x0, .int x1, _, _, .int x4], [] => f x0 x1 x4 μ
  | _, _ => none
theorem jeX0_leave_60 {base : Nat} {D : va_G} {ca : Nat → ClassId} {cv : Nat → Value} {d : Nat} {f : Nat → Int32 → Int32 → qM → Option qR} (hf : ∀ (x0 : Nat) (x1 : Int32) (x4 : Int32) (μ : qM) (r : qR), f x0 x1 x4 μ = some r → qEv false base D ca cv d 13 r 60 [.ref x0, .int x1, .null, .null, .int x4] [] μ) {L S : List Value} {μ : qM} {r : qR} (h : jX0_leave_60 f L S μ = some r) : qEv false base D ca cv d 13 r 60 L S μ := by
  unfold jX0_leave_60 at h
  split at h
  · exact (hf _ _ _ _ _ h).le rfl ⟨Or.inr rfl, Or.inr rfl, Or.inl rfl, Or.inl rfl, Or.inr rfl, trivial⟩
  · cases h
theorem lbX0_leave_60 {base : Nat} {D : va_G} {ca : Nat → ClassId} {cv : Nat → Value} (hcv : ∀ j, (cv j).category = 1) : ∀ (n : Nat) (x0 : Nat) (x1 : Int32) (x4 : Int32) (μ : qM) (r : qR), fX0_leave_60 n x0 x1 x4 μ = some r → qEv false base D ca cv 1004 13 r 60 [.ref x0, .int x1, .null, .null, .int x4] [] μ := by
  intro n
  induction n with
  | zero => intro x0 x1 x4 μ r h; exact Option.noConfusion (show (none : Option qR) = some r from h)
  | succ n ih =>
    intro x0 x1 x4 μ r h
    exact qblk_ev2 (cf := cfX0_leave) (st := (fun n => qin [14, 60] n)) (K := (fun pc L S μ => if pc = 14 then jX0_leave_14 (fX0_leave_14 qfu) L S μ else if pc = 60 then jX0_leave_60 (fX0_leave_60 n) L S μ else none)) (cd := qcX0_leave) (M := 13) (d0 := 1003) rfl qcok_X0_leave (Nat.le_refl _) (hcX0_leave hcv) (by
    intro pc L S μ r h
    split at h
    · rename_i e; subst e; exact jeX0_leave_14 (lbX0_leave_14 hcv qfu) h
    split at h
    · rename_i e; subst e; exact jeX0_leave_60 ih h
    cases h) 400 (pc := 60) (L := [.ref x0, .int x1, .null, .null, .int x4]) (S := []) h
theorem lbX0_leave_14 {base : Nat} {D : va_G} {ca : Nat → ClassId} {cv : Nat → Value} (hcv : ∀ j, (cv j).category = 1) : ∀ (n : Nat) (x0 : Nat) (x1 : Int32) (x2 : Int32) (x3 : Int32) (x4 : Int32) (μ : qM) (r : qR), fX0_leave_14 n x0 x1 x2 x3 x4 μ = some r → qEv false base D ca cv 1004 13 r 14 [.ref x0, .int x1, .int x2, .int x3, .int x4] [] μ := by
  intro n
  induction n with
  | zero => intro x0 x1 x2 x3 x4 μ r h; exact Option.noConfusion (show (none : Option qR) = some r from h)
  | succ n ih =>
    intro x0 x1 x2 x3 x4 μ r h
    exact qblk_ev2 (cf := cfX0_leave) (st := (fun n => qin [14, 60] n)) (K := (fun pc L S μ => if pc = 14 then jX0_leave_14 (fX0_leave_14 n) L S μ else if pc = 60 then jX0_leave_60 (fX0_leave_60 qfu) L S μ else none)) (cd := qcX0_leave) (M := 13) (d0 := 1003) rfl qcok_X0_leave (Nat.le_refl _) (hcX0_leave hcv) (by
    intro pc L S μ r h
    split at h
    · rename_i e; subst e; exact jeX0_leave_14 ih h
    split at h
    · rename_i e; subst e; exact jeX0_leave_60 (lbX0_leave_60 hcv qfu) h
    cases h) 400 (pc := 14) (L := [.ref x0, .int x1, .int x2, .int x3, .int x4]) (S := []) h
theorem npX0_leave : (parseMethodDescriptor (qmy 13).desc).map (fun d => d.parameters.length) = some 1 := by decide +kernel
theorem gdX0_leave {base : Nat} {D : va_G} {ca : Nat → ClassId} {cv : Nat → Value} (hcv : ∀ j, (cv j).category = 1) {a0 : Nat} {a1 : Int32} {μ : qM} {r : qR} (h : fX0_leave a0 a1 μ = some r) : qGood false base D ca cv 1004 13 [.ref a0, .int a1] μ r := by
  unfold fX0_leave at h
  split at h
  · rename_i hk0
    exact qgood_of (by decide) (by omega) hcv (Or.inr ⟨by decide +kernel, hk0⟩) npX0_leave rfl (by decide) rfl (qblk_ev2 (cf := cfX0_leave) (st := (fun n => qin [14, 60] n)) (K := (fun pc L S μ => if pc = 14 then jX0_leave_14 (fX0_leave_14 qfu) L S μ else if pc = 60 then jX0_leave_60 (fX0_leave_60 qfu) L S μ else none)) (cd := qcX0_leave) (M := 13) (d0 := 1003) rfl qcok_X0_leave (Nat.le_refl _) (hcX0_leave hcv) (by
    intro pc L S μ r h
    split at h
    · rename_i e; subst e; exact jeX0_leave_14 (lbX0_leave_14 hcv qfu) h
    split at h
    · rename_i e; subst e; exact jeX0_leave_60 (lbX0_leave_60 hcv qfu) h
    cases h) 400 (pc := 0) (L := qent [.ref a0, .int a1] 5) (S := []) h)
  · cases h
theorem gaX0_leave {base : Nat} {D : va_G} {ca : Nat → ClassId} {cv : Nat → Value} (hcv : ∀ j, (cv j).category = 1) {l : List Value} {μ : qM} {r : qR} (h : aX0_leave l μ = some r) : qGood false base D ca cv 1004 13 l μ r := by
  unfold aX0_leave at h
  split at h
  · exact gdX0_leave hcv h
  · cases h
noncomputable def gX0_finish (a0 : Nat) (a1 : Int32) (μ : qM) : Option qR :=
  qbnd (fX7_isOwner a1 μ) fun r1 =>
  if r1.1 = 0 then
    some ((-1 : Int32), 0, r1.2.2)
  else
    qbnd (oGetP r1.2.2 0 a0 0) fun v2 =>
    qbnd (oGetP r1.2.2 5 v2 1) fun v3 =>
    qbnd (oLdI 20 r1.2.2 v3 a1) fun v4 =>
    if v4 = 0 then
      some ((-2 : Int32), 0, r1.2.2)
    else
      qbnd (oGetP r1.2.2 0 a0 0) fun v5 =>
      qbnd (fX5_holdings v5 a1 (0 : Int32) r1.2.2) fun r6 =>
      qbnd (fX0_leave a0 a1 r6.2.2) fun r7 =>
      some (r6.1, 0, r7.2.2)
noncomputable def fX0_finish (a0 : Nat) (a1 : Int32) (μ : qM) : Option qR := if (qk μ a0).1 = 0 then gX0_finish a0 a1 μ else none
noncomputable def aX0_finish (l : List Value) (μ : qM) : Option qR := match l with
  | [.ref x0, .int x1] => fX0_finish x0 x1 μ
  | _ => none
noncomputable def cfX0_finish : qF := fun n l μ => if n = 131 then aX7_isOwner l μ else if n = 58 then aX5_holdings l μ else if n = 13 then aX0_leave l μ else none
theorem hcX0_finish {base : Nat} {D : va_G} {ca : Nat → ClassId} {cv : Nat → Value} (hcv : ∀ j, (cv j).category = 1) : ∀ M as μ r, cfX0_finish M as μ = some r → qGood false base D ca cv 1004 M as μ r := by
  intro M as μ r h
  unfold cfX0_finish at h
  split at h
  · rename_i e; subst e; exact (gaX7_isOwner hcv h).mono (by omega)
  split at h
  · rename_i e; subst e; exact (gaX5_holdings hcv h).mono (by omega)
  split at h
  · rename_i e; subst e; exact (gaX0_leave hcv h).mono (by omega)
  cases h
theorem npX0_finish : (parseMethodDescriptor (qmy 7).desc).map (fun d => d.parameters.length) = some 1 := by decide +kernel
theorem gdX0_finish {base : Nat} {D : va_G} {ca : Nat → ClassId} {cv : Nat → Value} (hcv : ∀ j, (cv j).category = 1) {a0 : Nat} {a1 : Int32} {μ : qM} {r : qR} (h : fX0_finish a0 a1 μ = some r) : qGood false base D ca cv 1005 7 [.ref a0, .int a1] μ r := by
  unfold fX0_finish at h
  split at h
  · rename_i hk0
    exact qgood_of (by decide) (by omega) hcv (Or.inr ⟨by decide +kernel, hk0⟩) npX0_finish rfl (by decide) rfl (qblk_ev2 (cf := cfX0_finish) (st := (fun n => qin [] n)) (K := (fun pc L S μ => none)) (cd := qcX0_finish) (M := 7) (d0 := 1004) rfl qcok_X0_finish (Nat.le_refl _) (hcX0_finish hcv) (by
    intro pc L S μ r h
    cases h) 400 (pc := 0) (L := qent [.ref a0, .int a1] 3) (S := []) h)
  · cases h
theorem gaX0_finish {base : Nat} {D : va_G} {ca : Nat → ClassId} {cv : Nat → Value} (hcv : ∀ j, (cv j).category = 1) {l : List Value} {μ : qM} {r : qR} (h : aX0_finish l μ = some r) : qGood false base D ca cv 1005 7 l μ r := by
  unfold aX0_finish at h
  split at h
  · exact gdX0_finish hcv h
  · cases h
noncomputable def gX0_collect (a0 : Nat) (a1 : Int32) (a2 : Int32) (μ : qM) : Option qR :=
  qbnd (fX7_isOwner a1 μ) fun r1 =>
  if r1.1 = 0 then
    some ((-1 : Int32), 0, r1.2.2)
  else
    if a2 < 0 then
      some ((-1 : Int32), 0, r1.2.2)
    else
      if a2 < (21 : Int32) then
        qbnd (oGetP r1.2.2 0 a0 0) fun v2 =>
        qbnd (oGetP r1.2.2 5 v2 1) fun v3 =>
        qbnd (oLdI 20 r1.2.2 v3 a1) fun v4 =>
        if v4 = (1 : Int32) then
          qbnd (oGetP r1.2.2 0 a0 0) fun v5 =>
          qbnd (fX5_holdingsBelow v5 a1 a2 r1.2.2) fun r6 =>
          qbnd (fX0_gatherAt (sX0_serve qdp) a0 a1 a2 (0 : Int32) r6.2.2) fun r7 =>
          if r7.1 = 0 then
            some ((-4 : Int32), 0, r7.2.2)
          else
            some (r6.1, 0, r7.2.2)
        else
          qbnd (fX0_idle a0 a1 r1.2.2) fun r8 =>
          some (r8.1, 0, r8.2.2)
      else
        some ((-1 : Int32), 0, r1.2.2)
noncomputable def fX0_collect (a0 : Nat) (a1 : Int32) (a2 : Int32) (μ : qM) : Option qR := if (qk μ a0).1 = 0 then gX0_collect a0 a1 a2 μ else none
noncomputable def aX0_collect (l : List Value) (μ : qM) : Option qR := match l with
  | [.ref x0, .int x1, .int x2] => fX0_collect x0 x1 x2 μ
  | _ => none
noncomputable def cfX0_collect : qF := fun n l μ => if n = 131 then aX7_isOwner l μ else if n = 14 then aX0_idle l μ else if n = 62 then aX5_holdingsBelow l μ else if n = 19 then aX0_gatherAt (sX0_serve qdp) l μ else none
theorem hcX0_collect {base : Nat} {D : va_G} {ca : Nat → ClassId} {cv : Nat → Value} (hcv : ∀ j, (cv j).category = 1) : ∀ M as μ r, cfX0_collect M as μ = some r → qGood false base D ca cv 1001 M as μ r := by
  intro M as μ r h
  unfold cfX0_collect at h
  split at h
  · rename_i e; subst e; exact (gaX7_isOwner hcv h).mono (by omega)
  split at h
  · rename_i e; subst e; exact (gaX0_idle hcv h).mono (by omega)
  split at h
  · rename_i e; subst e; exact (gaX5_holdingsBelow hcv h).mono (by omega)
  split at h
  · rename_i e; subst e; exact (gssX0_serve_X0_gatherAt hcv h).mono (by omega)
  cases h
theorem npX0_collect : (parseMethodDescriptor (qmy 8).desc).map (fun d => d.parameters.length) = some 2 := by decide +kernel
theorem gdX0_collect {base : Nat} {D : va_G} {ca : Nat → ClassId} {cv : Nat → Value} (hcv : ∀ j, (cv j).category = 1) {a0 : Nat} {a1 : Int32} {a2 : Int32} {μ : qM} {r : qR} (h : fX0_collect a0 a1 a2 μ = some r) : qGood false base D ca cv 1002 8 [.ref a0, .int a1, .int a2] μ r := by
  unfold fX0_collect at h
  split at h
  · rename_i hk0
    exact qgood_of (by decide) (by omega) hcv (Or.inr ⟨by decide +kernel, hk0⟩) npX0_collect rfl (by decide) rfl (qblk_ev2 (cf := cfX0_collect) (st := (fun n => qin [] n)) (K := (fun pc L S μ => none)) (cd := qcX0_collect) (M := 8) (d0 := 1001) rfl qcok_X0_collect (Nat.le_refl _) (hcX0_collect hcv) (by
    intro pc L S μ r h
    cases h) 400 (pc := 0) (L := qent [.ref a0, .int a1, .int a2] 4) (S := []) h)
  · cases h
theorem gaX0_collect {base : Nat} {D : va_G} {ca : Nat → ClassId} {cv : Nat → Value} (hcv : ∀ j, (cv j).category = 1) {l : List Value} {μ : qM} {r : qR} (h : aX0_collect l μ = some r) : qGood false base D ca cv 1002 8 l μ r := by
  unfold aX0_collect at h
  split at h
  · exact gdX0_collect hcv h
  · cases h
noncomputable def fX5_forWhom_37 (k17 : Nat → Int32 → Int32 → Int32 → Int32 → qM → Option qR) (x0 : Nat) (x1 : Int32) (x2 : Int32) (x3 : Int32) (x4 : Int32) (s0 : Int32) (μ : qM) : Option qR :=
  if x4 = x1 then
    k17 x0 x1 x2 x3 (x4 + (1 : Int32)) μ
  else
    if s0 = 0 then
      qbnd (oGetP μ 5 x0 5) fun v1 =>
      qbnd (oLdI 20 μ v1 x4) fun v2 =>
      if v2 = x2 then
        qbnd (fX5_isAhead x0 x4 x1 μ) fun r3 =>
        if r3.1 = 0 then
          k17 x0 x1 x2 x3 (x4 + (1 : Int32)) r3.2.2
        else
          k17 x0 x1 x2 (x3 ||| ((1 : Int32) <<< (x4 &&& 31))) (x4 + (1 : Int32)) r3.2.2
      else
        k17 x0 x1 x2 x3 (x4 + (1 : Int32)) μ
    else
      k17 x0 x1 x2 (x3 ||| ((1 : Int32) <<< (x4 &&& 31))) (x4 + (1 : Int32)) μ
noncomputable def fX5_forWhom_17 : Nat → Nat → Int32 → Int32 → Int32 → Int32 → qM → Option qR
  | 0 => fun _ _ _ _ _ _ => none
  | n + 1 => fun x0 x1 x2 x3 x4 μ =>
    if (8 : Int32) ≤ x4 then
      some (x3, 0, μ)
    else
      qbnd (oGetP μ 5 x0 6) fun v1 =>
      qbnd (oLdI 20 μ v1 x1) fun v2 =>
      qbnd (oTab 1 0 v2) fun v3 =>
      qbnd (fX5_modeAt x0 x4 x2 μ) fun r4 =>
      if ((qush v3 r4.1) &&& (1 : Int32)) = 0 then
        fX5_forWhom_37 (fX5_forWhom_17 n) x0 x1 x2 x3 x4 (1 : Int32) r4.2.2
      else
        fX5_forWhom_37 (fX5_forWhom_17 n) x0 x1 x2 x3 x4 (0 : Int32) r4.2.2
noncomputable def gX5_forWhom (a0 : Nat) (a1 : Int32) (μ : qM) : Option qR :=
  qbnd (oGetP μ 5 a0 1) fun v1 =>
  qbnd (oLdI 20 μ v1 a1) fun v2 =>
  if v2 = (2 : Int32) then
    qbnd (oGetP μ 5 a0 5) fun v3 =>
    qbnd (oLdI 20 μ v3 a1) fun v4 =>
    fX5_forWhom_17 qfu a0 a1 v4 (0 : Int32) (0 : Int32) μ
  else
    some ((0 : Int32), 0, μ)
noncomputable def fX5_forWhom (a0 : Nat) (a1 : Int32) (μ : qM) : Option qR := if (qk μ a0).1 = 5 then gX5_forWhom a0 a1 μ else none
noncomputable def aX5_forWhom (l : List Value) (μ : qM) : Option qR := match l with
  | [.ref x0, .int x1] => fX5_forWhom x0 x1 μ
  | _ => none
noncomputable def cfX5_forWhom : qF := fun n l μ => if n = 54 then aX5_modeAt l μ else if n = 73 then aX5_isAhead l μ else none
theorem hcX5_forWhom {base : Nat} {D : va_G} {ca : Nat → ClassId} {cv : Nat → Value} (hcv : ∀ j, (cv j).category = 1) : ∀ M as μ r, cfX5_forWhom M as μ = some r → qGood false base D ca cv 2 M as μ r := by
  intro M as μ r h
  unfold cfX5_forWhom at h
  split at h
  · rename_i e; subst e; exact (gaX5_modeAt hcv h).mono (by omega)
  split at h
  · rename_i e; subst e; exact (gaX5_isAhead hcv h).mono (by omega)
  cases h
def jX5_forWhom_17 (f : Nat → Int32 → Int32 → Int32 → Int32 → qM → Option qR) (L S : List Value) (μ : qM) : Option qR := match L, S with
  | [.ref x0, .int x1, .int x2, .int x3, .int x4, _], [] => f x0 x1 x2 x3 x4 μ
  | _, _ => none
theorem jeX5_forWhom_17 {base : Nat} {D : va_G} {ca : Nat → ClassId} {cv : Nat → Value} {d : Nat} {f : Nat → Int32 → Int32 → Int32 → Int32 → qM → Option qR} (hf : ∀ (x0 : Nat) (x1 : Int32) (x2 : Int32) (x3 : Int32) (x4 : Int32) (μ : qM) (r : qR), f x0 x1 x2 x3 x4 μ = some r → qEv false base D ca cv d 76 r 17 [.ref x0, .int x1, .int x2, .int x3, .int x4, .null] [] μ) {L S : List Value} {μ : qM} {r : qR} (h : jX5_forWhom_17 f L S μ = some r) : qEv false base D ca cv d 76 r 17 L S μ := by
  unfold jX5_forWhom_17 at h
  split at h
  · exact (hf _ _ _ _ _ _ _ h).le rfl ⟨Or.inr rfl, Or.inr rfl, Or.inr rfl, Or.inr rfl, Or.inr rfl, Or.inl rfl, trivial⟩
  · cases h
def jX5_forWhom_37 (f : Nat → Int32 → Int32 → Int32 → Int32 → Int32 → qM → Option qR) (L S : List Value) (μ : qM) : Option qR := match L, S with
  | [.ref x0, .int x1, .int x2, .int x3, .int x4, _], [.int s0] => f x0 x1 x2 x3 x4 s0 μ
  | _, _ => none
theorem jeX5_forWhom_37 {base : Nat} {D : va_G} {ca : Nat → ClassId} {cv : Nat → Value} {d : Nat} {f : Nat → Int32 → Int32 → Int32 → Int32 → Int32 → qM → Option qR} (hf : ∀ (x0 : Nat) (x1 : Int32) (x2 : Int32) (x3 : Int32) (x4 : Int32) (s0 : Int32) (μ : qM) (r : qR), f x0 x1 x2 x3 x4 s0 μ = some r → qEv false base D ca cv d 76 r 37 [.ref x0, .int x1, .int x2, .int x3, .int x4, .null] [.int s0] μ) {L S : List Value} {μ : qM} {r : qR} (h : jX5_forWhom_37 f L S μ = some r) : qEv false base D ca cv d 76 r 37 L S μ := by
  unfold jX5_forWhom_37 at h
  split at h
  · exact (hf _ _ _ _ _ _ _ _ h).le rfl ⟨Or.inr rfl, Or.inr rfl, Or.inr rfl, Or.inr rfl, Or.inr rfl, Or.inl rfl, trivial⟩
  · cases h
theorem lbX5_forWhom_37 {base : Nat} {D : va_G} {ca : Nat → ClassId} {cv : Nat → Value} (hcv : ∀ j, (cv j).category = 1) {k17 : Nat → Int32 → Int32 → Int32 → Int32 → qM → Option qR} (hk17 : ∀ (y0 : Nat) (y1 : Int32) (y2 : Int32) (y3 : Int32) (y4 : Int32) (μ : qM) (r : qR), k17 y0 y1 y2 y3 y4 μ = some r → qEv false base D ca cv 3 76 r 17 [.ref y0, .int y1, .int y2, .int y3, .int y4, .null] [] μ) (x0 : Nat) (x1 : Int32) (x2 : Int32) (x3 : Int32) (x4 : Int32) (s0 : Int32) (μ : qM) (r : qR) (h : fX5_forWhom_37 k17 x0 x1 x2 x3 x4 s0 μ = some r) : qEv false base D ca cv 3 76 r 37 [.ref x0, .int x1, .int x2, .int x3, .int x4, .null] [.int s0] μ := by
    exact qblk_ev2 (cf := cfX5_forWhom) (st := (fun n => qin [17, 37] n)) (K := (fun pc L S μ => if pc = 17 then jX5_forWhom_17 k17 L S μ else if pc = 37 then jX5_forWhom_37 (fX5_forWhom_37 k17) L S μ else none)) (cd := qcX5_forWhom) (M := 76) (d0 := 2) rfl qcok_X5_forWhom (Nat.le_refl _) (hcX5_forWhom hcv) (by
    intro pc L S μ r h
    split at h
    · rename_i e; subst e; exact jeX5_forWhom_17 hk17 h
    split at h
    · rename_i e; subst e; exact jeX5_forWhom_37 (lbX5_forWhom_37 hcv hk17) h
    cases h) 400 (pc := 37) (L := [.ref x0, .int x1, .int x2, .int x3, .int x4, .null]) (S := [.int s0]) h
theorem lbX5_forWhom_17 {base : Nat} {D : va_G} {ca : Nat → ClassId} {cv : Nat → Value} (hcv : ∀ j, (cv j).category = 1) : ∀ (n : Nat) (x0 : Nat) (x1 : Int32) (x2 : Int32) (x3 : Int32) (x4 : Int32) (μ : qM) (r : qR), fX5_forWhom_17 n x0 x1 x2 x3 x4 μ = some r → qEv false base D ca cv 3 76 r 17 [.ref x0, .int x1, .int x2, .int x3, .int x4, .null] [] μ := by
  intro n
  induction n with
  | zero => intro x0 x1 x2 x3 x4 μ r h; exact Option.noConfusion (show (none : Option qR) = some r from h)
  | succ n ih =>
    intro x0 x1 x2 x3 x4 μ r h
    exact qblk_ev2 (cf := cfX5_forWhom) (st := (fun n => qin [17, 37] n)) (K := (fun pc L S μ => if pc = 17 then jX5_forWhom_17 (fX5_forWhom_17 n) L S μ else if pc = 37 then jX5_forWhom_37 (fX5_forWhom_37 (fX5_forWhom_17 n)) L S μ else none)) (cd := qcX5_forWhom) (M := 76) (d0 := 2) rfl qcok_X5_forWhom (Nat.le_refl _) (hcX5_forWhom hcv) (by
    intro pc L S μ r h
    split at h
    · rename_i e; subst e; exact jeX5_forWhom_17 ih h
    split at h
    · rename_i e; subst e; exact jeX5_forWhom_37 (lbX5_forWhom_37 hcv ih) h
    cases h) 400 (pc := 17) (L := [.ref x0, .int x1, .int x2, .int x3, .int x4, .null]) (S := []) h
theorem npX5_forWhom : (parseMethodDescriptor (qmy 76).desc).map (fun d => d.parameters.length) = some 1 := by decide +kernel
theorem gdX5_forWhom {base : Nat} {D : va_G} {ca : Nat → ClassId} {cv : Nat → Value} (hcv : ∀ j, (cv j).category = 1) {a0 : Nat} {a1 : Int32} {μ : qM} {r : qR} (h : fX5_forWhom a0 a1 μ = some r) : qGood false base D ca cv 3 76 [.ref a0, .int a1] μ r := by
  unfold fX5_forWhom at h
  split at h
  · rename_i hk0
    exact qgood_of (by decide) (by omega) hcv (Or.inr ⟨by decide +kernel, hk0⟩) npX5_forWhom rfl (by decide) rfl (qblk_ev2 (cf := cfX5_forWhom) (st := (fun n => qin [17, 37] n)) (K := (fun pc L S μ => if pc = 17 then jX5_forWhom_17 (fX5_forWhom_17 qfu) L S μ else none)) (cd := qcX5_forWhom) (M := 76) (d0 := 2) rfl qcok_X5_forWhom (Nat.le_refl _) (hcX5_forWhom hcv) (by
    intro pc L S μ r h
    split at h
    · rename_i e; subst e; exact jeX5_forWhom_17 (lbX5_forWhom_17 hcv qfu) h
    cases h) 400 (pc := 0) (L := qent [.ref a0, .int a1] 6) (S := []) h)
  · cases h
theorem gaX5_forWhom {base : Nat} {D : va_G} {ca : Nat → ClassId} {cv : Nat → Value} (hcv : ∀ j, (cv j).category = 1) {l : List Value} {μ : qM} {r : qR} (h : aX5_forWhom l μ = some r) : qGood false base D ca cv 3 76 l μ r := by
  unfold aX5_forWhom at h
  split at h
  · exact gdX5_forWhom hcv h
  · cases h
noncomputable def fX2_read_29 (k24 : Nat → Int32 → qM → Option qR) : Nat → Nat → Int32 → Int32 → qM → Option qR
  | 0 => fun _ _ _ _ => none
  | n + 1 => fun x0 x2 x3 μ =>
    if (8 : Int32) ≤ x3 then
      k24 x0 (x2 + (1 : Int32)) μ
    else
      qbnd (oGetP μ 2 x0 1) fun v1 =>
      qbnd (oLdI 20 μ v1 x3) fun v2 =>
      if ((qush v2 x2) &&& (1 : Int32)) = 0 then
        fX2_read_29 k24 n x0 x2 (x3 + (1 : Int32)) μ
      else
        qbnd (oGetP μ 2 x0 1) fun v3 =>
        qbnd (oLdI 20 μ v3 x3) fun v4 =>
        qbnd (oGetP μ 2 x0 1) fun v5 =>
        qbnd (oLdI 20 μ v5 x2) fun v6 =>
        qbnd (oStI 20 μ v3 x3 (v4 ||| v6)) fun μ7 =>
        fX2_read_29 k24 n x0 x2 (x3 + (1 : Int32)) μ7
noncomputable def fX2_read_24 : Nat → Nat → Int32 → qM → Option qR
  | 0 => fun _ _ _ => none
  | n + 1 => fun x0 x2 μ =>
    if (8 : Int32) ≤ x2 then
      some (0, 0, μ)
    else
      fX2_read_29 (fX2_read_24 n) qfu x0 x2 (0 : Int32) μ
noncomputable def fX2_read_2 : Nat → Nat → Nat → Int32 → qM → Option qR
  | 0 => fun _ _ _ _ => none
  | n + 1 => fun x0 x1 x2 μ =>
    if (8 : Int32) ≤ x2 then
      fX2_read_24 qfu x0 (0 : Int32) μ
    else
      qbnd (oGetP μ 2 x0 0) fun v1 =>
      qbnd (fX5_forWhom x1 x2 μ) fun r2 =>
      qbnd (oStI 20 r2.2.2 v1 x2 r2.1) fun μ3 =>
      qbnd (oGetP μ3 2 x0 1) fun v4 =>
      qbnd (oGetP μ3 2 x0 0) fun v5 =>
      qbnd (oLdI 20 μ3 v5 x2) fun v6 =>
      qbnd (oStI 20 μ3 v4 x2 v6) fun μ7 =>
      fX2_read_2 n x0 x1 (x2 + (1 : Int32)) μ7
noncomputable def gX2_read (a0 : Nat) (a1 : Nat) (μ : qM) : Option qR :=
  fX2_read_2 qfu a0 a1 (0 : Int32) μ
noncomputable def fX2_read (a0 : Nat) (a1 : Nat) (μ : qM) : Option qR := if (qk μ a0).1 = 2 then gX2_read a0 a1 μ else none
noncomputable def aX2_read (l : List Value) (μ : qM) : Option qR := match l with
  | [.ref x0, .ref x1] => fX2_read x0 x1 μ
  | _ => none
noncomputable def cfX2_read : qF := fun n l μ => if n = 76 then aX5_forWhom l μ else none
theorem hcX2_read {base : Nat} {D : va_G} {ca : Nat → ClassId} {cv : Nat → Value} (hcv : ∀ j, (cv j).category = 1) : ∀ M as μ r, cfX2_read M as μ = some r → qGood false base D ca cv 3 M as μ r := by
  intro M as μ r h
  unfold cfX2_read at h
  split at h
  · rename_i e; subst e; exact (gaX5_forWhom hcv h).mono (by omega)
  cases h
def jX2_read_2 (f : Nat → Nat → Int32 → qM → Option qR) (L S : List Value) (μ : qM) : Option qR := match L, S with
  | [.ref x0, .ref x1, .int x2, _], [] => f x0 x1 x2 μ
  | _, _ => none
theorem jeX2_read_2 {base : Nat} {D : va_G} {ca : Nat → ClassId} {cv : Nat → Value} {d : Nat} {f : Nat → Nat → Int32 → qM → Option qR} (hf : ∀ (x0 : Nat) (x1 : Nat) (x2 : Int32) (μ : qM) (r : qR), f x0 x1 x2 μ = some r → qEv false base D ca cv d 25 r 2 [.ref x0, .ref x1, .int x2, .null] [] μ) {L S : List Value} {μ : qM} {r : qR} (h : jX2_read_2 f L S μ = some r) : qEv false base D ca cv d 25 r 2 L S μ := by
  unfold jX2_read_2 at h
  split at h
  · exact (hf _ _ _ _ _ h).le rfl ⟨Or.inr rfl, Or.inr rfl, Or.inr rfl, Or.inl rfl, trivial⟩
  · cases h
def jX2_read_24 (f : Nat → Int32 → qM → Option qR) (L S : List Value) (μ : qM) : Option qR := match L, S with
  | [.ref x0, _, .int x2, _], [] => f x0 x2 μ
  | _, _ => none
theorem jeX2_read_24 {base : Nat} {D : va_G} {ca : Nat → ClassId} {cv : Nat → Value} {d : Nat} {f : Nat → Int32 → qM → Option qR} (hf : ∀ (x0 : Nat) (x2 : Int32) (μ : qM) (r : qR), f x0 x2 μ = some r → qEv false base D ca cv d 25 r 24 [.ref x0, .null, .int x2, .null] [] μ) {L S : List Value} {μ : qM} {r : qR} (h : jX2_read_24 f L S μ = some r) : qEv false base D ca cv d 25 r 24 L S μ := by
  unfold jX2_read_24 at h
  split at h
  · exact (hf _ _ _ _ h).le rfl ⟨Or.inr rfl, Or.inl rfl, Or.inr rfl, Or.inl rfl, trivial⟩
  · cases h
def jX2_read_29 (f : Nat → Int32 → Int32 → qM → Option qR) (L S : List Value) (μ : qM) : Option qR := match L, S with
  | [.ref x0, _, .int x2, .int x3], [] => f x0 x2 x3 μ
  | _, _ => none
theorem jeX2_read_29 {base : Nat} {D : va_G} {ca : Nat → ClassId} {cv : Nat → Value} {d : Nat} {f : Nat → Int32 → Int32 → qM → Option qR} (hf : ∀ (x0 : Nat) (x2 : Int32) (x3 : Int32) (μ : qM) (r : qR), f x0 x2 x3 μ = some r → qEv false base D ca cv d 25 r 29 [.ref x0, .null, .int x2, .int x3] [] μ) {L S : List Value} {μ : qM} {r : qR} (h : jX2_read_29 f L S μ = some r) : qEv false base D ca cv d 25 r 29 L S μ := by
  unfold jX2_read_29 at h
  split at h
  · exact (hf _ _ _ _ _ h).le rfl ⟨Or.inr rfl, Or.inl rfl, Or.inr rfl, Or.inr rfl, trivial⟩
  · cases h
theorem lbX2_read_29 {base : Nat} {D : va_G} {ca : Nat → ClassId} {cv : Nat → Value} (hcv : ∀ j, (cv j).category = 1) {k24 : Nat → Int32 → qM → Option qR} (hk24 : ∀ (y0 : Nat) (y2 : Int32) (μ : qM) (r : qR), k24 y0 y2 μ = some r → qEv false base D ca cv 4 25 r 24 [.ref y0, .null, .int y2, .null] [] μ) : ∀ (n : Nat) (x0 : Nat) (x2 : Int32) (x3 : Int32) (μ : qM) (r : qR), fX2_read_29 k24 n x0 x2 x3 μ = some r → qEv false base D ca cv 4 25 r 29 [.ref x0, .null, .int x2, .int x3] [] μ := by
  intro n
  induction n with
  | zero => intro x0 x2 x3 μ r h; exact Option.noConfusion (show (none : Option qR) = some r from h)
  | succ n ih =>
    intro x0 x2 x3 μ r h
    exact qblk_ev2 (cf := cfX2_read) (st := (fun n => qin [2, 24, 29] n)) (K := (fun pc L S μ => if pc = 2 then jX2_read_2 (fX2_read_2 qfu) L S μ else if pc = 24 then jX2_read_24 k24 L S μ else if pc = 29 then jX2_read_29 (fX2_read_29 k24 n) L S μ else none)) (cd := qcX2_read) (M := 25) (d0 := 3) rfl qcok_X2_read (Nat.le_refl _) (hcX2_read hcv) (by
    intro pc L S μ r h
    split at h
    · rename_i e; subst e; exact jeX2_read_2 (lbX2_read_2 hcv qfu) h
    split at h
    · rename_i e; subst e; exact jeX2_read_24 hk24 h
    split at h
    · rename_i e; subst e; exact jeX2_read_29 ih h
    cases h) 400 (pc := 29) (L := [.ref x0, .null, .int x2, .int x3]) (S := []) h
theorem lbX2_read_24 {base : Nat} {D : va_G} {ca : Nat → ClassId} {cv : Nat → Value} (hcv : ∀ j, (cv j).category = 1) : ∀ (n : Nat) (x0 : Nat) (x2 : Int32) (μ : qM) (r : qR), fX2_read_24 n x0 x2 μ = some r → qEv false base D ca cv 4 25 r 24 [.ref x0, .null, .int x2, .null] [] μ := by
  intro n
  induction n with
  | zero => intro x0 x2 μ r h; exact Option.noConfusion (show (none : Option qR) = some r from h)
  | succ n ih =>
    intro x0 x2 μ r h
    exact qblk_ev2 (cf := cfX2_read) (st := (fun n => qin [2, 24, 29] n)) (K := (fun pc L S μ => if pc = 2 then jX2_read_2 (fX2_read_2 qfu) L S μ else if pc = 24 then jX2_read_24 (fX2_read_24 n) L S μ else if pc = 29 then jX2_read_29 (fX2_read_29 (fX2_read_24 n) qfu) L S μ else none)) (cd := qcX2_read) (M := 25) (d0 := 3) rfl qcok_X2_read (Nat.le_refl _) (hcX2_read hcv) (by
    intro pc L S μ r h
    split at h
    · rename_i e; subst e; exact jeX2_read_2 (lbX2_read_2 hcv qfu) h
    split at h
    · rename_i e; subst e; exact jeX2_read_24 ih h
    split at h
    · rename_i e; subst e; exact jeX2_read_29 (lbX2_read_29 hcv ih qfu) h
    cases h) 400 (pc := 24) (L := [.ref x0, .null, .int x2, .null]) (S := []) h
theorem lbX2_read_2 {base : Nat} {D : va_G} {ca : Nat → ClassId} {cv : Nat → Value} (hcv : ∀ j, (cv j).category = 1) : ∀ (n : Nat) (x0 : Nat) (x1 : Nat) (x2 : Int32) (μ : qM) (r : qR), fX2_read_2 n x0 x1 x2 μ = some r → qEv false base D ca cv 4 25 r 2 [.ref x0, .ref x1, .int x2, .null] [] μ := by
  intro n
  induction n with
  | zero => intro x0 x1 x2 μ r h; exact Option.noConfusion (show (none : Option qR) = some r from h)
  | succ n ih =>
    intro x0 x1 x2 μ r h
    exact qblk_ev2 (cf := cfX2_read) (st := (fun n => qin [2, 24, 29] n)) (K := (fun pc L S μ => if pc = 2 then jX2_read_2 (fX2_read_2 n) L S μ else if pc = 24 then jX2_read_24 (fX2_read_24 qfu) L S μ else none)) (cd := qcX2_read) (M := 25) (d0 := 3) rfl qcok_X2_read (Nat.le_refl _) (hcX2_read hcv) (by
    intro pc L S μ r h
    split at h
    · rename_i e; subst e; exact jeX2_read_2 ih h
    split at h
    · rename_i e; subst e; exact jeX2_read_24 (lbX2_read_24 hcv qfu) h
    cases h) 400 (pc := 2) (L := [.ref x0, .ref x1, .int x2, .null]) (S := []) h
theorem npX2_read : (parseMethodDescriptor (qmy 25).desc).map (fun d => d.parameters.length) = some 1 := by decide +kernel
theorem gdX2_read {base : Nat} {D : va_G} {ca : Nat → ClassId} {cv : Nat → Value} (hcv : ∀ j, (cv j).category = 1) {a0 : Nat} {a1 : Nat} {μ : qM} {r : qR} (h : fX2_read a0 a1 μ = some r) : qGood false base D ca cv 4 25 [.ref a0, .ref a1] μ r := by
  unfold fX2_read at h
  split at h
  · rename_i hk0
    exact qgood_of (by decide) (by omega) hcv (Or.inr ⟨by decide +kernel, hk0⟩) npX2_read rfl (by decide) rfl (qblk_ev2 (cf := cfX2_read) (st := (fun n => qin [2, 24, 29] n)) (K := (fun pc L S μ => if pc = 2 then jX2_read_2 (fX2_read_2 qfu) L S μ else if pc = 24 then jX2_read_24 (fX2_read_24 qfu) L S μ else none)) (cd := qcX2_read) (M := 25) (d0 := 3) rfl qcok_X2_read (Nat.le_refl _) (hcX2_read hcv) (by
    intro pc L S μ r h
    split at h
    · rename_i e; subst e; exact jeX2_read_2 (lbX2_read_2 hcv qfu) h
    split at h
    · rename_i e; subst e; exact jeX2_read_24 (lbX2_read_24 hcv qfu) h
    cases h) 400 (pc := 0) (L := qent [.ref a0, .ref a1] 4) (S := []) h)
  · cases h
theorem gaX2_read {base : Nat} {D : va_G} {ca : Nat → ClassId} {cv : Nat → Value} (hcv : ∀ j, (cv j).category = 1) {l : List Value} {μ : qM} {r : qR} (h : aX2_read l μ = some r) : qGood false base D ca cv 4 25 l μ r := by
  unfold aX2_read at h
  split at h
  · exact gdX2_read hcv h
  · cases h
noncomputable def fX2_inRings_4 : Nat → Nat → Int32 → Int32 → qM → Option qR
  | 0 => fun _ _ _ _ => none
  | n + 1 => fun x0 x1 x2 μ =>
    if (8 : Int32) ≤ x2 then
      some (x1, 0, μ)
    else
      qbnd (oGetP μ 2 x0 1) fun v1 =>
      qbnd (oLdI 20 μ v1 x2) fun v2 =>
      let w3 : Int32 := (x1 ||| (v2 &&& ((1 : Int32) <<< (x2 &&& 31))))
      fX2_inRings_4 n x0 w3 (x2 + (1 : Int32)) μ
noncomputable def gX2_inRings (a0 : Nat) (μ : qM) : Option qR :=
  fX2_inRings_4 qfu a0 (0 : Int32) (0 : Int32) μ
noncomputable def fX2_inRings (a0 : Nat) (μ : qM) : Option qR := if (qk μ a0).1 = 2 then gX2_inRings a0 μ else none
noncomputable def aX2_inRings (l : List Value) (μ : qM) : Option qR := match l with
  | [.ref x0] => fX2_inRings x0 μ
  | _ => none
noncomputable def cfX2_inRings : qF := fun n l μ => none
theorem hcX2_inRings {base : Nat} {D : va_G} {ca : Nat → ClassId} {cv : Nat → Value} (hcv : ∀ j, (cv j).category = 1) : ∀ M as μ r, cfX2_inRings M as μ = some r → qGood false base D ca cv 0 M as μ r := by
  intro M as μ r h
  cases h
def jX2_inRings_4 (f : Nat → Int32 → Int32 → qM → Option qR) (L S : List Value) (μ : qM) : Option qR := match L, S with
  | [.ref x0, .int x1, .int x2], [] => f x0 x1 x2 μ
  | _, _ => none
theorem jeX2_inRings_4 {base : Nat} {D : va_G} {ca : Nat → ClassId} {cv : Nat → Value} {d : Nat} {f : Nat → Int32 → Int32 → qM → Option qR} (hf : ∀ (x0 : Nat) (x1 : Int32) (x2 : Int32) (μ : qM) (r : qR), f x0 x1 x2 μ = some r → qEv false base D ca cv d 28 r 4 [.ref x0, .int x1, .int x2] [] μ) {L S : List Value} {μ : qM} {r : qR} (h : jX2_inRings_4 f L S μ = some r) : qEv false base D ca cv d 28 r 4 L S μ := by
  unfold jX2_inRings_4 at h
  split at h
  · exact (hf _ _ _ _ _ h).le rfl ⟨Or.inr rfl, Or.inr rfl, Or.inr rfl, trivial⟩
  · cases h
theorem lbX2_inRings_4 {base : Nat} {D : va_G} {ca : Nat → ClassId} {cv : Nat → Value} (hcv : ∀ j, (cv j).category = 1) : ∀ (n : Nat) (x0 : Nat) (x1 : Int32) (x2 : Int32) (μ : qM) (r : qR), fX2_inRings_4 n x0 x1 x2 μ = some r → qEv false base D ca cv 1 28 r 4 [.ref x0, .int x1, .int x2] [] μ := by
  intro n
  induction n with
  | zero => intro x0 x1 x2 μ r h; exact Option.noConfusion (show (none : Option qR) = some r from h)
  | succ n ih =>
    intro x0 x1 x2 μ r h
    exact qblk_ev2 (cf := cfX2_inRings) (st := (fun n => qin [4] n)) (K := (fun pc L S μ => if pc = 4 then jX2_inRings_4 (fX2_inRings_4 n) L S μ else none)) (cd := qcX2_inRings) (M := 28) (d0 := 0) rfl qcok_X2_inRings (Nat.le_refl _) (hcX2_inRings hcv) (by
    intro pc L S μ r h
    split at h
    · rename_i e; subst e; exact jeX2_inRings_4 ih h
    cases h) 400 (pc := 4) (L := [.ref x0, .int x1, .int x2]) (S := []) h
theorem npX2_inRings : (parseMethodDescriptor (qmy 28).desc).map (fun d => d.parameters.length) = some 0 := by decide +kernel
theorem gdX2_inRings {base : Nat} {D : va_G} {ca : Nat → ClassId} {cv : Nat → Value} (hcv : ∀ j, (cv j).category = 1) {a0 : Nat} {μ : qM} {r : qR} (h : fX2_inRings a0 μ = some r) : qGood false base D ca cv 1 28 [.ref a0] μ r := by
  unfold fX2_inRings at h
  split at h
  · rename_i hk0
    exact qgood_of (by decide) (by omega) hcv (Or.inr ⟨by decide +kernel, hk0⟩) npX2_inRings rfl (by decide) rfl (qblk_ev2 (cf := cfX2_inRings) (st := (fun n => qin [4] n)) (K := (fun pc L S μ => if pc = 4 then jX2_inRings_4 (fX2_inRings_4 qfu) L S μ else none)) (cd := qcX2_inRings) (M := 28) (d0 := 0) rfl qcok_X2_inRings (Nat.le_refl _) (hcX2_inRings hcv) (by
    intro pc L S μ r h
    split at h
    · rename_i e; subst e; exact jeX2_inRings_4 (lbX2_inRings_4 hcv qfu) h
    cases h) 400 (pc := 0) (L := qent [.ref a0] 3) (S := []) h)
  · cases h
theorem gaX2_inRings {base : Nat} {D : va_G} {ca : Nat → ClassId} {cv : Nat → Value} (hcv : ∀ j, (cv j).category = 1) {l : List Value} {μ : qM} {r : qR} (h : aX2_inRings l μ = some r) : qGood false base D ca cv 1 28 l μ r := by
  unfold aX2_inRings at h
  split at h
  · exact gdX2_inRings hcv h
  · cases h
noncomputable def fX2_waiters_4 : Nat → Nat → Int32 → Int32 → Int32 → qM → Option qR
  | 0 => fun _ _ _ _ _ => none
  | n + 1 => fun x0 x1 x2 x3 μ =>
    if (8 : Int32) ≤ x3 then
      some (x2, 0, μ)
    else
      qbnd (oGetP μ 2 x0 0) fun v1 =>
      qbnd (oLdI 20 μ v1 x3) fun v2 =>
      fX2_waiters_4 n x0 x1 (x2 + ((qush v2 x1) &&& (1 : Int32))) (x3 + (1 : Int32)) μ
noncomputable def gX2_waiters (a0 : Nat) (a1 : Int32) (μ : qM) : Option qR :=
  fX2_waiters_4 qfu a0 a1 (0 : Int32) (0 : Int32) μ
noncomputable def fX2_waiters (a0 : Nat) (a1 : Int32) (μ : qM) : Option qR := if (qk μ a0).1 = 2 then gX2_waiters a0 a1 μ else none
noncomputable def aX2_waiters (l : List Value) (μ : qM) : Option qR := match l with
  | [.ref x0, .int x1] => fX2_waiters x0 x1 μ
  | _ => none
noncomputable def cfX2_waiters : qF := fun n l μ => none
theorem hcX2_waiters {base : Nat} {D : va_G} {ca : Nat → ClassId} {cv : Nat → Value} (hcv : ∀ j, (cv j).category = 1) : ∀ M as μ r, cfX2_waiters M as μ = some r → qGood false base D ca cv 0 M as μ r := by
  intro M as μ r h
  cases h
def jX2_waiters_4 (f : Nat → Int32 → Int32 → Int32 → qM → Option qR) (L S : List Value) (μ : qM) : Option qR := match L, S with
  | [.ref x0, .int x1, .int x2, .int x3], [] => f x0 x1 x2 x3 μ
  | _, _ => none
theorem jeX2_waiters_4 {base : Nat} {D : va_G} {ca : Nat → ClassId} {cv : Nat → Value} {d : Nat} {f : Nat → Int32 → Int32 → Int32 → qM → Option qR} (hf : ∀ (x0 : Nat) (x1 : Int32) (x2 : Int32) (x3 : Int32) (μ : qM) (r : qR), f x0 x1 x2 x3 μ = some r → qEv false base D ca cv d 26 r 4 [.ref x0, .int x1, .int x2, .int x3] [] μ) {L S : List Value} {μ : qM} {r : qR} (h : jX2_waiters_4 f L S μ = some r) : qEv false base D ca cv d 26 r 4 L S μ := by
  unfold jX2_waiters_4 at h
  split at h
  · exact (hf _ _ _ _ _ _ h).le rfl ⟨Or.inr rfl, Or.inr rfl, Or.inr rfl, Or.inr rfl, trivial⟩
  · cases h
theorem lbX2_waiters_4 {base : Nat} {D : va_G} {ca : Nat → ClassId} {cv : Nat → Value} (hcv : ∀ j, (cv j).category = 1) : ∀ (n : Nat) (x0 : Nat) (x1 : Int32) (x2 : Int32) (x3 : Int32) (μ : qM) (r : qR), fX2_waiters_4 n x0 x1 x2 x3 μ = some r → qEv false base D ca cv 1 26 r 4 [.ref x0, .int x1, .int x2, .int x3] [] μ := by
  intro n
  induction n with
  | zero => intro x0 x1 x2 x3 μ r h; exact Option.noConfusion (show (none : Option qR) = some r from h)
  | succ n ih =>
    intro x0 x1 x2 x3 μ r h
    exact qblk_ev2 (cf := cfX2_waiters) (st := (fun n => qin [4] n)) (K := (fun pc L S μ => if pc = 4 then jX2_waiters_4 (fX2_waiters_4 n) L S μ else none)) (cd := qcX2_waiters) (M := 26) (d0 := 0) rfl qcok_X2_waiters (Nat.le_refl _) (hcX2_waiters hcv) (by
    intro pc L S μ r h
    split at h
    · rename_i e; subst e; exact jeX2_waiters_4 ih h
    cases h) 400 (pc := 4) (L := [.ref x0, .int x1, .int x2, .int x3]) (S := []) h
theorem npX2_waiters : (parseMethodDescriptor (qmy 26).desc).map (fun d => d.parameters.length) = some 1 := by decide +kernel
theorem gdX2_waiters {base : Nat} {D : va_G} {ca : Nat → ClassId} {cv : Nat → Value} (hcv : ∀ j, (cv j).category = 1) {a0 : Nat} {a1 : Int32} {μ : qM} {r : qR} (h : fX2_waiters a0 a1 μ = some r) : qGood false base D ca cv 1 26 [.ref a0, .int a1] μ r := by
  unfold fX2_waiters at h
  split at h
  · rename_i hk0
    exact qgood_of (by decide) (by omega) hcv (Or.inr ⟨by decide +kernel, hk0⟩) npX2_waiters rfl (by decide) rfl (qblk_ev2 (cf := cfX2_waiters) (st := (fun n => qin [4] n)) (K := (fun pc L S μ => if pc = 4 then jX2_waiters_4 (fX2_waiters_4 qfu) L S μ else none)) (cd := qcX2_waiters) (M := 26) (d0 := 0) rfl qcok_X2_waiters (Nat.le_refl _) (hcX2_waiters hcv) (by
    intro pc L S μ r h
    split at h
    · rename_i e; subst e; exact jeX2_waiters_4 (lbX2_waiters_4 hcv qfu) h
    cases h) 400 (pc := 0) (L := qent [.ref a0, .int a1] 4) (S := []) h)
  · cases h
theorem gaX2_waiters {base : Nat} {D : va_G} {ca : Nat → ClassId} {cv : Nat → Value} (hcv : ∀ j, (cv j).category = 1) {l : List Value} {μ : qM} {r : qR} (h : aX2_waiters l μ = some r) : qGood false base D ca cv 1 26 l μ r := by
  unfold aX2_waiters at h
  split at h
  · exact gdX2_waiters hcv h
  · cases h
noncomputable def fX4_rankOf (a0 : Int32) (μ : qM) : Option qR :=
  if a0 = (42 : Int32) then
    some ((3 : Int32), 0, μ)
  else
  if a0 = (43 : Int32) then
    some ((2 : Int32), 0, μ)
  else
  if a0 = (45 : Int32) then
    some ((2 : Int32), 0, μ)
  else
  if a0 = (47 : Int32) then
    some ((3 : Int32), 0, μ)
  else
  if a0 = (60 : Int32) then
    some ((1 : Int32), 0, μ)
  else
  if a0 = (61 : Int32) then
    some ((1 : Int32), 0, μ)
  else
  if a0 = (62 : Int32) then
    some ((1 : Int32), 0, μ)
  else
  if a0 = (256 : Int32) then
    some ((4 : Int32), 0, μ)
  else
    some ((0 : Int32), 0, μ)
noncomputable def aX4_rankOf (l : List Value) (μ : qM) : Option qR := match l with
  | [.int x0] => fX4_rankOf x0 μ
  | _ => none
noncomputable def cfX4_rankOf : qF := fun n l μ => none
theorem hcX4_rankOf {base : Nat} {D : va_G} {ca : Nat → ClassId} {cv : Nat → Value} (hcv : ∀ j, (cv j).category = 1) : ∀ M as μ r, cfX4_rankOf M as μ = some r → qGood false base D ca cv 0 M as μ r := by
  intro M as μ r h
  cases h
theorem npX4_rankOf : (parseMethodDescriptor (qmy 50).desc).map (fun d => d.parameters.length) = some 1 := by decide +kernel
theorem gdX4_rankOf {base : Nat} {D : va_G} {ca : Nat → ClassId} {cv : Nat → Value} (hcv : ∀ j, (cv j).category = 1) {a0 : Int32} {μ : qM} {r : qR} (h : fX4_rankOf a0 μ = some r) : qGood false base D ca cv 1 50 [.int a0] μ r := by
  exact qgood_of (by decide) (by omega) hcv (Or.inl rfl) npX4_rankOf rfl (by decide) rfl (qblk_ev2 (cf := cfX4_rankOf) (st := (fun n => qin [] n)) (K := (fun pc L S μ => none)) (cd := qcX4_rankOf) (M := 50) (d0 := 0) rfl qcok_X4_rankOf (Nat.le_refl _) (hcX4_rankOf hcv) (by
    intro pc L S μ r h
    cases h) 400 (pc := 0) (L := qent [.int a0] 1) (S := []) h)
theorem gaX4_rankOf {base : Nat} {D : va_G} {ca : Nat → ClassId} {cv : Nat → Value} (hcv : ∀ j, (cv j).category = 1) {l : List Value} {μ : qM} {r : qR} (h : aX4_rankOf l μ = some r) : qGood false base D ca cv 1 50 l μ r := by
  unfold aX4_rankOf at h
  split at h
  · exact gdX4_rankOf hcv h
  · cases h
noncomputable def fX4_reckon (a0 : Int32) (a1 : Int32) (a2 : Int32) (μ : qM) : Option qR :=
  if a0 = (42 : Int32) then
    some ((a1 * a2), 0, μ)
  else
  if a0 = (43 : Int32) then
    some ((a1 + a2), 0, μ)
  else
  if a0 = (45 : Int32) then
    some ((a1 - a2), 0, μ)
  else
  if a0 = (60 : Int32) then
    if a2 ≤ a1 then
      some ((0 : Int32), 0, μ)
    else
      some ((1 : Int32), 0, μ)
  else
  if a0 = (61 : Int32) then
    if a1 = a2 then
      some ((1 : Int32), 0, μ)
    else
      some ((0 : Int32), 0, μ)
  else
  if a0 = (62 : Int32) then
    if a1 ≤ a2 then
      some ((0 : Int32), 0, μ)
    else
      some ((1 : Int32), 0, μ)
  else
    if a2 = 0 then
      some ((0 : Int32), 0, μ)
    else
      if a2 = 0 then none else
      some ((a1 / a2), 0, μ)
noncomputable def aX4_reckon (l : List Value) (μ : qM) : Option qR := match l with
  | [.int x0, .int x1, .int x2] => fX4_reckon x0 x1 x2 μ
  | _ => none
noncomputable def cfX4_reckon : qF := fun n l μ => none
theorem hcX4_reckon {base : Nat} {D : va_G} {ca : Nat → ClassId} {cv : Nat → Value} (hcv : ∀ j, (cv j).category = 1) : ∀ M as μ r, cfX4_reckon M as μ = some r → qGood false base D ca cv 0 M as μ r := by
  intro M as μ r h
  cases h
theorem npX4_reckon : (parseMethodDescriptor (qmy 49).desc).map (fun d => d.parameters.length) = some 3 := by decide +kernel
theorem gdX4_reckon {base : Nat} {D : va_G} {ca : Nat → ClassId} {cv : Nat → Value} (hcv : ∀ j, (cv j).category = 1) {a0 : Int32} {a1 : Int32} {a2 : Int32} {μ : qM} {r : qR} (h : fX4_reckon a0 a1 a2 μ = some r) : qGood false base D ca cv 1 49 [.int a0, .int a1, .int a2] μ r := by
  exact qgood_of (by decide) (by omega) hcv (Or.inl rfl) npX4_reckon rfl (by decide) rfl (qblk_ev2 (cf := cfX4_reckon) (st := (fun n => qin [] n)) (K := (fun pc L S μ => none)) (cd := qcX4_reckon) (M := 49) (d0 := 0) rfl qcok_X4_reckon (Nat.le_refl _) (hcX4_reckon hcv) (by
    intro pc L S μ r h
    cases h) 400 (pc := 0) (L := qent [.int a0, .int a1, .int a2] 3) (S := []) h)
theorem gaX4_reckon {base : Nat} {D : va_G} {ca : Nat → ClassId} {cv : Nat → Value} (hcv : ∀ j, (cv j).category = 1) {l : List Value} {μ : qM} {r : qR} (h : aX4_reckon l μ = some r) : qGood false base D ca cv 1 49 l μ r := by
  unfold aX4_reckon at h
  split at h
  · exact gdX4_reckon hcv h
  · cases h
end
