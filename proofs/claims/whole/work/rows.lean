section
-- ===== PART A: goes FIRST, ahead of the names: the tables' words, and 'selects' of the private methods out of them =====
/-- a private method of a class that the tables say can be made, by its rows of tables_1 -/
def lw_okq (q : MethodName × Nat) : Prop := (q.1.cls ≠ "java/lang/invoke/MethodHandle" ∧ q.1.cls ≠ "java/lang/invoke/VarHandle") ∧ Cond.instantiable q.1.cls q.2 ∈ tables_1 ∧ Cond.privateMethod q.1 ∈ tables_1 ∧ Cond.instanceMethod q.1 ∈ tables_1
theorem lw_p0 : lw_okq (⟨"Couplet", "endNumbered", "(I)LCouplet$End;"⟩, 6) := ⟨⟨by decide +kernel, by decide +kernel⟩, List.mem_of_getElem? (i := 37) (by decide +kernel), List.mem_of_getElem? (i := 198) (by decide +kernel), List.mem_of_getElem? (i := 199) (by decide +kernel)⟩
theorem lw_p1 : lw_okq (⟨"java/lang/Throwable", "fillInStackTrace", "(I)Ljava/lang/Throwable;"⟩, 6) := ⟨⟨by decide +kernel, by decide +kernel⟩, List.mem_of_getElem? (i := 243) (by decide +kernel), List.mem_of_getElem? (i := 241) (by decide +kernel), List.mem_of_getElem? (i := 242) (by decide +kernel)⟩
theorem lw_p2 : lw_okq (⟨"java/util/ArrayList", "fastRemove", "([Ljava/lang/Object;I)V"⟩, 3) := ⟨⟨by decide +kernel, by decide +kernel⟩, List.mem_of_getElem? (i := 57) (by decide +kernel), List.mem_of_getElem? (i := 299) (by decide +kernel), List.mem_of_getElem? (i := 300) (by decide +kernel)⟩
theorem lw_p3 : lw_okq (⟨"Couplet$Operation", "transform", "(CII)V"⟩, 4) := ⟨⟨by decide +kernel, by decide +kernel⟩, List.mem_of_getElem? (i := 332) (by decide +kernel), List.mem_of_getElem? (i := 362) (by decide +kernel), List.mem_of_getElem? (i := 363) (by decide +kernel)⟩
theorem lw_p4 : lw_okq (⟨"Couplet$Operation", "transformByInsertion", "(II)V"⟩, 4) := ⟨⟨by decide +kernel, by decide +kernel⟩, List.mem_of_getElem? (i := 332) (by decide +kernel), List.mem_of_getElem? (i := 366) (by decide +kernel), List.mem_of_getElem? (i := 367) (by decide +kernel)⟩
theorem lw_p5 : lw_okq (⟨"Couplet$Operation", "transformByDeletion", "(I)V"⟩, 4) := ⟨⟨by decide +kernel, by decide +kernel⟩, List.mem_of_getElem? (i := 332) (by decide +kernel), List.mem_of_getElem? (i := 370) (by decide +kernel), List.mem_of_getElem? (i := 371) (by decide +kernel)⟩
theorem lw_p6 : lw_okq (⟨"java/util/ArrayList", "rangeCheckForAdd", "(I)V"⟩, 3) := ⟨⟨by decide +kernel, by decide +kernel⟩, List.mem_of_getElem? (i := 57) (by decide +kernel), List.mem_of_getElem? (i := 393) (by decide +kernel), List.mem_of_getElem? (i := 394) (by decide +kernel)⟩
theorem lw_p7 : lw_okq (⟨"java/util/ArrayList", "outOfBoundsMsg", "(I)Ljava/lang/String;"⟩, 3) := ⟨⟨by decide +kernel, by decide +kernel⟩, List.mem_of_getElem? (i := 57) (by decide +kernel), List.mem_of_getElem? (i := 398) (by decide +kernel), List.mem_of_getElem? (i := 399) (by decide +kernel)⟩
theorem lw_p8 : lw_okq (⟨"java/util/ArrayList", "grow", "()[Ljava/lang/Object;"⟩, 3) := ⟨⟨by decide +kernel, by decide +kernel⟩, List.mem_of_getElem? (i := 57) (by decide +kernel), List.mem_of_getElem? (i := 660) (by decide +kernel), List.mem_of_getElem? (i := 661) (by decide +kernel)⟩
theorem lw_p9 : lw_okq (⟨"java/util/ArrayList", "grow", "(I)[Ljava/lang/Object;"⟩, 3) := ⟨⟨by decide +kernel, by decide +kernel⟩, List.mem_of_getElem? (i := 57) (by decide +kernel), List.mem_of_getElem? (i := 664) (by decide +kernel), List.mem_of_getElem? (i := 665) (by decide +kernel)⟩
theorem lw_p10 : lw_okq (⟨"java/util/ArrayList", "add", "(Ljava/lang/Object;[Ljava/lang/Object;I)V"⟩, 3) := ⟨⟨by decide +kernel, by decide +kernel⟩, List.mem_of_getElem? (i := 57) (by decide +kernel), List.mem_of_getElem? (i := 712) (by decide +kernel), List.mem_of_getElem? (i := 713) (by decide +kernel)⟩
theorem lw_p11 : lw_okq (⟨"Couplet$End", "sendRun", "()V"⟩, 10) := ⟨⟨by decide +kernel, by decide +kernel⟩, List.mem_of_getElem? (i := 45) (by decide +kernel), List.mem_of_getElem? (i := 727) (by decide +kernel), List.mem_of_getElem? (i := 728) (by decide +kernel)⟩
theorem lw_p12 : lw_okq (⟨"Couplet$End", "firstRunSize", "()I"⟩, 10) := ⟨⟨by decide +kernel, by decide +kernel⟩, List.mem_of_getElem? (i := 45) (by decide +kernel), List.mem_of_getElem? (i := 735) (by decide +kernel), List.mem_of_getElem? (i := 736) (by decide +kernel)⟩
theorem lw_p13 : lw_okq (⟨"Couplet$End", "beginsRun", "(I)Z"⟩, 10) := ⟨⟨by decide +kernel, by decide +kernel⟩, List.mem_of_getElem? (i := 45) (by decide +kernel), List.mem_of_getElem? (i := 740) (by decide +kernel), List.mem_of_getElem? (i := 741) (by decide +kernel)⟩
theorem lw_p14 : lw_okq (⟨"Couplet$End", "sendMessage", "()V"⟩, 10) := ⟨⟨by decide +kernel, by decide +kernel⟩, List.mem_of_getElem? (i := 45) (by decide +kernel), List.mem_of_getElem? (i := 753) (by decide +kernel), List.mem_of_getElem? (i := 754) (by decide +kernel)⟩
theorem lw_p15 : lw_okq (⟨"Couplet$End", "follow", "(LCouplet$Operation;)V"⟩, 10) := ⟨⟨by decide +kernel, by decide +kernel⟩, List.mem_of_getElem? (i := 45) (by decide +kernel), List.mem_of_getElem? (i := 782) (by decide +kernel), List.mem_of_getElem? (i := 783) (by decide +kernel)⟩
def lw_privs_1 : List (MethodName × Nat) := [(⟨"Couplet", "endNumbered", "(I)LCouplet$End;"⟩, 6), (⟨"java/lang/Throwable", "fillInStackTrace", "(I)Ljava/lang/Throwable;"⟩, 6), (⟨"java/util/ArrayList", "fastRemove", "([Ljava/lang/Object;I)V"⟩, 3), (⟨"Couplet$Operation", "transform", "(CII)V"⟩, 4), (⟨"Couplet$Operation", "transformByInsertion", "(II)V"⟩, 4), (⟨"Couplet$Operation", "transformByDeletion", "(I)V"⟩, 4), (⟨"java/util/ArrayList", "rangeCheckForAdd", "(I)V"⟩, 3), (⟨"java/util/ArrayList", "outOfBoundsMsg", "(I)Ljava/lang/String;"⟩, 3), (⟨"java/util/ArrayList", "grow", "()[Ljava/lang/Object;"⟩, 3), (⟨"java/util/ArrayList", "grow", "(I)[Ljava/lang/Object;"⟩, 3), (⟨"java/util/ArrayList", "add", "(Ljava/lang/Object;[Ljava/lang/Object;I)V"⟩, 3), (⟨"Couplet$End", "sendRun", "()V"⟩, 10), (⟨"Couplet$End", "firstRunSize", "()I"⟩, 10), (⟨"Couplet$End", "beginsRun", "(I)Z"⟩, 10), (⟨"Couplet$End", "sendMessage", "()V"⟩, 10), (⟨"Couplet$End", "follow", "(LCouplet$Operation;)V"⟩, 10)]
theorem lw_r1 : ∀ q ∈ lw_privs_1, lw_okq q := List.forall_mem_cons.mpr ⟨lw_p0, List.forall_mem_cons.mpr ⟨lw_p1, List.forall_mem_cons.mpr ⟨lw_p2, List.forall_mem_cons.mpr ⟨lw_p3, List.forall_mem_cons.mpr ⟨lw_p4, List.forall_mem_cons.mpr ⟨lw_p5, List.forall_mem_cons.mpr ⟨lw_p6, List.forall_mem_cons.mpr ⟨lw_p7, List.forall_mem_cons.mpr ⟨lw_p8, List.forall_mem_cons.mpr ⟨lw_p9, List.forall_mem_cons.mpr ⟨lw_p10, List.forall_mem_cons.mpr ⟨lw_p11, List.forall_mem_cons.mpr ⟨lw_p12, List.forall_mem_cons.mpr ⟨lw_p13, List.forall_mem_cons.mpr ⟨lw_p14, List.forall_mem_cons.mpr ⟨lw_p15, fun _ h => absurd h List.not_mem_nil⟩⟩⟩⟩⟩⟩⟩⟩⟩⟩⟩⟩⟩⟩⟩⟩
theorem lw_p16 : lw_okq (⟨"Couplet$End", "carryOut", "(LCouplet$Operation;)V"⟩, 10) := ⟨⟨by decide +kernel, by decide +kernel⟩, List.mem_of_getElem? (i := 45) (by decide +kernel), List.mem_of_getElem? (i := 787) (by decide +kernel), List.mem_of_getElem? (i := 788) (by decide +kernel)⟩
theorem lw_p17 : lw_okq (⟨"Couplet$End", "dropNothings", "()V"⟩, 10) := ⟨⟨by decide +kernel, by decide +kernel⟩, List.mem_of_getElem? (i := 45) (by decide +kernel), List.mem_of_getElem? (i := 801) (by decide +kernel), List.mem_of_getElem? (i := 802) (by decide +kernel)⟩
theorem lw_p18 : lw_okq (⟨"Couplet$Changes", "fillRow", "(LCouplet$Text;ILCouplet$Text;I)V"⟩, 2) := ⟨⟨by decide +kernel, by decide +kernel⟩, List.mem_of_getElem? (i := 152) (by decide +kernel), List.mem_of_getElem? (i := 840) (by decide +kernel), List.mem_of_getElem? (i := 841) (by decide +kernel)⟩
theorem lw_p19 : lw_okq (⟨"Couplet$Changes", "reachesEnd", "(LCouplet$Text;LCouplet$Text;I)Z"⟩, 2) := ⟨⟨by decide +kernel, by decide +kernel⟩, List.mem_of_getElem? (i := 152) (by decide +kernel), List.mem_of_getElem? (i := 853) (by decide +kernel), List.mem_of_getElem? (i := 854) (by decide +kernel)⟩
theorem lw_p20 : lw_okq (⟨"Couplet$Changes", "firstOn", "(II)I"⟩, 2) := ⟨⟨by decide +kernel, by decide +kernel⟩, List.mem_of_getElem? (i := 152) (by decide +kernel), List.mem_of_getElem? (i := 857) (by decide +kernel), List.mem_of_getElem? (i := 858) (by decide +kernel)⟩
theorem lw_p21 : lw_okq (⟨"Couplet$Changes", "follow", "(LCouplet$Text;LCouplet$Text;II)I"⟩, 2) := ⟨⟨by decide +kernel, by decide +kernel⟩, List.mem_of_getElem? (i := 152) (by decide +kernel), List.mem_of_getElem? (i := 861) (by decide +kernel), List.mem_of_getElem? (i := 862) (by decide +kernel)⟩
theorem lw_p22 : lw_okq (⟨"Couplet", "requireRoom", "(LCouplet$End;)V"⟩, 6) := ⟨⟨by decide +kernel, by decide +kernel⟩, List.mem_of_getElem? (i := 37) (by decide +kernel), List.mem_of_getElem? (i := 898) (by decide +kernel), List.mem_of_getElem? (i := 899) (by decide +kernel)⟩
theorem lw_p23 : lw_okq (⟨"Couplet", "requireOperationLeft", "()V"⟩, 6) := ⟨⟨by decide +kernel, by decide +kernel⟩, List.mem_of_getElem? (i := 37) (by decide +kernel), List.mem_of_getElem? (i := 918) (by decide +kernel), List.mem_of_getElem? (i := 919) (by decide +kernel)⟩
theorem lw_p24 : lw_okq (⟨"Couplet", "writeKept", "(LCouplet$End;IC)V"⟩, 6) := ⟨⟨by decide +kernel, by decide +kernel⟩, List.mem_of_getElem? (i := 37) (by decide +kernel), List.mem_of_getElem? (i := 923) (by decide +kernel), List.mem_of_getElem? (i := 924) (by decide +kernel)⟩
theorem lw_p25 : lw_okq (⟨"Couplet", "removeKept", "(LCouplet$End;I)C"⟩, 6) := ⟨⟨by decide +kernel, by decide +kernel⟩, List.mem_of_getElem? (i := 37) (by decide +kernel), List.mem_of_getElem? (i := 979) (by decide +kernel), List.mem_of_getElem? (i := 980) (by decide +kernel)⟩
theorem lw_p26 : lw_okq (⟨"Couplet", "takeBack", "(LCouplet$End;ILCouplet$Letter;)Z"⟩, 6) := ⟨⟨by decide +kernel, by decide +kernel⟩, List.mem_of_getElem? (i := 37) (by decide +kernel), List.mem_of_getElem? (i := 1015) (by decide +kernel), List.mem_of_getElem? (i := 1016) (by decide +kernel)⟩
theorem lw_p27 : lw_okq (⟨"Couplet", "putBack", "(LCouplet$End;ILCouplet$Kept;)Z"⟩, 6) := ⟨⟨by decide +kernel, by decide +kernel⟩, List.mem_of_getElem? (i := 37) (by decide +kernel), List.mem_of_getElem? (i := 1023) (by decide +kernel), List.mem_of_getElem? (i := 1024) (by decide +kernel)⟩
theorem lw_p28 : lw_okq (⟨"Couplet", "rebuild", "(LCouplet$End;)V"⟩, 6) := ⟨⟨by decide +kernel, by decide +kernel⟩, List.mem_of_getElem? (i := 37) (by decide +kernel), List.mem_of_getElem? (i := 1066) (by decide +kernel), List.mem_of_getElem? (i := 1067) (by decide +kernel)⟩
theorem lw_p29 : lw_okq (⟨"Couplet", "messageOf", "(I)LCouplet$Message;"⟩, 6) := ⟨⟨by decide +kernel, by decide +kernel⟩, List.mem_of_getElem? (i := 37) (by decide +kernel), List.mem_of_getElem? (i := 1160) (by decide +kernel), List.mem_of_getElem? (i := 1161) (by decide +kernel)⟩
theorem lw_p30 : lw_okq (⟨"Couplet", "operationOf", "(II)LCouplet$Operation;"⟩, 6) := ⟨⟨by decide +kernel, by decide +kernel⟩, List.mem_of_getElem? (i := 37) (by decide +kernel), List.mem_of_getElem? (i := 1179) (by decide +kernel), List.mem_of_getElem? (i := 1180) (by decide +kernel)⟩
theorem lw_p31 : lw_okq (⟨"CoupletModel", "fails", "(I)I"⟩, 31) := ⟨⟨by decide +kernel, by decide +kernel⟩, List.mem_of_getElem? (i := 1244) (by decide +kernel), List.mem_of_getElem? (i := 1359) (by decide +kernel), List.mem_of_getElem? (i := 1360) (by decide +kernel)⟩
def lw_privs_2 : List (MethodName × Nat) := [(⟨"Couplet$End", "carryOut", "(LCouplet$Operation;)V"⟩, 10), (⟨"Couplet$End", "dropNothings", "()V"⟩, 10), (⟨"Couplet$Changes", "fillRow", "(LCouplet$Text;ILCouplet$Text;I)V"⟩, 2), (⟨"Couplet$Changes", "reachesEnd", "(LCouplet$Text;LCouplet$Text;I)Z"⟩, 2), (⟨"Couplet$Changes", "firstOn", "(II)I"⟩, 2), (⟨"Couplet$Changes", "follow", "(LCouplet$Text;LCouplet$Text;II)I"⟩, 2), (⟨"Couplet", "requireRoom", "(LCouplet$End;)V"⟩, 6), (⟨"Couplet", "requireOperationLeft", "()V"⟩, 6), (⟨"Couplet", "writeKept", "(LCouplet$End;IC)V"⟩, 6), (⟨"Couplet", "removeKept", "(LCouplet$End;I)C"⟩, 6), (⟨"Couplet", "takeBack", "(LCouplet$End;ILCouplet$Letter;)Z"⟩, 6), (⟨"Couplet", "putBack", "(LCouplet$End;ILCouplet$Kept;)Z"⟩, 6), (⟨"Couplet", "rebuild", "(LCouplet$End;)V"⟩, 6), (⟨"Couplet", "messageOf", "(I)LCouplet$Message;"⟩, 6), (⟨"Couplet", "operationOf", "(II)LCouplet$Operation;"⟩, 6), (⟨"CoupletModel", "fails", "(I)I"⟩, 31)]
theorem lw_r2 : ∀ q ∈ lw_privs_2, lw_okq q := List.forall_mem_cons.mpr ⟨lw_p16, List.forall_mem_cons.mpr ⟨lw_p17, List.forall_mem_cons.mpr ⟨lw_p18, List.forall_mem_cons.mpr ⟨lw_p19, List.forall_mem_cons.mpr ⟨lw_p20, List.forall_mem_cons.mpr ⟨lw_p21, List.forall_mem_cons.mpr ⟨lw_p22, List.forall_mem_cons.mpr ⟨lw_p23, List.forall_mem_cons.mpr ⟨lw_p24, List.forall_mem_cons.mpr ⟨lw_p25, List.forall_mem_cons.mpr ⟨lw_p26, List.forall_mem_cons.mpr ⟨lw_p27, List.forall_mem_cons.mpr ⟨lw_p28, List.forall_mem_cons.mpr ⟨lw_p29, List.forall_mem_cons.mpr ⟨lw_p30, List.forall_mem_cons.mpr ⟨lw_p31, fun _ h => absurd h List.not_mem_nil⟩⟩⟩⟩⟩⟩⟩⟩⟩⟩⟩⟩⟩⟩⟩⟩
theorem lw_p32 : lw_okq (⟨"CoupletModel", "isFull", "(I)Z"⟩, 31) := ⟨⟨by decide +kernel, by decide +kernel⟩, List.mem_of_getElem? (i := 1244) (by decide +kernel), List.mem_of_getElem? (i := 1366) (by decide +kernel), List.mem_of_getElem? (i := 1367) (by decide +kernel)⟩
theorem lw_p33 : lw_okq (⟨"CoupletModel", "makes", "(IIIIZ)V"⟩, 31) := ⟨⟨by decide +kernel, by decide +kernel⟩, List.mem_of_getElem? (i := 1244) (by decide +kernel), List.mem_of_getElem? (i := 1370) (by decide +kernel), List.mem_of_getElem? (i := 1371) (by decide +kernel)⟩
theorem lw_p34 : lw_okq (⟨"CoupletModel", "carriesOut", "(II)V"⟩, 31) := ⟨⟨by decide +kernel, by decide +kernel⟩, List.mem_of_getElem? (i := 1244) (by decide +kernel), List.mem_of_getElem? (i := 1377) (by decide +kernel), List.mem_of_getElem? (i := 1378) (by decide +kernel)⟩
theorem lw_p35 : lw_okq (⟨"CoupletModel", "shifts", "(II)V"⟩, 31) := ⟨⟨by decide +kernel, by decide +kernel⟩, List.mem_of_getElem? (i := 1244) (by decide +kernel), List.mem_of_getElem? (i := 1381) (by decide +kernel), List.mem_of_getElem? (i := 1382) (by decide +kernel)⟩
theorem lw_p36 : lw_okq (⟨"CoupletModel", "behind", "(I)I"⟩, 31) := ⟨⟨by decide +kernel, by decide +kernel⟩, List.mem_of_getElem? (i := 1244) (by decide +kernel), List.mem_of_getElem? (i := 1385) (by decide +kernel), List.mem_of_getElem? (i := 1386) (by decide +kernel)⟩
theorem lw_p37 : lw_okq (⟨"CoupletModel", "follows", "(II)I"⟩, 31) := ⟨⟨by decide +kernel, by decide +kernel⟩, List.mem_of_getElem? (i := 1244) (by decide +kernel), List.mem_of_getElem? (i := 1389) (by decide +kernel), List.mem_of_getElem? (i := 1390) (by decide +kernel)⟩
theorem lw_p38 : lw_okq (⟨"CoupletModel", "movesKept", "(II)V"⟩, 31) := ⟨⟨by decide +kernel, by decide +kernel⟩, List.mem_of_getElem? (i := 1244) (by decide +kernel), List.mem_of_getElem? (i := 1393) (by decide +kernel), List.mem_of_getElem? (i := 1394) (by decide +kernel)⟩
theorem lw_p39 : lw_okq (⟨"CoupletModel", "sends", "(II)V"⟩, 31) := ⟨⟨by decide +kernel, by decide +kernel⟩, List.mem_of_getElem? (i := 1244) (by decide +kernel), List.mem_of_getElem? (i := 1397) (by decide +kernel), List.mem_of_getElem? (i := 1398) (by decide +kernel)⟩
theorem lw_p40 : lw_okq (⟨"CoupletModel", "copies", "(II)V"⟩, 31) := ⟨⟨by decide +kernel, by decide +kernel⟩, List.mem_of_getElem? (i := 1244) (by decide +kernel), List.mem_of_getElem? (i := 1404) (by decide +kernel), List.mem_of_getElem? (i := 1405) (by decide +kernel)⟩
theorem lw_p41 : lw_okq (⟨"CoupletModel", "codeAt", "(II)I"⟩, 31) := ⟨⟨by decide +kernel, by decide +kernel⟩, List.mem_of_getElem? (i := 1244) (by decide +kernel), List.mem_of_getElem? (i := 1415) (by decide +kernel), List.mem_of_getElem? (i := 1416) (by decide +kernel)⟩
theorem lw_p42 : lw_okq (⟨"CoupletModel", "find", "(II)I"⟩, 31) := ⟨⟨by decide +kernel, by decide +kernel⟩, List.mem_of_getElem? (i := 1244) (by decide +kernel), List.mem_of_getElem? (i := 1435) (by decide +kernel), List.mem_of_getElem? (i := 1436) (by decide +kernel)⟩
theorem lw_p43 : lw_okq (⟨"CoupletModel", "enters", "(I)V"⟩, 31) := ⟨⟨by decide +kernel, by decide +kernel⟩, List.mem_of_getElem? (i := 1244) (by decide +kernel), List.mem_of_getElem? (i := 1443) (by decide +kernel), List.mem_of_getElem? (i := 1444) (by decide +kernel)⟩
theorem lw_p44 : lw_okq (⟨"CoupletModel", "crosses", "(II)V"⟩, 31) := ⟨⟨by decide +kernel, by decide +kernel⟩, List.mem_of_getElem? (i := 1244) (by decide +kernel), List.mem_of_getElem? (i := 1447) (by decide +kernel), List.mem_of_getElem? (i := 1448) (by decide +kernel)⟩
theorem lw_p45 : lw_okq (⟨"CoupletModel", "delivers", "(I)I"⟩, 31) := ⟨⟨by decide +kernel, by decide +kernel⟩, List.mem_of_getElem? (i := 1244) (by decide +kernel), List.mem_of_getElem? (i := 1458) (by decide +kernel), List.mem_of_getElem? (i := 1459) (by decide +kernel)⟩
theorem lw_p46 : lw_okq (⟨"CoupletModel", "run", "(II)I"⟩, 31) := ⟨⟨by decide +kernel, by decide +kernel⟩, List.mem_of_getElem? (i := 1244) (by decide +kernel), List.mem_of_getElem? (i := 1462) (by decide +kernel), List.mem_of_getElem? (i := 1463) (by decide +kernel)⟩
theorem lw_p47 : lw_okq (⟨"CoupletModel", "goesOn", "(II)Z"⟩, 31) := ⟨⟨by decide +kernel, by decide +kernel⟩, List.mem_of_getElem? (i := 1244) (by decide +kernel), List.mem_of_getElem? (i := 1466) (by decide +kernel), List.mem_of_getElem? (i := 1467) (by decide +kernel)⟩
def lw_privs_3 : List (MethodName × Nat) := [(⟨"CoupletModel", "isFull", "(I)Z"⟩, 31), (⟨"CoupletModel", "makes", "(IIIIZ)V"⟩, 31), (⟨"CoupletModel", "carriesOut", "(II)V"⟩, 31), (⟨"CoupletModel", "shifts", "(II)V"⟩, 31), (⟨"CoupletModel", "behind", "(I)I"⟩, 31), (⟨"CoupletModel", "follows", "(II)I"⟩, 31), (⟨"CoupletModel", "movesKept", "(II)V"⟩, 31), (⟨"CoupletModel", "sends", "(II)V"⟩, 31), (⟨"CoupletModel", "copies", "(II)V"⟩, 31), (⟨"CoupletModel", "codeAt", "(II)I"⟩, 31), (⟨"CoupletModel", "find", "(II)I"⟩, 31), (⟨"CoupletModel", "enters", "(I)V"⟩, 31), (⟨"CoupletModel", "crosses", "(II)V"⟩, 31), (⟨"CoupletModel", "delivers", "(I)I"⟩, 31), (⟨"CoupletModel", "run", "(II)I"⟩, 31), (⟨"CoupletModel", "goesOn", "(II)Z"⟩, 31)]
theorem lw_r3 : ∀ q ∈ lw_privs_3, lw_okq q := List.forall_mem_cons.mpr ⟨lw_p32, List.forall_mem_cons.mpr ⟨lw_p33, List.forall_mem_cons.mpr ⟨lw_p34, List.forall_mem_cons.mpr ⟨lw_p35, List.forall_mem_cons.mpr ⟨lw_p36, List.forall_mem_cons.mpr ⟨lw_p37, List.forall_mem_cons.mpr ⟨lw_p38, List.forall_mem_cons.mpr ⟨lw_p39, List.forall_mem_cons.mpr ⟨lw_p40, List.forall_mem_cons.mpr ⟨lw_p41, List.forall_mem_cons.mpr ⟨lw_p42, List.forall_mem_cons.mpr ⟨lw_p43, List.forall_mem_cons.mpr ⟨lw_p44, List.forall_mem_cons.mpr ⟨lw_p45, List.forall_mem_cons.mpr ⟨lw_p46, List.forall_mem_cons.mpr ⟨lw_p47, fun _ h => absurd h List.not_mem_nil⟩⟩⟩⟩⟩⟩⟩⟩⟩⟩⟩⟩⟩⟩⟩⟩
theorem lw_p48 : lw_okq (⟨"CoupletModel", "gets", "(II)V"⟩, 31) := ⟨⟨by decide +kernel, by decide +kernel⟩, List.mem_of_getElem? (i := 1244) (by decide +kernel), List.mem_of_getElem? (i := 1470) (by decide +kernel), List.mem_of_getElem? (i := 1471) (by decide +kernel)⟩
theorem lw_p49 : lw_okq (⟨"CoupletModel", "forgetsNothings", "(I)V"⟩, 31) := ⟨⟨by decide +kernel, by decide +kernel⟩, List.mem_of_getElem? (i := 1244) (by decide +kernel), List.mem_of_getElem? (i := 1474) (by decide +kernel), List.mem_of_getElem? (i := 1475) (by decide +kernel)⟩
theorem lw_p50 : lw_okq (⟨"CoupletModel", "deliversOne", "()Z"⟩, 31) := ⟨⟨by decide +kernel, by decide +kernel⟩, List.mem_of_getElem? (i := 1244) (by decide +kernel), List.mem_of_getElem? (i := 1482) (by decide +kernel), List.mem_of_getElem? (i := 1483) (by decide +kernel)⟩
theorem lw_p51 : lw_okq (⟨"CoupletModel", "notAt", "(II)I"⟩, 31) := ⟨⟨by decide +kernel, by decide +kernel⟩, List.mem_of_getElem? (i := 1244) (by decide +kernel), List.mem_of_getElem? (i := 1494) (by decide +kernel), List.mem_of_getElem? (i := 1495) (by decide +kernel)⟩
theorem lw_p52 : lw_okq (⟨"CoupletModel", "isMessage", "(I)Z"⟩, 31) := ⟨⟨by decide +kernel, by decide +kernel⟩, List.mem_of_getElem? (i := 1244) (by decide +kernel), List.mem_of_getElem? (i := 1564) (by decide +kernel), List.mem_of_getElem? (i := 1565) (by decide +kernel)⟩
theorem lw_p53 : lw_okq (⟨"CoupletModel", "notOf", "(II)I"⟩, 31) := ⟨⟨by decide +kernel, by decide +kernel⟩, List.mem_of_getElem? (i := 1244) (by decide +kernel), List.mem_of_getElem? (i := 1576) (by decide +kernel), List.mem_of_getElem? (i := 1577) (by decide +kernel)⟩
theorem lw_p54 : lw_okq (⟨"CoupletModel", "areSame", "(II)Z"⟩, 31) := ⟨⟨by decide +kernel, by decide +kernel⟩, List.mem_of_getElem? (i := 1244) (by decide +kernel), List.mem_of_getElem? (i := 1588) (by decide +kernel), List.mem_of_getElem? (i := 1589) (by decide +kernel)⟩
def lw_privs_4 : List (MethodName × Nat) := [(⟨"CoupletModel", "gets", "(II)V"⟩, 31), (⟨"CoupletModel", "forgetsNothings", "(I)V"⟩, 31), (⟨"CoupletModel", "deliversOne", "()Z"⟩, 31), (⟨"CoupletModel", "notAt", "(II)I"⟩, 31), (⟨"CoupletModel", "isMessage", "(I)Z"⟩, 31), (⟨"CoupletModel", "notOf", "(II)I"⟩, 31), (⟨"CoupletModel", "areSame", "(II)Z"⟩, 31)]
theorem lw_r4 : ∀ q ∈ lw_privs_4, lw_okq q := List.forall_mem_cons.mpr ⟨lw_p48, List.forall_mem_cons.mpr ⟨lw_p49, List.forall_mem_cons.mpr ⟨lw_p50, List.forall_mem_cons.mpr ⟨lw_p51, List.forall_mem_cons.mpr ⟨lw_p52, List.forall_mem_cons.mpr ⟨lw_p53, List.forall_mem_cons.mpr ⟨lw_p54, fun _ h => absurd h List.not_mem_nil⟩⟩⟩⟩⟩⟩⟩
def lw_privs : List (MethodName × Nat) := lw_privs_1 ++ (lw_privs_2 ++ (lw_privs_3 ++ (lw_privs_4)))
def lw_tbl : List Cond := k2_sels lw_privs ++ tables_1
theorem lw_privs_ok : ∀ q ∈ lw_privs, lw_okq q := by
  show ∀ q ∈ lw_privs_1 ++ (lw_privs_2 ++ (lw_privs_3 ++ (lw_privs_4))), lw_okq q
  exact List.forall_mem_append.mpr ⟨lw_r1, List.forall_mem_append.mpr ⟨lw_r2, List.forall_mem_append.mpr ⟨lw_r3, lw_r4⟩⟩⟩
/-- the streams that the claim lets the run draw from -/
abbrev lw_cs : List Choice := [Jvm.Choice.named "NaN.bits"]
theorem lw_bits : nanBits ∈ lw_cs := by first | decide | exact List.mem_cons_self | simp [lw_cs, nanBits]
-- ===== end of PART A; then your names; then what follows =====
/-! ===== BEGIN words of one list among another's, by their places ===== -/
theorem goodIn_r {big : List Cond} (ws : List Cond) (ps : List Nat) (hp : ws = ps.filterMap (fun i => big[i]?)) (h : ws.all goodWord = true) : GoodIn big ws := by
  intro w hw
  have h1 := List.all_eq_true.mp h w hw
  rw [hp] at hw
  obtain ⟨i, -, hi⟩ := List.mem_filterMap.mp hw
  have hm : w ∈ big := by first | exact List.mem_of_getElem? hi | exact List.getElem?_mem hi
  exact ⟨hm, good_of_word h1⟩
theorem goodIn_app {big a b : List Cond} (ha : GoodIn big a) (hb : GoodIn big b) : GoodIn big (a ++ b) := fun w h => (List.mem_append.mp h).elim (ha w) (hb w)
theorem goodIn_ca {big a b : List Cond} {c : Cond} (ha : GoodIn big (c :: a)) (hb : GoodIn big b) : GoodIn big (c :: (a ++ b)) := fun w h => (List.mem_cons.mp h).elim (fun e => ha w (List.mem_cons.mpr (Or.inl e))) (fun h => (List.mem_append.mp h).elim (fun h => ha w (List.mem_cons.mpr (Or.inr h))) (hb w))
theorem goodIn_sub {big ws : List Cond} (hm : ∀ w ∈ ws, w ∈ big) (h : ws.all goodWord = true) : GoodIn big ws := fun w hw => ⟨hm w hw, good_of_word (List.all_eq_true.mp h w hw)⟩
/-! ===== END ===== -/

/-! ===== BEGIN exceptions that leave a method, and their catching by the caller (launches without stack traces) ===== -/
section VXA
/-! The laws vx_back, vx_callV, vx_callS, vx_callSW, vx_throw0, vx_throwS follow proofs of the library, with one case more: JvmDerived/Free/Laws.lean (Back.of_free), Shelf42/LK1.lean (callV, callS), Shelf/KitTraced.lean (throwNew0V, throwNewS). -/
/-- where a method has thrown q: the class by its name, the cell, what was written, the world -/
def vx_T (XC : String → State → State → Prop) (st : State) (q : Addr) (t : State) (mc ms : Nat) (free : Addr → Prop) : Prop :=
  ∃ (E : String) (ce : Cell) (L : List Loc), XC E st t ∧ t.heap[q]? = some ce ∧ ce.vm = .none ∧ st.vm.findClass E = some ce.cls ∧ st.WarmedH t.vm ∧ st.sameButNew ({ t with vm := st.vm } : State) L mc ms ∧ ∀ z ∈ L, free z.base
def vx_Q (Qc : Array Value → State → Outcome → State → Prop) (XC : String → State → State → Prop) (mc ms : Nat) (free : Addr → Prop) : Array Value → State → Outcome → State → Prop := fun a st o t =>
  (Qc a st o t ∧ ∃ L, FrameEnd st o t L mc ms ∧ ∀ q ∈ L, free q.base) ∨ ∃ q, o = .threw q ∧ vx_T XC st q t mc ms free
/-- a callee that returns or throws -/
def vx_Met (l : Launch) (y : MethodName) (ws : List Cond) (rm : Room) (Pc : Array Value → State → Prop) (Qc : Array Value → State → Outcome → State → Prop) (XC : String → State → State → Prop) (mc ms : Nat) (free : Addr → Prop) : Prop :=
  MetFree l y (headSpec ws rm) Pc (fun _ _ _ _ _ => True) (vx_Q Qc XC mc ms free)
def vx_Post (XC : String → State → State → Prop) (mc ms : Nat) (free : Addr → Prop) : Pt → Array Value → Addr → Pt → Prop := fun A a q B =>
  ∃ (g : JFrame) (mk : MethodId) (t : State) (L : List Loc) (E : String) (ce : Cell), B.U.heap = t.heap ∧ B.U.vm = t.vm ∧ XC E (A.U.calling g mk a) t ∧ t.heap[q]? = some ce ∧ ce.vm = .none ∧ A.U.vm.findClass E = some ce.cls ∧ B.locs = A.locs ++ L ∧ (∀ z ∈ L, free z.base) ∧ B.cells = A.cells + mc ∧ B.slots = A.slots + ms
def vx_Back (l : Launch) (R : Room) (p : Program) (e : Env) (below : List Frame) (s : State) (sargs : Array Value) (y : MethodName) (len W9 : Nat)
    (Pre : Pt → Array Value → Prop) (Post : Pt → Array Value → Option Value → Pt → Prop) (PostX : Pt → Array Value → Addr → Pt → Prop) : Prop :=
  ∀ (m : MethodId) (meth : Method) (c : Code) (A : Pt) (g : JFrame) (ig : Instr) (mk : MethodId) (a : Array Value),
    Stand p l e R s m sargs below meth c A.U A.locs A.cells A.slots → g.method = m → g.locals.size = c.maxLocals → decode c.code g.pc = .ok (ig, len) →
    2 * g.monitorRoom + (g.stack.map fun v => v.category).sum ≤ W9 → A.U.methodNamed? y = some mk → Pre A a →
    (∃ (v : Option Value) (B : Pt), Stand p l e R s m sargs below meth c B.U B.locs B.cells B.slots ∧ Post A a v B ∧
      Steps p.tables e below (doInvoke e (A.U.setTop g) [] mk a).1 (B.U.setTop { g with pc := g.pc + len, stack := v.toList ++ g.stack })) ∨
    (∃ (q : Addr) (B : Pt), Stand p l e R s m sargs below meth c B.U B.locs B.cells B.slots ∧ PostX A a q B ∧
      Steps p.tables e below (doInvoke e (A.U.setTop g) [] mk a).1 ((B.U.setTop g).pushFrame (.throwing q)))
section Payer
variable {l : Launch} {R : Room} {p : Program} {e : Env} {below : List Frame} {s : State} {sargs : Array Value} {y : MethodName} {len W9 : Nat}
theorem vx_back {ws : List Cond} {rm : Room} {Pc : Array Value → State → Prop} {Qc : Array Value → State → Outcome → State → Prop} {XC : String → State → State → Prop} {mc ms : Nat} {free : Addr → Prop} {bytes : ByteArray} {maxL : Nat} {ret : Option FieldType}
    (hM : vx_Met l y ws rm Pc Qc XC mc ms free) (hblind : FrameBlind Pc) (hrc : rm.cells = mc) (hrs : rm.slots = ms)
    (hframes : rm.frames + 1 ≤ R.frames) (hlocals : W9 + (maxL + 11) + rm.locals ≤ R.locals)
    (hws : ∀ w ∈ ws, ∀ a' U, s.WarmedH U.vm → w.before a' U = true) (hcode : Cond.code y bytes maxL ret ∈ ws) (hinit : ∀ a' U, s.WarmedH U.vm → (Cond.initialized y.cls).before a' U = true) :
    vx_Back l R p e below s sargs y len W9 (PreOf R mc ms Pc) (PostOf Qc mc ms free) (vx_Post XC mc ms free) := by
  intro m meth c A g ig mk a X hg hsize hdg hW hn hp
  have h1 : (headSpec ws rm).pre.before a A.U = true := atoms_intro fun w hw => hws w hw _ _ X.warmed
  have h2 : (Cond.code y bytes maxL ret).before a A.U = true := hws _ hcode _ _ X.warmed
  have h3 : (Cond.initialized y.cls).before a A.U = true := hinit _ _ X.warmed
  have h4 : A.cells + (headSpec ws rm).room.cells ≤ R.cells := by rw [show (headSpec ws rm).room.cells = mc from hrc]; exact hp.1
  have h5 : A.slots + (headSpec ws rm).room.slots ≤ R.slots := by rw [show (headSpec ws rm).room.slots = ms from hrs]; exact hp.2.1
  have hPc : Pc a (A.U.calling g mk a) := hblind _ _ _ _ hp.2.2
  obtain ⟨U, Ls, c0, s0⟩ := A
  dsimp only [Pt.U, Pt.locs, Pt.cells, Pt.slots] at h1 h2 h3 h4 h5 X hn hPc ⊢
  obtain ⟨methY, cY, hmY, hcY, -, hlY, -, -, -, -⟩ := Cond.code_spec hn h2
  obtain ⟨kY, hkY, -⟩ := className_of_methodNamed hn
  have hinitY : kY.init = .initialized := Cond.initialized_spec (findClass_of_methodNamed hn) hkY h3
  have h : At U g.method c below := by rw [hg]; exact X.here
  have hlocals9 : W9 + (maxL + 11) + (headSpec ws rm).room.locals ≤ R.locals := hlocals
  have happ : (headSpec ws rm).appliesLoose y e.platform (U.calling g mk a) = true :=
    Spec.appliesLoose_calling (g := g) h hdg hn hkY hinitY
      (X.room_calling (g := g) (R' := (headSpec ws rm).room) hsize hmY hcY hframes (by rw [hlY]; omega) h4 h5) h1
  obtain ⟨mid, hmid⟩ := h.above
  have hfr : (U.setTop g).frames = (.java g :: mid) ++ below := by rw [State.frames_setTop' g h.top, hmid]; rfl
  obtain ⟨o, s₂, hsteps, -, hend, hq⟩ := Steps.callFree hM p X.admits X.cas X.clock (acts := []) hfr happ hPc trivial
  have hq' : vx_Q Qc XC mc ms free a (U.calling g mk a) o s₂ := hq
  rw [State.frames_setTop' g h.top] at hend
  obtain ⟨g₀, hg0⟩ := Option.isSome_iff_exists.mp h.top
  obtain ⟨r, hr⟩ := State.topJava?_eq_some.mp hg0
  have hr' : (({ U with heap := s₂.heap, slotsUsed := s₂.slotsUsed } : State).setVm s₂.vm).frames = .java g₀ :: r := hr
  rcases hq' with ⟨hqc, L, hfe, hL⟩ | ⟨q, rfl, E, ce, L, hx, hce, hcv, hcl, hW₂, hsm, hL⟩
  · obtain ⟨⟨v, rfl⟩, hW₂, e2, q2, q3, q4, q5, q6⟩ := id hfe
    have e3 : s₂ = ({ (U.calling g mk a).setFrames s₂.frames with heap := s₂.heap, slotsUsed := s₂.slotsUsed } : State).setVm s₂.vm := by
      have : s₂ = ({ s₂ with vm := (U.calling g mk a).vm } : State).setVm s₂.vm := rfl
      rw [e2] at this
      exact this
    obtain ⟨c₂, i₂, len₂, hc₂, hd₂, hf₂⟩ := hend
    have hW' : U.WarmedH s₂.vm := hW₂
    have hcc : c₂ = c := by
      have h1 : s₂.code? g.method = U.code? g.method := by
        rw [State.code?_eq, State.code?_eq, hW'.alike.method?]
      exact Option.some.inj (hc₂.symm.trans (h1.trans h.code))
    subst hcc
    have hlen : len₂ = len := by rw [hdg] at hd₂; cases hd₂; rfl
    subst hlen
    have hs₂ : s₂ = (({ U with heap := s₂.heap, slotsUsed := s₂.slotsUsed } : State).setVm s₂.vm).setTop { g with pc := g.pc + len₂, stack := v.toList ++ g.stack } := by
      refine e3.trans ?_
      rw [hf₂, State.calling_eq h.top, State.setFrames_setFrames, State.setTop_of_frames _ hr', hr]
      rfl
    have hsame : U.sameButNew ({ U with heap := s₂.heap, slotsUsed := s₂.slotsUsed } : State) L mc ms := by
      refine ⟨?_, q2, q3, q4, q5, q6⟩
      obtain ⟨t, ht, -⟩ := State.frames_cons hr
      show ({ U with heap := s₂.heap, slotsUsed := s₂.slotsUsed } : State) = { U.setFrames U.frames with heap := s₂.heap, slotsUsed := s₂.slotsUsed }
      rw [State.setFrames_self ht]
    subst hg
    refine Or.inl ⟨v, ⟨(({ U with heap := s₂.heap, slotsUsed := s₂.slotsUsed } : State).setVm s₂.vm), Ls ++ L, c0 + mc, s0 + ms⟩,
      ⟨X.admits, X.cas, X.clock, X.frames, X.room, X.hears, X.method, X.code, (X.here.setHeapUsed s₂.heap s₂.slotsUsed).setVm hW'.alike, X.tail, State.WarmedH.trans X.warmed hW', X.limits, X.bytes, X.same.trans (hsame.setVm s.vm)⟩,
      ⟨g, mk, s₂, L, rfl, rfl, hqc, rfl, hL, rfl, rfl⟩, ?_⟩
    show Steps p.tables e below _ ((({ U with heap := s₂.heap, slotsUsed := s₂.slotsUsed } : State).setVm s₂.vm).setTop { g with pc := g.pc + len₂, stack := v.toList ++ g.stack })
    rw [← hs₂]
    exact hsteps
  · obtain ⟨e2, q2, q3, q4, q5, q6⟩ := id hsm
    have e3 : s₂ = ({ (U.calling g mk a).setFrames s₂.frames with heap := s₂.heap, slotsUsed := s₂.slotsUsed } : State).setVm s₂.vm := by
      have : s₂ = ({ s₂ with vm := (U.calling g mk a).vm } : State).setVm s₂.vm := rfl
      rw [e2] at this
      exact this
    have hf₂ : s₂.frames = .throwing q :: .java g :: U.frames.tail := hend
    have hW' : U.WarmedH s₂.vm := hW₂
    have hs₂ : s₂ = ((({ U with heap := s₂.heap, slotsUsed := s₂.slotsUsed } : State).setVm s₂.vm).setTop g).pushFrame (.throwing q) := by
      refine e3.trans ?_
      rw [hf₂, State.calling_eq h.top, State.setFrames_setFrames, State.pushFrame, State.frames_setTop _ hr', State.setTop_of_frames _ hr', State.setFrames_setFrames, hr]
      rfl
    have hsame : U.sameButNew ({ U with heap := s₂.heap, slotsUsed := s₂.slotsUsed } : State) L mc ms := by
      refine ⟨?_, q2, q3, q4, q5, q6⟩
      obtain ⟨t, ht, -⟩ := State.frames_cons hr
      show ({ U with heap := s₂.heap, slotsUsed := s₂.slotsUsed } : State) = { U.setFrames U.frames with heap := s₂.heap, slotsUsed := s₂.slotsUsed }
      rw [State.setFrames_self ht]
    subst hg
    refine Or.inr ⟨q, ⟨(({ U with heap := s₂.heap, slotsUsed := s₂.slotsUsed } : State).setVm s₂.vm), Ls ++ L, c0 + mc, s0 + ms⟩,
      ⟨X.admits, X.cas, X.clock, X.frames, X.room, X.hears, X.method, X.code, (X.here.setHeapUsed s₂.heap s₂.slotsUsed).setVm hW'.alike, X.tail, State.WarmedH.trans X.warmed hW', X.limits, X.bytes, X.same.trans (hsame.setVm s.vm)⟩,
      ⟨g, mk, s₂, L, E, ce, rfl, rfl, hx, hce, hcv, hcl, rfl, hL, rfl, rfl⟩, ?_⟩
    show Steps p.tables e below _ (((({ U with heap := s₂.heap, slotsUsed := s₂.slotsUsed } : State).setVm s₂.vm).setTop g).pushFrame (.throwing q))
    rw [← hs₂]
    exact hsteps
end Payer
section Calls
variable {p : Program} {l : Launch} {e : Env} {R : Room} {s : State} {m : MethodId} {args : Array Value} {below : List Frame} {meth : Method} {c : Code} {T : State} {locs : List Loc} {cells slots : Nat}
theorem vx_callV (X : Stand p l e R s m args below meth c T locs cells slots) (hexec : p.tables.exec = Jvm.exec) {own C : String} {index : Nat} {y : MethodName} {bytes : ByteArray} {maxL : Nat} {ret : Option FieldType}
    (hown : s.vm.findClass own = some m.cls) (hlink : (Cond.methodLink own index y).before args s = true) (hinst : (Cond.instanceMethod y).before args s = true) (hsel : (Cond.selects C y y).before args s = true)
    (hcode : (Cond.code y bytes maxL ret).before args s = true) (hy : y.cls ≠ "java/lang/invoke/MethodHandle" ∧ y.cls ≠ "java/lang/invoke/VarHandle")
    {W9 : Nat} {Pre : Pt → Array Value → Prop} {Post : Pt → Array Value → Option Value → Pt → Prop} {PostX : Pt → Array Value → Addr → Pt → Prop} (hK : vx_Back l R p e below s args y 3 W9 Pre Post PostX)
    {b : Addr} {cellB : Cell} (hcell : T.heap[b]? = some cellB) (hobj : cellB.vm.isStatics = false) (hcls : s.vm.findClass C = some cellB.cls)
    {g : JFrame} (hg : g.method = m) (hsize : g.locals.size = c.maxLocals) {argsL rest : List Value} (hlen : ∀ sig, parseMethodDescriptor y.desc = some sig → argsL.length = sig.parameters.length)
    (hstack : g.stack = argsL.reverse ++ .ref b :: rest) (hW : 2 * g.monitorRoom + (rest.map fun v => v.category).sum ≤ W9) (hdg : decode c.code g.pc = .ok (.invokevirtual index, 3))
    (hpre : ∀ vm₁, s.WarmedH vm₁ → Pre ⟨T.setVm vm₁, locs, cells, slots⟩ (Value.ref b :: argsL).toArray) :
    (∃ (v : Option Value) (vm₁ : Vm) (B : Pt), s.WarmedH vm₁ ∧ Stand p l e R s m args below meth c B.U B.locs B.cells B.slots ∧ Post ⟨T.setVm vm₁, locs, cells, slots⟩ (Value.ref b :: argsL).toArray v B ∧
      ∀ target, Steps p.tables e below (B.U.setTop { g with pc := g.pc + 3, stack := v.toList ++ rest }) target → Steps p.tables e below (T.setTop g) target) ∨
    (∃ (q : Addr) (vm₁ : Vm) (B : Pt), s.WarmedH vm₁ ∧ Stand p l e R s m args below meth c B.U B.locs B.cells B.slots ∧ PostX ⟨T.setVm vm₁, locs, cells, slots⟩ (Value.ref b :: argsL).toArray q B ∧
      Steps p.tables e below (T.setTop g) ((B.U.setTop { g with stack := rest }).pushFrame (.throwing q))) := by
  obtain ⟨mk, methM, hnamed, hmethM, hstM, habM⟩ := Cond.instanceMethod_spec hinst
  obtain ⟨methM', cM, hmethM', -, -, -, -, -, -, hsigM⟩ := Cond.code_spec hnamed hcode
  cases hmethM.symm.trans hmethM'
  obtain ⟨c2, r2, m2, q1, q2, q3, q4, kP, hkP, hkPi⟩ := Cond.selects_spec hsel
  cases hcls.symm.trans q1
  cases (State.methodFound?_of_named hnamed hy).symm.trans q2
  cases hnamed.symm.trans q3
  have hselP : selectMethod e.platform s.vm cellB.cls mk = .method mk := by rw [Launch.admits_selectMethod X.admits]; exact q4
  obtain ⟨vm₁, X₁, hstep₁⟩ := X.invokevirtual hexec hown hlink hnamed hmethM hstM hkP hkPi hy (a := b) (cell := cellB) hcell
    (fun z h => by rw [h] at hobj; cases hobj) hselP hmethM habM hkP hkPi (g := g) hg (argsL := argsL) (rest := rest) (hlen _ hsigM) hstack hdg
  rcases hK m meth c ⟨T.setVm vm₁, locs, cells, slots⟩ { g with stack := rest } (.invokevirtual index) mk (Value.ref b :: argsL).toArray X₁ hg hsize hdg hW (X₁.named hnamed) (hpre vm₁ X₁.warmed) with ⟨v, B, X', hpost, hsteps⟩ | ⟨q, B, X', hpost, hsteps⟩
  · exact Or.inl ⟨v, vm₁, B, X₁.warmed, X', hpost, fun target h => hstep₁ _ fun acts => by rw [doInvoke_state]; exact hsteps.trans h⟩
  · exact Or.inr ⟨q, vm₁, B, X₁.warmed, X', hpost, hstep₁ _ fun acts => by rw [doInvoke_state]; exact hsteps⟩
theorem vx_callS (X : Stand p l e R s m args below meth c T locs cells slots) (hexec : p.tables.exec = Jvm.exec) {own : String} {index : Nat} {y : MethodName} {bytes : ByteArray} {maxL : Nat} {ret : Option FieldType}
    (hown : s.vm.findClass own = some m.cls) (hlink : (Cond.methodLink own index y).before args s = true) (hstat : (Cond.static y).before args s = true) (hinit : (Cond.initialized y.cls).before args s = true)
    (hcode : (Cond.code y bytes maxL ret).before args s = true) (hy : y.cls ≠ "java/lang/invoke/MethodHandle" ∧ y.cls ≠ "java/lang/invoke/VarHandle")
    {W9 : Nat} {Pre : Pt → Array Value → Prop} {Post : Pt → Array Value → Option Value → Pt → Prop} {PostX : Pt → Array Value → Addr → Pt → Prop} (hK : vx_Back l R p e below s args y 3 W9 Pre Post PostX)
    {g : JFrame} (hg : g.method = m) (hsize : g.locals.size = c.maxLocals) {argsL rest : List Value} (hlen : ∀ sig, parseMethodDescriptor y.desc = some sig → argsL.length = sig.parameters.length)
    (hstack : g.stack = argsL.reverse ++ rest) (hW : 2 * g.monitorRoom + (rest.map fun v => v.category).sum ≤ W9) (hdg : decode c.code g.pc = .ok (.invokestatic index, 3))
    (hpre : ∀ vm₁, s.WarmedH vm₁ → Pre ⟨T.setVm vm₁, locs, cells, slots⟩ argsL.toArray) :
    (∃ (v : Option Value) (vm₁ : Vm) (B : Pt), s.WarmedH vm₁ ∧ Stand p l e R s m args below meth c B.U B.locs B.cells B.slots ∧ Post ⟨T.setVm vm₁, locs, cells, slots⟩ argsL.toArray v B ∧
      ∀ target, Steps p.tables e below (B.U.setTop { g with pc := g.pc + 3, stack := v.toList ++ rest }) target → Steps p.tables e below (T.setTop g) target) ∨
    (∃ (q : Addr) (vm₁ : Vm) (B : Pt), s.WarmedH vm₁ ∧ Stand p l e R s m args below meth c B.U B.locs B.cells B.slots ∧ PostX ⟨T.setVm vm₁, locs, cells, slots⟩ argsL.toArray q B ∧
      Steps p.tables e below (T.setTop g) ((B.U.setTop { g with stack := rest }).pushFrame (.throwing q))) := by
  obtain ⟨mk, hnamed⟩ := Cond.code_named hcode
  obtain ⟨methM, cM, hmethM, -, -, -, -, -, -, hsigM⟩ := Cond.code_spec hnamed hcode
  have hstatic : methM.isStatic = true := Cond.static_spec hnamed hmethM hstat
  obtain ⟨kP, hkP, -⟩ := className_of_methodNamed hnamed
  have hinitP : kP.init = .initialized := Cond.initialized_spec (findClass_of_methodNamed hnamed) hkP hinit
  obtain ⟨vm₁, X₁, hstep₁⟩ := X.invokestatic hexec hown hlink hnamed hmethM hstatic hkP hinitP hy (g := g) hg (argsL := argsL) (rest := rest) (hlen _ hsigM) hstack hdg
  rcases hK m meth c ⟨T.setVm vm₁, locs, cells, slots⟩ { g with stack := rest } (.invokestatic index) mk argsL.toArray X₁ hg hsize hdg hW (X₁.named hnamed) (hpre vm₁ X₁.warmed) with ⟨v, B, X', hpost, hsteps⟩ | ⟨q, B, X', hpost, hsteps⟩
  · exact Or.inl ⟨v, vm₁, B, X₁.warmed, X', hpost, fun target h => hstep₁ _ fun acts => by rw [doInvoke_state]; exact hsteps.trans h⟩
  · exact Or.inr ⟨q, vm₁, B, X₁.warmed, X', hpost, hstep₁ _ fun acts => by rw [doInvoke_state]; exact hsteps⟩
end Calls
theorem vx_cls {s : State} {T : State} {vm₁ : Vm} {E : String} {k : ClassId} (hW : s.WarmedH vm₁) (h : (T.setVm vm₁).vm.findClass E = some k) : s.vm.findClass E = some k := by
  have h1 : vm₁.findClass E = some k := h
  rw [hW.alike.findClass] at h1
  exact h1
/-- the method's frame g, with q thrown over it -/
def vx_W (p : Program) (l : Launch) (e : Env) (R : Room) (s : State) (m : MethodId) (args : Array Value) (below : List Frame) (meth : Method) (c : Code) (H : Heap) (locs : List Loc) (cells slots : Nat) (Q : State → Prop) (g : JFrame) (q : Addr) : Prop :=
  ∀ T : State, T.heap = H → Stand p l e R s m args below meth c T locs cells slots → ∃ t, Steps p.tables e below ((T.setTop g).pushFrame (.throwing q)) t ∧ Q t
def vx_Run (p : Program) (l : Launch) (e : Env) (R : Room) (s : State) (m : MethodId) (args : Array Value) (below : List Frame) (meth : Method) (c : Code) (H : Heap) (locs : List Loc) (cells slots mc ms : Nat) (g : JFrame) (rest : List Value) (Qa : State → Outcome → State → Prop) (XC : String → State → State → Prop) (free : Addr → Prop) : Prop :=
  ∀ T : State, T.heap = H → Stand p l e R s m args below meth c T locs cells slots →
    (∃ (v : Option Value) (st₀ t T' : State) (L : List Loc), st₀.heap = H ∧ Stand p l e R s m args below meth c T' (locs ++ L) (cells + mc) (slots + ms) ∧ (∀ q ∈ L, free q.base) ∧ T'.heap = t.heap ∧ T'.vm = t.vm ∧ Qa st₀ (.returned v) t ∧
      Goes p e below T g T' { g with pc := g.pc + 3, stack := v.toList ++ rest }) ∨
    (∃ (q : Addr) (st₀ t T' : State) (L : List Loc) (E : String) (ce : Cell), st₀.heap = H ∧ Stand p l e R s m args below meth c T' (locs ++ L) (cells + mc) (slots + ms) ∧ (∀ z ∈ L, free z.base) ∧ T'.heap = t.heap ∧ T'.vm = t.vm ∧ XC E st₀ t ∧ t.heap[q]? = some ce ∧ ce.vm = .none ∧ s.vm.findClass E = some ce.cls ∧
      Steps p.tables e below (T.setTop g) ((T'.setTop { g with stack := rest }).pushFrame (.throwing q)))
def vx_X {S : Type} (px : S → Prop) (B : String → S → State → Prop) (A : Nat → Prop) : String → State → State → Prop := fun E st t => ∃ u : S, px u ∧ B E u t ∧ va_F A st t
section Runs
variable {p : Program} {l : Launch} {e : Env} {R : Room} {s : State} {m : MethodId} {args : Array Value} {below : List Frame} {meth : Method} {c : Code} {H : Heap} {locs : List Loc} {cells slots : Nat}
variable {y : MethodName} {bytes cc : ByteArray} {maxL nL mc ms n index : Nat} {ret : Option FieldType} {ws : List Cond} {rm : Room} {Pc : Array Value → State → Prop} {Qc : Array Value → State → Outcome → State → Prop} {XC : String → State → State → Prop} {free : Addr → Prop} {Ts : List Cond} {own C : String} {b : Addr} {As rest : List Value} {g : JFrame}
theorem vx_callBack (cb : CallB R s args own index y bytes maxL ret ws rm mc ms n) (hM : vx_Met l y ws rm Pc Qc XC mc ms free) (hbl : FrameBlind Pc) : vx_Back l R p e below s args y 3 8 (PreOf R mc ms Pc) (PostOf Qc mc ms free) (vx_Post XC mc ms free) := by
  obtain ⟨hrc, hrs, hfr, hlo, hws, hcw, -, hini, -⟩ := cb
  exact vx_back (bytes := bytes) (maxL := maxL) (ret := ret) hM hbl hrc hrs hfr hlo hws hcw (fun a' U hW => word_at hW (Or.inl (by first | rfl | simp [Cond.onTables, Cond.keeps, Cond.steady])) hini)
theorem vx_runV (S : CallFix p m c cc nL s args Ts own) (hM : vx_Met l y ws rm Pc Qc XC mc ms free) (cw : CallW R s args own C index y bytes maxL ret ws rm mc ms n) (hp : PreV s H C b Pc As)
    (hg : g.method = m) (hn : As.length = n) (hsize : g.locals.size = nL) (hstack : g.stack = As.reverse ++ .ref b :: rest) (hW : 2 * g.monitorRoom + (rest.map fun v => v.category).sum ≤ 8) (hdg : decode cc g.pc = .ok (.invokevirtual index, 3)) (hf : cells + mc ≤ R.cells ∧ slots + ms ≤ R.slots) :
    vx_Run p l e R s m args below meth c H locs cells slots mc ms g rest (Qc (Value.ref b :: As).toArray) XC free := by
  have hK : vx_Back l R p e below s args y 3 8 (PreOf R mc ms Pc) (PostOf Qc mc ms free) (vx_Post XC mc ms free) := vx_callBack cw.1 hM hp.1
  obtain ⟨⟨-, -, -, -, -, -, hcode, -, hy, hlen, hl⟩, hin, hse⟩ := cw
  obtain ⟨hx, hb, hml, ho, -⟩ := S
  obtain ⟨-, ⟨cellB, hcB, hoB, hclB⟩, hPc⟩ := hp
  intro T hT X
  rcases vx_callV X hx (C := C) (bytes := bytes) (maxL := maxL) (ret := ret) ho hl hin hse hcode hy hK (by rw [hT]; exact hcB) hoB hclB hg (hsize.trans hml.symm) (argsL := As) (rest := rest) (fun sig h => hn.trans (hlen sig h)) hstack hW (by rw [hb]; exact hdg)
    (fun vm₁ hW₁ => ⟨hf.1, hf.2, hPc (T.setVm vm₁) hT hW₁⟩) with ⟨v, vm₁, ⟨U', l2, c2, s2⟩, hW₁, X', ⟨g', mk, t, L, e1, e2, hq, h1, hL, h2, h3⟩, st⟩ | ⟨q, vm₁, ⟨U', l2, c2, s2⟩, hW₁, X', ⟨g', mk, t, L, E, ce, e1, e2, hq, hce, hcv, hcl, h1, hL, h2, h3⟩, st⟩
  · dsimp only [Pt.U, Pt.locs, Pt.cells, Pt.slots] at X' e1 e2 h1 h2 h3 st
    subst h1; subst h2; subst h3
    exact Or.inl ⟨v, (T.setVm vm₁).calling g' mk (Value.ref b :: As).toArray, t, U', L, hT, X', hL, e1, e2, hq, st⟩
  · dsimp only [Pt.U, Pt.locs, Pt.cells, Pt.slots] at X' e1 e2 h1 h2 h3 st hcl
    subst h1; subst h2; subst h3
    exact Or.inr ⟨q, (T.setVm vm₁).calling g' mk (Value.ref b :: As).toArray, t, U', L, E, ce, hT, X', hL, e1, e2, hq, hce, hcv, vx_cls hW₁ hcl, st⟩
theorem vx_runS (S : CallFix p m c cc nL s args Ts own) (hM : vx_Met l y ws rm Pc Qc XC mc ms free) (cw : CallB R s args own index y bytes maxL ret ws rm mc ms n ∧ (Cond.static y).before args s = true) (hp : PreS s H Pc As)
    (hg : g.method = m) (hn : As.length = n) (hsize : g.locals.size = nL) (hstack : g.stack = As.reverse ++ rest) (hW : 2 * g.monitorRoom + (rest.map fun v => v.category).sum ≤ 8) (hdg : decode cc g.pc = .ok (.invokestatic index, 3)) (hf : cells + mc ≤ R.cells ∧ slots + ms ≤ R.slots) :
    vx_Run p l e R s m args below meth c H locs cells slots mc ms g rest (Qc As.toArray) XC free := by
  have hK : vx_Back l R p e below s args y 3 8 (PreOf R mc ms Pc) (PostOf Qc mc ms free) (vx_Post XC mc ms free) := vx_callBack cw.1 hM hp.1
  obtain ⟨⟨-, -, -, -, -, -, hcode, hini, hy, hlen, hl⟩, hstt⟩ := cw
  obtain ⟨hx, hb, hml, ho, -⟩ := S
  intro T hT X
  rcases vx_callS X hx (bytes := bytes) (maxL := maxL) (ret := ret) ho hl hstt hini hcode hy hK hg (hsize.trans hml.symm) (argsL := As) (rest := rest) (fun sig h => hn.trans (hlen sig h)) hstack hW (by rw [hb]; exact hdg)
    (fun vm₁ hW₁ => ⟨hf.1, hf.2, hp.2 (T.setVm vm₁) hT hW₁⟩) with ⟨v, vm₁, ⟨U', l2, c2, s2⟩, hW₁, X', ⟨g', mk, t, L, e1, e2, hq, h1, hL, h2, h3⟩, st⟩ | ⟨q, vm₁, ⟨U', l2, c2, s2⟩, hW₁, X', ⟨g', mk, t, L, E, ce, e1, e2, hq, hce, hcv, hcl, h1, hL, h2, h3⟩, st⟩
  · dsimp only [Pt.U, Pt.locs, Pt.cells, Pt.slots] at X' e1 e2 h1 h2 h3 st
    subst h1; subst h2; subst h3
    exact Or.inl ⟨v, (T.setVm vm₁).calling g' mk As.toArray, t, U', L, hT, X', hL, e1, e2, hq, st⟩
  · dsimp only [Pt.U, Pt.locs, Pt.cells, Pt.slots] at X' e1 e2 h1 h2 h3 st hcl
    subst h1; subst h2; subst h3
    exact Or.inr ⟨q, (T.setVm vm₁).calling g' mk As.toArray, t, U', L, E, ce, hT, X', hL, e1, e2, hq, hce, hcv, vx_cls hW₁ hcl, st⟩
end Runs
section Rows
variable {p : Program} {l : Launch} {e : Env} {R : Room} {s : State} {m : MethodId} {args : Array Value} {below : List Frame} {meth : Method} {c : Code} {H : Heap} {locs : List Loc} {cells slots : Nat} {Q : State → Prop}
variable {mc ms : Nat} {free : Addr → Prop} {A0 A1 : Nat → Prop} {H0 : Heap} {a : Array Value} {pc : Nat} {ls : Array Slot} {st0 rest : List Value}
theorem vx_keep {st₀ t T' : State} {L : List Loc} (h0 : st₀.heap = H) (e1 : T'.heap = t.heap) (hS : va_S A0 H0 H locs) (hA : ∀ q, q < H.size → A1 q → A0 q) (hf : ∀ q, free q → A0 q) (hL : ∀ q ∈ L, free q.base) (hF : va_F A1 st₀ t) :
    H.size ≤ T'.heap.size ∧ (∀ q : Nat, q < H.size → ¬ A1 q → T'.heap[q]? = H[q]?) ∧ va_S A0 H0 T'.heap (locs ++ L) := by
  obtain ⟨hz, hk⟩ := hF
  rw [h0] at hz hk
  exact ⟨by rw [e1]; exact hz, fun q h1 h2 => by rw [e1]; exact hk q h1 h2,
    ⟨Nat.le_trans hS.1 (by rw [e1]; exact hz), fun q h1 h2 => by rw [e1, hk q (Nat.lt_of_lt_of_le h1 hS.1) (fun z => h2 (hA q (Nat.lt_of_lt_of_le h1 hS.1) z))]; exact hS.2.1 q h1 h2, fun q hq => by
      rcases List.mem_append.mp hq with h | h
      · exact hS.2.2 q h
      · exact hf _ (hL q h)⟩⟩
theorem vx_calli {S SX : Type} {post : Int32 → S → Prop} {px : SX → Prop} {B : S → State → Prop} {BX : String → SX → State → Prop} {AX : Nat → Prop} (hr : vx_Run p l e R s m args below meth c H locs cells slots mc ms (F0 m pc ls st0) rest (va_Qi post B A1 a) (vx_X px BX AX) free) (hS : va_S A0 H0 H locs) (hA : ∀ q, q < H.size → A1 q → A0 q) (hf : ∀ q, free q → A0 q) (hAX : ∀ q, q < H.size → AX q → A0 q)
    (kx : ∀ (E : String) (ce : Cell) (q9 : Addr) (u : SX) (t : State) (H1 : Heap) (locs1 : List Loc), t.heap = H1 → s.vm.Alike t.vm → px u → BX E u t → H.size ≤ H1.size → (∀ q : Nat, q < H.size → ¬ AX q → H1[q]? = H[q]?) → va_S A0 H0 H1 locs1 → H1[q9]? = some ce → ce.vm = .none → s.vm.findClass E = some ce.cls → vx_W p l e R s m args below meth c H1 locs1 (cells + mc) (slots + ms) Q (F0 m pc ls rest) q9)
    (kk : ∀ (r : Int32) (u : S) (t : State) (H1 : Heap) (locs1 : List Loc), t.heap = H1 → s.vm.Alike t.vm → post r u → B u t → H.size ≤ H1.size → (∀ q : Nat, q < H.size → ¬ A1 q → H1[q]? = H[q]?) → va_S A0 H0 H1 locs1 → W p l e R s m args below meth c H1 locs1 (cells + mc) (slots + ms) Q (F0 m (pc + 3) ls (.int r :: rest))) : W p l e R s m args below meth c H locs cells slots Q (F0 m pc ls st0) := by
  intro T hT X
  rcases hr T hT X with ⟨v, st₀, t, T', L, h0, X', hL, e1, e2, ⟨⟨r, u, hv, hp, hb⟩, hF⟩, st⟩ | ⟨q, st₀, t, T', L, E, ce, h0, X', hL, e1, e2, ⟨u, hp, hb, hF⟩, hce, hcv, hcl, st⟩
  · cases hv
    obtain ⟨k1, k2, k3⟩ := vx_keep h0 e1 hS hA hf hL hF
    obtain ⟨t2, a1, b1⟩ := kk r u t T'.heap (locs ++ L) e1.symm (by rw [← e2]; exact X'.warmed.alike) hp hb k1 k2 k3 T' rfl X'
    exact ⟨t2, st t2 a1, b1⟩
  · obtain ⟨k1, k2, k3⟩ := vx_keep h0 e1 hS hAX hf hL hF
    obtain ⟨t2, a1, b1⟩ := kx E ce q u t T'.heap (locs ++ L) e1.symm (by rw [← e2]; exact X'.warmed.alike) hp hb k1 k2 k3 (by rw [e1]; exact hce) hcv hcl T' rfl X'
    exact ⟨t2, st.trans a1, b1⟩
theorem vx_calll {S SX : Type} {post : Int64 → S → Prop} {px : SX → Prop} {B : S → State → Prop} {BX : String → SX → State → Prop} {AX : Nat → Prop} (hr : vx_Run p l e R s m args below meth c H locs cells slots mc ms (F0 m pc ls st0) rest (va_Ql post B A1 a) (vx_X px BX AX) free) (hS : va_S A0 H0 H locs) (hA : ∀ q, q < H.size → A1 q → A0 q) (hf : ∀ q, free q → A0 q) (hAX : ∀ q, q < H.size → AX q → A0 q)
    (kx : ∀ (E : String) (ce : Cell) (q9 : Addr) (u : SX) (t : State) (H1 : Heap) (locs1 : List Loc), t.heap = H1 → s.vm.Alike t.vm → px u → BX E u t → H.size ≤ H1.size → (∀ q : Nat, q < H.size → ¬ AX q → H1[q]? = H[q]?) → va_S A0 H0 H1 locs1 → H1[q9]? = some ce → ce.vm = .none → s.vm.findClass E = some ce.cls → vx_W p l e R s m args below meth c H1 locs1 (cells + mc) (slots + ms) Q (F0 m pc ls rest) q9)
    (kk : ∀ (r : Int64) (u : S) (t : State) (H1 : Heap) (locs1 : List Loc), t.heap = H1 → s.vm.Alike t.vm → post r u → B u t → H.size ≤ H1.size → (∀ q : Nat, q < H.size → ¬ A1 q → H1[q]? = H[q]?) → va_S A0 H0 H1 locs1 → W p l e R s m args below meth c H1 locs1 (cells + mc) (slots + ms) Q (F0 m (pc + 3) ls (.long r :: rest))) : W p l e R s m args below meth c H locs cells slots Q (F0 m pc ls st0) := by
  intro T hT X
  rcases hr T hT X with ⟨v, st₀, t, T', L, h0, X', hL, e1, e2, ⟨⟨r, u, hv, hp, hb⟩, hF⟩, st⟩ | ⟨q, st₀, t, T', L, E, ce, h0, X', hL, e1, e2, ⟨u, hp, hb, hF⟩, hce, hcv, hcl, st⟩
  · cases hv
    obtain ⟨k1, k2, k3⟩ := vx_keep h0 e1 hS hA hf hL hF
    obtain ⟨t2, a1, b1⟩ := kk r u t T'.heap (locs ++ L) e1.symm (by rw [← e2]; exact X'.warmed.alike) hp hb k1 k2 k3 T' rfl X'
    exact ⟨t2, st t2 a1, b1⟩
  · obtain ⟨k1, k2, k3⟩ := vx_keep h0 e1 hS hAX hf hL hF
    obtain ⟨t2, a1, b1⟩ := kx E ce q u t T'.heap (locs ++ L) e1.symm (by rw [← e2]; exact X'.warmed.alike) hp hb k1 k2 k3 (by rw [e1]; exact hce) hcv hcl T' rfl X'
    exact ⟨t2, st.trans a1, b1⟩
theorem vx_callf {S SX : Type} {post : UInt32 → S → Prop} {px : SX → Prop} {B : S → State → Prop} {BX : String → SX → State → Prop} {AX : Nat → Prop} (hr : vx_Run p l e R s m args below meth c H locs cells slots mc ms (F0 m pc ls st0) rest (va_Qf post B A1 a) (vx_X px BX AX) free) (hS : va_S A0 H0 H locs) (hA : ∀ q, q < H.size → A1 q → A0 q) (hf : ∀ q, free q → A0 q) (hAX : ∀ q, q < H.size → AX q → A0 q)
    (kx : ∀ (E : String) (ce : Cell) (q9 : Addr) (u : SX) (t : State) (H1 : Heap) (locs1 : List Loc), t.heap = H1 → s.vm.Alike t.vm → px u → BX E u t → H.size ≤ H1.size → (∀ q : Nat, q < H.size → ¬ AX q → H1[q]? = H[q]?) → va_S A0 H0 H1 locs1 → H1[q9]? = some ce → ce.vm = .none → s.vm.findClass E = some ce.cls → vx_W p l e R s m args below meth c H1 locs1 (cells + mc) (slots + ms) Q (F0 m pc ls rest) q9)
    (kk : ∀ (r : UInt32) (u : S) (t : State) (H1 : Heap) (locs1 : List Loc), t.heap = H1 → s.vm.Alike t.vm → post r u → B u t → H.size ≤ H1.size → (∀ q : Nat, q < H.size → ¬ A1 q → H1[q]? = H[q]?) → va_S A0 H0 H1 locs1 → W p l e R s m args below meth c H1 locs1 (cells + mc) (slots + ms) Q (F0 m (pc + 3) ls (.float r :: rest))) : W p l e R s m args below meth c H locs cells slots Q (F0 m pc ls st0) := by
  intro T hT X
  rcases hr T hT X with ⟨v, st₀, t, T', L, h0, X', hL, e1, e2, ⟨⟨r, u, hv, hp, hb⟩, hF⟩, st⟩ | ⟨q, st₀, t, T', L, E, ce, h0, X', hL, e1, e2, ⟨u, hp, hb, hF⟩, hce, hcv, hcl, st⟩
  · cases hv
    obtain ⟨k1, k2, k3⟩ := vx_keep h0 e1 hS hA hf hL hF
    obtain ⟨t2, a1, b1⟩ := kk r u t T'.heap (locs ++ L) e1.symm (by rw [← e2]; exact X'.warmed.alike) hp hb k1 k2 k3 T' rfl X'
    exact ⟨t2, st t2 a1, b1⟩
  · obtain ⟨k1, k2, k3⟩ := vx_keep h0 e1 hS hAX hf hL hF
    obtain ⟨t2, a1, b1⟩ := kx E ce q u t T'.heap (locs ++ L) e1.symm (by rw [← e2]; exact X'.warmed.alike) hp hb k1 k2 k3 (by rw [e1]; exact hce) hcv hcl T' rfl X'
    exact ⟨t2, st.trans a1, b1⟩
theorem vx_calld {S SX : Type} {post : UInt64 → S → Prop} {px : SX → Prop} {B : S → State → Prop} {BX : String → SX → State → Prop} {AX : Nat → Prop} (hr : vx_Run p l e R s m args below meth c H locs cells slots mc ms (F0 m pc ls st0) rest (va_Qd post B A1 a) (vx_X px BX AX) free) (hS : va_S A0 H0 H locs) (hA : ∀ q, q < H.size → A1 q → A0 q) (hf : ∀ q, free q → A0 q) (hAX : ∀ q, q < H.size → AX q → A0 q)
    (kx : ∀ (E : String) (ce : Cell) (q9 : Addr) (u : SX) (t : State) (H1 : Heap) (locs1 : List Loc), t.heap = H1 → s.vm.Alike t.vm → px u → BX E u t → H.size ≤ H1.size → (∀ q : Nat, q < H.size → ¬ AX q → H1[q]? = H[q]?) → va_S A0 H0 H1 locs1 → H1[q9]? = some ce → ce.vm = .none → s.vm.findClass E = some ce.cls → vx_W p l e R s m args below meth c H1 locs1 (cells + mc) (slots + ms) Q (F0 m pc ls rest) q9)
    (kk : ∀ (r : UInt64) (u : S) (t : State) (H1 : Heap) (locs1 : List Loc), t.heap = H1 → s.vm.Alike t.vm → post r u → B u t → H.size ≤ H1.size → (∀ q : Nat, q < H.size → ¬ A1 q → H1[q]? = H[q]?) → va_S A0 H0 H1 locs1 → W p l e R s m args below meth c H1 locs1 (cells + mc) (slots + ms) Q (F0 m (pc + 3) ls (.double r :: rest))) : W p l e R s m args below meth c H locs cells slots Q (F0 m pc ls st0) := by
  intro T hT X
  rcases hr T hT X with ⟨v, st₀, t, T', L, h0, X', hL, e1, e2, ⟨⟨r, u, hv, hp, hb⟩, hF⟩, st⟩ | ⟨q, st₀, t, T', L, E, ce, h0, X', hL, e1, e2, ⟨u, hp, hb, hF⟩, hce, hcv, hcl, st⟩
  · cases hv
    obtain ⟨k1, k2, k3⟩ := vx_keep h0 e1 hS hA hf hL hF
    obtain ⟨t2, a1, b1⟩ := kk r u t T'.heap (locs ++ L) e1.symm (by rw [← e2]; exact X'.warmed.alike) hp hb k1 k2 k3 T' rfl X'
    exact ⟨t2, st t2 a1, b1⟩
  · obtain ⟨k1, k2, k3⟩ := vx_keep h0 e1 hS hAX hf hL hF
    obtain ⟨t2, a1, b1⟩ := kx E ce q u t T'.heap (locs ++ L) e1.symm (by rw [← e2]; exact X'.warmed.alike) hp hb k1 k2 k3 (by rw [e1]; exact hce) hcv hcl T' rfl X'
    exact ⟨t2, st.trans a1, b1⟩
theorem vx_callv {S SX : Type} {post : S → Prop} {px : SX → Prop} {B : S → State → Prop} {BX : String → SX → State → Prop} {AX : Nat → Prop} (hr : vx_Run p l e R s m args below meth c H locs cells slots mc ms (F0 m pc ls st0) rest (va_Qv post B A1 a) (vx_X px BX AX) free) (hS : va_S A0 H0 H locs) (hA : ∀ q, q < H.size → A1 q → A0 q) (hf : ∀ q, free q → A0 q) (hAX : ∀ q, q < H.size → AX q → A0 q)
    (kx : ∀ (E : String) (ce : Cell) (q9 : Addr) (u : SX) (t : State) (H1 : Heap) (locs1 : List Loc), t.heap = H1 → s.vm.Alike t.vm → px u → BX E u t → H.size ≤ H1.size → (∀ q : Nat, q < H.size → ¬ AX q → H1[q]? = H[q]?) → va_S A0 H0 H1 locs1 → H1[q9]? = some ce → ce.vm = .none → s.vm.findClass E = some ce.cls → vx_W p l e R s m args below meth c H1 locs1 (cells + mc) (slots + ms) Q (F0 m pc ls rest) q9)
    (kk : ∀ (u : S) (t : State) (H1 : Heap) (locs1 : List Loc), t.heap = H1 → s.vm.Alike t.vm → post u → B u t → H.size ≤ H1.size → (∀ q : Nat, q < H.size → ¬ A1 q → H1[q]? = H[q]?) → va_S A0 H0 H1 locs1 → W p l e R s m args below meth c H1 locs1 (cells + mc) (slots + ms) Q (F0 m (pc + 3) ls (rest))) : W p l e R s m args below meth c H locs cells slots Q (F0 m pc ls st0) := by
  intro T hT X
  rcases hr T hT X with ⟨v, st₀, t, T', L, h0, X', hL, e1, e2, ⟨⟨u, hv, hp, hb⟩, hF⟩, st⟩ | ⟨q, st₀, t, T', L, E, ce, h0, X', hL, e1, e2, ⟨u, hp, hb, hF⟩, hce, hcv, hcl, st⟩
  · cases hv
    obtain ⟨k1, k2, k3⟩ := vx_keep h0 e1 hS hA hf hL hF
    obtain ⟨t2, a1, b1⟩ := kk u t T'.heap (locs ++ L) e1.symm (by rw [← e2]; exact X'.warmed.alike) hp hb k1 k2 k3 T' rfl X'
    exact ⟨t2, st t2 a1, b1⟩
  · obtain ⟨k1, k2, k3⟩ := vx_keep h0 e1 hS hAX hf hL hF
    obtain ⟨t2, a1, b1⟩ := kx E ce q u t T'.heap (locs ++ L) e1.symm (by rw [← e2]; exact X'.warmed.alike) hp hb k1 k2 k3 (by rw [e1]; exact hce) hcv hcl T' rfl X'
    exact ⟨t2, st.trans a1, b1⟩
/-- caught by the row x of this method's table; the rows ahead don't take it -/
theorem vx_catch {own name : String} {E : String} {ce : Cell} {q : Addr} (hown : s.vm.findClass own = some m.cls) (pre : List ExceptionTableEntry) (x : ExceptionTableEntry) (suf : List ExceptionTableEntry) (hsplit : c.exceptionTable.toList = pre ++ x :: suf)
    (hpass : ∀ z ∈ pre, covers z pc = false ∨ (z.catchType ≠ 0 ∧ ∃ nm : String, (Cond.classLink own z.catchType nm).before args s = true ∧ va_Nc E nm s)) (hx : covers x pc = true) (h0 : x.catchType ≠ 0)
    (hlink : (Cond.classLink own x.catchType name).before args s = true) (hcast : (Cond.castable E name).before args s = true) (hcell : H[q]? = some ce) (hv : ce.vm = .none) (hcl : s.vm.findClass E = some ce.cls)
    (kk : W p l e R s m args below meth c H locs cells slots Q (F0 m x.handlerPc ls [.ref q])) : vx_W p l e R s m args below meth c H locs cells slots Q (F0 m pc ls rest) q := by
  intro T hT X
  have hpl : e.platform.magicAccessors = ({} : Platform).magicAccessors := by rw [X.admits.platform]
  obtain ⟨c3, c4, hc3, hc4, hasg⟩ := Cond.castable_spec hcast
  cases Option.some.inj (hc3.symm.trans hcl)
  obtain ⟨c5, hc5, hcl5⟩ := Cond.classLink_spec hown hlink e.platform hpl
  cases Option.some.inj (hc4.symm.trans hc5)
  obtain ⟨vm', X', st⟩ := X.thenCaughtThrough q (g := F0 m pc ls rest) rfl (Steps.refl _) (by rw [hT]; exact hcell) (by rw [hv]; rfl) (by obtain ⟨k9, h9, -⟩ := Vm.findClass_spec hcl; exact ⟨k9, h9⟩) pre x suf hsplit
    (fun z hz => by
      rcases hpass z hz with h | ⟨hz0, nm, hl1, hn1⟩
      · exact Or.inl h
      · obtain ⟨c6, hc6, hcl6⟩ := Cond.classLink_spec hown hl1 e.platform hpl
        obtain ⟨a8, b8, h1, h2, h3⟩ := hn1
        cases Option.some.inj (h1.symm.trans hcl)
        cases Option.some.inj (h2.symm.trans hc6)
        exact Or.inr ⟨hz0, _, hcl6, h3⟩) hx (Or.inr ⟨h0, c4, hcl5, hasg⟩)
  obtain ⟨t, a1, b1⟩ := kk (T.setVm vm') hT X'
  exact ⟨t, st.trans a1, b1⟩
end Rows
section Ends
variable {p : Program} {l : Launch} {e : Env} {R : Room} {s : State} {m : MethodId} {args : Array Value} {below : List Frame} {meth : Method} {c : Code} {H : Heap} {locs : List Loc} {cells slots : Nat} {Q : State → Prop}
variable {mc ms : Nat} {free : Addr → Prop} {A0 A1 : Nat → Prop} {H0 : Heap} {a : Array Value} {ls : Array Slot} {st0 rest : List Value}
variable {Qc : Array Value → State → Outcome → State → Prop} {XC : String → State → State → Prop}
/-- what a body that may throw owes at its end -/
def vx_MQ (below : List Frame) (Qc : Array Value → State → Outcome → State → Prop) (XC : String → State → State → Prop) (a : Array Value) (s : State) (mc ms : Nat) (free : Addr → Prop) : State → Prop := fun t =>
  ∃ o, t.status = .running ∧ Ended t below o ∧ vx_Q Qc XC mc ms free a s o t
theorem vx_ret {g : JFrame} {mc ms : Nat} (k : W p l e R s m args below meth c H locs cells slots (MQ below Qc args s mc ms free) g) : W p l e R s m args below meth c H locs cells slots (vx_MQ below Qc XC args s mc ms free) g := by
  intro T hT X
  obtain ⟨t, a1, o, b1, b2, b3, b4⟩ := k T hT X
  exact ⟨t, a1, o, b1, b2, Or.inl ⟨b3, b4⟩⟩
/-- not caught here: it goes on to the caller -/
theorem vx_widen {g : JFrame} {q : Addr} {k n : Nat} (h1 : cells ≤ k) (h2 : slots ≤ n) (kk : vx_W p l e R s m args below meth c H locs k n Q g q) : vx_W p l e R s m args below meth c H locs cells slots Q g q := fun T hT X => kk T hT (stand_widen X h1 h2)
theorem vx_out {pc : Nat} {E : String} {ce : Cell} {q : Addr} {mc ms : Nat} (hout : ∀ x ∈ c.exceptionTable.toList, covers x pc = false) (hlocks : meth.locks = false) (hcell : H[q]? = some ce) (hv : ce.vm = .none) (hcl : s.vm.findClass E = some ce.cls)
    (hx : ∀ t : State, t.heap = H → s.vm.Alike t.vm → XC E s t) (hf : ∀ z ∈ locs, free z.base) (hc : cells ≤ mc) (hs : slots ≤ ms) :
    vx_W p l e R s m args below meth c H locs cells slots (vx_MQ below Qc XC args s mc ms free) (F0 m pc ls rest) q := by
  intro T hT X
  obtain ⟨st1, hrun, hend, hW, hsm⟩ := X.leaveThrown q (g := F0 m pc ls rest) rfl rfl rfl hout hlocks
  have hcell9 : (T.setFrames (.throwing q :: below)).heap[q]? = some ce := by
    show T.heap[q]? = some ce
    rw [hT]; exact hcell
  exact ⟨_, st1, .threw q, hrun, hend, Or.inr ⟨q, rfl, E, ce, locs, hx _ hT hW.alike, hcell9, hv, hcl, hW, hsm.mono hc hs, hf⟩⟩
theorem vx_frame {U : State} {k n : Nat} (h : s.sameButNew ({ U with vm := s.vm } : State) locs k n) : s.heap.size ≤ U.heap.size ∧ ∀ q : Nat, q < s.heap.size → (∀ z ∈ locs, z.base ≠ q) → U.heap[q]? = s.heap[q]? := by
  obtain ⟨-, h2, -, -, -, h6⟩ := h
  refine ⟨h2, fun q hq hz => ?_⟩
  obtain ⟨c9, e1, e2, e3, e4⟩ := h6 q _ (Array.getElem?_eq_getElem hq)
  have hs : c9.slots = (s.heap[q]).slots := Array.ext_getElem? fun i => e4 i fun hm => hz _ hm rfl
  have h9 : c9 = s.heap[q] := by
    rw [hs] at e2
    exact e2
  have e5 : U.heap[q]? = some c9 := e1
  rw [e5, h9, Array.getElem?_eq_getElem hq]
/-- the words of a throw but the four that speak of the heap -/
def vx_no (w : Cond) : Bool := decide (w ≠ .isRef (.static Bundle.tN "UNASSIGNED_STACK" Bundle.steD)) && decide (w ≠ .isRef (.static Bundle.tN "SUPPRESSED_SENTINEL" Bundle.listD)) && decide (w ≠ .laysStatic Bundle.tN "UNASSIGNED_STACK" Bundle.steD) && decide (w ≠ .laysStatic Bundle.tN "SUPPRESSED_SENTINEL" Bundle.listD)
def vx_at0 (own : String) (ic : Nat) (X : String) (names : List String) : List Cond := (Bundle.ownAtoms0 own ic X names).filter vx_no
def vx_atS (own : String) (ic : Nat) (X : String) (names : List String) : List Cond := (Bundle.ownAtoms own ic X names).filter vx_no
/-- a word that the tables alone decide, or a good one -/
def vx_ot (w : Cond) : Bool := w.onTables || goodWord w
theorem vx_ot_at {args a' : Array Value} {s U : State} {w : Cond} (hW : s.WarmedH U.vm) (hvm : s.vm = U.vm) (hg : vx_ot w = true) (h : w.before args s = true) : w.before a' U = true := by
  simp only [vx_ot, Bool.or_eq_true] at hg
  rcases hg with hg | hg
  · exact va_tabs hg hvm h
  · exact word_at hW (good_of_word hg) h
/-- a list's words: the good ones out of the method's own list, the others by premises of their own -/
theorem vx_hat {args : Array Value} {s : State} {L B : List Cond} (h1 : ∀ w ∈ L.filter goodWord, w.before args s = true) (h2 : ∀ w ∈ L.filter (fun w => !goodWord w), w ∈ B) (h3 : ∀ w ∈ B, w.before args s = true) : ∀ w ∈ L, w.before args s = true := by
  intro w hw
  by_cases g : goodWord w = true
  · exact h1 w (List.mem_filter.mpr ⟨hw, g⟩)
  · refine h3 w (h2 w (List.mem_filter.mpr ⟨hw, ?_⟩))
    show (!goodWord w) = true
    cases hgw : goodWord w
    · rfl
    · exact absurd hgw g
theorem vx_c {args : Array Value} {s : State} {w : Cond} {B : List Cond} (h : w.before args s = true) (t : ∀ w ∈ B, w.before args s = true) : ∀ w' ∈ w :: B, w'.before args s = true := fun w' h' => (List.mem_cons.mp h').elim (fun e => by rw [e]; exact h) (t w')
theorem vx_n {args : Array Value} {s : State} : ∀ w ∈ ([] : List Cond), w.before args s = true := fun _ h => nomatch h
theorem vx_own {args : Array Value} {s : State} {L : List Cond} (h1 : ∀ w ∈ L.filter vx_no, w.before args s = true)
    (hU : (Cond.isRef (.static Bundle.tN "UNASSIGNED_STACK" Bundle.steD)).before args s = true) (hN : (Cond.isRef (.static Bundle.tN "SUPPRESSED_SENTINEL" Bundle.listD)).before args s = true)
    (lU : (Cond.laysStatic Bundle.tN "UNASSIGNED_STACK" Bundle.steD).before args s = true) (lN : (Cond.laysStatic Bundle.tN "SUPPRESSED_SENTINEL" Bundle.listD).before args s = true) : ∀ w ∈ L, w.before args s = true := by
  intro w hw
  by_cases e1 : w = .isRef (.static Bundle.tN "UNASSIGNED_STACK" Bundle.steD)
  · rw [e1]; exact hU
  · by_cases e2 : w = .isRef (.static Bundle.tN "SUPPRESSED_SENTINEL" Bundle.listD)
    · rw [e2]; exact hN
    · by_cases e3 : w = .laysStatic Bundle.tN "UNASSIGNED_STACK" Bundle.steD
      · rw [e3]; exact lU
      · by_cases e4 : w = .laysStatic Bundle.tN "SUPPRESSED_SENTINEL" Bundle.listD
        · rw [e4]; exact lN
        · exact h1 w (List.mem_filter.mpr ⟨hw, by unfold vx_no; rw [decide_eq_true e1, decide_eq_true e2, decide_eq_true e3, decide_eq_true e4]; rfl⟩)
/-- where a static field lies, its class's statics cell in H -/
def vx_L (C n d : String) (A : Nat → Prop) (U : State) (H : Heap) : Prop := ∃ (c : ClassId) (k : Class) (i : Nat) (f : Field) (a : Nat) (cell : Cell), U.vm.findClass C = some c ∧ U.fieldFound? C n d = some (c, k, i, f) ∧ f.isStatic = true ∧ k.statics = some a ∧ H[a]? = some cell ∧ cell.vm.isStatics = true ∧ cell.cls = c ∧ f.slot < cell.slots.size ∧ k.staticTypes[f.slot]? = some f.type ∧ ¬ A a
theorem vx_L.moved {C n d : String} {A : Nat → Prop} {u U : State} {H : Heap} (hvm : u.vm.Alike U.vm) (h : vx_L C n d A u H) : vx_L C n d A U H := by
  obtain ⟨c, k, i, f, a, cell, h1, h2, h3, h4, h5, h6, h7, h8, h9, h10⟩ := h
  obtain ⟨k', hi', he⟩ := State.fieldFound?_setVm hvm h2
  exact ⟨c, k', i, f, a, cell, by rw [hvm.findClass]; exact h1, hi', h3, by rw [he]; exact h4, h5, h6, h7, h8, by rw [he]; exact h9, h10⟩
theorem vx_L.kept {C n d : String} {A : Nat → Prop} {U : State} {H H1 : Heap} (h : vx_L C n d A U H) (hq : ∀ a : Nat, a < H.size → ¬ A a → H1[a]? = H[a]?) : vx_L C n d A U H1 := by
  obtain ⟨c, k, i, f, a, cell, h1, h2, h3, h4, h5, h6, h7, h8, h9, h10⟩ := h
  exact ⟨c, k, i, f, a, cell, h1, h2, h3, h4, by rw [hq a (Array.getElem?_eq_some_iff.mp h5).1 h10]; exact h5, h6, h7, h8, h9, h10⟩
theorem vx_L.narrow {C n d : String} {A B : Nat → Prop} {U : State} {H : Heap} (h : vx_L C n d A U H) (hAB : ∀ q, B q → A q) : vx_L C n d B U H := by
  obtain ⟨c, k, i, f, a, cell, h1, h2, h3, h4, h5, h6, h7, h8, h9, h10⟩ := h
  exact ⟨c, k, i, f, a, cell, h1, h2, h3, h4, h5, h6, h7, h8, h9, fun z => h10 (hAB _ z)⟩
theorem vx_L.word {C n d : String} {A : Nat → Prop} {s : State} {args : Array Value} (h : vx_L C n d A s s.heap) : (Cond.laysStatic C n d).before args s = true := by
  obtain ⟨c, k, i, f, a, cell, h1, h2, h3, h4, h5, h6, h7, h8, h9, -⟩ := h
  show (Cond.laysStatic C n d).holds args s none s [] = true
  exact Cond.laysStatic_of h1 h2 h3 h4 h5 h6 h7 h8 h9
/-- .. and what it holds: null or some reference -/
def vx_Zq (C n d : String) (A : Nat → Prop) (U : State) (H : Heap) : Prop := va_Zq C n d A U H ∧ vx_L C n d A U H
theorem vx_Zq.moved {C n d : String} {A : Nat → Prop} {u U : State} {H : Heap} (hvm : u.vm.Alike U.vm) (h : vx_Zq C n d A u H) : vx_Zq C n d A U H := ⟨va_Zq.moved hvm h.1, vx_L.moved hvm h.2⟩
theorem vx_Zq.kept {C n d : String} {A : Nat → Prop} {U : State} {H H1 : Heap} (h : vx_Zq C n d A U H) (hq : ∀ a : Nat, a < H.size → ¬ A a → H1[a]? = H[a]?) : vx_Zq C n d A U H1 := ⟨va_Zq.kept h.1 hq, vx_L.kept h.2 hq⟩
theorem vx_Zq.narrow {C n d : String} {A B : Nat → Prop} {U : State} {H : Heap} (h : vx_Zq C n d A U H) (hAB : ∀ q, B q → A q) : vx_Zq C n d B U H := ⟨va_Zq.narrow h.1 hAB, vx_L.narrow h.2 hAB⟩
theorem vx_Zqof {args : Array Value} {s : State} {C n d : String} {A : Nat → Prop} (hl : (Cond.laysStatic C n d).before args s = true) (hini : (Cond.initialized C).before args s = true) (h : (Cond.isRef (.static C n d)).before args s = true) (hA : ∀ a : Nat, a < s.heap.size → ¬ A a) : vx_Zq C n d A s s.heap := by
  refine ⟨va_Zqof hl hini h hA, ?_⟩
  obtain ⟨c, k, i, f, a, cell, h1, h2, h3, h4, h5, h6, h7, h8, h9⟩ := Cond.laysStatic_spec hl
  exact ⟨c, k, i, f, a, cell, h1, h2, h3, h4, h5, h6, h7, h8, h9, hA a (Array.getElem?_eq_some_iff.mp h5).1⟩
theorem vx_isRef {C n d : String} {v : Value} {A : Nat → Prop} {s : State} {args : Array Value} (h : va_Z C n d v A s s.heap) (hv : v.isRef = true) : (Cond.isRef (.static C n d)).before args s = true := by
  obtain ⟨cf, kf, fi, f, a, cell, h1, h2, h3, h4, h5, h6, h7, -⟩ := h
  have he : (Term.static C n d).eval args s none [] s = some v := by
    simp [Term.eval, State.fieldNamed?, h1, h2, h4, h5, h6, h7]
  simp only [Cond.before, Cond.holds, Cond.value, he]
  cases v <;> simp_all [Value.isRef]
theorem vx_isRefq {C n d : String} {A : Nat → Prop} {s : State} {args : Array Value} (h : va_Zq C n d A s s.heap) : (Cond.isRef (.static C n d)).before args s = true := by
  rcases h with h | ⟨t, h⟩
  · exact vx_isRef h rfl
  · exact vx_isRef h rfl
/-- the same frame, seen from here: as if the method were called anew in this heap -/
theorem vx_rebase {T : State} (X : Stand p l e R s m args below meth c T locs cells slots) {R' : Room} (hf : R'.frames ≤ R.frames) (hl : R'.locals ≤ R.locals) (hc : cells + R'.cells ≤ R.cells) (hs : slots + R'.slots ≤ R.slots) :
    Stand p l e R' ((T.setVm s.vm).setFrames (.invoking m args :: below)) m args below meth c T [] 0 0 := by
  have htop : (T.setVm s.vm).topJava?.isSome := X.here.top
  have hF : ((T.setVm s.vm).setFrames (.invoking m args :: below)).frames = .invoking m args :: below := State.frames_setFrames _ (State.cur_lt_of_top htop)
  obtain ⟨g₀, hg0⟩ := Option.isSome_iff_exists.mp htop
  obtain ⟨r, hr⟩ := State.topJava?_eq_some.mp hg0
  have hl9 : e.platform.stackLimits (T.setVm s.vm).me = e.platform.stackLimits s.me := X.limits
  have hb9 : (T.setVm s.vm).me.stackBytes = s.me.stackBytes := X.bytes
  refine ⟨X.admits, X.cas, X.clock, hF, ?_, X.hears, X.method, X.code, X.here, X.tail, X.warmed, ?_, ?_, ?_⟩
  · have h := X.room
    have hU : ((T.setVm s.vm).setFrames (.invoking m args :: below)).localsInUse = s.localsInUse := by
      rw [State.localsInUse_invoking hF (meth := meth) (c := c) X.method X.code, State.localsInUse_invoking X.frames X.method X.code]
    simp only [State.hasRoom, Bool.and_eq_true, decide_eq_true_eq] at h ⊢
    obtain ⟨⟨⟨⟨h1, h2, h3, h4, h5, h6⟩, h7⟩, h8⟩, h9⟩ := h
    rw [X.frames, List.length_cons] at h2 h3
    have q1 := X.heapSize
    have q2 := X.used
    simp only [hF, hU, List.length_cons, State.stackLimits_setFrames, State.stackBytes_setFrames, hl9, hb9]
    refine ⟨⟨⟨⟨by omega, by omega, by omega, by omega, by omega, h6⟩, ?_⟩, ?_⟩, X.book⟩
    · show T.heap.size + R'.cells ≤ e.platform.maxCells
      omega
    · show T.slotsUsed + R'.slots ≤ e.platform.maxSlots
      omega
  · rw [State.stackLimits_setFrames]; rfl
  · rw [State.stackBytes_setFrames]; rfl
  · refine ⟨?_, Nat.le_refl _, Nat.le_refl _, ?_, ?_, fun a c9 h9 => ⟨c9, h9, rfl, rfl, fun _ _ => rfl⟩⟩
    · obtain ⟨t, ht, -⟩ := State.frames_cons hr
      show T.setVm s.vm = { ((T.setVm s.vm).setFrames (.invoking m args :: below)).setFrames (T.setVm s.vm).frames with heap := T.heap, slotsUsed := T.slotsUsed }
      rw [State.setFrames_setFrames, State.setFrames_self ht]
      rfl
    · show T.slotsUsed = T.slotsUsed + ((T.heap.toList.drop T.heap.size).map (·.slots.size)).sum
      rw [List.drop_eq_nil_of_le (Nat.le_of_eq Array.length_toList)]
      rfl
    · show ((T.heap.toList.drop T.heap.size).map (·.slots.size)).sum ≤ 0
      rw [List.drop_eq_nil_of_le (Nat.le_of_eq Array.length_toList)]
      exact Nat.le_refl _
/-- 'throw new E()': new; dup; invokespecial; athrow -/
theorem vx_throw0 {cc : ByteArray} {pc : Nat} (hexec : p.tables.exec = Jvm.exec) (hb : c.code = cc) (hl : l.stackTraces = false) {own cls : String} {names : List String} {ik ic mc ms : Nat} {A : Nat → Prop}
    (hown : s.vm.findClass own = some m.cls) (hcls : Bundle.fit cls = true) (hnames : ∀ n ∈ names, Bundle.fit n = true)
    (hk : (Cond.classLink own ik cls).before args s = true) (hini : (Cond.initialized cls).before args s = true) (hat : ∀ w ∈ vx_at0 own ic cls names, w.before args s = true)
    (hgood : ∀ w ∈ Cond.classLink own ik cls :: Cond.initialized cls :: vx_at0 own ic cls names, vx_ot w = true)
    (hU : vx_Zq Bundle.tN "UNASSIGNED_STACK" Bundle.steD A s s.heap) (hN : vx_Zq Bundle.tN "SUPPRESSED_SENTINEL" Bundle.listD A s s.heap) (hS : va_S A s.heap H locs) (hsize : ls.size = c.maxLocals)
    (d0 : decode cc pc = .ok (.new ik, 3)) (d3 : decode cc (pc + 3) = .ok (.dup, 1)) (d4 : decode cc (pc + 4) = .ok (.invokespecial ic, 3)) (d7 : decode cc (pc + 7) = .ok (.athrow, 1))
    (hout : ∀ x ∈ c.exceptionTable.toList, covers x (pc + 7) = false)
    (hRframes : names.length + 3 < R.frames) (hRlocals : (rest.map fun v => v.category).sum + (13 * (names.length + 1) + 42) ≤ R.locals) (hRcells : cells + 1 ≤ R.cells) (hRslots : slots + 6 ≤ R.slots) (hlocks : meth.locks = false)
    (hx : ∀ t : State, s.vm.Alike t.vm → H.size ≤ t.heap.size → (∀ q : Nat, q < H.size → t.heap[q]? = H[q]?) → XC cls s t)
    (hf : ∀ z ∈ locs, free z.base) (hc : cells + 1 ≤ mc) (hs : slots + 6 ≤ ms) :
    W p l e R s m args below meth c H locs cells slots (vx_MQ below Qc XC args s mc ms free) (F0 m pc ls rest) := by
  intro T hT X
  have htr : e.platform.stackTraces = false := (show e.platform.stackTraces = l.stackTraces by rw [X.admits.platform]).trans hl
  have Y := vx_rebase X (R' := { frames := R.frames, locals := R.locals, cells := 1, slots := 6 }) (Nat.le_refl _) (Nat.le_refl _) hRcells hRslots
  obtain ⟨s', hA⟩ : ∃ z, z = (T.setVm s.vm).setFrames (.invoking m args :: below) := ⟨_, rfl⟩
  rw [← hA] at Y
  have hvm : s'.vm = s.vm := by rw [hA]; rfl
  have hhp : s'.heap = H := by rw [hA]; exact hT
  have hW0 : s.WarmedH s'.vm := by rw [hvm]; exact State.WarmedH.refl s
  have hat' : ∀ w ∈ vx_at0 own ic cls names, w.before args s' = true := fun w hw => vx_ot_at hW0 hvm.symm (hgood w (List.mem_cons_of_mem _ (List.mem_cons_of_mem _ hw))) (hat w hw)
  have hk' : (Cond.classLink own ik cls).before args s' = true := vx_ot_at hW0 hvm.symm (hgood _ List.mem_cons_self) hk
  have hini' : (Cond.initialized cls).before args s' = true := vx_ot_at hW0 hvm.symm (hgood _ (List.mem_cons_of_mem _ List.mem_cons_self)) hini
  have hU' : vx_Zq Bundle.tN "UNASSIGNED_STACK" Bundle.steD A s' s'.heap := by rw [hhp]; exact vx_Zq.moved hW0.alike (hU.kept hS.2.1)
  have hN' : vx_Zq Bundle.tN "SUPPRESSED_SENTINEL" Bundle.listD A s' s'.heap := by rw [hhp]; exact vx_Zq.moved hW0.alike (hN.kept hS.2.1)
  have h : ∀ w ∈ Bundle.ownAtoms0 own ic cls names, w.before args s' = true := vx_own hat' (vx_isRefq hU'.1) (vx_isRefq hN'.1) hU'.2.word hN'.2.word
  have hown' : s'.vm.findClass own = some m.cls := by rw [hvm]; exact hown
  have hins : (Cond.instantiable cls 6).before args s' = true := h _ (by simp [Bundle.ownAtoms0])
  obtain ⟨vm₁, cX, kX, hfX, hkX, -, -, X₁, st1⟩ := Y.newCold hexec (own := own) (C := cls) (index := ik) (n := 6) hown' hk' hins hini'
    (g := F0 m pc ls rest) rfl (by rw [hb]; exact d0) (Nat.le_refl _) (Nat.le_refl _)
  generalize hT1 : (T.setVm vm₁).pushCell { cls := cX, slots := kX.instanceTypes.map defaultValue, vm := .none } = T1 at X₁ st1
  have hcat : (Value.ref T.heap.size).category = 1 := rfl
  have hcellA : T1.heap[T.heap.size]? = some (freshCell cX kX) := by rw [← hT1]; exact State.heap_pushCell_size _ _
  have d3' : decode c.code (pc + 3) = .ok (.dup, 1) := by rw [hb]; exact d3
  obtain ⟨U, hsteps, hrun, hend, hW, hsame, ce, hce, hO⟩ := X₁.ctorThrow0 hexec htr (own := own) (cls := cls) (names := names) (ic := ic) hown' hcls hnames h (fun x hx => nomatch hx) hfX hkX hcellA (by rw [hhp, hT]; exact Nat.le_refl _)
    (g := { method := m, pc := pc + 4, locals := ls, stack := .ref T.heap.size :: .ref T.heap.size :: rest, locked := none }) rfl hsize rfl rfl (rest := rest) rfl
    (by rw [hb]; exact d4) (by rw [hb]; exact d7) hout hRframes (by simp only [List.map_cons, List.sum_cons, hcat]; omega) hlocks
  obtain ⟨f1, f2⟩ := vx_frame hsame
  rw [hhp] at f1 f2
  have hWs : s.WarmedH U.vm := State.WarmedH.trans hW0 hW
  have hcl : s.vm.findClass cls = some ce.cls := by
    have h9 := hO.cls
    rw [hvm] at h9
    exact h9
  have hall : s.sameButNew ({ U with vm := s.vm } : State) locs mc ms := by
    subst hA
    obtain ⟨e1, e2⟩ := hsame
    rw [State.setFrames_setFrames] at e1
    have h2 : (T.setVm s.vm).sameButNew ({ U with vm := s.vm } : State) [] (0 + 1) (0 + 6) := ⟨e1, e2⟩
    have h3 := X.same.trans h2
    rw [List.append_nil] at h3
    exact h3.mono hc hs
  refine ⟨U, ?_, .threw T.heap.size, hrun, hend, Or.inr ⟨T.heap.size, rfl, cls, ce, locs, hx U hWs.alike f1 (fun q hq => f2 q hq (fun z hz => nomatch hz)), hce, hO.vm, hcl, hWs, hall, hf⟩⟩
  refine st1 _ ?_
  show Steps p.tables e below (T1.setTop { method := m, pc := pc + 3, locals := ls, stack := .ref T.heap.size :: rest, locked := none }) _
  jvm_step X₁.here [X₁.here.top, hexec, d3', Value.category]
  exact hsteps
/-- 'throw new E("text")': new; dup; ldc; invokespecial; athrow -/
theorem vx_throwS {cc : ByteArray} {pc : Nat} (hexec : p.tables.exec = Jvm.exec) (hb : c.code = cc) (hl : l.stackTraces = false) {own cls text : String} {names : List String} {ik is ic mc ms sa : Nat} {A : Nat → Prop}
    (hown : s.vm.findClass own = some m.cls) (hcls : Bundle.fit cls = true) (hnames : ∀ n ∈ names, Bundle.fit n = true)
    (hk : (Cond.classLink own ik cls).before args s = true) (hini : (Cond.initialized cls).before args s = true) (hstr : vk_R own is text sa s) (hat : ∀ w ∈ vx_atS own ic cls names, w.before args s = true)
    (hgood : ∀ w ∈ Cond.classLink own ik cls :: Cond.initialized cls :: vx_atS own ic cls names, vx_ot w = true)
    (hU : vx_Zq Bundle.tN "UNASSIGNED_STACK" Bundle.steD A s s.heap) (hN : vx_Zq Bundle.tN "SUPPRESSED_SENTINEL" Bundle.listD A s s.heap) (hS : va_S A s.heap H locs) (hsize : ls.size = c.maxLocals)
    (d0 : decode cc pc = .ok (.new ik, 3)) (d3 : decode cc (pc + 3) = .ok (.dup, 1)) (d4 : decode cc (pc + 4) = .ok (.ldc is, 2)) (d6 : decode cc (pc + 6) = .ok (.invokespecial ic, 3)) (d9 : decode cc (pc + 9) = .ok (.athrow, 1))
    (hout : ∀ x ∈ c.exceptionTable.toList, covers x (pc + 9) = false)
    (hRframes : names.length + 3 < R.frames) (hRlocals : (rest.map fun v => v.category).sum + (13 * (names.length + 1) + 43) ≤ R.locals) (hRcells : cells + 1 ≤ R.cells) (hRslots : slots + 6 ≤ R.slots) (hlocks : meth.locks = false)
    (hx : ∀ t : State, s.vm.Alike t.vm → H.size ≤ t.heap.size → (∀ q : Nat, q < H.size → t.heap[q]? = H[q]?) → XC cls s t)
    (hf : ∀ z ∈ locs, free z.base) (hc : cells + 1 ≤ mc) (hs : slots + 6 ≤ ms) :
    W p l e R s m args below meth c H locs cells slots (vx_MQ below Qc XC args s mc ms free) (F0 m pc ls rest) := by
  intro T hT X
  have htr : e.platform.stackTraces = false := (show e.platform.stackTraces = l.stackTraces by rw [X.admits.platform]).trans hl
  have Y := vx_rebase X (R' := { frames := R.frames, locals := R.locals, cells := 1, slots := 6 }) (Nat.le_refl _) (Nat.le_refl _) hRcells hRslots
  obtain ⟨s', hA⟩ : ∃ z, z = (T.setVm s.vm).setFrames (.invoking m args :: below) := ⟨_, rfl⟩
  rw [← hA] at Y
  have hvm : s'.vm = s.vm := by rw [hA]; rfl
  have hhp : s'.heap = H := by rw [hA]; exact hT
  have hW0 : s.WarmedH s'.vm := by rw [hvm]; exact State.WarmedH.refl s
  have hat' : ∀ w ∈ vx_atS own ic cls names, w.before args s' = true := fun w hw => vx_ot_at hW0 hvm.symm (hgood w (List.mem_cons_of_mem _ (List.mem_cons_of_mem _ hw))) (hat w hw)
  have hk' : (Cond.classLink own ik cls).before args s' = true := vx_ot_at hW0 hvm.symm (hgood _ List.mem_cons_self) hk
  have hini' : (Cond.initialized cls).before args s' = true := vx_ot_at hW0 hvm.symm (hgood _ (List.mem_cons_of_mem _ List.mem_cons_self)) hini
  have hU' : vx_Zq Bundle.tN "UNASSIGNED_STACK" Bundle.steD A s' s'.heap := by rw [hhp]; exact vx_Zq.moved hW0.alike (hU.kept hS.2.1)
  have hN' : vx_Zq Bundle.tN "SUPPRESSED_SENTINEL" Bundle.listD A s' s'.heap := by rw [hhp]; exact vx_Zq.moved hW0.alike (hN.kept hS.2.1)
  have h : ∀ w ∈ Bundle.ownAtoms own ic cls names, w.before args s' = true := vx_own hat' (vx_isRefq hU'.1) (vx_isRefq hN'.1) hU'.2.word hN'.2.word
  have hown' : s'.vm.findClass own = some m.cls := by rw [hvm]; exact hown
  have hins : (Cond.instantiable cls 6).before args s' = true := h _ (by simp [Bundle.ownAtoms])
  obtain ⟨vm₁, cX, kX, hfX, hkX, -, -, X₁, st1⟩ := Y.newCold hexec (own := own) (C := cls) (index := ik) (n := 6) hown' hk' hins hini'
    (g := F0 m pc ls rest) rfl (by rw [hb]; exact d0) (Nat.le_refl _) (Nat.le_refl _)
  generalize hT1 : (T.setVm vm₁).pushCell { cls := cX, slots := kX.instanceTypes.map defaultValue, vm := .none } = T1 at X₁ st1
  have hcat : (Value.ref T.heap.size).category = 1 := rfl
  have hcellA : T1.heap[T.heap.size]? = some (freshCell cX kX) := by rw [← hT1]; exact State.heap_pushCell_size _ _
  have d3' : decode c.code (pc + 3) = .ok (.dup, 1) := by rw [hb]; exact d3
  have d4' : decode c.code (pc + 4) = .ok (.ldc is, 2) := by rw [hb]; exact d4
  have hstr' : vk_R own is text sa s' := vk_R.warm hW0 hstr
  obtain ⟨U, hsteps, hrun, hend, hW, hsame, ce, hce, hO⟩ := X₁.ctorThrowS hexec htr (own := own) (cls := cls) (names := names) (ic := ic) hown' hcls hnames h (fun x hx => nomatch hx) hfX hkX hcellA (by rw [hhp, hT]; exact Nat.le_refl _) (msg := .ref sa) rfl
    (g := { method := m, pc := pc + 6, locals := ls, stack := .ref sa :: .ref T.heap.size :: .ref T.heap.size :: rest, locked := none }) rfl hsize rfl rfl (rest := rest) rfl
    (by rw [hb]; exact d6) (by rw [hb]; exact d9) hout hRframes (by simp only [List.map_cons, List.sum_cons, hcat]; omega) hlocks
  obtain ⟨f1, f2⟩ := vx_frame hsame
  rw [hhp] at f1 f2
  have hWs : s.WarmedH U.vm := State.WarmedH.trans hW0 hW
  have hcl : s.vm.findClass cls = some ce.cls := by
    have h9 := hO.cls
    rw [hvm] at h9
    exact h9
  have hall : s.sameButNew ({ U with vm := s.vm } : State) locs mc ms := by
    subst hA
    obtain ⟨e1, e2⟩ := hsame
    rw [State.setFrames_setFrames] at e1
    have h2 : (T.setVm s.vm).sameButNew ({ U with vm := s.vm } : State) [] (0 + 1) (0 + 6) := ⟨e1, e2⟩
    have h3 := X.same.trans h2
    rw [List.append_nil] at h3
    exact h3.mono hc hs
  refine ⟨U, ?_, .threw T.heap.size, hrun, hend, Or.inr ⟨T.heap.size, rfl, cls, ce, locs, hx U hWs.alike f1 (fun q hq => f2 q hq (fun z hz => nomatch hz)), hce, hO.vm, hcl, hWs, hall, hf⟩⟩
  refine st1 _ ?_
  show Steps p.tables e below (T1.setTop { method := m, pc := pc + 3, locals := ls, stack := .ref T.heap.size :: rest, locked := none }) _
  jvm_step X₁.here [X₁.here.top, hexec, d3', Value.category]
  exact X₁.ldcString hexec (own := own) (text := text) (index := is) (a := sa) hown' hstr'.1 hstr'.2
    (g := { method := m, pc := pc + 4, locals := ls, stack := .ref T.heap.size :: .ref T.heap.size :: rest, locked := none }) rfl d4' _ hsteps
/-- 'throw new E("text")', the text by a wide index -/
theorem vx_throwSW {cc : ByteArray} {pc : Nat} (hexec : p.tables.exec = Jvm.exec) (hb : c.code = cc) (hl : l.stackTraces = false) {own cls text : String} {names : List String} {ik is ic mc ms sa : Nat} {A : Nat → Prop}
    (hown : s.vm.findClass own = some m.cls) (hcls : Bundle.fit cls = true) (hnames : ∀ n ∈ names, Bundle.fit n = true)
    (hk : (Cond.classLink own ik cls).before args s = true) (hini : (Cond.initialized cls).before args s = true) (hstr : vk_R own is text sa s) (hat : ∀ w ∈ vx_atS own ic cls names, w.before args s = true)
    (hgood : ∀ w ∈ Cond.classLink own ik cls :: Cond.initialized cls :: vx_atS own ic cls names, vx_ot w = true)
    (hU : vx_Zq Bundle.tN "UNASSIGNED_STACK" Bundle.steD A s s.heap) (hN : vx_Zq Bundle.tN "SUPPRESSED_SENTINEL" Bundle.listD A s s.heap) (hS : va_S A s.heap H locs) (hsize : ls.size = c.maxLocals)
    (d0 : decode cc pc = .ok (.new ik, 3)) (d3 : decode cc (pc + 3) = .ok (.dup, 1)) (d4 : decode cc (pc + 4) = .ok (.ldc_w is, 3)) (d7 : decode cc (pc + 7) = .ok (.invokespecial ic, 3)) (d10 : decode cc (pc + 10) = .ok (.athrow, 1))
    (hout : ∀ x ∈ c.exceptionTable.toList, covers x (pc + 10) = false)
    (hRframes : names.length + 3 < R.frames) (hRlocals : (rest.map fun v => v.category).sum + (13 * (names.length + 1) + 43) ≤ R.locals) (hRcells : cells + 1 ≤ R.cells) (hRslots : slots + 6 ≤ R.slots) (hlocks : meth.locks = false)
    (hx : ∀ t : State, s.vm.Alike t.vm → H.size ≤ t.heap.size → (∀ q : Nat, q < H.size → t.heap[q]? = H[q]?) → XC cls s t)
    (hf : ∀ z ∈ locs, free z.base) (hc : cells + 1 ≤ mc) (hs : slots + 6 ≤ ms) :
    W p l e R s m args below meth c H locs cells slots (vx_MQ below Qc XC args s mc ms free) (F0 m pc ls rest) := by
  intro T hT X
  have htr : e.platform.stackTraces = false := (show e.platform.stackTraces = l.stackTraces by rw [X.admits.platform]).trans hl
  have Y := vx_rebase X (R' := { frames := R.frames, locals := R.locals, cells := 1, slots := 6 }) (Nat.le_refl _) (Nat.le_refl _) hRcells hRslots
  obtain ⟨s', hA⟩ : ∃ z, z = (T.setVm s.vm).setFrames (.invoking m args :: below) := ⟨_, rfl⟩
  rw [← hA] at Y
  have hvm : s'.vm = s.vm := by rw [hA]; rfl
  have hhp : s'.heap = H := by rw [hA]; exact hT
  have hW0 : s.WarmedH s'.vm := by rw [hvm]; exact State.WarmedH.refl s
  have hat' : ∀ w ∈ vx_atS own ic cls names, w.before args s' = true := fun w hw => vx_ot_at hW0 hvm.symm (hgood w (List.mem_cons_of_mem _ (List.mem_cons_of_mem _ hw))) (hat w hw)
  have hk' : (Cond.classLink own ik cls).before args s' = true := vx_ot_at hW0 hvm.symm (hgood _ List.mem_cons_self) hk
  have hini' : (Cond.initialized cls).before args s' = true := vx_ot_at hW0 hvm.symm (hgood _ (List.mem_cons_of_mem _ List.mem_cons_self)) hini
  have hU' : vx_Zq Bundle.tN "UNASSIGNED_STACK" Bundle.steD A s' s'.heap := by rw [hhp]; exact vx_Zq.moved hW0.alike (hU.kept hS.2.1)
  have hN' : vx_Zq Bundle.tN "SUPPRESSED_SENTINEL" Bundle.listD A s' s'.heap := by rw [hhp]; exact vx_Zq.moved hW0.alike (hN.kept hS.2.1)
  have h : ∀ w ∈ Bundle.ownAtoms own ic cls names, w.before args s' = true := vx_own hat' (vx_isRefq hU'.1) (vx_isRefq hN'.1) hU'.2.word hN'.2.word
  have hown' : s'.vm.findClass own = some m.cls := by rw [hvm]; exact hown
  have hins : (Cond.instantiable cls 6).before args s' = true := h _ (by simp [Bundle.ownAtoms])
  obtain ⟨vm₁, cX, kX, hfX, hkX, -, -, X₁, st1⟩ := Y.newCold hexec (own := own) (C := cls) (index := ik) (n := 6) hown' hk' hins hini'
    (g := F0 m pc ls rest) rfl (by rw [hb]; exact d0) (Nat.le_refl _) (Nat.le_refl _)
  generalize hT1 : (T.setVm vm₁).pushCell { cls := cX, slots := kX.instanceTypes.map defaultValue, vm := .none } = T1 at X₁ st1
  have hcat : (Value.ref T.heap.size).category = 1 := rfl
  have hcellA : T1.heap[T.heap.size]? = some (freshCell cX kX) := by rw [← hT1]; exact State.heap_pushCell_size _ _
  have d3' : decode c.code (pc + 3) = .ok (.dup, 1) := by rw [hb]; exact d3
  have d4' : decode c.code (pc + 4) = .ok (.ldc_w is, 3) := by rw [hb]; exact d4
  have hstr' : vk_R own is text sa s' := vk_R.warm hW0 hstr
  obtain ⟨U, hsteps, hrun, hend, hW, hsame, ce, hce, hO⟩ := X₁.ctorThrowS hexec htr (own := own) (cls := cls) (names := names) (ic := ic) hown' hcls hnames h (fun x hx => nomatch hx) hfX hkX hcellA (by rw [hhp, hT]; exact Nat.le_refl _) (msg := .ref sa) rfl
    (g := { method := m, pc := pc + 7, locals := ls, stack := .ref sa :: .ref T.heap.size :: .ref T.heap.size :: rest, locked := none }) rfl hsize rfl rfl (rest := rest) rfl
    (by rw [hb]; exact d7) (by rw [hb]; exact d10) hout hRframes (by simp only [List.map_cons, List.sum_cons, hcat]; omega) hlocks
  obtain ⟨f1, f2⟩ := vx_frame hsame
  rw [hhp] at f1 f2
  have hWs : s.WarmedH U.vm := State.WarmedH.trans hW0 hW
  have hcl : s.vm.findClass cls = some ce.cls := by
    have h9 := hO.cls
    rw [hvm] at h9
    exact h9
  have hall : s.sameButNew ({ U with vm := s.vm } : State) locs mc ms := by
    subst hA
    obtain ⟨e1, e2⟩ := hsame
    rw [State.setFrames_setFrames] at e1
    have h2 : (T.setVm s.vm).sameButNew ({ U with vm := s.vm } : State) [] (0 + 1) (0 + 6) := ⟨e1, e2⟩
    have h3 := X.same.trans h2
    rw [List.append_nil] at h3
    exact h3.mono hc hs
  refine ⟨U, ?_, .threw T.heap.size, hrun, hend, Or.inr ⟨T.heap.size, rfl, cls, ce, locs, hx U hWs.alike f1 (fun q hq => f2 q hq (fun z hz => nomatch hz)), hce, hO.vm, hcl, hWs, hall, hf⟩⟩
  refine st1 _ ?_
  show Steps p.tables e below (T1.setTop { method := m, pc := pc + 3, locals := ls, stack := .ref T.heap.size :: rest, locked := none }) _
  jvm_step X₁.here [X₁.here.top, hexec, d3', Value.category]
  exact X₁.ldcStringW hexec (own := own) (text := text) (index := is) (a := sa) hown' hstr'.1 hstr'.2
    (g := { method := m, pc := pc + 4, locals := ls, stack := .ref T.heap.size :: .ref T.heap.size :: rest, locked := none }) rfl d4' _ hsteps
end Ends
section Bodies
variable {l : Launch}
theorem vx_ofW {y : MethodName} {ws ws' : List Cond} {rm : Room} {Pc : Array Value → State → Prop} {Qc : Array Value → State → Outcome → State → Prop} {XC : String → State → State → Prop} {mc ms : Nat} {free : Addr → Prop} {cc : ByteArray} {maxL : Nat} {ret : Option FieldType}
    (hy : plainName y.cls = true) (hw : ws = Cond.code y cc maxL ret :: ws')
    (body : ∀ p e s m args below meth c s₁, BodyLoose p l y (headSpec ws rm) cc maxL ret e s m args below meth c s₁ → c.maxLocals = maxL → (∀ x ∈ c.exceptionTable.toList, False) → Pc args s →
      W p l e (headSpec ws rm).room s m args below meth c s.heap [] 0 0 (vx_MQ below Qc XC args s mc ms free) (entryFrame m args maxL)) : vx_Met l y ws rm Pc Qc XC mc ms free := by
  refine MetFree.of_bodyS (code := cc) (maxLocals := maxL) (ret := ret) hy ?_ ?_
  · intro args s m h hn
    obtain ⟨meth, c, h1, h2, h3, h4, h5, h6, -, -⟩ := Cond.code_spec hn (atoms_spec (ws := ws) h _ (by rw [hw]; exact List.mem_cons_self))
    exact ⟨meth, c, h1, h2, h3, h4, h5, h6⟩
  · intro p e s m args below meth c s₁ B hml hP _
    have hh0 : s₁.heap = s.heap := by rw [B.state]; rfl
    have ht : ∀ x ∈ c.exceptionTable.toList, False := by
      obtain ⟨meth9, c9, h1, h2, -, -, -, -, h7, -⟩ := Cond.code_spec B.named (atoms_spec (ws := ws) B.pre _ (by rw [hw]; exact List.mem_cons_self))
      cases Option.some.inj (h1.symm.trans B.method)
      cases Option.some.inj (h2.symm.trans (Stand.of_body B).code)
      intro x hx
      rw [Array.isEmpty_iff.mp h7] at hx
      cases hx
    obtain ⟨t, a1, o, b1, b2, b3⟩ := body p e s m args below meth c s₁ B hml ht hP s₁ hh0 (Stand.of_body B)
    exact ⟨t, o, a1, b1, b2, b3⟩
/-- the table of a body with handlers -/
theorem vx_table {p : Program} {x y : MethodName} {S : Spec} {cc bytes : ByteArray} {maxL maxL' : Nat} {ret ret' : Option FieldType} {e : Env} {s s₁ : State} {m : MethodId} {args : Array Value} {below : List Frame} {meth : Method} {c : Code} {hh : List (Nat × Nat × Nat × Nat)}
    (B : BodyLoose p l y S cc maxL ret e s m args below meth c s₁) (h : (Cond.codeWith y bytes maxL' ret' hh).before args s = true) : c.exceptionTable.toList = tableOf hh := by
  obtain ⟨m9, meth9, c9, hn9, h1, h2, -, -, h6, -⟩ := Cond.codeWith_spec h
  cases Option.some.inj (hn9.symm.trans B.named)
  cases Option.some.inj (h1.symm.trans B.method)
  cases Option.some.inj (h2.symm.trans (Stand.of_body B).code)
  rw [← h6, table_eq]
end Bodies
end VXA
/-! ===== END ===== -/
/-! ===== BEGIN a static call of a method with an exception table ===== -/
section VXS
variable {p : Program} {l : Launch} {e : Env} {R : Room} {s : State} {m : MethodId} {args : Array Value} {below : List Frame} {meth : Method} {c : Code} {T : State} {H : Heap} {locs : List Loc} {cells slots : Nat}
abbrev vx_CSW (R : Room) (s : State) (args : Array Value) (own : String) (index : Nat) (y : MethodName) (bytes : ByteArray) (maxL : Nat) (ret : Option FieldType) (hh : List (Nat × Nat × Nat × Nat)) (ws : List Cond) (rm : Room) (mc ms n : Nat) : Prop :=
  (rm.cells = mc ∧ rm.slots = ms ∧ rm.frames + 1 ≤ R.frames ∧ 8 + (maxL + 11) + rm.locals ≤ R.locals ∧ (∀ w ∈ ws, ∀ (a' : Array Value) (U : State), s.WarmedH U.vm → w.before a' U = true) ∧ Cond.codeWith y bytes maxL ret hh ∈ ws) ∧
  (Cond.codeWith y bytes maxL ret hh).before args s = true ∧ (Cond.initialized y.cls).before args s = true ∧ (y.cls ≠ "java/lang/invoke/MethodHandle" ∧ y.cls ≠ "java/lang/invoke/VarHandle") ∧
  (∀ sig, parseMethodDescriptor y.desc = some sig → n = sig.parameters.length) ∧ (Cond.methodLink own index y).before args s = true ∧ (Cond.static y).before args s = true
theorem vx_cwSW {own : String} {index maxL mc ms : Nat} {y : MethodName} {bytes : ByteArray} {ret : Option FieldType} {hh : List (Nat × Nat × Nat × Nat)} {Ts ws ws' : List Cond} {rm : Room} (n : Nat) (ht : ∀ w ∈ Ts, w.before args s = true) (hT : GoodIn Ts (va_wsS own index y ws)) (hw : ws = Cond.codeWith y bytes maxL ret hh :: ws') (hrc : rm.cells = mc) (hrs : rm.slots = ms)
    (hd : y.cls ≠ "java/lang/invoke/MethodHandle" ∧ y.cls ≠ "java/lang/invoke/VarHandle" ∧ (parseMethodDescriptor y.desc).map (fun d => d.parameters.length) = some n) (hR : rm.frames + 1 ≤ R.frames ∧ 8 + (maxL + 11) + rm.locals ≤ R.locals) :
    vx_CSW R s args own index y bytes maxL ret hh ws rm mc ms n := by
  have ok : ∀ w ∈ va_wsS own index y ws, w.before args s = true := fun w h => ht w (hT w h).1
  have hG : GoodIn Ts ws := fun w h => hT w (by unfold va_wsS; exact List.mem_append_right _ h)
  have hc : Cond.codeWith y bytes maxL ret hh ∈ ws := by rw [hw]; exact List.mem_cons_self
  refine ⟨⟨hrc, hrs, hR.1, hR.2, pay_in ht hG, hc⟩, ht _ (hG _ hc).1, ok _ (by simp [va_wsS]), ⟨hd.1, hd.2.1⟩, fun sig h => ?_, ok _ (by simp [va_wsS]), ok _ (by simp [va_wsS])⟩
  have h2 := hd.2.2
  rw [h] at h2
  exact (Option.some.inj h2).symm
theorem vx_callSW (X : Stand p l e R s m args below meth c T locs cells slots) (hexec : p.tables.exec = Jvm.exec) {own : String} {index : Nat} {y : MethodName} {bytes : ByteArray} {maxL : Nat} {ret : Option FieldType} {hh : List (Nat × Nat × Nat × Nat)}
    (hown : s.vm.findClass own = some m.cls) (hlink : (Cond.methodLink own index y).before args s = true) (hstat : (Cond.static y).before args s = true) (hinit : (Cond.initialized y.cls).before args s = true)
    (hcode : (Cond.codeWith y bytes maxL ret hh).before args s = true) (hy : y.cls ≠ "java/lang/invoke/MethodHandle" ∧ y.cls ≠ "java/lang/invoke/VarHandle")
    {W9 : Nat} {Pre : Pt → Array Value → Prop} {Post : Pt → Array Value → Option Value → Pt → Prop} (hK : Back l R p e below s args y 3 W9 Pre Post)
    {g : JFrame} (hg : g.method = m) (hsize : g.locals.size = c.maxLocals) {argsL rest : List Value} (hlen : ∀ sig, parseMethodDescriptor y.desc = some sig → argsL.length = sig.parameters.length)
    (hstack : g.stack = argsL.reverse ++ rest) (hW : 2 * g.monitorRoom + (rest.map fun v => v.category).sum ≤ W9) (hdg : decode c.code g.pc = .ok (.invokestatic index, 3))
    (hpre : ∀ vm₁, s.WarmedH vm₁ → Pre ⟨T.setVm vm₁, locs, cells, slots⟩ argsL.toArray) :
    ∃ (v : Option Value) (vm₁ : Vm) (B : Pt), s.WarmedH vm₁ ∧ Stand p l e R s m args below meth c B.U B.locs B.cells B.slots ∧ Post ⟨T.setVm vm₁, locs, cells, slots⟩ argsL.toArray v B ∧
      ∀ target, Steps p.tables e below (B.U.setTop { g with pc := g.pc + 3, stack := v.toList ++ rest }) target → Steps p.tables e below (T.setTop g) target := by
  obtain ⟨mk, methM, cM, hnamed, hmethM, -, -, -, -, -, -, hsigM⟩ := Cond.codeWith_spec hcode
  have hstatic : methM.isStatic = true := Cond.static_spec hnamed hmethM hstat
  obtain ⟨kP, hkP, -⟩ := className_of_methodNamed hnamed
  have hinitP : kP.init = .initialized := Cond.initialized_spec (findClass_of_methodNamed hnamed) hkP hinit
  obtain ⟨vm₁, X₁, hstep₁⟩ := X.invokestatic hexec hown hlink hnamed hmethM hstatic hkP hinitP hy (g := g) hg (argsL := argsL) (rest := rest) (hlen _ hsigM) hstack hdg
  obtain ⟨v, B, X', hpost, hsteps⟩ := hK m meth c ⟨T.setVm vm₁, locs, cells, slots⟩ { g with stack := rest } (.invokestatic index) mk argsL.toArray X₁ hg hsize hdg hW (X₁.named hnamed) (hpre vm₁ X₁.warmed)
  exact ⟨v, vm₁, B, X₁.warmed, X', hpost, fun target h => hstep₁ _ fun acts => by rw [doInvoke_state]; exact hsteps.trans h⟩
theorem vx_runSW {y : MethodName} {bytes cc : ByteArray} {maxL nL mc ms n index : Nat} {ret : Option FieldType} {hh : List (Nat × Nat × Nat × Nat)} {ws : List Cond} {rm : Room} {Pc : Array Value → State → Prop} {Qc : Array Value → State → Outcome → State → Prop} {free : Addr → Prop} {Ts : List Cond} {own : String} {As rest : List Value} {g : JFrame}
    (S : CallFix p m c cc nL s args Ts own) (hM : Met l y ws rm Pc Qc mc ms free) (cw : vx_CSW R s args own index y bytes maxL ret hh ws rm mc ms n) (hp : PreS s H Pc As)
    (hg : g.method = m) (hn : As.length = n) (hsize : g.locals.size = nL) (hstack : g.stack = As.reverse ++ rest) (hW : 2 * g.monitorRoom + (rest.map fun v => v.category).sum ≤ 8) (hdg : decode cc g.pc = .ok (.invokestatic index, 3)) (hf : cells + mc ≤ R.cells ∧ slots + ms ≤ R.slots) :
    va_Run p l e R s m args below meth c H locs cells slots mc ms g rest (Qc As.toArray) (free) := by
  obtain ⟨⟨hrc, hrs, hfr, hlo, hws, hcw⟩, hcode, hini, hy, hlen, hl, hstt⟩ := cw
  have hK : Back l R p e below s args y 3 8 (PreOf R mc ms Pc) (PostOf Qc mc ms free) := va_backW (hh := hh) (bytes := bytes) (maxL := maxL) (ret := ret) hM hp.1 hrc hrs hfr hlo hws hcw (fun a' U hW => word_at hW (Or.inl (by first | rfl | simp [Cond.onTables, Cond.keeps, Cond.steady])) hini)
  obtain ⟨hx, hb, hml, ho, -⟩ := S
  intro T hT X
  obtain ⟨v, vm₁, ⟨U', l2, c2, s2⟩, hW₁, X', ⟨g', mk, t, L, e1, e2, hq, h1, hL, h2, h3⟩, st⟩ := vx_callSW X hx (hh := hh) (bytes := bytes) (maxL := maxL) (ret := ret) ho hl hstt hini hcode hy hK hg (hsize.trans hml.symm) (argsL := As) (rest := rest) (fun sig h => hn.trans (hlen sig h)) hstack hW (by rw [hb]; exact hdg)
    (fun vm₁ hW₁ => ⟨hf.1, hf.2, hp.2 (T.setVm vm₁) hT hW₁⟩)
  dsimp only [Pt.U, Pt.locs, Pt.cells, Pt.slots] at X' e1 e2 h1 h2 h3 st
  subst h1; subst h2; subst h3
  exact ⟨v, (T.setVm vm₁).calling g' mk As.toArray, t, U', L, hT, X', hL, e1, e2, hq, st⟩
/-- not caught here, past rows that name other classes: it goes on to the caller -/
theorem vx_outP {p : Program} {l : Launch} {e : Env} {R : Room} {s : State} {m : MethodId} {args : Array Value} {below : List Frame} {meth : Method} {c : Code} {H : Heap} {locs : List Loc} {cells slots : Nat} {free : Addr → Prop} {ls : Array Slot} {rest : List Value} {Qc : Array Value → State → Outcome → State → Prop} {XC : String → State → State → Prop}
    {pc : Nat} {own E : String} {ce : Cell} {q : Addr} {mc ms : Nat} (hown : s.vm.findClass own = some m.cls) (hlocks : meth.locks = false)
    (hpass : ∀ z ∈ c.exceptionTable.toList, covers z pc = false ∨ (z.catchType ≠ 0 ∧ ∃ nm : String, (Cond.classLink own z.catchType nm).before args s = true ∧ va_Nc E nm s)) (hcell : H[q]? = some ce) (hv : ce.vm = .none) (hcl : s.vm.findClass E = some ce.cls)
    (hx : ∀ t : State, t.heap = H → s.vm.Alike t.vm → XC E s t) (hf : ∀ z ∈ locs, free z.base) (hc : cells ≤ mc) (hs : slots ≤ ms) :
    vx_W p l e R s m args below meth c H locs cells slots (vx_MQ below Qc XC args s mc ms free) (F0 m pc ls rest) q := by
  intro T hT X
  have hpl : e.platform.magicAccessors = ({} : Platform).magicAccessors := by rw [X.admits.platform]
  obtain ⟨vm', hW', X', st⟩ := X.outThrough hlocks q (g := F0 m pc ls rest) rfl rfl rfl (cell := ce) (by rw [hT]; exact hcell) (by rw [hv]; rfl)
    (by obtain ⟨k9, h9, -⟩ := Vm.findClass_spec hcl; exact ⟨k9, h9⟩) (fun z hz => by
      rcases hpass z hz with h | ⟨hz0, nm, hl1, hn1⟩
      · exact Or.inl h
      · obtain ⟨c6, hc6, hcl6⟩ := Cond.classLink_spec hown hl1 e.platform hpl
        obtain ⟨a8, b8, h1, h2, h3⟩ := hn1
        cases Option.some.inj (h1.symm.trans hcl)
        cases Option.some.inj (h2.symm.trans hc6)
        exact Or.inr ⟨hz0, _, hcl6, h3⟩)
  obtain ⟨g₀, hfr⟩ := X'.frames_eq
  have hcell9 : ((T.setVm vm').setFrames (.throwing q :: below)).heap[q]? = some ce := by
    show T.heap[q]? = some ce
    rw [hT]; exact hcell
  have hend : Ended ((T.setVm vm').setFrames (.throwing q :: below)) below (.threw q) := State.frames_setFrames _ (State.cur_lt_of_frames hfr)
  refine ⟨(T.setVm vm').setFrames (.throwing q :: below), ?_, .threw q, X'.here.running, hend, Or.inr ⟨q, rfl, E, ce, locs, hx _ hT (X'.ends _).1.alike, hcell9, hv, hcl, (X'.ends _).1, (X'.ends _).2.mono hc hs, hf⟩⟩
  rw [X.pushThrowing_eq]
  exact st
/-- a thing of a world lies in the heap -/
theorem vx_lt {D : va_G} {cl : List vw_C} {ws : va_W} {H1 : Heap} (h : va_P D cl ws H1) {k : Nat} {q : Nat × va_E} (hk : ws[k]? = some q) : q.1 < H1.size := (h k q hk).lt
end VXS
/-! ===== END ===== -/
/-! ===== BEGIN methods with a table of their own: called by a name, returning or throwing ===== -/
section VXH
/-! vx_backW, vx_callVX, vx_callSX, vx_callVW, vx_runVW, vx_runVX, vx_runSX, vx_ofWH follow the same proofs as their sisters above (Free/Laws.lean, Shelf42/LK1.lean); vx_outP calls Shelf42/NT130.lean (outThrough). -/
section
variable {l : Launch} {R : Room} {p : Program} {e : Env} {below : List Frame} {s : State} {sargs : Array Value} {y : MethodName} {len W9 : Nat}
theorem vx_backW {ws : List Cond} {rm : Room} {Pc : Array Value → State → Prop} {Qc : Array Value → State → Outcome → State → Prop} {XC : String → State → State → Prop} {mc ms : Nat} {free : Addr → Prop} {bytes : ByteArray} {maxL : Nat} {ret : Option FieldType} {hh : List (Nat × Nat × Nat × Nat)}
    (hM : vx_Met l y ws rm Pc Qc XC mc ms free) (hblind : FrameBlind Pc) (hrc : rm.cells = mc) (hrs : rm.slots = ms)
    (hframes : rm.frames + 1 ≤ R.frames) (hlocals : W9 + (maxL + 11) + rm.locals ≤ R.locals)
    (hws : ∀ w ∈ ws, ∀ a' U, s.WarmedH U.vm → w.before a' U = true) (hcode : Cond.codeWith y bytes maxL ret hh ∈ ws) (hinit : ∀ a' U, s.WarmedH U.vm → (Cond.initialized y.cls).before a' U = true) :
    vx_Back l R p e below s sargs y len W9 (PreOf R mc ms Pc) (PostOf Qc mc ms free) (vx_Post XC mc ms free) := by
  intro m meth c A g ig mk a X hg hsize hdg hW hn hp
  have h1 : (headSpec ws rm).pre.before a A.U = true := atoms_intro fun w hw => hws w hw _ _ X.warmed
  have h2 : (Cond.codeWith y bytes maxL ret hh).before a A.U = true := hws _ hcode _ _ X.warmed
  have h3 : (Cond.initialized y.cls).before a A.U = true := hinit _ _ X.warmed
  have h4 : A.cells + (headSpec ws rm).room.cells ≤ R.cells := by rw [show (headSpec ws rm).room.cells = mc from hrc]; exact hp.1
  have h5 : A.slots + (headSpec ws rm).room.slots ≤ R.slots := by rw [show (headSpec ws rm).room.slots = ms from hrs]; exact hp.2.1
  have hPc : Pc a (A.U.calling g mk a) := hblind _ _ _ _ hp.2.2
  obtain ⟨U, Ls, c0, s0⟩ := A
  dsimp only [Pt.U, Pt.locs, Pt.cells, Pt.slots] at h1 h2 h3 h4 h5 X hn hPc ⊢
  obtain ⟨m9, methY, cY, hn9, hmY, hcY, -, hlY, -⟩ := Cond.codeWith_spec h2
  cases Option.some.inj (hn9.symm.trans hn)
  obtain ⟨kY, hkY, -⟩ := className_of_methodNamed hn
  have hinitY : kY.init = .initialized := Cond.initialized_spec (findClass_of_methodNamed hn) hkY h3
  have h : At U g.method c below := by rw [hg]; exact X.here
  have hlocals9 : W9 + (maxL + 11) + (headSpec ws rm).room.locals ≤ R.locals := hlocals
  have happ : (headSpec ws rm).appliesLoose y e.platform (U.calling g mk a) = true :=
    Spec.appliesLoose_calling (g := g) h hdg hn hkY hinitY
      (X.room_calling (g := g) (R' := (headSpec ws rm).room) hsize hmY hcY hframes (by rw [hlY]; omega) h4 h5) h1
  obtain ⟨mid, hmid⟩ := h.above
  have hfr : (U.setTop g).frames = (.java g :: mid) ++ below := by rw [State.frames_setTop' g h.top, hmid]; rfl
  obtain ⟨o, s₂, hsteps, -, hend, hq⟩ := Steps.callFree hM p X.admits X.cas X.clock (acts := []) hfr happ hPc trivial
  have hq' : vx_Q Qc XC mc ms free a (U.calling g mk a) o s₂ := hq
  rw [State.frames_setTop' g h.top] at hend
  obtain ⟨g₀, hg0⟩ := Option.isSome_iff_exists.mp h.top
  obtain ⟨r, hr⟩ := State.topJava?_eq_some.mp hg0
  have hr' : (({ U with heap := s₂.heap, slotsUsed := s₂.slotsUsed } : State).setVm s₂.vm).frames = .java g₀ :: r := hr
  rcases hq' with ⟨hqc, L, hfe, hL⟩ | ⟨q, rfl, E, ce, L, hx, hce, hcv, hcl, hW₂, hsm, hL⟩
  · obtain ⟨⟨v, rfl⟩, hW₂, e2, q2, q3, q4, q5, q6⟩ := id hfe
    have e3 : s₂ = ({ (U.calling g mk a).setFrames s₂.frames with heap := s₂.heap, slotsUsed := s₂.slotsUsed } : State).setVm s₂.vm := by
      have : s₂ = ({ s₂ with vm := (U.calling g mk a).vm } : State).setVm s₂.vm := rfl
      rw [e2] at this
      exact this
    obtain ⟨c₂, i₂, len₂, hc₂, hd₂, hf₂⟩ := hend
    have hW' : U.WarmedH s₂.vm := hW₂
    have hcc : c₂ = c := by
      have h1 : s₂.code? g.method = U.code? g.method := by
        rw [State.code?_eq, State.code?_eq, hW'.alike.method?]
      exact Option.some.inj (hc₂.symm.trans (h1.trans h.code))
    subst hcc
    have hlen : len₂ = len := by rw [hdg] at hd₂; cases hd₂; rfl
    subst hlen
    have hs₂ : s₂ = (({ U with heap := s₂.heap, slotsUsed := s₂.slotsUsed } : State).setVm s₂.vm).setTop { g with pc := g.pc + len₂, stack := v.toList ++ g.stack } := by
      refine e3.trans ?_
      rw [hf₂, State.calling_eq h.top, State.setFrames_setFrames, State.setTop_of_frames _ hr', hr]
      rfl
    have hsame : U.sameButNew ({ U with heap := s₂.heap, slotsUsed := s₂.slotsUsed } : State) L mc ms := by
      refine ⟨?_, q2, q3, q4, q5, q6⟩
      obtain ⟨t, ht, -⟩ := State.frames_cons hr
      show ({ U with heap := s₂.heap, slotsUsed := s₂.slotsUsed } : State) = { U.setFrames U.frames with heap := s₂.heap, slotsUsed := s₂.slotsUsed }
      rw [State.setFrames_self ht]
    subst hg
    refine Or.inl ⟨v, ⟨(({ U with heap := s₂.heap, slotsUsed := s₂.slotsUsed } : State).setVm s₂.vm), Ls ++ L, c0 + mc, s0 + ms⟩,
      ⟨X.admits, X.cas, X.clock, X.frames, X.room, X.hears, X.method, X.code, (X.here.setHeapUsed s₂.heap s₂.slotsUsed).setVm hW'.alike, X.tail, State.WarmedH.trans X.warmed hW', X.limits, X.bytes, X.same.trans (hsame.setVm s.vm)⟩,
      ⟨g, mk, s₂, L, rfl, rfl, hqc, rfl, hL, rfl, rfl⟩, ?_⟩
    show Steps p.tables e below _ ((({ U with heap := s₂.heap, slotsUsed := s₂.slotsUsed } : State).setVm s₂.vm).setTop { g with pc := g.pc + len₂, stack := v.toList ++ g.stack })
    rw [← hs₂]
    exact hsteps
  · obtain ⟨e2, q2, q3, q4, q5, q6⟩ := id hsm
    have e3 : s₂ = ({ (U.calling g mk a).setFrames s₂.frames with heap := s₂.heap, slotsUsed := s₂.slotsUsed } : State).setVm s₂.vm := by
      have : s₂ = ({ s₂ with vm := (U.calling g mk a).vm } : State).setVm s₂.vm := rfl
      rw [e2] at this
      exact this
    have hf₂ : s₂.frames = .throwing q :: .java g :: U.frames.tail := hend
    have hW' : U.WarmedH s₂.vm := hW₂
    have hs₂ : s₂ = ((({ U with heap := s₂.heap, slotsUsed := s₂.slotsUsed } : State).setVm s₂.vm).setTop g).pushFrame (.throwing q) := by
      refine e3.trans ?_
      rw [hf₂, State.calling_eq h.top, State.setFrames_setFrames, State.pushFrame, State.frames_setTop _ hr', State.setTop_of_frames _ hr', State.setFrames_setFrames, hr]
      rfl
    have hsame : U.sameButNew ({ U with heap := s₂.heap, slotsUsed := s₂.slotsUsed } : State) L mc ms := by
      refine ⟨?_, q2, q3, q4, q5, q6⟩
      obtain ⟨t, ht, -⟩ := State.frames_cons hr
      show ({ U with heap := s₂.heap, slotsUsed := s₂.slotsUsed } : State) = { U.setFrames U.frames with heap := s₂.heap, slotsUsed := s₂.slotsUsed }
      rw [State.setFrames_self ht]
    subst hg
    refine Or.inr ⟨q, ⟨(({ U with heap := s₂.heap, slotsUsed := s₂.slotsUsed } : State).setVm s₂.vm), Ls ++ L, c0 + mc, s0 + ms⟩,
      ⟨X.admits, X.cas, X.clock, X.frames, X.room, X.hears, X.method, X.code, (X.here.setHeapUsed s₂.heap s₂.slotsUsed).setVm hW'.alike, X.tail, State.WarmedH.trans X.warmed hW', X.limits, X.bytes, X.same.trans (hsame.setVm s.vm)⟩,
      ⟨g, mk, s₂, L, E, ce, rfl, rfl, hx, hce, hcv, hcl, rfl, hL, rfl, rfl⟩, ?_⟩
    show Steps p.tables e below _ (((({ U with heap := s₂.heap, slotsUsed := s₂.slotsUsed } : State).setVm s₂.vm).setTop g).pushFrame (.throwing q))
    rw [← hs₂]
    exact hsteps
end
variable {p : Program} {l : Launch} {e : Env} {R : Room} {s : State} {m : MethodId} {args : Array Value} {below : List Frame} {meth : Method} {c : Code} {T : State} {H : Heap} {locs : List Loc} {cells slots : Nat}
theorem vx_callVX (X : Stand p l e R s m args below meth c T locs cells slots) (hexec : p.tables.exec = Jvm.exec) {own C : String} {index : Nat} {y : MethodName} {bytes : ByteArray} {maxL : Nat} {ret : Option FieldType} {hh : List (Nat × Nat × Nat × Nat)}
    (hown : s.vm.findClass own = some m.cls) (hlink : (Cond.methodLink own index y).before args s = true) (hinst : (Cond.instanceMethod y).before args s = true) (hsel : (Cond.selects C y y).before args s = true)
    (hcode : (Cond.codeWith y bytes maxL ret hh).before args s = true) (hy : y.cls ≠ "java/lang/invoke/MethodHandle" ∧ y.cls ≠ "java/lang/invoke/VarHandle")
    {W9 : Nat} {Pre : Pt → Array Value → Prop} {Post : Pt → Array Value → Option Value → Pt → Prop} {PostX : Pt → Array Value → Addr → Pt → Prop} (hK : vx_Back l R p e below s args y 3 W9 Pre Post PostX)
    {b : Addr} {cellB : Cell} (hcell : T.heap[b]? = some cellB) (hobj : cellB.vm.isStatics = false) (hcls : s.vm.findClass C = some cellB.cls)
    {g : JFrame} (hg : g.method = m) (hsize : g.locals.size = c.maxLocals) {argsL rest : List Value} (hlen : ∀ sig, parseMethodDescriptor y.desc = some sig → argsL.length = sig.parameters.length)
    (hstack : g.stack = argsL.reverse ++ .ref b :: rest) (hW : 2 * g.monitorRoom + (rest.map fun v => v.category).sum ≤ W9) (hdg : decode c.code g.pc = .ok (.invokevirtual index, 3))
    (hpre : ∀ vm₁, s.WarmedH vm₁ → Pre ⟨T.setVm vm₁, locs, cells, slots⟩ (Value.ref b :: argsL).toArray) :
    (∃ (v : Option Value) (vm₁ : Vm) (B : Pt), s.WarmedH vm₁ ∧ Stand p l e R s m args below meth c B.U B.locs B.cells B.slots ∧ Post ⟨T.setVm vm₁, locs, cells, slots⟩ (Value.ref b :: argsL).toArray v B ∧
      ∀ target, Steps p.tables e below (B.U.setTop { g with pc := g.pc + 3, stack := v.toList ++ rest }) target → Steps p.tables e below (T.setTop g) target) ∨
    (∃ (q : Addr) (vm₁ : Vm) (B : Pt), s.WarmedH vm₁ ∧ Stand p l e R s m args below meth c B.U B.locs B.cells B.slots ∧ PostX ⟨T.setVm vm₁, locs, cells, slots⟩ (Value.ref b :: argsL).toArray q B ∧
      Steps p.tables e below (T.setTop g) ((B.U.setTop { g with stack := rest }).pushFrame (.throwing q))) := by
  obtain ⟨mk, methM, hnamed, hmethM, hstM, habM⟩ := Cond.instanceMethod_spec hinst
  obtain ⟨m8, methM', cM, hn8, hmethM', -, -, -, -, -, -, hsigM⟩ := Cond.codeWith_spec hcode
  cases Option.some.inj (hn8.symm.trans hnamed)
  cases hmethM.symm.trans hmethM'
  obtain ⟨c2, r2, m2, q1, q2, q3, q4, kP, hkP, hkPi⟩ := Cond.selects_spec hsel
  cases hcls.symm.trans q1
  cases (State.methodFound?_of_named hnamed hy).symm.trans q2
  cases hnamed.symm.trans q3
  have hselP : selectMethod e.platform s.vm cellB.cls mk = .method mk := by rw [Launch.admits_selectMethod X.admits]; exact q4
  obtain ⟨vm₁, X₁, hstep₁⟩ := X.invokevirtual hexec hown hlink hnamed hmethM hstM hkP hkPi hy (a := b) (cell := cellB) hcell
    (fun z h => by rw [h] at hobj; cases hobj) hselP hmethM habM hkP hkPi (g := g) hg (argsL := argsL) (rest := rest) (hlen _ hsigM) hstack hdg
  rcases hK m meth c ⟨T.setVm vm₁, locs, cells, slots⟩ { g with stack := rest } (.invokevirtual index) mk (Value.ref b :: argsL).toArray X₁ hg hsize hdg hW (X₁.named hnamed) (hpre vm₁ X₁.warmed) with ⟨v, B, X', hpost, hsteps⟩ | ⟨q, B, X', hpost, hsteps⟩
  · exact Or.inl ⟨v, vm₁, B, X₁.warmed, X', hpost, fun target h => hstep₁ _ fun acts => by rw [doInvoke_state]; exact hsteps.trans h⟩
  · exact Or.inr ⟨q, vm₁, B, X₁.warmed, X', hpost, hstep₁ _ fun acts => by rw [doInvoke_state]; exact hsteps⟩
theorem vx_callSX (X : Stand p l e R s m args below meth c T locs cells slots) (hexec : p.tables.exec = Jvm.exec) {own : String} {index : Nat} {y : MethodName} {bytes : ByteArray} {maxL : Nat} {ret : Option FieldType} {hh : List (Nat × Nat × Nat × Nat)}
    (hown : s.vm.findClass own = some m.cls) (hlink : (Cond.methodLink own index y).before args s = true) (hstat : (Cond.static y).before args s = true) (hinit : (Cond.initialized y.cls).before args s = true)
    (hcode : (Cond.codeWith y bytes maxL ret hh).before args s = true) (hy : y.cls ≠ "java/lang/invoke/MethodHandle" ∧ y.cls ≠ "java/lang/invoke/VarHandle")
    {W9 : Nat} {Pre : Pt → Array Value → Prop} {Post : Pt → Array Value → Option Value → Pt → Prop} {PostX : Pt → Array Value → Addr → Pt → Prop} (hK : vx_Back l R p e below s args y 3 W9 Pre Post PostX)
    {g : JFrame} (hg : g.method = m) (hsize : g.locals.size = c.maxLocals) {argsL rest : List Value} (hlen : ∀ sig, parseMethodDescriptor y.desc = some sig → argsL.length = sig.parameters.length)
    (hstack : g.stack = argsL.reverse ++ rest) (hW : 2 * g.monitorRoom + (rest.map fun v => v.category).sum ≤ W9) (hdg : decode c.code g.pc = .ok (.invokestatic index, 3))
    (hpre : ∀ vm₁, s.WarmedH vm₁ → Pre ⟨T.setVm vm₁, locs, cells, slots⟩ argsL.toArray) :
    (∃ (v : Option Value) (vm₁ : Vm) (B : Pt), s.WarmedH vm₁ ∧ Stand p l e R s m args below meth c B.U B.locs B.cells B.slots ∧ Post ⟨T.setVm vm₁, locs, cells, slots⟩ argsL.toArray v B ∧
      ∀ target, Steps p.tables e below (B.U.setTop { g with pc := g.pc + 3, stack := v.toList ++ rest }) target → Steps p.tables e below (T.setTop g) target) ∨
    (∃ (q : Addr) (vm₁ : Vm) (B : Pt), s.WarmedH vm₁ ∧ Stand p l e R s m args below meth c B.U B.locs B.cells B.slots ∧ PostX ⟨T.setVm vm₁, locs, cells, slots⟩ argsL.toArray q B ∧
      Steps p.tables e below (T.setTop g) ((B.U.setTop { g with stack := rest }).pushFrame (.throwing q))) := by
  obtain ⟨mk, methM, cM, hnamed, hmethM, -, -, -, -, -, -, hsigM⟩ := Cond.codeWith_spec hcode
  have hstatic : methM.isStatic = true := Cond.static_spec hnamed hmethM hstat
  obtain ⟨kP, hkP, -⟩ := className_of_methodNamed hnamed
  have hinitP : kP.init = .initialized := Cond.initialized_spec (findClass_of_methodNamed hnamed) hkP hinit
  obtain ⟨vm₁, X₁, hstep₁⟩ := X.invokestatic hexec hown hlink hnamed hmethM hstatic hkP hinitP hy (g := g) hg (argsL := argsL) (rest := rest) (hlen _ hsigM) hstack hdg
  rcases hK m meth c ⟨T.setVm vm₁, locs, cells, slots⟩ { g with stack := rest } (.invokestatic index) mk argsL.toArray X₁ hg hsize hdg hW (X₁.named hnamed) (hpre vm₁ X₁.warmed) with ⟨v, B, X', hpost, hsteps⟩ | ⟨q, B, X', hpost, hsteps⟩
  · exact Or.inl ⟨v, vm₁, B, X₁.warmed, X', hpost, fun target h => hstep₁ _ fun acts => by rw [doInvoke_state]; exact hsteps.trans h⟩
  · exact Or.inr ⟨q, vm₁, B, X₁.warmed, X', hpost, hstep₁ _ fun acts => by rw [doInvoke_state]; exact hsteps⟩
theorem vx_callVW (X : Stand p l e R s m args below meth c T locs cells slots) (hexec : p.tables.exec = Jvm.exec) {own C : String} {index : Nat} {y : MethodName} {bytes : ByteArray} {maxL : Nat} {ret : Option FieldType} {hh : List (Nat × Nat × Nat × Nat)}
    (hown : s.vm.findClass own = some m.cls) (hlink : (Cond.methodLink own index y).before args s = true) (hinst : (Cond.instanceMethod y).before args s = true) (hsel : (Cond.selects C y y).before args s = true)
    (hcode : (Cond.codeWith y bytes maxL ret hh).before args s = true) (hy : y.cls ≠ "java/lang/invoke/MethodHandle" ∧ y.cls ≠ "java/lang/invoke/VarHandle")
    {W9 : Nat} {Pre : Pt → Array Value → Prop} {Post : Pt → Array Value → Option Value → Pt → Prop} (hK : Back l R p e below s args y 3 W9 Pre Post)
    {b : Addr} {cellB : Cell} (hcell : T.heap[b]? = some cellB) (hobj : cellB.vm.isStatics = false) (hcls : s.vm.findClass C = some cellB.cls)
    {g : JFrame} (hg : g.method = m) (hsize : g.locals.size = c.maxLocals) {argsL rest : List Value} (hlen : ∀ sig, parseMethodDescriptor y.desc = some sig → argsL.length = sig.parameters.length)
    (hstack : g.stack = argsL.reverse ++ .ref b :: rest) (hW : 2 * g.monitorRoom + (rest.map fun v => v.category).sum ≤ W9) (hdg : decode c.code g.pc = .ok (.invokevirtual index, 3))
    (hpre : ∀ vm₁, s.WarmedH vm₁ → Pre ⟨T.setVm vm₁, locs, cells, slots⟩ (Value.ref b :: argsL).toArray) :
    ∃ (v : Option Value) (vm₁ : Vm) (B : Pt), s.WarmedH vm₁ ∧ Stand p l e R s m args below meth c B.U B.locs B.cells B.slots ∧ Post ⟨T.setVm vm₁, locs, cells, slots⟩ (Value.ref b :: argsL).toArray v B ∧
      ∀ target, Steps p.tables e below (B.U.setTop { g with pc := g.pc + 3, stack := v.toList ++ rest }) target → Steps p.tables e below (T.setTop g) target := by
  obtain ⟨mk, methM, hnamed, hmethM, hstM, habM⟩ := Cond.instanceMethod_spec hinst
  obtain ⟨m8, methM', cM, hn8, hmethM', -, -, -, -, -, -, hsigM⟩ := Cond.codeWith_spec hcode
  cases Option.some.inj (hn8.symm.trans hnamed)
  cases hmethM.symm.trans hmethM'
  obtain ⟨c2, r2, m2, q1, q2, q3, q4, kP, hkP, hkPi⟩ := Cond.selects_spec hsel
  cases hcls.symm.trans q1
  cases (State.methodFound?_of_named hnamed hy).symm.trans q2
  cases hnamed.symm.trans q3
  have hselP : selectMethod e.platform s.vm cellB.cls mk = .method mk := by rw [Launch.admits_selectMethod X.admits]; exact q4
  obtain ⟨vm₁, X₁, hstep₁⟩ := X.invokevirtual hexec hown hlink hnamed hmethM hstM hkP hkPi hy (a := b) (cell := cellB) hcell
    (fun z h => by rw [h] at hobj; cases hobj) hselP hmethM habM hkP hkPi (g := g) hg (argsL := argsL) (rest := rest) (hlen _ hsigM) hstack hdg
  obtain ⟨v, B, X', hpost, hsteps⟩ := hK m meth c ⟨T.setVm vm₁, locs, cells, slots⟩ { g with stack := rest } (.invokevirtual index) mk (Value.ref b :: argsL).toArray X₁ hg hsize hdg hW (X₁.named hnamed) (hpre vm₁ X₁.warmed)
  exact ⟨v, vm₁, B, X₁.warmed, X', hpost, fun target h => hstep₁ _ fun acts => by rw [doInvoke_state]; exact hsteps.trans h⟩
abbrev vx_CVW (R : Room) (s : State) (args : Array Value) (own C : String) (index : Nat) (y : MethodName) (bytes : ByteArray) (maxL : Nat) (ret : Option FieldType) (hh : List (Nat × Nat × Nat × Nat)) (ws : List Cond) (rm : Room) (mc ms n : Nat) : Prop :=
  (rm.cells = mc ∧ rm.slots = ms ∧ rm.frames + 1 ≤ R.frames ∧ 8 + (maxL + 11) + rm.locals ≤ R.locals ∧ (∀ w ∈ ws, ∀ (a' : Array Value) (U : State), s.WarmedH U.vm → w.before a' U = true) ∧ Cond.codeWith y bytes maxL ret hh ∈ ws) ∧
  (Cond.codeWith y bytes maxL ret hh).before args s = true ∧ (Cond.initialized y.cls).before args s = true ∧ (y.cls ≠ "java/lang/invoke/MethodHandle" ∧ y.cls ≠ "java/lang/invoke/VarHandle") ∧
  (∀ sig, parseMethodDescriptor y.desc = some sig → n = sig.parameters.length) ∧ (Cond.methodLink own index y).before args s = true ∧ (Cond.instanceMethod y).before args s = true ∧ (Cond.selects C y y).before args s = true
theorem vx_cwVW {own C : String} {index maxL mc ms : Nat} {y : MethodName} {bytes : ByteArray} {ret : Option FieldType} {hh : List (Nat × Nat × Nat × Nat)} {Ts ws ws' : List Cond} {rm : Room} (n : Nat) (ht : ∀ w ∈ Ts, w.before args s = true) (hT : GoodIn Ts (wsV own index C y ws)) (hw : ws = Cond.codeWith y bytes maxL ret hh :: ws') (hrc : rm.cells = mc) (hrs : rm.slots = ms)
    (hd : y.cls = C ∧ y.cls ≠ "java/lang/invoke/MethodHandle" ∧ y.cls ≠ "java/lang/invoke/VarHandle" ∧ (parseMethodDescriptor y.desc).map (fun d => d.parameters.length) = some n) (hR : rm.frames + 1 ≤ R.frames ∧ 8 + (maxL + 11) + rm.locals ≤ R.locals) :
    vx_CVW R s args own C index y bytes maxL ret hh ws rm mc ms n := by
  obtain ⟨hC, hd⟩ := hd
  subst hC
  have ok : ∀ w ∈ wsV own index y.cls y ws, w.before args s = true := fun w h => ht w (hT w h).1
  have hG : GoodIn Ts ws := fun w h => hT w (by unfold wsV; exact List.mem_append_right _ h)
  have hc : Cond.codeWith y bytes maxL ret hh ∈ ws := by rw [hw]; exact List.mem_cons_self
  refine ⟨⟨hrc, hrs, hR.1, hR.2, pay_in ht hG, hc⟩, ht _ (hG _ hc).1, ok _ (by simp [wsV]), ⟨hd.1, hd.2.1⟩, fun sig h => ?_, ok _ (by simp [wsV]), ok _ (by simp [wsV]), ok _ (by simp [wsV])⟩
  have h2 := hd.2.2
  rw [h] at h2
  exact (Option.some.inj h2).symm
theorem vx_runVW {y : MethodName} {bytes cc : ByteArray} {maxL nL mc ms n index : Nat} {ret : Option FieldType} {hh : List (Nat × Nat × Nat × Nat)} {ws : List Cond} {rm : Room} {Pc : Array Value → State → Prop} {Qc : Array Value → State → Outcome → State → Prop} {free : Addr → Prop} {Ts : List Cond} {own C : String} {b : Addr} {As rest : List Value} {g : JFrame}
    (S : CallFix p m c cc nL s args Ts own) (hM : Met l y ws rm Pc Qc mc ms free) (cw : vx_CVW R s args own C index y bytes maxL ret hh ws rm mc ms n) (hp : PreV s H C b Pc As)
    (hg : g.method = m) (hn : As.length = n) (hsize : g.locals.size = nL) (hstack : g.stack = As.reverse ++ .ref b :: rest) (hW : 2 * g.monitorRoom + (rest.map fun v => v.category).sum ≤ 8) (hdg : decode cc g.pc = .ok (.invokevirtual index, 3)) (hf : cells + mc ≤ R.cells ∧ slots + ms ≤ R.slots) :
    va_Run p l e R s m args below meth c H locs cells slots mc ms g rest (Qc (Value.ref b :: As).toArray) free := by
  obtain ⟨⟨hrc, hrs, hfr, hlo, hws, hcw⟩, hcode, hini, hy, hlen, hl, hin, hse⟩ := cw
  have hK : Back l R p e below s args y 3 8 (PreOf R mc ms Pc) (PostOf Qc mc ms free) := va_backW (hh := hh) (bytes := bytes) (maxL := maxL) (ret := ret) hM hp.1 hrc hrs hfr hlo hws hcw (fun a' U hW => word_at hW (Or.inl (by first | rfl | simp [Cond.onTables, Cond.keeps, Cond.steady])) hini)
  obtain ⟨hx, hb, hml, ho, -⟩ := S
  obtain ⟨-, ⟨cellB, hcB, hoB, hclB⟩, hPc⟩ := hp
  intro T hT X
  obtain ⟨v, vm₁, ⟨U', l2, c2, s2⟩, hW₁, X', ⟨g', mk, t, L, e1, e2, hq, h1, hL, h2, h3⟩, st⟩ := vx_callVW X hx (C := C) (hh := hh) (bytes := bytes) (maxL := maxL) (ret := ret) ho hl hin hse hcode hy hK (by rw [hT]; exact hcB) hoB hclB hg (hsize.trans hml.symm) (argsL := As) (rest := rest) (fun sig h => hn.trans (hlen sig h)) hstack hW (by rw [hb]; exact hdg)
    (fun vm₁ hW₁ => ⟨hf.1, hf.2, hPc (T.setVm vm₁) hT hW₁⟩)
  dsimp only [Pt.U, Pt.locs, Pt.cells, Pt.slots] at X' e1 e2 h1 h2 h3 st
  subst h1; subst h2; subst h3
  exact ⟨v, (T.setVm vm₁).calling g' mk (Value.ref b :: As).toArray, t, U', L, hT, X', hL, e1, e2, hq, st⟩
section
variable {y : MethodName} {bytes cc : ByteArray} {maxL nL mc ms n index : Nat} {ret : Option FieldType} {ws : List Cond} {rm : Room} {Pc : Array Value → State → Prop} {Qc : Array Value → State → Outcome → State → Prop} {XC : String → State → State → Prop} {free : Addr → Prop} {Ts : List Cond} {own C : String} {b : Addr} {As rest : List Value} {g : JFrame}
theorem vx_runVX {hh : List (Nat × Nat × Nat × Nat)} (S : CallFix p m c cc nL s args Ts own) (hM : vx_Met l y ws rm Pc Qc XC mc ms free) (cw : vx_CVW R s args own C index y bytes maxL ret hh ws rm mc ms n) (hp : PreV s H C b Pc As)
    (hg : g.method = m) (hn : As.length = n) (hsize : g.locals.size = nL) (hstack : g.stack = As.reverse ++ .ref b :: rest) (hW : 2 * g.monitorRoom + (rest.map fun v => v.category).sum ≤ 8) (hdg : decode cc g.pc = .ok (.invokevirtual index, 3)) (hf : cells + mc ≤ R.cells ∧ slots + ms ≤ R.slots) :
    vx_Run p l e R s m args below meth c H locs cells slots mc ms g rest (Qc (Value.ref b :: As).toArray) XC free := by
  obtain ⟨⟨hrc, hrs, hfr, hlo, hws, hcw⟩, hcode, hini, hy, hlen, hl, hin, hse⟩ := cw
  have hK : vx_Back l R p e below s args y 3 8 (PreOf R mc ms Pc) (PostOf Qc mc ms free) (vx_Post XC mc ms free) := vx_backW (hh := hh) (bytes := bytes) (maxL := maxL) (ret := ret) hM hp.1 hrc hrs hfr hlo hws hcw (fun a' U hW => word_at hW (Or.inl (by first | rfl | simp [Cond.onTables, Cond.keeps, Cond.steady])) hini)
  obtain ⟨hx, hb, hml, ho, -⟩ := S
  obtain ⟨-, ⟨cellB, hcB, hoB, hclB⟩, hPc⟩ := hp
  intro T hT X
  rcases vx_callVX X hx (C := C) (hh := hh) (bytes := bytes) (maxL := maxL) (ret := ret) ho hl hin hse hcode hy hK (by rw [hT]; exact hcB) hoB hclB hg (hsize.trans hml.symm) (argsL := As) (rest := rest) (fun sig h => hn.trans (hlen sig h)) hstack hW (by rw [hb]; exact hdg)
    (fun vm₁ hW₁ => ⟨hf.1, hf.2, hPc (T.setVm vm₁) hT hW₁⟩) with ⟨v, vm₁, ⟨U', l2, c2, s2⟩, hW₁, X', ⟨g', mk, t, L, e1, e2, hq, h1, hL, h2, h3⟩, st⟩ | ⟨q, vm₁, ⟨U', l2, c2, s2⟩, hW₁, X', ⟨g', mk, t, L, E, ce, e1, e2, hq, hce, hcv, hcl, h1, hL, h2, h3⟩, st⟩
  · dsimp only [Pt.U, Pt.locs, Pt.cells, Pt.slots] at X' e1 e2 h1 h2 h3 st
    subst h1; subst h2; subst h3
    exact Or.inl ⟨v, (T.setVm vm₁).calling g' mk (Value.ref b :: As).toArray, t, U', L, hT, X', hL, e1, e2, hq, st⟩
  · dsimp only [Pt.U, Pt.locs, Pt.cells, Pt.slots] at X' e1 e2 h1 h2 h3 st hcl
    subst h1; subst h2; subst h3
    exact Or.inr ⟨q, (T.setVm vm₁).calling g' mk (Value.ref b :: As).toArray, t, U', L, E, ce, hT, X', hL, e1, e2, hq, hce, hcv, vx_cls hW₁ hcl, st⟩
theorem vx_runSX {hh : List (Nat × Nat × Nat × Nat)} (S : CallFix p m c cc nL s args Ts own) (hM : vx_Met l y ws rm Pc Qc XC mc ms free) (cw : vx_CSW R s args own index y bytes maxL ret hh ws rm mc ms n) (hp : PreS s H Pc As)
    (hg : g.method = m) (hn : As.length = n) (hsize : g.locals.size = nL) (hstack : g.stack = As.reverse ++ rest) (hW : 2 * g.monitorRoom + (rest.map fun v => v.category).sum ≤ 8) (hdg : decode cc g.pc = .ok (.invokestatic index, 3)) (hf : cells + mc ≤ R.cells ∧ slots + ms ≤ R.slots) :
    vx_Run p l e R s m args below meth c H locs cells slots mc ms g rest (Qc As.toArray) XC free := by
  obtain ⟨⟨hrc, hrs, hfr, hlo, hws, hcw⟩, hcode, hini, hy, hlen, hl, hstt⟩ := cw
  have hK : vx_Back l R p e below s args y 3 8 (PreOf R mc ms Pc) (PostOf Qc mc ms free) (vx_Post XC mc ms free) := vx_backW (hh := hh) (bytes := bytes) (maxL := maxL) (ret := ret) hM hp.1 hrc hrs hfr hlo hws hcw (fun a' U hW => word_at hW (Or.inl (by first | rfl | simp [Cond.onTables, Cond.keeps, Cond.steady])) hini)
  obtain ⟨hx, hb, hml, ho, -⟩ := S
  intro T hT X
  rcases vx_callSX X hx (hh := hh) (bytes := bytes) (maxL := maxL) (ret := ret) ho hl hstt hini hcode hy hK hg (hsize.trans hml.symm) (argsL := As) (rest := rest) (fun sig h => hn.trans (hlen sig h)) hstack hW (by rw [hb]; exact hdg)
    (fun vm₁ hW₁ => ⟨hf.1, hf.2, hp.2 (T.setVm vm₁) hT hW₁⟩) with ⟨v, vm₁, ⟨U', l2, c2, s2⟩, hW₁, X', ⟨g', mk, t, L, e1, e2, hq, h1, hL, h2, h3⟩, st⟩ | ⟨q, vm₁, ⟨U', l2, c2, s2⟩, hW₁, X', ⟨g', mk, t, L, E, ce, e1, e2, hq, hce, hcv, hcl, h1, hL, h2, h3⟩, st⟩
  · dsimp only [Pt.U, Pt.locs, Pt.cells, Pt.slots] at X' e1 e2 h1 h2 h3 st
    subst h1; subst h2; subst h3
    exact Or.inl ⟨v, (T.setVm vm₁).calling g' mk As.toArray, t, U', L, hT, X', hL, e1, e2, hq, st⟩
  · dsimp only [Pt.U, Pt.locs, Pt.cells, Pt.slots] at X' e1 e2 h1 h2 h3 st hcl
    subst h1; subst h2; subst h3
    exact Or.inr ⟨q, (T.setVm vm₁).calling g' mk As.toArray, t, U', L, E, ce, hT, X', hL, e1, e2, hq, hce, hcv, vx_cls hW₁ hcl, st⟩
end
end VXH
theorem vx_ofWH {l : Launch} {y : MethodName} {ws ws' : List Cond} {rm : Room} {Pc : Array Value → State → Prop} {Qc : Array Value → State → Outcome → State → Prop} {XC : String → State → State → Prop} {mc ms : Nat} {free : Addr → Prop} {cc : ByteArray} {maxL : Nat} {ret : Option FieldType} {hh : List (Nat × Nat × Nat × Nat)}
    (hy : plainName y.cls = true) (hw : ws = Cond.codeWith y cc maxL ret hh :: ws')
    (body : ∀ p e s m args below meth c s₁, BodyLoose p l y (headSpec ws rm) cc maxL ret e s m args below meth c s₁ → c.maxLocals = maxL → Pc args s →
      W p l e (headSpec ws rm).room s m args below meth c s.heap [] 0 0 (vx_MQ below Qc XC args s mc ms free) (entryFrame m args maxL)) : vx_Met l y ws rm Pc Qc XC mc ms free := by
  refine MetFree.of_bodyS (code := cc) (maxLocals := maxL) (ret := ret) hy ?_ ?_
  · intro args s m h hn
    obtain ⟨m9, meth, c, hn9, h1, h2, h3, h4, -, h5, h6, -⟩ := Cond.codeWith_spec (atoms_spec (ws := ws) h _ (by rw [hw]; exact List.mem_cons_self))
    cases hn.symm.trans hn9
    exact ⟨meth, c, h1, h2, h3, h4, h5, h6⟩
  · intro p e s m args below meth c s₁ B hml hP _
    have hh0 : s₁.heap = s.heap := by rw [B.state]; rfl
    obtain ⟨t, a1, o, b1, b2, b3⟩ := body p e s m args below meth c s₁ B hml hP s₁ hh0 (Stand.of_body B)
    exact ⟨t, o, a1, b1, b2, b3⟩
/-! ===== END ===== -/
end
section
/-! ===== BEGIN printed: names, fields, word lists, decode rows ===== -/
def RX0 : String := "Couplet$Centre"
def TX0 : u_T := fun k => match k with
  | 0 => ("Couplet$Centre", "text", "LCouplet$Text;", true)
  | _ => ("Couplet$Centre", "history", "Ljava/util/ArrayList;", true)
def tyX0 : Nat → FieldType := fun k => match k with
  | 0 => .object "Couplet$Text"
  | _ => .object "java/util/ArrayList"
abbrev wsX00 : List Cond := u_ws RX0 TX0 2
theorem nmX0 : ∀ a, a < 2 → ∀ b, b < 2 → a ≠ b → (TX0 a).2.1 ≠ (TX0 b).2.1 := by decide +kernel
theorem tyX0_ok : ∀ k, k < 2 → parseFieldDescriptor (TX0 k).2.2.1 = some (tyX0 k) := by decide +kernel
abbrev cX0_init : ByteArray := prog_2_method_1_code
def yX0_init : MethodName := ⟨RX0, "<init>", "()V"⟩
abbrev cX0_enter : ByteArray := prog_2_method_2_code
def yX0_enter : MethodName := ⟨RX0, "enter", "(LCouplet$Message;)V"⟩
abbrev cX0_countOperations : ByteArray := prog_2_method_3_code
def yX0_countOperations : MethodName := ⟨RX0, "countOperations", "()I"⟩
abbrev cX0_transformAll : ByteArray := prog_2_method_4_code
def yX0_transformAll : MethodName := ⟨RX0, "transformAll", "(Ljava/util/ArrayList;Ljava/util/ArrayList;)V"⟩
def RX1 : String := "Couplet$Changes"
def TX1 : u_T := fun k => match k with
  | 0 => ("Couplet$Changes", "row", "[I", true)
  | _ => ("Couplet$Changes", "farthest", "[I", true)
def tyX1 : Nat → FieldType := fun k => match k with
  | 0 => .array .int
  | _ => .array .int
abbrev wsX10 : List Cond := u_ws RX1 TX1 2
theorem nmX1 : ∀ a, a < 2 → ∀ b, b < 2 → a ≠ b → (TX1 a).2.1 ≠ (TX1 b).2.1 := by decide +kernel
theorem tyX1_ok : ∀ k, k < 2 → parseFieldDescriptor (TX1 k).2.2.1 = some (tyX1 k) := by decide +kernel
abbrev cX1_init : ByteArray := prog_3_method_1_code
def yX1_init : MethodName := ⟨RX1, "<init>", "()V"⟩
abbrev cX1_byTable : ByteArray := prog_3_method_2_code
def yX1_byTable : MethodName := ⟨RX1, "byTable", "(LCouplet$Text;LCouplet$Text;)I"⟩
abbrev cX1_fillRow : ByteArray := prog_3_method_3_code
def yX1_fillRow : MethodName := ⟨RX1, "fillRow", "(LCouplet$Text;ILCouplet$Text;I)V"⟩
abbrev cX1_byWays : ByteArray := prog_3_method_4_code
def yX1_byWays : MethodName := ⟨RX1, "byWays", "(LCouplet$Text;LCouplet$Text;)I"⟩
abbrev cX1_reachesEnd : ByteArray := prog_3_method_5_code
def yX1_reachesEnd : MethodName := ⟨RX1, "reachesEnd", "(LCouplet$Text;LCouplet$Text;I)Z"⟩
abbrev cX1_firstOn : ByteArray := prog_3_method_6_code
def yX1_firstOn : MethodName := ⟨RX1, "firstOn", "(II)I"⟩
abbrev cX1_follow : ByteArray := prog_3_method_7_code
def yX1_follow : MethodName := ⟨RX1, "follow", "(LCouplet$Text;LCouplet$Text;II)I"⟩
def RX2 : String := "Couplet$End"
def TX2 : u_T := fun k => match k with
  | 0 => ("Couplet$End", "number", "I", true)
  | 1 => ("Couplet$End", "text", "LCouplet$Text;", true)
  | 2 => ("Couplet$End", "sent", "Ljava/util/ArrayList;", true)
  | 3 => ("Couplet$End", "waiting", "Ljava/util/ArrayList;", true)
  | 4 => ("Couplet$End", "up", "Ljava/util/ArrayList;", true)
  | 5 => ("Couplet$End", "down", "Ljava/util/ArrayList;", true)
  | 6 => ("Couplet$End", "kept", "Ljava/util/ArrayList;", true)
  | 7 => ("Couplet$End", "cursor", "I", false)
  | 8 => ("Couplet$End", "mark", "I", false)
  | _ => ("Couplet$End", "revision", "I", false)
def tyX2 : Nat → FieldType := fun k => match k with
  | 0 => .int
  | 1 => .object "Couplet$Text"
  | 2 => .object "java/util/ArrayList"
  | 3 => .object "java/util/ArrayList"
  | 4 => .object "java/util/ArrayList"
  | 5 => .object "java/util/ArrayList"
  | 6 => .object "java/util/ArrayList"
  | 7 => .int
  | 8 => .int
  | _ => .int
abbrev wsX20 : List Cond := u_ws RX2 TX2 10
theorem nmX2 : ∀ a, a < 10 → ∀ b, b < 10 → a ≠ b → (TX2 a).2.1 ≠ (TX2 b).2.1 := by decide +kernel
theorem tyX2_ok : ∀ k, k < 10 → parseFieldDescriptor (TX2 k).2.2.1 = some (tyX2 k) := by decide +kernel
abbrev cX2_init : ByteArray := prog_4_method_1_code
def yX2_init : MethodName := ⟨RX2, "<init>", "(I)V"⟩
abbrev cX2_make : ByteArray := prog_4_method_2_code
def yX2_make : MethodName := ⟨RX2, "make", "(LCouplet$Operation;)V"⟩
abbrev cX2_get : ByteArray := prog_4_method_3_code
def yX2_get : MethodName := ⟨RX2, "get", "(LCouplet$Message;)V"⟩
abbrev cX2_countRuns : ByteArray := prog_4_method_4_code
def yX2_countRuns : MethodName := ⟨RX2, "countRuns", "()I"⟩
abbrev cX2_carryOut : ByteArray := prog_4_method_5_code
def yX2_carryOut : MethodName := ⟨RX2, "carryOut", "(LCouplet$Operation;)V"⟩
abbrev cX2_follow : ByteArray := prog_4_method_6_code
def yX2_follow : MethodName := ⟨RX2, "follow", "(LCouplet$Operation;)V"⟩
abbrev cX2_dropNothings : ByteArray := prog_4_method_7_code
def yX2_dropNothings : MethodName := ⟨RX2, "dropNothings", "()V"⟩
abbrev cX2_beginsRun : ByteArray := prog_4_method_8_code
def yX2_beginsRun : MethodName := ⟨RX2, "beginsRun", "(I)Z"⟩
abbrev cX2_firstRunSize : ByteArray := prog_4_method_9_code
def yX2_firstRunSize : MethodName := ⟨RX2, "firstRunSize", "()I"⟩
abbrev cX2_sendRun : ByteArray := prog_4_method_10_code
def yX2_sendRun : MethodName := ⟨RX2, "sendRun", "()V"⟩
abbrev cX2_sendMessage : ByteArray := prog_4_method_11_code
def yX2_sendMessage : MethodName := ⟨RX2, "sendMessage", "()V"⟩
def RX3 : String := "Couplet$Kept"
def TX3 : u_T := fun k => match k with
  | 0 => ("Couplet$Kept", "inserted", "Z", true)
  | 1 => ("Couplet$Kept", "letter", "LCouplet$Letter;", true)
  | _ => ("Couplet$Kept", "place", "I", false)
def tyX3 : Nat → FieldType := fun k => match k with
  | 0 => .boolean
  | 1 => .object "Couplet$Letter"
  | _ => .int
abbrev wsX30 : List Cond := u_ws RX3 TX3 3
theorem nmX3 : ∀ a, a < 3 → ∀ b, b < 3 → a ≠ b → (TX3 a).2.1 ≠ (TX3 b).2.1 := by decide +kernel
theorem tyX3_ok : ∀ k, k < 3 → parseFieldDescriptor (TX3 k).2.2.1 = some (tyX3 k) := by decide +kernel
abbrev cX3_init : ByteArray := prog_5_method_1_code
def yX3_init : MethodName := ⟨RX3, "<init>", "(ZLCouplet$Letter;I)V"⟩
def RX4 : String := "Couplet$Letter"
def TX4 : u_T := fun k => match k with
  | 0 => ("Couplet$Letter", "look", "C", true)
  | _ => ("Couplet$Letter", "owner", "I", true)
def tyX4 : Nat → FieldType := fun k => match k with
  | 0 => .char
  | _ => .int
abbrev wsX40 : List Cond := u_ws RX4 TX4 2
theorem nmX4 : ∀ a, a < 2 → ∀ b, b < 2 → a ≠ b → (TX4 a).2.1 ≠ (TX4 b).2.1 := by decide +kernel
theorem tyX4_ok : ∀ k, k < 2 → parseFieldDescriptor (TX4 k).2.2.1 = some (tyX4 k) := by decide +kernel
abbrev cX4_init : ByteArray := prog_6_method_1_code
def yX4_init : MethodName := ⟨RX4, "<init>", "(CI)V"⟩
def RX5 : String := "Couplet$Message"
def TX5 : u_T := fun k => match k with
  | 0 => ("Couplet$Message", "end", "I", true)
  | 1 => ("Couplet$Message", "revision", "I", true)
  | _ => ("Couplet$Message", "operations", "Ljava/util/ArrayList;", true)
def tyX5 : Nat → FieldType := fun k => match k with
  | 0 => .int
  | 1 => .int
  | _ => .object "java/util/ArrayList"
abbrev wsX50 : List Cond := u_ws RX5 TX5 3
theorem nmX5 : ∀ a, a < 3 → ∀ b, b < 3 → a ≠ b → (TX5 a).2.1 ≠ (TX5 b).2.1 := by decide +kernel
theorem tyX5_ok : ∀ k, k < 3 → parseFieldDescriptor (TX5 k).2.2.1 = some (tyX5 k) := by decide +kernel
abbrev cX5_init : ByteArray := prog_7_method_1_code
def yX5_init : MethodName := ⟨RX5, "<init>", "(II)V"⟩
def RX6 : String := "Couplet$Operation"
def TX6 : u_T := fun k => match k with
  | 0 => ("Couplet$Operation", "end", "I", true)
  | 1 => ("Couplet$Operation", "letter", "LCouplet$Letter;", true)
  | 2 => ("Couplet$Operation", "kind", "C", false)
  | _ => ("Couplet$Operation", "position", "I", false)
def tyX6 : Nat → FieldType := fun k => match k with
  | 0 => .int
  | 1 => .object "Couplet$Letter"
  | 2 => .char
  | _ => .int
abbrev wsX60 : List Cond := u_ws RX6 TX6 4
theorem nmX6 : ∀ a, a < 4 → ∀ b, b < 4 → a ≠ b → (TX6 a).2.1 ≠ (TX6 b).2.1 := by decide +kernel
theorem tyX6_ok : ∀ k, k < 4 → parseFieldDescriptor (TX6 k).2.2.1 = some (tyX6 k) := by decide +kernel
abbrev cX6_init : ByteArray := prog_8_method_1_code
def yX6_init : MethodName := ⟨RX6, "<init>", "(ICILCouplet$Letter;)V"⟩
abbrev cX6_copy : ByteArray := prog_8_method_2_code
def yX6_copy : MethodName := ⟨RX6, "copy", "()LCouplet$Operation;"⟩
abbrev cX6_transformRow : ByteArray := prog_8_method_3_code
def yX6_transformRow : MethodName := ⟨RX6, "transformRow", "(Ljava/util/ArrayList;LCouplet$Operation;)V"⟩
abbrev cX6_transform : ByteArray := prog_8_method_4_code
def yX6_transform : MethodName := ⟨RX6, "transform", "(CII)V"⟩
abbrev cX6_transformByInsertion : ByteArray := prog_8_method_5_code
def yX6_transformByInsertion : MethodName := ⟨RX6, "transformByInsertion", "(II)V"⟩
abbrev cX6_transformByDeletion : ByteArray := prog_8_method_6_code
def yX6_transformByDeletion : MethodName := ⟨RX6, "transformByDeletion", "(I)V"⟩
abbrev cX6_move : ByteArray := prog_8_method_7_code
def yX6_move : MethodName := ⟨RX6, "move", "(I)I"⟩
abbrev cX6_placeBehind : ByteArray := prog_8_method_8_code
def yX6_placeBehind : MethodName := ⟨RX6, "placeBehind", "()I"⟩
abbrev cX6_goesOnFrom : ByteArray := prog_8_method_9_code
def yX6_goesOnFrom : MethodName := ⟨RX6, "goesOnFrom", "(LCouplet$Operation;)Z"⟩
def RX7 : String := "Couplet$Text"
def TX7 : u_T := fun k => match k with
  | _ => ("Couplet$Text", "letters", "Ljava/util/ArrayList;", true)
def tyX7 : Nat → FieldType := fun k => match k with
  | _ => .object "java/util/ArrayList"
abbrev wsX70 : List Cond := u_ws RX7 TX7 1
theorem nmX7 : ∀ a, a < 1 → ∀ b, b < 1 → a ≠ b → (TX7 a).2.1 ≠ (TX7 b).2.1 := by decide +kernel
theorem tyX7_ok : ∀ k, k < 1 → parseFieldDescriptor (TX7 k).2.2.1 = some (tyX7 k) := by decide +kernel
abbrev cX7_init : ByteArray := prog_9_method_1_code
def yX7_init : MethodName := ⟨RX7, "<init>", "()V"⟩
abbrev cX7_size : ByteArray := prog_9_method_2_code
def yX7_size : MethodName := ⟨RX7, "size", "()I"⟩
abbrev cX7_hasCharacter : ByteArray := prog_9_method_3_code
def yX7_hasCharacter : MethodName := ⟨RX7, "hasCharacter", "(I)Z"⟩
abbrev cX7_hasPlace : ByteArray := prog_9_method_4_code
def yX7_hasPlace : MethodName := ⟨RX7, "hasPlace", "(I)Z"⟩
abbrev cX7_carryOut : ByteArray := prog_9_method_5_code
def yX7_carryOut : MethodName := ⟨RX7, "carryOut", "(LCouplet$Operation;)V"⟩
abbrev cX7_carryOutAll : ByteArray := prog_9_method_6_code
def yX7_carryOutAll : MethodName := ⟨RX7, "carryOutAll", "(Ljava/util/ArrayList;)V"⟩
abbrev cX7_positionOf : ByteArray := prog_9_method_7_code
def yX7_positionOf : MethodName := ⟨RX7, "positionOf", "(LCouplet$Letter;)I"⟩
abbrev cX7_countOf : ByteArray := prog_9_method_8_code
def yX7_countOf : MethodName := ⟨RX7, "countOf", "(I)I"⟩
abbrev cX7_matches : ByteArray := prog_9_method_9_code
def yX7_matches : MethodName := ⟨RX7, "matches", "(ILCouplet$Text;I)Z"⟩
abbrev cX7_looksLike : ByteArray := prog_9_method_10_code
def yX7_looksLike : MethodName := ⟨RX7, "looksLike", "(LCouplet$Text;)Z"⟩
abbrev cX7_number : ByteArray := prog_9_method_11_code
def yX7_number : MethodName := ⟨RX7, "number", "()J"⟩
def RX8 : String := "Couplet"
def TX8 : u_T := fun k => match k with
  | 0 => ("Couplet", "first", "LCouplet$End;", true)
  | 1 => ("Couplet", "second", "LCouplet$End;", true)
  | 2 => ("Couplet", "centre", "LCouplet$Centre;", true)
  | 3 => ("Couplet", "rebuilt", "LCouplet$Text;", true)
  | 4 => ("Couplet", "changes", "LCouplet$Changes;", true)
  | _ => ("Couplet", "operationsMade", "I", false)
def tyX8 : Nat → FieldType := fun k => match k with
  | 0 => .object "Couplet$End"
  | 1 => .object "Couplet$End"
  | 2 => .object "Couplet$Centre"
  | 3 => .object "Couplet$Text"
  | 4 => .object "Couplet$Changes"
  | _ => .int
abbrev wsX80 : List Cond := u_ws RX8 TX8 6
theorem nmX8 : ∀ a, a < 6 → ∀ b, b < 6 → a ≠ b → (TX8 a).2.1 ≠ (TX8 b).2.1 := by decide +kernel
theorem tyX8_ok : ∀ k, k < 6 → parseFieldDescriptor (TX8 k).2.2.1 = some (tyX8 k) := by decide +kernel
abbrev cX8_init : ByteArray := prog_1_method_1_code
def yX8_init : MethodName := ⟨RX8, "<init>", "()V"⟩
abbrev cX8_insert : ByteArray := prog_1_method_2_code
def yX8_insert : MethodName := ⟨RX8, "insert", "(IIC)I"⟩
abbrev cX8_delete : ByteArray := prog_1_method_3_code
def yX8_delete : MethodName := ⟨RX8, "delete", "(II)C"⟩
abbrev cX8_type : ByteArray := prog_1_method_4_code
def yX8_type : MethodName := ⟨RX8, "type", "(IC)I"⟩
abbrev cX8_erase : ByteArray := prog_1_method_5_code
def yX8_erase : MethodName := ⟨RX8, "erase", "(I)C"⟩
abbrev cX8_moveCursor : ByteArray := prog_1_method_6_code
def yX8_moveCursor : MethodName := ⟨RX8, "moveCursor", "(II)I"⟩
abbrev cX8_undo : ByteArray := prog_1_method_7_code
def yX8_undo : MethodName := ⟨RX8, "undo", "(I)Z"⟩
abbrev cX8_deliverUp : ByteArray := prog_1_method_8_code
def yX8_deliverUp : MethodName := ⟨RX8, "deliverUp", "(I)I"⟩
abbrev cX8_deliverDown : ByteArray := prog_1_method_9_code
def yX8_deliverDown : MethodName := ⟨RX8, "deliverDown", "(I)C"⟩
abbrev cX8_deliverAll : ByteArray := prog_1_method_10_code
def yX8_deliverAll : MethodName := ⟨RX8, "deliverAll", "()I"⟩
abbrev cX8_length : ByteArray := prog_1_method_11_code
def yX8_length : MethodName := ⟨RX8, "length", "(I)I"⟩
abbrev cX8_charAt : ByteArray := prog_1_method_12_code
def yX8_charAt : MethodName := ⟨RX8, "charAt", "(II)C"⟩
abbrev cX8_ownerAt : ByteArray := prog_1_method_13_code
def yX8_ownerAt : MethodName := ⟨RX8, "ownerAt", "(II)I"⟩
abbrev cX8_lengthByHistory : ByteArray := prog_1_method_14_code
def yX8_lengthByHistory : MethodName := ⟨RX8, "lengthByHistory", "(I)I"⟩
abbrev cX8_charByHistory : ByteArray := prog_1_method_15_code
def yX8_charByHistory : MethodName := ⟨RX8, "charByHistory", "(II)C"⟩
abbrev cX8_centreLength : ByteArray := prog_1_method_16_code
def yX8_centreLength : MethodName := ⟨RX8, "centreLength", "()I"⟩
abbrev cX8_centreChar : ByteArray := prog_1_method_17_code
def yX8_centreChar : MethodName := ⟨RX8, "centreChar", "(I)C"⟩
abbrev cX8_cursor : ByteArray := prog_1_method_18_code
def yX8_cursor : MethodName := ⟨RX8, "cursor", "(I)I"⟩
abbrev cX8_mark : ByteArray := prog_1_method_19_code
def yX8_mark : MethodName := ⟨RX8, "mark", "(I)I"⟩
abbrev cX8_revision : ByteArray := prog_1_method_20_code
def yX8_revision : MethodName := ⟨RX8, "revision", "(I)I"⟩
abbrev cX8_sent : ByteArray := prog_1_method_21_code
def yX8_sent : MethodName := ⟨RX8, "sent", "(I)I"⟩
abbrev cX8_waiting : ByteArray := prog_1_method_22_code
def yX8_waiting : MethodName := ⟨RX8, "waiting", "(I)I"⟩
abbrev cX8_runs : ByteArray := prog_1_method_23_code
def yX8_runs : MethodName := ⟨RX8, "runs", "(I)I"⟩
abbrev cX8_up : ByteArray := prog_1_method_24_code
def yX8_up : MethodName := ⟨RX8, "up", "(I)I"⟩
abbrev cX8_down : ByteArray := prog_1_method_25_code
def yX8_down : MethodName := ⟨RX8, "down", "(I)I"⟩
abbrev cX8_kept : ByteArray := prog_1_method_26_code
def yX8_kept : MethodName := ⟨RX8, "kept", "(I)I"⟩
abbrev cX8_centreRevision : ByteArray := prog_1_method_27_code
def yX8_centreRevision : MethodName := ⟨RX8, "centreRevision", "()I"⟩
abbrev cX8_historyEnd : ByteArray := prog_1_method_28_code
def yX8_historyEnd : MethodName := ⟨RX8, "historyEnd", "(I)I"⟩
abbrev cX8_historySize : ByteArray := prog_1_method_29_code
def yX8_historySize : MethodName := ⟨RX8, "historySize", "(I)I"⟩
abbrev cX8_historyKind : ByteArray := prog_1_method_30_code
def yX8_historyKind : MethodName := ⟨RX8, "historyKind", "(II)C"⟩
abbrev cX8_historyPosition : ByteArray := prog_1_method_31_code
def yX8_historyPosition : MethodName := ⟨RX8, "historyPosition", "(II)I"⟩
abbrev cX8_agree : ByteArray := prog_1_method_32_code
def yX8_agree : MethodName := ⟨RX8, "agree", "()Z"⟩
abbrev cX8_distance : ByteArray := prog_1_method_33_code
def yX8_distance : MethodName := ⟨RX8, "distance", "()I"⟩
abbrev cX8_distanceByWays : ByteArray := prog_1_method_34_code
def yX8_distanceByWays : MethodName := ⟨RX8, "distanceByWays", "()I"⟩
abbrev cX8_ownShare : ByteArray := prog_1_method_35_code
def yX8_ownShare : MethodName := ⟨RX8, "ownShare", "(I)F"⟩
abbrev cX8_meanRun : ByteArray := prog_1_method_36_code
def yX8_meanRun : MethodName := ⟨RX8, "meanRun", "()D"⟩
abbrev cX8_textNumber : ByteArray := prog_1_method_37_code
def yX8_textNumber : MethodName := ⟨RX8, "textNumber", "(I)J"⟩
abbrev cX8_endNumbered : ByteArray := prog_1_method_38_code
def yX8_endNumbered : MethodName := ⟨RX8, "endNumbered", "(I)LCouplet$End;"⟩
abbrev cX8_requireWritable : ByteArray := prog_1_method_39_code
def yX8_requireWritable : MethodName := ⟨RX8, "requireWritable", "(C)V"⟩
abbrev cX8_requireOperationLeft : ByteArray := prog_1_method_40_code
def yX8_requireOperationLeft : MethodName := ⟨RX8, "requireOperationLeft", "()V"⟩
abbrev cX8_requireRoom : ByteArray := prog_1_method_41_code
def yX8_requireRoom : MethodName := ⟨RX8, "requireRoom", "(LCouplet$End;)V"⟩
abbrev cX8_letterOf : ByteArray := prog_1_method_42_code
def yX8_letterOf : MethodName := ⟨RX8, "letterOf", "(LCouplet$Text;I)LCouplet$Letter;"⟩
abbrev cX8_messageOf : ByteArray := prog_1_method_43_code
def yX8_messageOf : MethodName := ⟨RX8, "messageOf", "(I)LCouplet$Message;"⟩
abbrev cX8_operationOf : ByteArray := prog_1_method_44_code
def yX8_operationOf : MethodName := ⟨RX8, "operationOf", "(II)LCouplet$Operation;"⟩
abbrev cX8_writeKept : ByteArray := prog_1_method_45_code
def yX8_writeKept : MethodName := ⟨RX8, "writeKept", "(LCouplet$End;IC)V"⟩
abbrev cX8_removeKept : ByteArray := prog_1_method_46_code
def yX8_removeKept : MethodName := ⟨RX8, "removeKept", "(LCouplet$End;I)C"⟩
abbrev cX8_takeBack : ByteArray := prog_1_method_47_code
def yX8_takeBack : MethodName := ⟨RX8, "takeBack", "(LCouplet$End;ILCouplet$Letter;)Z"⟩
abbrev cX8_putBack : ByteArray := prog_1_method_48_code
def yX8_putBack : MethodName := ⟨RX8, "putBack", "(LCouplet$End;ILCouplet$Kept;)Z"⟩
abbrev cX8_rebuild : ByteArray := prog_1_method_49_code
def yX8_rebuild : MethodName := ⟨RX8, "rebuild", "(LCouplet$End;)V"⟩
def RX9 : String := "CoupletModel"
def TX9 : u_T := fun k => match k with
  | 0 => ("CoupletModel", "thrown", "I", false)
  | 1 => ("CoupletModel", "kinds", "[I", true)
  | 2 => ("CoupletModel", "places", "[I", true)
  | 3 => ("CoupletModel", "codes", "[I", true)
  | 4 => ("CoupletModel", "marks", "[I", true)
  | 5 => ("CoupletModel", "makers", "[I", true)
  | 6 => ("CoupletModel", "texts", "[I", true)
  | 7 => ("CoupletModel", "ids", "[I", true)
  | 8 => ("CoupletModel", "owners", "[I", true)
  | 9 => ("CoupletModel", "lengths", "[I", true)
  | 10 => ("CoupletModel", "sentMany", "[I", true)
  | 11 => ("CoupletModel", "waitingMany", "[I", true)
  | 12 => ("CoupletModel", "revisions", "[I", true)
  | 13 => ("CoupletModel", "cursors", "[I", true)
  | 14 => ("CoupletModel", "others", "[I", true)
  | 15 => ("CoupletModel", "upMany", "[I", true)
  | 16 => ("CoupletModel", "upRevisions", "[I", true)
  | 17 => ("CoupletModel", "isSent", "[Z", true)
  | 18 => ("CoupletModel", "isUp", "[Z", true)
  | 19 => ("CoupletModel", "keptKinds", "[I", true)
  | 20 => ("CoupletModel", "keptPlaces", "[I", true)
  | 21 => ("CoupletModel", "keptCodes", "[I", true)
  | 22 => ("CoupletModel", "keptMarks", "[I", true)
  | 23 => ("CoupletModel", "keptMany", "[I", true)
  | 24 => ("CoupletModel", "firsts", "[I", true)
  | 25 => ("CoupletModel", "fromEnds", "[I", true)
  | 26 => ("CoupletModel", "made", "I", false)
  | 27 => ("CoupletModel", "messages", "I", false)
  | 28 => ("CoupletModel", "entered", "I", false)
  | 29 => ("CoupletModel", "now", "[I", true)
  | _ => ("CoupletModel", "before", "[I", true)
def tyX9 : Nat → FieldType := fun k => match k with
  | 0 => .int
  | 1 => .array .int
  | 2 => .array .int
  | 3 => .array .int
  | 4 => .array .int
  | 5 => .array .int
  | 6 => .array .int
  | 7 => .array .int
  | 8 => .array .int
  | 9 => .array .int
  | 10 => .array .int
  | 11 => .array .int
  | 12 => .array .int
  | 13 => .array .int
  | 14 => .array .int
  | 15 => .array .int
  | 16 => .array .int
  | 17 => .array .boolean
  | 18 => .array .boolean
  | 19 => .array .int
  | 20 => .array .int
  | 21 => .array .int
  | 22 => .array .int
  | 23 => .array .int
  | 24 => .array .int
  | 25 => .array .int
  | 26 => .int
  | 27 => .int
  | 28 => .int
  | 29 => .array .int
  | _ => .array .int
abbrev wsX90 : List Cond := u_ws RX9 TX9 31
theorem nmX9 : ∀ a, a < 31 → ∀ b, b < 31 → a ≠ b → (TX9 a).2.1 ≠ (TX9 b).2.1 := by decide +kernel
theorem tyX9_ok : ∀ k, k < 31 → parseFieldDescriptor (TX9 k).2.2.1 = some (tyX9 k) := by decide +kernel
abbrev cX9_init : ByteArray := prog_11_method_1_code
def yX9_init : MethodName := ⟨RX9, "<init>", "()V"⟩
abbrev cX9_thrown : ByteArray := prog_11_method_2_code
def yX9_thrown : MethodName := ⟨RX9, "thrown", "()I"⟩
abbrev cX9_fails : ByteArray := prog_11_method_3_code
def yX9_fails : MethodName := ⟨RX9, "fails", "(I)I"⟩
abbrev cX9_isBetween : ByteArray := prog_11_method_4_code
def yX9_isBetween : MethodName := ⟨RX9, "isBetween", "(III)Z"⟩
abbrev cX9_isEnd : ByteArray := prog_11_method_5_code
def yX9_isEnd : MethodName := ⟨RX9, "isEnd", "(I)Z"⟩
abbrev cX9_sentAt : ByteArray := prog_11_method_6_code
def yX9_sentAt : MethodName := ⟨RX9, "sentAt", "(I)I"⟩
abbrev cX9_waitingAt : ByteArray := prog_11_method_7_code
def yX9_waitingAt : MethodName := ⟨RX9, "waitingAt", "(I)I"⟩
abbrev cX9_upAt : ByteArray := prog_11_method_8_code
def yX9_upAt : MethodName := ⟨RX9, "upAt", "(I)I"⟩
abbrev cX9_copies : ByteArray := prog_11_method_9_code
def yX9_copies : MethodName := ⟨RX9, "copies", "(II)V"⟩
abbrev cX9_moved : ByteArray := prog_11_method_10_code
def yX9_moved : MethodName := ⟨RX9, "moved", "(IIIIZ)I"⟩
abbrev cX9_crosses : ByteArray := prog_11_method_11_code
def yX9_crosses : MethodName := ⟨RX9, "crosses", "(II)V"⟩
abbrev cX9_shifts : ByteArray := prog_11_method_12_code
def yX9_shifts : MethodName := ⟨RX9, "shifts", "(II)V"⟩
abbrev cX9_carriesOut : ByteArray := prog_11_method_13_code
def yX9_carriesOut : MethodName := ⟨RX9, "carriesOut", "(II)V"⟩
abbrev cX9_follows : ByteArray := prog_11_method_14_code
def yX9_follows : MethodName := ⟨RX9, "follows", "(II)I"⟩
abbrev cX9_behind : ByteArray := prog_11_method_15_code
def yX9_behind : MethodName := ⟨RX9, "behind", "(I)I"⟩
abbrev cX9_movesKept : ByteArray := prog_11_method_16_code
def yX9_movesKept : MethodName := ⟨RX9, "movesKept", "(II)V"⟩
abbrev cX9_sends : ByteArray := prog_11_method_17_code
def yX9_sends : MethodName := ⟨RX9, "sends", "(II)V"⟩
abbrev cX9_makes : ByteArray := prog_11_method_18_code
def yX9_makes : MethodName := ⟨RX9, "makes", "(IIIIZ)V"⟩
abbrev cX9_isCharacter : ByteArray := prog_11_method_19_code
def yX9_isCharacter : MethodName := ⟨RX9, "isCharacter", "(I)Z"⟩
abbrev cX9_isFull : ByteArray := prog_11_method_20_code
def yX9_isFull : MethodName := ⟨RX9, "isFull", "(I)Z"⟩
abbrev cX9_insert : ByteArray := prog_11_method_21_code
def yX9_insert : MethodName := ⟨RX9, "insert", "(IIC)I"⟩
abbrev cX9_codeAt : ByteArray := prog_11_method_22_code
def yX9_codeAt : MethodName := ⟨RX9, "codeAt", "(II)I"⟩
abbrev cX9_delete : ByteArray := prog_11_method_23_code
def yX9_delete : MethodName := ⟨RX9, "delete", "(II)C"⟩
abbrev cX9_type : ByteArray := prog_11_method_24_code
def yX9_type : MethodName := ⟨RX9, "type", "(IC)I"⟩
abbrev cX9_erase : ByteArray := prog_11_method_25_code
def yX9_erase : MethodName := ⟨RX9, "erase", "(I)C"⟩
abbrev cX9_moveCursor : ByteArray := prog_11_method_26_code
def yX9_moveCursor : MethodName := ⟨RX9, "moveCursor", "(II)I"⟩
abbrev cX9_find : ByteArray := prog_11_method_27_code
def yX9_find : MethodName := ⟨RX9, "find", "(II)I"⟩
abbrev cX9_undo : ByteArray := prog_11_method_28_code
def yX9_undo : MethodName := ⟨RX9, "undo", "(I)Z"⟩
abbrev cX9_enters : ByteArray := prog_11_method_29_code
def yX9_enters : MethodName := ⟨RX9, "enters", "(I)V"⟩
abbrev cX9_deliverUp : ByteArray := prog_11_method_30_code
def yX9_deliverUp : MethodName := ⟨RX9, "deliverUp", "(I)I"⟩
abbrev cX9_goesOn : ByteArray := prog_11_method_31_code
def yX9_goesOn : MethodName := ⟨RX9, "goesOn", "(II)Z"⟩
abbrev cX9_run : ByteArray := prog_11_method_32_code
def yX9_run : MethodName := ⟨RX9, "run", "(II)I"⟩
abbrev cX9_forgetsNothings : ByteArray := prog_11_method_33_code
def yX9_forgetsNothings : MethodName := ⟨RX9, "forgetsNothings", "(I)V"⟩
abbrev cX9_gets : ByteArray := prog_11_method_34_code
def yX9_gets : MethodName := ⟨RX9, "gets", "(II)V"⟩
abbrev cX9_delivers : ByteArray := prog_11_method_35_code
def yX9_delivers : MethodName := ⟨RX9, "delivers", "(I)I"⟩
abbrev cX9_deliverDown : ByteArray := prog_11_method_36_code
def yX9_deliverDown : MethodName := ⟨RX9, "deliverDown", "(I)C"⟩
abbrev cX9_deliversOne : ByteArray := prog_11_method_37_code
def yX9_deliversOne : MethodName := ⟨RX9, "deliversOne", "()Z"⟩
abbrev cX9_deliverAll : ByteArray := prog_11_method_38_code
def yX9_deliverAll : MethodName := ⟨RX9, "deliverAll", "()I"⟩
abbrev cX9_length : ByteArray := prog_11_method_39_code
def yX9_length : MethodName := ⟨RX9, "length", "(I)I"⟩
abbrev cX9_notAt : ByteArray := prog_11_method_40_code
def yX9_notAt : MethodName := ⟨RX9, "notAt", "(II)I"⟩
abbrev cX9_charAt : ByteArray := prog_11_method_41_code
def yX9_charAt : MethodName := ⟨RX9, "charAt", "(II)C"⟩
abbrev cX9_ownerAt : ByteArray := prog_11_method_42_code
def yX9_ownerAt : MethodName := ⟨RX9, "ownerAt", "(II)I"⟩
abbrev cX9_lengthByHistory : ByteArray := prog_11_method_43_code
def yX9_lengthByHistory : MethodName := ⟨RX9, "lengthByHistory", "(I)I"⟩
abbrev cX9_charByHistory : ByteArray := prog_11_method_44_code
def yX9_charByHistory : MethodName := ⟨RX9, "charByHistory", "(II)C"⟩
abbrev cX9_centreLength : ByteArray := prog_11_method_45_code
def yX9_centreLength : MethodName := ⟨RX9, "centreLength", "()I"⟩
abbrev cX9_centreChar : ByteArray := prog_11_method_46_code
def yX9_centreChar : MethodName := ⟨RX9, "centreChar", "(I)C"⟩
abbrev cX9_cursor : ByteArray := prog_11_method_47_code
def yX9_cursor : MethodName := ⟨RX9, "cursor", "(I)I"⟩
abbrev cX9_mark : ByteArray := prog_11_method_48_code
def yX9_mark : MethodName := ⟨RX9, "mark", "(I)I"⟩
abbrev cX9_revision : ByteArray := prog_11_method_49_code
def yX9_revision : MethodName := ⟨RX9, "revision", "(I)I"⟩
abbrev cX9_sent : ByteArray := prog_11_method_50_code
def yX9_sent : MethodName := ⟨RX9, "sent", "(I)I"⟩
abbrev cX9_waiting : ByteArray := prog_11_method_51_code
def yX9_waiting : MethodName := ⟨RX9, "waiting", "(I)I"⟩
abbrev cX9_runs : ByteArray := prog_11_method_52_code
def yX9_runs : MethodName := ⟨RX9, "runs", "(I)I"⟩
abbrev cX9_up : ByteArray := prog_11_method_53_code
def yX9_up : MethodName := ⟨RX9, "up", "(I)I"⟩
abbrev cX9_down : ByteArray := prog_11_method_54_code
def yX9_down : MethodName := ⟨RX9, "down", "(I)I"⟩
abbrev cX9_kept : ByteArray := prog_11_method_55_code
def yX9_kept : MethodName := ⟨RX9, "kept", "(I)I"⟩
abbrev cX9_centreRevision : ByteArray := prog_11_method_56_code
def yX9_centreRevision : MethodName := ⟨RX9, "centreRevision", "()I"⟩
abbrev cX9_isMessage : ByteArray := prog_11_method_57_code
def yX9_isMessage : MethodName := ⟨RX9, "isMessage", "(I)Z"⟩
abbrev cX9_historyEnd : ByteArray := prog_11_method_58_code
def yX9_historyEnd : MethodName := ⟨RX9, "historyEnd", "(I)I"⟩
abbrev cX9_historySize : ByteArray := prog_11_method_59_code
def yX9_historySize : MethodName := ⟨RX9, "historySize", "(I)I"⟩
abbrev cX9_notOf : ByteArray := prog_11_method_60_code
def yX9_notOf : MethodName := ⟨RX9, "notOf", "(II)I"⟩
abbrev cX9_historyKind : ByteArray := prog_11_method_61_code
def yX9_historyKind : MethodName := ⟨RX9, "historyKind", "(II)C"⟩
abbrev cX9_historyPosition : ByteArray := prog_11_method_62_code
def yX9_historyPosition : MethodName := ⟨RX9, "historyPosition", "(II)I"⟩
abbrev cX9_areSame : ByteArray := prog_11_method_63_code
def yX9_areSame : MethodName := ⟨RX9, "areSame", "(II)Z"⟩
abbrev cX9_agree : ByteArray := prog_11_method_64_code
def yX9_agree : MethodName := ⟨RX9, "agree", "()Z"⟩
abbrev cX9_distance : ByteArray := prog_11_method_65_code
def yX9_distance : MethodName := ⟨RX9, "distance", "()I"⟩
abbrev cX9_distanceByWays : ByteArray := prog_11_method_66_code
def yX9_distanceByWays : MethodName := ⟨RX9, "distanceByWays", "()I"⟩
abbrev cX9_ownShare : ByteArray := prog_11_method_67_code
def yX9_ownShare : MethodName := ⟨RX9, "ownShare", "(I)F"⟩
abbrev cX9_meanRun : ByteArray := prog_11_method_68_code
def yX9_meanRun : MethodName := ⟨RX9, "meanRun", "()D"⟩
abbrev cX9_textNumber : ByteArray := prog_11_method_69_code
def yX9_textNumber : MethodName := ⟨RX9, "textNumber", "(I)J"⟩
def RJx145de : String := "java/io/Serializable"
def TJx145de : u_T := fun k => match k with
  | _ => ("", "", "", false)
def tyJx145de : Nat → FieldType := fun k => match k with
  | _ => .int
abbrev wsJx145de0 : List Cond := u_ws RJx145de TJx145de 0
theorem nmJx145de : ∀ a, a < 0 → ∀ b, b < 0 → a ≠ b → (TJx145de a).2.1 ≠ (TJx145de b).2.1 := by decide +kernel
theorem tyJx145de_ok : ∀ k, k < 0 → parseFieldDescriptor (TJx145de k).2.2.1 = some (tyJx145de k) := by decide +kernel
def RJ5 : String := "java/lang/AbstractStringBuilder"
def TJ5 : u_T := fun k => match k with
  | _ => ("", "", "", false)
def tyJ5 : Nat → FieldType := fun k => match k with
  | _ => .int
abbrev wsJ50 : List Cond := u_ws RJ5 TJ5 0
theorem nmJ5 : ∀ a, a < 0 → ∀ b, b < 0 → a ≠ b → (TJ5 a).2.1 ≠ (TJ5 b).2.1 := by decide +kernel
theorem tyJ5_ok : ∀ k, k < 0 → parseFieldDescriptor (TJ5 k).2.2.1 = some (tyJ5 k) := by decide +kernel
abbrev cJ5_init_d00df : ByteArray := prog_13_method_2_code
def yJ5_init_d00df : MethodName := ⟨RJ5, "<init>", "(I)V"⟩
abbrev cJ5_length_8abf5 : ByteArray := prog_13_method_6_code
def yJ5_length_8abf5 : MethodName := ⟨RJ5, "length", "()I"⟩
abbrev cJ5_ensureCapacityInternal_d00df : ByteArray := prog_13_method_9_code
def yJ5_ensureCapacityInternal_d00df : MethodName := ⟨RJ5, "ensureCapacityInternal", "(I)V"⟩
abbrev cJ5_newCapacity_0f7a4 : ByteArray := prog_13_method_10_code
def yJ5_newCapacity_0f7a4 : MethodName := ⟨RJ5, "newCapacity", "(I)I"⟩
abbrev cJ5_inflate_da8c8 : ByteArray := prog_13_method_11_code
def yJ5_inflate_da8c8 : MethodName := ⟨RJ5, "inflate", "()V"⟩
abbrev cJ5_append_cf1ce : ByteArray := prog_13_method_22_code
def yJ5_append_cf1ce : MethodName := ⟨RJ5, "append", "(Ljava/lang/String;)Ljava/lang/AbstractStringBuilder;"⟩
abbrev cJ5_appendNull_278bc : ByteArray := prog_13_method_26_code
def yJ5_appendNull_278bc : MethodName := ⟨RJ5, "appendNull", "()Ljava/lang/AbstractStringBuilder;"⟩
abbrev cJ5_append_c97b9 : ByteArray := prog_13_method_32_code
def yJ5_append_c97b9 : MethodName := ⟨RJ5, "append", "(I)Ljava/lang/AbstractStringBuilder;"⟩
abbrev cJ5_getValue_6d5f1 : ByteArray := prog_13_method_64_code
def yJ5_getValue_6d5f1 : MethodName := ⟨RJ5, "getValue", "()[B"⟩
abbrev cJ5_isLatin1_aae02 : ByteArray := prog_13_method_68_code
def yJ5_isLatin1_aae02 : MethodName := ⟨RJ5, "isLatin1", "()Z"⟩
abbrev cJ5_inflateIfNeededFor_a7421 : ByteArray := prog_13_method_71_code
def yJ5_inflateIfNeededFor_a7421 : MethodName := ⟨RJ5, "inflateIfNeededFor", "(Ljava/lang/String;)V"⟩
abbrev cJ5_putStringAt_47b60 : ByteArray := prog_13_method_73_code
def yJ5_putStringAt_47b60 : MethodName := ⟨RJ5, "putStringAt", "(ILjava/lang/String;)V"⟩
def RJx2cfe8 : String := "java/lang/Appendable"
def TJx2cfe8 : u_T := fun k => match k with
  | _ => ("", "", "", false)
def tyJx2cfe8 : Nat → FieldType := fun k => match k with
  | _ => .int
abbrev wsJx2cfe80 : List Cond := u_ws RJx2cfe8 TJx2cfe8 0
theorem nmJx2cfe8 : ∀ a, a < 0 → ∀ b, b < 0 → a ≠ b → (TJx2cfe8 a).2.1 ≠ (TJx2cfe8 b).2.1 := by decide +kernel
theorem tyJx2cfe8_ok : ∀ k, k < 0 → parseFieldDescriptor (TJx2cfe8 k).2.2.1 = some (tyJx2cfe8 k) := by decide +kernel
def RJx00060 : String := "java/lang/ArrayIndexOutOfBoundsException"
def TJx00060 : u_T := fun k => match k with
  | 0 => ("java/lang/Throwable", "backtrace", "Ljava/lang/Object;", false)
  | 1 => ("java/lang/Throwable", "detailMessage", "Ljava/lang/String;", false)
  | 2 => ("java/lang/Throwable", "cause", "Ljava/lang/Throwable;", false)
  | 3 => ("java/lang/Throwable", "stackTrace", "[Ljava/lang/StackTraceElement;", false)
  | 4 => ("java/lang/Throwable", "depth", "I", false)
  | _ => ("java/lang/Throwable", "suppressedExceptions", "Ljava/util/List;", false)
def tyJx00060 : Nat → FieldType := fun k => match k with
  | 0 => .object "java/lang/Object"
  | 1 => .object "java/lang/String"
  | 2 => .object "java/lang/Throwable"
  | 3 => .array (.object "java/lang/StackTraceElement")
  | 4 => .int
  | _ => .object "java/util/List"
abbrev wsJx000600 : List Cond := u_ws RJx00060 TJx00060 6
theorem nmJx00060 : ∀ a, a < 6 → ∀ b, b < 6 → a ≠ b → (TJx00060 a).2.1 ≠ (TJx00060 b).2.1 := by decide +kernel
theorem tyJx00060_ok : ∀ k, k < 6 → parseFieldDescriptor (TJx00060 k).2.2.1 = some (tyJx00060 k) := by decide +kernel
abbrev cJx00060_init_a7421 : ByteArray := prog_16_method_2_code
def yJx00060_init_a7421 : MethodName := ⟨RJx00060, "<init>", "(Ljava/lang/String;)V"⟩
def RJx9f9b0 : String := "java/lang/CharSequence"
def TJx9f9b0 : u_T := fun k => match k with
  | _ => ("", "", "", false)
def tyJx9f9b0 : Nat → FieldType := fun k => match k with
  | _ => .int
abbrev wsJx9f9b00 : List Cond := u_ws RJx9f9b0 TJx9f9b0 0
theorem nmJx9f9b0 : ∀ a, a < 0 → ∀ b, b < 0 → a ≠ b → (TJx9f9b0 a).2.1 ≠ (TJx9f9b0 b).2.1 := by decide +kernel
theorem tyJx9f9b0_ok : ∀ k, k < 0 → parseFieldDescriptor (TJx9f9b0 k).2.2.1 = some (tyJx9f9b0 k) := by decide +kernel
def RJx8e188 : String := "java/lang/Cloneable"
def TJx8e188 : u_T := fun k => match k with
  | _ => ("", "", "", false)
def tyJx8e188 : Nat → FieldType := fun k => match k with
  | _ => .int
abbrev wsJx8e1880 : List Cond := u_ws RJx8e188 TJx8e188 0
theorem nmJx8e188 : ∀ a, a < 0 → ∀ b, b < 0 → a ≠ b → (TJx8e188 a).2.1 ≠ (TJx8e188 b).2.1 := by decide +kernel
theorem tyJx8e188_ok : ∀ k, k < 0 → parseFieldDescriptor (TJx8e188 k).2.2.1 = some (tyJx8e188 k) := by decide +kernel
def RJxb160c : String := "java/lang/Comparable"
def TJxb160c : u_T := fun k => match k with
  | _ => ("", "", "", false)
def tyJxb160c : Nat → FieldType := fun k => match k with
  | _ => .int
abbrev wsJxb160c0 : List Cond := u_ws RJxb160c TJxb160c 0
theorem nmJxb160c : ∀ a, a < 0 → ∀ b, b < 0 → a ≠ b → (TJxb160c a).2.1 ≠ (TJxb160c b).2.1 := by decide +kernel
theorem tyJxb160c_ok : ∀ k, k < 0 → parseFieldDescriptor (TJxb160c k).2.2.1 = some (tyJxb160c k) := by decide +kernel
def RJ6 : String := "java/lang/Integer"
def TJ6 : u_T := fun k => match k with
  | _ => ("", "", "", false)
def tyJ6 : Nat → FieldType := fun k => match k with
  | _ => .int
abbrev wsJ60 : List Cond := u_ws RJ6 TJ6 0
theorem nmJ6 : ∀ a, a < 0 → ∀ b, b < 0 → a ≠ b → (TJ6 a).2.1 ≠ (TJ6 b).2.1 := by decide +kernel
theorem tyJ6_ok : ∀ k, k < 0 → parseFieldDescriptor (TJ6 k).2.2.1 = some (tyJ6 k) := by decide +kernel
abbrev cJ6_getChars_ba4f3 : ByteArray := prog_24_method_12_code
def yJ6_getChars_ba4f3 : MethodName := ⟨RJ6, "getChars", "(II[B)I"⟩
abbrev cJ6_stringSize_0f7a4 : ByteArray := prog_24_method_13_code
def yJ6_stringSize_0f7a4 : MethodName := ⟨RJ6, "stringSize", "(I)I"⟩
def RJxab1ab : String := "java/lang/Iterable"
def TJxab1ab : u_T := fun k => match k with
  | _ => ("", "", "", false)
def tyJxab1ab : Nat → FieldType := fun k => match k with
  | _ => .int
abbrev wsJxab1ab0 : List Cond := u_ws RJxab1ab TJxab1ab 0
theorem nmJxab1ab : ∀ a, a < 0 → ∀ b, b < 0 → a ≠ b → (TJxab1ab a).2.1 ≠ (TJxab1ab b).2.1 := by decide +kernel
theorem tyJxab1ab_ok : ∀ k, k < 0 → parseFieldDescriptor (TJxab1ab k).2.2.1 = some (tyJxab1ab k) := by decide +kernel
def RJ9 : String := "java/lang/Math"
def TJ9 : u_T := fun k => match k with
  | _ => ("", "", "", false)
def tyJ9 : Nat → FieldType := fun k => match k with
  | _ => .int
abbrev wsJ90 : List Cond := u_ws RJ9 TJ9 0
theorem nmJ9 : ∀ a, a < 0 → ∀ b, b < 0 → a ≠ b → (TJ9 a).2.1 ≠ (TJ9 b).2.1 := by decide +kernel
theorem tyJ9_ok : ∀ k, k < 0 → parseFieldDescriptor (TJ9 k).2.2.1 = some (tyJ9 k) := by decide +kernel
abbrev cJ9_max_7cf53 : ByteArray := prog_26_method_65_code
def yJ9_max_7cf53 : MethodName := ⟨RJ9, "max", "(II)I"⟩
abbrev cJ9_min_7cf53 : ByteArray := prog_26_method_69_code
def yJ9_min_7cf53 : MethodName := ⟨RJ9, "min", "(II)I"⟩
def RJxd2413 : String := "java/lang/Number"
def TJxd2413 : u_T := fun k => match k with
  | _ => ("", "", "", false)
def tyJxd2413 : Nat → FieldType := fun k => match k with
  | _ => .int
abbrev wsJxd24130 : List Cond := u_ws RJxd2413 TJxd2413 0
theorem nmJxd2413 : ∀ a, a < 0 → ∀ b, b < 0 → a ≠ b → (TJxd2413 a).2.1 ≠ (TJxd2413 b).2.1 := by decide +kernel
theorem tyJxd2413_ok : ∀ k, k < 0 → parseFieldDescriptor (TJxd2413 k).2.2.1 = some (tyJxd2413 k) := by decide +kernel
def RJ0 : String := "java/lang/String"
def TJ0 : u_T := fun k => match k with
  | 0 => ("java/lang/String", "value", "[B", true)
  | 1 => ("java/lang/String", "coder", "B", true)
  | 2 => ("java/lang/String", "hash", "I", false)
  | _ => ("java/lang/String", "hashIsZero", "Z", false)
def tyJ0 : Nat → FieldType := fun k => match k with
  | 0 => .array .byte
  | 1 => .byte
  | 2 => .int
  | _ => .boolean
abbrev wsJ00 : List Cond := u_ws RJ0 TJ0 4
theorem nmJ0 : ∀ a, a < 4 → ∀ b, b < 4 → a ≠ b → (TJ0 a).2.1 ≠ (TJ0 b).2.1 := by decide +kernel
theorem tyJ0_ok : ∀ k, k < 4 → parseFieldDescriptor (TJ0 k).2.2.1 = some (tyJ0 k) := by decide +kernel
abbrev cJ0_init_81219 : ByteArray := prog_29_method_53_code
def yJ0_init_81219 : MethodName := ⟨RJ0, "<init>", "(Ljava/lang/StringBuilder;)V"⟩
abbrev cJ0_length_8abf5 : ByteArray := prog_29_method_54_code
def yJ0_length_8abf5 : MethodName := ⟨RJ0, "length", "()I"⟩
abbrev cJ0_getBytes_840e7 : ByteArray := prog_29_method_147_code
def yJ0_getBytes_840e7 : MethodName := ⟨RJ0, "getBytes", "([BIB)V"⟩
abbrev cJ0_init_db425 : ByteArray := prog_29_method_150_code
def yJ0_init_db425 : MethodName := ⟨RJ0, "<init>", "(Ljava/lang/AbstractStringBuilder;Ljava/lang/Void;)V"⟩
abbrev cJ0_coder_7d493 : ByteArray := prog_29_method_152_code
def yJ0_coder_7d493 : MethodName := ⟨RJ0, "coder", "()B"⟩
abbrev cJ0_checkBoundsOffCount_cabcc : ByteArray := prog_29_method_157_code
def yJ0_checkBoundsOffCount_cabcc : MethodName := ⟨RJ0, "checkBoundsOffCount", "(III)I"⟩
abbrev cJ0_checkBoundsBeginEnd_23922 : ByteArray := prog_29_method_158_code
def yJ0_checkBoundsBeginEnd_23922 : MethodName := ⟨RJ0, "checkBoundsBeginEnd", "(III)V"⟩
def RJ4 : String := "java/lang/StringBuilder"
def TJ4 : u_T := fun k => match k with
  | 0 => ("java/lang/AbstractStringBuilder", "value", "[B", false)
  | 1 => ("java/lang/AbstractStringBuilder", "coder", "B", false)
  | 2 => ("java/lang/AbstractStringBuilder", "maybeLatin1", "Z", false)
  | _ => ("java/lang/AbstractStringBuilder", "count", "I", false)
def tyJ4 : Nat → FieldType := fun k => match k with
  | 0 => .array .byte
  | 1 => .byte
  | 2 => .boolean
  | _ => .int
abbrev wsJ40 : List Cond := u_ws RJ4 TJ4 4
theorem nmJ4 : ∀ a, a < 4 → ∀ b, b < 4 → a ≠ b → (TJ4 a).2.1 ≠ (TJ4 b).2.1 := by decide +kernel
theorem tyJ4_ok : ∀ k, k < 4 → parseFieldDescriptor (TJ4 k).2.2.1 = some (tyJ4 k) := by decide +kernel
abbrev cJ4_init_da8c8 : ByteArray := prog_30_method_1_code
def yJ4_init_da8c8 : MethodName := ⟨RJ4, "<init>", "()V"⟩
abbrev cJ4_append_15ec4 : ByteArray := prog_30_method_7_code
def yJ4_append_15ec4 : MethodName := ⟨RJ4, "append", "(Ljava/lang/String;)Ljava/lang/StringBuilder;"⟩
abbrev cJ4_append_bf812 : ByteArray := prog_30_method_15_code
def yJ4_append_bf812 : MethodName := ⟨RJ4, "append", "(I)Ljava/lang/StringBuilder;"⟩
abbrev cJ4_toString_0e30d : ByteArray := prog_30_method_42_code
def yJ4_toString_0e30d : MethodName := ⟨RJ4, "toString", "()Ljava/lang/String;"⟩
abbrev cJ4_length_8abf5 : ByteArray := prog_30_method_93_code
def yJ4_length_8abf5 : MethodName := ⟨RJ4, "length", "()I"⟩
def RJ1 : String := "java/lang/StringLatin1"
def TJ1 : u_T := fun k => match k with
  | _ => ("", "", "", false)
def tyJ1 : Nat → FieldType := fun k => match k with
  | _ => .int
abbrev wsJ10 : List Cond := u_ws RJ1 TJ1 0
theorem nmJ1 : ∀ a, a < 0 → ∀ b, b < 0 → a ≠ b → (TJ1 a).2.1 ≠ (TJ1 b).2.1 := by decide +kernel
theorem tyJ1_ok : ∀ k, k < 0 → parseFieldDescriptor (TJ1 k).2.2.1 = some (tyJ1 k) := by decide +kernel
abbrev cJ1_inflate_0e8fd : ByteArray := prog_31_method_50_code
def yJ1_inflate_0e8fd : MethodName := ⟨RJ1, "inflate", "([BI[BII)V"⟩
def RJ2 : String := "java/lang/StringUTF16"
def TJ2 : u_T := fun k => match k with
  | _ => ("", "", "", false)
def tyJ2 : Nat → FieldType := fun k => match k with
  | _ => .int
abbrev wsJ20 : List Cond := u_ws RJ2 TJ2 0
theorem nmJ2 : ∀ a, a < 0 → ∀ b, b < 0 → a ≠ b → (TJ2 a).2.1 ≠ (TJ2 b).2.1 := by decide +kernel
theorem tyJ2_ok : ∀ k, k < 0 → parseFieldDescriptor (TJ2 k).2.2.1 = some (tyJ2 k) := by decide +kernel
abbrev cJ2_newBytesFor_77867 : ByteArray := prog_32_method_2_code
def yJ2_newBytesFor_77867 : MethodName := ⟨RJ2, "newBytesFor", "(I)[B"⟩
abbrev cJ2_newBytesLength_0f7a4 : ByteArray := prog_32_method_3_code
def yJ2_newBytesLength_0f7a4 : MethodName := ⟨RJ2, "newBytesLength", "(I)I"⟩
abbrev cJ2_putChar_b72d1 : ByteArray := prog_32_method_4_code
def yJ2_putChar_b72d1 : MethodName := ⟨RJ2, "putChar", "([BII)V"⟩
abbrev cJ2_getChar_3b067 : ByteArray := prog_32_method_5_code
def yJ2_getChar_3b067 : MethodName := ⟨RJ2, "getChar", "([BI)C"⟩
abbrev cJ2_length_9d52b : ByteArray := prog_32_method_6_code
def yJ2_length_9d52b : MethodName := ⟨RJ2, "length", "([B)I"⟩
abbrev cJ2_coderFromArrayLen_85cad : ByteArray := prog_32_method_15_code
def yJ2_coderFromArrayLen_85cad : MethodName := ⟨RJ2, "coderFromArrayLen", "([BI)B"⟩
abbrev cJ2_compress_39247 : ByteArray := prog_32_method_17_code
def yJ2_compress_39247 : MethodName := ⟨RJ2, "compress", "([BII)[B"⟩
abbrev cJ2_compress_5af95 : ByteArray := prog_32_method_22_code
def yJ2_compress_5af95 : MethodName := ⟨RJ2, "compress", "([BI[BII)I"⟩
abbrev cJ2_getChars_46870 : ByteArray := prog_32_method_77_code
def yJ2_getChars_46870 : MethodName := ⟨RJ2, "getChars", "(III[B)I"⟩
abbrev cJ2_putCharsAt_cd4e5 : ByteArray := prog_32_method_81_code
def yJ2_putCharsAt_cd4e5 : MethodName := ⟨RJ2, "putCharsAt", "([BICCCC)I"⟩
abbrev cJ2_inflate_0e8fd : ByteArray := prog_32_method_86_code
def yJ2_inflate_0e8fd : MethodName := ⟨RJ2, "inflate", "([BI[BII)V"⟩
abbrev cJ2_getChars_ba4f3 : ByteArray := prog_32_method_89_code
def yJ2_getChars_ba4f3 : MethodName := ⟨RJ2, "getChars", "(II[B)I"⟩
abbrev cJ2_checkBoundsBeginEnd_d044e : ByteArray := prog_32_method_93_code
def yJ2_checkBoundsBeginEnd_d044e : MethodName := ⟨RJ2, "checkBoundsBeginEnd", "(II[B)V"⟩
abbrev cJ2_checkBoundsOffCount_d044e : ByteArray := prog_32_method_94_code
def yJ2_checkBoundsOffCount_d044e : MethodName := ⟨RJ2, "checkBoundsOffCount", "(II[B)V"⟩
def RJ10 : String := "java/lang/System"
def TJ10 : u_T := fun k => match k with
  | _ => ("", "", "", false)
def tyJ10 : Nat → FieldType := fun k => match k with
  | _ => .int
abbrev wsJ100 : List Cond := u_ws RJ10 TJ10 0
theorem nmJ10 : ∀ a, a < 0 → ∀ b, b < 0 → a ≠ b → (TJ10 a).2.1 ≠ (TJ10 b).2.1 := by decide +kernel
theorem tyJ10_ok : ∀ k, k < 0 → parseFieldDescriptor (TJ10 k).2.2.1 = some (tyJ10 k) := by decide +kernel
def RJxfd54e : String := "java/lang/constant/Constable"
def TJxfd54e : u_T := fun k => match k with
  | _ => ("", "", "", false)
def tyJxfd54e : Nat → FieldType := fun k => match k with
  | _ => .int
abbrev wsJxfd54e0 : List Cond := u_ws RJxfd54e TJxfd54e 0
theorem nmJxfd54e : ∀ a, a < 0 → ∀ b, b < 0 → a ≠ b → (TJxfd54e a).2.1 ≠ (TJxfd54e b).2.1 := by decide +kernel
theorem tyJxfd54e_ok : ∀ k, k < 0 → parseFieldDescriptor (TJxfd54e k).2.2.1 = some (tyJxfd54e k) := by decide +kernel
def RJx3cf43 : String := "java/lang/constant/ConstantDesc"
def TJx3cf43 : u_T := fun k => match k with
  | _ => ("", "", "", false)
def tyJx3cf43 : Nat → FieldType := fun k => match k with
  | _ => .int
abbrev wsJx3cf430 : List Cond := u_ws RJx3cf43 TJx3cf43 0
theorem nmJx3cf43 : ∀ a, a < 0 → ∀ b, b < 0 → a ≠ b → (TJx3cf43 a).2.1 ≠ (TJx3cf43 b).2.1 := by decide +kernel
theorem tyJx3cf43_ok : ∀ k, k < 0 → parseFieldDescriptor (TJx3cf43 k).2.2.1 = some (tyJx3cf43 k) := by decide +kernel
def RJxa1e45 : String := "java/util/AbstractCollection"
def TJxa1e45 : u_T := fun k => match k with
  | _ => ("", "", "", false)
def tyJxa1e45 : Nat → FieldType := fun k => match k with
  | _ => .int
abbrev wsJxa1e450 : List Cond := u_ws RJxa1e45 TJxa1e45 0
theorem nmJxa1e45 : ∀ a, a < 0 → ∀ b, b < 0 → a ≠ b → (TJxa1e45 a).2.1 ≠ (TJxa1e45 b).2.1 := by decide +kernel
theorem tyJxa1e45_ok : ∀ k, k < 0 → parseFieldDescriptor (TJxa1e45 k).2.2.1 = some (tyJxa1e45 k) := by decide +kernel
abbrev cJxa1e45_init_da8c8 : ByteArray := prog_37_method_1_code
def yJxa1e45_init_da8c8 : MethodName := ⟨RJxa1e45, "<init>", "()V"⟩
def RJxc12de : String := "java/util/AbstractList"
def TJxc12de : u_T := fun k => match k with
  | _ => ("", "", "", false)
def tyJxc12de : Nat → FieldType := fun k => match k with
  | _ => .int
abbrev wsJxc12de0 : List Cond := u_ws RJxc12de TJxc12de 0
theorem nmJxc12de : ∀ a, a < 0 → ∀ b, b < 0 → a ≠ b → (TJxc12de a).2.1 ≠ (TJxc12de b).2.1 := by decide +kernel
theorem tyJxc12de_ok : ∀ k, k < 0 → parseFieldDescriptor (TJxc12de k).2.2.1 = some (tyJxc12de k) := by decide +kernel
abbrev cJxc12de_init_da8c8 : ByteArray := prog_38_method_1_code
def yJxc12de_init_da8c8 : MethodName := ⟨RJxc12de, "<init>", "()V"⟩
def RJx4a65c : String := "java/util/ArrayList"
def TJx4a65c : u_T := fun k => match k with
  | 0 => ("java/util/AbstractList", "modCount", "I", false)
  | 1 => ("java/util/ArrayList", "elementData", "[Ljava/lang/Object;", false)
  | _ => ("java/util/ArrayList", "size", "I", false)
def tyJx4a65c : Nat → FieldType := fun k => match k with
  | 0 => .int
  | 1 => .array (.object "java/lang/Object")
  | _ => .int
abbrev wsJx4a65c0 : List Cond := u_ws RJx4a65c TJx4a65c 3
theorem nmJx4a65c : ∀ a, a < 3 → ∀ b, b < 3 → a ≠ b → (TJx4a65c a).2.1 ≠ (TJx4a65c b).2.1 := by decide +kernel
theorem tyJx4a65c_ok : ∀ k, k < 3 → parseFieldDescriptor (TJx4a65c k).2.2.1 = some (tyJx4a65c k) := by decide +kernel
abbrev cJx4a65c_init_da8c8 : ByteArray := prog_39_method_2_code
def yJx4a65c_init_da8c8 : MethodName := ⟨RJx4a65c, "<init>", "()V"⟩
abbrev cJx4a65c_grow_92f84 : ByteArray := prog_39_method_6_code
def yJx4a65c_grow_92f84 : MethodName := ⟨RJx4a65c, "grow", "(I)[Ljava/lang/Object;"⟩
abbrev cJx4a65c_grow_d5877 : ByteArray := prog_39_method_7_code
def yJx4a65c_grow_d5877 : MethodName := ⟨RJx4a65c, "grow", "()[Ljava/lang/Object;"⟩
abbrev cJx4a65c_size_8abf5 : ByteArray := prog_39_method_8_code
def yJx4a65c_size_8abf5 : MethodName := ⟨RJx4a65c, "size", "()I"⟩
abbrev cJx4a65c_isEmpty_aae02 : ByteArray := prog_39_method_9_code
def yJx4a65c_isEmpty_aae02 : MethodName := ⟨RJx4a65c, "isEmpty", "()Z"⟩
abbrev cJx4a65c_elementData_915e3 : ByteArray := prog_39_method_18_code
def yJx4a65c_elementData_915e3 : MethodName := ⟨RJx4a65c, "elementData", "(I)Ljava/lang/Object;"⟩
abbrev cJx4a65c_get_915e3 : ByteArray := prog_39_method_20_code
def yJx4a65c_get_915e3 : MethodName := ⟨RJx4a65c, "get", "(I)Ljava/lang/Object;"⟩
abbrev cJx4a65c_add_72be8 : ByteArray := prog_39_method_24_code
def yJx4a65c_add_72be8 : MethodName := ⟨RJx4a65c, "add", "(Ljava/lang/Object;[Ljava/lang/Object;I)V"⟩
abbrev cJx4a65c_add_9ea2d : ByteArray := prog_39_method_25_code
def yJx4a65c_add_9ea2d : MethodName := ⟨RJx4a65c, "add", "(Ljava/lang/Object;)Z"⟩
abbrev cJx4a65c_add_7a177 : ByteArray := prog_39_method_26_code
def yJx4a65c_add_7a177 : MethodName := ⟨RJx4a65c, "add", "(ILjava/lang/Object;)V"⟩
abbrev cJx4a65c_remove_915e3 : ByteArray := prog_39_method_29_code
def yJx4a65c_remove_915e3 : MethodName := ⟨RJx4a65c, "remove", "(I)Ljava/lang/Object;"⟩
abbrev cJx4a65c_fastRemove_b59b0 : ByteArray := prog_39_method_39_code
def yJx4a65c_fastRemove_b59b0 : MethodName := ⟨RJx4a65c, "fastRemove", "([Ljava/lang/Object;I)V"⟩
abbrev cJx4a65c_clear_da8c8 : ByteArray := prog_39_method_40_code
def yJx4a65c_clear_da8c8 : MethodName := ⟨RJx4a65c, "clear", "()V"⟩
abbrev cJx4a65c_rangeCheckForAdd_d00df : ByteArray := prog_39_method_45_code
def yJx4a65c_rangeCheckForAdd_d00df : MethodName := ⟨RJx4a65c, "rangeCheckForAdd", "(I)V"⟩
abbrev cJx4a65c_outOfBoundsMsg_b52d3 : ByteArray := prog_39_method_46_code
def yJx4a65c_outOfBoundsMsg_b52d3 : MethodName := ⟨RJx4a65c, "outOfBoundsMsg", "(I)Ljava/lang/String;"⟩
def RJ7 : String := "java/util/Arrays"
def TJ7 : u_T := fun k => match k with
  | _ => ("", "", "", false)
def tyJ7 : Nat → FieldType := fun k => match k with
  | _ => .int
abbrev wsJ70 : List Cond := u_ws RJ7 TJ7 0
theorem nmJ7 : ∀ a, a < 0 → ∀ b, b < 0 → a ≠ b → (TJ7 a).2.1 ≠ (TJ7 b).2.1 := by decide +kernel
theorem tyJ7_ok : ∀ k, k < 0 → parseFieldDescriptor (TJ7 k).2.2.1 = some (tyJ7 k) := by decide +kernel
abbrev cJ7_copyOf_1904c : ByteArray := prog_40_method_119_code
def yJ7_copyOf_1904c : MethodName := ⟨RJ7, "copyOf", "([Ljava/lang/Object;I)[Ljava/lang/Object;"⟩
abbrev cJ7_copyOf_6403c : ByteArray := prog_40_method_120_code
def yJ7_copyOf_6403c : MethodName := ⟨RJ7, "copyOf", "([Ljava/lang/Object;ILjava/lang/Class;)[Ljava/lang/Object;"⟩
abbrev cJ7_copyOf_9075b : ByteArray := prog_40_method_121_code
def yJ7_copyOf_9075b : MethodName := ⟨RJ7, "copyOf", "([BI)[B"⟩
abbrev cJ7_checkLength_df160 : ByteArray := prog_40_method_131_code
def yJ7_checkLength_df160 : MethodName := ⟨RJ7, "checkLength", "(II)V"⟩
abbrev cJ7_copyOfRange_39247 : ByteArray := prog_40_method_132_code
def yJ7_copyOfRange_39247 : MethodName := ⟨RJ7, "copyOfRange", "([BII)[B"⟩
abbrev cJ7_copyOfRangeByte_39247 : ByteArray := prog_40_method_133_code
def yJ7_copyOfRangeByte_39247 : MethodName := ⟨RJ7, "copyOfRangeByte", "([BII)[B"⟩
def RJx5ef63 : String := "java/util/Collection"
def TJx5ef63 : u_T := fun k => match k with
  | _ => ("", "", "", false)
def tyJx5ef63 : Nat → FieldType := fun k => match k with
  | _ => .int
abbrev wsJx5ef630 : List Cond := u_ws RJx5ef63 TJx5ef63 0
theorem nmJx5ef63 : ∀ a, a < 0 → ∀ b, b < 0 → a ≠ b → (TJx5ef63 a).2.1 ≠ (TJx5ef63 b).2.1 := by decide +kernel
theorem tyJx5ef63_ok : ∀ k, k < 0 → parseFieldDescriptor (TJx5ef63 k).2.2.1 = some (tyJx5ef63 k) := by decide +kernel
def RJxbd725 : String := "java/util/List"
def TJxbd725 : u_T := fun k => match k with
  | _ => ("", "", "", false)
def tyJxbd725 : Nat → FieldType := fun k => match k with
  | _ => .int
abbrev wsJxbd7250 : List Cond := u_ws RJxbd725 TJxbd725 0
theorem nmJxbd725 : ∀ a, a < 0 → ∀ b, b < 0 → a ≠ b → (TJxbd725 a).2.1 ≠ (TJxbd725 b).2.1 := by decide +kernel
theorem tyJxbd725_ok : ∀ k, k < 0 → parseFieldDescriptor (TJxbd725 k).2.2.1 = some (tyJxbd725 k) := by decide +kernel
def RJ15 : String := "java/util/Objects"
def TJ15 : u_T := fun k => match k with
  | _ => ("", "", "", false)
def tyJ15 : Nat → FieldType := fun k => match k with
  | _ => .int
abbrev wsJ150 : List Cond := u_ws RJ15 TJ15 0
theorem nmJ15 : ∀ a, a < 0 → ∀ b, b < 0 → a ≠ b → (TJ15 a).2.1 ≠ (TJ15 b).2.1 := by decide +kernel
theorem tyJ15_ok : ∀ k, k < 0 → parseFieldDescriptor (TJ15 k).2.2.1 = some (tyJ15 k) := by decide +kernel
abbrev cJ15_checkIndex_7cf53 : ByteArray := prog_44_method_17_code
def yJ15_checkIndex_7cf53 : MethodName := ⟨RJ15, "checkIndex", "(II)I"⟩
def RJxf0a74 : String := "java/util/RandomAccess"
def TJxf0a74 : u_T := fun k => match k with
  | _ => ("", "", "", false)
def tyJxf0a74 : Nat → FieldType := fun k => match k with
  | _ => .int
abbrev wsJxf0a740 : List Cond := u_ws RJxf0a74 TJxf0a74 0
theorem nmJxf0a74 : ∀ a, a < 0 → ∀ b, b < 0 → a ≠ b → (TJxf0a74 a).2.1 ≠ (TJxf0a74 b).2.1 := by decide +kernel
theorem tyJxf0a74_ok : ∀ k, k < 0 → parseFieldDescriptor (TJxf0a74 k).2.2.1 = some (tyJxf0a74 k) := by decide +kernel
def RJxa66e6 : String := "java/util/SequencedCollection"
def TJxa66e6 : u_T := fun k => match k with
  | _ => ("", "", "", false)
def tyJxa66e6 : Nat → FieldType := fun k => match k with
  | _ => .int
abbrev wsJxa66e60 : List Cond := u_ws RJxa66e6 TJxa66e6 0
theorem nmJxa66e6 : ∀ a, a < 0 → ∀ b, b < 0 → a ≠ b → (TJxa66e6 a).2.1 ≠ (TJxa66e6 b).2.1 := by decide +kernel
theorem tyJxa66e6_ok : ∀ k, k < 0 → parseFieldDescriptor (TJxa66e6 k).2.2.1 = some (tyJxa66e6 k) := by decide +kernel
def RJ8 : String := "jdk/internal/util/ArraysSupport"
def TJ8 : u_T := fun k => match k with
  | _ => ("", "", "", false)
def tyJ8 : Nat → FieldType := fun k => match k with
  | _ => .int
abbrev wsJ80 : List Cond := u_ws RJ8 TJ8 0
theorem nmJ8 : ∀ a, a < 0 → ∀ b, b < 0 → a ≠ b → (TJ8 a).2.1 ≠ (TJ8 b).2.1 := by decide +kernel
theorem tyJ8_ok : ∀ k, k < 0 → parseFieldDescriptor (TJ8 k).2.2.1 = some (tyJ8 k) := by decide +kernel
abbrev cJ8_newLength_cabcc : ByteArray := prog_47_method_27_code
def yJ8_newLength_cabcc : MethodName := ⟨RJ8, "newLength", "(III)I"⟩
abbrev cJ8_hugeLength_7cf53 : ByteArray := prog_47_method_28_code
def yJ8_hugeLength_7cf53 : MethodName := ⟨RJ8, "hugeLength", "(II)I"⟩
def RJ3 : String := "jdk/internal/util/Preconditions"
def TJ3 : u_T := fun k => match k with
  | _ => ("", "", "", false)
def tyJ3 : Nat → FieldType := fun k => match k with
  | _ => .int
abbrev wsJ30 : List Cond := u_ws RJ3 TJ3 0
theorem nmJ3 : ∀ a, a < 0 → ∀ b, b < 0 → a ≠ b → (TJ3 a).2.1 ≠ (TJ3 b).2.1 := by decide +kernel
theorem tyJ3_ok : ∀ k, k < 0 → parseFieldDescriptor (TJ3 k).2.2.1 = some (tyJ3 k) := by decide +kernel
abbrev cJ3_checkIndex_8e157 : ByteArray := prog_48_method_11_code
def yJ3_checkIndex_8e157 : MethodName := ⟨RJ3, "checkIndex", "(IILjava/util/function/BiFunction;)I"⟩
abbrev cJ3_checkFromToIndex_8c36e : ByteArray := prog_48_method_12_code
def yJ3_checkFromToIndex_8c36e : MethodName := ⟨RJ3, "checkFromToIndex", "(IIILjava/util/function/BiFunction;)I"⟩
abbrev cJ3_checkFromIndexSize_8c36e : ByteArray := prog_48_method_13_code
def yJ3_checkFromIndexSize_8c36e : MethodName := ⟨RJ3, "checkFromIndexSize", "(IIILjava/util/function/BiFunction;)I"⟩
def RL : String := "CoupletLaw"
abbrev cL_insert : ByteArray := method_3_code
def yL_insert : MethodName := ⟨RL, "insert", "(LCouplet;IIC[J)I"⟩
abbrev cL_delete : ByteArray := method_4_code
def yL_delete : MethodName := ⟨RL, "delete", "(LCouplet;II[J)I"⟩
abbrev cL_type : ByteArray := method_5_code
def yL_type : MethodName := ⟨RL, "type", "(LCouplet;IC[J)I"⟩
abbrev cL_erase : ByteArray := method_6_code
def yL_erase : MethodName := ⟨RL, "erase", "(LCouplet;I[J)I"⟩
abbrev cL_moveCursor : ByteArray := method_7_code
def yL_moveCursor : MethodName := ⟨RL, "moveCursor", "(LCouplet;II[J)I"⟩
abbrev cL_undo : ByteArray := method_8_code
def yL_undo : MethodName := ⟨RL, "undo", "(LCouplet;I[J)I"⟩
abbrev cL_deliverUp : ByteArray := method_9_code
def yL_deliverUp : MethodName := ⟨RL, "deliverUp", "(LCouplet;I[J)I"⟩
abbrev cL_deliverDown : ByteArray := method_10_code
def yL_deliverDown : MethodName := ⟨RL, "deliverDown", "(LCouplet;I[J)I"⟩
abbrev cL_length : ByteArray := method_11_code
def yL_length : MethodName := ⟨RL, "length", "(LCouplet;I[J)I"⟩
abbrev cL_charAt : ByteArray := method_12_code
def yL_charAt : MethodName := ⟨RL, "charAt", "(LCouplet;II[J)I"⟩
abbrev cL_ownerAt : ByteArray := method_13_code
def yL_ownerAt : MethodName := ⟨RL, "ownerAt", "(LCouplet;II[J)I"⟩
abbrev cL_lengthByHistory : ByteArray := method_14_code
def yL_lengthByHistory : MethodName := ⟨RL, "lengthByHistory", "(LCouplet;I[J)I"⟩
abbrev cL_charByHistory : ByteArray := method_15_code
def yL_charByHistory : MethodName := ⟨RL, "charByHistory", "(LCouplet;II[J)I"⟩
abbrev cL_centreChar : ByteArray := method_16_code
def yL_centreChar : MethodName := ⟨RL, "centreChar", "(LCouplet;I[J)I"⟩
abbrev cL_cursor : ByteArray := method_17_code
def yL_cursor : MethodName := ⟨RL, "cursor", "(LCouplet;I[J)I"⟩
abbrev cL_mark : ByteArray := method_18_code
def yL_mark : MethodName := ⟨RL, "mark", "(LCouplet;I[J)I"⟩
abbrev cL_revision : ByteArray := method_19_code
def yL_revision : MethodName := ⟨RL, "revision", "(LCouplet;I[J)I"⟩
abbrev cL_sent : ByteArray := method_20_code
def yL_sent : MethodName := ⟨RL, "sent", "(LCouplet;I[J)I"⟩
abbrev cL_waiting : ByteArray := method_21_code
def yL_waiting : MethodName := ⟨RL, "waiting", "(LCouplet;I[J)I"⟩
abbrev cL_runs : ByteArray := method_22_code
def yL_runs : MethodName := ⟨RL, "runs", "(LCouplet;I[J)I"⟩
abbrev cL_up : ByteArray := method_23_code
def yL_up : MethodName := ⟨RL, "up", "(LCouplet;I[J)I"⟩
abbrev cL_down : ByteArray := method_24_code
def yL_down : MethodName := ⟨RL, "down", "(LCouplet;I[J)I"⟩
abbrev cL_kept : ByteArray := method_25_code
def yL_kept : MethodName := ⟨RL, "kept", "(LCouplet;I[J)I"⟩
abbrev cL_historyEnd : ByteArray := method_26_code
def yL_historyEnd : MethodName := ⟨RL, "historyEnd", "(LCouplet;I[J)I"⟩
abbrev cL_historySize : ByteArray := method_27_code
def yL_historySize : MethodName := ⟨RL, "historySize", "(LCouplet;I[J)I"⟩
abbrev cL_historyKind : ByteArray := method_28_code
def yL_historyKind : MethodName := ⟨RL, "historyKind", "(LCouplet;II[J)I"⟩
abbrev cL_historyPosition : ByteArray := method_29_code
def yL_historyPosition : MethodName := ⟨RL, "historyPosition", "(LCouplet;II[J)I"⟩
abbrev cL_ownShare : ByteArray := method_30_code
def yL_ownShare : MethodName := ⟨RL, "ownShare", "(LCouplet;I[D)I"⟩
abbrev cL_meanRun : ByteArray := method_31_code
def yL_meanRun : MethodName := ⟨RL, "meanRun", "(LCouplet;[D)I"⟩
abbrev cL_textNumber : ByteArray := method_32_code
def yL_textNumber : MethodName := ⟨RL, "textNumber", "(LCouplet;I[J)I"⟩
abbrev cL_law : ByteArray := code
def yL_law : MethodName := ⟨RL, "law", "([I)Z"⟩
end
section
theorem dX0_init_0 : decode cX0_init 0 = .ok (.aload_n 0, 1) := by decide +kernel
theorem dX0_init_1 : decode cX0_init 1 = .ok (.invokespecial 1, 3) := by decide +kernel
theorem dX0_init_4 : decode cX0_init 4 = .ok (.aload_n 0, 1) := by decide +kernel
theorem dX0_init_5 : decode cX0_init 5 = .ok (.new 7, 3) := by decide +kernel
theorem dX0_init_8 : decode cX0_init 8 = .ok (.dup, 1) := by decide +kernel
theorem dX0_init_9 : decode cX0_init 9 = .ok (.invokespecial 9, 3) := by decide +kernel
theorem dX0_init_12 : decode cX0_init 12 = .ok (.putfield 10, 3) := by decide +kernel
theorem dX0_init_15 : decode cX0_init 15 = .ok (.aload_n 0, 1) := by decide +kernel
theorem dX0_init_16 : decode cX0_init 16 = .ok (.new 16, 3) := by decide +kernel
theorem dX0_init_19 : decode cX0_init 19 = .ok (.dup, 1) := by decide +kernel
theorem dX0_init_20 : decode cX0_init 20 = .ok (.invokespecial 18, 3) := by decide +kernel
theorem dX0_init_23 : decode cX0_init 23 = .ok (.putfield 19, 3) := by decide +kernel
theorem dX0_init_26 : decode cX0_init 26 = .ok (.return_, 1) := by decide +kernel
theorem dX0_enter_0 : decode cX0_enter 0 = .ok (.aload_n 1, 1) := by decide +kernel
theorem dX0_enter_1 : decode cX0_enter 1 = .ok (.getfield 23, 3) := by decide +kernel
theorem dX0_enter_4 : decode cX0_enter 4 = .ok (.istore_n 2, 1) := by decide +kernel
theorem dX0_enter_5 : decode cX0_enter 5 = .ok (.iload_n 2, 1) := by decide +kernel
theorem dX0_enter_6 : decode cX0_enter 6 = .ok (.ifCond .lt 41, 3) := by decide +kernel
theorem dX0_enter_9 : decode cX0_enter 9 = .ok (.iload_n 2, 1) := by decide +kernel
theorem dX0_enter_10 : decode cX0_enter 10 = .ok (.aload_n 0, 1) := by decide +kernel
theorem dX0_enter_11 : decode cX0_enter 11 = .ok (.getfield 19, 3) := by decide +kernel
theorem dX0_enter_14 : decode cX0_enter 14 = .ok (.invokevirtual 29, 3) := by decide +kernel
theorem dX0_enter_17 : decode cX0_enter 17 = .ok (.if_icmp .ge 30, 3) := by decide +kernel
theorem dX0_enter_20 : decode cX0_enter 20 = .ok (.aload_n 1, 1) := by decide +kernel
theorem dX0_enter_21 : decode cX0_enter 21 = .ok (.getfield 33, 3) := by decide +kernel
theorem dX0_enter_24 : decode cX0_enter 24 = .ok (.aload_n 0, 1) := by decide +kernel
theorem dX0_enter_25 : decode cX0_enter 25 = .ok (.getfield 19, 3) := by decide +kernel
theorem dX0_enter_28 : decode cX0_enter 28 = .ok (.iload_n 2, 1) := by decide +kernel
theorem dX0_enter_29 : decode cX0_enter 29 = .ok (.invokevirtual 36, 3) := by decide +kernel
theorem dX0_enter_32 : decode cX0_enter 32 = .ok (.checkcast 24, 3) := by decide +kernel
theorem dX0_enter_35 : decode cX0_enter 35 = .ok (.getfield 33, 3) := by decide +kernel
theorem dX0_enter_38 : decode cX0_enter 38 = .ok (.invokestatic 40, 3) := by decide +kernel
theorem dX0_enter_41 : decode cX0_enter 41 = .ok (.iinc 2 1, 3) := by decide +kernel
theorem dX0_enter_44 : decode cX0_enter 44 = .ok (.goto (-39), 3) := by decide +kernel
theorem dX0_enter_47 : decode cX0_enter 47 = .ok (.aload_n 0, 1) := by decide +kernel
theorem dX0_enter_48 : decode cX0_enter 48 = .ok (.getfield 10, 3) := by decide +kernel
theorem dX0_enter_51 : decode cX0_enter 51 = .ok (.aload_n 1, 1) := by decide +kernel
theorem dX0_enter_52 : decode cX0_enter 52 = .ok (.getfield 33, 3) := by decide +kernel
theorem dX0_enter_55 : decode cX0_enter 55 = .ok (.invokevirtual 44, 3) := by decide +kernel
theorem dX0_enter_58 : decode cX0_enter 58 = .ok (.aload_n 0, 1) := by decide +kernel
theorem dX0_enter_59 : decode cX0_enter 59 = .ok (.getfield 19, 3) := by decide +kernel
theorem dX0_enter_62 : decode cX0_enter 62 = .ok (.aload_n 1, 1) := by decide +kernel
theorem dX0_enter_63 : decode cX0_enter 63 = .ok (.invokevirtual 48, 3) := by decide +kernel
theorem dX0_enter_66 : decode cX0_enter 66 = .ok (.pop, 1) := by decide +kernel
theorem dX0_enter_67 : decode cX0_enter 67 = .ok (.return_, 1) := by decide +kernel
theorem dX0_countOperations_0 : decode cX0_countOperations 0 = .ok (.iconst 0, 1) := by decide +kernel
theorem dX0_countOperations_1 : decode cX0_countOperations 1 = .ok (.istore_n 1, 1) := by decide +kernel
theorem dX0_countOperations_2 : decode cX0_countOperations 2 = .ok (.iconst 0, 1) := by decide +kernel
theorem dX0_countOperations_3 : decode cX0_countOperations 3 = .ok (.istore_n 2, 1) := by decide +kernel
theorem dX0_countOperations_4 : decode cX0_countOperations 4 = .ok (.iload_n 2, 1) := by decide +kernel
theorem dX0_countOperations_5 : decode cX0_countOperations 5 = .ok (.aload_n 0, 1) := by decide +kernel
theorem dX0_countOperations_6 : decode cX0_countOperations 6 = .ok (.getfield 19, 3) := by decide +kernel
theorem dX0_countOperations_9 : decode cX0_countOperations 9 = .ok (.invokevirtual 29, 3) := by decide +kernel
theorem dX0_countOperations_12 : decode cX0_countOperations 12 = .ok (.if_icmp .ge 29, 3) := by decide +kernel
theorem dX0_countOperations_15 : decode cX0_countOperations 15 = .ok (.iload_n 1, 1) := by decide +kernel
theorem dX0_countOperations_16 : decode cX0_countOperations 16 = .ok (.aload_n 0, 1) := by decide +kernel
theorem dX0_countOperations_17 : decode cX0_countOperations 17 = .ok (.getfield 19, 3) := by decide +kernel
theorem dX0_countOperations_20 : decode cX0_countOperations 20 = .ok (.iload_n 2, 1) := by decide +kernel
theorem dX0_countOperations_21 : decode cX0_countOperations 21 = .ok (.invokevirtual 36, 3) := by decide +kernel
theorem dX0_countOperations_24 : decode cX0_countOperations 24 = .ok (.checkcast 24, 3) := by decide +kernel
theorem dX0_countOperations_27 : decode cX0_countOperations 27 = .ok (.getfield 33, 3) := by decide +kernel
theorem dX0_countOperations_30 : decode cX0_countOperations 30 = .ok (.invokevirtual 29, 3) := by decide +kernel
theorem dX0_countOperations_33 : decode cX0_countOperations 33 = .ok (.iadd, 1) := by decide +kernel
theorem dX0_countOperations_34 : decode cX0_countOperations 34 = .ok (.istore_n 1, 1) := by decide +kernel
theorem dX0_countOperations_35 : decode cX0_countOperations 35 = .ok (.iinc 2 1, 3) := by decide +kernel
theorem dX0_countOperations_38 : decode cX0_countOperations 38 = .ok (.goto (-34), 3) := by decide +kernel
theorem dX0_countOperations_41 : decode cX0_countOperations 41 = .ok (.iload_n 1, 1) := by decide +kernel
theorem dX0_countOperations_42 : decode cX0_countOperations 42 = .ok (.ireturn, 1) := by decide +kernel
theorem dX0_transformAll_0 : decode cX0_transformAll 0 = .ok (.iconst 0, 1) := by decide +kernel
theorem dX0_transformAll_1 : decode cX0_transformAll 1 = .ok (.istore_n 2, 1) := by decide +kernel
theorem dX0_transformAll_2 : decode cX0_transformAll 2 = .ok (.iload_n 2, 1) := by decide +kernel
theorem dX0_transformAll_3 : decode cX0_transformAll 3 = .ok (.aload_n 1, 1) := by decide +kernel
theorem dX0_transformAll_4 : decode cX0_transformAll 4 = .ok (.invokevirtual 29, 3) := by decide +kernel
theorem dX0_transformAll_7 : decode cX0_transformAll 7 = .ok (.if_icmp .ge 24, 3) := by decide +kernel
theorem dX0_transformAll_10 : decode cX0_transformAll 10 = .ok (.aload_n 0, 1) := by decide +kernel
theorem dX0_transformAll_11 : decode cX0_transformAll 11 = .ok (.aload_n 1, 1) := by decide +kernel
theorem dX0_transformAll_12 : decode cX0_transformAll 12 = .ok (.iload_n 2, 1) := by decide +kernel
theorem dX0_transformAll_13 : decode cX0_transformAll 13 = .ok (.invokevirtual 36, 3) := by decide +kernel
theorem dX0_transformAll_16 : decode cX0_transformAll 16 = .ok (.checkcast 52, 3) := by decide +kernel
theorem dX0_transformAll_19 : decode cX0_transformAll 19 = .ok (.invokevirtual 54, 3) := by decide +kernel
theorem dX0_transformAll_22 : decode cX0_transformAll 22 = .ok (.invokestatic 58, 3) := by decide +kernel
theorem dX0_transformAll_25 : decode cX0_transformAll 25 = .ok (.iinc 2 1, 3) := by decide +kernel
theorem dX0_transformAll_28 : decode cX0_transformAll 28 = .ok (.goto (-26), 3) := by decide +kernel
theorem dX0_transformAll_31 : decode cX0_transformAll 31 = .ok (.return_, 1) := by decide +kernel
theorem dX1_init_0 : decode cX1_init 0 = .ok (.aload_n 0, 1) := by decide +kernel
theorem dX1_init_1 : decode cX1_init 1 = .ok (.invokespecial 5, 3) := by decide +kernel
theorem dX1_init_4 : decode cX1_init 4 = .ok (.aload_n 0, 1) := by decide +kernel
theorem dX1_init_5 : decode cX1_init 5 = .ok (.sipush 201, 3) := by decide +kernel
theorem dX1_init_8 : decode cX1_init 8 = .ok (.newarray .int, 2) := by decide +kernel
theorem dX1_init_10 : decode cX1_init 10 = .ok (.putfield 11, 3) := by decide +kernel
theorem dX1_init_13 : decode cX1_init 13 = .ok (.aload_n 0, 1) := by decide +kernel
theorem dX1_init_14 : decode cX1_init 14 = .ok (.sipush 803, 3) := by decide +kernel
theorem dX1_init_17 : decode cX1_init 17 = .ok (.newarray .int, 2) := by decide +kernel
theorem dX1_init_19 : decode cX1_init 19 = .ok (.putfield 15, 3) := by decide +kernel
theorem dX1_init_22 : decode cX1_init 22 = .ok (.return_, 1) := by decide +kernel
theorem dX1_byTable_0 : decode cX1_byTable 0 = .ok (.aload_n 2, 1) := by decide +kernel
theorem dX1_byTable_1 : decode cX1_byTable 1 = .ok (.invokevirtual 18, 3) := by decide +kernel
theorem dX1_byTable_4 : decode cX1_byTable 4 = .ok (.sipush 200, 3) := by decide +kernel
theorem dX1_byTable_7 : decode cX1_byTable 7 = .ok (.invokestatic 24, 3) := by decide +kernel
theorem dX1_byTable_10 : decode cX1_byTable 10 = .ok (.istore_n 3, 1) := by decide +kernel
theorem dX1_byTable_11 : decode cX1_byTable 11 = .ok (.iconst 0, 1) := by decide +kernel
theorem dX1_byTable_12 : decode cX1_byTable 12 = .ok (.istore 4, 2) := by decide +kernel
theorem dX1_byTable_14 : decode cX1_byTable 14 = .ok (.iload 4, 2) := by decide +kernel
theorem dX1_byTable_16 : decode cX1_byTable 16 = .ok (.iload_n 3, 1) := by decide +kernel
theorem dX1_byTable_17 : decode cX1_byTable 17 = .ok (.if_icmp .gt 18, 3) := by decide +kernel
theorem dX1_byTable_20 : decode cX1_byTable 20 = .ok (.aload_n 0, 1) := by decide +kernel
theorem dX1_byTable_21 : decode cX1_byTable 21 = .ok (.getfield 11, 3) := by decide +kernel
theorem dX1_byTable_24 : decode cX1_byTable 24 = .ok (.iload 4, 2) := by decide +kernel
theorem dX1_byTable_26 : decode cX1_byTable 26 = .ok (.iload 4, 2) := by decide +kernel
theorem dX1_byTable_28 : decode cX1_byTable 28 = .ok (.iastore, 1) := by decide +kernel
theorem dX1_byTable_29 : decode cX1_byTable 29 = .ok (.iinc 4 1, 3) := by decide +kernel
theorem dX1_byTable_32 : decode cX1_byTable 32 = .ok (.goto (-18), 3) := by decide +kernel
theorem dX1_byTable_35 : decode cX1_byTable 35 = .ok (.iconst 1, 1) := by decide +kernel
theorem dX1_byTable_36 : decode cX1_byTable 36 = .ok (.istore 4, 2) := by decide +kernel
theorem dX1_byTable_38 : decode cX1_byTable 38 = .ok (.iload 4, 2) := by decide +kernel
theorem dX1_byTable_40 : decode cX1_byTable 40 = .ok (.aload_n 1, 1) := by decide +kernel
theorem dX1_byTable_41 : decode cX1_byTable 41 = .ok (.invokevirtual 18, 3) := by decide +kernel
theorem dX1_byTable_44 : decode cX1_byTable 44 = .ok (.if_icmp .gt 18, 3) := by decide +kernel
theorem dX1_byTable_47 : decode cX1_byTable 47 = .ok (.aload_n 0, 1) := by decide +kernel
theorem dX1_byTable_48 : decode cX1_byTable 48 = .ok (.aload_n 1, 1) := by decide +kernel
theorem dX1_byTable_49 : decode cX1_byTable 49 = .ok (.iload 4, 2) := by decide +kernel
theorem dX1_byTable_51 : decode cX1_byTable 51 = .ok (.aload_n 2, 1) := by decide +kernel
theorem dX1_byTable_52 : decode cX1_byTable 52 = .ok (.iload_n 3, 1) := by decide +kernel
theorem dX1_byTable_53 : decode cX1_byTable 53 = .ok (.invokevirtual 30, 3) := by decide +kernel
theorem dX1_byTable_56 : decode cX1_byTable 56 = .ok (.iinc 4 1, 3) := by decide +kernel
theorem dX1_byTable_59 : decode cX1_byTable 59 = .ok (.goto (-21), 3) := by decide +kernel
theorem dX1_byTable_62 : decode cX1_byTable 62 = .ok (.aload_n 0, 1) := by decide +kernel
theorem dX1_byTable_63 : decode cX1_byTable 63 = .ok (.getfield 11, 3) := by decide +kernel
theorem dX1_byTable_66 : decode cX1_byTable 66 = .ok (.iload_n 3, 1) := by decide +kernel
theorem dX1_byTable_67 : decode cX1_byTable 67 = .ok (.iaload, 1) := by decide +kernel
theorem dX1_byTable_68 : decode cX1_byTable 68 = .ok (.ireturn, 1) := by decide +kernel
theorem dX1_fillRow_0 : decode cX1_fillRow 0 = .ok (.aload_n 0, 1) := by decide +kernel
theorem dX1_fillRow_1 : decode cX1_fillRow 1 = .ok (.getfield 11, 3) := by decide +kernel
theorem dX1_fillRow_4 : decode cX1_fillRow 4 = .ok (.iconst 0, 1) := by decide +kernel
theorem dX1_fillRow_5 : decode cX1_fillRow 5 = .ok (.iaload, 1) := by decide +kernel
theorem dX1_fillRow_6 : decode cX1_fillRow 6 = .ok (.istore 5, 2) := by decide +kernel
theorem dX1_fillRow_8 : decode cX1_fillRow 8 = .ok (.aload_n 0, 1) := by decide +kernel
theorem dX1_fillRow_9 : decode cX1_fillRow 9 = .ok (.getfield 11, 3) := by decide +kernel
theorem dX1_fillRow_12 : decode cX1_fillRow 12 = .ok (.iconst 0, 1) := by decide +kernel
theorem dX1_fillRow_13 : decode cX1_fillRow 13 = .ok (.iload_n 2, 1) := by decide +kernel
theorem dX1_fillRow_14 : decode cX1_fillRow 14 = .ok (.iastore, 1) := by decide +kernel
theorem dX1_fillRow_15 : decode cX1_fillRow 15 = .ok (.iconst 1, 1) := by decide +kernel
theorem dX1_fillRow_16 : decode cX1_fillRow 16 = .ok (.istore 6, 2) := by decide +kernel
theorem dX1_fillRow_18 : decode cX1_fillRow 18 = .ok (.iload 6, 2) := by decide +kernel
theorem dX1_fillRow_20 : decode cX1_fillRow 20 = .ok (.iload 4, 2) := by decide +kernel
theorem dX1_fillRow_22 : decode cX1_fillRow 22 = .ok (.if_icmp .gt 65, 3) := by decide +kernel
theorem dX1_fillRow_25 : decode cX1_fillRow 25 = .ok (.aload_n 0, 1) := by decide +kernel
theorem dX1_fillRow_26 : decode cX1_fillRow 26 = .ok (.getfield 11, 3) := by decide +kernel
theorem dX1_fillRow_29 : decode cX1_fillRow 29 = .ok (.iload 6, 2) := by decide +kernel
theorem dX1_fillRow_31 : decode cX1_fillRow 31 = .ok (.iaload, 1) := by decide +kernel
theorem dX1_fillRow_32 : decode cX1_fillRow 32 = .ok (.istore 7, 2) := by decide +kernel
theorem dX1_fillRow_34 : decode cX1_fillRow 34 = .ok (.aload_n 0, 1) := by decide +kernel
theorem dX1_fillRow_35 : decode cX1_fillRow 35 = .ok (.getfield 11, 3) := by decide +kernel
theorem dX1_fillRow_38 : decode cX1_fillRow 38 = .ok (.iload 6, 2) := by decide +kernel
theorem dX1_fillRow_40 : decode cX1_fillRow 40 = .ok (.aload_n 1, 1) := by decide +kernel
theorem dX1_fillRow_41 : decode cX1_fillRow 41 = .ok (.iload_n 2, 1) := by decide +kernel
theorem dX1_fillRow_42 : decode cX1_fillRow 42 = .ok (.iconst 1, 1) := by decide +kernel
theorem dX1_fillRow_43 : decode cX1_fillRow 43 = .ok (.isub, 1) := by decide +kernel
theorem dX1_fillRow_44 : decode cX1_fillRow 44 = .ok (.aload_n 3, 1) := by decide +kernel
theorem dX1_fillRow_45 : decode cX1_fillRow 45 = .ok (.iload 6, 2) := by decide +kernel
theorem dX1_fillRow_47 : decode cX1_fillRow 47 = .ok (.iconst 1, 1) := by decide +kernel
theorem dX1_fillRow_48 : decode cX1_fillRow 48 = .ok (.isub, 1) := by decide +kernel
theorem dX1_fillRow_49 : decode cX1_fillRow 49 = .ok (.invokevirtual 34, 3) := by decide +kernel
theorem dX1_fillRow_52 : decode cX1_fillRow 52 = .ok (.ifCond .eq 8, 3) := by decide +kernel
theorem dX1_fillRow_55 : decode cX1_fillRow 55 = .ok (.iload 5, 2) := by decide +kernel
theorem dX1_fillRow_57 : decode cX1_fillRow 57 = .ok (.goto 19, 3) := by decide +kernel
theorem dX1_fillRow_60 : decode cX1_fillRow 60 = .ok (.iload 7, 2) := by decide +kernel
theorem dX1_fillRow_62 : decode cX1_fillRow 62 = .ok (.aload_n 0, 1) := by decide +kernel
theorem dX1_fillRow_63 : decode cX1_fillRow 63 = .ok (.getfield 11, 3) := by decide +kernel
theorem dX1_fillRow_66 : decode cX1_fillRow 66 = .ok (.iload 6, 2) := by decide +kernel
theorem dX1_fillRow_68 : decode cX1_fillRow 68 = .ok (.iconst 1, 1) := by decide +kernel
theorem dX1_fillRow_69 : decode cX1_fillRow 69 = .ok (.isub, 1) := by decide +kernel
theorem dX1_fillRow_70 : decode cX1_fillRow 70 = .ok (.iaload, 1) := by decide +kernel
theorem dX1_fillRow_71 : decode cX1_fillRow 71 = .ok (.invokestatic 24, 3) := by decide +kernel
theorem dX1_fillRow_74 : decode cX1_fillRow 74 = .ok (.iconst 1, 1) := by decide +kernel
theorem dX1_fillRow_75 : decode cX1_fillRow 75 = .ok (.iadd, 1) := by decide +kernel
theorem dX1_fillRow_76 : decode cX1_fillRow 76 = .ok (.iastore, 1) := by decide +kernel
theorem dX1_fillRow_77 : decode cX1_fillRow 77 = .ok (.iload 7, 2) := by decide +kernel
theorem dX1_fillRow_79 : decode cX1_fillRow 79 = .ok (.istore 5, 2) := by decide +kernel
theorem dX1_fillRow_81 : decode cX1_fillRow 81 = .ok (.iinc 6 1, 3) := by decide +kernel
theorem dX1_fillRow_84 : decode cX1_fillRow 84 = .ok (.goto (-66), 3) := by decide +kernel
theorem dX1_fillRow_87 : decode cX1_fillRow 87 = .ok (.return_, 1) := by decide +kernel
theorem dX1_byWays_0 : decode cX1_byWays 0 = .ok (.aload_n 1, 1) := by decide +kernel
theorem dX1_byWays_1 : decode cX1_byWays 1 = .ok (.invokevirtual 18, 3) := by decide +kernel
theorem dX1_byWays_4 : decode cX1_byWays 4 = .ok (.aload_n 2, 1) := by decide +kernel
theorem dX1_byWays_5 : decode cX1_byWays 5 = .ok (.invokevirtual 18, 3) := by decide +kernel
theorem dX1_byWays_8 : decode cX1_byWays 8 = .ok (.iadd, 1) := by decide +kernel
theorem dX1_byWays_9 : decode cX1_byWays 9 = .ok (.sipush 400, 3) := by decide +kernel
theorem dX1_byWays_12 : decode cX1_byWays 12 = .ok (.invokestatic 24, 3) := by decide +kernel
theorem dX1_byWays_15 : decode cX1_byWays 15 = .ok (.istore_n 3, 1) := by decide +kernel
theorem dX1_byWays_16 : decode cX1_byWays 16 = .ok (.aload_n 0, 1) := by decide +kernel
theorem dX1_byWays_17 : decode cX1_byWays 17 = .ok (.getfield 15, 3) := by decide +kernel
theorem dX1_byWays_20 : decode cX1_byWays 20 = .ok (.sipush 402, 3) := by decide +kernel
theorem dX1_byWays_23 : decode cX1_byWays 23 = .ok (.iconst 0, 1) := by decide +kernel
theorem dX1_byWays_24 : decode cX1_byWays 24 = .ok (.iastore, 1) := by decide +kernel
theorem dX1_byWays_25 : decode cX1_byWays 25 = .ok (.iconst 0, 1) := by decide +kernel
theorem dX1_byWays_26 : decode cX1_byWays 26 = .ok (.istore 4, 2) := by decide +kernel
theorem dX1_byWays_28 : decode cX1_byWays 28 = .ok (.iload 4, 2) := by decide +kernel
theorem dX1_byWays_30 : decode cX1_byWays 30 = .ok (.iload_n 3, 1) := by decide +kernel
theorem dX1_byWays_31 : decode cX1_byWays 31 = .ok (.if_icmp .ge 23, 3) := by decide +kernel
theorem dX1_byWays_34 : decode cX1_byWays 34 = .ok (.aload_n 0, 1) := by decide +kernel
theorem dX1_byWays_35 : decode cX1_byWays 35 = .ok (.aload_n 1, 1) := by decide +kernel
theorem dX1_byWays_36 : decode cX1_byWays 36 = .ok (.aload_n 2, 1) := by decide +kernel
theorem dX1_byWays_37 : decode cX1_byWays 37 = .ok (.iload 4, 2) := by decide +kernel
theorem dX1_byWays_39 : decode cX1_byWays 39 = .ok (.invokevirtual 38, 3) := by decide +kernel
theorem dX1_byWays_42 : decode cX1_byWays 42 = .ok (.ifCond .eq 6, 3) := by decide +kernel
theorem dX1_byWays_45 : decode cX1_byWays 45 = .ok (.iload 4, 2) := by decide +kernel
theorem dX1_byWays_47 : decode cX1_byWays 47 = .ok (.ireturn, 1) := by decide +kernel
theorem dX1_byWays_48 : decode cX1_byWays 48 = .ok (.iinc 4 1, 3) := by decide +kernel
theorem dX1_byWays_51 : decode cX1_byWays 51 = .ok (.goto (-23), 3) := by decide +kernel
theorem dX1_byWays_54 : decode cX1_byWays 54 = .ok (.iload_n 3, 1) := by decide +kernel
theorem dX1_byWays_55 : decode cX1_byWays 55 = .ok (.ireturn, 1) := by decide +kernel
theorem dX1_reachesEnd_0 : decode cX1_reachesEnd 0 = .ok (.iload_n 3, 1) := by decide +kernel
theorem dX1_reachesEnd_1 : decode cX1_reachesEnd 1 = .ok (.ineg, 1) := by decide +kernel
theorem dX1_reachesEnd_2 : decode cX1_reachesEnd 2 = .ok (.istore 4, 2) := by decide +kernel
theorem dX1_reachesEnd_4 : decode cX1_reachesEnd 4 = .ok (.iload 4, 2) := by decide +kernel
theorem dX1_reachesEnd_6 : decode cX1_reachesEnd 6 = .ok (.iload_n 3, 1) := by decide +kernel
theorem dX1_reachesEnd_7 : decode cX1_reachesEnd 7 = .ok (.if_icmp .gt 62, 3) := by decide +kernel
theorem dX1_reachesEnd_10 : decode cX1_reachesEnd 10 = .ok (.aload_n 0, 1) := by decide +kernel
theorem dX1_reachesEnd_11 : decode cX1_reachesEnd 11 = .ok (.aload_n 1, 1) := by decide +kernel
theorem dX1_reachesEnd_12 : decode cX1_reachesEnd 12 = .ok (.aload_n 2, 1) := by decide +kernel
theorem dX1_reachesEnd_13 : decode cX1_reachesEnd 13 = .ok (.iload 4, 2) := by decide +kernel
theorem dX1_reachesEnd_15 : decode cX1_reachesEnd 15 = .ok (.aload_n 0, 1) := by decide +kernel
theorem dX1_reachesEnd_16 : decode cX1_reachesEnd 16 = .ok (.iload 4, 2) := by decide +kernel
theorem dX1_reachesEnd_18 : decode cX1_reachesEnd 18 = .ok (.iload_n 3, 1) := by decide +kernel
theorem dX1_reachesEnd_19 : decode cX1_reachesEnd 19 = .ok (.invokevirtual 42, 3) := by decide +kernel
theorem dX1_reachesEnd_22 : decode cX1_reachesEnd 22 = .ok (.invokevirtual 45, 3) := by decide +kernel
theorem dX1_reachesEnd_25 : decode cX1_reachesEnd 25 = .ok (.istore 5, 2) := by decide +kernel
theorem dX1_reachesEnd_27 : decode cX1_reachesEnd 27 = .ok (.aload_n 0, 1) := by decide +kernel
theorem dX1_reachesEnd_28 : decode cX1_reachesEnd 28 = .ok (.getfield 15, 3) := by decide +kernel
theorem dX1_reachesEnd_31 : decode cX1_reachesEnd 31 = .ok (.sipush 401, 3) := by decide +kernel
theorem dX1_reachesEnd_34 : decode cX1_reachesEnd 34 = .ok (.iload 4, 2) := by decide +kernel
theorem dX1_reachesEnd_36 : decode cX1_reachesEnd 36 = .ok (.iadd, 1) := by decide +kernel
theorem dX1_reachesEnd_37 : decode cX1_reachesEnd 37 = .ok (.iload 5, 2) := by decide +kernel
theorem dX1_reachesEnd_39 : decode cX1_reachesEnd 39 = .ok (.iastore, 1) := by decide +kernel
theorem dX1_reachesEnd_40 : decode cX1_reachesEnd 40 = .ok (.iload 5, 2) := by decide +kernel
theorem dX1_reachesEnd_42 : decode cX1_reachesEnd 42 = .ok (.aload_n 1, 1) := by decide +kernel
theorem dX1_reachesEnd_43 : decode cX1_reachesEnd 43 = .ok (.invokevirtual 18, 3) := by decide +kernel
theorem dX1_reachesEnd_46 : decode cX1_reachesEnd 46 = .ok (.if_icmp .lt 17, 3) := by decide +kernel
theorem dX1_reachesEnd_49 : decode cX1_reachesEnd 49 = .ok (.iload 5, 2) := by decide +kernel
theorem dX1_reachesEnd_51 : decode cX1_reachesEnd 51 = .ok (.iload 4, 2) := by decide +kernel
theorem dX1_reachesEnd_53 : decode cX1_reachesEnd 53 = .ok (.isub, 1) := by decide +kernel
theorem dX1_reachesEnd_54 : decode cX1_reachesEnd 54 = .ok (.aload_n 2, 1) := by decide +kernel
theorem dX1_reachesEnd_55 : decode cX1_reachesEnd 55 = .ok (.invokevirtual 18, 3) := by decide +kernel
theorem dX1_reachesEnd_58 : decode cX1_reachesEnd 58 = .ok (.if_icmp .lt 5, 3) := by decide +kernel
theorem dX1_reachesEnd_61 : decode cX1_reachesEnd 61 = .ok (.iconst 1, 1) := by decide +kernel
theorem dX1_reachesEnd_62 : decode cX1_reachesEnd 62 = .ok (.ireturn, 1) := by decide +kernel
theorem dX1_reachesEnd_63 : decode cX1_reachesEnd 63 = .ok (.iinc 4 2, 3) := by decide +kernel
theorem dX1_reachesEnd_66 : decode cX1_reachesEnd 66 = .ok (.goto (-62), 3) := by decide +kernel
theorem dX1_reachesEnd_69 : decode cX1_reachesEnd 69 = .ok (.iconst 0, 1) := by decide +kernel
theorem dX1_reachesEnd_70 : decode cX1_reachesEnd 70 = .ok (.ireturn, 1) := by decide +kernel
theorem dX1_firstOn_0 : decode cX1_firstOn 0 = .ok (.aload_n 0, 1) := by decide +kernel
theorem dX1_firstOn_1 : decode cX1_firstOn 1 = .ok (.getfield 15, 3) := by decide +kernel
theorem dX1_firstOn_4 : decode cX1_firstOn 4 = .ok (.sipush 401, 3) := by decide +kernel
theorem dX1_firstOn_7 : decode cX1_firstOn 7 = .ok (.iload_n 1, 1) := by decide +kernel
theorem dX1_firstOn_8 : decode cX1_firstOn 8 = .ok (.iadd, 1) := by decide +kernel
theorem dX1_firstOn_9 : decode cX1_firstOn 9 = .ok (.iconst 1, 1) := by decide +kernel
theorem dX1_firstOn_10 : decode cX1_firstOn 10 = .ok (.iadd, 1) := by decide +kernel
theorem dX1_firstOn_11 : decode cX1_firstOn 11 = .ok (.iaload, 1) := by decide +kernel
theorem dX1_firstOn_12 : decode cX1_firstOn 12 = .ok (.istore_n 3, 1) := by decide +kernel
theorem dX1_firstOn_13 : decode cX1_firstOn 13 = .ok (.aload_n 0, 1) := by decide +kernel
theorem dX1_firstOn_14 : decode cX1_firstOn 14 = .ok (.getfield 15, 3) := by decide +kernel
theorem dX1_firstOn_17 : decode cX1_firstOn 17 = .ok (.sipush 401, 3) := by decide +kernel
theorem dX1_firstOn_20 : decode cX1_firstOn 20 = .ok (.iload_n 1, 1) := by decide +kernel
theorem dX1_firstOn_21 : decode cX1_firstOn 21 = .ok (.iadd, 1) := by decide +kernel
theorem dX1_firstOn_22 : decode cX1_firstOn 22 = .ok (.iconst 1, 1) := by decide +kernel
theorem dX1_firstOn_23 : decode cX1_firstOn 23 = .ok (.isub, 1) := by decide +kernel
theorem dX1_firstOn_24 : decode cX1_firstOn 24 = .ok (.iaload, 1) := by decide +kernel
theorem dX1_firstOn_25 : decode cX1_firstOn 25 = .ok (.iconst 1, 1) := by decide +kernel
theorem dX1_firstOn_26 : decode cX1_firstOn 26 = .ok (.iadd, 1) := by decide +kernel
theorem dX1_firstOn_27 : decode cX1_firstOn 27 = .ok (.istore 4, 2) := by decide +kernel
theorem dX1_firstOn_29 : decode cX1_firstOn 29 = .ok (.iload_n 1, 1) := by decide +kernel
theorem dX1_firstOn_30 : decode cX1_firstOn 30 = .ok (.iload_n 2, 1) := by decide +kernel
theorem dX1_firstOn_31 : decode cX1_firstOn 31 = .ok (.ineg, 1) := by decide +kernel
theorem dX1_firstOn_32 : decode cX1_firstOn 32 = .ok (.if_icmp .ne 5, 3) := by decide +kernel
theorem dX1_firstOn_35 : decode cX1_firstOn 35 = .ok (.iload_n 3, 1) := by decide +kernel
theorem dX1_firstOn_36 : decode cX1_firstOn 36 = .ok (.ireturn, 1) := by decide +kernel
theorem dX1_firstOn_37 : decode cX1_firstOn 37 = .ok (.iload_n 1, 1) := by decide +kernel
theorem dX1_firstOn_38 : decode cX1_firstOn 38 = .ok (.iload_n 2, 1) := by decide +kernel
theorem dX1_firstOn_39 : decode cX1_firstOn 39 = .ok (.if_icmp .eq 9, 3) := by decide +kernel
theorem dX1_firstOn_42 : decode cX1_firstOn 42 = .ok (.iload 4, 2) := by decide +kernel
theorem dX1_firstOn_44 : decode cX1_firstOn 44 = .ok (.iload_n 3, 1) := by decide +kernel
theorem dX1_firstOn_45 : decode cX1_firstOn 45 = .ok (.if_icmp .le 8, 3) := by decide +kernel
theorem dX1_firstOn_48 : decode cX1_firstOn 48 = .ok (.iload 4, 2) := by decide +kernel
theorem dX1_firstOn_50 : decode cX1_firstOn 50 = .ok (.goto 4, 3) := by decide +kernel
theorem dX1_firstOn_53 : decode cX1_firstOn 53 = .ok (.iload_n 3, 1) := by decide +kernel
theorem dX1_firstOn_54 : decode cX1_firstOn 54 = .ok (.ireturn, 1) := by decide +kernel
theorem dX1_follow_0 : decode cX1_follow 0 = .ok (.iload 4, 2) := by decide +kernel
theorem dX1_follow_2 : decode cX1_follow 2 = .ok (.istore 5, 2) := by decide +kernel
theorem dX1_follow_4 : decode cX1_follow 4 = .ok (.iload 5, 2) := by decide +kernel
theorem dX1_follow_6 : decode cX1_follow 6 = .ok (.aload_n 1, 1) := by decide +kernel
theorem dX1_follow_7 : decode cX1_follow 7 = .ok (.invokevirtual 18, 3) := by decide +kernel
theorem dX1_follow_10 : decode cX1_follow 10 = .ok (.if_icmp .ge 23, 3) := by decide +kernel
theorem dX1_follow_13 : decode cX1_follow 13 = .ok (.aload_n 1, 1) := by decide +kernel
theorem dX1_follow_14 : decode cX1_follow 14 = .ok (.iload 5, 2) := by decide +kernel
theorem dX1_follow_16 : decode cX1_follow 16 = .ok (.aload_n 2, 1) := by decide +kernel
theorem dX1_follow_17 : decode cX1_follow 17 = .ok (.iload 5, 2) := by decide +kernel
theorem dX1_follow_19 : decode cX1_follow 19 = .ok (.iload_n 3, 1) := by decide +kernel
theorem dX1_follow_20 : decode cX1_follow 20 = .ok (.isub, 1) := by decide +kernel
theorem dX1_follow_21 : decode cX1_follow 21 = .ok (.invokevirtual 34, 3) := by decide +kernel
theorem dX1_follow_24 : decode cX1_follow 24 = .ok (.ifCond .eq 9, 3) := by decide +kernel
theorem dX1_follow_27 : decode cX1_follow 27 = .ok (.iinc 5 1, 3) := by decide +kernel
theorem dX1_follow_30 : decode cX1_follow 30 = .ok (.goto (-26), 3) := by decide +kernel
theorem dX1_follow_33 : decode cX1_follow 33 = .ok (.iload 5, 2) := by decide +kernel
theorem dX1_follow_35 : decode cX1_follow 35 = .ok (.ireturn, 1) := by decide +kernel
theorem dX2_init_0 : decode cX2_init 0 = .ok (.aload_n 0, 1) := by decide +kernel
theorem dX2_init_1 : decode cX2_init 1 = .ok (.invokespecial 1, 3) := by decide +kernel
theorem dX2_init_4 : decode cX2_init 4 = .ok (.aload_n 0, 1) := by decide +kernel
theorem dX2_init_5 : decode cX2_init 5 = .ok (.new 7, 3) := by decide +kernel
theorem dX2_init_8 : decode cX2_init 8 = .ok (.dup, 1) := by decide +kernel
theorem dX2_init_9 : decode cX2_init 9 = .ok (.invokespecial 9, 3) := by decide +kernel
theorem dX2_init_12 : decode cX2_init 12 = .ok (.putfield 10, 3) := by decide +kernel
theorem dX2_init_15 : decode cX2_init 15 = .ok (.aload_n 0, 1) := by decide +kernel
theorem dX2_init_16 : decode cX2_init 16 = .ok (.new 16, 3) := by decide +kernel
theorem dX2_init_19 : decode cX2_init 19 = .ok (.dup, 1) := by decide +kernel
theorem dX2_init_20 : decode cX2_init 20 = .ok (.invokespecial 18, 3) := by decide +kernel
theorem dX2_init_23 : decode cX2_init 23 = .ok (.putfield 19, 3) := by decide +kernel
theorem dX2_init_26 : decode cX2_init 26 = .ok (.aload_n 0, 1) := by decide +kernel
theorem dX2_init_27 : decode cX2_init 27 = .ok (.new 16, 3) := by decide +kernel
theorem dX2_init_30 : decode cX2_init 30 = .ok (.dup, 1) := by decide +kernel
theorem dX2_init_31 : decode cX2_init 31 = .ok (.invokespecial 18, 3) := by decide +kernel
theorem dX2_init_34 : decode cX2_init 34 = .ok (.putfield 23, 3) := by decide +kernel
theorem dX2_init_37 : decode cX2_init 37 = .ok (.aload_n 0, 1) := by decide +kernel
theorem dX2_init_38 : decode cX2_init 38 = .ok (.new 16, 3) := by decide +kernel
theorem dX2_init_41 : decode cX2_init 41 = .ok (.dup, 1) := by decide +kernel
theorem dX2_init_42 : decode cX2_init 42 = .ok (.invokespecial 18, 3) := by decide +kernel
theorem dX2_init_45 : decode cX2_init 45 = .ok (.putfield 26, 3) := by decide +kernel
theorem dX2_init_48 : decode cX2_init 48 = .ok (.aload_n 0, 1) := by decide +kernel
theorem dX2_init_49 : decode cX2_init 49 = .ok (.new 16, 3) := by decide +kernel
theorem dX2_init_52 : decode cX2_init 52 = .ok (.dup, 1) := by decide +kernel
theorem dX2_init_53 : decode cX2_init 53 = .ok (.invokespecial 18, 3) := by decide +kernel
theorem dX2_init_56 : decode cX2_init 56 = .ok (.putfield 29, 3) := by decide +kernel
theorem dX2_init_59 : decode cX2_init 59 = .ok (.aload_n 0, 1) := by decide +kernel
theorem dX2_init_60 : decode cX2_init 60 = .ok (.new 16, 3) := by decide +kernel
theorem dX2_init_63 : decode cX2_init 63 = .ok (.dup, 1) := by decide +kernel
theorem dX2_init_64 : decode cX2_init 64 = .ok (.invokespecial 18, 3) := by decide +kernel
theorem dX2_init_67 : decode cX2_init 67 = .ok (.putfield 32, 3) := by decide +kernel
theorem dX2_init_70 : decode cX2_init 70 = .ok (.aload_n 0, 1) := by decide +kernel
theorem dX2_init_71 : decode cX2_init 71 = .ok (.iconst 0, 1) := by decide +kernel
theorem dX2_init_72 : decode cX2_init 72 = .ok (.putfield 35, 3) := by decide +kernel
theorem dX2_init_75 : decode cX2_init 75 = .ok (.aload_n 0, 1) := by decide +kernel
theorem dX2_init_76 : decode cX2_init 76 = .ok (.iconst 0, 1) := by decide +kernel
theorem dX2_init_77 : decode cX2_init 77 = .ok (.putfield 39, 3) := by decide +kernel
theorem dX2_init_80 : decode cX2_init 80 = .ok (.aload_n 0, 1) := by decide +kernel
theorem dX2_init_81 : decode cX2_init 81 = .ok (.iconst 0, 1) := by decide +kernel
theorem dX2_init_82 : decode cX2_init 82 = .ok (.putfield 42, 3) := by decide +kernel
theorem dX2_init_85 : decode cX2_init 85 = .ok (.aload_n 0, 1) := by decide +kernel
theorem dX2_init_86 : decode cX2_init 86 = .ok (.iload_n 1, 1) := by decide +kernel
theorem dX2_init_87 : decode cX2_init 87 = .ok (.putfield 45, 3) := by decide +kernel
theorem dX2_init_90 : decode cX2_init 90 = .ok (.return_, 1) := by decide +kernel
theorem dX2_make_0 : decode cX2_make 0 = .ok (.aload_n 0, 1) := by decide +kernel
theorem dX2_make_1 : decode cX2_make 1 = .ok (.aload_n 1, 1) := by decide +kernel
theorem dX2_make_2 : decode cX2_make 2 = .ok (.invokevirtual 48, 3) := by decide +kernel
theorem dX2_make_5 : decode cX2_make 5 = .ok (.aload_n 0, 1) := by decide +kernel
theorem dX2_make_6 : decode cX2_make 6 = .ok (.aload_n 1, 1) := by decide +kernel
theorem dX2_make_7 : decode cX2_make 7 = .ok (.invokevirtual 52, 3) := by decide +kernel
theorem dX2_make_10 : decode cX2_make 10 = .ok (.putfield 35, 3) := by decide +kernel
theorem dX2_make_13 : decode cX2_make 13 = .ok (.aload_n 0, 1) := by decide +kernel
theorem dX2_make_14 : decode cX2_make 14 = .ok (.aload_n 1, 1) := by decide +kernel
theorem dX2_make_15 : decode cX2_make 15 = .ok (.aload_n 0, 1) := by decide +kernel
theorem dX2_make_16 : decode cX2_make 16 = .ok (.getfield 39, 3) := by decide +kernel
theorem dX2_make_19 : decode cX2_make 19 = .ok (.invokevirtual 58, 3) := by decide +kernel
theorem dX2_make_22 : decode cX2_make 22 = .ok (.putfield 39, 3) := by decide +kernel
theorem dX2_make_25 : decode cX2_make 25 = .ok (.aload_n 0, 1) := by decide +kernel
theorem dX2_make_26 : decode cX2_make 26 = .ok (.getfield 19, 3) := by decide +kernel
theorem dX2_make_29 : decode cX2_make 29 = .ok (.invokevirtual 62, 3) := by decide +kernel
theorem dX2_make_32 : decode cX2_make 32 = .ok (.ifCond .eq 19, 3) := by decide +kernel
theorem dX2_make_35 : decode cX2_make 35 = .ok (.aload_n 0, 1) := by decide +kernel
theorem dX2_make_36 : decode cX2_make 36 = .ok (.getfield 19, 3) := by decide +kernel
theorem dX2_make_39 : decode cX2_make 39 = .ok (.aload_n 1, 1) := by decide +kernel
theorem dX2_make_40 : decode cX2_make 40 = .ok (.invokevirtual 66, 3) := by decide +kernel
theorem dX2_make_43 : decode cX2_make 43 = .ok (.pop, 1) := by decide +kernel
theorem dX2_make_44 : decode cX2_make 44 = .ok (.aload_n 0, 1) := by decide +kernel
theorem dX2_make_45 : decode cX2_make 45 = .ok (.invokevirtual 70, 3) := by decide +kernel
theorem dX2_make_48 : decode cX2_make 48 = .ok (.goto 12, 3) := by decide +kernel
theorem dX2_make_51 : decode cX2_make 51 = .ok (.aload_n 0, 1) := by decide +kernel
theorem dX2_make_52 : decode cX2_make 52 = .ok (.getfield 23, 3) := by decide +kernel
theorem dX2_make_55 : decode cX2_make 55 = .ok (.aload_n 1, 1) := by decide +kernel
theorem dX2_make_56 : decode cX2_make 56 = .ok (.invokevirtual 66, 3) := by decide +kernel
theorem dX2_make_59 : decode cX2_make 59 = .ok (.pop, 1) := by decide +kernel
theorem dX2_make_60 : decode cX2_make 60 = .ok (.return_, 1) := by decide +kernel
theorem dX2_get_0 : decode cX2_get 0 = .ok (.aload_n 0, 1) := by decide +kernel
theorem dX2_get_1 : decode cX2_get 1 = .ok (.dup, 1) := by decide +kernel
theorem dX2_get_2 : decode cX2_get 2 = .ok (.getfield 42, 3) := by decide +kernel
theorem dX2_get_5 : decode cX2_get 5 = .ok (.iconst 1, 1) := by decide +kernel
theorem dX2_get_6 : decode cX2_get 6 = .ok (.iadd, 1) := by decide +kernel
theorem dX2_get_7 : decode cX2_get 7 = .ok (.putfield 42, 3) := by decide +kernel
theorem dX2_get_10 : decode cX2_get 10 = .ok (.aload_n 1, 1) := by decide +kernel
theorem dX2_get_11 : decode cX2_get 11 = .ok (.getfield 73, 3) := by decide +kernel
theorem dX2_get_14 : decode cX2_get 14 = .ok (.aload_n 0, 1) := by decide +kernel
theorem dX2_get_15 : decode cX2_get 15 = .ok (.getfield 45, 3) := by decide +kernel
theorem dX2_get_18 : decode cX2_get 18 = .ok (.if_icmp .ne 8, 3) := by decide +kernel
theorem dX2_get_21 : decode cX2_get 21 = .ok (.aload_n 0, 1) := by decide +kernel
theorem dX2_get_22 : decode cX2_get 22 = .ok (.invokevirtual 78, 3) := by decide +kernel
theorem dX2_get_25 : decode cX2_get 25 = .ok (.return_, 1) := by decide +kernel
theorem dX2_get_26 : decode cX2_get 26 = .ok (.iconst 0, 1) := by decide +kernel
theorem dX2_get_27 : decode cX2_get 27 = .ok (.istore_n 2, 1) := by decide +kernel
theorem dX2_get_28 : decode cX2_get 28 = .ok (.iload_n 2, 1) := by decide +kernel
theorem dX2_get_29 : decode cX2_get 29 = .ok (.aload_n 1, 1) := by decide +kernel
theorem dX2_get_30 : decode cX2_get 30 = .ok (.getfield 81, 3) := by decide +kernel
theorem dX2_get_33 : decode cX2_get 33 = .ok (.invokevirtual 84, 3) := by decide +kernel
theorem dX2_get_36 : decode cX2_get 36 = .ok (.if_icmp .ge 27, 3) := by decide +kernel
theorem dX2_get_39 : decode cX2_get 39 = .ok (.aload_n 0, 1) := by decide +kernel
theorem dX2_get_40 : decode cX2_get 40 = .ok (.aload_n 1, 1) := by decide +kernel
theorem dX2_get_41 : decode cX2_get 41 = .ok (.getfield 81, 3) := by decide +kernel
theorem dX2_get_44 : decode cX2_get 44 = .ok (.iload_n 2, 1) := by decide +kernel
theorem dX2_get_45 : decode cX2_get 45 = .ok (.invokevirtual 87, 3) := by decide +kernel
theorem dX2_get_48 : decode cX2_get 48 = .ok (.checkcast 53, 3) := by decide +kernel
theorem dX2_get_51 : decode cX2_get 51 = .ok (.invokevirtual 91, 3) := by decide +kernel
theorem dX2_get_54 : decode cX2_get 54 = .ok (.invokevirtual 95, 3) := by decide +kernel
theorem dX2_get_57 : decode cX2_get 57 = .ok (.iinc 2 1, 3) := by decide +kernel
theorem dX2_get_60 : decode cX2_get 60 = .ok (.goto (-32), 3) := by decide +kernel
theorem dX2_get_63 : decode cX2_get 63 = .ok (.aload_n 0, 1) := by decide +kernel
theorem dX2_get_64 : decode cX2_get 64 = .ok (.invokevirtual 98, 3) := by decide +kernel
theorem dX2_get_67 : decode cX2_get 67 = .ok (.return_, 1) := by decide +kernel
theorem dX2_countRuns_0 : decode cX2_countRuns 0 = .ok (.iconst 0, 1) := by decide +kernel
theorem dX2_countRuns_1 : decode cX2_countRuns 1 = .ok (.istore_n 1, 1) := by decide +kernel
theorem dX2_countRuns_2 : decode cX2_countRuns 2 = .ok (.iconst 0, 1) := by decide +kernel
theorem dX2_countRuns_3 : decode cX2_countRuns 3 = .ok (.istore_n 2, 1) := by decide +kernel
theorem dX2_countRuns_4 : decode cX2_countRuns 4 = .ok (.iload_n 2, 1) := by decide +kernel
theorem dX2_countRuns_5 : decode cX2_countRuns 5 = .ok (.aload_n 0, 1) := by decide +kernel
theorem dX2_countRuns_6 : decode cX2_countRuns 6 = .ok (.getfield 23, 3) := by decide +kernel
theorem dX2_countRuns_9 : decode cX2_countRuns 9 = .ok (.invokevirtual 84, 3) := by decide +kernel
theorem dX2_countRuns_12 : decode cX2_countRuns 12 = .ok (.if_icmp .ge 20, 3) := by decide +kernel
theorem dX2_countRuns_15 : decode cX2_countRuns 15 = .ok (.aload_n 0, 1) := by decide +kernel
theorem dX2_countRuns_16 : decode cX2_countRuns 16 = .ok (.iload_n 2, 1) := by decide +kernel
theorem dX2_countRuns_17 : decode cX2_countRuns 17 = .ok (.invokevirtual 101, 3) := by decide +kernel
theorem dX2_countRuns_20 : decode cX2_countRuns 20 = .ok (.ifCond .eq 6, 3) := by decide +kernel
theorem dX2_countRuns_23 : decode cX2_countRuns 23 = .ok (.iinc 1 1, 3) := by decide +kernel
theorem dX2_countRuns_26 : decode cX2_countRuns 26 = .ok (.iinc 2 1, 3) := by decide +kernel
theorem dX2_countRuns_29 : decode cX2_countRuns 29 = .ok (.goto (-25), 3) := by decide +kernel
theorem dX2_countRuns_32 : decode cX2_countRuns 32 = .ok (.iload_n 1, 1) := by decide +kernel
theorem dX2_countRuns_33 : decode cX2_countRuns 33 = .ok (.ireturn, 1) := by decide +kernel
theorem dX2_carryOut_0 : decode cX2_carryOut 0 = .ok (.aload_n 0, 1) := by decide +kernel
theorem dX2_carryOut_1 : decode cX2_carryOut 1 = .ok (.getfield 10, 3) := by decide +kernel
theorem dX2_carryOut_4 : decode cX2_carryOut 4 = .ok (.aload_n 1, 1) := by decide +kernel
theorem dX2_carryOut_5 : decode cX2_carryOut 5 = .ok (.invokevirtual 105, 3) := by decide +kernel
theorem dX2_carryOut_8 : decode cX2_carryOut 8 = .ok (.iconst 0, 1) := by decide +kernel
theorem dX2_carryOut_9 : decode cX2_carryOut 9 = .ok (.istore_n 2, 1) := by decide +kernel
theorem dX2_carryOut_10 : decode cX2_carryOut 10 = .ok (.iload_n 2, 1) := by decide +kernel
theorem dX2_carryOut_11 : decode cX2_carryOut 11 = .ok (.aload_n 0, 1) := by decide +kernel
theorem dX2_carryOut_12 : decode cX2_carryOut 12 = .ok (.getfield 32, 3) := by decide +kernel
theorem dX2_carryOut_15 : decode cX2_carryOut 15 = .ok (.invokevirtual 84, 3) := by decide +kernel
theorem dX2_carryOut_18 : decode cX2_carryOut 18 = .ok (.if_icmp .ge 40, 3) := by decide +kernel
theorem dX2_carryOut_21 : decode cX2_carryOut 21 = .ok (.aload_n 0, 1) := by decide +kernel
theorem dX2_carryOut_22 : decode cX2_carryOut 22 = .ok (.getfield 32, 3) := by decide +kernel
theorem dX2_carryOut_25 : decode cX2_carryOut 25 = .ok (.iload_n 2, 1) := by decide +kernel
theorem dX2_carryOut_26 : decode cX2_carryOut 26 = .ok (.invokevirtual 87, 3) := by decide +kernel
theorem dX2_carryOut_29 : decode cX2_carryOut 29 = .ok (.checkcast 106, 3) := by decide +kernel
theorem dX2_carryOut_32 : decode cX2_carryOut 32 = .ok (.astore_n 3, 1) := by decide +kernel
theorem dX2_carryOut_33 : decode cX2_carryOut 33 = .ok (.aload_n 3, 1) := by decide +kernel
theorem dX2_carryOut_34 : decode cX2_carryOut 34 = .ok (.getfield 108, 3) := by decide +kernel
theorem dX2_carryOut_37 : decode cX2_carryOut 37 = .ok (.ifCond .ne 15, 3) := by decide +kernel
theorem dX2_carryOut_40 : decode cX2_carryOut 40 = .ok (.aload_n 3, 1) := by decide +kernel
theorem dX2_carryOut_41 : decode cX2_carryOut 41 = .ok (.aload_n 1, 1) := by decide +kernel
theorem dX2_carryOut_42 : decode cX2_carryOut 42 = .ok (.aload_n 3, 1) := by decide +kernel
theorem dX2_carryOut_43 : decode cX2_carryOut 43 = .ok (.getfield 112, 3) := by decide +kernel
theorem dX2_carryOut_46 : decode cX2_carryOut 46 = .ok (.invokevirtual 58, 3) := by decide +kernel
theorem dX2_carryOut_49 : decode cX2_carryOut 49 = .ok (.putfield 112, 3) := by decide +kernel
theorem dX2_carryOut_52 : decode cX2_carryOut 52 = .ok (.iinc 2 1, 3) := by decide +kernel
theorem dX2_carryOut_55 : decode cX2_carryOut 55 = .ok (.goto (-45), 3) := by decide +kernel
theorem dX2_carryOut_58 : decode cX2_carryOut 58 = .ok (.return_, 1) := by decide +kernel
theorem dX2_follow_0 : decode cX2_follow 0 = .ok (.aload_n 0, 1) := by decide +kernel
theorem dX2_follow_1 : decode cX2_follow 1 = .ok (.getfield 19, 3) := by decide +kernel
theorem dX2_follow_4 : decode cX2_follow 4 = .ok (.aload_n 1, 1) := by decide +kernel
theorem dX2_follow_5 : decode cX2_follow 5 = .ok (.invokestatic 115, 3) := by decide +kernel
theorem dX2_follow_8 : decode cX2_follow 8 = .ok (.aload_n 0, 1) := by decide +kernel
theorem dX2_follow_9 : decode cX2_follow 9 = .ok (.getfield 23, 3) := by decide +kernel
theorem dX2_follow_12 : decode cX2_follow 12 = .ok (.aload_n 1, 1) := by decide +kernel
theorem dX2_follow_13 : decode cX2_follow 13 = .ok (.invokestatic 115, 3) := by decide +kernel
theorem dX2_follow_16 : decode cX2_follow 16 = .ok (.aload_n 1, 1) := by decide +kernel
theorem dX2_follow_17 : decode cX2_follow 17 = .ok (.getfield 119, 3) := by decide +kernel
theorem dX2_follow_20 : decode cX2_follow 20 = .ok (.bipush 110, 2) := by decide +kernel
theorem dX2_follow_22 : decode cX2_follow 22 = .ok (.if_icmp .eq 28, 3) := by decide +kernel
theorem dX2_follow_25 : decode cX2_follow 25 = .ok (.aload_n 0, 1) := by decide +kernel
theorem dX2_follow_26 : decode cX2_follow 26 = .ok (.aload_n 1, 1) := by decide +kernel
theorem dX2_follow_27 : decode cX2_follow 27 = .ok (.invokevirtual 48, 3) := by decide +kernel
theorem dX2_follow_30 : decode cX2_follow 30 = .ok (.aload_n 0, 1) := by decide +kernel
theorem dX2_follow_31 : decode cX2_follow 31 = .ok (.aload_n 1, 1) := by decide +kernel
theorem dX2_follow_32 : decode cX2_follow 32 = .ok (.aload_n 0, 1) := by decide +kernel
theorem dX2_follow_33 : decode cX2_follow 33 = .ok (.getfield 35, 3) := by decide +kernel
theorem dX2_follow_36 : decode cX2_follow 36 = .ok (.invokevirtual 58, 3) := by decide +kernel
theorem dX2_follow_39 : decode cX2_follow 39 = .ok (.putfield 35, 3) := by decide +kernel
theorem dX2_follow_42 : decode cX2_follow 42 = .ok (.aload_n 0, 1) := by decide +kernel
theorem dX2_follow_43 : decode cX2_follow 43 = .ok (.aload_n 1, 1) := by decide +kernel
theorem dX2_follow_44 : decode cX2_follow 44 = .ok (.invokevirtual 52, 3) := by decide +kernel
theorem dX2_follow_47 : decode cX2_follow 47 = .ok (.putfield 39, 3) := by decide +kernel
theorem dX2_follow_50 : decode cX2_follow 50 = .ok (.return_, 1) := by decide +kernel
theorem dX2_dropNothings_0 : decode cX2_dropNothings 0 = .ok (.aload_n 0, 1) := by decide +kernel
theorem dX2_dropNothings_1 : decode cX2_dropNothings 1 = .ok (.getfield 23, 3) := by decide +kernel
theorem dX2_dropNothings_4 : decode cX2_dropNothings 4 = .ok (.invokevirtual 84, 3) := by decide +kernel
theorem dX2_dropNothings_7 : decode cX2_dropNothings 7 = .ok (.iconst 1, 1) := by decide +kernel
theorem dX2_dropNothings_8 : decode cX2_dropNothings 8 = .ok (.isub, 1) := by decide +kernel
theorem dX2_dropNothings_9 : decode cX2_dropNothings 9 = .ok (.istore_n 1, 1) := by decide +kernel
theorem dX2_dropNothings_10 : decode cX2_dropNothings 10 = .ok (.iload_n 1, 1) := by decide +kernel
theorem dX2_dropNothings_11 : decode cX2_dropNothings 11 = .ok (.ifCond .lt 37, 3) := by decide +kernel
theorem dX2_dropNothings_14 : decode cX2_dropNothings 14 = .ok (.aload_n 0, 1) := by decide +kernel
theorem dX2_dropNothings_15 : decode cX2_dropNothings 15 = .ok (.getfield 23, 3) := by decide +kernel
theorem dX2_dropNothings_18 : decode cX2_dropNothings 18 = .ok (.iload_n 1, 1) := by decide +kernel
theorem dX2_dropNothings_19 : decode cX2_dropNothings 19 = .ok (.invokevirtual 87, 3) := by decide +kernel
theorem dX2_dropNothings_22 : decode cX2_dropNothings 22 = .ok (.checkcast 53, 3) := by decide +kernel
theorem dX2_dropNothings_25 : decode cX2_dropNothings 25 = .ok (.getfield 119, 3) := by decide +kernel
theorem dX2_dropNothings_28 : decode cX2_dropNothings 28 = .ok (.bipush 110, 2) := by decide +kernel
theorem dX2_dropNothings_30 : decode cX2_dropNothings 30 = .ok (.if_icmp .ne 12, 3) := by decide +kernel
theorem dX2_dropNothings_33 : decode cX2_dropNothings 33 = .ok (.aload_n 0, 1) := by decide +kernel
theorem dX2_dropNothings_34 : decode cX2_dropNothings 34 = .ok (.getfield 23, 3) := by decide +kernel
theorem dX2_dropNothings_37 : decode cX2_dropNothings 37 = .ok (.iload_n 1, 1) := by decide +kernel
theorem dX2_dropNothings_38 : decode cX2_dropNothings 38 = .ok (.invokevirtual 123, 3) := by decide +kernel
theorem dX2_dropNothings_41 : decode cX2_dropNothings 41 = .ok (.pop, 1) := by decide +kernel
theorem dX2_dropNothings_42 : decode cX2_dropNothings 42 = .ok (.iinc 1 (-1), 3) := by decide +kernel
theorem dX2_dropNothings_45 : decode cX2_dropNothings 45 = .ok (.goto (-35), 3) := by decide +kernel
theorem dX2_dropNothings_48 : decode cX2_dropNothings 48 = .ok (.return_, 1) := by decide +kernel
theorem dX2_beginsRun_0 : decode cX2_beginsRun 0 = .ok (.iload_n 1, 1) := by decide +kernel
theorem dX2_beginsRun_1 : decode cX2_beginsRun 1 = .ok (.ifCond .eq 33, 3) := by decide +kernel
theorem dX2_beginsRun_4 : decode cX2_beginsRun 4 = .ok (.aload_n 0, 1) := by decide +kernel
theorem dX2_beginsRun_5 : decode cX2_beginsRun 5 = .ok (.getfield 23, 3) := by decide +kernel
theorem dX2_beginsRun_8 : decode cX2_beginsRun 8 = .ok (.iload_n 1, 1) := by decide +kernel
theorem dX2_beginsRun_9 : decode cX2_beginsRun 9 = .ok (.invokevirtual 87, 3) := by decide +kernel
theorem dX2_beginsRun_12 : decode cX2_beginsRun 12 = .ok (.checkcast 53, 3) := by decide +kernel
theorem dX2_beginsRun_15 : decode cX2_beginsRun 15 = .ok (.aload_n 0, 1) := by decide +kernel
theorem dX2_beginsRun_16 : decode cX2_beginsRun 16 = .ok (.getfield 23, 3) := by decide +kernel
theorem dX2_beginsRun_19 : decode cX2_beginsRun 19 = .ok (.iload_n 1, 1) := by decide +kernel
theorem dX2_beginsRun_20 : decode cX2_beginsRun 20 = .ok (.iconst 1, 1) := by decide +kernel
theorem dX2_beginsRun_21 : decode cX2_beginsRun 21 = .ok (.isub, 1) := by decide +kernel
theorem dX2_beginsRun_22 : decode cX2_beginsRun 22 = .ok (.invokevirtual 87, 3) := by decide +kernel
theorem dX2_beginsRun_25 : decode cX2_beginsRun 25 = .ok (.checkcast 53, 3) := by decide +kernel
theorem dX2_beginsRun_28 : decode cX2_beginsRun 28 = .ok (.invokevirtual 126, 3) := by decide +kernel
theorem dX2_beginsRun_31 : decode cX2_beginsRun 31 = .ok (.ifCond .ne 7, 3) := by decide +kernel
theorem dX2_beginsRun_34 : decode cX2_beginsRun 34 = .ok (.iconst 1, 1) := by decide +kernel
theorem dX2_beginsRun_35 : decode cX2_beginsRun 35 = .ok (.goto 4, 3) := by decide +kernel
theorem dX2_beginsRun_38 : decode cX2_beginsRun 38 = .ok (.iconst 0, 1) := by decide +kernel
theorem dX2_beginsRun_39 : decode cX2_beginsRun 39 = .ok (.ireturn, 1) := by decide +kernel
theorem dX2_firstRunSize_0 : decode cX2_firstRunSize 0 = .ok (.iconst 0, 1) := by decide +kernel
theorem dX2_firstRunSize_1 : decode cX2_firstRunSize 1 = .ok (.istore_n 1, 1) := by decide +kernel
theorem dX2_firstRunSize_2 : decode cX2_firstRunSize 2 = .ok (.iload_n 1, 1) := by decide +kernel
theorem dX2_firstRunSize_3 : decode cX2_firstRunSize 3 = .ok (.aload_n 0, 1) := by decide +kernel
theorem dX2_firstRunSize_4 : decode cX2_firstRunSize 4 = .ok (.getfield 23, 3) := by decide +kernel
theorem dX2_firstRunSize_7 : decode cX2_firstRunSize 7 = .ok (.invokevirtual 84, 3) := by decide +kernel
theorem dX2_firstRunSize_10 : decode cX2_firstRunSize 10 = .ok (.if_icmp .ge 21, 3) := by decide +kernel
theorem dX2_firstRunSize_13 : decode cX2_firstRunSize 13 = .ok (.iload_n 1, 1) := by decide +kernel
theorem dX2_firstRunSize_14 : decode cX2_firstRunSize 14 = .ok (.ifCond .eq 11, 3) := by decide +kernel
theorem dX2_firstRunSize_17 : decode cX2_firstRunSize 17 = .ok (.aload_n 0, 1) := by decide +kernel
theorem dX2_firstRunSize_18 : decode cX2_firstRunSize 18 = .ok (.iload_n 1, 1) := by decide +kernel
theorem dX2_firstRunSize_19 : decode cX2_firstRunSize 19 = .ok (.invokevirtual 101, 3) := by decide +kernel
theorem dX2_firstRunSize_22 : decode cX2_firstRunSize 22 = .ok (.ifCond .ne 9, 3) := by decide +kernel
theorem dX2_firstRunSize_25 : decode cX2_firstRunSize 25 = .ok (.iinc 1 1, 3) := by decide +kernel
theorem dX2_firstRunSize_28 : decode cX2_firstRunSize 28 = .ok (.goto (-26), 3) := by decide +kernel
theorem dX2_firstRunSize_31 : decode cX2_firstRunSize 31 = .ok (.iload_n 1, 1) := by decide +kernel
theorem dX2_firstRunSize_32 : decode cX2_firstRunSize 32 = .ok (.ireturn, 1) := by decide +kernel
theorem dX2_sendRun_0 : decode cX2_sendRun 0 = .ok (.aload_n 0, 1) := by decide +kernel
theorem dX2_sendRun_1 : decode cX2_sendRun 1 = .ok (.getfield 19, 3) := by decide +kernel
theorem dX2_sendRun_4 : decode cX2_sendRun 4 = .ok (.invokevirtual 130, 3) := by decide +kernel
theorem dX2_sendRun_7 : decode cX2_sendRun 7 = .ok (.aload_n 0, 1) := by decide +kernel
theorem dX2_sendRun_8 : decode cX2_sendRun 8 = .ok (.invokevirtual 133, 3) := by decide +kernel
theorem dX2_sendRun_11 : decode cX2_sendRun 11 = .ok (.istore_n 1, 1) := by decide +kernel
theorem dX2_sendRun_12 : decode cX2_sendRun 12 = .ok (.iconst 0, 1) := by decide +kernel
theorem dX2_sendRun_13 : decode cX2_sendRun 13 = .ok (.istore_n 2, 1) := by decide +kernel
theorem dX2_sendRun_14 : decode cX2_sendRun 14 = .ok (.iload_n 2, 1) := by decide +kernel
theorem dX2_sendRun_15 : decode cX2_sendRun 15 = .ok (.iload_n 1, 1) := by decide +kernel
theorem dX2_sendRun_16 : decode cX2_sendRun 16 = .ok (.if_icmp .ge 38, 3) := by decide +kernel
theorem dX2_sendRun_19 : decode cX2_sendRun 19 = .ok (.aload_n 0, 1) := by decide +kernel
theorem dX2_sendRun_20 : decode cX2_sendRun 20 = .ok (.getfield 23, 3) := by decide +kernel
theorem dX2_sendRun_23 : decode cX2_sendRun 23 = .ok (.invokevirtual 62, 3) := by decide +kernel
theorem dX2_sendRun_26 : decode cX2_sendRun 26 = .ok (.ifCond .ne 28, 3) := by decide +kernel
theorem dX2_sendRun_29 : decode cX2_sendRun 29 = .ok (.aload_n 0, 1) := by decide +kernel
theorem dX2_sendRun_30 : decode cX2_sendRun 30 = .ok (.getfield 19, 3) := by decide +kernel
theorem dX2_sendRun_33 : decode cX2_sendRun 33 = .ok (.aload_n 0, 1) := by decide +kernel
theorem dX2_sendRun_34 : decode cX2_sendRun 34 = .ok (.getfield 23, 3) := by decide +kernel
theorem dX2_sendRun_37 : decode cX2_sendRun 37 = .ok (.iconst 0, 1) := by decide +kernel
theorem dX2_sendRun_38 : decode cX2_sendRun 38 = .ok (.invokevirtual 123, 3) := by decide +kernel
theorem dX2_sendRun_41 : decode cX2_sendRun 41 = .ok (.checkcast 53, 3) := by decide +kernel
theorem dX2_sendRun_44 : decode cX2_sendRun 44 = .ok (.invokevirtual 66, 3) := by decide +kernel
theorem dX2_sendRun_47 : decode cX2_sendRun 47 = .ok (.pop, 1) := by decide +kernel
theorem dX2_sendRun_48 : decode cX2_sendRun 48 = .ok (.iinc 2 1, 3) := by decide +kernel
theorem dX2_sendRun_51 : decode cX2_sendRun 51 = .ok (.goto (-37), 3) := by decide +kernel
theorem dX2_sendRun_54 : decode cX2_sendRun 54 = .ok (.aload_n 0, 1) := by decide +kernel
theorem dX2_sendRun_55 : decode cX2_sendRun 55 = .ok (.getfield 19, 3) := by decide +kernel
theorem dX2_sendRun_58 : decode cX2_sendRun 58 = .ok (.invokevirtual 62, 3) := by decide +kernel
theorem dX2_sendRun_61 : decode cX2_sendRun 61 = .ok (.ifCond .ne 7, 3) := by decide +kernel
theorem dX2_sendRun_64 : decode cX2_sendRun 64 = .ok (.aload_n 0, 1) := by decide +kernel
theorem dX2_sendRun_65 : decode cX2_sendRun 65 = .ok (.invokevirtual 70, 3) := by decide +kernel
theorem dX2_sendRun_68 : decode cX2_sendRun 68 = .ok (.return_, 1) := by decide +kernel
theorem dX2_sendMessage_0 : decode cX2_sendMessage 0 = .ok (.new 74, 3) := by decide +kernel
theorem dX2_sendMessage_3 : decode cX2_sendMessage 3 = .ok (.dup, 1) := by decide +kernel
theorem dX2_sendMessage_4 : decode cX2_sendMessage 4 = .ok (.aload_n 0, 1) := by decide +kernel
theorem dX2_sendMessage_5 : decode cX2_sendMessage 5 = .ok (.getfield 45, 3) := by decide +kernel
theorem dX2_sendMessage_8 : decode cX2_sendMessage 8 = .ok (.aload_n 0, 1) := by decide +kernel
theorem dX2_sendMessage_9 : decode cX2_sendMessage 9 = .ok (.getfield 42, 3) := by decide +kernel
theorem dX2_sendMessage_12 : decode cX2_sendMessage 12 = .ok (.invokespecial 136, 3) := by decide +kernel
theorem dX2_sendMessage_15 : decode cX2_sendMessage 15 = .ok (.astore_n 1, 1) := by decide +kernel
theorem dX2_sendMessage_16 : decode cX2_sendMessage 16 = .ok (.iconst 0, 1) := by decide +kernel
theorem dX2_sendMessage_17 : decode cX2_sendMessage 17 = .ok (.istore_n 2, 1) := by decide +kernel
theorem dX2_sendMessage_18 : decode cX2_sendMessage 18 = .ok (.iload_n 2, 1) := by decide +kernel
theorem dX2_sendMessage_19 : decode cX2_sendMessage 19 = .ok (.aload_n 0, 1) := by decide +kernel
theorem dX2_sendMessage_20 : decode cX2_sendMessage 20 = .ok (.getfield 19, 3) := by decide +kernel
theorem dX2_sendMessage_23 : decode cX2_sendMessage 23 = .ok (.invokevirtual 84, 3) := by decide +kernel
theorem dX2_sendMessage_26 : decode cX2_sendMessage 26 = .ok (.if_icmp .ge 31, 3) := by decide +kernel
theorem dX2_sendMessage_29 : decode cX2_sendMessage 29 = .ok (.aload_n 1, 1) := by decide +kernel
theorem dX2_sendMessage_30 : decode cX2_sendMessage 30 = .ok (.getfield 81, 3) := by decide +kernel
theorem dX2_sendMessage_33 : decode cX2_sendMessage 33 = .ok (.aload_n 0, 1) := by decide +kernel
theorem dX2_sendMessage_34 : decode cX2_sendMessage 34 = .ok (.getfield 19, 3) := by decide +kernel
theorem dX2_sendMessage_37 : decode cX2_sendMessage 37 = .ok (.iload_n 2, 1) := by decide +kernel
theorem dX2_sendMessage_38 : decode cX2_sendMessage 38 = .ok (.invokevirtual 87, 3) := by decide +kernel
theorem dX2_sendMessage_41 : decode cX2_sendMessage 41 = .ok (.checkcast 53, 3) := by decide +kernel
theorem dX2_sendMessage_44 : decode cX2_sendMessage 44 = .ok (.invokevirtual 91, 3) := by decide +kernel
theorem dX2_sendMessage_47 : decode cX2_sendMessage 47 = .ok (.invokevirtual 66, 3) := by decide +kernel
theorem dX2_sendMessage_50 : decode cX2_sendMessage 50 = .ok (.pop, 1) := by decide +kernel
theorem dX2_sendMessage_51 : decode cX2_sendMessage 51 = .ok (.iinc 2 1, 3) := by decide +kernel
theorem dX2_sendMessage_54 : decode cX2_sendMessage 54 = .ok (.goto (-36), 3) := by decide +kernel
theorem dX2_sendMessage_57 : decode cX2_sendMessage 57 = .ok (.aload_n 0, 1) := by decide +kernel
theorem dX2_sendMessage_58 : decode cX2_sendMessage 58 = .ok (.getfield 26, 3) := by decide +kernel
theorem dX2_sendMessage_61 : decode cX2_sendMessage 61 = .ok (.aload_n 1, 1) := by decide +kernel
theorem dX2_sendMessage_62 : decode cX2_sendMessage 62 = .ok (.invokevirtual 66, 3) := by decide +kernel
theorem dX2_sendMessage_65 : decode cX2_sendMessage 65 = .ok (.pop, 1) := by decide +kernel
theorem dX2_sendMessage_66 : decode cX2_sendMessage 66 = .ok (.return_, 1) := by decide +kernel
theorem dX3_init_0 : decode cX3_init 0 = .ok (.aload_n 0, 1) := by decide +kernel
theorem dX3_init_1 : decode cX3_init 1 = .ok (.invokespecial 1, 3) := by decide +kernel
theorem dX3_init_4 : decode cX3_init 4 = .ok (.aload_n 0, 1) := by decide +kernel
theorem dX3_init_5 : decode cX3_init 5 = .ok (.iload_n 1, 1) := by decide +kernel
theorem dX3_init_6 : decode cX3_init 6 = .ok (.putfield 7, 3) := by decide +kernel
theorem dX3_init_9 : decode cX3_init 9 = .ok (.aload_n 0, 1) := by decide +kernel
theorem dX3_init_10 : decode cX3_init 10 = .ok (.aload_n 2, 1) := by decide +kernel
theorem dX3_init_11 : decode cX3_init 11 = .ok (.putfield 13, 3) := by decide +kernel
theorem dX3_init_14 : decode cX3_init 14 = .ok (.aload_n 0, 1) := by decide +kernel
theorem dX3_init_15 : decode cX3_init 15 = .ok (.iload_n 3, 1) := by decide +kernel
theorem dX3_init_16 : decode cX3_init 16 = .ok (.putfield 17, 3) := by decide +kernel
theorem dX3_init_19 : decode cX3_init 19 = .ok (.return_, 1) := by decide +kernel
theorem dX4_init_0 : decode cX4_init 0 = .ok (.aload_n 0, 1) := by decide +kernel
theorem dX4_init_1 : decode cX4_init 1 = .ok (.invokespecial 1, 3) := by decide +kernel
theorem dX4_init_4 : decode cX4_init 4 = .ok (.aload_n 0, 1) := by decide +kernel
theorem dX4_init_5 : decode cX4_init 5 = .ok (.iload_n 1, 1) := by decide +kernel
theorem dX4_init_6 : decode cX4_init 6 = .ok (.putfield 7, 3) := by decide +kernel
theorem dX4_init_9 : decode cX4_init 9 = .ok (.aload_n 0, 1) := by decide +kernel
theorem dX4_init_10 : decode cX4_init 10 = .ok (.iload_n 2, 1) := by decide +kernel
theorem dX4_init_11 : decode cX4_init 11 = .ok (.putfield 13, 3) := by decide +kernel
theorem dX4_init_14 : decode cX4_init 14 = .ok (.return_, 1) := by decide +kernel
theorem dX5_init_0 : decode cX5_init 0 = .ok (.aload_n 0, 1) := by decide +kernel
theorem dX5_init_1 : decode cX5_init 1 = .ok (.invokespecial 1, 3) := by decide +kernel
theorem dX5_init_4 : decode cX5_init 4 = .ok (.aload_n 0, 1) := by decide +kernel
theorem dX5_init_5 : decode cX5_init 5 = .ok (.new 7, 3) := by decide +kernel
theorem dX5_init_8 : decode cX5_init 8 = .ok (.dup, 1) := by decide +kernel
theorem dX5_init_9 : decode cX5_init 9 = .ok (.invokespecial 9, 3) := by decide +kernel
theorem dX5_init_12 : decode cX5_init 12 = .ok (.putfield 10, 3) := by decide +kernel
theorem dX5_init_15 : decode cX5_init 15 = .ok (.aload_n 0, 1) := by decide +kernel
theorem dX5_init_16 : decode cX5_init 16 = .ok (.iload_n 1, 1) := by decide +kernel
theorem dX5_init_17 : decode cX5_init 17 = .ok (.putfield 16, 3) := by decide +kernel
theorem dX5_init_20 : decode cX5_init 20 = .ok (.aload_n 0, 1) := by decide +kernel
theorem dX5_init_21 : decode cX5_init 21 = .ok (.iload_n 2, 1) := by decide +kernel
theorem dX5_init_22 : decode cX5_init 22 = .ok (.putfield 20, 3) := by decide +kernel
theorem dX5_init_25 : decode cX5_init 25 = .ok (.return_, 1) := by decide +kernel
theorem dX6_init_0 : decode cX6_init 0 = .ok (.aload_n 0, 1) := by decide +kernel
theorem dX6_init_1 : decode cX6_init 1 = .ok (.invokespecial 1, 3) := by decide +kernel
theorem dX6_init_4 : decode cX6_init 4 = .ok (.aload_n 0, 1) := by decide +kernel
theorem dX6_init_5 : decode cX6_init 5 = .ok (.iload_n 1, 1) := by decide +kernel
theorem dX6_init_6 : decode cX6_init 6 = .ok (.putfield 7, 3) := by decide +kernel
theorem dX6_init_9 : decode cX6_init 9 = .ok (.aload_n 0, 1) := by decide +kernel
theorem dX6_init_10 : decode cX6_init 10 = .ok (.iload_n 2, 1) := by decide +kernel
theorem dX6_init_11 : decode cX6_init 11 = .ok (.putfield 13, 3) := by decide +kernel
theorem dX6_init_14 : decode cX6_init 14 = .ok (.aload_n 0, 1) := by decide +kernel
theorem dX6_init_15 : decode cX6_init 15 = .ok (.iload_n 3, 1) := by decide +kernel
theorem dX6_init_16 : decode cX6_init 16 = .ok (.putfield 17, 3) := by decide +kernel
theorem dX6_init_19 : decode cX6_init 19 = .ok (.aload_n 0, 1) := by decide +kernel
theorem dX6_init_20 : decode cX6_init 20 = .ok (.aload 4, 2) := by decide +kernel
theorem dX6_init_22 : decode cX6_init 22 = .ok (.putfield 20, 3) := by decide +kernel
theorem dX6_init_25 : decode cX6_init 25 = .ok (.return_, 1) := by decide +kernel
theorem dX6_copy_0 : decode cX6_copy 0 = .ok (.new 8, 3) := by decide +kernel
theorem dX6_copy_3 : decode cX6_copy 3 = .ok (.dup, 1) := by decide +kernel
theorem dX6_copy_4 : decode cX6_copy 4 = .ok (.aload_n 0, 1) := by decide +kernel
theorem dX6_copy_5 : decode cX6_copy 5 = .ok (.getfield 7, 3) := by decide +kernel
theorem dX6_copy_8 : decode cX6_copy 8 = .ok (.aload_n 0, 1) := by decide +kernel
theorem dX6_copy_9 : decode cX6_copy 9 = .ok (.getfield 13, 3) := by decide +kernel
theorem dX6_copy_12 : decode cX6_copy 12 = .ok (.aload_n 0, 1) := by decide +kernel
theorem dX6_copy_13 : decode cX6_copy 13 = .ok (.getfield 17, 3) := by decide +kernel
theorem dX6_copy_16 : decode cX6_copy 16 = .ok (.aload_n 0, 1) := by decide +kernel
theorem dX6_copy_17 : decode cX6_copy 17 = .ok (.getfield 20, 3) := by decide +kernel
theorem dX6_copy_20 : decode cX6_copy 20 = .ok (.invokespecial 24, 3) := by decide +kernel
theorem dX6_copy_23 : decode cX6_copy 23 = .ok (.areturn, 1) := by decide +kernel
theorem dX6_transformRow_0 : decode cX6_transformRow 0 = .ok (.iconst 0, 1) := by decide +kernel
theorem dX6_transformRow_1 : decode cX6_transformRow 1 = .ok (.istore_n 2, 1) := by decide +kernel
theorem dX6_transformRow_2 : decode cX6_transformRow 2 = .ok (.iload_n 2, 1) := by decide +kernel
theorem dX6_transformRow_3 : decode cX6_transformRow 3 = .ok (.aload_n 0, 1) := by decide +kernel
theorem dX6_transformRow_4 : decode cX6_transformRow 4 = .ok (.invokevirtual 27, 3) := by decide +kernel
theorem dX6_transformRow_7 : decode cX6_transformRow 7 = .ok (.if_icmp .ge 58, 3) := by decide +kernel
theorem dX6_transformRow_10 : decode cX6_transformRow 10 = .ok (.aload_n 0, 1) := by decide +kernel
theorem dX6_transformRow_11 : decode cX6_transformRow 11 = .ok (.iload_n 2, 1) := by decide +kernel
theorem dX6_transformRow_12 : decode cX6_transformRow 12 = .ok (.invokevirtual 33, 3) := by decide +kernel
theorem dX6_transformRow_15 : decode cX6_transformRow 15 = .ok (.checkcast 8, 3) := by decide +kernel
theorem dX6_transformRow_18 : decode cX6_transformRow 18 = .ok (.astore_n 3, 1) := by decide +kernel
theorem dX6_transformRow_19 : decode cX6_transformRow 19 = .ok (.aload_n 3, 1) := by decide +kernel
theorem dX6_transformRow_20 : decode cX6_transformRow 20 = .ok (.getfield 13, 3) := by decide +kernel
theorem dX6_transformRow_23 : decode cX6_transformRow 23 = .ok (.istore 4, 2) := by decide +kernel
theorem dX6_transformRow_25 : decode cX6_transformRow 25 = .ok (.aload_n 3, 1) := by decide +kernel
theorem dX6_transformRow_26 : decode cX6_transformRow 26 = .ok (.getfield 17, 3) := by decide +kernel
theorem dX6_transformRow_29 : decode cX6_transformRow 29 = .ok (.istore 5, 2) := by decide +kernel
theorem dX6_transformRow_31 : decode cX6_transformRow 31 = .ok (.aload_n 3, 1) := by decide +kernel
theorem dX6_transformRow_32 : decode cX6_transformRow 32 = .ok (.aload_n 1, 1) := by decide +kernel
theorem dX6_transformRow_33 : decode cX6_transformRow 33 = .ok (.getfield 13, 3) := by decide +kernel
theorem dX6_transformRow_36 : decode cX6_transformRow 36 = .ok (.aload_n 1, 1) := by decide +kernel
theorem dX6_transformRow_37 : decode cX6_transformRow 37 = .ok (.getfield 17, 3) := by decide +kernel
theorem dX6_transformRow_40 : decode cX6_transformRow 40 = .ok (.aload_n 1, 1) := by decide +kernel
theorem dX6_transformRow_41 : decode cX6_transformRow 41 = .ok (.getfield 7, 3) := by decide +kernel
theorem dX6_transformRow_44 : decode cX6_transformRow 44 = .ok (.invokevirtual 37, 3) := by decide +kernel
theorem dX6_transformRow_47 : decode cX6_transformRow 47 = .ok (.aload_n 1, 1) := by decide +kernel
theorem dX6_transformRow_48 : decode cX6_transformRow 48 = .ok (.iload 4, 2) := by decide +kernel
theorem dX6_transformRow_50 : decode cX6_transformRow 50 = .ok (.iload 5, 2) := by decide +kernel
theorem dX6_transformRow_52 : decode cX6_transformRow 52 = .ok (.aload_n 3, 1) := by decide +kernel
theorem dX6_transformRow_53 : decode cX6_transformRow 53 = .ok (.getfield 7, 3) := by decide +kernel
theorem dX6_transformRow_56 : decode cX6_transformRow 56 = .ok (.invokevirtual 37, 3) := by decide +kernel
theorem dX6_transformRow_59 : decode cX6_transformRow 59 = .ok (.iinc 2 1, 3) := by decide +kernel
theorem dX6_transformRow_62 : decode cX6_transformRow 62 = .ok (.goto (-60), 3) := by decide +kernel
theorem dX6_transformRow_65 : decode cX6_transformRow 65 = .ok (.return_, 1) := by decide +kernel
theorem dX6_transform_0 : decode cX6_transform 0 = .ok (.iload_n 1, 1) := by decide +kernel
theorem dX6_transform_1 : decode cX6_transform 1 = .ok (.bipush 105, 2) := by decide +kernel
theorem dX6_transform_3 : decode cX6_transform 3 = .ok (.if_icmp .ne 12, 3) := by decide +kernel
theorem dX6_transform_6 : decode cX6_transform 6 = .ok (.aload_n 0, 1) := by decide +kernel
theorem dX6_transform_7 : decode cX6_transform 7 = .ok (.iload_n 2, 1) := by decide +kernel
theorem dX6_transform_8 : decode cX6_transform 8 = .ok (.iload_n 3, 1) := by decide +kernel
theorem dX6_transform_9 : decode cX6_transform 9 = .ok (.invokevirtual 41, 3) := by decide +kernel
theorem dX6_transform_12 : decode cX6_transform 12 = .ok (.goto 14, 3) := by decide +kernel
theorem dX6_transform_15 : decode cX6_transform 15 = .ok (.iload_n 1, 1) := by decide +kernel
theorem dX6_transform_16 : decode cX6_transform 16 = .ok (.bipush 100, 2) := by decide +kernel
theorem dX6_transform_18 : decode cX6_transform 18 = .ok (.if_icmp .ne 8, 3) := by decide +kernel
theorem dX6_transform_21 : decode cX6_transform 21 = .ok (.aload_n 0, 1) := by decide +kernel
theorem dX6_transform_22 : decode cX6_transform 22 = .ok (.iload_n 2, 1) := by decide +kernel
theorem dX6_transform_23 : decode cX6_transform 23 = .ok (.invokevirtual 45, 3) := by decide +kernel
theorem dX6_transform_26 : decode cX6_transform 26 = .ok (.return_, 1) := by decide +kernel
theorem dX6_transformByInsertion_0 : decode cX6_transformByInsertion 0 = .ok (.aload_n 0, 1) := by decide +kernel
theorem dX6_transformByInsertion_1 : decode cX6_transformByInsertion 1 = .ok (.getfield 13, 3) := by decide +kernel
theorem dX6_transformByInsertion_4 : decode cX6_transformByInsertion 4 = .ok (.bipush 100, 2) := by decide +kernel
theorem dX6_transformByInsertion_6 : decode cX6_transformByInsertion 6 = .ok (.if_icmp .eq 7, 3) := by decide +kernel
theorem dX6_transformByInsertion_9 : decode cX6_transformByInsertion 9 = .ok (.iload_n 2, 1) := by decide +kernel
theorem dX6_transformByInsertion_10 : decode cX6_transformByInsertion 10 = .ok (.ifCond .ne 7, 3) := by decide +kernel
theorem dX6_transformByInsertion_13 : decode cX6_transformByInsertion 13 = .ok (.iconst 1, 1) := by decide +kernel
theorem dX6_transformByInsertion_14 : decode cX6_transformByInsertion 14 = .ok (.goto 4, 3) := by decide +kernel
theorem dX6_transformByInsertion_17 : decode cX6_transformByInsertion 17 = .ok (.iconst 0, 1) := by decide +kernel
theorem dX6_transformByInsertion_18 : decode cX6_transformByInsertion 18 = .ok (.istore_n 3, 1) := by decide +kernel
theorem dX6_transformByInsertion_19 : decode cX6_transformByInsertion 19 = .ok (.aload_n 0, 1) := by decide +kernel
theorem dX6_transformByInsertion_20 : decode cX6_transformByInsertion 20 = .ok (.getfield 13, 3) := by decide +kernel
theorem dX6_transformByInsertion_23 : decode cX6_transformByInsertion 23 = .ok (.bipush 110, 2) := by decide +kernel
theorem dX6_transformByInsertion_25 : decode cX6_transformByInsertion 25 = .ok (.if_icmp .eq 33, 3) := by decide +kernel
theorem dX6_transformByInsertion_28 : decode cX6_transformByInsertion 28 = .ok (.iload_n 1, 1) := by decide +kernel
theorem dX6_transformByInsertion_29 : decode cX6_transformByInsertion 29 = .ok (.aload_n 0, 1) := by decide +kernel
theorem dX6_transformByInsertion_30 : decode cX6_transformByInsertion 30 = .ok (.getfield 17, 3) := by decide +kernel
theorem dX6_transformByInsertion_33 : decode cX6_transformByInsertion 33 = .ok (.if_icmp .lt 15, 3) := by decide +kernel
theorem dX6_transformByInsertion_36 : decode cX6_transformByInsertion 36 = .ok (.iload_n 1, 1) := by decide +kernel
theorem dX6_transformByInsertion_37 : decode cX6_transformByInsertion 37 = .ok (.aload_n 0, 1) := by decide +kernel
theorem dX6_transformByInsertion_38 : decode cX6_transformByInsertion 38 = .ok (.getfield 17, 3) := by decide +kernel
theorem dX6_transformByInsertion_41 : decode cX6_transformByInsertion 41 = .ok (.if_icmp .ne 17, 3) := by decide +kernel
theorem dX6_transformByInsertion_44 : decode cX6_transformByInsertion 44 = .ok (.iload_n 3, 1) := by decide +kernel
theorem dX6_transformByInsertion_45 : decode cX6_transformByInsertion 45 = .ok (.ifCond .eq 13, 3) := by decide +kernel
theorem dX6_transformByInsertion_48 : decode cX6_transformByInsertion 48 = .ok (.aload_n 0, 1) := by decide +kernel
theorem dX6_transformByInsertion_49 : decode cX6_transformByInsertion 49 = .ok (.dup, 1) := by decide +kernel
theorem dX6_transformByInsertion_50 : decode cX6_transformByInsertion 50 = .ok (.getfield 17, 3) := by decide +kernel
theorem dX6_transformByInsertion_53 : decode cX6_transformByInsertion 53 = .ok (.iconst 1, 1) := by decide +kernel
theorem dX6_transformByInsertion_54 : decode cX6_transformByInsertion 54 = .ok (.iadd, 1) := by decide +kernel
theorem dX6_transformByInsertion_55 : decode cX6_transformByInsertion 55 = .ok (.putfield 17, 3) := by decide +kernel
theorem dX6_transformByInsertion_58 : decode cX6_transformByInsertion 58 = .ok (.return_, 1) := by decide +kernel
theorem dX6_transformByDeletion_0 : decode cX6_transformByDeletion 0 = .ok (.aload_n 0, 1) := by decide +kernel
theorem dX6_transformByDeletion_1 : decode cX6_transformByDeletion 1 = .ok (.getfield 13, 3) := by decide +kernel
theorem dX6_transformByDeletion_4 : decode cX6_transformByDeletion 4 = .ok (.bipush 110, 2) := by decide +kernel
theorem dX6_transformByDeletion_6 : decode cX6_transformByDeletion 6 = .ok (.if_icmp .eq 24, 3) := by decide +kernel
theorem dX6_transformByDeletion_9 : decode cX6_transformByDeletion 9 = .ok (.iload_n 1, 1) := by decide +kernel
theorem dX6_transformByDeletion_10 : decode cX6_transformByDeletion 10 = .ok (.aload_n 0, 1) := by decide +kernel
theorem dX6_transformByDeletion_11 : decode cX6_transformByDeletion 11 = .ok (.getfield 17, 3) := by decide +kernel
theorem dX6_transformByDeletion_14 : decode cX6_transformByDeletion 14 = .ok (.if_icmp .ge 16, 3) := by decide +kernel
theorem dX6_transformByDeletion_17 : decode cX6_transformByDeletion 17 = .ok (.aload_n 0, 1) := by decide +kernel
theorem dX6_transformByDeletion_18 : decode cX6_transformByDeletion 18 = .ok (.dup, 1) := by decide +kernel
theorem dX6_transformByDeletion_19 : decode cX6_transformByDeletion 19 = .ok (.getfield 17, 3) := by decide +kernel
theorem dX6_transformByDeletion_22 : decode cX6_transformByDeletion 22 = .ok (.iconst 1, 1) := by decide +kernel
theorem dX6_transformByDeletion_23 : decode cX6_transformByDeletion 23 = .ok (.isub, 1) := by decide +kernel
theorem dX6_transformByDeletion_24 : decode cX6_transformByDeletion 24 = .ok (.putfield 17, 3) := by decide +kernel
theorem dX6_transformByDeletion_27 : decode cX6_transformByDeletion 27 = .ok (.goto 31, 3) := by decide +kernel
theorem dX6_transformByDeletion_30 : decode cX6_transformByDeletion 30 = .ok (.aload_n 0, 1) := by decide +kernel
theorem dX6_transformByDeletion_31 : decode cX6_transformByDeletion 31 = .ok (.getfield 13, 3) := by decide +kernel
theorem dX6_transformByDeletion_34 : decode cX6_transformByDeletion 34 = .ok (.bipush 100, 2) := by decide +kernel
theorem dX6_transformByDeletion_36 : decode cX6_transformByDeletion 36 = .ok (.if_icmp .ne 22, 3) := by decide +kernel
theorem dX6_transformByDeletion_39 : decode cX6_transformByDeletion 39 = .ok (.iload_n 1, 1) := by decide +kernel
theorem dX6_transformByDeletion_40 : decode cX6_transformByDeletion 40 = .ok (.aload_n 0, 1) := by decide +kernel
theorem dX6_transformByDeletion_41 : decode cX6_transformByDeletion 41 = .ok (.getfield 17, 3) := by decide +kernel
theorem dX6_transformByDeletion_44 : decode cX6_transformByDeletion 44 = .ok (.if_icmp .ne 14, 3) := by decide +kernel
theorem dX6_transformByDeletion_47 : decode cX6_transformByDeletion 47 = .ok (.aload_n 0, 1) := by decide +kernel
theorem dX6_transformByDeletion_48 : decode cX6_transformByDeletion 48 = .ok (.bipush 110, 2) := by decide +kernel
theorem dX6_transformByDeletion_50 : decode cX6_transformByDeletion 50 = .ok (.putfield 13, 3) := by decide +kernel
theorem dX6_transformByDeletion_53 : decode cX6_transformByDeletion 53 = .ok (.aload_n 0, 1) := by decide +kernel
theorem dX6_transformByDeletion_54 : decode cX6_transformByDeletion 54 = .ok (.iconst (-1), 1) := by decide +kernel
theorem dX6_transformByDeletion_55 : decode cX6_transformByDeletion 55 = .ok (.putfield 17, 3) := by decide +kernel
theorem dX6_transformByDeletion_58 : decode cX6_transformByDeletion 58 = .ok (.return_, 1) := by decide +kernel
theorem dX6_move_0 : decode cX6_move 0 = .ok (.aload_n 0, 1) := by decide +kernel
theorem dX6_move_1 : decode cX6_move 1 = .ok (.getfield 17, 3) := by decide +kernel
theorem dX6_move_4 : decode cX6_move 4 = .ok (.iload_n 1, 1) := by decide +kernel
theorem dX6_move_5 : decode cX6_move 5 = .ok (.if_icmp .lt 5, 3) := by decide +kernel
theorem dX6_move_8 : decode cX6_move 8 = .ok (.iload_n 1, 1) := by decide +kernel
theorem dX6_move_9 : decode cX6_move 9 = .ok (.ireturn, 1) := by decide +kernel
theorem dX6_move_10 : decode cX6_move 10 = .ok (.aload_n 0, 1) := by decide +kernel
theorem dX6_move_11 : decode cX6_move 11 = .ok (.getfield 13, 3) := by decide +kernel
theorem dX6_move_14 : decode cX6_move 14 = .ok (.bipush 105, 2) := by decide +kernel
theorem dX6_move_16 : decode cX6_move 16 = .ok (.if_icmp .ne 7, 3) := by decide +kernel
theorem dX6_move_19 : decode cX6_move 19 = .ok (.iload_n 1, 1) := by decide +kernel
theorem dX6_move_20 : decode cX6_move 20 = .ok (.iconst 1, 1) := by decide +kernel
theorem dX6_move_21 : decode cX6_move 21 = .ok (.iadd, 1) := by decide +kernel
theorem dX6_move_22 : decode cX6_move 22 = .ok (.ireturn, 1) := by decide +kernel
theorem dX6_move_23 : decode cX6_move 23 = .ok (.aload_n 0, 1) := by decide +kernel
theorem dX6_move_24 : decode cX6_move 24 = .ok (.getfield 13, 3) := by decide +kernel
theorem dX6_move_27 : decode cX6_move 27 = .ok (.bipush 100, 2) := by decide +kernel
theorem dX6_move_29 : decode cX6_move 29 = .ok (.if_icmp .ne 9, 3) := by decide +kernel
theorem dX6_move_32 : decode cX6_move 32 = .ok (.iload_n 1, 1) := by decide +kernel
theorem dX6_move_33 : decode cX6_move 33 = .ok (.iconst 1, 1) := by decide +kernel
theorem dX6_move_34 : decode cX6_move 34 = .ok (.isub, 1) := by decide +kernel
theorem dX6_move_35 : decode cX6_move 35 = .ok (.goto 4, 3) := by decide +kernel
theorem dX6_move_38 : decode cX6_move 38 = .ok (.iload_n 1, 1) := by decide +kernel
theorem dX6_move_39 : decode cX6_move 39 = .ok (.ireturn, 1) := by decide +kernel
theorem dX6_placeBehind_0 : decode cX6_placeBehind 0 = .ok (.aload_n 0, 1) := by decide +kernel
theorem dX6_placeBehind_1 : decode cX6_placeBehind 1 = .ok (.getfield 13, 3) := by decide +kernel
theorem dX6_placeBehind_4 : decode cX6_placeBehind 4 = .ok (.bipush 105, 2) := by decide +kernel
theorem dX6_placeBehind_6 : decode cX6_placeBehind 6 = .ok (.if_icmp .ne 12, 3) := by decide +kernel
theorem dX6_placeBehind_9 : decode cX6_placeBehind 9 = .ok (.aload_n 0, 1) := by decide +kernel
theorem dX6_placeBehind_10 : decode cX6_placeBehind 10 = .ok (.getfield 17, 3) := by decide +kernel
theorem dX6_placeBehind_13 : decode cX6_placeBehind 13 = .ok (.iconst 1, 1) := by decide +kernel
theorem dX6_placeBehind_14 : decode cX6_placeBehind 14 = .ok (.iadd, 1) := by decide +kernel
theorem dX6_placeBehind_15 : decode cX6_placeBehind 15 = .ok (.goto 7, 3) := by decide +kernel
theorem dX6_placeBehind_18 : decode cX6_placeBehind 18 = .ok (.aload_n 0, 1) := by decide +kernel
theorem dX6_placeBehind_19 : decode cX6_placeBehind 19 = .ok (.getfield 17, 3) := by decide +kernel
theorem dX6_placeBehind_22 : decode cX6_placeBehind 22 = .ok (.ireturn, 1) := by decide +kernel
theorem dX6_goesOnFrom_0 : decode cX6_goesOnFrom 0 = .ok (.aload_n 0, 1) := by decide +kernel
theorem dX6_goesOnFrom_1 : decode cX6_goesOnFrom 1 = .ok (.getfield 13, 3) := by decide +kernel
theorem dX6_goesOnFrom_4 : decode cX6_goesOnFrom 4 = .ok (.bipush 105, 2) := by decide +kernel
theorem dX6_goesOnFrom_6 : decode cX6_goesOnFrom 6 = .ok (.if_icmp .ne 31, 3) := by decide +kernel
theorem dX6_goesOnFrom_9 : decode cX6_goesOnFrom 9 = .ok (.aload_n 1, 1) := by decide +kernel
theorem dX6_goesOnFrom_10 : decode cX6_goesOnFrom 10 = .ok (.getfield 13, 3) := by decide +kernel
theorem dX6_goesOnFrom_13 : decode cX6_goesOnFrom 13 = .ok (.bipush 105, 2) := by decide +kernel
theorem dX6_goesOnFrom_15 : decode cX6_goesOnFrom 15 = .ok (.if_icmp .ne 20, 3) := by decide +kernel
theorem dX6_goesOnFrom_18 : decode cX6_goesOnFrom 18 = .ok (.aload_n 0, 1) := by decide +kernel
theorem dX6_goesOnFrom_19 : decode cX6_goesOnFrom 19 = .ok (.getfield 17, 3) := by decide +kernel
theorem dX6_goesOnFrom_22 : decode cX6_goesOnFrom 22 = .ok (.aload_n 1, 1) := by decide +kernel
theorem dX6_goesOnFrom_23 : decode cX6_goesOnFrom 23 = .ok (.getfield 17, 3) := by decide +kernel
theorem dX6_goesOnFrom_26 : decode cX6_goesOnFrom 26 = .ok (.iconst 1, 1) := by decide +kernel
theorem dX6_goesOnFrom_27 : decode cX6_goesOnFrom 27 = .ok (.iadd, 1) := by decide +kernel
theorem dX6_goesOnFrom_28 : decode cX6_goesOnFrom 28 = .ok (.if_icmp .ne 7, 3) := by decide +kernel
theorem dX6_goesOnFrom_31 : decode cX6_goesOnFrom 31 = .ok (.iconst 1, 1) := by decide +kernel
theorem dX6_goesOnFrom_32 : decode cX6_goesOnFrom 32 = .ok (.goto 4, 3) := by decide +kernel
theorem dX6_goesOnFrom_35 : decode cX6_goesOnFrom 35 = .ok (.iconst 0, 1) := by decide +kernel
theorem dX6_goesOnFrom_36 : decode cX6_goesOnFrom 36 = .ok (.ireturn, 1) := by decide +kernel
theorem dX6_goesOnFrom_37 : decode cX6_goesOnFrom 37 = .ok (.aload_n 0, 1) := by decide +kernel
theorem dX6_goesOnFrom_38 : decode cX6_goesOnFrom 38 = .ok (.getfield 13, 3) := by decide +kernel
theorem dX6_goesOnFrom_41 : decode cX6_goesOnFrom 41 = .ok (.bipush 100, 2) := by decide +kernel
theorem dX6_goesOnFrom_43 : decode cX6_goesOnFrom 43 = .ok (.if_icmp .ne 40, 3) := by decide +kernel
theorem dX6_goesOnFrom_46 : decode cX6_goesOnFrom 46 = .ok (.aload_n 1, 1) := by decide +kernel
theorem dX6_goesOnFrom_47 : decode cX6_goesOnFrom 47 = .ok (.getfield 13, 3) := by decide +kernel
theorem dX6_goesOnFrom_50 : decode cX6_goesOnFrom 50 = .ok (.bipush 100, 2) := by decide +kernel
theorem dX6_goesOnFrom_52 : decode cX6_goesOnFrom 52 = .ok (.if_icmp .ne 31, 3) := by decide +kernel
theorem dX6_goesOnFrom_55 : decode cX6_goesOnFrom 55 = .ok (.aload_n 0, 1) := by decide +kernel
theorem dX6_goesOnFrom_56 : decode cX6_goesOnFrom 56 = .ok (.getfield 17, 3) := by decide +kernel
theorem dX6_goesOnFrom_59 : decode cX6_goesOnFrom 59 = .ok (.aload_n 1, 1) := by decide +kernel
theorem dX6_goesOnFrom_60 : decode cX6_goesOnFrom 60 = .ok (.getfield 17, 3) := by decide +kernel
theorem dX6_goesOnFrom_63 : decode cX6_goesOnFrom 63 = .ok (.if_icmp .eq 16, 3) := by decide +kernel
theorem dX6_goesOnFrom_66 : decode cX6_goesOnFrom 66 = .ok (.aload_n 0, 1) := by decide +kernel
theorem dX6_goesOnFrom_67 : decode cX6_goesOnFrom 67 = .ok (.getfield 17, 3) := by decide +kernel
theorem dX6_goesOnFrom_70 : decode cX6_goesOnFrom 70 = .ok (.aload_n 1, 1) := by decide +kernel
theorem dX6_goesOnFrom_71 : decode cX6_goesOnFrom 71 = .ok (.getfield 17, 3) := by decide +kernel
theorem dX6_goesOnFrom_74 : decode cX6_goesOnFrom 74 = .ok (.iconst 1, 1) := by decide +kernel
theorem dX6_goesOnFrom_75 : decode cX6_goesOnFrom 75 = .ok (.isub, 1) := by decide +kernel
theorem dX6_goesOnFrom_76 : decode cX6_goesOnFrom 76 = .ok (.if_icmp .ne 7, 3) := by decide +kernel
theorem dX6_goesOnFrom_79 : decode cX6_goesOnFrom 79 = .ok (.iconst 1, 1) := by decide +kernel
theorem dX6_goesOnFrom_80 : decode cX6_goesOnFrom 80 = .ok (.goto 4, 3) := by decide +kernel
theorem dX6_goesOnFrom_83 : decode cX6_goesOnFrom 83 = .ok (.iconst 0, 1) := by decide +kernel
theorem dX6_goesOnFrom_84 : decode cX6_goesOnFrom 84 = .ok (.ireturn, 1) := by decide +kernel
theorem dX7_init_0 : decode cX7_init 0 = .ok (.aload_n 0, 1) := by decide +kernel
theorem dX7_init_1 : decode cX7_init 1 = .ok (.invokespecial 1, 3) := by decide +kernel
theorem dX7_init_4 : decode cX7_init 4 = .ok (.aload_n 0, 1) := by decide +kernel
theorem dX7_init_5 : decode cX7_init 5 = .ok (.new 7, 3) := by decide +kernel
theorem dX7_init_8 : decode cX7_init 8 = .ok (.dup, 1) := by decide +kernel
theorem dX7_init_9 : decode cX7_init 9 = .ok (.invokespecial 9, 3) := by decide +kernel
theorem dX7_init_12 : decode cX7_init 12 = .ok (.putfield 10, 3) := by decide +kernel
theorem dX7_init_15 : decode cX7_init 15 = .ok (.return_, 1) := by decide +kernel
theorem dX7_size_0 : decode cX7_size 0 = .ok (.aload_n 0, 1) := by decide +kernel
theorem dX7_size_1 : decode cX7_size 1 = .ok (.getfield 10, 3) := by decide +kernel
theorem dX7_size_4 : decode cX7_size 4 = .ok (.invokevirtual 16, 3) := by decide +kernel
theorem dX7_size_7 : decode cX7_size 7 = .ok (.ireturn, 1) := by decide +kernel
theorem dX7_hasCharacter_0 : decode cX7_hasCharacter 0 = .ok (.iload_n 1, 1) := by decide +kernel
theorem dX7_hasCharacter_1 : decode cX7_hasCharacter 1 = .ok (.ifCond .lt 18, 3) := by decide +kernel
theorem dX7_hasCharacter_4 : decode cX7_hasCharacter 4 = .ok (.iload_n 1, 1) := by decide +kernel
theorem dX7_hasCharacter_5 : decode cX7_hasCharacter 5 = .ok (.aload_n 0, 1) := by decide +kernel
theorem dX7_hasCharacter_6 : decode cX7_hasCharacter 6 = .ok (.getfield 10, 3) := by decide +kernel
theorem dX7_hasCharacter_9 : decode cX7_hasCharacter 9 = .ok (.invokevirtual 16, 3) := by decide +kernel
theorem dX7_hasCharacter_12 : decode cX7_hasCharacter 12 = .ok (.if_icmp .ge 7, 3) := by decide +kernel
theorem dX7_hasCharacter_15 : decode cX7_hasCharacter 15 = .ok (.iconst 1, 1) := by decide +kernel
theorem dX7_hasCharacter_16 : decode cX7_hasCharacter 16 = .ok (.goto 4, 3) := by decide +kernel
theorem dX7_hasCharacter_19 : decode cX7_hasCharacter 19 = .ok (.iconst 0, 1) := by decide +kernel
theorem dX7_hasCharacter_20 : decode cX7_hasCharacter 20 = .ok (.ireturn, 1) := by decide +kernel
theorem dX7_hasPlace_0 : decode cX7_hasPlace 0 = .ok (.iload_n 1, 1) := by decide +kernel
theorem dX7_hasPlace_1 : decode cX7_hasPlace 1 = .ok (.ifCond .lt 18, 3) := by decide +kernel
theorem dX7_hasPlace_4 : decode cX7_hasPlace 4 = .ok (.iload_n 1, 1) := by decide +kernel
theorem dX7_hasPlace_5 : decode cX7_hasPlace 5 = .ok (.aload_n 0, 1) := by decide +kernel
theorem dX7_hasPlace_6 : decode cX7_hasPlace 6 = .ok (.getfield 10, 3) := by decide +kernel
theorem dX7_hasPlace_9 : decode cX7_hasPlace 9 = .ok (.invokevirtual 16, 3) := by decide +kernel
theorem dX7_hasPlace_12 : decode cX7_hasPlace 12 = .ok (.if_icmp .gt 7, 3) := by decide +kernel
theorem dX7_hasPlace_15 : decode cX7_hasPlace 15 = .ok (.iconst 1, 1) := by decide +kernel
theorem dX7_hasPlace_16 : decode cX7_hasPlace 16 = .ok (.goto 4, 3) := by decide +kernel
theorem dX7_hasPlace_19 : decode cX7_hasPlace 19 = .ok (.iconst 0, 1) := by decide +kernel
theorem dX7_hasPlace_20 : decode cX7_hasPlace 20 = .ok (.ireturn, 1) := by decide +kernel
theorem dX7_carryOut_0 : decode cX7_carryOut 0 = .ok (.aload_n 1, 1) := by decide +kernel
theorem dX7_carryOut_1 : decode cX7_carryOut 1 = .ok (.getfield 20, 3) := by decide +kernel
theorem dX7_carryOut_4 : decode cX7_carryOut 4 = .ok (.istore_n 2, 1) := by decide +kernel
theorem dX7_carryOut_5 : decode cX7_carryOut 5 = .ok (.aload_n 1, 1) := by decide +kernel
theorem dX7_carryOut_6 : decode cX7_carryOut 6 = .ok (.getfield 26, 3) := by decide +kernel
theorem dX7_carryOut_9 : decode cX7_carryOut 9 = .ok (.bipush 105, 2) := by decide +kernel
theorem dX7_carryOut_11 : decode cX7_carryOut 11 = .ok (.if_icmp .ne 26, 3) := by decide +kernel
theorem dX7_carryOut_14 : decode cX7_carryOut 14 = .ok (.aload_n 0, 1) := by decide +kernel
theorem dX7_carryOut_15 : decode cX7_carryOut 15 = .ok (.iload_n 2, 1) := by decide +kernel
theorem dX7_carryOut_16 : decode cX7_carryOut 16 = .ok (.invokevirtual 30, 3) := by decide +kernel
theorem dX7_carryOut_19 : decode cX7_carryOut 19 = .ok (.ifCond .eq 18, 3) := by decide +kernel
theorem dX7_carryOut_22 : decode cX7_carryOut 22 = .ok (.aload_n 0, 1) := by decide +kernel
theorem dX7_carryOut_23 : decode cX7_carryOut 23 = .ok (.getfield 10, 3) := by decide +kernel
theorem dX7_carryOut_26 : decode cX7_carryOut 26 = .ok (.iload_n 2, 1) := by decide +kernel
theorem dX7_carryOut_27 : decode cX7_carryOut 27 = .ok (.aload_n 1, 1) := by decide +kernel
theorem dX7_carryOut_28 : decode cX7_carryOut 28 = .ok (.getfield 34, 3) := by decide +kernel
theorem dX7_carryOut_31 : decode cX7_carryOut 31 = .ok (.invokevirtual 38, 3) := by decide +kernel
theorem dX7_carryOut_34 : decode cX7_carryOut 34 = .ok (.goto 29, 3) := by decide +kernel
theorem dX7_carryOut_37 : decode cX7_carryOut 37 = .ok (.aload_n 1, 1) := by decide +kernel
theorem dX7_carryOut_38 : decode cX7_carryOut 38 = .ok (.getfield 26, 3) := by decide +kernel
theorem dX7_carryOut_41 : decode cX7_carryOut 41 = .ok (.bipush 100, 2) := by decide +kernel
theorem dX7_carryOut_43 : decode cX7_carryOut 43 = .ok (.if_icmp .ne 20, 3) := by decide +kernel
theorem dX7_carryOut_46 : decode cX7_carryOut 46 = .ok (.aload_n 0, 1) := by decide +kernel
theorem dX7_carryOut_47 : decode cX7_carryOut 47 = .ok (.iload_n 2, 1) := by decide +kernel
theorem dX7_carryOut_48 : decode cX7_carryOut 48 = .ok (.invokevirtual 42, 3) := by decide +kernel
theorem dX7_carryOut_51 : decode cX7_carryOut 51 = .ok (.ifCond .eq 12, 3) := by decide +kernel
theorem dX7_carryOut_54 : decode cX7_carryOut 54 = .ok (.aload_n 0, 1) := by decide +kernel
theorem dX7_carryOut_55 : decode cX7_carryOut 55 = .ok (.getfield 10, 3) := by decide +kernel
theorem dX7_carryOut_58 : decode cX7_carryOut 58 = .ok (.iload_n 2, 1) := by decide +kernel
theorem dX7_carryOut_59 : decode cX7_carryOut 59 = .ok (.invokevirtual 45, 3) := by decide +kernel
theorem dX7_carryOut_62 : decode cX7_carryOut 62 = .ok (.pop, 1) := by decide +kernel
theorem dX7_carryOut_63 : decode cX7_carryOut 63 = .ok (.return_, 1) := by decide +kernel
theorem dX7_carryOutAll_0 : decode cX7_carryOutAll 0 = .ok (.iconst 0, 1) := by decide +kernel
theorem dX7_carryOutAll_1 : decode cX7_carryOutAll 1 = .ok (.istore_n 2, 1) := by decide +kernel
theorem dX7_carryOutAll_2 : decode cX7_carryOutAll 2 = .ok (.iload_n 2, 1) := by decide +kernel
theorem dX7_carryOutAll_3 : decode cX7_carryOutAll 3 = .ok (.aload_n 1, 1) := by decide +kernel
theorem dX7_carryOutAll_4 : decode cX7_carryOutAll 4 = .ok (.invokevirtual 16, 3) := by decide +kernel
theorem dX7_carryOutAll_7 : decode cX7_carryOutAll 7 = .ok (.if_icmp .ge 21, 3) := by decide +kernel
theorem dX7_carryOutAll_10 : decode cX7_carryOutAll 10 = .ok (.aload_n 0, 1) := by decide +kernel
theorem dX7_carryOutAll_11 : decode cX7_carryOutAll 11 = .ok (.aload_n 1, 1) := by decide +kernel
theorem dX7_carryOutAll_12 : decode cX7_carryOutAll 12 = .ok (.iload_n 2, 1) := by decide +kernel
theorem dX7_carryOutAll_13 : decode cX7_carryOutAll 13 = .ok (.invokevirtual 49, 3) := by decide +kernel
theorem dX7_carryOutAll_16 : decode cX7_carryOutAll 16 = .ok (.checkcast 21, 3) := by decide +kernel
theorem dX7_carryOutAll_19 : decode cX7_carryOutAll 19 = .ok (.invokevirtual 52, 3) := by decide +kernel
theorem dX7_carryOutAll_22 : decode cX7_carryOutAll 22 = .ok (.iinc 2 1, 3) := by decide +kernel
theorem dX7_carryOutAll_25 : decode cX7_carryOutAll 25 = .ok (.goto (-23), 3) := by decide +kernel
theorem dX7_carryOutAll_28 : decode cX7_carryOutAll 28 = .ok (.return_, 1) := by decide +kernel
theorem dX7_positionOf_0 : decode cX7_positionOf 0 = .ok (.iconst 0, 1) := by decide +kernel
theorem dX7_positionOf_1 : decode cX7_positionOf 1 = .ok (.istore_n 2, 1) := by decide +kernel
theorem dX7_positionOf_2 : decode cX7_positionOf 2 = .ok (.iload_n 2, 1) := by decide +kernel
theorem dX7_positionOf_3 : decode cX7_positionOf 3 = .ok (.aload_n 0, 1) := by decide +kernel
theorem dX7_positionOf_4 : decode cX7_positionOf 4 = .ok (.getfield 10, 3) := by decide +kernel
theorem dX7_positionOf_7 : decode cX7_positionOf 7 = .ok (.invokevirtual 16, 3) := by decide +kernel
theorem dX7_positionOf_10 : decode cX7_positionOf 10 = .ok (.if_icmp .ge 23, 3) := by decide +kernel
theorem dX7_positionOf_13 : decode cX7_positionOf 13 = .ok (.aload_n 0, 1) := by decide +kernel
theorem dX7_positionOf_14 : decode cX7_positionOf 14 = .ok (.getfield 10, 3) := by decide +kernel
theorem dX7_positionOf_17 : decode cX7_positionOf 17 = .ok (.iload_n 2, 1) := by decide +kernel
theorem dX7_positionOf_18 : decode cX7_positionOf 18 = .ok (.invokevirtual 49, 3) := by decide +kernel
theorem dX7_positionOf_21 : decode cX7_positionOf 21 = .ok (.aload_n 1, 1) := by decide +kernel
theorem dX7_positionOf_22 : decode cX7_positionOf 22 = .ok (.if_acmp .ne 5, 3) := by decide +kernel
theorem dX7_positionOf_25 : decode cX7_positionOf 25 = .ok (.iload_n 2, 1) := by decide +kernel
theorem dX7_positionOf_26 : decode cX7_positionOf 26 = .ok (.ireturn, 1) := by decide +kernel
theorem dX7_positionOf_27 : decode cX7_positionOf 27 = .ok (.iinc 2 1, 3) := by decide +kernel
theorem dX7_positionOf_30 : decode cX7_positionOf 30 = .ok (.goto (-28), 3) := by decide +kernel
theorem dX7_positionOf_33 : decode cX7_positionOf 33 = .ok (.iconst (-1), 1) := by decide +kernel
theorem dX7_positionOf_34 : decode cX7_positionOf 34 = .ok (.ireturn, 1) := by decide +kernel
theorem dX7_countOf_0 : decode cX7_countOf 0 = .ok (.iconst 0, 1) := by decide +kernel
theorem dX7_countOf_1 : decode cX7_countOf 1 = .ok (.istore_n 2, 1) := by decide +kernel
theorem dX7_countOf_2 : decode cX7_countOf 2 = .ok (.iconst 0, 1) := by decide +kernel
theorem dX7_countOf_3 : decode cX7_countOf 3 = .ok (.istore_n 3, 1) := by decide +kernel
theorem dX7_countOf_4 : decode cX7_countOf 4 = .ok (.iload_n 3, 1) := by decide +kernel
theorem dX7_countOf_5 : decode cX7_countOf 5 = .ok (.aload_n 0, 1) := by decide +kernel
theorem dX7_countOf_6 : decode cX7_countOf 6 = .ok (.getfield 10, 3) := by decide +kernel
theorem dX7_countOf_9 : decode cX7_countOf 9 = .ok (.invokevirtual 16, 3) := by decide +kernel
theorem dX7_countOf_12 : decode cX7_countOf 12 = .ok (.if_icmp .ge 30, 3) := by decide +kernel
theorem dX7_countOf_15 : decode cX7_countOf 15 = .ok (.aload_n 0, 1) := by decide +kernel
theorem dX7_countOf_16 : decode cX7_countOf 16 = .ok (.getfield 10, 3) := by decide +kernel
theorem dX7_countOf_19 : decode cX7_countOf 19 = .ok (.iload_n 3, 1) := by decide +kernel
theorem dX7_countOf_20 : decode cX7_countOf 20 = .ok (.invokevirtual 49, 3) := by decide +kernel
theorem dX7_countOf_23 : decode cX7_countOf 23 = .ok (.checkcast 56, 3) := by decide +kernel
theorem dX7_countOf_26 : decode cX7_countOf 26 = .ok (.getfield 58, 3) := by decide +kernel
theorem dX7_countOf_29 : decode cX7_countOf 29 = .ok (.iload_n 1, 1) := by decide +kernel
theorem dX7_countOf_30 : decode cX7_countOf 30 = .ok (.if_icmp .ne 6, 3) := by decide +kernel
theorem dX7_countOf_33 : decode cX7_countOf 33 = .ok (.iinc 2 1, 3) := by decide +kernel
theorem dX7_countOf_36 : decode cX7_countOf 36 = .ok (.iinc 3 1, 3) := by decide +kernel
theorem dX7_countOf_39 : decode cX7_countOf 39 = .ok (.goto (-35), 3) := by decide +kernel
theorem dX7_countOf_42 : decode cX7_countOf 42 = .ok (.iload_n 2, 1) := by decide +kernel
theorem dX7_countOf_43 : decode cX7_countOf 43 = .ok (.ireturn, 1) := by decide +kernel
theorem dX7_matches_0 : decode cX7_matches 0 = .ok (.aload_n 0, 1) := by decide +kernel
theorem dX7_matches_1 : decode cX7_matches 1 = .ok (.iload_n 1, 1) := by decide +kernel
theorem dX7_matches_2 : decode cX7_matches 2 = .ok (.invokevirtual 42, 3) := by decide +kernel
theorem dX7_matches_5 : decode cX7_matches 5 = .ok (.ifCond .eq 46, 3) := by decide +kernel
theorem dX7_matches_8 : decode cX7_matches 8 = .ok (.aload_n 2, 1) := by decide +kernel
theorem dX7_matches_9 : decode cX7_matches 9 = .ok (.iload_n 3, 1) := by decide +kernel
theorem dX7_matches_10 : decode cX7_matches 10 = .ok (.invokevirtual 42, 3) := by decide +kernel
theorem dX7_matches_13 : decode cX7_matches 13 = .ok (.ifCond .eq 38, 3) := by decide +kernel
theorem dX7_matches_16 : decode cX7_matches 16 = .ok (.aload_n 0, 1) := by decide +kernel
theorem dX7_matches_17 : decode cX7_matches 17 = .ok (.getfield 10, 3) := by decide +kernel
theorem dX7_matches_20 : decode cX7_matches 20 = .ok (.iload_n 1, 1) := by decide +kernel
theorem dX7_matches_21 : decode cX7_matches 21 = .ok (.invokevirtual 49, 3) := by decide +kernel
theorem dX7_matches_24 : decode cX7_matches 24 = .ok (.checkcast 56, 3) := by decide +kernel
theorem dX7_matches_27 : decode cX7_matches 27 = .ok (.getfield 61, 3) := by decide +kernel
theorem dX7_matches_30 : decode cX7_matches 30 = .ok (.aload_n 2, 1) := by decide +kernel
theorem dX7_matches_31 : decode cX7_matches 31 = .ok (.getfield 10, 3) := by decide +kernel
theorem dX7_matches_34 : decode cX7_matches 34 = .ok (.iload_n 3, 1) := by decide +kernel
theorem dX7_matches_35 : decode cX7_matches 35 = .ok (.invokevirtual 49, 3) := by decide +kernel
theorem dX7_matches_38 : decode cX7_matches 38 = .ok (.checkcast 56, 3) := by decide +kernel
theorem dX7_matches_41 : decode cX7_matches 41 = .ok (.getfield 61, 3) := by decide +kernel
theorem dX7_matches_44 : decode cX7_matches 44 = .ok (.if_icmp .ne 7, 3) := by decide +kernel
theorem dX7_matches_47 : decode cX7_matches 47 = .ok (.iconst 1, 1) := by decide +kernel
theorem dX7_matches_48 : decode cX7_matches 48 = .ok (.goto 4, 3) := by decide +kernel
theorem dX7_matches_51 : decode cX7_matches 51 = .ok (.iconst 0, 1) := by decide +kernel
theorem dX7_matches_52 : decode cX7_matches 52 = .ok (.ireturn, 1) := by decide +kernel
theorem dX7_looksLike_0 : decode cX7_looksLike 0 = .ok (.aload_n 0, 1) := by decide +kernel
theorem dX7_looksLike_1 : decode cX7_looksLike 1 = .ok (.getfield 10, 3) := by decide +kernel
theorem dX7_looksLike_4 : decode cX7_looksLike 4 = .ok (.invokevirtual 16, 3) := by decide +kernel
theorem dX7_looksLike_7 : decode cX7_looksLike 7 = .ok (.aload_n 1, 1) := by decide +kernel
theorem dX7_looksLike_8 : decode cX7_looksLike 8 = .ok (.getfield 10, 3) := by decide +kernel
theorem dX7_looksLike_11 : decode cX7_looksLike 11 = .ok (.invokevirtual 16, 3) := by decide +kernel
theorem dX7_looksLike_14 : decode cX7_looksLike 14 = .ok (.if_icmp .eq 5, 3) := by decide +kernel
theorem dX7_looksLike_17 : decode cX7_looksLike 17 = .ok (.iconst 0, 1) := by decide +kernel
theorem dX7_looksLike_18 : decode cX7_looksLike 18 = .ok (.ireturn, 1) := by decide +kernel
theorem dX7_looksLike_19 : decode cX7_looksLike 19 = .ok (.iconst 0, 1) := by decide +kernel
theorem dX7_looksLike_20 : decode cX7_looksLike 20 = .ok (.istore_n 2, 1) := by decide +kernel
theorem dX7_looksLike_21 : decode cX7_looksLike 21 = .ok (.iload_n 2, 1) := by decide +kernel
theorem dX7_looksLike_22 : decode cX7_looksLike 22 = .ok (.aload_n 0, 1) := by decide +kernel
theorem dX7_looksLike_23 : decode cX7_looksLike 23 = .ok (.getfield 10, 3) := by decide +kernel
theorem dX7_looksLike_26 : decode cX7_looksLike 26 = .ok (.invokevirtual 16, 3) := by decide +kernel
theorem dX7_looksLike_29 : decode cX7_looksLike 29 = .ok (.if_icmp .ge 21, 3) := by decide +kernel
theorem dX7_looksLike_32 : decode cX7_looksLike 32 = .ok (.aload_n 0, 1) := by decide +kernel
theorem dX7_looksLike_33 : decode cX7_looksLike 33 = .ok (.iload_n 2, 1) := by decide +kernel
theorem dX7_looksLike_34 : decode cX7_looksLike 34 = .ok (.aload_n 1, 1) := by decide +kernel
theorem dX7_looksLike_35 : decode cX7_looksLike 35 = .ok (.iload_n 2, 1) := by decide +kernel
theorem dX7_looksLike_36 : decode cX7_looksLike 36 = .ok (.invokevirtual 64, 3) := by decide +kernel
theorem dX7_looksLike_39 : decode cX7_looksLike 39 = .ok (.ifCond .ne 5, 3) := by decide +kernel
theorem dX7_looksLike_42 : decode cX7_looksLike 42 = .ok (.iconst 0, 1) := by decide +kernel
theorem dX7_looksLike_43 : decode cX7_looksLike 43 = .ok (.ireturn, 1) := by decide +kernel
theorem dX7_looksLike_44 : decode cX7_looksLike 44 = .ok (.iinc 2 1, 3) := by decide +kernel
theorem dX7_looksLike_47 : decode cX7_looksLike 47 = .ok (.goto (-26), 3) := by decide +kernel
theorem dX7_looksLike_50 : decode cX7_looksLike 50 = .ok (.iconst 1, 1) := by decide +kernel
theorem dX7_looksLike_51 : decode cX7_looksLike 51 = .ok (.ireturn, 1) := by decide +kernel
theorem dX7_number_0 : decode cX7_number 0 = .ok (.ldc2_w 68, 3) := by decide +kernel
theorem dX7_number_3 : decode cX7_number 3 = .ok (.lstore_n 1, 1) := by decide +kernel
theorem dX7_number_4 : decode cX7_number 4 = .ok (.iconst 0, 1) := by decide +kernel
theorem dX7_number_5 : decode cX7_number 5 = .ok (.istore_n 3, 1) := by decide +kernel
theorem dX7_number_6 : decode cX7_number 6 = .ok (.iload_n 3, 1) := by decide +kernel
theorem dX7_number_7 : decode cX7_number 7 = .ok (.aload_n 0, 1) := by decide +kernel
theorem dX7_number_8 : decode cX7_number 8 = .ok (.getfield 10, 3) := by decide +kernel
theorem dX7_number_11 : decode cX7_number 11 = .ok (.invokevirtual 16, 3) := by decide +kernel
theorem dX7_number_14 : decode cX7_number 14 = .ok (.if_icmp .ge 31, 3) := by decide +kernel
theorem dX7_number_17 : decode cX7_number 17 = .ok (.lload_n 1, 1) := by decide +kernel
theorem dX7_number_18 : decode cX7_number 18 = .ok (.ldc2_w 70, 3) := by decide +kernel
theorem dX7_number_21 : decode cX7_number 21 = .ok (.lmul, 1) := by decide +kernel
theorem dX7_number_22 : decode cX7_number 22 = .ok (.aload_n 0, 1) := by decide +kernel
theorem dX7_number_23 : decode cX7_number 23 = .ok (.getfield 10, 3) := by decide +kernel
theorem dX7_number_26 : decode cX7_number 26 = .ok (.iload_n 3, 1) := by decide +kernel
theorem dX7_number_27 : decode cX7_number 27 = .ok (.invokevirtual 49, 3) := by decide +kernel
theorem dX7_number_30 : decode cX7_number 30 = .ok (.checkcast 56, 3) := by decide +kernel
theorem dX7_number_33 : decode cX7_number 33 = .ok (.getfield 61, 3) := by decide +kernel
theorem dX7_number_36 : decode cX7_number 36 = .ok (.i2l, 1) := by decide +kernel
theorem dX7_number_37 : decode cX7_number 37 = .ok (.ladd, 1) := by decide +kernel
theorem dX7_number_38 : decode cX7_number 38 = .ok (.lstore_n 1, 1) := by decide +kernel
theorem dX7_number_39 : decode cX7_number 39 = .ok (.iinc 3 1, 3) := by decide +kernel
theorem dX7_number_42 : decode cX7_number 42 = .ok (.goto (-36), 3) := by decide +kernel
theorem dX7_number_45 : decode cX7_number 45 = .ok (.lload_n 1, 1) := by decide +kernel
theorem dX7_number_46 : decode cX7_number 46 = .ok (.lreturn, 1) := by decide +kernel
theorem dX8_init_0 : decode cX8_init 0 = .ok (.aload_n 0, 1) := by decide +kernel
theorem dX8_init_1 : decode cX8_init 1 = .ok (.invokespecial 1, 3) := by decide +kernel
theorem dX8_init_4 : decode cX8_init 4 = .ok (.aload_n 0, 1) := by decide +kernel
theorem dX8_init_5 : decode cX8_init 5 = .ok (.new 7, 3) := by decide +kernel
theorem dX8_init_8 : decode cX8_init 8 = .ok (.dup, 1) := by decide +kernel
theorem dX8_init_9 : decode cX8_init 9 = .ok (.iconst 0, 1) := by decide +kernel
theorem dX8_init_10 : decode cX8_init 10 = .ok (.invokespecial 9, 3) := by decide +kernel
theorem dX8_init_13 : decode cX8_init 13 = .ok (.putfield 12, 3) := by decide +kernel
theorem dX8_init_16 : decode cX8_init 16 = .ok (.aload_n 0, 1) := by decide +kernel
theorem dX8_init_17 : decode cX8_init 17 = .ok (.new 7, 3) := by decide +kernel
theorem dX8_init_20 : decode cX8_init 20 = .ok (.dup, 1) := by decide +kernel
theorem dX8_init_21 : decode cX8_init 21 = .ok (.iconst 1, 1) := by decide +kernel
theorem dX8_init_22 : decode cX8_init 22 = .ok (.invokespecial 9, 3) := by decide +kernel
theorem dX8_init_25 : decode cX8_init 25 = .ok (.putfield 18, 3) := by decide +kernel
theorem dX8_init_28 : decode cX8_init 28 = .ok (.aload_n 0, 1) := by decide +kernel
theorem dX8_init_29 : decode cX8_init 29 = .ok (.new 21, 3) := by decide +kernel
theorem dX8_init_32 : decode cX8_init 32 = .ok (.dup, 1) := by decide +kernel
theorem dX8_init_33 : decode cX8_init 33 = .ok (.invokespecial 23, 3) := by decide +kernel
theorem dX8_init_36 : decode cX8_init 36 = .ok (.putfield 24, 3) := by decide +kernel
theorem dX8_init_39 : decode cX8_init 39 = .ok (.aload_n 0, 1) := by decide +kernel
theorem dX8_init_40 : decode cX8_init 40 = .ok (.new 28, 3) := by decide +kernel
theorem dX8_init_43 : decode cX8_init 43 = .ok (.dup, 1) := by decide +kernel
theorem dX8_init_44 : decode cX8_init 44 = .ok (.invokespecial 30, 3) := by decide +kernel
theorem dX8_init_47 : decode cX8_init 47 = .ok (.putfield 31, 3) := by decide +kernel
theorem dX8_init_50 : decode cX8_init 50 = .ok (.aload_n 0, 1) := by decide +kernel
theorem dX8_init_51 : decode cX8_init 51 = .ok (.new 35, 3) := by decide +kernel
theorem dX8_init_54 : decode cX8_init 54 = .ok (.dup, 1) := by decide +kernel
theorem dX8_init_55 : decode cX8_init 55 = .ok (.invokespecial 37, 3) := by decide +kernel
theorem dX8_init_58 : decode cX8_init 58 = .ok (.putfield 38, 3) := by decide +kernel
theorem dX8_init_61 : decode cX8_init 61 = .ok (.aload_n 0, 1) := by decide +kernel
theorem dX8_init_62 : decode cX8_init 62 = .ok (.iconst 0, 1) := by decide +kernel
theorem dX8_init_63 : decode cX8_init 63 = .ok (.putfield 42, 3) := by decide +kernel
theorem dX8_init_66 : decode cX8_init 66 = .ok (.return_, 1) := by decide +kernel
theorem dX8_insert_0 : decode cX8_insert 0 = .ok (.aload_n 0, 1) := by decide +kernel
theorem dX8_insert_1 : decode cX8_insert 1 = .ok (.iload_n 1, 1) := by decide +kernel
theorem dX8_insert_2 : decode cX8_insert 2 = .ok (.invokevirtual 46, 3) := by decide +kernel
theorem dX8_insert_5 : decode cX8_insert 5 = .ok (.astore 4, 2) := by decide +kernel
theorem dX8_insert_7 : decode cX8_insert 7 = .ok (.aload 4, 2) := by decide +kernel
theorem dX8_insert_9 : decode cX8_insert 9 = .ok (.getfield 50, 3) := by decide +kernel
theorem dX8_insert_12 : decode cX8_insert 12 = .ok (.iload_n 2, 1) := by decide +kernel
theorem dX8_insert_13 : decode cX8_insert 13 = .ok (.invokevirtual 53, 3) := by decide +kernel
theorem dX8_insert_16 : decode cX8_insert 16 = .ok (.ifCond .ne 13, 3) := by decide +kernel
theorem dX8_insert_19 : decode cX8_insert 19 = .ok (.new 57, 3) := by decide +kernel
theorem dX8_insert_22 : decode cX8_insert 22 = .ok (.dup, 1) := by decide +kernel
theorem dX8_insert_23 : decode cX8_insert 23 = .ok (.ldc 59, 2) := by decide +kernel
theorem dX8_insert_25 : decode cX8_insert 25 = .ok (.invokespecial 61, 3) := by decide +kernel
theorem dX8_insert_28 : decode cX8_insert 28 = .ok (.athrow, 1) := by decide +kernel
theorem dX8_insert_29 : decode cX8_insert 29 = .ok (.iload_n 3, 1) := by decide +kernel
theorem dX8_insert_30 : decode cX8_insert 30 = .ok (.invokestatic 64, 3) := by decide +kernel
theorem dX8_insert_33 : decode cX8_insert 33 = .ok (.aload_n 0, 1) := by decide +kernel
theorem dX8_insert_34 : decode cX8_insert 34 = .ok (.aload 4, 2) := by decide +kernel
theorem dX8_insert_36 : decode cX8_insert 36 = .ok (.invokevirtual 68, 3) := by decide +kernel
theorem dX8_insert_39 : decode cX8_insert 39 = .ok (.aload_n 0, 1) := by decide +kernel
theorem dX8_insert_40 : decode cX8_insert 40 = .ok (.aload 4, 2) := by decide +kernel
theorem dX8_insert_42 : decode cX8_insert 42 = .ok (.iload_n 2, 1) := by decide +kernel
theorem dX8_insert_43 : decode cX8_insert 43 = .ok (.iload_n 3, 1) := by decide +kernel
theorem dX8_insert_44 : decode cX8_insert 44 = .ok (.invokevirtual 72, 3) := by decide +kernel
theorem dX8_insert_47 : decode cX8_insert 47 = .ok (.aload 4, 2) := by decide +kernel
theorem dX8_insert_49 : decode cX8_insert 49 = .ok (.getfield 50, 3) := by decide +kernel
theorem dX8_insert_52 : decode cX8_insert 52 = .ok (.invokevirtual 76, 3) := by decide +kernel
theorem dX8_insert_55 : decode cX8_insert 55 = .ok (.ireturn, 1) := by decide +kernel
theorem dX8_delete_0 : decode cX8_delete 0 = .ok (.aload_n 0, 1) := by decide +kernel
theorem dX8_delete_1 : decode cX8_delete 1 = .ok (.iload_n 1, 1) := by decide +kernel
theorem dX8_delete_2 : decode cX8_delete 2 = .ok (.invokevirtual 46, 3) := by decide +kernel
theorem dX8_delete_5 : decode cX8_delete 5 = .ok (.astore_n 3, 1) := by decide +kernel
theorem dX8_delete_6 : decode cX8_delete 6 = .ok (.aload_n 3, 1) := by decide +kernel
theorem dX8_delete_7 : decode cX8_delete 7 = .ok (.getfield 50, 3) := by decide +kernel
theorem dX8_delete_10 : decode cX8_delete 10 = .ok (.iload_n 2, 1) := by decide +kernel
theorem dX8_delete_11 : decode cX8_delete 11 = .ok (.invokevirtual 80, 3) := by decide +kernel
theorem dX8_delete_14 : decode cX8_delete 14 = .ok (.ifCond .ne 13, 3) := by decide +kernel
theorem dX8_delete_17 : decode cX8_delete 17 = .ok (.new 57, 3) := by decide +kernel
theorem dX8_delete_20 : decode cX8_delete 20 = .ok (.dup, 1) := by decide +kernel
theorem dX8_delete_21 : decode cX8_delete 21 = .ok (.ldc 59, 2) := by decide +kernel
theorem dX8_delete_23 : decode cX8_delete 23 = .ok (.invokespecial 61, 3) := by decide +kernel
theorem dX8_delete_26 : decode cX8_delete 26 = .ok (.athrow, 1) := by decide +kernel
theorem dX8_delete_27 : decode cX8_delete 27 = .ok (.aload_n 0, 1) := by decide +kernel
theorem dX8_delete_28 : decode cX8_delete 28 = .ok (.invokevirtual 83, 3) := by decide +kernel
theorem dX8_delete_31 : decode cX8_delete 31 = .ok (.aload_n 0, 1) := by decide +kernel
theorem dX8_delete_32 : decode cX8_delete 32 = .ok (.aload_n 3, 1) := by decide +kernel
theorem dX8_delete_33 : decode cX8_delete 33 = .ok (.iload_n 2, 1) := by decide +kernel
theorem dX8_delete_34 : decode cX8_delete 34 = .ok (.invokevirtual 86, 3) := by decide +kernel
theorem dX8_delete_37 : decode cX8_delete 37 = .ok (.ireturn, 1) := by decide +kernel
theorem dX8_type_0 : decode cX8_type 0 = .ok (.aload_n 0, 1) := by decide +kernel
theorem dX8_type_1 : decode cX8_type 1 = .ok (.iload_n 1, 1) := by decide +kernel
theorem dX8_type_2 : decode cX8_type 2 = .ok (.invokevirtual 46, 3) := by decide +kernel
theorem dX8_type_5 : decode cX8_type 5 = .ok (.astore_n 3, 1) := by decide +kernel
theorem dX8_type_6 : decode cX8_type 6 = .ok (.iload_n 2, 1) := by decide +kernel
theorem dX8_type_7 : decode cX8_type 7 = .ok (.invokestatic 64, 3) := by decide +kernel
theorem dX8_type_10 : decode cX8_type 10 = .ok (.aload_n 0, 1) := by decide +kernel
theorem dX8_type_11 : decode cX8_type 11 = .ok (.aload_n 3, 1) := by decide +kernel
theorem dX8_type_12 : decode cX8_type 12 = .ok (.invokevirtual 68, 3) := by decide +kernel
theorem dX8_type_15 : decode cX8_type 15 = .ok (.aload_n 0, 1) := by decide +kernel
theorem dX8_type_16 : decode cX8_type 16 = .ok (.aload_n 3, 1) := by decide +kernel
theorem dX8_type_17 : decode cX8_type 17 = .ok (.aload_n 3, 1) := by decide +kernel
theorem dX8_type_18 : decode cX8_type 18 = .ok (.getfield 90, 3) := by decide +kernel
theorem dX8_type_21 : decode cX8_type 21 = .ok (.iload_n 2, 1) := by decide +kernel
theorem dX8_type_22 : decode cX8_type 22 = .ok (.invokevirtual 72, 3) := by decide +kernel
theorem dX8_type_25 : decode cX8_type 25 = .ok (.aload_n 3, 1) := by decide +kernel
theorem dX8_type_26 : decode cX8_type 26 = .ok (.getfield 90, 3) := by decide +kernel
theorem dX8_type_29 : decode cX8_type 29 = .ok (.ireturn, 1) := by decide +kernel
theorem dX8_erase_0 : decode cX8_erase 0 = .ok (.aload_n 0, 1) := by decide +kernel
theorem dX8_erase_1 : decode cX8_erase 1 = .ok (.iload_n 1, 1) := by decide +kernel
theorem dX8_erase_2 : decode cX8_erase 2 = .ok (.invokevirtual 46, 3) := by decide +kernel
theorem dX8_erase_5 : decode cX8_erase 5 = .ok (.astore_n 2, 1) := by decide +kernel
theorem dX8_erase_6 : decode cX8_erase 6 = .ok (.aload_n 2, 1) := by decide +kernel
theorem dX8_erase_7 : decode cX8_erase 7 = .ok (.getfield 90, 3) := by decide +kernel
theorem dX8_erase_10 : decode cX8_erase 10 = .ok (.iconst 1, 1) := by decide +kernel
theorem dX8_erase_11 : decode cX8_erase 11 = .ok (.isub, 1) := by decide +kernel
theorem dX8_erase_12 : decode cX8_erase 12 = .ok (.istore_n 3, 1) := by decide +kernel
theorem dX8_erase_13 : decode cX8_erase 13 = .ok (.aload_n 2, 1) := by decide +kernel
theorem dX8_erase_14 : decode cX8_erase 14 = .ok (.getfield 50, 3) := by decide +kernel
theorem dX8_erase_17 : decode cX8_erase 17 = .ok (.iload_n 3, 1) := by decide +kernel
theorem dX8_erase_18 : decode cX8_erase 18 = .ok (.invokevirtual 80, 3) := by decide +kernel
theorem dX8_erase_21 : decode cX8_erase 21 = .ok (.ifCond .ne 13, 3) := by decide +kernel
theorem dX8_erase_24 : decode cX8_erase 24 = .ok (.new 93, 3) := by decide +kernel
theorem dX8_erase_27 : decode cX8_erase 27 = .ok (.dup, 1) := by decide +kernel
theorem dX8_erase_28 : decode cX8_erase 28 = .ok (.ldc 95, 2) := by decide +kernel
theorem dX8_erase_30 : decode cX8_erase 30 = .ok (.invokespecial 97, 3) := by decide +kernel
theorem dX8_erase_33 : decode cX8_erase 33 = .ok (.athrow, 1) := by decide +kernel
theorem dX8_erase_34 : decode cX8_erase 34 = .ok (.aload_n 0, 1) := by decide +kernel
theorem dX8_erase_35 : decode cX8_erase 35 = .ok (.invokevirtual 83, 3) := by decide +kernel
theorem dX8_erase_38 : decode cX8_erase 38 = .ok (.aload_n 0, 1) := by decide +kernel
theorem dX8_erase_39 : decode cX8_erase 39 = .ok (.aload_n 2, 1) := by decide +kernel
theorem dX8_erase_40 : decode cX8_erase 40 = .ok (.iload_n 3, 1) := by decide +kernel
theorem dX8_erase_41 : decode cX8_erase 41 = .ok (.invokevirtual 86, 3) := by decide +kernel
theorem dX8_erase_44 : decode cX8_erase 44 = .ok (.ireturn, 1) := by decide +kernel
theorem dX8_moveCursor_0 : decode cX8_moveCursor 0 = .ok (.aload_n 0, 1) := by decide +kernel
theorem dX8_moveCursor_1 : decode cX8_moveCursor 1 = .ok (.iload_n 1, 1) := by decide +kernel
theorem dX8_moveCursor_2 : decode cX8_moveCursor 2 = .ok (.invokevirtual 46, 3) := by decide +kernel
theorem dX8_moveCursor_5 : decode cX8_moveCursor 5 = .ok (.astore_n 3, 1) := by decide +kernel
theorem dX8_moveCursor_6 : decode cX8_moveCursor 6 = .ok (.aload_n 3, 1) := by decide +kernel
theorem dX8_moveCursor_7 : decode cX8_moveCursor 7 = .ok (.getfield 50, 3) := by decide +kernel
theorem dX8_moveCursor_10 : decode cX8_moveCursor 10 = .ok (.iload_n 2, 1) := by decide +kernel
theorem dX8_moveCursor_11 : decode cX8_moveCursor 11 = .ok (.invokevirtual 53, 3) := by decide +kernel
theorem dX8_moveCursor_14 : decode cX8_moveCursor 14 = .ok (.ifCond .ne 13, 3) := by decide +kernel
theorem dX8_moveCursor_17 : decode cX8_moveCursor 17 = .ok (.new 57, 3) := by decide +kernel
theorem dX8_moveCursor_20 : decode cX8_moveCursor 20 = .ok (.dup, 1) := by decide +kernel
theorem dX8_moveCursor_21 : decode cX8_moveCursor 21 = .ok (.ldc 59, 2) := by decide +kernel
theorem dX8_moveCursor_23 : decode cX8_moveCursor 23 = .ok (.invokespecial 61, 3) := by decide +kernel
theorem dX8_moveCursor_26 : decode cX8_moveCursor 26 = .ok (.athrow, 1) := by decide +kernel
theorem dX8_moveCursor_27 : decode cX8_moveCursor 27 = .ok (.aload_n 3, 1) := by decide +kernel
theorem dX8_moveCursor_28 : decode cX8_moveCursor 28 = .ok (.getfield 90, 3) := by decide +kernel
theorem dX8_moveCursor_31 : decode cX8_moveCursor 31 = .ok (.istore 4, 2) := by decide +kernel
theorem dX8_moveCursor_33 : decode cX8_moveCursor 33 = .ok (.aload_n 3, 1) := by decide +kernel
theorem dX8_moveCursor_34 : decode cX8_moveCursor 34 = .ok (.iload_n 2, 1) := by decide +kernel
theorem dX8_moveCursor_35 : decode cX8_moveCursor 35 = .ok (.putfield 90, 3) := by decide +kernel
theorem dX8_moveCursor_38 : decode cX8_moveCursor 38 = .ok (.iload 4, 2) := by decide +kernel
theorem dX8_moveCursor_40 : decode cX8_moveCursor 40 = .ok (.ireturn, 1) := by decide +kernel
theorem dX8_undo_0 : decode cX8_undo 0 = .ok (.aload_n 0, 1) := by decide +kernel
theorem dX8_undo_1 : decode cX8_undo 1 = .ok (.iload_n 1, 1) := by decide +kernel
theorem dX8_undo_2 : decode cX8_undo 2 = .ok (.invokevirtual 46, 3) := by decide +kernel
theorem dX8_undo_5 : decode cX8_undo 5 = .ok (.astore_n 2, 1) := by decide +kernel
theorem dX8_undo_6 : decode cX8_undo 6 = .ok (.aload_n 2, 1) := by decide +kernel
theorem dX8_undo_7 : decode cX8_undo 7 = .ok (.getfield 98, 3) := by decide +kernel
theorem dX8_undo_10 : decode cX8_undo 10 = .ok (.invokevirtual 102, 3) := by decide +kernel
theorem dX8_undo_13 : decode cX8_undo 13 = .ok (.iconst 1, 1) := by decide +kernel
theorem dX8_undo_14 : decode cX8_undo 14 = .ok (.isub, 1) := by decide +kernel
theorem dX8_undo_15 : decode cX8_undo 15 = .ok (.istore_n 3, 1) := by decide +kernel
theorem dX8_undo_16 : decode cX8_undo 16 = .ok (.iload_n 3, 1) := by decide +kernel
theorem dX8_undo_17 : decode cX8_undo 17 = .ok (.ifCond .ge 13, 3) := by decide +kernel
theorem dX8_undo_20 : decode cX8_undo 20 = .ok (.new 93, 3) := by decide +kernel
theorem dX8_undo_23 : decode cX8_undo 23 = .ok (.dup, 1) := by decide +kernel
theorem dX8_undo_24 : decode cX8_undo 24 = .ok (.ldc 105, 2) := by decide +kernel
theorem dX8_undo_26 : decode cX8_undo 26 = .ok (.invokespecial 97, 3) := by decide +kernel
theorem dX8_undo_29 : decode cX8_undo 29 = .ok (.athrow, 1) := by decide +kernel
theorem dX8_undo_30 : decode cX8_undo 30 = .ok (.aload_n 2, 1) := by decide +kernel
theorem dX8_undo_31 : decode cX8_undo 31 = .ok (.getfield 98, 3) := by decide +kernel
theorem dX8_undo_34 : decode cX8_undo 34 = .ok (.iload_n 3, 1) := by decide +kernel
theorem dX8_undo_35 : decode cX8_undo 35 = .ok (.invokevirtual 107, 3) := by decide +kernel
theorem dX8_undo_38 : decode cX8_undo 38 = .ok (.checkcast 111, 3) := by decide +kernel
theorem dX8_undo_41 : decode cX8_undo 41 = .ok (.astore 4, 2) := by decide +kernel
theorem dX8_undo_43 : decode cX8_undo 43 = .ok (.aload 4, 2) := by decide +kernel
theorem dX8_undo_45 : decode cX8_undo 45 = .ok (.getfield 113, 3) := by decide +kernel
theorem dX8_undo_48 : decode cX8_undo 48 = .ok (.ifCond .eq 17, 3) := by decide +kernel
theorem dX8_undo_51 : decode cX8_undo 51 = .ok (.aload_n 0, 1) := by decide +kernel
theorem dX8_undo_52 : decode cX8_undo 52 = .ok (.aload_n 2, 1) := by decide +kernel
theorem dX8_undo_53 : decode cX8_undo 53 = .ok (.iload_n 3, 1) := by decide +kernel
theorem dX8_undo_54 : decode cX8_undo 54 = .ok (.aload 4, 2) := by decide +kernel
theorem dX8_undo_56 : decode cX8_undo 56 = .ok (.getfield 117, 3) := by decide +kernel
theorem dX8_undo_59 : decode cX8_undo 59 = .ok (.invokevirtual 121, 3) := by decide +kernel
theorem dX8_undo_62 : decode cX8_undo 62 = .ok (.goto 11, 3) := by decide +kernel
theorem dX8_undo_65 : decode cX8_undo 65 = .ok (.aload_n 0, 1) := by decide +kernel
theorem dX8_undo_66 : decode cX8_undo 66 = .ok (.aload_n 2, 1) := by decide +kernel
theorem dX8_undo_67 : decode cX8_undo 67 = .ok (.iload_n 3, 1) := by decide +kernel
theorem dX8_undo_68 : decode cX8_undo 68 = .ok (.aload 4, 2) := by decide +kernel
theorem dX8_undo_70 : decode cX8_undo 70 = .ok (.invokevirtual 125, 3) := by decide +kernel
theorem dX8_undo_73 : decode cX8_undo 73 = .ok (.ireturn, 1) := by decide +kernel
theorem dX8_deliverUp_0 : decode cX8_deliverUp 0 = .ok (.aload_n 0, 1) := by decide +kernel
theorem dX8_deliverUp_1 : decode cX8_deliverUp 1 = .ok (.iload_n 1, 1) := by decide +kernel
theorem dX8_deliverUp_2 : decode cX8_deliverUp 2 = .ok (.invokevirtual 46, 3) := by decide +kernel
theorem dX8_deliverUp_5 : decode cX8_deliverUp 5 = .ok (.astore_n 2, 1) := by decide +kernel
theorem dX8_deliverUp_6 : decode cX8_deliverUp 6 = .ok (.aload_n 2, 1) := by decide +kernel
theorem dX8_deliverUp_7 : decode cX8_deliverUp 7 = .ok (.getfield 129, 3) := by decide +kernel
theorem dX8_deliverUp_10 : decode cX8_deliverUp 10 = .ok (.invokevirtual 132, 3) := by decide +kernel
theorem dX8_deliverUp_13 : decode cX8_deliverUp 13 = .ok (.ifCond .eq 13, 3) := by decide +kernel
theorem dX8_deliverUp_16 : decode cX8_deliverUp 16 = .ok (.new 93, 3) := by decide +kernel
theorem dX8_deliverUp_19 : decode cX8_deliverUp 19 = .ok (.dup, 1) := by decide +kernel
theorem dX8_deliverUp_20 : decode cX8_deliverUp 20 = .ok (.ldc 136, 2) := by decide +kernel
theorem dX8_deliverUp_22 : decode cX8_deliverUp 22 = .ok (.invokespecial 97, 3) := by decide +kernel
theorem dX8_deliverUp_25 : decode cX8_deliverUp 25 = .ok (.athrow, 1) := by decide +kernel
theorem dX8_deliverUp_26 : decode cX8_deliverUp 26 = .ok (.aload_n 2, 1) := by decide +kernel
theorem dX8_deliverUp_27 : decode cX8_deliverUp 27 = .ok (.getfield 129, 3) := by decide +kernel
theorem dX8_deliverUp_30 : decode cX8_deliverUp 30 = .ok (.iconst 0, 1) := by decide +kernel
theorem dX8_deliverUp_31 : decode cX8_deliverUp 31 = .ok (.invokevirtual 138, 3) := by decide +kernel
theorem dX8_deliverUp_34 : decode cX8_deliverUp 34 = .ok (.checkcast 141, 3) := by decide +kernel
theorem dX8_deliverUp_37 : decode cX8_deliverUp 37 = .ok (.astore_n 3, 1) := by decide +kernel
theorem dX8_deliverUp_38 : decode cX8_deliverUp 38 = .ok (.aload_n 0, 1) := by decide +kernel
theorem dX8_deliverUp_39 : decode cX8_deliverUp 39 = .ok (.getfield 24, 3) := by decide +kernel
theorem dX8_deliverUp_42 : decode cX8_deliverUp 42 = .ok (.aload_n 3, 1) := by decide +kernel
theorem dX8_deliverUp_43 : decode cX8_deliverUp 43 = .ok (.invokevirtual 143, 3) := by decide +kernel
theorem dX8_deliverUp_46 : decode cX8_deliverUp 46 = .ok (.aload_n 0, 1) := by decide +kernel
theorem dX8_deliverUp_47 : decode cX8_deliverUp 47 = .ok (.getfield 12, 3) := by decide +kernel
theorem dX8_deliverUp_50 : decode cX8_deliverUp 50 = .ok (.getfield 147, 3) := by decide +kernel
theorem dX8_deliverUp_53 : decode cX8_deliverUp 53 = .ok (.aload_n 3, 1) := by decide +kernel
theorem dX8_deliverUp_54 : decode cX8_deliverUp 54 = .ok (.invokevirtual 150, 3) := by decide +kernel
theorem dX8_deliverUp_57 : decode cX8_deliverUp 57 = .ok (.pop, 1) := by decide +kernel
theorem dX8_deliverUp_58 : decode cX8_deliverUp 58 = .ok (.aload_n 0, 1) := by decide +kernel
theorem dX8_deliverUp_59 : decode cX8_deliverUp 59 = .ok (.getfield 18, 3) := by decide +kernel
theorem dX8_deliverUp_62 : decode cX8_deliverUp 62 = .ok (.getfield 147, 3) := by decide +kernel
theorem dX8_deliverUp_65 : decode cX8_deliverUp 65 = .ok (.aload_n 3, 1) := by decide +kernel
theorem dX8_deliverUp_66 : decode cX8_deliverUp 66 = .ok (.invokevirtual 150, 3) := by decide +kernel
theorem dX8_deliverUp_69 : decode cX8_deliverUp 69 = .ok (.pop, 1) := by decide +kernel
theorem dX8_deliverUp_70 : decode cX8_deliverUp 70 = .ok (.aload_n 3, 1) := by decide +kernel
theorem dX8_deliverUp_71 : decode cX8_deliverUp 71 = .ok (.getfield 154, 3) := by decide +kernel
theorem dX8_deliverUp_74 : decode cX8_deliverUp 74 = .ok (.invokevirtual 102, 3) := by decide +kernel
theorem dX8_deliverUp_77 : decode cX8_deliverUp 77 = .ok (.ireturn, 1) := by decide +kernel
theorem dX8_deliverDown_0 : decode cX8_deliverDown 0 = .ok (.aload_n 0, 1) := by decide +kernel
theorem dX8_deliverDown_1 : decode cX8_deliverDown 1 = .ok (.iload_n 1, 1) := by decide +kernel
theorem dX8_deliverDown_2 : decode cX8_deliverDown 2 = .ok (.invokevirtual 46, 3) := by decide +kernel
theorem dX8_deliverDown_5 : decode cX8_deliverDown 5 = .ok (.astore_n 2, 1) := by decide +kernel
theorem dX8_deliverDown_6 : decode cX8_deliverDown 6 = .ok (.aload_n 2, 1) := by decide +kernel
theorem dX8_deliverDown_7 : decode cX8_deliverDown 7 = .ok (.getfield 147, 3) := by decide +kernel
theorem dX8_deliverDown_10 : decode cX8_deliverDown 10 = .ok (.invokevirtual 132, 3) := by decide +kernel
theorem dX8_deliverDown_13 : decode cX8_deliverDown 13 = .ok (.ifCond .eq 13, 3) := by decide +kernel
theorem dX8_deliverDown_16 : decode cX8_deliverDown 16 = .ok (.new 93, 3) := by decide +kernel
theorem dX8_deliverDown_19 : decode cX8_deliverDown 19 = .ok (.dup, 1) := by decide +kernel
theorem dX8_deliverDown_20 : decode cX8_deliverDown 20 = .ok (.ldc 157, 2) := by decide +kernel
theorem dX8_deliverDown_22 : decode cX8_deliverDown 22 = .ok (.invokespecial 97, 3) := by decide +kernel
theorem dX8_deliverDown_25 : decode cX8_deliverDown 25 = .ok (.athrow, 1) := by decide +kernel
theorem dX8_deliverDown_26 : decode cX8_deliverDown 26 = .ok (.aload_n 2, 1) := by decide +kernel
theorem dX8_deliverDown_27 : decode cX8_deliverDown 27 = .ok (.getfield 147, 3) := by decide +kernel
theorem dX8_deliverDown_30 : decode cX8_deliverDown 30 = .ok (.iconst 0, 1) := by decide +kernel
theorem dX8_deliverDown_31 : decode cX8_deliverDown 31 = .ok (.invokevirtual 138, 3) := by decide +kernel
theorem dX8_deliverDown_34 : decode cX8_deliverDown 34 = .ok (.checkcast 141, 3) := by decide +kernel
theorem dX8_deliverDown_37 : decode cX8_deliverDown 37 = .ok (.astore_n 3, 1) := by decide +kernel
theorem dX8_deliverDown_38 : decode cX8_deliverDown 38 = .ok (.aload_n 2, 1) := by decide +kernel
theorem dX8_deliverDown_39 : decode cX8_deliverDown 39 = .ok (.aload_n 3, 1) := by decide +kernel
theorem dX8_deliverDown_40 : decode cX8_deliverDown 40 = .ok (.invokevirtual 159, 3) := by decide +kernel
theorem dX8_deliverDown_43 : decode cX8_deliverDown 43 = .ok (.aload_n 3, 1) := by decide +kernel
theorem dX8_deliverDown_44 : decode cX8_deliverDown 44 = .ok (.getfield 161, 3) := by decide +kernel
theorem dX8_deliverDown_47 : decode cX8_deliverDown 47 = .ok (.aload_n 2, 1) := by decide +kernel
theorem dX8_deliverDown_48 : decode cX8_deliverDown 48 = .ok (.getfield 164, 3) := by decide +kernel
theorem dX8_deliverDown_51 : decode cX8_deliverDown 51 = .ok (.if_icmp .ne 8, 3) := by decide +kernel
theorem dX8_deliverDown_54 : decode cX8_deliverDown 54 = .ok (.bipush 97, 2) := by decide +kernel
theorem dX8_deliverDown_56 : decode cX8_deliverDown 56 = .ok (.goto 5, 3) := by decide +kernel
theorem dX8_deliverDown_59 : decode cX8_deliverDown 59 = .ok (.bipush 111, 2) := by decide +kernel
theorem dX8_deliverDown_61 : decode cX8_deliverDown 61 = .ok (.ireturn, 1) := by decide +kernel
theorem dX8_deliverAll_0 : decode cX8_deliverAll 0 = .ok (.iconst 0, 1) := by decide +kernel
theorem dX8_deliverAll_1 : decode cX8_deliverAll 1 = .ok (.istore_n 1, 1) := by decide +kernel
theorem dX8_deliverAll_2 : decode cX8_deliverAll 2 = .ok (.iload_n 1, 1) := by decide +kernel
theorem dX8_deliverAll_3 : decode cX8_deliverAll 3 = .ok (.ldc 167, 2) := by decide +kernel
theorem dX8_deliverAll_5 : decode cX8_deliverAll 5 = .ok (.if_icmp .ge 99, 3) := by decide +kernel
theorem dX8_deliverAll_8 : decode cX8_deliverAll 8 = .ok (.aload_n 0, 1) := by decide +kernel
theorem dX8_deliverAll_9 : decode cX8_deliverAll 9 = .ok (.getfield 12, 3) := by decide +kernel
theorem dX8_deliverAll_12 : decode cX8_deliverAll 12 = .ok (.getfield 129, 3) := by decide +kernel
theorem dX8_deliverAll_15 : decode cX8_deliverAll 15 = .ok (.invokevirtual 132, 3) := by decide +kernel
theorem dX8_deliverAll_18 : decode cX8_deliverAll 18 = .ok (.ifCond .ne 12, 3) := by decide +kernel
theorem dX8_deliverAll_21 : decode cX8_deliverAll 21 = .ok (.aload_n 0, 1) := by decide +kernel
theorem dX8_deliverAll_22 : decode cX8_deliverAll 22 = .ok (.iconst 0, 1) := by decide +kernel
theorem dX8_deliverAll_23 : decode cX8_deliverAll 23 = .ok (.invokevirtual 168, 3) := by decide +kernel
theorem dX8_deliverAll_26 : decode cX8_deliverAll 26 = .ok (.pop, 1) := by decide +kernel
theorem dX8_deliverAll_27 : decode cX8_deliverAll 27 = .ok (.goto 71, 3) := by decide +kernel
theorem dX8_deliverAll_30 : decode cX8_deliverAll 30 = .ok (.aload_n 0, 1) := by decide +kernel
theorem dX8_deliverAll_31 : decode cX8_deliverAll 31 = .ok (.getfield 18, 3) := by decide +kernel
theorem dX8_deliverAll_34 : decode cX8_deliverAll 34 = .ok (.getfield 129, 3) := by decide +kernel
theorem dX8_deliverAll_37 : decode cX8_deliverAll 37 = .ok (.invokevirtual 132, 3) := by decide +kernel
theorem dX8_deliverAll_40 : decode cX8_deliverAll 40 = .ok (.ifCond .ne 12, 3) := by decide +kernel
theorem dX8_deliverAll_43 : decode cX8_deliverAll 43 = .ok (.aload_n 0, 1) := by decide +kernel
theorem dX8_deliverAll_44 : decode cX8_deliverAll 44 = .ok (.iconst 1, 1) := by decide +kernel
theorem dX8_deliverAll_45 : decode cX8_deliverAll 45 = .ok (.invokevirtual 168, 3) := by decide +kernel
theorem dX8_deliverAll_48 : decode cX8_deliverAll 48 = .ok (.pop, 1) := by decide +kernel
theorem dX8_deliverAll_49 : decode cX8_deliverAll 49 = .ok (.goto 49, 3) := by decide +kernel
theorem dX8_deliverAll_52 : decode cX8_deliverAll 52 = .ok (.aload_n 0, 1) := by decide +kernel
theorem dX8_deliverAll_53 : decode cX8_deliverAll 53 = .ok (.getfield 12, 3) := by decide +kernel
theorem dX8_deliverAll_56 : decode cX8_deliverAll 56 = .ok (.getfield 147, 3) := by decide +kernel
theorem dX8_deliverAll_59 : decode cX8_deliverAll 59 = .ok (.invokevirtual 132, 3) := by decide +kernel
theorem dX8_deliverAll_62 : decode cX8_deliverAll 62 = .ok (.ifCond .ne 12, 3) := by decide +kernel
theorem dX8_deliverAll_65 : decode cX8_deliverAll 65 = .ok (.aload_n 0, 1) := by decide +kernel
theorem dX8_deliverAll_66 : decode cX8_deliverAll 66 = .ok (.iconst 0, 1) := by decide +kernel
theorem dX8_deliverAll_67 : decode cX8_deliverAll 67 = .ok (.invokevirtual 172, 3) := by decide +kernel
theorem dX8_deliverAll_70 : decode cX8_deliverAll 70 = .ok (.pop, 1) := by decide +kernel
theorem dX8_deliverAll_71 : decode cX8_deliverAll 71 = .ok (.goto 27, 3) := by decide +kernel
theorem dX8_deliverAll_74 : decode cX8_deliverAll 74 = .ok (.aload_n 0, 1) := by decide +kernel
theorem dX8_deliverAll_75 : decode cX8_deliverAll 75 = .ok (.getfield 18, 3) := by decide +kernel
theorem dX8_deliverAll_78 : decode cX8_deliverAll 78 = .ok (.getfield 147, 3) := by decide +kernel
theorem dX8_deliverAll_81 : decode cX8_deliverAll 81 = .ok (.invokevirtual 132, 3) := by decide +kernel
theorem dX8_deliverAll_84 : decode cX8_deliverAll 84 = .ok (.ifCond .ne 12, 3) := by decide +kernel
theorem dX8_deliverAll_87 : decode cX8_deliverAll 87 = .ok (.aload_n 0, 1) := by decide +kernel
theorem dX8_deliverAll_88 : decode cX8_deliverAll 88 = .ok (.iconst 1, 1) := by decide +kernel
theorem dX8_deliverAll_89 : decode cX8_deliverAll 89 = .ok (.invokevirtual 172, 3) := by decide +kernel
theorem dX8_deliverAll_92 : decode cX8_deliverAll 92 = .ok (.pop, 1) := by decide +kernel
theorem dX8_deliverAll_93 : decode cX8_deliverAll 93 = .ok (.goto 5, 3) := by decide +kernel
theorem dX8_deliverAll_96 : decode cX8_deliverAll 96 = .ok (.iload_n 1, 1) := by decide +kernel
theorem dX8_deliverAll_97 : decode cX8_deliverAll 97 = .ok (.ireturn, 1) := by decide +kernel
theorem dX8_deliverAll_98 : decode cX8_deliverAll 98 = .ok (.iinc 1 1, 3) := by decide +kernel
theorem dX8_deliverAll_101 : decode cX8_deliverAll 101 = .ok (.goto (-99), 3) := by decide +kernel
theorem dX8_deliverAll_104 : decode cX8_deliverAll 104 = .ok (.ldc 167, 2) := by decide +kernel
theorem dX8_deliverAll_106 : decode cX8_deliverAll 106 = .ok (.ireturn, 1) := by decide +kernel
theorem dX8_length_0 : decode cX8_length 0 = .ok (.aload_n 0, 1) := by decide +kernel
theorem dX8_length_1 : decode cX8_length 1 = .ok (.iload_n 1, 1) := by decide +kernel
theorem dX8_length_2 : decode cX8_length 2 = .ok (.invokevirtual 46, 3) := by decide +kernel
theorem dX8_length_5 : decode cX8_length 5 = .ok (.getfield 50, 3) := by decide +kernel
theorem dX8_length_8 : decode cX8_length 8 = .ok (.invokevirtual 76, 3) := by decide +kernel
theorem dX8_length_11 : decode cX8_length 11 = .ok (.ireturn, 1) := by decide +kernel
theorem dX8_charAt_0 : decode cX8_charAt 0 = .ok (.aload_n 0, 1) := by decide +kernel
theorem dX8_charAt_1 : decode cX8_charAt 1 = .ok (.iload_n 1, 1) := by decide +kernel
theorem dX8_charAt_2 : decode cX8_charAt 2 = .ok (.invokevirtual 46, 3) := by decide +kernel
theorem dX8_charAt_5 : decode cX8_charAt 5 = .ok (.getfield 50, 3) := by decide +kernel
theorem dX8_charAt_8 : decode cX8_charAt 8 = .ok (.iload_n 2, 1) := by decide +kernel
theorem dX8_charAt_9 : decode cX8_charAt 9 = .ok (.invokestatic 176, 3) := by decide +kernel
theorem dX8_charAt_12 : decode cX8_charAt 12 = .ok (.getfield 180, 3) := by decide +kernel
theorem dX8_charAt_15 : decode cX8_charAt 15 = .ok (.ireturn, 1) := by decide +kernel
theorem dX8_ownerAt_0 : decode cX8_ownerAt 0 = .ok (.aload_n 0, 1) := by decide +kernel
theorem dX8_ownerAt_1 : decode cX8_ownerAt 1 = .ok (.iload_n 1, 1) := by decide +kernel
theorem dX8_ownerAt_2 : decode cX8_ownerAt 2 = .ok (.invokevirtual 46, 3) := by decide +kernel
theorem dX8_ownerAt_5 : decode cX8_ownerAt 5 = .ok (.getfield 50, 3) := by decide +kernel
theorem dX8_ownerAt_8 : decode cX8_ownerAt 8 = .ok (.iload_n 2, 1) := by decide +kernel
theorem dX8_ownerAt_9 : decode cX8_ownerAt 9 = .ok (.invokestatic 176, 3) := by decide +kernel
theorem dX8_ownerAt_12 : decode cX8_ownerAt 12 = .ok (.getfield 186, 3) := by decide +kernel
theorem dX8_ownerAt_15 : decode cX8_ownerAt 15 = .ok (.ireturn, 1) := by decide +kernel
theorem dX8_lengthByHistory_0 : decode cX8_lengthByHistory 0 = .ok (.aload_n 0, 1) := by decide +kernel
theorem dX8_lengthByHistory_1 : decode cX8_lengthByHistory 1 = .ok (.aload_n 0, 1) := by decide +kernel
theorem dX8_lengthByHistory_2 : decode cX8_lengthByHistory 2 = .ok (.iload_n 1, 1) := by decide +kernel
theorem dX8_lengthByHistory_3 : decode cX8_lengthByHistory 3 = .ok (.invokevirtual 46, 3) := by decide +kernel
theorem dX8_lengthByHistory_6 : decode cX8_lengthByHistory 6 = .ok (.invokevirtual 189, 3) := by decide +kernel
theorem dX8_lengthByHistory_9 : decode cX8_lengthByHistory 9 = .ok (.aload_n 0, 1) := by decide +kernel
theorem dX8_lengthByHistory_10 : decode cX8_lengthByHistory 10 = .ok (.getfield 31, 3) := by decide +kernel
theorem dX8_lengthByHistory_13 : decode cX8_lengthByHistory 13 = .ok (.invokevirtual 76, 3) := by decide +kernel
theorem dX8_lengthByHistory_16 : decode cX8_lengthByHistory 16 = .ok (.ireturn, 1) := by decide +kernel
theorem dX8_charByHistory_0 : decode cX8_charByHistory 0 = .ok (.aload_n 0, 1) := by decide +kernel
theorem dX8_charByHistory_1 : decode cX8_charByHistory 1 = .ok (.aload_n 0, 1) := by decide +kernel
theorem dX8_charByHistory_2 : decode cX8_charByHistory 2 = .ok (.iload_n 1, 1) := by decide +kernel
theorem dX8_charByHistory_3 : decode cX8_charByHistory 3 = .ok (.invokevirtual 46, 3) := by decide +kernel
theorem dX8_charByHistory_6 : decode cX8_charByHistory 6 = .ok (.invokevirtual 189, 3) := by decide +kernel
theorem dX8_charByHistory_9 : decode cX8_charByHistory 9 = .ok (.aload_n 0, 1) := by decide +kernel
theorem dX8_charByHistory_10 : decode cX8_charByHistory 10 = .ok (.getfield 31, 3) := by decide +kernel
theorem dX8_charByHistory_13 : decode cX8_charByHistory 13 = .ok (.iload_n 2, 1) := by decide +kernel
theorem dX8_charByHistory_14 : decode cX8_charByHistory 14 = .ok (.invokestatic 176, 3) := by decide +kernel
theorem dX8_charByHistory_17 : decode cX8_charByHistory 17 = .ok (.getfield 180, 3) := by decide +kernel
theorem dX8_charByHistory_20 : decode cX8_charByHistory 20 = .ok (.ireturn, 1) := by decide +kernel
theorem dX8_centreLength_0 : decode cX8_centreLength 0 = .ok (.aload_n 0, 1) := by decide +kernel
theorem dX8_centreLength_1 : decode cX8_centreLength 1 = .ok (.getfield 24, 3) := by decide +kernel
theorem dX8_centreLength_4 : decode cX8_centreLength 4 = .ok (.getfield 192, 3) := by decide +kernel
theorem dX8_centreLength_7 : decode cX8_centreLength 7 = .ok (.invokevirtual 76, 3) := by decide +kernel
theorem dX8_centreLength_10 : decode cX8_centreLength 10 = .ok (.ireturn, 1) := by decide +kernel
theorem dX8_centreChar_0 : decode cX8_centreChar 0 = .ok (.aload_n 0, 1) := by decide +kernel
theorem dX8_centreChar_1 : decode cX8_centreChar 1 = .ok (.getfield 24, 3) := by decide +kernel
theorem dX8_centreChar_4 : decode cX8_centreChar 4 = .ok (.getfield 192, 3) := by decide +kernel
theorem dX8_centreChar_7 : decode cX8_centreChar 7 = .ok (.iload_n 1, 1) := by decide +kernel
theorem dX8_centreChar_8 : decode cX8_centreChar 8 = .ok (.invokestatic 176, 3) := by decide +kernel
theorem dX8_centreChar_11 : decode cX8_centreChar 11 = .ok (.getfield 180, 3) := by decide +kernel
theorem dX8_centreChar_14 : decode cX8_centreChar 14 = .ok (.ireturn, 1) := by decide +kernel
theorem dX8_cursor_0 : decode cX8_cursor 0 = .ok (.aload_n 0, 1) := by decide +kernel
theorem dX8_cursor_1 : decode cX8_cursor 1 = .ok (.iload_n 1, 1) := by decide +kernel
theorem dX8_cursor_2 : decode cX8_cursor 2 = .ok (.invokevirtual 46, 3) := by decide +kernel
theorem dX8_cursor_5 : decode cX8_cursor 5 = .ok (.getfield 90, 3) := by decide +kernel
theorem dX8_cursor_8 : decode cX8_cursor 8 = .ok (.ireturn, 1) := by decide +kernel
theorem dX8_mark_0 : decode cX8_mark 0 = .ok (.aload_n 0, 1) := by decide +kernel
theorem dX8_mark_1 : decode cX8_mark 1 = .ok (.iload_n 1, 1) := by decide +kernel
theorem dX8_mark_2 : decode cX8_mark 2 = .ok (.invokevirtual 46, 3) := by decide +kernel
theorem dX8_mark_5 : decode cX8_mark 5 = .ok (.getfield 193, 3) := by decide +kernel
theorem dX8_mark_8 : decode cX8_mark 8 = .ok (.ireturn, 1) := by decide +kernel
theorem dX8_revision_0 : decode cX8_revision 0 = .ok (.aload_n 0, 1) := by decide +kernel
theorem dX8_revision_1 : decode cX8_revision 1 = .ok (.iload_n 1, 1) := by decide +kernel
theorem dX8_revision_2 : decode cX8_revision 2 = .ok (.invokevirtual 46, 3) := by decide +kernel
theorem dX8_revision_5 : decode cX8_revision 5 = .ok (.getfield 196, 3) := by decide +kernel
theorem dX8_revision_8 : decode cX8_revision 8 = .ok (.ireturn, 1) := by decide +kernel
theorem dX8_sent_0 : decode cX8_sent 0 = .ok (.aload_n 0, 1) := by decide +kernel
theorem dX8_sent_1 : decode cX8_sent 1 = .ok (.iload_n 1, 1) := by decide +kernel
theorem dX8_sent_2 : decode cX8_sent 2 = .ok (.invokevirtual 46, 3) := by decide +kernel
theorem dX8_sent_5 : decode cX8_sent 5 = .ok (.getfield 199, 3) := by decide +kernel
theorem dX8_sent_8 : decode cX8_sent 8 = .ok (.invokevirtual 102, 3) := by decide +kernel
theorem dX8_sent_11 : decode cX8_sent 11 = .ok (.ireturn, 1) := by decide +kernel
theorem dX8_waiting_0 : decode cX8_waiting 0 = .ok (.aload_n 0, 1) := by decide +kernel
theorem dX8_waiting_1 : decode cX8_waiting 1 = .ok (.iload_n 1, 1) := by decide +kernel
theorem dX8_waiting_2 : decode cX8_waiting 2 = .ok (.invokevirtual 46, 3) := by decide +kernel
theorem dX8_waiting_5 : decode cX8_waiting 5 = .ok (.getfield 202, 3) := by decide +kernel
theorem dX8_waiting_8 : decode cX8_waiting 8 = .ok (.invokevirtual 102, 3) := by decide +kernel
theorem dX8_waiting_11 : decode cX8_waiting 11 = .ok (.ireturn, 1) := by decide +kernel
theorem dX8_runs_0 : decode cX8_runs 0 = .ok (.aload_n 0, 1) := by decide +kernel
theorem dX8_runs_1 : decode cX8_runs 1 = .ok (.iload_n 1, 1) := by decide +kernel
theorem dX8_runs_2 : decode cX8_runs 2 = .ok (.invokevirtual 46, 3) := by decide +kernel
theorem dX8_runs_5 : decode cX8_runs 5 = .ok (.invokevirtual 205, 3) := by decide +kernel
theorem dX8_runs_8 : decode cX8_runs 8 = .ok (.ireturn, 1) := by decide +kernel
theorem dX8_up_0 : decode cX8_up 0 = .ok (.aload_n 0, 1) := by decide +kernel
theorem dX8_up_1 : decode cX8_up 1 = .ok (.iload_n 1, 1) := by decide +kernel
theorem dX8_up_2 : decode cX8_up 2 = .ok (.invokevirtual 46, 3) := by decide +kernel
theorem dX8_up_5 : decode cX8_up 5 = .ok (.getfield 129, 3) := by decide +kernel
theorem dX8_up_8 : decode cX8_up 8 = .ok (.invokevirtual 102, 3) := by decide +kernel
theorem dX8_up_11 : decode cX8_up 11 = .ok (.ireturn, 1) := by decide +kernel
theorem dX8_down_0 : decode cX8_down 0 = .ok (.aload_n 0, 1) := by decide +kernel
theorem dX8_down_1 : decode cX8_down 1 = .ok (.iload_n 1, 1) := by decide +kernel
theorem dX8_down_2 : decode cX8_down 2 = .ok (.invokevirtual 46, 3) := by decide +kernel
theorem dX8_down_5 : decode cX8_down 5 = .ok (.getfield 147, 3) := by decide +kernel
theorem dX8_down_8 : decode cX8_down 8 = .ok (.invokevirtual 102, 3) := by decide +kernel
theorem dX8_down_11 : decode cX8_down 11 = .ok (.ireturn, 1) := by decide +kernel
theorem dX8_kept_0 : decode cX8_kept 0 = .ok (.aload_n 0, 1) := by decide +kernel
theorem dX8_kept_1 : decode cX8_kept 1 = .ok (.iload_n 1, 1) := by decide +kernel
theorem dX8_kept_2 : decode cX8_kept 2 = .ok (.invokevirtual 46, 3) := by decide +kernel
theorem dX8_kept_5 : decode cX8_kept 5 = .ok (.getfield 98, 3) := by decide +kernel
theorem dX8_kept_8 : decode cX8_kept 8 = .ok (.invokevirtual 102, 3) := by decide +kernel
theorem dX8_kept_11 : decode cX8_kept 11 = .ok (.ireturn, 1) := by decide +kernel
theorem dX8_centreRevision_0 : decode cX8_centreRevision 0 = .ok (.aload_n 0, 1) := by decide +kernel
theorem dX8_centreRevision_1 : decode cX8_centreRevision 1 = .ok (.getfield 24, 3) := by decide +kernel
theorem dX8_centreRevision_4 : decode cX8_centreRevision 4 = .ok (.getfield 208, 3) := by decide +kernel
theorem dX8_centreRevision_7 : decode cX8_centreRevision 7 = .ok (.invokevirtual 102, 3) := by decide +kernel
theorem dX8_centreRevision_10 : decode cX8_centreRevision 10 = .ok (.ireturn, 1) := by decide +kernel
theorem dX8_historyEnd_0 : decode cX8_historyEnd 0 = .ok (.aload_n 0, 1) := by decide +kernel
theorem dX8_historyEnd_1 : decode cX8_historyEnd 1 = .ok (.iload_n 1, 1) := by decide +kernel
theorem dX8_historyEnd_2 : decode cX8_historyEnd 2 = .ok (.invokevirtual 211, 3) := by decide +kernel
theorem dX8_historyEnd_5 : decode cX8_historyEnd 5 = .ok (.getfield 161, 3) := by decide +kernel
theorem dX8_historyEnd_8 : decode cX8_historyEnd 8 = .ok (.ireturn, 1) := by decide +kernel
theorem dX8_historySize_0 : decode cX8_historySize 0 = .ok (.aload_n 0, 1) := by decide +kernel
theorem dX8_historySize_1 : decode cX8_historySize 1 = .ok (.iload_n 1, 1) := by decide +kernel
theorem dX8_historySize_2 : decode cX8_historySize 2 = .ok (.invokevirtual 211, 3) := by decide +kernel
theorem dX8_historySize_5 : decode cX8_historySize 5 = .ok (.getfield 154, 3) := by decide +kernel
theorem dX8_historySize_8 : decode cX8_historySize 8 = .ok (.invokevirtual 102, 3) := by decide +kernel
theorem dX8_historySize_11 : decode cX8_historySize 11 = .ok (.ireturn, 1) := by decide +kernel
theorem dX8_historyKind_0 : decode cX8_historyKind 0 = .ok (.aload_n 0, 1) := by decide +kernel
theorem dX8_historyKind_1 : decode cX8_historyKind 1 = .ok (.iload_n 1, 1) := by decide +kernel
theorem dX8_historyKind_2 : decode cX8_historyKind 2 = .ok (.iload_n 2, 1) := by decide +kernel
theorem dX8_historyKind_3 : decode cX8_historyKind 3 = .ok (.invokevirtual 215, 3) := by decide +kernel
theorem dX8_historyKind_6 : decode cX8_historyKind 6 = .ok (.getfield 219, 3) := by decide +kernel
theorem dX8_historyKind_9 : decode cX8_historyKind 9 = .ok (.ireturn, 1) := by decide +kernel
theorem dX8_historyPosition_0 : decode cX8_historyPosition 0 = .ok (.aload_n 0, 1) := by decide +kernel
theorem dX8_historyPosition_1 : decode cX8_historyPosition 1 = .ok (.iload_n 1, 1) := by decide +kernel
theorem dX8_historyPosition_2 : decode cX8_historyPosition 2 = .ok (.iload_n 2, 1) := by decide +kernel
theorem dX8_historyPosition_3 : decode cX8_historyPosition 3 = .ok (.invokevirtual 215, 3) := by decide +kernel
theorem dX8_historyPosition_6 : decode cX8_historyPosition 6 = .ok (.getfield 224, 3) := by decide +kernel
theorem dX8_historyPosition_9 : decode cX8_historyPosition 9 = .ok (.ireturn, 1) := by decide +kernel
theorem dX8_agree_0 : decode cX8_agree 0 = .ok (.aload_n 0, 1) := by decide +kernel
theorem dX8_agree_1 : decode cX8_agree 1 = .ok (.getfield 12, 3) := by decide +kernel
theorem dX8_agree_4 : decode cX8_agree 4 = .ok (.getfield 50, 3) := by decide +kernel
theorem dX8_agree_7 : decode cX8_agree 7 = .ok (.aload_n 0, 1) := by decide +kernel
theorem dX8_agree_8 : decode cX8_agree 8 = .ok (.getfield 18, 3) := by decide +kernel
theorem dX8_agree_11 : decode cX8_agree 11 = .ok (.getfield 50, 3) := by decide +kernel
theorem dX8_agree_14 : decode cX8_agree 14 = .ok (.invokevirtual 227, 3) := by decide +kernel
theorem dX8_agree_17 : decode cX8_agree 17 = .ok (.ifCond .eq 27, 3) := by decide +kernel
theorem dX8_agree_20 : decode cX8_agree 20 = .ok (.aload_n 0, 1) := by decide +kernel
theorem dX8_agree_21 : decode cX8_agree 21 = .ok (.getfield 12, 3) := by decide +kernel
theorem dX8_agree_24 : decode cX8_agree 24 = .ok (.getfield 50, 3) := by decide +kernel
theorem dX8_agree_27 : decode cX8_agree 27 = .ok (.aload_n 0, 1) := by decide +kernel
theorem dX8_agree_28 : decode cX8_agree 28 = .ok (.getfield 24, 3) := by decide +kernel
theorem dX8_agree_31 : decode cX8_agree 31 = .ok (.getfield 192, 3) := by decide +kernel
theorem dX8_agree_34 : decode cX8_agree 34 = .ok (.invokevirtual 227, 3) := by decide +kernel
theorem dX8_agree_37 : decode cX8_agree 37 = .ok (.ifCond .eq 7, 3) := by decide +kernel
theorem dX8_agree_40 : decode cX8_agree 40 = .ok (.iconst 1, 1) := by decide +kernel
theorem dX8_agree_41 : decode cX8_agree 41 = .ok (.goto 4, 3) := by decide +kernel
theorem dX8_agree_44 : decode cX8_agree 44 = .ok (.iconst 0, 1) := by decide +kernel
theorem dX8_agree_45 : decode cX8_agree 45 = .ok (.ireturn, 1) := by decide +kernel
theorem dX8_distance_0 : decode cX8_distance 0 = .ok (.aload_n 0, 1) := by decide +kernel
theorem dX8_distance_1 : decode cX8_distance 1 = .ok (.getfield 38, 3) := by decide +kernel
theorem dX8_distance_4 : decode cX8_distance 4 = .ok (.aload_n 0, 1) := by decide +kernel
theorem dX8_distance_5 : decode cX8_distance 5 = .ok (.getfield 12, 3) := by decide +kernel
theorem dX8_distance_8 : decode cX8_distance 8 = .ok (.getfield 50, 3) := by decide +kernel
theorem dX8_distance_11 : decode cX8_distance 11 = .ok (.aload_n 0, 1) := by decide +kernel
theorem dX8_distance_12 : decode cX8_distance 12 = .ok (.getfield 18, 3) := by decide +kernel
theorem dX8_distance_15 : decode cX8_distance 15 = .ok (.getfield 50, 3) := by decide +kernel
theorem dX8_distance_18 : decode cX8_distance 18 = .ok (.invokevirtual 231, 3) := by decide +kernel
theorem dX8_distance_21 : decode cX8_distance 21 = .ok (.ireturn, 1) := by decide +kernel
theorem dX8_distanceByWays_0 : decode cX8_distanceByWays 0 = .ok (.aload_n 0, 1) := by decide +kernel
theorem dX8_distanceByWays_1 : decode cX8_distanceByWays 1 = .ok (.getfield 38, 3) := by decide +kernel
theorem dX8_distanceByWays_4 : decode cX8_distanceByWays 4 = .ok (.aload_n 0, 1) := by decide +kernel
theorem dX8_distanceByWays_5 : decode cX8_distanceByWays 5 = .ok (.getfield 12, 3) := by decide +kernel
theorem dX8_distanceByWays_8 : decode cX8_distanceByWays 8 = .ok (.getfield 50, 3) := by decide +kernel
theorem dX8_distanceByWays_11 : decode cX8_distanceByWays 11 = .ok (.aload_n 0, 1) := by decide +kernel
theorem dX8_distanceByWays_12 : decode cX8_distanceByWays 12 = .ok (.getfield 18, 3) := by decide +kernel
theorem dX8_distanceByWays_15 : decode cX8_distanceByWays 15 = .ok (.getfield 50, 3) := by decide +kernel
theorem dX8_distanceByWays_18 : decode cX8_distanceByWays 18 = .ok (.invokevirtual 235, 3) := by decide +kernel
theorem dX8_distanceByWays_21 : decode cX8_distanceByWays 21 = .ok (.ireturn, 1) := by decide +kernel
theorem dX8_ownShare_0 : decode cX8_ownShare 0 = .ok (.aload_n 0, 1) := by decide +kernel
theorem dX8_ownShare_1 : decode cX8_ownShare 1 = .ok (.iload_n 1, 1) := by decide +kernel
theorem dX8_ownShare_2 : decode cX8_ownShare 2 = .ok (.invokevirtual 46, 3) := by decide +kernel
theorem dX8_ownShare_5 : decode cX8_ownShare 5 = .ok (.astore_n 2, 1) := by decide +kernel
theorem dX8_ownShare_6 : decode cX8_ownShare 6 = .ok (.aload_n 2, 1) := by decide +kernel
theorem dX8_ownShare_7 : decode cX8_ownShare 7 = .ok (.getfield 50, 3) := by decide +kernel
theorem dX8_ownShare_10 : decode cX8_ownShare 10 = .ok (.invokevirtual 76, 3) := by decide +kernel
theorem dX8_ownShare_13 : decode cX8_ownShare 13 = .ok (.istore_n 3, 1) := by decide +kernel
theorem dX8_ownShare_14 : decode cX8_ownShare 14 = .ok (.iload_n 3, 1) := by decide +kernel
theorem dX8_ownShare_15 : decode cX8_ownShare 15 = .ok (.ifCond .ne 13, 3) := by decide +kernel
theorem dX8_ownShare_18 : decode cX8_ownShare 18 = .ok (.new 238, 3) := by decide +kernel
theorem dX8_ownShare_21 : decode cX8_ownShare 21 = .ok (.dup, 1) := by decide +kernel
theorem dX8_ownShare_22 : decode cX8_ownShare 22 = .ok (.ldc 240, 2) := by decide +kernel
theorem dX8_ownShare_24 : decode cX8_ownShare 24 = .ok (.invokespecial 242, 3) := by decide +kernel
theorem dX8_ownShare_27 : decode cX8_ownShare 27 = .ok (.athrow, 1) := by decide +kernel
theorem dX8_ownShare_28 : decode cX8_ownShare 28 = .ok (.aload_n 2, 1) := by decide +kernel
theorem dX8_ownShare_29 : decode cX8_ownShare 29 = .ok (.getfield 50, 3) := by decide +kernel
theorem dX8_ownShare_32 : decode cX8_ownShare 32 = .ok (.iload_n 1, 1) := by decide +kernel
theorem dX8_ownShare_33 : decode cX8_ownShare 33 = .ok (.invokevirtual 243, 3) := by decide +kernel
theorem dX8_ownShare_36 : decode cX8_ownShare 36 = .ok (.i2f, 1) := by decide +kernel
theorem dX8_ownShare_37 : decode cX8_ownShare 37 = .ok (.iload_n 3, 1) := by decide +kernel
theorem dX8_ownShare_38 : decode cX8_ownShare 38 = .ok (.i2f, 1) := by decide +kernel
theorem dX8_ownShare_39 : decode cX8_ownShare 39 = .ok (.fdiv, 1) := by decide +kernel
theorem dX8_ownShare_40 : decode cX8_ownShare 40 = .ok (.freturn, 1) := by decide +kernel
theorem dX8_meanRun_0 : decode cX8_meanRun 0 = .ok (.aload_n 0, 1) := by decide +kernel
theorem dX8_meanRun_1 : decode cX8_meanRun 1 = .ok (.getfield 24, 3) := by decide +kernel
theorem dX8_meanRun_4 : decode cX8_meanRun 4 = .ok (.getfield 208, 3) := by decide +kernel
theorem dX8_meanRun_7 : decode cX8_meanRun 7 = .ok (.invokevirtual 102, 3) := by decide +kernel
theorem dX8_meanRun_10 : decode cX8_meanRun 10 = .ok (.istore_n 1, 1) := by decide +kernel
theorem dX8_meanRun_11 : decode cX8_meanRun 11 = .ok (.iload_n 1, 1) := by decide +kernel
theorem dX8_meanRun_12 : decode cX8_meanRun 12 = .ok (.ifCond .ne 13, 3) := by decide +kernel
theorem dX8_meanRun_15 : decode cX8_meanRun 15 = .ok (.new 238, 3) := by decide +kernel
theorem dX8_meanRun_18 : decode cX8_meanRun 18 = .ok (.dup, 1) := by decide +kernel
theorem dX8_meanRun_19 : decode cX8_meanRun 19 = .ok (.ldc 246, 2) := by decide +kernel
theorem dX8_meanRun_21 : decode cX8_meanRun 21 = .ok (.invokespecial 242, 3) := by decide +kernel
theorem dX8_meanRun_24 : decode cX8_meanRun 24 = .ok (.athrow, 1) := by decide +kernel
theorem dX8_meanRun_25 : decode cX8_meanRun 25 = .ok (.aload_n 0, 1) := by decide +kernel
theorem dX8_meanRun_26 : decode cX8_meanRun 26 = .ok (.getfield 24, 3) := by decide +kernel
theorem dX8_meanRun_29 : decode cX8_meanRun 29 = .ok (.invokevirtual 248, 3) := by decide +kernel
theorem dX8_meanRun_32 : decode cX8_meanRun 32 = .ok (.i2d, 1) := by decide +kernel
theorem dX8_meanRun_33 : decode cX8_meanRun 33 = .ok (.iload_n 1, 1) := by decide +kernel
theorem dX8_meanRun_34 : decode cX8_meanRun 34 = .ok (.i2d, 1) := by decide +kernel
theorem dX8_meanRun_35 : decode cX8_meanRun 35 = .ok (.ddiv, 1) := by decide +kernel
theorem dX8_meanRun_36 : decode cX8_meanRun 36 = .ok (.dreturn, 1) := by decide +kernel
theorem dX8_textNumber_0 : decode cX8_textNumber 0 = .ok (.aload_n 0, 1) := by decide +kernel
theorem dX8_textNumber_1 : decode cX8_textNumber 1 = .ok (.iload_n 1, 1) := by decide +kernel
theorem dX8_textNumber_2 : decode cX8_textNumber 2 = .ok (.invokevirtual 46, 3) := by decide +kernel
theorem dX8_textNumber_5 : decode cX8_textNumber 5 = .ok (.getfield 50, 3) := by decide +kernel
theorem dX8_textNumber_8 : decode cX8_textNumber 8 = .ok (.invokevirtual 251, 3) := by decide +kernel
theorem dX8_textNumber_11 : decode cX8_textNumber 11 = .ok (.lreturn, 1) := by decide +kernel
theorem dX8_endNumbered_0 : decode cX8_endNumbered 0 = .ok (.iload_n 1, 1) := by decide +kernel
theorem dX8_endNumbered_1 : decode cX8_endNumbered 1 = .ok (.ifCond .eq 19, 3) := by decide +kernel
theorem dX8_endNumbered_4 : decode cX8_endNumbered 4 = .ok (.iload_n 1, 1) := by decide +kernel
theorem dX8_endNumbered_5 : decode cX8_endNumbered 5 = .ok (.iconst 1, 1) := by decide +kernel
theorem dX8_endNumbered_6 : decode cX8_endNumbered 6 = .ok (.if_icmp .eq 14, 3) := by decide +kernel
theorem dX8_endNumbered_9 : decode cX8_endNumbered 9 = .ok (.new 254, 3) := by decide +kernel
theorem dX8_endNumbered_12 : decode cX8_endNumbered 12 = .ok (.dup, 1) := by decide +kernel
theorem dX8_endNumbered_13 : decode cX8_endNumbered 13 = .ok (.ldc_w 256, 3) := by decide +kernel
theorem dX8_endNumbered_16 : decode cX8_endNumbered 16 = .ok (.invokespecial 258, 3) := by decide +kernel
theorem dX8_endNumbered_19 : decode cX8_endNumbered 19 = .ok (.athrow, 1) := by decide +kernel
theorem dX8_endNumbered_20 : decode cX8_endNumbered 20 = .ok (.iload_n 1, 1) := by decide +kernel
theorem dX8_endNumbered_21 : decode cX8_endNumbered 21 = .ok (.ifCond .ne 10, 3) := by decide +kernel
theorem dX8_endNumbered_24 : decode cX8_endNumbered 24 = .ok (.aload_n 0, 1) := by decide +kernel
theorem dX8_endNumbered_25 : decode cX8_endNumbered 25 = .ok (.getfield 12, 3) := by decide +kernel
theorem dX8_endNumbered_28 : decode cX8_endNumbered 28 = .ok (.goto 7, 3) := by decide +kernel
theorem dX8_endNumbered_31 : decode cX8_endNumbered 31 = .ok (.aload_n 0, 1) := by decide +kernel
theorem dX8_endNumbered_32 : decode cX8_endNumbered 32 = .ok (.getfield 18, 3) := by decide +kernel
theorem dX8_endNumbered_35 : decode cX8_endNumbered 35 = .ok (.areturn, 1) := by decide +kernel
theorem dX8_requireWritable_0 : decode cX8_requireWritable 0 = .ok (.iload_n 0, 1) := by decide +kernel
theorem dX8_requireWritable_1 : decode cX8_requireWritable 1 = .ok (.bipush 32, 2) := by decide +kernel
theorem dX8_requireWritable_3 : decode cX8_requireWritable 3 = .ok (.if_icmp .lt 9, 3) := by decide +kernel
theorem dX8_requireWritable_6 : decode cX8_requireWritable 6 = .ok (.iload_n 0, 1) := by decide +kernel
theorem dX8_requireWritable_7 : decode cX8_requireWritable 7 = .ok (.bipush 126, 2) := by decide +kernel
theorem dX8_requireWritable_9 : decode cX8_requireWritable 9 = .ok (.if_icmp .le 14, 3) := by decide +kernel
theorem dX8_requireWritable_12 : decode cX8_requireWritable 12 = .ok (.new 57, 3) := by decide +kernel
theorem dX8_requireWritable_15 : decode cX8_requireWritable 15 = .ok (.dup, 1) := by decide +kernel
theorem dX8_requireWritable_16 : decode cX8_requireWritable 16 = .ok (.ldc_w 259, 3) := by decide +kernel
theorem dX8_requireWritable_19 : decode cX8_requireWritable 19 = .ok (.invokespecial 61, 3) := by decide +kernel
theorem dX8_requireWritable_22 : decode cX8_requireWritable 22 = .ok (.athrow, 1) := by decide +kernel
theorem dX8_requireWritable_23 : decode cX8_requireWritable 23 = .ok (.return_, 1) := by decide +kernel
theorem dX8_requireOperationLeft_0 : decode cX8_requireOperationLeft 0 = .ok (.aload_n 0, 1) := by decide +kernel
theorem dX8_requireOperationLeft_1 : decode cX8_requireOperationLeft 1 = .ok (.getfield 42, 3) := by decide +kernel
theorem dX8_requireOperationLeft_4 : decode cX8_requireOperationLeft 4 = .ok (.sipush 200, 3) := by decide +kernel
theorem dX8_requireOperationLeft_7 : decode cX8_requireOperationLeft 7 = .ok (.if_icmp .lt 14, 3) := by decide +kernel
theorem dX8_requireOperationLeft_10 : decode cX8_requireOperationLeft 10 = .ok (.new 261, 3) := by decide +kernel
theorem dX8_requireOperationLeft_13 : decode cX8_requireOperationLeft 13 = .ok (.dup, 1) := by decide +kernel
theorem dX8_requireOperationLeft_14 : decode cX8_requireOperationLeft 14 = .ok (.ldc_w 263, 3) := by decide +kernel
theorem dX8_requireOperationLeft_17 : decode cX8_requireOperationLeft 17 = .ok (.invokespecial 265, 3) := by decide +kernel
theorem dX8_requireOperationLeft_20 : decode cX8_requireOperationLeft 20 = .ok (.athrow, 1) := by decide +kernel
theorem dX8_requireOperationLeft_21 : decode cX8_requireOperationLeft 21 = .ok (.return_, 1) := by decide +kernel
theorem dX8_requireRoom_0 : decode cX8_requireRoom 0 = .ok (.aload_n 1, 1) := by decide +kernel
theorem dX8_requireRoom_1 : decode cX8_requireRoom 1 = .ok (.getfield 50, 3) := by decide +kernel
theorem dX8_requireRoom_4 : decode cX8_requireRoom 4 = .ok (.invokevirtual 76, 3) := by decide +kernel
theorem dX8_requireRoom_7 : decode cX8_requireRoom 7 = .ok (.bipush 60, 2) := by decide +kernel
theorem dX8_requireRoom_9 : decode cX8_requireRoom 9 = .ok (.if_icmp .lt 14, 3) := by decide +kernel
theorem dX8_requireRoom_12 : decode cX8_requireRoom 12 = .ok (.new 261, 3) := by decide +kernel
theorem dX8_requireRoom_15 : decode cX8_requireRoom 15 = .ok (.dup, 1) := by decide +kernel
theorem dX8_requireRoom_16 : decode cX8_requireRoom 16 = .ok (.ldc_w 266, 3) := by decide +kernel
theorem dX8_requireRoom_19 : decode cX8_requireRoom 19 = .ok (.invokespecial 265, 3) := by decide +kernel
theorem dX8_requireRoom_22 : decode cX8_requireRoom 22 = .ok (.athrow, 1) := by decide +kernel
theorem dX8_requireRoom_23 : decode cX8_requireRoom 23 = .ok (.aload_n 0, 1) := by decide +kernel
theorem dX8_requireRoom_24 : decode cX8_requireRoom 24 = .ok (.invokevirtual 83, 3) := by decide +kernel
theorem dX8_requireRoom_27 : decode cX8_requireRoom 27 = .ok (.return_, 1) := by decide +kernel
theorem dX8_letterOf_0 : decode cX8_letterOf 0 = .ok (.aload_n 0, 1) := by decide +kernel
theorem dX8_letterOf_1 : decode cX8_letterOf 1 = .ok (.iload_n 1, 1) := by decide +kernel
theorem dX8_letterOf_2 : decode cX8_letterOf 2 = .ok (.invokevirtual 80, 3) := by decide +kernel
theorem dX8_letterOf_5 : decode cX8_letterOf 5 = .ok (.ifCond .ne 13, 3) := by decide +kernel
theorem dX8_letterOf_8 : decode cX8_letterOf 8 = .ok (.new 57, 3) := by decide +kernel
theorem dX8_letterOf_11 : decode cX8_letterOf 11 = .ok (.dup, 1) := by decide +kernel
theorem dX8_letterOf_12 : decode cX8_letterOf 12 = .ok (.ldc 59, 2) := by decide +kernel
theorem dX8_letterOf_14 : decode cX8_letterOf 14 = .ok (.invokespecial 61, 3) := by decide +kernel
theorem dX8_letterOf_17 : decode cX8_letterOf 17 = .ok (.athrow, 1) := by decide +kernel
theorem dX8_letterOf_18 : decode cX8_letterOf 18 = .ok (.aload_n 0, 1) := by decide +kernel
theorem dX8_letterOf_19 : decode cX8_letterOf 19 = .ok (.getfield 268, 3) := by decide +kernel
theorem dX8_letterOf_22 : decode cX8_letterOf 22 = .ok (.iload_n 1, 1) := by decide +kernel
theorem dX8_letterOf_23 : decode cX8_letterOf 23 = .ok (.invokevirtual 107, 3) := by decide +kernel
theorem dX8_letterOf_26 : decode cX8_letterOf 26 = .ok (.checkcast 181, 3) := by decide +kernel
theorem dX8_letterOf_29 : decode cX8_letterOf 29 = .ok (.areturn, 1) := by decide +kernel
theorem dX8_messageOf_0 : decode cX8_messageOf 0 = .ok (.iload_n 1, 1) := by decide +kernel
theorem dX8_messageOf_1 : decode cX8_messageOf 1 = .ok (.ifCond .lt 17, 3) := by decide +kernel
theorem dX8_messageOf_4 : decode cX8_messageOf 4 = .ok (.iload_n 1, 1) := by decide +kernel
theorem dX8_messageOf_5 : decode cX8_messageOf 5 = .ok (.aload_n 0, 1) := by decide +kernel
theorem dX8_messageOf_6 : decode cX8_messageOf 6 = .ok (.getfield 24, 3) := by decide +kernel
theorem dX8_messageOf_9 : decode cX8_messageOf 9 = .ok (.getfield 208, 3) := by decide +kernel
theorem dX8_messageOf_12 : decode cX8_messageOf 12 = .ok (.invokevirtual 102, 3) := by decide +kernel
theorem dX8_messageOf_15 : decode cX8_messageOf 15 = .ok (.if_icmp .lt 14, 3) := by decide +kernel
theorem dX8_messageOf_18 : decode cX8_messageOf 18 = .ok (.new 93, 3) := by decide +kernel
theorem dX8_messageOf_21 : decode cX8_messageOf 21 = .ok (.dup, 1) := by decide +kernel
theorem dX8_messageOf_22 : decode cX8_messageOf 22 = .ok (.ldc_w 271, 3) := by decide +kernel
theorem dX8_messageOf_25 : decode cX8_messageOf 25 = .ok (.invokespecial 97, 3) := by decide +kernel
theorem dX8_messageOf_28 : decode cX8_messageOf 28 = .ok (.athrow, 1) := by decide +kernel
theorem dX8_messageOf_29 : decode cX8_messageOf 29 = .ok (.aload_n 0, 1) := by decide +kernel
theorem dX8_messageOf_30 : decode cX8_messageOf 30 = .ok (.getfield 24, 3) := by decide +kernel
theorem dX8_messageOf_33 : decode cX8_messageOf 33 = .ok (.getfield 208, 3) := by decide +kernel
theorem dX8_messageOf_36 : decode cX8_messageOf 36 = .ok (.iload_n 1, 1) := by decide +kernel
theorem dX8_messageOf_37 : decode cX8_messageOf 37 = .ok (.invokevirtual 107, 3) := by decide +kernel
theorem dX8_messageOf_40 : decode cX8_messageOf 40 = .ok (.checkcast 141, 3) := by decide +kernel
theorem dX8_messageOf_43 : decode cX8_messageOf 43 = .ok (.areturn, 1) := by decide +kernel
theorem dX8_operationOf_0 : decode cX8_operationOf 0 = .ok (.aload_n 0, 1) := by decide +kernel
theorem dX8_operationOf_1 : decode cX8_operationOf 1 = .ok (.iload_n 1, 1) := by decide +kernel
theorem dX8_operationOf_2 : decode cX8_operationOf 2 = .ok (.invokevirtual 211, 3) := by decide +kernel
theorem dX8_operationOf_5 : decode cX8_operationOf 5 = .ok (.getfield 154, 3) := by decide +kernel
theorem dX8_operationOf_8 : decode cX8_operationOf 8 = .ok (.astore_n 3, 1) := by decide +kernel
theorem dX8_operationOf_9 : decode cX8_operationOf 9 = .ok (.iload_n 2, 1) := by decide +kernel
theorem dX8_operationOf_10 : decode cX8_operationOf 10 = .ok (.ifCond .lt 11, 3) := by decide +kernel
theorem dX8_operationOf_13 : decode cX8_operationOf 13 = .ok (.iload_n 2, 1) := by decide +kernel
theorem dX8_operationOf_14 : decode cX8_operationOf 14 = .ok (.aload_n 3, 1) := by decide +kernel
theorem dX8_operationOf_15 : decode cX8_operationOf 15 = .ok (.invokevirtual 102, 3) := by decide +kernel
theorem dX8_operationOf_18 : decode cX8_operationOf 18 = .ok (.if_icmp .lt 14, 3) := by decide +kernel
theorem dX8_operationOf_21 : decode cX8_operationOf 21 = .ok (.new 254, 3) := by decide +kernel
theorem dX8_operationOf_24 : decode cX8_operationOf 24 = .ok (.dup, 1) := by decide +kernel
theorem dX8_operationOf_25 : decode cX8_operationOf 25 = .ok (.ldc_w 273, 3) := by decide +kernel
theorem dX8_operationOf_28 : decode cX8_operationOf 28 = .ok (.invokespecial 258, 3) := by decide +kernel
theorem dX8_operationOf_31 : decode cX8_operationOf 31 = .ok (.athrow, 1) := by decide +kernel
theorem dX8_operationOf_32 : decode cX8_operationOf 32 = .ok (.aload_n 3, 1) := by decide +kernel
theorem dX8_operationOf_33 : decode cX8_operationOf 33 = .ok (.iload_n 2, 1) := by decide +kernel
theorem dX8_operationOf_34 : decode cX8_operationOf 34 = .ok (.invokevirtual 107, 3) := by decide +kernel
theorem dX8_operationOf_37 : decode cX8_operationOf 37 = .ok (.checkcast 220, 3) := by decide +kernel
theorem dX8_operationOf_40 : decode cX8_operationOf 40 = .ok (.areturn, 1) := by decide +kernel
theorem dX8_writeKept_0 : decode cX8_writeKept 0 = .ok (.new 181, 3) := by decide +kernel
theorem dX8_writeKept_3 : decode cX8_writeKept 3 = .ok (.dup, 1) := by decide +kernel
theorem dX8_writeKept_4 : decode cX8_writeKept 4 = .ok (.iload_n 3, 1) := by decide +kernel
theorem dX8_writeKept_5 : decode cX8_writeKept 5 = .ok (.aload_n 1, 1) := by decide +kernel
theorem dX8_writeKept_6 : decode cX8_writeKept 6 = .ok (.getfield 164, 3) := by decide +kernel
theorem dX8_writeKept_9 : decode cX8_writeKept 9 = .ok (.invokespecial 275, 3) := by decide +kernel
theorem dX8_writeKept_12 : decode cX8_writeKept 12 = .ok (.astore 4, 2) := by decide +kernel
theorem dX8_writeKept_14 : decode cX8_writeKept 14 = .ok (.aload_n 1, 1) := by decide +kernel
theorem dX8_writeKept_15 : decode cX8_writeKept 15 = .ok (.new 220, 3) := by decide +kernel
theorem dX8_writeKept_18 : decode cX8_writeKept 18 = .ok (.dup, 1) := by decide +kernel
theorem dX8_writeKept_19 : decode cX8_writeKept 19 = .ok (.aload_n 1, 1) := by decide +kernel
theorem dX8_writeKept_20 : decode cX8_writeKept 20 = .ok (.getfield 164, 3) := by decide +kernel
theorem dX8_writeKept_23 : decode cX8_writeKept 23 = .ok (.bipush 105, 2) := by decide +kernel
theorem dX8_writeKept_25 : decode cX8_writeKept 25 = .ok (.iload_n 2, 1) := by decide +kernel
theorem dX8_writeKept_26 : decode cX8_writeKept 26 = .ok (.aload 4, 2) := by decide +kernel
theorem dX8_writeKept_28 : decode cX8_writeKept 28 = .ok (.invokespecial 278, 3) := by decide +kernel
theorem dX8_writeKept_31 : decode cX8_writeKept 31 = .ok (.invokevirtual 281, 3) := by decide +kernel
theorem dX8_writeKept_34 : decode cX8_writeKept 34 = .ok (.aload_n 0, 1) := by decide +kernel
theorem dX8_writeKept_35 : decode cX8_writeKept 35 = .ok (.dup, 1) := by decide +kernel
theorem dX8_writeKept_36 : decode cX8_writeKept 36 = .ok (.getfield 42, 3) := by decide +kernel
theorem dX8_writeKept_39 : decode cX8_writeKept 39 = .ok (.iconst 1, 1) := by decide +kernel
theorem dX8_writeKept_40 : decode cX8_writeKept 40 = .ok (.iadd, 1) := by decide +kernel
theorem dX8_writeKept_41 : decode cX8_writeKept 41 = .ok (.putfield 42, 3) := by decide +kernel
theorem dX8_writeKept_44 : decode cX8_writeKept 44 = .ok (.aload_n 1, 1) := by decide +kernel
theorem dX8_writeKept_45 : decode cX8_writeKept 45 = .ok (.getfield 98, 3) := by decide +kernel
theorem dX8_writeKept_48 : decode cX8_writeKept 48 = .ok (.new 111, 3) := by decide +kernel
theorem dX8_writeKept_51 : decode cX8_writeKept 51 = .ok (.dup, 1) := by decide +kernel
theorem dX8_writeKept_52 : decode cX8_writeKept 52 = .ok (.iconst 1, 1) := by decide +kernel
theorem dX8_writeKept_53 : decode cX8_writeKept 53 = .ok (.aload 4, 2) := by decide +kernel
theorem dX8_writeKept_55 : decode cX8_writeKept 55 = .ok (.iload_n 2, 1) := by decide +kernel
theorem dX8_writeKept_56 : decode cX8_writeKept 56 = .ok (.invokespecial 285, 3) := by decide +kernel
theorem dX8_writeKept_59 : decode cX8_writeKept 59 = .ok (.invokevirtual 150, 3) := by decide +kernel
theorem dX8_writeKept_62 : decode cX8_writeKept 62 = .ok (.pop, 1) := by decide +kernel
theorem dX8_writeKept_63 : decode cX8_writeKept 63 = .ok (.return_, 1) := by decide +kernel
theorem dX8_removeKept_0 : decode cX8_removeKept 0 = .ok (.aload_n 1, 1) := by decide +kernel
theorem dX8_removeKept_1 : decode cX8_removeKept 1 = .ok (.getfield 50, 3) := by decide +kernel
theorem dX8_removeKept_4 : decode cX8_removeKept 4 = .ok (.getfield 268, 3) := by decide +kernel
theorem dX8_removeKept_7 : decode cX8_removeKept 7 = .ok (.iload_n 2, 1) := by decide +kernel
theorem dX8_removeKept_8 : decode cX8_removeKept 8 = .ok (.invokevirtual 107, 3) := by decide +kernel
theorem dX8_removeKept_11 : decode cX8_removeKept 11 = .ok (.checkcast 181, 3) := by decide +kernel
theorem dX8_removeKept_14 : decode cX8_removeKept 14 = .ok (.astore_n 3, 1) := by decide +kernel
theorem dX8_removeKept_15 : decode cX8_removeKept 15 = .ok (.aload_n 1, 1) := by decide +kernel
theorem dX8_removeKept_16 : decode cX8_removeKept 16 = .ok (.new 220, 3) := by decide +kernel
theorem dX8_removeKept_19 : decode cX8_removeKept 19 = .ok (.dup, 1) := by decide +kernel
theorem dX8_removeKept_20 : decode cX8_removeKept 20 = .ok (.aload_n 1, 1) := by decide +kernel
theorem dX8_removeKept_21 : decode cX8_removeKept 21 = .ok (.getfield 164, 3) := by decide +kernel
theorem dX8_removeKept_24 : decode cX8_removeKept 24 = .ok (.bipush 100, 2) := by decide +kernel
theorem dX8_removeKept_26 : decode cX8_removeKept 26 = .ok (.iload_n 2, 1) := by decide +kernel
theorem dX8_removeKept_27 : decode cX8_removeKept 27 = .ok (.aload_n 3, 1) := by decide +kernel
theorem dX8_removeKept_28 : decode cX8_removeKept 28 = .ok (.invokespecial 278, 3) := by decide +kernel
theorem dX8_removeKept_31 : decode cX8_removeKept 31 = .ok (.invokevirtual 281, 3) := by decide +kernel
theorem dX8_removeKept_34 : decode cX8_removeKept 34 = .ok (.aload_n 0, 1) := by decide +kernel
theorem dX8_removeKept_35 : decode cX8_removeKept 35 = .ok (.dup, 1) := by decide +kernel
theorem dX8_removeKept_36 : decode cX8_removeKept 36 = .ok (.getfield 42, 3) := by decide +kernel
theorem dX8_removeKept_39 : decode cX8_removeKept 39 = .ok (.iconst 1, 1) := by decide +kernel
theorem dX8_removeKept_40 : decode cX8_removeKept 40 = .ok (.iadd, 1) := by decide +kernel
theorem dX8_removeKept_41 : decode cX8_removeKept 41 = .ok (.putfield 42, 3) := by decide +kernel
theorem dX8_removeKept_44 : decode cX8_removeKept 44 = .ok (.aload_n 1, 1) := by decide +kernel
theorem dX8_removeKept_45 : decode cX8_removeKept 45 = .ok (.getfield 98, 3) := by decide +kernel
theorem dX8_removeKept_48 : decode cX8_removeKept 48 = .ok (.new 111, 3) := by decide +kernel
theorem dX8_removeKept_51 : decode cX8_removeKept 51 = .ok (.dup, 1) := by decide +kernel
theorem dX8_removeKept_52 : decode cX8_removeKept 52 = .ok (.iconst 0, 1) := by decide +kernel
theorem dX8_removeKept_53 : decode cX8_removeKept 53 = .ok (.aload_n 3, 1) := by decide +kernel
theorem dX8_removeKept_54 : decode cX8_removeKept 54 = .ok (.iload_n 2, 1) := by decide +kernel
theorem dX8_removeKept_55 : decode cX8_removeKept 55 = .ok (.invokespecial 285, 3) := by decide +kernel
theorem dX8_removeKept_58 : decode cX8_removeKept 58 = .ok (.invokevirtual 150, 3) := by decide +kernel
theorem dX8_removeKept_61 : decode cX8_removeKept 61 = .ok (.pop, 1) := by decide +kernel
theorem dX8_removeKept_62 : decode cX8_removeKept 62 = .ok (.aload_n 3, 1) := by decide +kernel
theorem dX8_removeKept_63 : decode cX8_removeKept 63 = .ok (.getfield 180, 3) := by decide +kernel
theorem dX8_removeKept_66 : decode cX8_removeKept 66 = .ok (.ireturn, 1) := by decide +kernel
theorem dX8_takeBack_0 : decode cX8_takeBack 0 = .ok (.aload_n 1, 1) := by decide +kernel
theorem dX8_takeBack_1 : decode cX8_takeBack 1 = .ok (.getfield 50, 3) := by decide +kernel
theorem dX8_takeBack_4 : decode cX8_takeBack 4 = .ok (.aload_n 3, 1) := by decide +kernel
theorem dX8_takeBack_5 : decode cX8_takeBack 5 = .ok (.invokevirtual 288, 3) := by decide +kernel
theorem dX8_takeBack_8 : decode cX8_takeBack 8 = .ok (.istore 4, 2) := by decide +kernel
theorem dX8_takeBack_10 : decode cX8_takeBack 10 = .ok (.iload 4, 2) := by decide +kernel
theorem dX8_takeBack_12 : decode cX8_takeBack 12 = .ok (.ifCond .ge 14, 3) := by decide +kernel
theorem dX8_takeBack_15 : decode cX8_takeBack 15 = .ok (.aload_n 1, 1) := by decide +kernel
theorem dX8_takeBack_16 : decode cX8_takeBack 16 = .ok (.getfield 98, 3) := by decide +kernel
theorem dX8_takeBack_19 : decode cX8_takeBack 19 = .ok (.iload_n 2, 1) := by decide +kernel
theorem dX8_takeBack_20 : decode cX8_takeBack 20 = .ok (.invokevirtual 138, 3) := by decide +kernel
theorem dX8_takeBack_23 : decode cX8_takeBack 23 = .ok (.pop, 1) := by decide +kernel
theorem dX8_takeBack_24 : decode cX8_takeBack 24 = .ok (.iconst 0, 1) := by decide +kernel
theorem dX8_takeBack_25 : decode cX8_takeBack 25 = .ok (.ireturn, 1) := by decide +kernel
theorem dX8_takeBack_26 : decode cX8_takeBack 26 = .ok (.aload_n 0, 1) := by decide +kernel
theorem dX8_takeBack_27 : decode cX8_takeBack 27 = .ok (.invokevirtual 83, 3) := by decide +kernel
theorem dX8_takeBack_30 : decode cX8_takeBack 30 = .ok (.aload_n 1, 1) := by decide +kernel
theorem dX8_takeBack_31 : decode cX8_takeBack 31 = .ok (.getfield 98, 3) := by decide +kernel
theorem dX8_takeBack_34 : decode cX8_takeBack 34 = .ok (.iload_n 2, 1) := by decide +kernel
theorem dX8_takeBack_35 : decode cX8_takeBack 35 = .ok (.invokevirtual 138, 3) := by decide +kernel
theorem dX8_takeBack_38 : decode cX8_takeBack 38 = .ok (.pop, 1) := by decide +kernel
theorem dX8_takeBack_39 : decode cX8_takeBack 39 = .ok (.aload_n 1, 1) := by decide +kernel
theorem dX8_takeBack_40 : decode cX8_takeBack 40 = .ok (.new 220, 3) := by decide +kernel
theorem dX8_takeBack_43 : decode cX8_takeBack 43 = .ok (.dup, 1) := by decide +kernel
theorem dX8_takeBack_44 : decode cX8_takeBack 44 = .ok (.aload_n 1, 1) := by decide +kernel
theorem dX8_takeBack_45 : decode cX8_takeBack 45 = .ok (.getfield 164, 3) := by decide +kernel
theorem dX8_takeBack_48 : decode cX8_takeBack 48 = .ok (.bipush 100, 2) := by decide +kernel
theorem dX8_takeBack_50 : decode cX8_takeBack 50 = .ok (.iload 4, 2) := by decide +kernel
theorem dX8_takeBack_52 : decode cX8_takeBack 52 = .ok (.aload_n 3, 1) := by decide +kernel
theorem dX8_takeBack_53 : decode cX8_takeBack 53 = .ok (.invokespecial 278, 3) := by decide +kernel
theorem dX8_takeBack_56 : decode cX8_takeBack 56 = .ok (.invokevirtual 281, 3) := by decide +kernel
theorem dX8_takeBack_59 : decode cX8_takeBack 59 = .ok (.aload_n 0, 1) := by decide +kernel
theorem dX8_takeBack_60 : decode cX8_takeBack 60 = .ok (.dup, 1) := by decide +kernel
theorem dX8_takeBack_61 : decode cX8_takeBack 61 = .ok (.getfield 42, 3) := by decide +kernel
theorem dX8_takeBack_64 : decode cX8_takeBack 64 = .ok (.iconst 1, 1) := by decide +kernel
theorem dX8_takeBack_65 : decode cX8_takeBack 65 = .ok (.iadd, 1) := by decide +kernel
theorem dX8_takeBack_66 : decode cX8_takeBack 66 = .ok (.putfield 42, 3) := by decide +kernel
theorem dX8_takeBack_69 : decode cX8_takeBack 69 = .ok (.iconst 1, 1) := by decide +kernel
theorem dX8_takeBack_70 : decode cX8_takeBack 70 = .ok (.ireturn, 1) := by decide +kernel
theorem dX8_putBack_0 : decode cX8_putBack 0 = .ok (.aload_n 0, 1) := by decide +kernel
theorem dX8_putBack_1 : decode cX8_putBack 1 = .ok (.aload_n 1, 1) := by decide +kernel
theorem dX8_putBack_2 : decode cX8_putBack 2 = .ok (.invokevirtual 68, 3) := by decide +kernel
theorem dX8_putBack_5 : decode cX8_putBack 5 = .ok (.aload_n 1, 1) := by decide +kernel
theorem dX8_putBack_6 : decode cX8_putBack 6 = .ok (.getfield 98, 3) := by decide +kernel
theorem dX8_putBack_9 : decode cX8_putBack 9 = .ok (.iload_n 2, 1) := by decide +kernel
theorem dX8_putBack_10 : decode cX8_putBack 10 = .ok (.invokevirtual 138, 3) := by decide +kernel
theorem dX8_putBack_13 : decode cX8_putBack 13 = .ok (.pop, 1) := by decide +kernel
theorem dX8_putBack_14 : decode cX8_putBack 14 = .ok (.new 181, 3) := by decide +kernel
theorem dX8_putBack_17 : decode cX8_putBack 17 = .ok (.dup, 1) := by decide +kernel
theorem dX8_putBack_18 : decode cX8_putBack 18 = .ok (.aload_n 3, 1) := by decide +kernel
theorem dX8_putBack_19 : decode cX8_putBack 19 = .ok (.getfield 117, 3) := by decide +kernel
theorem dX8_putBack_22 : decode cX8_putBack 22 = .ok (.getfield 180, 3) := by decide +kernel
theorem dX8_putBack_25 : decode cX8_putBack 25 = .ok (.aload_n 1, 1) := by decide +kernel
theorem dX8_putBack_26 : decode cX8_putBack 26 = .ok (.getfield 164, 3) := by decide +kernel
theorem dX8_putBack_29 : decode cX8_putBack 29 = .ok (.invokespecial 275, 3) := by decide +kernel
theorem dX8_putBack_32 : decode cX8_putBack 32 = .ok (.astore 4, 2) := by decide +kernel
theorem dX8_putBack_34 : decode cX8_putBack 34 = .ok (.aload_n 1, 1) := by decide +kernel
theorem dX8_putBack_35 : decode cX8_putBack 35 = .ok (.new 220, 3) := by decide +kernel
theorem dX8_putBack_38 : decode cX8_putBack 38 = .ok (.dup, 1) := by decide +kernel
theorem dX8_putBack_39 : decode cX8_putBack 39 = .ok (.aload_n 1, 1) := by decide +kernel
theorem dX8_putBack_40 : decode cX8_putBack 40 = .ok (.getfield 164, 3) := by decide +kernel
theorem dX8_putBack_43 : decode cX8_putBack 43 = .ok (.bipush 105, 2) := by decide +kernel
theorem dX8_putBack_45 : decode cX8_putBack 45 = .ok (.aload_n 3, 1) := by decide +kernel
theorem dX8_putBack_46 : decode cX8_putBack 46 = .ok (.getfield 292, 3) := by decide +kernel
theorem dX8_putBack_49 : decode cX8_putBack 49 = .ok (.aload 4, 2) := by decide +kernel
theorem dX8_putBack_51 : decode cX8_putBack 51 = .ok (.invokespecial 278, 3) := by decide +kernel
theorem dX8_putBack_54 : decode cX8_putBack 54 = .ok (.invokevirtual 281, 3) := by decide +kernel
theorem dX8_putBack_57 : decode cX8_putBack 57 = .ok (.aload_n 0, 1) := by decide +kernel
theorem dX8_putBack_58 : decode cX8_putBack 58 = .ok (.dup, 1) := by decide +kernel
theorem dX8_putBack_59 : decode cX8_putBack 59 = .ok (.getfield 42, 3) := by decide +kernel
theorem dX8_putBack_62 : decode cX8_putBack 62 = .ok (.iconst 1, 1) := by decide +kernel
theorem dX8_putBack_63 : decode cX8_putBack 63 = .ok (.iadd, 1) := by decide +kernel
theorem dX8_putBack_64 : decode cX8_putBack 64 = .ok (.putfield 42, 3) := by decide +kernel
theorem dX8_putBack_67 : decode cX8_putBack 67 = .ok (.iconst 1, 1) := by decide +kernel
theorem dX8_putBack_68 : decode cX8_putBack 68 = .ok (.ireturn, 1) := by decide +kernel
theorem dX8_rebuild_0 : decode cX8_rebuild 0 = .ok (.aload_n 0, 1) := by decide +kernel
theorem dX8_rebuild_1 : decode cX8_rebuild 1 = .ok (.getfield 31, 3) := by decide +kernel
theorem dX8_rebuild_4 : decode cX8_rebuild 4 = .ok (.getfield 268, 3) := by decide +kernel
theorem dX8_rebuild_7 : decode cX8_rebuild 7 = .ok (.invokevirtual 295, 3) := by decide +kernel
theorem dX8_rebuild_10 : decode cX8_rebuild 10 = .ok (.iconst 0, 1) := by decide +kernel
theorem dX8_rebuild_11 : decode cX8_rebuild 11 = .ok (.istore_n 2, 1) := by decide +kernel
theorem dX8_rebuild_12 : decode cX8_rebuild 12 = .ok (.iload_n 2, 1) := by decide +kernel
theorem dX8_rebuild_13 : decode cX8_rebuild 13 = .ok (.aload_n 1, 1) := by decide +kernel
theorem dX8_rebuild_14 : decode cX8_rebuild 14 = .ok (.getfield 196, 3) := by decide +kernel
theorem dX8_rebuild_17 : decode cX8_rebuild 17 = .ok (.if_icmp .ge 47, 3) := by decide +kernel
theorem dX8_rebuild_20 : decode cX8_rebuild 20 = .ok (.iload_n 2, 1) := by decide +kernel
theorem dX8_rebuild_21 : decode cX8_rebuild 21 = .ok (.aload_n 0, 1) := by decide +kernel
theorem dX8_rebuild_22 : decode cX8_rebuild 22 = .ok (.getfield 24, 3) := by decide +kernel
theorem dX8_rebuild_25 : decode cX8_rebuild 25 = .ok (.getfield 208, 3) := by decide +kernel
theorem dX8_rebuild_28 : decode cX8_rebuild 28 = .ok (.invokevirtual 102, 3) := by decide +kernel
theorem dX8_rebuild_31 : decode cX8_rebuild 31 = .ok (.if_icmp .ge 33, 3) := by decide +kernel
theorem dX8_rebuild_34 : decode cX8_rebuild 34 = .ok (.aload_n 0, 1) := by decide +kernel
theorem dX8_rebuild_35 : decode cX8_rebuild 35 = .ok (.getfield 31, 3) := by decide +kernel
theorem dX8_rebuild_38 : decode cX8_rebuild 38 = .ok (.aload_n 0, 1) := by decide +kernel
theorem dX8_rebuild_39 : decode cX8_rebuild 39 = .ok (.getfield 24, 3) := by decide +kernel
theorem dX8_rebuild_42 : decode cX8_rebuild 42 = .ok (.getfield 208, 3) := by decide +kernel
theorem dX8_rebuild_45 : decode cX8_rebuild 45 = .ok (.iload_n 2, 1) := by decide +kernel
theorem dX8_rebuild_46 : decode cX8_rebuild 46 = .ok (.invokevirtual 107, 3) := by decide +kernel
theorem dX8_rebuild_49 : decode cX8_rebuild 49 = .ok (.checkcast 141, 3) := by decide +kernel
theorem dX8_rebuild_52 : decode cX8_rebuild 52 = .ok (.getfield 154, 3) := by decide +kernel
theorem dX8_rebuild_55 : decode cX8_rebuild 55 = .ok (.invokevirtual 298, 3) := by decide +kernel
theorem dX8_rebuild_58 : decode cX8_rebuild 58 = .ok (.iinc 2 1, 3) := by decide +kernel
theorem dX8_rebuild_61 : decode cX8_rebuild 61 = .ok (.goto (-49), 3) := by decide +kernel
theorem dX8_rebuild_64 : decode cX8_rebuild 64 = .ok (.aload_n 0, 1) := by decide +kernel
theorem dX8_rebuild_65 : decode cX8_rebuild 65 = .ok (.getfield 31, 3) := by decide +kernel
theorem dX8_rebuild_68 : decode cX8_rebuild 68 = .ok (.aload_n 1, 1) := by decide +kernel
theorem dX8_rebuild_69 : decode cX8_rebuild 69 = .ok (.getfield 199, 3) := by decide +kernel
theorem dX8_rebuild_72 : decode cX8_rebuild 72 = .ok (.invokevirtual 298, 3) := by decide +kernel
theorem dX8_rebuild_75 : decode cX8_rebuild 75 = .ok (.aload_n 0, 1) := by decide +kernel
theorem dX8_rebuild_76 : decode cX8_rebuild 76 = .ok (.getfield 31, 3) := by decide +kernel
theorem dX8_rebuild_79 : decode cX8_rebuild 79 = .ok (.aload_n 1, 1) := by decide +kernel
theorem dX8_rebuild_80 : decode cX8_rebuild 80 = .ok (.getfield 202, 3) := by decide +kernel
theorem dX8_rebuild_83 : decode cX8_rebuild 83 = .ok (.invokevirtual 298, 3) := by decide +kernel
theorem dX8_rebuild_86 : decode cX8_rebuild 86 = .ok (.return_, 1) := by decide +kernel
theorem dJx00060_init_a7421_0 : decode cJx00060_init_a7421 0 = .ok (.aload_n 0, 1) := by decide +kernel
theorem dJx00060_init_a7421_1 : decode cJx00060_init_a7421 1 = .ok (.aload_n 1, 1) := by decide +kernel
theorem dJx00060_init_a7421_2 : decode cJx00060_init_a7421 2 = .ok (.invokespecial 7, 3) := by decide +kernel
theorem dJx00060_init_a7421_5 : decode cJx00060_init_a7421 5 = .ok (.return_, 1) := by decide +kernel
theorem dJxa1e45_init_da8c8_0 : decode cJxa1e45_init_da8c8 0 = .ok (.aload_n 0, 1) := by decide +kernel
theorem dJxa1e45_init_da8c8_1 : decode cJxa1e45_init_da8c8 1 = .ok (.invokespecial 1, 3) := by decide +kernel
theorem dJxa1e45_init_da8c8_4 : decode cJxa1e45_init_da8c8 4 = .ok (.return_, 1) := by decide +kernel
theorem dJx4a65c_init_da8c8_0 : decode cJx4a65c_init_da8c8 0 = .ok (.aload_n 0, 1) := by decide +kernel
theorem dJx4a65c_init_da8c8_1 : decode cJx4a65c_init_da8c8 1 = .ok (.invokespecial 1, 3) := by decide +kernel
theorem dJx4a65c_init_da8c8_4 : decode cJx4a65c_init_da8c8 4 = .ok (.aload_n 0, 1) := by decide +kernel
theorem dJx4a65c_init_da8c8_5 : decode cJx4a65c_init_da8c8 5 = .ok (.getstatic 39, 3) := by decide +kernel
theorem dJx4a65c_init_da8c8_8 : decode cJx4a65c_init_da8c8 8 = .ok (.putfield 9, 3) := by decide +kernel
theorem dJx4a65c_init_da8c8_11 : decode cJx4a65c_init_da8c8 11 = .ok (.return_, 1) := by decide +kernel
theorem dJx4a65c_grow_92f84_0 : decode cJx4a65c_grow_92f84 0 = .ok (.aload_n 0, 1) := by decide +kernel
theorem dJx4a65c_grow_92f84_1 : decode cJx4a65c_grow_92f84 1 = .ok (.getfield 9, 3) := by decide +kernel
theorem dJx4a65c_grow_92f84_4 : decode cJx4a65c_grow_92f84 4 = .ok (.arraylength, 1) := by decide +kernel
theorem dJx4a65c_grow_92f84_5 : decode cJx4a65c_grow_92f84 5 = .ok (.istore_n 2, 1) := by decide +kernel
theorem dJx4a65c_grow_92f84_6 : decode cJx4a65c_grow_92f84 6 = .ok (.iload_n 2, 1) := by decide +kernel
theorem dJx4a65c_grow_92f84_7 : decode cJx4a65c_grow_92f84 7 = .ok (.ifCond .gt 13, 3) := by decide +kernel
theorem dJx4a65c_grow_92f84_10 : decode cJx4a65c_grow_92f84 10 = .ok (.aload_n 0, 1) := by decide +kernel
theorem dJx4a65c_grow_92f84_11 : decode cJx4a65c_grow_92f84 11 = .ok (.getfield 9, 3) := by decide +kernel
theorem dJx4a65c_grow_92f84_14 : decode cJx4a65c_grow_92f84 14 = .ok (.getstatic 39, 3) := by decide +kernel
theorem dJx4a65c_grow_92f84_17 : decode cJx4a65c_grow_92f84 17 = .ok (.if_acmp .eq 28, 3) := by decide +kernel
theorem dJx4a65c_grow_92f84_20 : decode cJx4a65c_grow_92f84 20 = .ok (.iload_n 2, 1) := by decide +kernel
theorem dJx4a65c_grow_92f84_21 : decode cJx4a65c_grow_92f84 21 = .ok (.iload_n 1, 1) := by decide +kernel
theorem dJx4a65c_grow_92f84_22 : decode cJx4a65c_grow_92f84 22 = .ok (.iload_n 2, 1) := by decide +kernel
theorem dJx4a65c_grow_92f84_23 : decode cJx4a65c_grow_92f84 23 = .ok (.isub, 1) := by decide +kernel
theorem dJx4a65c_grow_92f84_24 : decode cJx4a65c_grow_92f84 24 = .ok (.iload_n 2, 1) := by decide +kernel
theorem dJx4a65c_grow_92f84_25 : decode cJx4a65c_grow_92f84 25 = .ok (.iconst 1, 1) := by decide +kernel
theorem dJx4a65c_grow_92f84_26 : decode cJx4a65c_grow_92f84 26 = .ok (.ishr, 1) := by decide +kernel
theorem dJx4a65c_grow_92f84_27 : decode cJx4a65c_grow_92f84 27 = .ok (.invokestatic 73, 3) := by decide +kernel
theorem dJx4a65c_grow_92f84_30 : decode cJx4a65c_grow_92f84 30 = .ok (.istore_n 3, 1) := by decide +kernel
theorem dJx4a65c_grow_92f84_31 : decode cJx4a65c_grow_92f84 31 = .ok (.aload_n 0, 1) := by decide +kernel
theorem dJx4a65c_grow_92f84_32 : decode cJx4a65c_grow_92f84 32 = .ok (.aload_n 0, 1) := by decide +kernel
theorem dJx4a65c_grow_92f84_33 : decode cJx4a65c_grow_92f84 33 = .ok (.getfield 9, 3) := by decide +kernel
theorem dJx4a65c_grow_92f84_36 : decode cJx4a65c_grow_92f84 36 = .ok (.iload_n 3, 1) := by decide +kernel
theorem dJx4a65c_grow_92f84_37 : decode cJx4a65c_grow_92f84 37 = .ok (.invokestatic 66, 3) := by decide +kernel
theorem dJx4a65c_grow_92f84_40 : decode cJx4a65c_grow_92f84 40 = .ok (.dup_x1, 1) := by decide +kernel
theorem dJx4a65c_grow_92f84_41 : decode cJx4a65c_grow_92f84 41 = .ok (.putfield 9, 3) := by decide +kernel
theorem dJx4a65c_grow_92f84_44 : decode cJx4a65c_grow_92f84 44 = .ok (.areturn, 1) := by decide +kernel
theorem dJx4a65c_grow_92f84_45 : decode cJx4a65c_grow_92f84 45 = .ok (.aload_n 0, 1) := by decide +kernel
theorem dJx4a65c_grow_92f84_46 : decode cJx4a65c_grow_92f84 46 = .ok (.bipush 10, 2) := by decide +kernel
theorem dJx4a65c_grow_92f84_48 : decode cJx4a65c_grow_92f84 48 = .ok (.iload_n 1, 1) := by decide +kernel
theorem dJx4a65c_grow_92f84_49 : decode cJx4a65c_grow_92f84 49 = .ok (.invokestatic 79, 3) := by decide +kernel
theorem dJx4a65c_grow_92f84_52 : decode cJx4a65c_grow_92f84 52 = .ok (.anewarray 7, 3) := by decide +kernel
theorem dJx4a65c_grow_92f84_55 : decode cJx4a65c_grow_92f84 55 = .ok (.dup_x1, 1) := by decide +kernel
theorem dJx4a65c_grow_92f84_56 : decode cJx4a65c_grow_92f84 56 = .ok (.putfield 9, 3) := by decide +kernel
theorem dJx4a65c_grow_92f84_59 : decode cJx4a65c_grow_92f84 59 = .ok (.areturn, 1) := by decide +kernel
theorem dJx4a65c_grow_d5877_0 : decode cJx4a65c_grow_d5877 0 = .ok (.aload_n 0, 1) := by decide +kernel
theorem dJx4a65c_grow_d5877_1 : decode cJx4a65c_grow_d5877 1 = .ok (.aload_n 0, 1) := by decide +kernel
theorem dJx4a65c_grow_d5877_2 : decode cJx4a65c_grow_d5877 2 = .ok (.getfield 48, 3) := by decide +kernel
theorem dJx4a65c_grow_d5877_5 : decode cJx4a65c_grow_d5877 5 = .ok (.iconst 1, 1) := by decide +kernel
theorem dJx4a65c_grow_d5877_6 : decode cJx4a65c_grow_d5877 6 = .ok (.iadd, 1) := by decide +kernel
theorem dJx4a65c_grow_d5877_7 : decode cJx4a65c_grow_d5877 7 = .ok (.invokevirtual 69, 3) := by decide +kernel
theorem dJx4a65c_grow_d5877_10 : decode cJx4a65c_grow_d5877 10 = .ok (.areturn, 1) := by decide +kernel
theorem dJx4a65c_size_8abf5_0 : decode cJx4a65c_size_8abf5 0 = .ok (.aload_n 0, 1) := by decide +kernel
theorem dJx4a65c_size_8abf5_1 : decode cJx4a65c_size_8abf5 1 = .ok (.getfield 48, 3) := by decide +kernel
theorem dJx4a65c_size_8abf5_4 : decode cJx4a65c_size_8abf5 4 = .ok (.ireturn, 1) := by decide +kernel
theorem dJx4a65c_isEmpty_aae02_0 : decode cJx4a65c_isEmpty_aae02 0 = .ok (.aload_n 0, 1) := by decide +kernel
theorem dJx4a65c_isEmpty_aae02_1 : decode cJx4a65c_isEmpty_aae02 1 = .ok (.getfield 48, 3) := by decide +kernel
theorem dJx4a65c_isEmpty_aae02_4 : decode cJx4a65c_isEmpty_aae02 4 = .ok (.ifCond .ne 7, 3) := by decide +kernel
theorem dJx4a65c_isEmpty_aae02_7 : decode cJx4a65c_isEmpty_aae02 7 = .ok (.iconst 1, 1) := by decide +kernel
theorem dJx4a65c_isEmpty_aae02_8 : decode cJx4a65c_isEmpty_aae02 8 = .ok (.goto 4, 3) := by decide +kernel
theorem dJx4a65c_isEmpty_aae02_11 : decode cJx4a65c_isEmpty_aae02 11 = .ok (.iconst 0, 1) := by decide +kernel
theorem dJx4a65c_isEmpty_aae02_12 : decode cJx4a65c_isEmpty_aae02 12 = .ok (.ireturn, 1) := by decide +kernel
theorem dJx4a65c_elementData_915e3_0 : decode cJx4a65c_elementData_915e3 0 = .ok (.aload_n 0, 1) := by decide +kernel
theorem dJx4a65c_elementData_915e3_1 : decode cJx4a65c_elementData_915e3 1 = .ok (.getfield 9, 3) := by decide +kernel
theorem dJx4a65c_elementData_915e3_4 : decode cJx4a65c_elementData_915e3 4 = .ok (.iload_n 1, 1) := by decide +kernel
theorem dJx4a65c_elementData_915e3_5 : decode cJx4a65c_elementData_915e3 5 = .ok (.aaload, 1) := by decide +kernel
theorem dJx4a65c_elementData_915e3_6 : decode cJx4a65c_elementData_915e3 6 = .ok (.areturn, 1) := by decide +kernel
theorem dJx4a65c_get_915e3_0 : decode cJx4a65c_get_915e3 0 = .ok (.iload_n 1, 1) := by decide +kernel
theorem dJx4a65c_get_915e3_1 : decode cJx4a65c_get_915e3 1 = .ok (.aload_n 0, 1) := by decide +kernel
theorem dJx4a65c_get_915e3_2 : decode cJx4a65c_get_915e3 2 = .ok (.getfield 48, 3) := by decide +kernel
theorem dJx4a65c_get_915e3_5 : decode cJx4a65c_get_915e3 5 = .ok (.invokestatic 118, 3) := by decide +kernel
theorem dJx4a65c_get_915e3_8 : decode cJx4a65c_get_915e3 8 = .ok (.pop, 1) := by decide +kernel
theorem dJx4a65c_get_915e3_9 : decode cJx4a65c_get_915e3 9 = .ok (.aload_n 0, 1) := by decide +kernel
theorem dJx4a65c_get_915e3_10 : decode cJx4a65c_get_915e3 10 = .ok (.iload_n 1, 1) := by decide +kernel
theorem dJx4a65c_get_915e3_11 : decode cJx4a65c_get_915e3 11 = .ok (.invokevirtual 123, 3) := by decide +kernel
theorem dJx4a65c_get_915e3_14 : decode cJx4a65c_get_915e3 14 = .ok (.areturn, 1) := by decide +kernel
theorem dJx4a65c_add_72be8_0 : decode cJx4a65c_add_72be8 0 = .ok (.iload_n 3, 1) := by decide +kernel
theorem dJx4a65c_add_72be8_1 : decode cJx4a65c_add_72be8 1 = .ok (.aload_n 2, 1) := by decide +kernel
theorem dJx4a65c_add_72be8_2 : decode cJx4a65c_add_72be8 2 = .ok (.arraylength, 1) := by decide +kernel
theorem dJx4a65c_add_72be8_3 : decode cJx4a65c_add_72be8 3 = .ok (.if_icmp .ne 8, 3) := by decide +kernel
theorem dJx4a65c_add_72be8_6 : decode cJx4a65c_add_72be8 6 = .ok (.aload_n 0, 1) := by decide +kernel
theorem dJx4a65c_add_72be8_7 : decode cJx4a65c_add_72be8 7 = .ok (.invokevirtual 129, 3) := by decide +kernel
theorem dJx4a65c_add_72be8_10 : decode cJx4a65c_add_72be8 10 = .ok (.astore_n 2, 1) := by decide +kernel
theorem dJx4a65c_add_72be8_11 : decode cJx4a65c_add_72be8 11 = .ok (.aload_n 2, 1) := by decide +kernel
theorem dJx4a65c_add_72be8_12 : decode cJx4a65c_add_72be8 12 = .ok (.iload_n 3, 1) := by decide +kernel
theorem dJx4a65c_add_72be8_13 : decode cJx4a65c_add_72be8 13 = .ok (.aload_n 1, 1) := by decide +kernel
theorem dJx4a65c_add_72be8_14 : decode cJx4a65c_add_72be8 14 = .ok (.aastore, 1) := by decide +kernel
theorem dJx4a65c_add_72be8_15 : decode cJx4a65c_add_72be8 15 = .ok (.aload_n 0, 1) := by decide +kernel
theorem dJx4a65c_add_72be8_16 : decode cJx4a65c_add_72be8 16 = .ok (.iload_n 3, 1) := by decide +kernel
theorem dJx4a65c_add_72be8_17 : decode cJx4a65c_add_72be8 17 = .ok (.iconst 1, 1) := by decide +kernel
theorem dJx4a65c_add_72be8_18 : decode cJx4a65c_add_72be8 18 = .ok (.iadd, 1) := by decide +kernel
theorem dJx4a65c_add_72be8_19 : decode cJx4a65c_add_72be8 19 = .ok (.putfield 48, 3) := by decide +kernel
theorem dJx4a65c_add_72be8_22 : decode cJx4a65c_add_72be8 22 = .ok (.return_, 1) := by decide +kernel
theorem dJx4a65c_add_9ea2d_0 : decode cJx4a65c_add_9ea2d 0 = .ok (.aload_n 0, 1) := by decide +kernel
theorem dJx4a65c_add_9ea2d_1 : decode cJx4a65c_add_9ea2d 1 = .ok (.dup, 1) := by decide +kernel
theorem dJx4a65c_add_9ea2d_2 : decode cJx4a65c_add_9ea2d 2 = .ok (.getfield 63, 3) := by decide +kernel
theorem dJx4a65c_add_9ea2d_5 : decode cJx4a65c_add_9ea2d 5 = .ok (.iconst 1, 1) := by decide +kernel
theorem dJx4a65c_add_9ea2d_6 : decode cJx4a65c_add_9ea2d 6 = .ok (.iadd, 1) := by decide +kernel
theorem dJx4a65c_add_9ea2d_7 : decode cJx4a65c_add_9ea2d 7 = .ok (.putfield 63, 3) := by decide +kernel
theorem dJx4a65c_add_9ea2d_10 : decode cJx4a65c_add_9ea2d 10 = .ok (.aload_n 0, 1) := by decide +kernel
theorem dJx4a65c_add_9ea2d_11 : decode cJx4a65c_add_9ea2d 11 = .ok (.aload_n 1, 1) := by decide +kernel
theorem dJx4a65c_add_9ea2d_12 : decode cJx4a65c_add_9ea2d 12 = .ok (.aload_n 0, 1) := by decide +kernel
theorem dJx4a65c_add_9ea2d_13 : decode cJx4a65c_add_9ea2d 13 = .ok (.getfield 9, 3) := by decide +kernel
theorem dJx4a65c_add_9ea2d_16 : decode cJx4a65c_add_9ea2d 16 = .ok (.aload_n 0, 1) := by decide +kernel
theorem dJx4a65c_add_9ea2d_17 : decode cJx4a65c_add_9ea2d 17 = .ok (.getfield 48, 3) := by decide +kernel
theorem dJx4a65c_add_9ea2d_20 : decode cJx4a65c_add_9ea2d 20 = .ok (.invokevirtual 131, 3) := by decide +kernel
theorem dJx4a65c_add_9ea2d_23 : decode cJx4a65c_add_9ea2d 23 = .ok (.iconst 1, 1) := by decide +kernel
theorem dJx4a65c_add_9ea2d_24 : decode cJx4a65c_add_9ea2d 24 = .ok (.ireturn, 1) := by decide +kernel
theorem dJx4a65c_add_7a177_0 : decode cJx4a65c_add_7a177 0 = .ok (.aload_n 0, 1) := by decide +kernel
theorem dJx4a65c_add_7a177_1 : decode cJx4a65c_add_7a177 1 = .ok (.iload_n 1, 1) := by decide +kernel
theorem dJx4a65c_add_7a177_2 : decode cJx4a65c_add_7a177 2 = .ok (.invokevirtual 135, 3) := by decide +kernel
theorem dJx4a65c_add_7a177_5 : decode cJx4a65c_add_7a177 5 = .ok (.aload_n 0, 1) := by decide +kernel
theorem dJx4a65c_add_7a177_6 : decode cJx4a65c_add_7a177 6 = .ok (.dup, 1) := by decide +kernel
theorem dJx4a65c_add_7a177_7 : decode cJx4a65c_add_7a177 7 = .ok (.getfield 63, 3) := by decide +kernel
theorem dJx4a65c_add_7a177_10 : decode cJx4a65c_add_7a177 10 = .ok (.iconst 1, 1) := by decide +kernel
theorem dJx4a65c_add_7a177_11 : decode cJx4a65c_add_7a177 11 = .ok (.iadd, 1) := by decide +kernel
theorem dJx4a65c_add_7a177_12 : decode cJx4a65c_add_7a177 12 = .ok (.putfield 63, 3) := by decide +kernel
theorem dJx4a65c_add_7a177_15 : decode cJx4a65c_add_7a177 15 = .ok (.aload_n 0, 1) := by decide +kernel
theorem dJx4a65c_add_7a177_16 : decode cJx4a65c_add_7a177 16 = .ok (.getfield 48, 3) := by decide +kernel
theorem dJx4a65c_add_7a177_19 : decode cJx4a65c_add_7a177 19 = .ok (.dup, 1) := by decide +kernel
theorem dJx4a65c_add_7a177_20 : decode cJx4a65c_add_7a177 20 = .ok (.istore_n 3, 1) := by decide +kernel
theorem dJx4a65c_add_7a177_21 : decode cJx4a65c_add_7a177 21 = .ok (.aload_n 0, 1) := by decide +kernel
theorem dJx4a65c_add_7a177_22 : decode cJx4a65c_add_7a177 22 = .ok (.getfield 9, 3) := by decide +kernel
theorem dJx4a65c_add_7a177_25 : decode cJx4a65c_add_7a177 25 = .ok (.dup, 1) := by decide +kernel
theorem dJx4a65c_add_7a177_26 : decode cJx4a65c_add_7a177 26 = .ok (.astore 4, 2) := by decide +kernel
theorem dJx4a65c_add_7a177_28 : decode cJx4a65c_add_7a177 28 = .ok (.arraylength, 1) := by decide +kernel
theorem dJx4a65c_add_7a177_29 : decode cJx4a65c_add_7a177 29 = .ok (.if_icmp .ne 9, 3) := by decide +kernel
theorem dJx4a65c_add_7a177_32 : decode cJx4a65c_add_7a177 32 = .ok (.aload_n 0, 1) := by decide +kernel
theorem dJx4a65c_add_7a177_33 : decode cJx4a65c_add_7a177 33 = .ok (.invokevirtual 129, 3) := by decide +kernel
theorem dJx4a65c_add_7a177_36 : decode cJx4a65c_add_7a177 36 = .ok (.astore 4, 2) := by decide +kernel
theorem dJx4a65c_add_7a177_38 : decode cJx4a65c_add_7a177 38 = .ok (.aload 4, 2) := by decide +kernel
theorem dJx4a65c_add_7a177_40 : decode cJx4a65c_add_7a177 40 = .ok (.iload_n 1, 1) := by decide +kernel
theorem dJx4a65c_add_7a177_41 : decode cJx4a65c_add_7a177 41 = .ok (.aload 4, 2) := by decide +kernel
theorem dJx4a65c_add_7a177_43 : decode cJx4a65c_add_7a177 43 = .ok (.iload_n 1, 1) := by decide +kernel
theorem dJx4a65c_add_7a177_44 : decode cJx4a65c_add_7a177 44 = .ok (.iconst 1, 1) := by decide +kernel
theorem dJx4a65c_add_7a177_45 : decode cJx4a65c_add_7a177 45 = .ok (.iadd, 1) := by decide +kernel
theorem dJx4a65c_add_7a177_46 : decode cJx4a65c_add_7a177 46 = .ok (.iload_n 3, 1) := by decide +kernel
theorem dJx4a65c_add_7a177_47 : decode cJx4a65c_add_7a177 47 = .ok (.iload_n 1, 1) := by decide +kernel
theorem dJx4a65c_add_7a177_48 : decode cJx4a65c_add_7a177 48 = .ok (.isub, 1) := by decide +kernel
theorem dJx4a65c_add_7a177_49 : decode cJx4a65c_add_7a177 49 = .ok (.invokestatic 112, 3) := by decide +kernel
theorem dJx4a65c_add_7a177_52 : decode cJx4a65c_add_7a177 52 = .ok (.aload 4, 2) := by decide +kernel
theorem dJx4a65c_add_7a177_54 : decode cJx4a65c_add_7a177 54 = .ok (.iload_n 1, 1) := by decide +kernel
theorem dJx4a65c_add_7a177_55 : decode cJx4a65c_add_7a177 55 = .ok (.aload_n 2, 1) := by decide +kernel
theorem dJx4a65c_add_7a177_56 : decode cJx4a65c_add_7a177 56 = .ok (.aastore, 1) := by decide +kernel
theorem dJx4a65c_add_7a177_57 : decode cJx4a65c_add_7a177 57 = .ok (.aload_n 0, 1) := by decide +kernel
theorem dJx4a65c_add_7a177_58 : decode cJx4a65c_add_7a177 58 = .ok (.iload_n 3, 1) := by decide +kernel
theorem dJx4a65c_add_7a177_59 : decode cJx4a65c_add_7a177 59 = .ok (.iconst 1, 1) := by decide +kernel
theorem dJx4a65c_add_7a177_60 : decode cJx4a65c_add_7a177 60 = .ok (.iadd, 1) := by decide +kernel
theorem dJx4a65c_add_7a177_61 : decode cJx4a65c_add_7a177 61 = .ok (.putfield 48, 3) := by decide +kernel
theorem dJx4a65c_add_7a177_64 : decode cJx4a65c_add_7a177 64 = .ok (.return_, 1) := by decide +kernel
theorem dJx4a65c_remove_915e3_0 : decode cJx4a65c_remove_915e3 0 = .ok (.iload_n 1, 1) := by decide +kernel
theorem dJx4a65c_remove_915e3_1 : decode cJx4a65c_remove_915e3 1 = .ok (.aload_n 0, 1) := by decide +kernel
theorem dJx4a65c_remove_915e3_2 : decode cJx4a65c_remove_915e3 2 = .ok (.getfield 48, 3) := by decide +kernel
theorem dJx4a65c_remove_915e3_5 : decode cJx4a65c_remove_915e3 5 = .ok (.invokestatic 118, 3) := by decide +kernel
theorem dJx4a65c_remove_915e3_8 : decode cJx4a65c_remove_915e3 8 = .ok (.pop, 1) := by decide +kernel
theorem dJx4a65c_remove_915e3_9 : decode cJx4a65c_remove_915e3 9 = .ok (.aload_n 0, 1) := by decide +kernel
theorem dJx4a65c_remove_915e3_10 : decode cJx4a65c_remove_915e3 10 = .ok (.getfield 9, 3) := by decide +kernel
theorem dJx4a65c_remove_915e3_13 : decode cJx4a65c_remove_915e3 13 = .ok (.astore_n 2, 1) := by decide +kernel
theorem dJx4a65c_remove_915e3_14 : decode cJx4a65c_remove_915e3 14 = .ok (.aload_n 2, 1) := by decide +kernel
theorem dJx4a65c_remove_915e3_15 : decode cJx4a65c_remove_915e3 15 = .ok (.iload_n 1, 1) := by decide +kernel
theorem dJx4a65c_remove_915e3_16 : decode cJx4a65c_remove_915e3 16 = .ok (.aaload, 1) := by decide +kernel
theorem dJx4a65c_remove_915e3_17 : decode cJx4a65c_remove_915e3 17 = .ok (.astore_n 3, 1) := by decide +kernel
theorem dJx4a65c_remove_915e3_18 : decode cJx4a65c_remove_915e3 18 = .ok (.aload_n 0, 1) := by decide +kernel
theorem dJx4a65c_remove_915e3_19 : decode cJx4a65c_remove_915e3 19 = .ok (.aload_n 2, 1) := by decide +kernel
theorem dJx4a65c_remove_915e3_20 : decode cJx4a65c_remove_915e3 20 = .ok (.iload_n 1, 1) := by decide +kernel
theorem dJx4a65c_remove_915e3_21 : decode cJx4a65c_remove_915e3 21 = .ok (.invokevirtual 144, 3) := by decide +kernel
theorem dJx4a65c_remove_915e3_24 : decode cJx4a65c_remove_915e3 24 = .ok (.aload_n 3, 1) := by decide +kernel
theorem dJx4a65c_remove_915e3_25 : decode cJx4a65c_remove_915e3 25 = .ok (.areturn, 1) := by decide +kernel
theorem dJx4a65c_fastRemove_b59b0_0 : decode cJx4a65c_fastRemove_b59b0 0 = .ok (.aload_n 0, 1) := by decide +kernel
theorem dJx4a65c_fastRemove_b59b0_1 : decode cJx4a65c_fastRemove_b59b0 1 = .ok (.dup, 1) := by decide +kernel
theorem dJx4a65c_fastRemove_b59b0_2 : decode cJx4a65c_fastRemove_b59b0 2 = .ok (.getfield 63, 3) := by decide +kernel
theorem dJx4a65c_fastRemove_b59b0_5 : decode cJx4a65c_fastRemove_b59b0 5 = .ok (.iconst 1, 1) := by decide +kernel
theorem dJx4a65c_fastRemove_b59b0_6 : decode cJx4a65c_fastRemove_b59b0 6 = .ok (.iadd, 1) := by decide +kernel
theorem dJx4a65c_fastRemove_b59b0_7 : decode cJx4a65c_fastRemove_b59b0 7 = .ok (.putfield 63, 3) := by decide +kernel
theorem dJx4a65c_fastRemove_b59b0_10 : decode cJx4a65c_fastRemove_b59b0 10 = .ok (.aload_n 0, 1) := by decide +kernel
theorem dJx4a65c_fastRemove_b59b0_11 : decode cJx4a65c_fastRemove_b59b0 11 = .ok (.getfield 48, 3) := by decide +kernel
theorem dJx4a65c_fastRemove_b59b0_14 : decode cJx4a65c_fastRemove_b59b0 14 = .ok (.iconst 1, 1) := by decide +kernel
theorem dJx4a65c_fastRemove_b59b0_15 : decode cJx4a65c_fastRemove_b59b0 15 = .ok (.isub, 1) := by decide +kernel
theorem dJx4a65c_fastRemove_b59b0_16 : decode cJx4a65c_fastRemove_b59b0 16 = .ok (.dup, 1) := by decide +kernel
theorem dJx4a65c_fastRemove_b59b0_17 : decode cJx4a65c_fastRemove_b59b0 17 = .ok (.istore_n 3, 1) := by decide +kernel
theorem dJx4a65c_fastRemove_b59b0_18 : decode cJx4a65c_fastRemove_b59b0 18 = .ok (.iload_n 2, 1) := by decide +kernel
theorem dJx4a65c_fastRemove_b59b0_19 : decode cJx4a65c_fastRemove_b59b0 19 = .ok (.if_icmp .le 15, 3) := by decide +kernel
theorem dJx4a65c_fastRemove_b59b0_22 : decode cJx4a65c_fastRemove_b59b0 22 = .ok (.aload_n 1, 1) := by decide +kernel
theorem dJx4a65c_fastRemove_b59b0_23 : decode cJx4a65c_fastRemove_b59b0 23 = .ok (.iload_n 2, 1) := by decide +kernel
theorem dJx4a65c_fastRemove_b59b0_24 : decode cJx4a65c_fastRemove_b59b0 24 = .ok (.iconst 1, 1) := by decide +kernel
theorem dJx4a65c_fastRemove_b59b0_25 : decode cJx4a65c_fastRemove_b59b0 25 = .ok (.iadd, 1) := by decide +kernel
theorem dJx4a65c_fastRemove_b59b0_26 : decode cJx4a65c_fastRemove_b59b0 26 = .ok (.aload_n 1, 1) := by decide +kernel
theorem dJx4a65c_fastRemove_b59b0_27 : decode cJx4a65c_fastRemove_b59b0 27 = .ok (.iload_n 2, 1) := by decide +kernel
theorem dJx4a65c_fastRemove_b59b0_28 : decode cJx4a65c_fastRemove_b59b0 28 = .ok (.iload_n 3, 1) := by decide +kernel
theorem dJx4a65c_fastRemove_b59b0_29 : decode cJx4a65c_fastRemove_b59b0 29 = .ok (.iload_n 2, 1) := by decide +kernel
theorem dJx4a65c_fastRemove_b59b0_30 : decode cJx4a65c_fastRemove_b59b0 30 = .ok (.isub, 1) := by decide +kernel
theorem dJx4a65c_fastRemove_b59b0_31 : decode cJx4a65c_fastRemove_b59b0 31 = .ok (.invokestatic 112, 3) := by decide +kernel
theorem dJx4a65c_fastRemove_b59b0_34 : decode cJx4a65c_fastRemove_b59b0 34 = .ok (.aload_n 1, 1) := by decide +kernel
theorem dJx4a65c_fastRemove_b59b0_35 : decode cJx4a65c_fastRemove_b59b0 35 = .ok (.aload_n 0, 1) := by decide +kernel
theorem dJx4a65c_fastRemove_b59b0_36 : decode cJx4a65c_fastRemove_b59b0 36 = .ok (.iload_n 3, 1) := by decide +kernel
theorem dJx4a65c_fastRemove_b59b0_37 : decode cJx4a65c_fastRemove_b59b0 37 = .ok (.dup_x1, 1) := by decide +kernel
theorem dJx4a65c_fastRemove_b59b0_38 : decode cJx4a65c_fastRemove_b59b0 38 = .ok (.putfield 48, 3) := by decide +kernel
theorem dJx4a65c_fastRemove_b59b0_41 : decode cJx4a65c_fastRemove_b59b0 41 = .ok (.aconst_null, 1) := by decide +kernel
theorem dJx4a65c_fastRemove_b59b0_42 : decode cJx4a65c_fastRemove_b59b0 42 = .ok (.aastore, 1) := by decide +kernel
theorem dJx4a65c_fastRemove_b59b0_43 : decode cJx4a65c_fastRemove_b59b0 43 = .ok (.return_, 1) := by decide +kernel
theorem dJx4a65c_clear_da8c8_0 : decode cJx4a65c_clear_da8c8 0 = .ok (.aload_n 0, 1) := by decide +kernel
theorem dJx4a65c_clear_da8c8_1 : decode cJx4a65c_clear_da8c8 1 = .ok (.dup, 1) := by decide +kernel
theorem dJx4a65c_clear_da8c8_2 : decode cJx4a65c_clear_da8c8 2 = .ok (.getfield 63, 3) := by decide +kernel
theorem dJx4a65c_clear_da8c8_5 : decode cJx4a65c_clear_da8c8 5 = .ok (.iconst 1, 1) := by decide +kernel
theorem dJx4a65c_clear_da8c8_6 : decode cJx4a65c_clear_da8c8 6 = .ok (.iadd, 1) := by decide +kernel
theorem dJx4a65c_clear_da8c8_7 : decode cJx4a65c_clear_da8c8 7 = .ok (.putfield 63, 3) := by decide +kernel
theorem dJx4a65c_clear_da8c8_10 : decode cJx4a65c_clear_da8c8 10 = .ok (.aload_n 0, 1) := by decide +kernel
theorem dJx4a65c_clear_da8c8_11 : decode cJx4a65c_clear_da8c8 11 = .ok (.getfield 9, 3) := by decide +kernel
theorem dJx4a65c_clear_da8c8_14 : decode cJx4a65c_clear_da8c8 14 = .ok (.astore_n 1, 1) := by decide +kernel
theorem dJx4a65c_clear_da8c8_15 : decode cJx4a65c_clear_da8c8 15 = .ok (.aload_n 0, 1) := by decide +kernel
theorem dJx4a65c_clear_da8c8_16 : decode cJx4a65c_clear_da8c8 16 = .ok (.getfield 48, 3) := by decide +kernel
theorem dJx4a65c_clear_da8c8_19 : decode cJx4a65c_clear_da8c8 19 = .ok (.istore_n 2, 1) := by decide +kernel
theorem dJx4a65c_clear_da8c8_20 : decode cJx4a65c_clear_da8c8 20 = .ok (.aload_n 0, 1) := by decide +kernel
theorem dJx4a65c_clear_da8c8_21 : decode cJx4a65c_clear_da8c8 21 = .ok (.iconst 0, 1) := by decide +kernel
theorem dJx4a65c_clear_da8c8_22 : decode cJx4a65c_clear_da8c8 22 = .ok (.dup_x1, 1) := by decide +kernel
theorem dJx4a65c_clear_da8c8_23 : decode cJx4a65c_clear_da8c8 23 = .ok (.putfield 48, 3) := by decide +kernel
theorem dJx4a65c_clear_da8c8_26 : decode cJx4a65c_clear_da8c8 26 = .ok (.istore_n 3, 1) := by decide +kernel
theorem dJx4a65c_clear_da8c8_27 : decode cJx4a65c_clear_da8c8 27 = .ok (.iload_n 3, 1) := by decide +kernel
theorem dJx4a65c_clear_da8c8_28 : decode cJx4a65c_clear_da8c8 28 = .ok (.iload_n 2, 1) := by decide +kernel
theorem dJx4a65c_clear_da8c8_29 : decode cJx4a65c_clear_da8c8 29 = .ok (.if_icmp .ge 13, 3) := by decide +kernel
theorem dJx4a65c_clear_da8c8_32 : decode cJx4a65c_clear_da8c8 32 = .ok (.aload_n 1, 1) := by decide +kernel
theorem dJx4a65c_clear_da8c8_33 : decode cJx4a65c_clear_da8c8 33 = .ok (.iload_n 3, 1) := by decide +kernel
theorem dJx4a65c_clear_da8c8_34 : decode cJx4a65c_clear_da8c8 34 = .ok (.aconst_null, 1) := by decide +kernel
theorem dJx4a65c_clear_da8c8_35 : decode cJx4a65c_clear_da8c8 35 = .ok (.aastore, 1) := by decide +kernel
theorem dJx4a65c_clear_da8c8_36 : decode cJx4a65c_clear_da8c8 36 = .ok (.iinc 3 1, 3) := by decide +kernel
theorem dJx4a65c_clear_da8c8_39 : decode cJx4a65c_clear_da8c8 39 = .ok (.goto (-12), 3) := by decide +kernel
theorem dJx4a65c_clear_da8c8_42 : decode cJx4a65c_clear_da8c8 42 = .ok (.return_, 1) := by decide +kernel
theorem dJx4a65c_rangeCheckForAdd_d00df_0 : decode cJx4a65c_rangeCheckForAdd_d00df 0 = .ok (.iload_n 1, 1) := by decide +kernel
theorem dJx4a65c_rangeCheckForAdd_d00df_1 : decode cJx4a65c_rangeCheckForAdd_d00df 1 = .ok (.aload_n 0, 1) := by decide +kernel
theorem dJx4a65c_rangeCheckForAdd_d00df_2 : decode cJx4a65c_rangeCheckForAdd_d00df 2 = .ok (.getfield 48, 3) := by decide +kernel
theorem dJx4a65c_rangeCheckForAdd_d00df_5 : decode cJx4a65c_rangeCheckForAdd_d00df 5 = .ok (.if_icmp .gt 7, 3) := by decide +kernel
theorem dJx4a65c_rangeCheckForAdd_d00df_8 : decode cJx4a65c_rangeCheckForAdd_d00df 8 = .ok (.iload_n 1, 1) := by decide +kernel
theorem dJx4a65c_rangeCheckForAdd_d00df_9 : decode cJx4a65c_rangeCheckForAdd_d00df 9 = .ok (.ifCond .ge 16, 3) := by decide +kernel
theorem dJx4a65c_rangeCheckForAdd_d00df_12 : decode cJx4a65c_rangeCheckForAdd_d00df 12 = .ok (.new 187, 3) := by decide +kernel
theorem dJx4a65c_rangeCheckForAdd_d00df_15 : decode cJx4a65c_rangeCheckForAdd_d00df 15 = .ok (.dup, 1) := by decide +kernel
theorem dJx4a65c_rangeCheckForAdd_d00df_16 : decode cJx4a65c_rangeCheckForAdd_d00df 16 = .ok (.aload_n 0, 1) := by decide +kernel
theorem dJx4a65c_rangeCheckForAdd_d00df_17 : decode cJx4a65c_rangeCheckForAdd_d00df 17 = .ok (.iload_n 1, 1) := by decide +kernel
theorem dJx4a65c_rangeCheckForAdd_d00df_18 : decode cJx4a65c_rangeCheckForAdd_d00df 18 = .ok (.invokevirtual 198, 3) := by decide +kernel
theorem dJx4a65c_rangeCheckForAdd_d00df_21 : decode cJx4a65c_rangeCheckForAdd_d00df 21 = .ok (.invokespecial 193, 3) := by decide +kernel
theorem dJx4a65c_rangeCheckForAdd_d00df_24 : decode cJx4a65c_rangeCheckForAdd_d00df 24 = .ok (.athrow, 1) := by decide +kernel
theorem dJx4a65c_rangeCheckForAdd_d00df_25 : decode cJx4a65c_rangeCheckForAdd_d00df 25 = .ok (.return_, 1) := by decide +kernel
theorem dJx4a65c_outOfBoundsMsg_b52d3_0 : decode cJx4a65c_outOfBoundsMsg_b52d3 0 = .ok (.new 20, 3) := by decide +kernel
theorem dJx4a65c_outOfBoundsMsg_b52d3_3 : decode cJx4a65c_outOfBoundsMsg_b52d3 3 = .ok (.dup, 1) := by decide +kernel
theorem dJx4a65c_outOfBoundsMsg_b52d3_4 : decode cJx4a65c_outOfBoundsMsg_b52d3 4 = .ok (.invokespecial 22, 3) := by decide +kernel
theorem dJx4a65c_outOfBoundsMsg_b52d3_7 : decode cJx4a65c_outOfBoundsMsg_b52d3 7 = .ok (.ldc 201, 2) := by decide +kernel
theorem dJx4a65c_outOfBoundsMsg_b52d3_9 : decode cJx4a65c_outOfBoundsMsg_b52d3 9 = .ok (.invokevirtual 25, 3) := by decide +kernel
theorem dJx4a65c_outOfBoundsMsg_b52d3_12 : decode cJx4a65c_outOfBoundsMsg_b52d3 12 = .ok (.iload_n 1, 1) := by decide +kernel
theorem dJx4a65c_outOfBoundsMsg_b52d3_13 : decode cJx4a65c_outOfBoundsMsg_b52d3 13 = .ok (.invokevirtual 29, 3) := by decide +kernel
theorem dJx4a65c_outOfBoundsMsg_b52d3_16 : decode cJx4a65c_outOfBoundsMsg_b52d3 16 = .ok (.ldc 203, 2) := by decide +kernel
theorem dJx4a65c_outOfBoundsMsg_b52d3_18 : decode cJx4a65c_outOfBoundsMsg_b52d3 18 = .ok (.invokevirtual 25, 3) := by decide +kernel
theorem dJx4a65c_outOfBoundsMsg_b52d3_21 : decode cJx4a65c_outOfBoundsMsg_b52d3 21 = .ok (.aload_n 0, 1) := by decide +kernel
theorem dJx4a65c_outOfBoundsMsg_b52d3_22 : decode cJx4a65c_outOfBoundsMsg_b52d3 22 = .ok (.getfield 48, 3) := by decide +kernel
theorem dJx4a65c_outOfBoundsMsg_b52d3_25 : decode cJx4a65c_outOfBoundsMsg_b52d3 25 = .ok (.invokevirtual 29, 3) := by decide +kernel
theorem dJx4a65c_outOfBoundsMsg_b52d3_28 : decode cJx4a65c_outOfBoundsMsg_b52d3 28 = .ok (.invokevirtual 32, 3) := by decide +kernel
theorem dJx4a65c_outOfBoundsMsg_b52d3_31 : decode cJx4a65c_outOfBoundsMsg_b52d3 31 = .ok (.areturn, 1) := by decide +kernel
theorem dJ7_copyOf_1904c_0 : decode cJ7_copyOf_1904c 0 = .ok (.aload_n 0, 1) := by decide +kernel
theorem dJ7_copyOf_1904c_1 : decode cJ7_copyOf_1904c 1 = .ok (.iload_n 1, 1) := by decide +kernel
theorem dJ7_copyOf_1904c_2 : decode cJ7_copyOf_1904c 2 = .ok (.aload_n 0, 1) := by decide +kernel
theorem dJ7_copyOf_1904c_3 : decode cJ7_copyOf_1904c 3 = .ok (.invokevirtual 86, 3) := by decide +kernel
theorem dJ7_copyOf_1904c_6 : decode cJ7_copyOf_1904c 6 = .ok (.invokestatic 300, 3) := by decide +kernel
theorem dJ7_copyOf_1904c_9 : decode cJ7_copyOf_1904c 9 = .ok (.areturn, 1) := by decide +kernel
theorem dJ7_copyOf_6403c_0 : decode cJ7_copyOf_6403c 0 = .ok (.aload_n 2, 1) := by decide +kernel
theorem dJ7_copyOf_6403c_1 : decode cJ7_copyOf_6403c 1 = .ok (.ldc 110, 2) := by decide +kernel
theorem dJ7_copyOf_6403c_3 : decode cJ7_copyOf_6403c 3 = .ok (.if_acmp .ne 10, 3) := by decide +kernel
theorem dJ7_copyOf_6403c_6 : decode cJ7_copyOf_6403c 6 = .ok (.iload_n 1, 1) := by decide +kernel
theorem dJ7_copyOf_6403c_7 : decode cJ7_copyOf_6403c 7 = .ok (.anewarray 2, 3) := by decide +kernel
theorem dJ7_copyOf_6403c_10 : decode cJ7_copyOf_6403c 10 = .ok (.goto 14, 3) := by decide +kernel
theorem dJ7_copyOf_6403c_13 : decode cJ7_copyOf_6403c 13 = .ok (.aload_n 2, 1) := by decide +kernel
theorem dJ7_copyOf_6403c_14 : decode cJ7_copyOf_6403c 14 = .ok (.invokevirtual 90, 3) := by decide +kernel
theorem dJ7_copyOf_6403c_17 : decode cJ7_copyOf_6403c 17 = .ok (.iload_n 1, 1) := by decide +kernel
theorem dJ7_copyOf_6403c_18 : decode cJ7_copyOf_6403c 18 = .ok (.invokestatic 95, 3) := by decide +kernel
theorem dJ7_copyOf_6403c_21 : decode cJ7_copyOf_6403c 21 = .ok (.checkcast 110, 3) := by decide +kernel
theorem dJ7_copyOf_6403c_24 : decode cJ7_copyOf_6403c 24 = .ok (.astore_n 3, 1) := by decide +kernel
theorem dJ7_copyOf_6403c_25 : decode cJ7_copyOf_6403c 25 = .ok (.aload_n 0, 1) := by decide +kernel
theorem dJ7_copyOf_6403c_26 : decode cJ7_copyOf_6403c 26 = .ok (.iconst 0, 1) := by decide +kernel
theorem dJ7_copyOf_6403c_27 : decode cJ7_copyOf_6403c 27 = .ok (.aload_n 3, 1) := by decide +kernel
theorem dJ7_copyOf_6403c_28 : decode cJ7_copyOf_6403c 28 = .ok (.iconst 0, 1) := by decide +kernel
theorem dJ7_copyOf_6403c_29 : decode cJ7_copyOf_6403c 29 = .ok (.aload_n 0, 1) := by decide +kernel
theorem dJ7_copyOf_6403c_30 : decode cJ7_copyOf_6403c 30 = .ok (.arraylength, 1) := by decide +kernel
theorem dJ7_copyOf_6403c_31 : decode cJ7_copyOf_6403c 31 = .ok (.iload_n 1, 1) := by decide +kernel
theorem dJ7_copyOf_6403c_32 : decode cJ7_copyOf_6403c 32 = .ok (.invokestatic 304, 3) := by decide +kernel
theorem dJ7_copyOf_6403c_35 : decode cJ7_copyOf_6403c 35 = .ok (.invokestatic 150, 3) := by decide +kernel
theorem dJ7_copyOf_6403c_38 : decode cJ7_copyOf_6403c 38 = .ok (.aload_n 3, 1) := by decide +kernel
theorem dJ7_copyOf_6403c_39 : decode cJ7_copyOf_6403c 39 = .ok (.areturn, 1) := by decide +kernel
theorem dJ7_copyOf_9075b_0 : decode cJ7_copyOf_9075b 0 = .ok (.iload_n 1, 1) := by decide +kernel
theorem dJ7_copyOf_9075b_1 : decode cJ7_copyOf_9075b 1 = .ok (.aload_n 0, 1) := by decide +kernel
theorem dJ7_copyOf_9075b_2 : decode cJ7_copyOf_9075b 2 = .ok (.arraylength, 1) := by decide +kernel
theorem dJ7_copyOf_9075b_3 : decode cJ7_copyOf_9075b 3 = .ok (.if_icmp .ne 11, 3) := by decide +kernel
theorem dJ7_copyOf_9075b_6 : decode cJ7_copyOf_9075b 6 = .ok (.aload_n 0, 1) := by decide +kernel
theorem dJ7_copyOf_9075b_7 : decode cJ7_copyOf_9075b 7 = .ok (.invokevirtual 310, 3) := by decide +kernel
theorem dJ7_copyOf_9075b_10 : decode cJ7_copyOf_9075b 10 = .ok (.checkcast 311, 3) := by decide +kernel
theorem dJ7_copyOf_9075b_13 : decode cJ7_copyOf_9075b 13 = .ok (.areturn, 1) := by decide +kernel
theorem dJ7_copyOf_9075b_14 : decode cJ7_copyOf_9075b 14 = .ok (.iload_n 1, 1) := by decide +kernel
theorem dJ7_copyOf_9075b_15 : decode cJ7_copyOf_9075b 15 = .ok (.newarray .byte, 2) := by decide +kernel
theorem dJ7_copyOf_9075b_17 : decode cJ7_copyOf_9075b 17 = .ok (.astore_n 2, 1) := by decide +kernel
theorem dJ7_copyOf_9075b_18 : decode cJ7_copyOf_9075b 18 = .ok (.aload_n 0, 1) := by decide +kernel
theorem dJ7_copyOf_9075b_19 : decode cJ7_copyOf_9075b 19 = .ok (.iconst 0, 1) := by decide +kernel
theorem dJ7_copyOf_9075b_20 : decode cJ7_copyOf_9075b 20 = .ok (.aload_n 2, 1) := by decide +kernel
theorem dJ7_copyOf_9075b_21 : decode cJ7_copyOf_9075b 21 = .ok (.iconst 0, 1) := by decide +kernel
theorem dJ7_copyOf_9075b_22 : decode cJ7_copyOf_9075b 22 = .ok (.aload_n 0, 1) := by decide +kernel
theorem dJ7_copyOf_9075b_23 : decode cJ7_copyOf_9075b 23 = .ok (.arraylength, 1) := by decide +kernel
theorem dJ7_copyOf_9075b_24 : decode cJ7_copyOf_9075b 24 = .ok (.iload_n 1, 1) := by decide +kernel
theorem dJ7_copyOf_9075b_25 : decode cJ7_copyOf_9075b 25 = .ok (.invokestatic 304, 3) := by decide +kernel
theorem dJ7_copyOf_9075b_28 : decode cJ7_copyOf_9075b 28 = .ok (.invokestatic 150, 3) := by decide +kernel
theorem dJ7_copyOf_9075b_31 : decode cJ7_copyOf_9075b 31 = .ok (.aload_n 2, 1) := by decide +kernel
theorem dJ7_copyOf_9075b_32 : decode cJ7_copyOf_9075b 32 = .ok (.areturn, 1) := by decide +kernel
theorem dJ7_checkLength_df160_0 : decode cJ7_checkLength_df160 0 = .ok (.iload_n 1, 1) := by decide +kernel
theorem dJ7_checkLength_df160_1 : decode cJ7_checkLength_df160 1 = .ok (.iload_n 0, 1) := by decide +kernel
theorem dJ7_checkLength_df160_2 : decode cJ7_checkLength_df160 2 = .ok (.if_icmp .ge 35, 3) := by decide +kernel
theorem dJ7_checkLength_df160_5 : decode cJ7_checkLength_df160 5 = .ok (.new 43, 3) := by decide +kernel
theorem dJ7_checkLength_df160_8 : decode cJ7_checkLength_df160 8 = .ok (.dup, 1) := by decide +kernel
theorem dJ7_checkLength_df160_9 : decode cJ7_checkLength_df160 9 = .ok (.new 45, 3) := by decide +kernel
theorem dJ7_checkLength_df160_12 : decode cJ7_checkLength_df160 12 = .ok (.dup, 1) := by decide +kernel
theorem dJ7_checkLength_df160_13 : decode cJ7_checkLength_df160 13 = .ok (.invokespecial 47, 3) := by decide +kernel
theorem dJ7_checkLength_df160_16 : decode cJ7_checkLength_df160 16 = .ok (.iload_n 0, 1) := by decide +kernel
theorem dJ7_checkLength_df160_17 : decode cJ7_checkLength_df160 17 = .ok (.invokevirtual 54, 3) := by decide +kernel
theorem dJ7_checkLength_df160_20 : decode cJ7_checkLength_df160 20 = .ok (.ldc_w 337, 3) := by decide +kernel
theorem dJ7_checkLength_df160_23 : decode cJ7_checkLength_df160 23 = .ok (.invokevirtual 50, 3) := by decide +kernel
theorem dJ7_checkLength_df160_26 : decode cJ7_checkLength_df160 26 = .ok (.iload_n 1, 1) := by decide +kernel
theorem dJ7_checkLength_df160_27 : decode cJ7_checkLength_df160 27 = .ok (.invokevirtual 54, 3) := by decide +kernel
theorem dJ7_checkLength_df160_30 : decode cJ7_checkLength_df160 30 = .ok (.invokevirtual 61, 3) := by decide +kernel
theorem dJ7_checkLength_df160_33 : decode cJ7_checkLength_df160 33 = .ok (.invokespecial 65, 3) := by decide +kernel
theorem dJ7_checkLength_df160_36 : decode cJ7_checkLength_df160 36 = .ok (.athrow, 1) := by decide +kernel
theorem dJ7_checkLength_df160_37 : decode cJ7_checkLength_df160 37 = .ok (.return_, 1) := by decide +kernel
theorem dJ7_copyOfRange_39247_0 : decode cJ7_copyOfRange_39247 0 = .ok (.iload_n 1, 1) := by decide +kernel
theorem dJ7_copyOfRange_39247_1 : decode cJ7_copyOfRange_39247 1 = .ok (.ifCond .ne 9, 3) := by decide +kernel
theorem dJ7_copyOfRange_39247_4 : decode cJ7_copyOfRange_39247 4 = .ok (.iload_n 2, 1) := by decide +kernel
theorem dJ7_copyOfRange_39247_5 : decode cJ7_copyOfRange_39247 5 = .ok (.aload_n 0, 1) := by decide +kernel
theorem dJ7_copyOfRange_39247_6 : decode cJ7_copyOfRange_39247 6 = .ok (.arraylength, 1) := by decide +kernel
theorem dJ7_copyOfRange_39247_7 : decode cJ7_copyOfRange_39247 7 = .ok (.if_icmp .eq 10, 3) := by decide +kernel
theorem dJ7_copyOfRange_39247_10 : decode cJ7_copyOfRange_39247 10 = .ok (.aload_n 0, 1) := by decide +kernel
theorem dJ7_copyOfRange_39247_11 : decode cJ7_copyOfRange_39247 11 = .ok (.iload_n 1, 1) := by decide +kernel
theorem dJ7_copyOfRange_39247_12 : decode cJ7_copyOfRange_39247 12 = .ok (.iload_n 2, 1) := by decide +kernel
theorem dJ7_copyOfRange_39247_13 : decode cJ7_copyOfRange_39247 13 = .ok (.invokestatic 339, 3) := by decide +kernel
theorem dJ7_copyOfRange_39247_16 : decode cJ7_copyOfRange_39247 16 = .ok (.areturn, 1) := by decide +kernel
theorem dJ7_copyOfRange_39247_17 : decode cJ7_copyOfRange_39247 17 = .ok (.aload_n 0, 1) := by decide +kernel
theorem dJ7_copyOfRange_39247_18 : decode cJ7_copyOfRange_39247 18 = .ok (.invokevirtual 310, 3) := by decide +kernel
theorem dJ7_copyOfRange_39247_21 : decode cJ7_copyOfRange_39247 21 = .ok (.checkcast 311, 3) := by decide +kernel
theorem dJ7_copyOfRange_39247_24 : decode cJ7_copyOfRange_39247 24 = .ok (.areturn, 1) := by decide +kernel
theorem dJ7_copyOfRangeByte_39247_0 : decode cJ7_copyOfRangeByte_39247 0 = .ok (.iload_n 1, 1) := by decide +kernel
theorem dJ7_copyOfRangeByte_39247_1 : decode cJ7_copyOfRangeByte_39247 1 = .ok (.iload_n 2, 1) := by decide +kernel
theorem dJ7_copyOfRangeByte_39247_2 : decode cJ7_copyOfRangeByte_39247 2 = .ok (.invokestatic 343, 3) := by decide +kernel
theorem dJ7_copyOfRangeByte_39247_5 : decode cJ7_copyOfRangeByte_39247 5 = .ok (.iload_n 2, 1) := by decide +kernel
theorem dJ7_copyOfRangeByte_39247_6 : decode cJ7_copyOfRangeByte_39247 6 = .ok (.iload_n 1, 1) := by decide +kernel
theorem dJ7_copyOfRangeByte_39247_7 : decode cJ7_copyOfRangeByte_39247 7 = .ok (.isub, 1) := by decide +kernel
theorem dJ7_copyOfRangeByte_39247_8 : decode cJ7_copyOfRangeByte_39247 8 = .ok (.istore_n 3, 1) := by decide +kernel
theorem dJ7_copyOfRangeByte_39247_9 : decode cJ7_copyOfRangeByte_39247 9 = .ok (.iload_n 3, 1) := by decide +kernel
theorem dJ7_copyOfRangeByte_39247_10 : decode cJ7_copyOfRangeByte_39247 10 = .ok (.newarray .byte, 2) := by decide +kernel
theorem dJ7_copyOfRangeByte_39247_12 : decode cJ7_copyOfRangeByte_39247 12 = .ok (.astore 4, 2) := by decide +kernel
theorem dJ7_copyOfRangeByte_39247_14 : decode cJ7_copyOfRangeByte_39247 14 = .ok (.aload_n 0, 1) := by decide +kernel
theorem dJ7_copyOfRangeByte_39247_15 : decode cJ7_copyOfRangeByte_39247 15 = .ok (.iload_n 1, 1) := by decide +kernel
theorem dJ7_copyOfRangeByte_39247_16 : decode cJ7_copyOfRangeByte_39247 16 = .ok (.aload 4, 2) := by decide +kernel
theorem dJ7_copyOfRangeByte_39247_18 : decode cJ7_copyOfRangeByte_39247 18 = .ok (.iconst 0, 1) := by decide +kernel
theorem dJ7_copyOfRangeByte_39247_19 : decode cJ7_copyOfRangeByte_39247 19 = .ok (.aload_n 0, 1) := by decide +kernel
theorem dJ7_copyOfRangeByte_39247_20 : decode cJ7_copyOfRangeByte_39247 20 = .ok (.arraylength, 1) := by decide +kernel
theorem dJ7_copyOfRangeByte_39247_21 : decode cJ7_copyOfRangeByte_39247 21 = .ok (.iload_n 1, 1) := by decide +kernel
theorem dJ7_copyOfRangeByte_39247_22 : decode cJ7_copyOfRangeByte_39247 22 = .ok (.isub, 1) := by decide +kernel
theorem dJ7_copyOfRangeByte_39247_23 : decode cJ7_copyOfRangeByte_39247 23 = .ok (.iload_n 3, 1) := by decide +kernel
theorem dJ7_copyOfRangeByte_39247_24 : decode cJ7_copyOfRangeByte_39247 24 = .ok (.invokestatic 304, 3) := by decide +kernel
theorem dJ7_copyOfRangeByte_39247_27 : decode cJ7_copyOfRangeByte_39247 27 = .ok (.invokestatic 150, 3) := by decide +kernel
theorem dJ7_copyOfRangeByte_39247_30 : decode cJ7_copyOfRangeByte_39247 30 = .ok (.aload 4, 2) := by decide +kernel
theorem dJ7_copyOfRangeByte_39247_32 : decode cJ7_copyOfRangeByte_39247 32 = .ok (.areturn, 1) := by decide +kernel
theorem dJ15_checkIndex_7cf53_0 : decode cJ15_checkIndex_7cf53 0 = .ok (.iload_n 0, 1) := by decide +kernel
theorem dJ15_checkIndex_7cf53_1 : decode cJ15_checkIndex_7cf53 1 = .ok (.iload_n 1, 1) := by decide +kernel
theorem dJ15_checkIndex_7cf53_2 : decode cJ15_checkIndex_7cf53 2 = .ok (.aconst_null, 1) := by decide +kernel
theorem dJ15_checkIndex_7cf53_3 : decode cJ15_checkIndex_7cf53 3 = .ok (.invokestatic 105, 3) := by decide +kernel
theorem dJ15_checkIndex_7cf53_6 : decode cJ15_checkIndex_7cf53 6 = .ok (.ireturn, 1) := by decide +kernel
theorem dJ8_newLength_cabcc_0 : decode cJ8_newLength_cabcc 0 = .ok (.iload_n 0, 1) := by decide +kernel
theorem dJ8_newLength_cabcc_1 : decode cJ8_newLength_cabcc 1 = .ok (.iload_n 1, 1) := by decide +kernel
theorem dJ8_newLength_cabcc_2 : decode cJ8_newLength_cabcc 2 = .ok (.iload_n 2, 1) := by decide +kernel
theorem dJ8_newLength_cabcc_3 : decode cJ8_newLength_cabcc 3 = .ok (.invokestatic 194, 3) := by decide +kernel
theorem dJ8_newLength_cabcc_6 : decode cJ8_newLength_cabcc 6 = .ok (.iadd, 1) := by decide +kernel
theorem dJ8_newLength_cabcc_7 : decode cJ8_newLength_cabcc 7 = .ok (.istore_n 3, 1) := by decide +kernel
theorem dJ8_newLength_cabcc_8 : decode cJ8_newLength_cabcc 8 = .ok (.iconst 0, 1) := by decide +kernel
theorem dJ8_newLength_cabcc_9 : decode cJ8_newLength_cabcc 9 = .ok (.iload_n 3, 1) := by decide +kernel
theorem dJ8_newLength_cabcc_10 : decode cJ8_newLength_cabcc 10 = .ok (.if_icmp .ge 11, 3) := by decide +kernel
theorem dJ8_newLength_cabcc_13 : decode cJ8_newLength_cabcc 13 = .ok (.iload_n 3, 1) := by decide +kernel
theorem dJ8_newLength_cabcc_14 : decode cJ8_newLength_cabcc 14 = .ok (.ldc 200, 2) := by decide +kernel
theorem dJ8_newLength_cabcc_16 : decode cJ8_newLength_cabcc 16 = .ok (.if_icmp .gt 5, 3) := by decide +kernel
theorem dJ8_newLength_cabcc_19 : decode cJ8_newLength_cabcc 19 = .ok (.iload_n 3, 1) := by decide +kernel
theorem dJ8_newLength_cabcc_20 : decode cJ8_newLength_cabcc 20 = .ok (.ireturn, 1) := by decide +kernel
theorem dJ8_newLength_cabcc_21 : decode cJ8_newLength_cabcc 21 = .ok (.iload_n 0, 1) := by decide +kernel
theorem dJ8_newLength_cabcc_22 : decode cJ8_newLength_cabcc 22 = .ok (.iload_n 1, 1) := by decide +kernel
theorem dJ8_newLength_cabcc_23 : decode cJ8_newLength_cabcc 23 = .ok (.invokestatic 201, 3) := by decide +kernel
theorem dJ8_newLength_cabcc_26 : decode cJ8_newLength_cabcc 26 = .ok (.ireturn, 1) := by decide +kernel
theorem dJ8_hugeLength_7cf53_0 : decode cJ8_hugeLength_7cf53 0 = .ok (.iload_n 0, 1) := by decide +kernel
theorem dJ8_hugeLength_7cf53_1 : decode cJ8_hugeLength_7cf53 1 = .ok (.iload_n 1, 1) := by decide +kernel
theorem dJ8_hugeLength_7cf53_2 : decode cJ8_hugeLength_7cf53 2 = .ok (.iadd, 1) := by decide +kernel
theorem dJ8_hugeLength_7cf53_3 : decode cJ8_hugeLength_7cf53 3 = .ok (.istore_n 2, 1) := by decide +kernel
theorem dJ8_hugeLength_7cf53_4 : decode cJ8_hugeLength_7cf53 4 = .ok (.iload_n 2, 1) := by decide +kernel
theorem dJ8_hugeLength_7cf53_5 : decode cJ8_hugeLength_7cf53 5 = .ok (.ifCond .ge 44, 3) := by decide +kernel
theorem dJ8_hugeLength_7cf53_8 : decode cJ8_hugeLength_7cf53 8 = .ok (.new 204, 3) := by decide +kernel
theorem dJ8_hugeLength_7cf53_11 : decode cJ8_hugeLength_7cf53 11 = .ok (.dup, 1) := by decide +kernel
theorem dJ8_hugeLength_7cf53_12 : decode cJ8_hugeLength_7cf53 12 = .ok (.new 89, 3) := by decide +kernel
theorem dJ8_hugeLength_7cf53_15 : decode cJ8_hugeLength_7cf53 15 = .ok (.dup, 1) := by decide +kernel
theorem dJ8_hugeLength_7cf53_16 : decode cJ8_hugeLength_7cf53 16 = .ok (.invokespecial 91, 3) := by decide +kernel
theorem dJ8_hugeLength_7cf53_19 : decode cJ8_hugeLength_7cf53 19 = .ok (.ldc 206, 2) := by decide +kernel
theorem dJ8_hugeLength_7cf53_21 : decode cJ8_hugeLength_7cf53 21 = .ok (.invokevirtual 94, 3) := by decide +kernel
theorem dJ8_hugeLength_7cf53_24 : decode cJ8_hugeLength_7cf53 24 = .ok (.iload_n 0, 1) := by decide +kernel
theorem dJ8_hugeLength_7cf53_25 : decode cJ8_hugeLength_7cf53 25 = .ok (.invokevirtual 98, 3) := by decide +kernel
theorem dJ8_hugeLength_7cf53_28 : decode cJ8_hugeLength_7cf53 28 = .ok (.ldc 208, 2) := by decide +kernel
theorem dJ8_hugeLength_7cf53_30 : decode cJ8_hugeLength_7cf53 30 = .ok (.invokevirtual 94, 3) := by decide +kernel
theorem dJ8_hugeLength_7cf53_33 : decode cJ8_hugeLength_7cf53 33 = .ok (.iload_n 1, 1) := by decide +kernel
theorem dJ8_hugeLength_7cf53_34 : decode cJ8_hugeLength_7cf53 34 = .ok (.invokevirtual 98, 3) := by decide +kernel
theorem dJ8_hugeLength_7cf53_37 : decode cJ8_hugeLength_7cf53 37 = .ok (.ldc 210, 2) := by decide +kernel
theorem dJ8_hugeLength_7cf53_39 : decode cJ8_hugeLength_7cf53 39 = .ok (.invokevirtual 94, 3) := by decide +kernel
theorem dJ8_hugeLength_7cf53_42 : decode cJ8_hugeLength_7cf53 42 = .ok (.invokevirtual 101, 3) := by decide +kernel
theorem dJ8_hugeLength_7cf53_45 : decode cJ8_hugeLength_7cf53 45 = .ok (.invokespecial 212, 3) := by decide +kernel
theorem dJ8_hugeLength_7cf53_48 : decode cJ8_hugeLength_7cf53 48 = .ok (.athrow, 1) := by decide +kernel
theorem dJ8_hugeLength_7cf53_49 : decode cJ8_hugeLength_7cf53 49 = .ok (.iload_n 2, 1) := by decide +kernel
theorem dJ8_hugeLength_7cf53_50 : decode cJ8_hugeLength_7cf53 50 = .ok (.ldc 200, 2) := by decide +kernel
theorem dJ8_hugeLength_7cf53_52 : decode cJ8_hugeLength_7cf53 52 = .ok (.if_icmp .gt 6, 3) := by decide +kernel
theorem dJ8_hugeLength_7cf53_55 : decode cJ8_hugeLength_7cf53 55 = .ok (.ldc 200, 2) := by decide +kernel
theorem dJ8_hugeLength_7cf53_57 : decode cJ8_hugeLength_7cf53 57 = .ok (.ireturn, 1) := by decide +kernel
theorem dJ8_hugeLength_7cf53_58 : decode cJ8_hugeLength_7cf53 58 = .ok (.iload_n 2, 1) := by decide +kernel
theorem dJ8_hugeLength_7cf53_59 : decode cJ8_hugeLength_7cf53 59 = .ok (.ireturn, 1) := by decide +kernel
theorem dJ3_checkIndex_8e157_0 : decode cJ3_checkIndex_8e157 0 = .ok (.iload_n 0, 1) := by decide +kernel
theorem dJ3_checkIndex_8e157_1 : decode cJ3_checkIndex_8e157 1 = .ok (.ifCond .lt 8, 3) := by decide +kernel
theorem dJ3_checkIndex_8e157_4 : decode cJ3_checkIndex_8e157 4 = .ok (.iload_n 0, 1) := by decide +kernel
theorem dJ3_checkIndex_8e157_5 : decode cJ3_checkIndex_8e157 5 = .ok (.iload_n 1, 1) := by decide +kernel
theorem dJ3_checkIndex_8e157_6 : decode cJ3_checkIndex_8e157 6 = .ok (.if_icmp .lt 10, 3) := by decide +kernel
theorem dJ3_checkIndex_8e157_9 : decode cJ3_checkIndex_8e157 9 = .ok (.aload_n 2, 1) := by decide +kernel
theorem dJ3_checkIndex_8e157_10 : decode cJ3_checkIndex_8e157 10 = .ok (.iload_n 0, 1) := by decide +kernel
theorem dJ3_checkIndex_8e157_11 : decode cJ3_checkIndex_8e157 11 = .ok (.iload_n 1, 1) := by decide +kernel
theorem dJ3_checkIndex_8e157_12 : decode cJ3_checkIndex_8e157 12 = .ok (.invokestatic 95, 3) := by decide +kernel
theorem dJ3_checkIndex_8e157_15 : decode cJ3_checkIndex_8e157 15 = .ok (.athrow, 1) := by decide +kernel
theorem dJ3_checkIndex_8e157_16 : decode cJ3_checkIndex_8e157 16 = .ok (.iload_n 0, 1) := by decide +kernel
theorem dJ3_checkIndex_8e157_17 : decode cJ3_checkIndex_8e157 17 = .ok (.ireturn, 1) := by decide +kernel
theorem dJ3_checkFromToIndex_8c36e_0 : decode cJ3_checkFromToIndex_8c36e 0 = .ok (.iload_n 0, 1) := by decide +kernel
theorem dJ3_checkFromToIndex_8c36e_1 : decode cJ3_checkFromToIndex_8c36e 1 = .ok (.ifCond .lt 13, 3) := by decide +kernel
theorem dJ3_checkFromToIndex_8c36e_4 : decode cJ3_checkFromToIndex_8c36e 4 = .ok (.iload_n 0, 1) := by decide +kernel
theorem dJ3_checkFromToIndex_8c36e_5 : decode cJ3_checkFromToIndex_8c36e 5 = .ok (.iload_n 1, 1) := by decide +kernel
theorem dJ3_checkFromToIndex_8c36e_6 : decode cJ3_checkFromToIndex_8c36e 6 = .ok (.if_icmp .gt 8, 3) := by decide +kernel
theorem dJ3_checkFromToIndex_8c36e_9 : decode cJ3_checkFromToIndex_8c36e 9 = .ok (.iload_n 1, 1) := by decide +kernel
theorem dJ3_checkFromToIndex_8c36e_10 : decode cJ3_checkFromToIndex_8c36e 10 = .ok (.iload_n 2, 1) := by decide +kernel
theorem dJ3_checkFromToIndex_8c36e_11 : decode cJ3_checkFromToIndex_8c36e 11 = .ok (.if_icmp .le 11, 3) := by decide +kernel
theorem dJ3_checkFromToIndex_8c36e_14 : decode cJ3_checkFromToIndex_8c36e 14 = .ok (.aload_n 3, 1) := by decide +kernel
theorem dJ3_checkFromToIndex_8c36e_15 : decode cJ3_checkFromToIndex_8c36e 15 = .ok (.iload_n 0, 1) := by decide +kernel
theorem dJ3_checkFromToIndex_8c36e_16 : decode cJ3_checkFromToIndex_8c36e 16 = .ok (.iload_n 1, 1) := by decide +kernel
theorem dJ3_checkFromToIndex_8c36e_17 : decode cJ3_checkFromToIndex_8c36e 17 = .ok (.iload_n 2, 1) := by decide +kernel
theorem dJ3_checkFromToIndex_8c36e_18 : decode cJ3_checkFromToIndex_8c36e 18 = .ok (.invokestatic 99, 3) := by decide +kernel
theorem dJ3_checkFromToIndex_8c36e_21 : decode cJ3_checkFromToIndex_8c36e 21 = .ok (.athrow, 1) := by decide +kernel
theorem dJ3_checkFromToIndex_8c36e_22 : decode cJ3_checkFromToIndex_8c36e 22 = .ok (.iload_n 0, 1) := by decide +kernel
theorem dJ3_checkFromToIndex_8c36e_23 : decode cJ3_checkFromToIndex_8c36e 23 = .ok (.ireturn, 1) := by decide +kernel
theorem dJ3_checkFromIndexSize_8c36e_0 : decode cJ3_checkFromIndexSize_8c36e 0 = .ok (.iload_n 2, 1) := by decide +kernel
theorem dJ3_checkFromIndexSize_8c36e_1 : decode cJ3_checkFromIndexSize_8c36e 1 = .ok (.iload_n 0, 1) := by decide +kernel
theorem dJ3_checkFromIndexSize_8c36e_2 : decode cJ3_checkFromIndexSize_8c36e 2 = .ok (.ior, 1) := by decide +kernel
theorem dJ3_checkFromIndexSize_8c36e_3 : decode cJ3_checkFromIndexSize_8c36e 3 = .ok (.iload_n 1, 1) := by decide +kernel
theorem dJ3_checkFromIndexSize_8c36e_4 : decode cJ3_checkFromIndexSize_8c36e 4 = .ok (.ior, 1) := by decide +kernel
theorem dJ3_checkFromIndexSize_8c36e_5 : decode cJ3_checkFromIndexSize_8c36e 5 = .ok (.ifCond .lt 10, 3) := by decide +kernel
theorem dJ3_checkFromIndexSize_8c36e_8 : decode cJ3_checkFromIndexSize_8c36e 8 = .ok (.iload_n 1, 1) := by decide +kernel
theorem dJ3_checkFromIndexSize_8c36e_9 : decode cJ3_checkFromIndexSize_8c36e 9 = .ok (.iload_n 2, 1) := by decide +kernel
theorem dJ3_checkFromIndexSize_8c36e_10 : decode cJ3_checkFromIndexSize_8c36e 10 = .ok (.iload_n 0, 1) := by decide +kernel
theorem dJ3_checkFromIndexSize_8c36e_11 : decode cJ3_checkFromIndexSize_8c36e 11 = .ok (.isub, 1) := by decide +kernel
theorem dJ3_checkFromIndexSize_8c36e_12 : decode cJ3_checkFromIndexSize_8c36e 12 = .ok (.if_icmp .le 11, 3) := by decide +kernel
theorem dJ3_checkFromIndexSize_8c36e_15 : decode cJ3_checkFromIndexSize_8c36e 15 = .ok (.aload_n 3, 1) := by decide +kernel
theorem dJ3_checkFromIndexSize_8c36e_16 : decode cJ3_checkFromIndexSize_8c36e 16 = .ok (.iload_n 0, 1) := by decide +kernel
theorem dJ3_checkFromIndexSize_8c36e_17 : decode cJ3_checkFromIndexSize_8c36e 17 = .ok (.iload_n 1, 1) := by decide +kernel
theorem dJ3_checkFromIndexSize_8c36e_18 : decode cJ3_checkFromIndexSize_8c36e 18 = .ok (.iload_n 2, 1) := by decide +kernel
theorem dJ3_checkFromIndexSize_8c36e_19 : decode cJ3_checkFromIndexSize_8c36e 19 = .ok (.invokestatic 103, 3) := by decide +kernel
theorem dJ3_checkFromIndexSize_8c36e_22 : decode cJ3_checkFromIndexSize_8c36e 22 = .ok (.athrow, 1) := by decide +kernel
theorem dJ3_checkFromIndexSize_8c36e_23 : decode cJ3_checkFromIndexSize_8c36e 23 = .ok (.iload_n 0, 1) := by decide +kernel
theorem dJ3_checkFromIndexSize_8c36e_24 : decode cJ3_checkFromIndexSize_8c36e 24 = .ok (.ireturn, 1) := by decide +kernel
end
section
theorem dX9_init_0 : decode cX9_init 0 = .ok (.aload_n 0, 1) := by decide +kernel
theorem dX9_init_1 : decode cX9_init 1 = .ok (.invokespecial 1, 3) := by decide +kernel
theorem dX9_init_4 : decode cX9_init 4 = .ok (.aload_n 0, 1) := by decide +kernel
theorem dX9_init_5 : decode cX9_init 5 = .ok (.sipush 1401, 3) := by decide +kernel
theorem dX9_init_8 : decode cX9_init 8 = .ok (.newarray .int, 2) := by decide +kernel
theorem dX9_init_10 : decode cX9_init 10 = .ok (.putfield 7, 3) := by decide +kernel
theorem dX9_init_13 : decode cX9_init 13 = .ok (.aload_n 0, 1) := by decide +kernel
theorem dX9_init_14 : decode cX9_init 14 = .ok (.sipush 1401, 3) := by decide +kernel
theorem dX9_init_17 : decode cX9_init 17 = .ok (.newarray .int, 2) := by decide +kernel
theorem dX9_init_19 : decode cX9_init 19 = .ok (.putfield 13, 3) := by decide +kernel
theorem dX9_init_22 : decode cX9_init 22 = .ok (.aload_n 0, 1) := by decide +kernel
theorem dX9_init_23 : decode cX9_init 23 = .ok (.sipush 1401, 3) := by decide +kernel
theorem dX9_init_26 : decode cX9_init 26 = .ok (.newarray .int, 2) := by decide +kernel
theorem dX9_init_28 : decode cX9_init 28 = .ok (.putfield 16, 3) := by decide +kernel
theorem dX9_init_31 : decode cX9_init 31 = .ok (.aload_n 0, 1) := by decide +kernel
theorem dX9_init_32 : decode cX9_init 32 = .ok (.sipush 1401, 3) := by decide +kernel
theorem dX9_init_35 : decode cX9_init 35 = .ok (.newarray .int, 2) := by decide +kernel
theorem dX9_init_37 : decode cX9_init 37 = .ok (.putfield 19, 3) := by decide +kernel
theorem dX9_init_40 : decode cX9_init 40 = .ok (.aload_n 0, 1) := by decide +kernel
theorem dX9_init_41 : decode cX9_init 41 = .ok (.sipush 1401, 3) := by decide +kernel
theorem dX9_init_44 : decode cX9_init 44 = .ok (.newarray .int, 2) := by decide +kernel
theorem dX9_init_46 : decode cX9_init 46 = .ok (.putfield 22, 3) := by decide +kernel
theorem dX9_init_49 : decode cX9_init 49 = .ok (.aload_n 0, 1) := by decide +kernel
theorem dX9_init_50 : decode cX9_init 50 = .ok (.sipush 603, 3) := by decide +kernel
theorem dX9_init_53 : decode cX9_init 53 = .ok (.newarray .int, 2) := by decide +kernel
theorem dX9_init_55 : decode cX9_init 55 = .ok (.putfield 25, 3) := by decide +kernel
theorem dX9_init_58 : decode cX9_init 58 = .ok (.aload_n 0, 1) := by decide +kernel
theorem dX9_init_59 : decode cX9_init 59 = .ok (.sipush 603, 3) := by decide +kernel
theorem dX9_init_62 : decode cX9_init 62 = .ok (.newarray .int, 2) := by decide +kernel
theorem dX9_init_64 : decode cX9_init 64 = .ok (.putfield 28, 3) := by decide +kernel
theorem dX9_init_67 : decode cX9_init 67 = .ok (.aload_n 0, 1) := by decide +kernel
theorem dX9_init_68 : decode cX9_init 68 = .ok (.sipush 603, 3) := by decide +kernel
theorem dX9_init_71 : decode cX9_init 71 = .ok (.newarray .int, 2) := by decide +kernel
theorem dX9_init_73 : decode cX9_init 73 = .ok (.putfield 31, 3) := by decide +kernel
theorem dX9_init_76 : decode cX9_init 76 = .ok (.aload_n 0, 1) := by decide +kernel
theorem dX9_init_77 : decode cX9_init 77 = .ok (.iconst 3, 1) := by decide +kernel
theorem dX9_init_78 : decode cX9_init 78 = .ok (.newarray .int, 2) := by decide +kernel
theorem dX9_init_80 : decode cX9_init 80 = .ok (.putfield 34, 3) := by decide +kernel
theorem dX9_init_83 : decode cX9_init 83 = .ok (.aload_n 0, 1) := by decide +kernel
theorem dX9_init_84 : decode cX9_init 84 = .ok (.iconst 2, 1) := by decide +kernel
theorem dX9_init_85 : decode cX9_init 85 = .ok (.newarray .int, 2) := by decide +kernel
theorem dX9_init_87 : decode cX9_init 87 = .ok (.putfield 37, 3) := by decide +kernel
theorem dX9_init_90 : decode cX9_init 90 = .ok (.aload_n 0, 1) := by decide +kernel
theorem dX9_init_91 : decode cX9_init 91 = .ok (.iconst 2, 1) := by decide +kernel
theorem dX9_init_92 : decode cX9_init 92 = .ok (.newarray .int, 2) := by decide +kernel
theorem dX9_init_94 : decode cX9_init 94 = .ok (.putfield 40, 3) := by decide +kernel
theorem dX9_init_97 : decode cX9_init 97 = .ok (.aload_n 0, 1) := by decide +kernel
theorem dX9_init_98 : decode cX9_init 98 = .ok (.iconst 2, 1) := by decide +kernel
theorem dX9_init_99 : decode cX9_init 99 = .ok (.newarray .int, 2) := by decide +kernel
theorem dX9_init_101 : decode cX9_init 101 = .ok (.putfield 43, 3) := by decide +kernel
theorem dX9_init_104 : decode cX9_init 104 = .ok (.aload_n 0, 1) := by decide +kernel
theorem dX9_init_105 : decode cX9_init 105 = .ok (.iconst 2, 1) := by decide +kernel
theorem dX9_init_106 : decode cX9_init 106 = .ok (.newarray .int, 2) := by decide +kernel
theorem dX9_init_108 : decode cX9_init 108 = .ok (.putfield 46, 3) := by decide +kernel
theorem dX9_init_111 : decode cX9_init 111 = .ok (.aload_n 0, 1) := by decide +kernel
theorem dX9_init_112 : decode cX9_init 112 = .ok (.iconst 2, 1) := by decide +kernel
theorem dX9_init_113 : decode cX9_init 113 = .ok (.newarray .int, 2) := by decide +kernel
theorem dX9_init_115 : decode cX9_init 115 = .ok (.putfield 49, 3) := by decide +kernel
theorem dX9_init_118 : decode cX9_init 118 = .ok (.aload_n 0, 1) := by decide +kernel
theorem dX9_init_119 : decode cX9_init 119 = .ok (.iconst 2, 1) := by decide +kernel
theorem dX9_init_120 : decode cX9_init 120 = .ok (.newarray .int, 2) := by decide +kernel
theorem dX9_init_122 : decode cX9_init 122 = .ok (.putfield 52, 3) := by decide +kernel
theorem dX9_init_125 : decode cX9_init 125 = .ok (.aload_n 0, 1) := by decide +kernel
theorem dX9_init_126 : decode cX9_init 126 = .ok (.iconst 2, 1) := by decide +kernel
theorem dX9_init_127 : decode cX9_init 127 = .ok (.newarray .int, 2) := by decide +kernel
theorem dX9_init_129 : decode cX9_init 129 = .ok (.putfield 55, 3) := by decide +kernel
theorem dX9_init_132 : decode cX9_init 132 = .ok (.aload_n 0, 1) := by decide +kernel
theorem dX9_init_133 : decode cX9_init 133 = .ok (.iconst 2, 1) := by decide +kernel
theorem dX9_init_134 : decode cX9_init 134 = .ok (.newarray .boolean, 2) := by decide +kernel
theorem dX9_init_136 : decode cX9_init 136 = .ok (.putfield 58, 3) := by decide +kernel
theorem dX9_init_139 : decode cX9_init 139 = .ok (.aload_n 0, 1) := by decide +kernel
theorem dX9_init_140 : decode cX9_init 140 = .ok (.iconst 2, 1) := by decide +kernel
theorem dX9_init_141 : decode cX9_init 141 = .ok (.newarray .boolean, 2) := by decide +kernel
theorem dX9_init_143 : decode cX9_init 143 = .ok (.putfield 62, 3) := by decide +kernel
theorem dX9_init_146 : decode cX9_init 146 = .ok (.aload_n 0, 1) := by decide +kernel
theorem dX9_init_147 : decode cX9_init 147 = .ok (.sipush 400, 3) := by decide +kernel
theorem dX9_init_150 : decode cX9_init 150 = .ok (.newarray .int, 2) := by decide +kernel
theorem dX9_init_152 : decode cX9_init 152 = .ok (.putfield 65, 3) := by decide +kernel
theorem dX9_init_155 : decode cX9_init 155 = .ok (.aload_n 0, 1) := by decide +kernel
theorem dX9_init_156 : decode cX9_init 156 = .ok (.sipush 400, 3) := by decide +kernel
theorem dX9_init_159 : decode cX9_init 159 = .ok (.newarray .int, 2) := by decide +kernel
theorem dX9_init_161 : decode cX9_init 161 = .ok (.putfield 68, 3) := by decide +kernel
theorem dX9_init_164 : decode cX9_init 164 = .ok (.aload_n 0, 1) := by decide +kernel
theorem dX9_init_165 : decode cX9_init 165 = .ok (.sipush 400, 3) := by decide +kernel
theorem dX9_init_168 : decode cX9_init 168 = .ok (.newarray .int, 2) := by decide +kernel
theorem dX9_init_170 : decode cX9_init 170 = .ok (.putfield 71, 3) := by decide +kernel
theorem dX9_init_173 : decode cX9_init 173 = .ok (.aload_n 0, 1) := by decide +kernel
theorem dX9_init_174 : decode cX9_init 174 = .ok (.sipush 400, 3) := by decide +kernel
theorem dX9_init_177 : decode cX9_init 177 = .ok (.newarray .int, 2) := by decide +kernel
theorem dX9_init_179 : decode cX9_init 179 = .ok (.putfield 74, 3) := by decide +kernel
theorem dX9_init_182 : decode cX9_init 182 = .ok (.aload_n 0, 1) := by decide +kernel
theorem dX9_init_183 : decode cX9_init 183 = .ok (.iconst 2, 1) := by decide +kernel
theorem dX9_init_184 : decode cX9_init 184 = .ok (.newarray .int, 2) := by decide +kernel
theorem dX9_init_186 : decode cX9_init 186 = .ok (.putfield 77, 3) := by decide +kernel
theorem dX9_init_189 : decode cX9_init 189 = .ok (.aload_n 0, 1) := by decide +kernel
theorem dX9_init_190 : decode cX9_init 190 = .ok (.sipush 201, 3) := by decide +kernel
theorem dX9_init_193 : decode cX9_init 193 = .ok (.newarray .int, 2) := by decide +kernel
theorem dX9_init_195 : decode cX9_init 195 = .ok (.putfield 80, 3) := by decide +kernel
theorem dX9_init_198 : decode cX9_init 198 = .ok (.aload_n 0, 1) := by decide +kernel
theorem dX9_init_199 : decode cX9_init 199 = .ok (.sipush 200, 3) := by decide +kernel
theorem dX9_init_202 : decode cX9_init 202 = .ok (.newarray .int, 2) := by decide +kernel
theorem dX9_init_204 : decode cX9_init 204 = .ok (.putfield 83, 3) := by decide +kernel
theorem dX9_init_207 : decode cX9_init 207 = .ok (.aload_n 0, 1) := by decide +kernel
theorem dX9_init_208 : decode cX9_init 208 = .ok (.sipush 201, 3) := by decide +kernel
theorem dX9_init_211 : decode cX9_init 211 = .ok (.newarray .int, 2) := by decide +kernel
theorem dX9_init_213 : decode cX9_init 213 = .ok (.putfield 86, 3) := by decide +kernel
theorem dX9_init_216 : decode cX9_init 216 = .ok (.aload_n 0, 1) := by decide +kernel
theorem dX9_init_217 : decode cX9_init 217 = .ok (.sipush 201, 3) := by decide +kernel
theorem dX9_init_220 : decode cX9_init 220 = .ok (.newarray .int, 2) := by decide +kernel
theorem dX9_init_222 : decode cX9_init 222 = .ok (.putfield 89, 3) := by decide +kernel
theorem dX9_init_225 : decode cX9_init 225 = .ok (.return_, 1) := by decide +kernel
theorem dX9_thrown_0 : decode cX9_thrown 0 = .ok (.aload_n 0, 1) := by decide +kernel
theorem dX9_thrown_1 : decode cX9_thrown 1 = .ok (.getfield 92, 3) := by decide +kernel
theorem dX9_thrown_4 : decode cX9_thrown 4 = .ok (.ireturn, 1) := by decide +kernel
theorem dX9_fails_0 : decode cX9_fails 0 = .ok (.aload_n 0, 1) := by decide +kernel
theorem dX9_fails_1 : decode cX9_fails 1 = .ok (.iload_n 1, 1) := by decide +kernel
theorem dX9_fails_2 : decode cX9_fails 2 = .ok (.putfield 92, 3) := by decide +kernel
theorem dX9_fails_5 : decode cX9_fails 5 = .ok (.iconst 0, 1) := by decide +kernel
theorem dX9_fails_6 : decode cX9_fails 6 = .ok (.ireturn, 1) := by decide +kernel
theorem dX9_isBetween_0 : decode cX9_isBetween 0 = .ok (.iload_n 1, 1) := by decide +kernel
theorem dX9_isBetween_1 : decode cX9_isBetween 1 = .ok (.iload_n 0, 1) := by decide +kernel
theorem dX9_isBetween_2 : decode cX9_isBetween 2 = .ok (.if_icmp .gt 12, 3) := by decide +kernel
theorem dX9_isBetween_5 : decode cX9_isBetween 5 = .ok (.iload_n 0, 1) := by decide +kernel
theorem dX9_isBetween_6 : decode cX9_isBetween 6 = .ok (.iload_n 2, 1) := by decide +kernel
theorem dX9_isBetween_7 : decode cX9_isBetween 7 = .ok (.if_icmp .gt 7, 3) := by decide +kernel
theorem dX9_isBetween_10 : decode cX9_isBetween 10 = .ok (.iconst 1, 1) := by decide +kernel
theorem dX9_isBetween_11 : decode cX9_isBetween 11 = .ok (.goto 4, 3) := by decide +kernel
theorem dX9_isBetween_14 : decode cX9_isBetween 14 = .ok (.iconst 0, 1) := by decide +kernel
theorem dX9_isBetween_15 : decode cX9_isBetween 15 = .ok (.ireturn, 1) := by decide +kernel
theorem dX9_isEnd_0 : decode cX9_isEnd 0 = .ok (.iload_n 0, 1) := by decide +kernel
theorem dX9_isEnd_1 : decode cX9_isEnd 1 = .ok (.iconst 0, 1) := by decide +kernel
theorem dX9_isEnd_2 : decode cX9_isEnd 2 = .ok (.iconst 1, 1) := by decide +kernel
theorem dX9_isEnd_3 : decode cX9_isEnd 3 = .ok (.invokestatic 96, 3) := by decide +kernel
theorem dX9_isEnd_6 : decode cX9_isEnd 6 = .ok (.ireturn, 1) := by decide +kernel
theorem dX9_sentAt_0 : decode cX9_sentAt 0 = .ok (.iconst 0, 1) := by decide +kernel
theorem dX9_sentAt_1 : decode cX9_sentAt 1 = .ok (.sipush 200, 3) := by decide +kernel
theorem dX9_sentAt_4 : decode cX9_sentAt 4 = .ok (.iload_n 0, 1) := by decide +kernel
theorem dX9_sentAt_5 : decode cX9_sentAt 5 = .ok (.imul, 1) := by decide +kernel
theorem dX9_sentAt_6 : decode cX9_sentAt 6 = .ok (.iadd, 1) := by decide +kernel
theorem dX9_sentAt_7 : decode cX9_sentAt 7 = .ok (.ireturn, 1) := by decide +kernel
theorem dX9_waitingAt_0 : decode cX9_waitingAt 0 = .ok (.sipush 400, 3) := by decide +kernel
theorem dX9_waitingAt_3 : decode cX9_waitingAt 3 = .ok (.sipush 200, 3) := by decide +kernel
theorem dX9_waitingAt_6 : decode cX9_waitingAt 6 = .ok (.iload_n 0, 1) := by decide +kernel
theorem dX9_waitingAt_7 : decode cX9_waitingAt 7 = .ok (.imul, 1) := by decide +kernel
theorem dX9_waitingAt_8 : decode cX9_waitingAt 8 = .ok (.iadd, 1) := by decide +kernel
theorem dX9_waitingAt_9 : decode cX9_waitingAt 9 = .ok (.ireturn, 1) := by decide +kernel
theorem dX9_upAt_0 : decode cX9_upAt 0 = .ok (.sipush 800, 3) := by decide +kernel
theorem dX9_upAt_3 : decode cX9_upAt 3 = .ok (.sipush 200, 3) := by decide +kernel
theorem dX9_upAt_6 : decode cX9_upAt 6 = .ok (.iload_n 0, 1) := by decide +kernel
theorem dX9_upAt_7 : decode cX9_upAt 7 = .ok (.imul, 1) := by decide +kernel
theorem dX9_upAt_8 : decode cX9_upAt 8 = .ok (.iadd, 1) := by decide +kernel
theorem dX9_upAt_9 : decode cX9_upAt 9 = .ok (.ireturn, 1) := by decide +kernel
theorem dX9_copies_0 : decode cX9_copies 0 = .ok (.aload_n 0, 1) := by decide +kernel
theorem dX9_copies_1 : decode cX9_copies 1 = .ok (.getfield 7, 3) := by decide +kernel
theorem dX9_copies_4 : decode cX9_copies 4 = .ok (.iload_n 2, 1) := by decide +kernel
theorem dX9_copies_5 : decode cX9_copies 5 = .ok (.aload_n 0, 1) := by decide +kernel
theorem dX9_copies_6 : decode cX9_copies 6 = .ok (.getfield 7, 3) := by decide +kernel
theorem dX9_copies_9 : decode cX9_copies 9 = .ok (.iload_n 1, 1) := by decide +kernel
theorem dX9_copies_10 : decode cX9_copies 10 = .ok (.iaload, 1) := by decide +kernel
theorem dX9_copies_11 : decode cX9_copies 11 = .ok (.iastore, 1) := by decide +kernel
theorem dX9_copies_12 : decode cX9_copies 12 = .ok (.aload_n 0, 1) := by decide +kernel
theorem dX9_copies_13 : decode cX9_copies 13 = .ok (.getfield 13, 3) := by decide +kernel
theorem dX9_copies_16 : decode cX9_copies 16 = .ok (.iload_n 2, 1) := by decide +kernel
theorem dX9_copies_17 : decode cX9_copies 17 = .ok (.aload_n 0, 1) := by decide +kernel
theorem dX9_copies_18 : decode cX9_copies 18 = .ok (.getfield 13, 3) := by decide +kernel
theorem dX9_copies_21 : decode cX9_copies 21 = .ok (.iload_n 1, 1) := by decide +kernel
theorem dX9_copies_22 : decode cX9_copies 22 = .ok (.iaload, 1) := by decide +kernel
theorem dX9_copies_23 : decode cX9_copies 23 = .ok (.iastore, 1) := by decide +kernel
theorem dX9_copies_24 : decode cX9_copies 24 = .ok (.aload_n 0, 1) := by decide +kernel
theorem dX9_copies_25 : decode cX9_copies 25 = .ok (.getfield 16, 3) := by decide +kernel
theorem dX9_copies_28 : decode cX9_copies 28 = .ok (.iload_n 2, 1) := by decide +kernel
theorem dX9_copies_29 : decode cX9_copies 29 = .ok (.aload_n 0, 1) := by decide +kernel
theorem dX9_copies_30 : decode cX9_copies 30 = .ok (.getfield 16, 3) := by decide +kernel
theorem dX9_copies_33 : decode cX9_copies 33 = .ok (.iload_n 1, 1) := by decide +kernel
theorem dX9_copies_34 : decode cX9_copies 34 = .ok (.iaload, 1) := by decide +kernel
theorem dX9_copies_35 : decode cX9_copies 35 = .ok (.iastore, 1) := by decide +kernel
theorem dX9_copies_36 : decode cX9_copies 36 = .ok (.aload_n 0, 1) := by decide +kernel
theorem dX9_copies_37 : decode cX9_copies 37 = .ok (.getfield 19, 3) := by decide +kernel
theorem dX9_copies_40 : decode cX9_copies 40 = .ok (.iload_n 2, 1) := by decide +kernel
theorem dX9_copies_41 : decode cX9_copies 41 = .ok (.aload_n 0, 1) := by decide +kernel
theorem dX9_copies_42 : decode cX9_copies 42 = .ok (.getfield 19, 3) := by decide +kernel
theorem dX9_copies_45 : decode cX9_copies 45 = .ok (.iload_n 1, 1) := by decide +kernel
theorem dX9_copies_46 : decode cX9_copies 46 = .ok (.iaload, 1) := by decide +kernel
theorem dX9_copies_47 : decode cX9_copies 47 = .ok (.iastore, 1) := by decide +kernel
theorem dX9_copies_48 : decode cX9_copies 48 = .ok (.aload_n 0, 1) := by decide +kernel
theorem dX9_copies_49 : decode cX9_copies 49 = .ok (.getfield 22, 3) := by decide +kernel
theorem dX9_copies_52 : decode cX9_copies 52 = .ok (.iload_n 2, 1) := by decide +kernel
theorem dX9_copies_53 : decode cX9_copies 53 = .ok (.aload_n 0, 1) := by decide +kernel
theorem dX9_copies_54 : decode cX9_copies 54 = .ok (.getfield 22, 3) := by decide +kernel
theorem dX9_copies_57 : decode cX9_copies 57 = .ok (.iload_n 1, 1) := by decide +kernel
theorem dX9_copies_58 : decode cX9_copies 58 = .ok (.iaload, 1) := by decide +kernel
theorem dX9_copies_59 : decode cX9_copies 59 = .ok (.iastore, 1) := by decide +kernel
theorem dX9_copies_60 : decode cX9_copies 60 = .ok (.return_, 1) := by decide +kernel
theorem dX9_moved_0 : decode cX9_moved 0 = .ok (.iload_n 0, 1) := by decide +kernel
theorem dX9_moved_1 : decode cX9_moved 1 = .ok (.ifCond .eq 7, 3) := by decide +kernel
theorem dX9_moved_4 : decode cX9_moved 4 = .ok (.iload_n 2, 1) := by decide +kernel
theorem dX9_moved_5 : decode cX9_moved 5 = .ok (.ifCond .ne 5, 3) := by decide +kernel
theorem dX9_moved_8 : decode cX9_moved 8 = .ok (.iload_n 1, 1) := by decide +kernel
theorem dX9_moved_9 : decode cX9_moved 9 = .ok (.ireturn, 1) := by decide +kernel
theorem dX9_moved_10 : decode cX9_moved 10 = .ok (.iload_n 0, 1) := by decide +kernel
theorem dX9_moved_11 : decode cX9_moved 11 = .ok (.iconst 1, 1) := by decide +kernel
theorem dX9_moved_12 : decode cX9_moved 12 = .ok (.if_icmp .ne 31, 3) := by decide +kernel
theorem dX9_moved_15 : decode cX9_moved 15 = .ok (.iload_n 2, 1) := by decide +kernel
theorem dX9_moved_16 : decode cX9_moved 16 = .ok (.iconst 1, 1) := by decide +kernel
theorem dX9_moved_17 : decode cX9_moved 17 = .ok (.if_icmp .ne 26, 3) := by decide +kernel
theorem dX9_moved_20 : decode cX9_moved 20 = .ok (.iload_n 3, 1) := by decide +kernel
theorem dX9_moved_21 : decode cX9_moved 21 = .ok (.iload_n 1, 1) := by decide +kernel
theorem dX9_moved_22 : decode cX9_moved 22 = .ok (.if_icmp .lt 13, 3) := by decide +kernel
theorem dX9_moved_25 : decode cX9_moved 25 = .ok (.iload_n 3, 1) := by decide +kernel
theorem dX9_moved_26 : decode cX9_moved 26 = .ok (.iload_n 1, 1) := by decide +kernel
theorem dX9_moved_27 : decode cX9_moved 27 = .ok (.if_icmp .ne 14, 3) := by decide +kernel
theorem dX9_moved_30 : decode cX9_moved 30 = .ok (.iload 4, 2) := by decide +kernel
theorem dX9_moved_32 : decode cX9_moved 32 = .ok (.ifCond .eq 9, 3) := by decide +kernel
theorem dX9_moved_35 : decode cX9_moved 35 = .ok (.iload_n 1, 1) := by decide +kernel
theorem dX9_moved_36 : decode cX9_moved 36 = .ok (.iconst 1, 1) := by decide +kernel
theorem dX9_moved_37 : decode cX9_moved 37 = .ok (.iadd, 1) := by decide +kernel
theorem dX9_moved_38 : decode cX9_moved 38 = .ok (.goto 4, 3) := by decide +kernel
theorem dX9_moved_41 : decode cX9_moved 41 = .ok (.iload_n 1, 1) := by decide +kernel
theorem dX9_moved_42 : decode cX9_moved 42 = .ok (.ireturn, 1) := by decide +kernel
theorem dX9_moved_43 : decode cX9_moved 43 = .ok (.iload_n 0, 1) := by decide +kernel
theorem dX9_moved_44 : decode cX9_moved 44 = .ok (.iconst 1, 1) := by decide +kernel
theorem dX9_moved_45 : decode cX9_moved 45 = .ok (.if_icmp .ne 16, 3) := by decide +kernel
theorem dX9_moved_48 : decode cX9_moved 48 = .ok (.iload_n 3, 1) := by decide +kernel
theorem dX9_moved_49 : decode cX9_moved 49 = .ok (.iload_n 1, 1) := by decide +kernel
theorem dX9_moved_50 : decode cX9_moved 50 = .ok (.if_icmp .ge 9, 3) := by decide +kernel
theorem dX9_moved_53 : decode cX9_moved 53 = .ok (.iload_n 1, 1) := by decide +kernel
theorem dX9_moved_54 : decode cX9_moved 54 = .ok (.iconst 1, 1) := by decide +kernel
theorem dX9_moved_55 : decode cX9_moved 55 = .ok (.isub, 1) := by decide +kernel
theorem dX9_moved_56 : decode cX9_moved 56 = .ok (.goto 4, 3) := by decide +kernel
theorem dX9_moved_59 : decode cX9_moved 59 = .ok (.iload_n 1, 1) := by decide +kernel
theorem dX9_moved_60 : decode cX9_moved 60 = .ok (.ireturn, 1) := by decide +kernel
theorem dX9_moved_61 : decode cX9_moved 61 = .ok (.iload_n 2, 1) := by decide +kernel
theorem dX9_moved_62 : decode cX9_moved 62 = .ok (.iconst 1, 1) := by decide +kernel
theorem dX9_moved_63 : decode cX9_moved 63 = .ok (.if_icmp .ne 16, 3) := by decide +kernel
theorem dX9_moved_66 : decode cX9_moved 66 = .ok (.iload_n 3, 1) := by decide +kernel
theorem dX9_moved_67 : decode cX9_moved 67 = .ok (.iload_n 1, 1) := by decide +kernel
theorem dX9_moved_68 : decode cX9_moved 68 = .ok (.if_icmp .gt 9, 3) := by decide +kernel
theorem dX9_moved_71 : decode cX9_moved 71 = .ok (.iload_n 1, 1) := by decide +kernel
theorem dX9_moved_72 : decode cX9_moved 72 = .ok (.iconst 1, 1) := by decide +kernel
theorem dX9_moved_73 : decode cX9_moved 73 = .ok (.iadd, 1) := by decide +kernel
theorem dX9_moved_74 : decode cX9_moved 74 = .ok (.goto 4, 3) := by decide +kernel
theorem dX9_moved_77 : decode cX9_moved 77 = .ok (.iload_n 1, 1) := by decide +kernel
theorem dX9_moved_78 : decode cX9_moved 78 = .ok (.ireturn, 1) := by decide +kernel
theorem dX9_moved_79 : decode cX9_moved 79 = .ok (.iload_n 3, 1) := by decide +kernel
theorem dX9_moved_80 : decode cX9_moved 80 = .ok (.iload_n 1, 1) := by decide +kernel
theorem dX9_moved_81 : decode cX9_moved 81 = .ok (.if_icmp .ge 9, 3) := by decide +kernel
theorem dX9_moved_84 : decode cX9_moved 84 = .ok (.iload_n 1, 1) := by decide +kernel
theorem dX9_moved_85 : decode cX9_moved 85 = .ok (.iconst 1, 1) := by decide +kernel
theorem dX9_moved_86 : decode cX9_moved 86 = .ok (.isub, 1) := by decide +kernel
theorem dX9_moved_87 : decode cX9_moved 87 = .ok (.goto 13, 3) := by decide +kernel
theorem dX9_moved_90 : decode cX9_moved 90 = .ok (.iload_n 3, 1) := by decide +kernel
theorem dX9_moved_91 : decode cX9_moved 91 = .ok (.iload_n 1, 1) := by decide +kernel
theorem dX9_moved_92 : decode cX9_moved 92 = .ok (.if_icmp .ne 7, 3) := by decide +kernel
theorem dX9_moved_95 : decode cX9_moved 95 = .ok (.iconst (-1), 1) := by decide +kernel
theorem dX9_moved_96 : decode cX9_moved 96 = .ok (.goto 4, 3) := by decide +kernel
theorem dX9_moved_99 : decode cX9_moved 99 = .ok (.iload_n 1, 1) := by decide +kernel
theorem dX9_moved_100 : decode cX9_moved 100 = .ok (.ireturn, 1) := by decide +kernel
theorem dX9_crosses_0 : decode cX9_crosses 0 = .ok (.aload_n 0, 1) := by decide +kernel
theorem dX9_crosses_1 : decode cX9_crosses 1 = .ok (.getfield 7, 3) := by decide +kernel
theorem dX9_crosses_4 : decode cX9_crosses 4 = .ok (.iload_n 1, 1) := by decide +kernel
theorem dX9_crosses_5 : decode cX9_crosses 5 = .ok (.iaload, 1) := by decide +kernel
theorem dX9_crosses_6 : decode cX9_crosses 6 = .ok (.aload_n 0, 1) := by decide +kernel
theorem dX9_crosses_7 : decode cX9_crosses 7 = .ok (.getfield 13, 3) := by decide +kernel
theorem dX9_crosses_10 : decode cX9_crosses 10 = .ok (.iload_n 1, 1) := by decide +kernel
theorem dX9_crosses_11 : decode cX9_crosses 11 = .ok (.iaload, 1) := by decide +kernel
theorem dX9_crosses_12 : decode cX9_crosses 12 = .ok (.aload_n 0, 1) := by decide +kernel
theorem dX9_crosses_13 : decode cX9_crosses 13 = .ok (.getfield 7, 3) := by decide +kernel
theorem dX9_crosses_16 : decode cX9_crosses 16 = .ok (.iload_n 2, 1) := by decide +kernel
theorem dX9_crosses_17 : decode cX9_crosses 17 = .ok (.iaload, 1) := by decide +kernel
theorem dX9_crosses_18 : decode cX9_crosses 18 = .ok (.aload_n 0, 1) := by decide +kernel
theorem dX9_crosses_19 : decode cX9_crosses 19 = .ok (.getfield 13, 3) := by decide +kernel
theorem dX9_crosses_22 : decode cX9_crosses 22 = .ok (.iload_n 2, 1) := by decide +kernel
theorem dX9_crosses_23 : decode cX9_crosses 23 = .ok (.iaload, 1) := by decide +kernel
theorem dX9_crosses_24 : decode cX9_crosses 24 = .ok (.aload_n 0, 1) := by decide +kernel
theorem dX9_crosses_25 : decode cX9_crosses 25 = .ok (.getfield 22, 3) := by decide +kernel
theorem dX9_crosses_28 : decode cX9_crosses 28 = .ok (.iload_n 2, 1) := by decide +kernel
theorem dX9_crosses_29 : decode cX9_crosses 29 = .ok (.iaload, 1) := by decide +kernel
theorem dX9_crosses_30 : decode cX9_crosses 30 = .ok (.ifCond .ne 7, 3) := by decide +kernel
theorem dX9_crosses_33 : decode cX9_crosses 33 = .ok (.iconst 1, 1) := by decide +kernel
theorem dX9_crosses_34 : decode cX9_crosses 34 = .ok (.goto 4, 3) := by decide +kernel
theorem dX9_crosses_37 : decode cX9_crosses 37 = .ok (.iconst 0, 1) := by decide +kernel
theorem dX9_crosses_38 : decode cX9_crosses 38 = .ok (.invokestatic 100, 3) := by decide +kernel
theorem dX9_crosses_41 : decode cX9_crosses 41 = .ok (.istore_n 3, 1) := by decide +kernel
theorem dX9_crosses_42 : decode cX9_crosses 42 = .ok (.aload_n 0, 1) := by decide +kernel
theorem dX9_crosses_43 : decode cX9_crosses 43 = .ok (.getfield 7, 3) := by decide +kernel
theorem dX9_crosses_46 : decode cX9_crosses 46 = .ok (.iload_n 2, 1) := by decide +kernel
theorem dX9_crosses_47 : decode cX9_crosses 47 = .ok (.iaload, 1) := by decide +kernel
theorem dX9_crosses_48 : decode cX9_crosses 48 = .ok (.aload_n 0, 1) := by decide +kernel
theorem dX9_crosses_49 : decode cX9_crosses 49 = .ok (.getfield 13, 3) := by decide +kernel
theorem dX9_crosses_52 : decode cX9_crosses 52 = .ok (.iload_n 2, 1) := by decide +kernel
theorem dX9_crosses_53 : decode cX9_crosses 53 = .ok (.iaload, 1) := by decide +kernel
theorem dX9_crosses_54 : decode cX9_crosses 54 = .ok (.aload_n 0, 1) := by decide +kernel
theorem dX9_crosses_55 : decode cX9_crosses 55 = .ok (.getfield 7, 3) := by decide +kernel
theorem dX9_crosses_58 : decode cX9_crosses 58 = .ok (.iload_n 1, 1) := by decide +kernel
theorem dX9_crosses_59 : decode cX9_crosses 59 = .ok (.iaload, 1) := by decide +kernel
theorem dX9_crosses_60 : decode cX9_crosses 60 = .ok (.aload_n 0, 1) := by decide +kernel
theorem dX9_crosses_61 : decode cX9_crosses 61 = .ok (.getfield 13, 3) := by decide +kernel
theorem dX9_crosses_64 : decode cX9_crosses 64 = .ok (.iload_n 1, 1) := by decide +kernel
theorem dX9_crosses_65 : decode cX9_crosses 65 = .ok (.iaload, 1) := by decide +kernel
theorem dX9_crosses_66 : decode cX9_crosses 66 = .ok (.aload_n 0, 1) := by decide +kernel
theorem dX9_crosses_67 : decode cX9_crosses 67 = .ok (.getfield 22, 3) := by decide +kernel
theorem dX9_crosses_70 : decode cX9_crosses 70 = .ok (.iload_n 1, 1) := by decide +kernel
theorem dX9_crosses_71 : decode cX9_crosses 71 = .ok (.iaload, 1) := by decide +kernel
theorem dX9_crosses_72 : decode cX9_crosses 72 = .ok (.ifCond .ne 7, 3) := by decide +kernel
theorem dX9_crosses_75 : decode cX9_crosses 75 = .ok (.iconst 1, 1) := by decide +kernel
theorem dX9_crosses_76 : decode cX9_crosses 76 = .ok (.goto 4, 3) := by decide +kernel
theorem dX9_crosses_79 : decode cX9_crosses 79 = .ok (.iconst 0, 1) := by decide +kernel
theorem dX9_crosses_80 : decode cX9_crosses 80 = .ok (.invokestatic 100, 3) := by decide +kernel
theorem dX9_crosses_83 : decode cX9_crosses 83 = .ok (.istore 4, 2) := by decide +kernel
theorem dX9_crosses_85 : decode cX9_crosses 85 = .ok (.iload_n 3, 1) := by decide +kernel
theorem dX9_crosses_86 : decode cX9_crosses 86 = .ok (.ifCond .ge 10, 3) := by decide +kernel
theorem dX9_crosses_89 : decode cX9_crosses 89 = .ok (.aload_n 0, 1) := by decide +kernel
theorem dX9_crosses_90 : decode cX9_crosses 90 = .ok (.getfield 7, 3) := by decide +kernel
theorem dX9_crosses_93 : decode cX9_crosses 93 = .ok (.iload_n 1, 1) := by decide +kernel
theorem dX9_crosses_94 : decode cX9_crosses 94 = .ok (.iconst 0, 1) := by decide +kernel
theorem dX9_crosses_95 : decode cX9_crosses 95 = .ok (.iastore, 1) := by decide +kernel
theorem dX9_crosses_96 : decode cX9_crosses 96 = .ok (.iload 4, 2) := by decide +kernel
theorem dX9_crosses_98 : decode cX9_crosses 98 = .ok (.ifCond .ge 10, 3) := by decide +kernel
theorem dX9_crosses_101 : decode cX9_crosses 101 = .ok (.aload_n 0, 1) := by decide +kernel
theorem dX9_crosses_102 : decode cX9_crosses 102 = .ok (.getfield 7, 3) := by decide +kernel
theorem dX9_crosses_105 : decode cX9_crosses 105 = .ok (.iload_n 2, 1) := by decide +kernel
theorem dX9_crosses_106 : decode cX9_crosses 106 = .ok (.iconst 0, 1) := by decide +kernel
theorem dX9_crosses_107 : decode cX9_crosses 107 = .ok (.iastore, 1) := by decide +kernel
theorem dX9_crosses_108 : decode cX9_crosses 108 = .ok (.aload_n 0, 1) := by decide +kernel
theorem dX9_crosses_109 : decode cX9_crosses 109 = .ok (.getfield 13, 3) := by decide +kernel
theorem dX9_crosses_112 : decode cX9_crosses 112 = .ok (.iload_n 1, 1) := by decide +kernel
theorem dX9_crosses_113 : decode cX9_crosses 113 = .ok (.iload_n 3, 1) := by decide +kernel
theorem dX9_crosses_114 : decode cX9_crosses 114 = .ok (.iastore, 1) := by decide +kernel
theorem dX9_crosses_115 : decode cX9_crosses 115 = .ok (.aload_n 0, 1) := by decide +kernel
theorem dX9_crosses_116 : decode cX9_crosses 116 = .ok (.getfield 13, 3) := by decide +kernel
theorem dX9_crosses_119 : decode cX9_crosses 119 = .ok (.iload_n 2, 1) := by decide +kernel
theorem dX9_crosses_120 : decode cX9_crosses 120 = .ok (.iload 4, 2) := by decide +kernel
theorem dX9_crosses_122 : decode cX9_crosses 122 = .ok (.iastore, 1) := by decide +kernel
theorem dX9_crosses_123 : decode cX9_crosses 123 = .ok (.return_, 1) := by decide +kernel
theorem dX9_shifts_0 : decode cX9_shifts 0 = .ok (.aload_n 0, 1) := by decide +kernel
theorem dX9_shifts_1 : decode cX9_shifts 1 = .ok (.getfield 25, 3) := by decide +kernel
theorem dX9_shifts_4 : decode cX9_shifts 4 = .ok (.iload_n 1, 1) := by decide +kernel
theorem dX9_shifts_5 : decode cX9_shifts 5 = .ok (.aload_n 0, 1) := by decide +kernel
theorem dX9_shifts_6 : decode cX9_shifts 6 = .ok (.getfield 25, 3) := by decide +kernel
theorem dX9_shifts_9 : decode cX9_shifts 9 = .ok (.iload_n 2, 1) := by decide +kernel
theorem dX9_shifts_10 : decode cX9_shifts 10 = .ok (.iaload, 1) := by decide +kernel
theorem dX9_shifts_11 : decode cX9_shifts 11 = .ok (.iastore, 1) := by decide +kernel
theorem dX9_shifts_12 : decode cX9_shifts 12 = .ok (.aload_n 0, 1) := by decide +kernel
theorem dX9_shifts_13 : decode cX9_shifts 13 = .ok (.getfield 28, 3) := by decide +kernel
theorem dX9_shifts_16 : decode cX9_shifts 16 = .ok (.iload_n 1, 1) := by decide +kernel
theorem dX9_shifts_17 : decode cX9_shifts 17 = .ok (.aload_n 0, 1) := by decide +kernel
theorem dX9_shifts_18 : decode cX9_shifts 18 = .ok (.getfield 28, 3) := by decide +kernel
theorem dX9_shifts_21 : decode cX9_shifts 21 = .ok (.iload_n 2, 1) := by decide +kernel
theorem dX9_shifts_22 : decode cX9_shifts 22 = .ok (.iaload, 1) := by decide +kernel
theorem dX9_shifts_23 : decode cX9_shifts 23 = .ok (.iastore, 1) := by decide +kernel
theorem dX9_shifts_24 : decode cX9_shifts 24 = .ok (.aload_n 0, 1) := by decide +kernel
theorem dX9_shifts_25 : decode cX9_shifts 25 = .ok (.getfield 31, 3) := by decide +kernel
theorem dX9_shifts_28 : decode cX9_shifts 28 = .ok (.iload_n 1, 1) := by decide +kernel
theorem dX9_shifts_29 : decode cX9_shifts 29 = .ok (.aload_n 0, 1) := by decide +kernel
theorem dX9_shifts_30 : decode cX9_shifts 30 = .ok (.getfield 31, 3) := by decide +kernel
theorem dX9_shifts_33 : decode cX9_shifts 33 = .ok (.iload_n 2, 1) := by decide +kernel
theorem dX9_shifts_34 : decode cX9_shifts 34 = .ok (.iaload, 1) := by decide +kernel
theorem dX9_shifts_35 : decode cX9_shifts 35 = .ok (.iastore, 1) := by decide +kernel
theorem dX9_shifts_36 : decode cX9_shifts 36 = .ok (.return_, 1) := by decide +kernel
theorem dX9_carriesOut_0 : decode cX9_carriesOut 0 = .ok (.sipush 201, 3) := by decide +kernel
theorem dX9_carriesOut_3 : decode cX9_carriesOut 3 = .ok (.iload_n 1, 1) := by decide +kernel
theorem dX9_carriesOut_4 : decode cX9_carriesOut 4 = .ok (.imul, 1) := by decide +kernel
theorem dX9_carriesOut_5 : decode cX9_carriesOut 5 = .ok (.istore_n 3, 1) := by decide +kernel
theorem dX9_carriesOut_6 : decode cX9_carriesOut 6 = .ok (.iload_n 3, 1) := by decide +kernel
theorem dX9_carriesOut_7 : decode cX9_carriesOut 7 = .ok (.aload_n 0, 1) := by decide +kernel
theorem dX9_carriesOut_8 : decode cX9_carriesOut 8 = .ok (.getfield 13, 3) := by decide +kernel
theorem dX9_carriesOut_11 : decode cX9_carriesOut 11 = .ok (.iload_n 2, 1) := by decide +kernel
theorem dX9_carriesOut_12 : decode cX9_carriesOut 12 = .ok (.iaload, 1) := by decide +kernel
theorem dX9_carriesOut_13 : decode cX9_carriesOut 13 = .ok (.iadd, 1) := by decide +kernel
theorem dX9_carriesOut_14 : decode cX9_carriesOut 14 = .ok (.istore 4, 2) := by decide +kernel
theorem dX9_carriesOut_16 : decode cX9_carriesOut 16 = .ok (.aload_n 0, 1) := by decide +kernel
theorem dX9_carriesOut_17 : decode cX9_carriesOut 17 = .ok (.getfield 7, 3) := by decide +kernel
theorem dX9_carriesOut_20 : decode cX9_carriesOut 20 = .ok (.iload_n 2, 1) := by decide +kernel
theorem dX9_carriesOut_21 : decode cX9_carriesOut 21 = .ok (.iaload, 1) := by decide +kernel
theorem dX9_carriesOut_22 : decode cX9_carriesOut 22 = .ok (.iconst 1, 1) := by decide +kernel
theorem dX9_carriesOut_23 : decode cX9_carriesOut 23 = .ok (.if_icmp .ne 88, 3) := by decide +kernel
theorem dX9_carriesOut_26 : decode cX9_carriesOut 26 = .ok (.iload_n 3, 1) := by decide +kernel
theorem dX9_carriesOut_27 : decode cX9_carriesOut 27 = .ok (.aload_n 0, 1) := by decide +kernel
theorem dX9_carriesOut_28 : decode cX9_carriesOut 28 = .ok (.getfield 34, 3) := by decide +kernel
theorem dX9_carriesOut_31 : decode cX9_carriesOut 31 = .ok (.iload_n 1, 1) := by decide +kernel
theorem dX9_carriesOut_32 : decode cX9_carriesOut 32 = .ok (.iaload, 1) := by decide +kernel
theorem dX9_carriesOut_33 : decode cX9_carriesOut 33 = .ok (.iadd, 1) := by decide +kernel
theorem dX9_carriesOut_34 : decode cX9_carriesOut 34 = .ok (.istore 5, 2) := by decide +kernel
theorem dX9_carriesOut_36 : decode cX9_carriesOut 36 = .ok (.iload 5, 2) := by decide +kernel
theorem dX9_carriesOut_38 : decode cX9_carriesOut 38 = .ok (.iload 4, 2) := by decide +kernel
theorem dX9_carriesOut_40 : decode cX9_carriesOut 40 = .ok (.if_icmp .le 19, 3) := by decide +kernel
theorem dX9_carriesOut_43 : decode cX9_carriesOut 43 = .ok (.aload_n 0, 1) := by decide +kernel
theorem dX9_carriesOut_44 : decode cX9_carriesOut 44 = .ok (.iload 5, 2) := by decide +kernel
theorem dX9_carriesOut_46 : decode cX9_carriesOut 46 = .ok (.iload 5, 2) := by decide +kernel
theorem dX9_carriesOut_48 : decode cX9_carriesOut 48 = .ok (.iconst 1, 1) := by decide +kernel
theorem dX9_carriesOut_49 : decode cX9_carriesOut 49 = .ok (.isub, 1) := by decide +kernel
theorem dX9_carriesOut_50 : decode cX9_carriesOut 50 = .ok (.invokevirtual 104, 3) := by decide +kernel
theorem dX9_carriesOut_53 : decode cX9_carriesOut 53 = .ok (.iinc 5 (-1), 3) := by decide +kernel
theorem dX9_carriesOut_56 : decode cX9_carriesOut 56 = .ok (.goto (-20), 3) := by decide +kernel
theorem dX9_carriesOut_59 : decode cX9_carriesOut 59 = .ok (.aload_n 0, 1) := by decide +kernel
theorem dX9_carriesOut_60 : decode cX9_carriesOut 60 = .ok (.getfield 25, 3) := by decide +kernel
theorem dX9_carriesOut_63 : decode cX9_carriesOut 63 = .ok (.iload 4, 2) := by decide +kernel
theorem dX9_carriesOut_65 : decode cX9_carriesOut 65 = .ok (.aload_n 0, 1) := by decide +kernel
theorem dX9_carriesOut_66 : decode cX9_carriesOut 66 = .ok (.getfield 16, 3) := by decide +kernel
theorem dX9_carriesOut_69 : decode cX9_carriesOut 69 = .ok (.iload_n 2, 1) := by decide +kernel
theorem dX9_carriesOut_70 : decode cX9_carriesOut 70 = .ok (.iaload, 1) := by decide +kernel
theorem dX9_carriesOut_71 : decode cX9_carriesOut 71 = .ok (.iastore, 1) := by decide +kernel
theorem dX9_carriesOut_72 : decode cX9_carriesOut 72 = .ok (.aload_n 0, 1) := by decide +kernel
theorem dX9_carriesOut_73 : decode cX9_carriesOut 73 = .ok (.getfield 28, 3) := by decide +kernel
theorem dX9_carriesOut_76 : decode cX9_carriesOut 76 = .ok (.iload 4, 2) := by decide +kernel
theorem dX9_carriesOut_78 : decode cX9_carriesOut 78 = .ok (.aload_n 0, 1) := by decide +kernel
theorem dX9_carriesOut_79 : decode cX9_carriesOut 79 = .ok (.getfield 19, 3) := by decide +kernel
theorem dX9_carriesOut_82 : decode cX9_carriesOut 82 = .ok (.iload_n 2, 1) := by decide +kernel
theorem dX9_carriesOut_83 : decode cX9_carriesOut 83 = .ok (.iaload, 1) := by decide +kernel
theorem dX9_carriesOut_84 : decode cX9_carriesOut 84 = .ok (.iastore, 1) := by decide +kernel
theorem dX9_carriesOut_85 : decode cX9_carriesOut 85 = .ok (.aload_n 0, 1) := by decide +kernel
theorem dX9_carriesOut_86 : decode cX9_carriesOut 86 = .ok (.getfield 31, 3) := by decide +kernel
theorem dX9_carriesOut_89 : decode cX9_carriesOut 89 = .ok (.iload 4, 2) := by decide +kernel
theorem dX9_carriesOut_91 : decode cX9_carriesOut 91 = .ok (.aload_n 0, 1) := by decide +kernel
theorem dX9_carriesOut_92 : decode cX9_carriesOut 92 = .ok (.getfield 22, 3) := by decide +kernel
theorem dX9_carriesOut_95 : decode cX9_carriesOut 95 = .ok (.iload_n 2, 1) := by decide +kernel
theorem dX9_carriesOut_96 : decode cX9_carriesOut 96 = .ok (.iaload, 1) := by decide +kernel
theorem dX9_carriesOut_97 : decode cX9_carriesOut 97 = .ok (.iastore, 1) := by decide +kernel
theorem dX9_carriesOut_98 : decode cX9_carriesOut 98 = .ok (.aload_n 0, 1) := by decide +kernel
theorem dX9_carriesOut_99 : decode cX9_carriesOut 99 = .ok (.getfield 34, 3) := by decide +kernel
theorem dX9_carriesOut_102 : decode cX9_carriesOut 102 = .ok (.iload_n 1, 1) := by decide +kernel
theorem dX9_carriesOut_103 : decode cX9_carriesOut 103 = .ok (.dup2, 1) := by decide +kernel
theorem dX9_carriesOut_104 : decode cX9_carriesOut 104 = .ok (.iaload, 1) := by decide +kernel
theorem dX9_carriesOut_105 : decode cX9_carriesOut 105 = .ok (.iconst 1, 1) := by decide +kernel
theorem dX9_carriesOut_106 : decode cX9_carriesOut 106 = .ok (.iadd, 1) := by decide +kernel
theorem dX9_carriesOut_107 : decode cX9_carriesOut 107 = .ok (.iastore, 1) := by decide +kernel
theorem dX9_carriesOut_108 : decode cX9_carriesOut 108 = .ok (.goto 56, 3) := by decide +kernel
theorem dX9_carriesOut_111 : decode cX9_carriesOut 111 = .ok (.aload_n 0, 1) := by decide +kernel
theorem dX9_carriesOut_112 : decode cX9_carriesOut 112 = .ok (.getfield 7, 3) := by decide +kernel
theorem dX9_carriesOut_115 : decode cX9_carriesOut 115 = .ok (.iload_n 2, 1) := by decide +kernel
theorem dX9_carriesOut_116 : decode cX9_carriesOut 116 = .ok (.iaload, 1) := by decide +kernel
theorem dX9_carriesOut_117 : decode cX9_carriesOut 117 = .ok (.iconst 2, 1) := by decide +kernel
theorem dX9_carriesOut_118 : decode cX9_carriesOut 118 = .ok (.if_icmp .ne 46, 3) := by decide +kernel
theorem dX9_carriesOut_121 : decode cX9_carriesOut 121 = .ok (.aload_n 0, 1) := by decide +kernel
theorem dX9_carriesOut_122 : decode cX9_carriesOut 122 = .ok (.getfield 34, 3) := by decide +kernel
theorem dX9_carriesOut_125 : decode cX9_carriesOut 125 = .ok (.iload_n 1, 1) := by decide +kernel
theorem dX9_carriesOut_126 : decode cX9_carriesOut 126 = .ok (.dup2, 1) := by decide +kernel
theorem dX9_carriesOut_127 : decode cX9_carriesOut 127 = .ok (.iaload, 1) := by decide +kernel
theorem dX9_carriesOut_128 : decode cX9_carriesOut 128 = .ok (.iconst 1, 1) := by decide +kernel
theorem dX9_carriesOut_129 : decode cX9_carriesOut 129 = .ok (.isub, 1) := by decide +kernel
theorem dX9_carriesOut_130 : decode cX9_carriesOut 130 = .ok (.iastore, 1) := by decide +kernel
theorem dX9_carriesOut_131 : decode cX9_carriesOut 131 = .ok (.iload 4, 2) := by decide +kernel
theorem dX9_carriesOut_133 : decode cX9_carriesOut 133 = .ok (.istore 5, 2) := by decide +kernel
theorem dX9_carriesOut_135 : decode cX9_carriesOut 135 = .ok (.iload 5, 2) := by decide +kernel
theorem dX9_carriesOut_137 : decode cX9_carriesOut 137 = .ok (.iload_n 3, 1) := by decide +kernel
theorem dX9_carriesOut_138 : decode cX9_carriesOut 138 = .ok (.aload_n 0, 1) := by decide +kernel
theorem dX9_carriesOut_139 : decode cX9_carriesOut 139 = .ok (.getfield 34, 3) := by decide +kernel
theorem dX9_carriesOut_142 : decode cX9_carriesOut 142 = .ok (.iload_n 1, 1) := by decide +kernel
theorem dX9_carriesOut_143 : decode cX9_carriesOut 143 = .ok (.iaload, 1) := by decide +kernel
theorem dX9_carriesOut_144 : decode cX9_carriesOut 144 = .ok (.iadd, 1) := by decide +kernel
theorem dX9_carriesOut_145 : decode cX9_carriesOut 145 = .ok (.if_icmp .ge 19, 3) := by decide +kernel
theorem dX9_carriesOut_148 : decode cX9_carriesOut 148 = .ok (.aload_n 0, 1) := by decide +kernel
theorem dX9_carriesOut_149 : decode cX9_carriesOut 149 = .ok (.iload 5, 2) := by decide +kernel
theorem dX9_carriesOut_151 : decode cX9_carriesOut 151 = .ok (.iload 5, 2) := by decide +kernel
theorem dX9_carriesOut_153 : decode cX9_carriesOut 153 = .ok (.iconst 1, 1) := by decide +kernel
theorem dX9_carriesOut_154 : decode cX9_carriesOut 154 = .ok (.iadd, 1) := by decide +kernel
theorem dX9_carriesOut_155 : decode cX9_carriesOut 155 = .ok (.invokevirtual 104, 3) := by decide +kernel
theorem dX9_carriesOut_158 : decode cX9_carriesOut 158 = .ok (.iinc 5 1, 3) := by decide +kernel
theorem dX9_carriesOut_161 : decode cX9_carriesOut 161 = .ok (.goto (-26), 3) := by decide +kernel
theorem dX9_carriesOut_164 : decode cX9_carriesOut 164 = .ok (.return_, 1) := by decide +kernel
theorem dX9_follows_0 : decode cX9_follows 0 = .ok (.aload_n 0, 1) := by decide +kernel
theorem dX9_follows_1 : decode cX9_follows 1 = .ok (.getfield 7, 3) := by decide +kernel
theorem dX9_follows_4 : decode cX9_follows 4 = .ok (.iload_n 2, 1) := by decide +kernel
theorem dX9_follows_5 : decode cX9_follows 5 = .ok (.iaload, 1) := by decide +kernel
theorem dX9_follows_6 : decode cX9_follows 6 = .ok (.ifCond .eq 13, 3) := by decide +kernel
theorem dX9_follows_9 : decode cX9_follows 9 = .ok (.aload_n 0, 1) := by decide +kernel
theorem dX9_follows_10 : decode cX9_follows 10 = .ok (.getfield 13, 3) := by decide +kernel
theorem dX9_follows_13 : decode cX9_follows 13 = .ok (.iload_n 2, 1) := by decide +kernel
theorem dX9_follows_14 : decode cX9_follows 14 = .ok (.iaload, 1) := by decide +kernel
theorem dX9_follows_15 : decode cX9_follows 15 = .ok (.iload_n 1, 1) := by decide +kernel
theorem dX9_follows_16 : decode cX9_follows 16 = .ok (.if_icmp .lt 5, 3) := by decide +kernel
theorem dX9_follows_19 : decode cX9_follows 19 = .ok (.iload_n 1, 1) := by decide +kernel
theorem dX9_follows_20 : decode cX9_follows 20 = .ok (.ireturn, 1) := by decide +kernel
theorem dX9_follows_21 : decode cX9_follows 21 = .ok (.aload_n 0, 1) := by decide +kernel
theorem dX9_follows_22 : decode cX9_follows 22 = .ok (.getfield 7, 3) := by decide +kernel
theorem dX9_follows_25 : decode cX9_follows 25 = .ok (.iload_n 2, 1) := by decide +kernel
theorem dX9_follows_26 : decode cX9_follows 26 = .ok (.iaload, 1) := by decide +kernel
theorem dX9_follows_27 : decode cX9_follows 27 = .ok (.iconst 1, 1) := by decide +kernel
theorem dX9_follows_28 : decode cX9_follows 28 = .ok (.if_icmp .ne 9, 3) := by decide +kernel
theorem dX9_follows_31 : decode cX9_follows 31 = .ok (.iload_n 1, 1) := by decide +kernel
theorem dX9_follows_32 : decode cX9_follows 32 = .ok (.iconst 1, 1) := by decide +kernel
theorem dX9_follows_33 : decode cX9_follows 33 = .ok (.iadd, 1) := by decide +kernel
theorem dX9_follows_34 : decode cX9_follows 34 = .ok (.goto 6, 3) := by decide +kernel
theorem dX9_follows_37 : decode cX9_follows 37 = .ok (.iload_n 1, 1) := by decide +kernel
theorem dX9_follows_38 : decode cX9_follows 38 = .ok (.iconst 1, 1) := by decide +kernel
theorem dX9_follows_39 : decode cX9_follows 39 = .ok (.isub, 1) := by decide +kernel
theorem dX9_follows_40 : decode cX9_follows 40 = .ok (.ireturn, 1) := by decide +kernel
theorem dX9_behind_0 : decode cX9_behind 0 = .ok (.aload_n 0, 1) := by decide +kernel
theorem dX9_behind_1 : decode cX9_behind 1 = .ok (.getfield 7, 3) := by decide +kernel
theorem dX9_behind_4 : decode cX9_behind 4 = .ok (.iload_n 1, 1) := by decide +kernel
theorem dX9_behind_5 : decode cX9_behind 5 = .ok (.iaload, 1) := by decide +kernel
theorem dX9_behind_6 : decode cX9_behind 6 = .ok (.iconst 1, 1) := by decide +kernel
theorem dX9_behind_7 : decode cX9_behind 7 = .ok (.if_icmp .ne 14, 3) := by decide +kernel
theorem dX9_behind_10 : decode cX9_behind 10 = .ok (.aload_n 0, 1) := by decide +kernel
theorem dX9_behind_11 : decode cX9_behind 11 = .ok (.getfield 13, 3) := by decide +kernel
theorem dX9_behind_14 : decode cX9_behind 14 = .ok (.iload_n 1, 1) := by decide +kernel
theorem dX9_behind_15 : decode cX9_behind 15 = .ok (.iaload, 1) := by decide +kernel
theorem dX9_behind_16 : decode cX9_behind 16 = .ok (.iconst 1, 1) := by decide +kernel
theorem dX9_behind_17 : decode cX9_behind 17 = .ok (.iadd, 1) := by decide +kernel
theorem dX9_behind_18 : decode cX9_behind 18 = .ok (.goto 9, 3) := by decide +kernel
theorem dX9_behind_21 : decode cX9_behind 21 = .ok (.aload_n 0, 1) := by decide +kernel
theorem dX9_behind_22 : decode cX9_behind 22 = .ok (.getfield 13, 3) := by decide +kernel
theorem dX9_behind_25 : decode cX9_behind 25 = .ok (.iload_n 1, 1) := by decide +kernel
theorem dX9_behind_26 : decode cX9_behind 26 = .ok (.iaload, 1) := by decide +kernel
theorem dX9_behind_27 : decode cX9_behind 27 = .ok (.ireturn, 1) := by decide +kernel
theorem dX9_movesKept_0 : decode cX9_movesKept 0 = .ok (.iconst 0, 1) := by decide +kernel
theorem dX9_movesKept_1 : decode cX9_movesKept 1 = .ok (.istore_n 3, 1) := by decide +kernel
theorem dX9_movesKept_2 : decode cX9_movesKept 2 = .ok (.iload_n 3, 1) := by decide +kernel
theorem dX9_movesKept_3 : decode cX9_movesKept 3 = .ok (.aload_n 0, 1) := by decide +kernel
theorem dX9_movesKept_4 : decode cX9_movesKept 4 = .ok (.getfield 77, 3) := by decide +kernel
theorem dX9_movesKept_7 : decode cX9_movesKept 7 = .ok (.iload_n 1, 1) := by decide +kernel
theorem dX9_movesKept_8 : decode cX9_movesKept 8 = .ok (.iaload, 1) := by decide +kernel
theorem dX9_movesKept_9 : decode cX9_movesKept 9 = .ok (.if_icmp .ge 38, 3) := by decide +kernel
theorem dX9_movesKept_12 : decode cX9_movesKept 12 = .ok (.aload_n 0, 1) := by decide +kernel
theorem dX9_movesKept_13 : decode cX9_movesKept 13 = .ok (.getfield 68, 3) := by decide +kernel
theorem dX9_movesKept_16 : decode cX9_movesKept 16 = .ok (.sipush 200, 3) := by decide +kernel
theorem dX9_movesKept_19 : decode cX9_movesKept 19 = .ok (.iload_n 1, 1) := by decide +kernel
theorem dX9_movesKept_20 : decode cX9_movesKept 20 = .ok (.imul, 1) := by decide +kernel
theorem dX9_movesKept_21 : decode cX9_movesKept 21 = .ok (.iload_n 3, 1) := by decide +kernel
theorem dX9_movesKept_22 : decode cX9_movesKept 22 = .ok (.iadd, 1) := by decide +kernel
theorem dX9_movesKept_23 : decode cX9_movesKept 23 = .ok (.aload_n 0, 1) := by decide +kernel
theorem dX9_movesKept_24 : decode cX9_movesKept 24 = .ok (.aload_n 0, 1) := by decide +kernel
theorem dX9_movesKept_25 : decode cX9_movesKept 25 = .ok (.getfield 68, 3) := by decide +kernel
theorem dX9_movesKept_28 : decode cX9_movesKept 28 = .ok (.sipush 200, 3) := by decide +kernel
theorem dX9_movesKept_31 : decode cX9_movesKept 31 = .ok (.iload_n 1, 1) := by decide +kernel
theorem dX9_movesKept_32 : decode cX9_movesKept 32 = .ok (.imul, 1) := by decide +kernel
theorem dX9_movesKept_33 : decode cX9_movesKept 33 = .ok (.iload_n 3, 1) := by decide +kernel
theorem dX9_movesKept_34 : decode cX9_movesKept 34 = .ok (.iadd, 1) := by decide +kernel
theorem dX9_movesKept_35 : decode cX9_movesKept 35 = .ok (.iaload, 1) := by decide +kernel
theorem dX9_movesKept_36 : decode cX9_movesKept 36 = .ok (.iload_n 2, 1) := by decide +kernel
theorem dX9_movesKept_37 : decode cX9_movesKept 37 = .ok (.invokevirtual 108, 3) := by decide +kernel
theorem dX9_movesKept_40 : decode cX9_movesKept 40 = .ok (.iastore, 1) := by decide +kernel
theorem dX9_movesKept_41 : decode cX9_movesKept 41 = .ok (.iinc 3 1, 3) := by decide +kernel
theorem dX9_movesKept_44 : decode cX9_movesKept 44 = .ok (.goto (-42), 3) := by decide +kernel
theorem dX9_movesKept_47 : decode cX9_movesKept 47 = .ok (.return_, 1) := by decide +kernel
theorem dX9_sends_0 : decode cX9_sends 0 = .ok (.aload_n 0, 1) := by decide +kernel
theorem dX9_sends_1 : decode cX9_sends 1 = .ok (.getfield 37, 3) := by decide +kernel
theorem dX9_sends_4 : decode cX9_sends 4 = .ok (.iload_n 1, 1) := by decide +kernel
theorem dX9_sends_5 : decode cX9_sends 5 = .ok (.iload_n 2, 1) := by decide +kernel
theorem dX9_sends_6 : decode cX9_sends 6 = .ok (.iastore, 1) := by decide +kernel
theorem dX9_sends_7 : decode cX9_sends 7 = .ok (.aload_n 0, 1) := by decide +kernel
theorem dX9_sends_8 : decode cX9_sends 8 = .ok (.getfield 52, 3) := by decide +kernel
theorem dX9_sends_11 : decode cX9_sends 11 = .ok (.iload_n 1, 1) := by decide +kernel
theorem dX9_sends_12 : decode cX9_sends 12 = .ok (.iload_n 2, 1) := by decide +kernel
theorem dX9_sends_13 : decode cX9_sends 13 = .ok (.iastore, 1) := by decide +kernel
theorem dX9_sends_14 : decode cX9_sends 14 = .ok (.iconst 0, 1) := by decide +kernel
theorem dX9_sends_15 : decode cX9_sends 15 = .ok (.istore_n 3, 1) := by decide +kernel
theorem dX9_sends_16 : decode cX9_sends 16 = .ok (.iload_n 3, 1) := by decide +kernel
theorem dX9_sends_17 : decode cX9_sends 17 = .ok (.iload_n 2, 1) := by decide +kernel
theorem dX9_sends_18 : decode cX9_sends 18 = .ok (.if_icmp .ge 41, 3) := by decide +kernel
theorem dX9_sends_21 : decode cX9_sends 21 = .ok (.aload_n 0, 1) := by decide +kernel
theorem dX9_sends_22 : decode cX9_sends 22 = .ok (.iload_n 1, 1) := by decide +kernel
theorem dX9_sends_23 : decode cX9_sends 23 = .ok (.invokestatic 112, 3) := by decide +kernel
theorem dX9_sends_26 : decode cX9_sends 26 = .ok (.iload_n 3, 1) := by decide +kernel
theorem dX9_sends_27 : decode cX9_sends 27 = .ok (.iadd, 1) := by decide +kernel
theorem dX9_sends_28 : decode cX9_sends 28 = .ok (.iload_n 1, 1) := by decide +kernel
theorem dX9_sends_29 : decode cX9_sends 29 = .ok (.invokestatic 116, 3) := by decide +kernel
theorem dX9_sends_32 : decode cX9_sends 32 = .ok (.iload_n 3, 1) := by decide +kernel
theorem dX9_sends_33 : decode cX9_sends 33 = .ok (.iadd, 1) := by decide +kernel
theorem dX9_sends_34 : decode cX9_sends 34 = .ok (.invokevirtual 119, 3) := by decide +kernel
theorem dX9_sends_37 : decode cX9_sends 37 = .ok (.aload_n 0, 1) := by decide +kernel
theorem dX9_sends_38 : decode cX9_sends 38 = .ok (.iload_n 1, 1) := by decide +kernel
theorem dX9_sends_39 : decode cX9_sends 39 = .ok (.invokestatic 112, 3) := by decide +kernel
theorem dX9_sends_42 : decode cX9_sends 42 = .ok (.iload_n 3, 1) := by decide +kernel
theorem dX9_sends_43 : decode cX9_sends 43 = .ok (.iadd, 1) := by decide +kernel
theorem dX9_sends_44 : decode cX9_sends 44 = .ok (.iload_n 1, 1) := by decide +kernel
theorem dX9_sends_45 : decode cX9_sends 45 = .ok (.invokestatic 122, 3) := by decide +kernel
theorem dX9_sends_48 : decode cX9_sends 48 = .ok (.iload_n 3, 1) := by decide +kernel
theorem dX9_sends_49 : decode cX9_sends 49 = .ok (.iadd, 1) := by decide +kernel
theorem dX9_sends_50 : decode cX9_sends 50 = .ok (.invokevirtual 119, 3) := by decide +kernel
theorem dX9_sends_53 : decode cX9_sends 53 = .ok (.iinc 3 1, 3) := by decide +kernel
theorem dX9_sends_56 : decode cX9_sends 56 = .ok (.goto (-40), 3) := by decide +kernel
theorem dX9_sends_59 : decode cX9_sends 59 = .ok (.aload_n 0, 1) := by decide +kernel
theorem dX9_sends_60 : decode cX9_sends 60 = .ok (.getfield 40, 3) := by decide +kernel
theorem dX9_sends_63 : decode cX9_sends 63 = .ok (.iload_n 1, 1) := by decide +kernel
theorem dX9_sends_64 : decode cX9_sends 64 = .ok (.dup2, 1) := by decide +kernel
theorem dX9_sends_65 : decode cX9_sends 65 = .ok (.iaload, 1) := by decide +kernel
theorem dX9_sends_66 : decode cX9_sends 66 = .ok (.iload_n 2, 1) := by decide +kernel
theorem dX9_sends_67 : decode cX9_sends 67 = .ok (.isub, 1) := by decide +kernel
theorem dX9_sends_68 : decode cX9_sends 68 = .ok (.iastore, 1) := by decide +kernel
theorem dX9_sends_69 : decode cX9_sends 69 = .ok (.iconst 0, 1) := by decide +kernel
theorem dX9_sends_70 : decode cX9_sends 70 = .ok (.istore_n 3, 1) := by decide +kernel
theorem dX9_sends_71 : decode cX9_sends 71 = .ok (.iload_n 3, 1) := by decide +kernel
theorem dX9_sends_72 : decode cX9_sends 72 = .ok (.aload_n 0, 1) := by decide +kernel
theorem dX9_sends_73 : decode cX9_sends 73 = .ok (.getfield 40, 3) := by decide +kernel
theorem dX9_sends_76 : decode cX9_sends 76 = .ok (.iload_n 1, 1) := by decide +kernel
theorem dX9_sends_77 : decode cX9_sends 77 = .ok (.iaload, 1) := by decide +kernel
theorem dX9_sends_78 : decode cX9_sends 78 = .ok (.if_icmp .ge 27, 3) := by decide +kernel
theorem dX9_sends_81 : decode cX9_sends 81 = .ok (.aload_n 0, 1) := by decide +kernel
theorem dX9_sends_82 : decode cX9_sends 82 = .ok (.iload_n 1, 1) := by decide +kernel
theorem dX9_sends_83 : decode cX9_sends 83 = .ok (.invokestatic 112, 3) := by decide +kernel
theorem dX9_sends_86 : decode cX9_sends 86 = .ok (.iload_n 2, 1) := by decide +kernel
theorem dX9_sends_87 : decode cX9_sends 87 = .ok (.iadd, 1) := by decide +kernel
theorem dX9_sends_88 : decode cX9_sends 88 = .ok (.iload_n 3, 1) := by decide +kernel
theorem dX9_sends_89 : decode cX9_sends 89 = .ok (.iadd, 1) := by decide +kernel
theorem dX9_sends_90 : decode cX9_sends 90 = .ok (.iload_n 1, 1) := by decide +kernel
theorem dX9_sends_91 : decode cX9_sends 91 = .ok (.invokestatic 112, 3) := by decide +kernel
theorem dX9_sends_94 : decode cX9_sends 94 = .ok (.iload_n 3, 1) := by decide +kernel
theorem dX9_sends_95 : decode cX9_sends 95 = .ok (.iadd, 1) := by decide +kernel
theorem dX9_sends_96 : decode cX9_sends 96 = .ok (.invokevirtual 119, 3) := by decide +kernel
theorem dX9_sends_99 : decode cX9_sends 99 = .ok (.iinc 3 1, 3) := by decide +kernel
theorem dX9_sends_102 : decode cX9_sends 102 = .ok (.goto (-31), 3) := by decide +kernel
theorem dX9_sends_105 : decode cX9_sends 105 = .ok (.aload_n 0, 1) := by decide +kernel
theorem dX9_sends_106 : decode cX9_sends 106 = .ok (.getfield 58, 3) := by decide +kernel
theorem dX9_sends_109 : decode cX9_sends 109 = .ok (.iload_n 1, 1) := by decide +kernel
theorem dX9_sends_110 : decode cX9_sends 110 = .ok (.iconst 1, 1) := by decide +kernel
theorem dX9_sends_111 : decode cX9_sends 111 = .ok (.bastore, 1) := by decide +kernel
theorem dX9_sends_112 : decode cX9_sends 112 = .ok (.aload_n 0, 1) := by decide +kernel
theorem dX9_sends_113 : decode cX9_sends 113 = .ok (.getfield 62, 3) := by decide +kernel
theorem dX9_sends_116 : decode cX9_sends 116 = .ok (.iload_n 1, 1) := by decide +kernel
theorem dX9_sends_117 : decode cX9_sends 117 = .ok (.iconst 1, 1) := by decide +kernel
theorem dX9_sends_118 : decode cX9_sends 118 = .ok (.bastore, 1) := by decide +kernel
theorem dX9_sends_119 : decode cX9_sends 119 = .ok (.aload_n 0, 1) := by decide +kernel
theorem dX9_sends_120 : decode cX9_sends 120 = .ok (.getfield 55, 3) := by decide +kernel
theorem dX9_sends_123 : decode cX9_sends 123 = .ok (.iload_n 1, 1) := by decide +kernel
theorem dX9_sends_124 : decode cX9_sends 124 = .ok (.aload_n 0, 1) := by decide +kernel
theorem dX9_sends_125 : decode cX9_sends 125 = .ok (.getfield 43, 3) := by decide +kernel
theorem dX9_sends_128 : decode cX9_sends 128 = .ok (.iload_n 1, 1) := by decide +kernel
theorem dX9_sends_129 : decode cX9_sends 129 = .ok (.iaload, 1) := by decide +kernel
theorem dX9_sends_130 : decode cX9_sends 130 = .ok (.iastore, 1) := by decide +kernel
theorem dX9_sends_131 : decode cX9_sends 131 = .ok (.return_, 1) := by decide +kernel
theorem dX9_makes_0 : decode cX9_makes 0 = .ok (.iload_n 1, 1) := by decide +kernel
theorem dX9_makes_1 : decode cX9_makes 1 = .ok (.invokestatic 112, 3) := by decide +kernel
theorem dX9_makes_4 : decode cX9_makes 4 = .ok (.aload_n 0, 1) := by decide +kernel
theorem dX9_makes_5 : decode cX9_makes 5 = .ok (.getfield 40, 3) := by decide +kernel
theorem dX9_makes_8 : decode cX9_makes 8 = .ok (.iload_n 1, 1) := by decide +kernel
theorem dX9_makes_9 : decode cX9_makes 9 = .ok (.iaload, 1) := by decide +kernel
theorem dX9_makes_10 : decode cX9_makes 10 = .ok (.iadd, 1) := by decide +kernel
theorem dX9_makes_11 : decode cX9_makes 11 = .ok (.istore 6, 2) := by decide +kernel
theorem dX9_makes_13 : decode cX9_makes 13 = .ok (.aload_n 0, 1) := by decide +kernel
theorem dX9_makes_14 : decode cX9_makes 14 = .ok (.getfield 7, 3) := by decide +kernel
theorem dX9_makes_17 : decode cX9_makes 17 = .ok (.iload 6, 2) := by decide +kernel
theorem dX9_makes_19 : decode cX9_makes 19 = .ok (.iload_n 2, 1) := by decide +kernel
theorem dX9_makes_20 : decode cX9_makes 20 = .ok (.iastore, 1) := by decide +kernel
theorem dX9_makes_21 : decode cX9_makes 21 = .ok (.aload_n 0, 1) := by decide +kernel
theorem dX9_makes_22 : decode cX9_makes 22 = .ok (.getfield 13, 3) := by decide +kernel
theorem dX9_makes_25 : decode cX9_makes 25 = .ok (.iload 6, 2) := by decide +kernel
theorem dX9_makes_27 : decode cX9_makes 27 = .ok (.iload_n 3, 1) := by decide +kernel
theorem dX9_makes_28 : decode cX9_makes 28 = .ok (.iastore, 1) := by decide +kernel
theorem dX9_makes_29 : decode cX9_makes 29 = .ok (.aload_n 0, 1) := by decide +kernel
theorem dX9_makes_30 : decode cX9_makes 30 = .ok (.getfield 16, 3) := by decide +kernel
theorem dX9_makes_33 : decode cX9_makes 33 = .ok (.iload 6, 2) := by decide +kernel
theorem dX9_makes_35 : decode cX9_makes 35 = .ok (.iload 4, 2) := by decide +kernel
theorem dX9_makes_37 : decode cX9_makes 37 = .ok (.iastore, 1) := by decide +kernel
theorem dX9_makes_38 : decode cX9_makes 38 = .ok (.aload_n 0, 1) := by decide +kernel
theorem dX9_makes_39 : decode cX9_makes 39 = .ok (.getfield 19, 3) := by decide +kernel
theorem dX9_makes_42 : decode cX9_makes 42 = .ok (.iload 6, 2) := by decide +kernel
theorem dX9_makes_44 : decode cX9_makes 44 = .ok (.aload_n 0, 1) := by decide +kernel
theorem dX9_makes_45 : decode cX9_makes 45 = .ok (.getfield 125, 3) := by decide +kernel
theorem dX9_makes_48 : decode cX9_makes 48 = .ok (.iastore, 1) := by decide +kernel
theorem dX9_makes_49 : decode cX9_makes 49 = .ok (.aload_n 0, 1) := by decide +kernel
theorem dX9_makes_50 : decode cX9_makes 50 = .ok (.getfield 22, 3) := by decide +kernel
theorem dX9_makes_53 : decode cX9_makes 53 = .ok (.iload 6, 2) := by decide +kernel
theorem dX9_makes_55 : decode cX9_makes 55 = .ok (.iload_n 1, 1) := by decide +kernel
theorem dX9_makes_56 : decode cX9_makes 56 = .ok (.iastore, 1) := by decide +kernel
theorem dX9_makes_57 : decode cX9_makes 57 = .ok (.aload_n 0, 1) := by decide +kernel
theorem dX9_makes_58 : decode cX9_makes 58 = .ok (.getfield 40, 3) := by decide +kernel
theorem dX9_makes_61 : decode cX9_makes 61 = .ok (.iload_n 1, 1) := by decide +kernel
theorem dX9_makes_62 : decode cX9_makes 62 = .ok (.dup2, 1) := by decide +kernel
theorem dX9_makes_63 : decode cX9_makes 63 = .ok (.iaload, 1) := by decide +kernel
theorem dX9_makes_64 : decode cX9_makes 64 = .ok (.iconst 1, 1) := by decide +kernel
theorem dX9_makes_65 : decode cX9_makes 65 = .ok (.iadd, 1) := by decide +kernel
theorem dX9_makes_66 : decode cX9_makes 66 = .ok (.iastore, 1) := by decide +kernel
theorem dX9_makes_67 : decode cX9_makes 67 = .ok (.aload_n 0, 1) := by decide +kernel
theorem dX9_makes_68 : decode cX9_makes 68 = .ok (.dup, 1) := by decide +kernel
theorem dX9_makes_69 : decode cX9_makes 69 = .ok (.getfield 125, 3) := by decide +kernel
theorem dX9_makes_72 : decode cX9_makes 72 = .ok (.iconst 1, 1) := by decide +kernel
theorem dX9_makes_73 : decode cX9_makes 73 = .ok (.iadd, 1) := by decide +kernel
theorem dX9_makes_74 : decode cX9_makes 74 = .ok (.putfield 125, 3) := by decide +kernel
theorem dX9_makes_77 : decode cX9_makes 77 = .ok (.aload_n 0, 1) := by decide +kernel
theorem dX9_makes_78 : decode cX9_makes 78 = .ok (.iload_n 1, 1) := by decide +kernel
theorem dX9_makes_79 : decode cX9_makes 79 = .ok (.iload 6, 2) := by decide +kernel
theorem dX9_makes_81 : decode cX9_makes 81 = .ok (.invokevirtual 128, 3) := by decide +kernel
theorem dX9_makes_84 : decode cX9_makes 84 = .ok (.aload_n 0, 1) := by decide +kernel
theorem dX9_makes_85 : decode cX9_makes 85 = .ok (.getfield 46, 3) := by decide +kernel
theorem dX9_makes_88 : decode cX9_makes 88 = .ok (.iload_n 1, 1) := by decide +kernel
theorem dX9_makes_89 : decode cX9_makes 89 = .ok (.aload_n 0, 1) := by decide +kernel
theorem dX9_makes_90 : decode cX9_makes 90 = .ok (.iload 6, 2) := by decide +kernel
theorem dX9_makes_92 : decode cX9_makes 92 = .ok (.invokevirtual 131, 3) := by decide +kernel
theorem dX9_makes_95 : decode cX9_makes 95 = .ok (.iastore, 1) := by decide +kernel
theorem dX9_makes_96 : decode cX9_makes 96 = .ok (.aload_n 0, 1) := by decide +kernel
theorem dX9_makes_97 : decode cX9_makes 97 = .ok (.getfield 49, 3) := by decide +kernel
theorem dX9_makes_100 : decode cX9_makes 100 = .ok (.iload_n 1, 1) := by decide +kernel
theorem dX9_makes_101 : decode cX9_makes 101 = .ok (.aload_n 0, 1) := by decide +kernel
theorem dX9_makes_102 : decode cX9_makes 102 = .ok (.aload_n 0, 1) := by decide +kernel
theorem dX9_makes_103 : decode cX9_makes 103 = .ok (.getfield 49, 3) := by decide +kernel
theorem dX9_makes_106 : decode cX9_makes 106 = .ok (.iload_n 1, 1) := by decide +kernel
theorem dX9_makes_107 : decode cX9_makes 107 = .ok (.iaload, 1) := by decide +kernel
theorem dX9_makes_108 : decode cX9_makes 108 = .ok (.iload 6, 2) := by decide +kernel
theorem dX9_makes_110 : decode cX9_makes 110 = .ok (.invokevirtual 108, 3) := by decide +kernel
theorem dX9_makes_113 : decode cX9_makes 113 = .ok (.iastore, 1) := by decide +kernel
theorem dX9_makes_114 : decode cX9_makes 114 = .ok (.aload_n 0, 1) := by decide +kernel
theorem dX9_makes_115 : decode cX9_makes 115 = .ok (.iload_n 1, 1) := by decide +kernel
theorem dX9_makes_116 : decode cX9_makes 116 = .ok (.iload 6, 2) := by decide +kernel
theorem dX9_makes_118 : decode cX9_makes 118 = .ok (.invokevirtual 134, 3) := by decide +kernel
theorem dX9_makes_121 : decode cX9_makes 121 = .ok (.iload 5, 2) := by decide +kernel
theorem dX9_makes_123 : decode cX9_makes 123 = .ok (.ifCond .eq 66, 3) := by decide +kernel
theorem dX9_makes_126 : decode cX9_makes 126 = .ok (.sipush 200, 3) := by decide +kernel
theorem dX9_makes_129 : decode cX9_makes 129 = .ok (.iload_n 1, 1) := by decide +kernel
theorem dX9_makes_130 : decode cX9_makes 130 = .ok (.imul, 1) := by decide +kernel
theorem dX9_makes_131 : decode cX9_makes 131 = .ok (.aload_n 0, 1) := by decide +kernel
theorem dX9_makes_132 : decode cX9_makes 132 = .ok (.getfield 77, 3) := by decide +kernel
theorem dX9_makes_135 : decode cX9_makes 135 = .ok (.iload_n 1, 1) := by decide +kernel
theorem dX9_makes_136 : decode cX9_makes 136 = .ok (.iaload, 1) := by decide +kernel
theorem dX9_makes_137 : decode cX9_makes 137 = .ok (.iadd, 1) := by decide +kernel
theorem dX9_makes_138 : decode cX9_makes 138 = .ok (.istore 7, 2) := by decide +kernel
theorem dX9_makes_140 : decode cX9_makes 140 = .ok (.aload_n 0, 1) := by decide +kernel
theorem dX9_makes_141 : decode cX9_makes 141 = .ok (.getfield 65, 3) := by decide +kernel
theorem dX9_makes_144 : decode cX9_makes 144 = .ok (.iload 7, 2) := by decide +kernel
theorem dX9_makes_146 : decode cX9_makes 146 = .ok (.iload_n 2, 1) := by decide +kernel
theorem dX9_makes_147 : decode cX9_makes 147 = .ok (.iastore, 1) := by decide +kernel
theorem dX9_makes_148 : decode cX9_makes 148 = .ok (.aload_n 0, 1) := by decide +kernel
theorem dX9_makes_149 : decode cX9_makes 149 = .ok (.getfield 68, 3) := by decide +kernel
theorem dX9_makes_152 : decode cX9_makes 152 = .ok (.iload 7, 2) := by decide +kernel
theorem dX9_makes_154 : decode cX9_makes 154 = .ok (.iload_n 3, 1) := by decide +kernel
theorem dX9_makes_155 : decode cX9_makes 155 = .ok (.iastore, 1) := by decide +kernel
theorem dX9_makes_156 : decode cX9_makes 156 = .ok (.aload_n 0, 1) := by decide +kernel
theorem dX9_makes_157 : decode cX9_makes 157 = .ok (.getfield 71, 3) := by decide +kernel
theorem dX9_makes_160 : decode cX9_makes 160 = .ok (.iload 7, 2) := by decide +kernel
theorem dX9_makes_162 : decode cX9_makes 162 = .ok (.iload 4, 2) := by decide +kernel
theorem dX9_makes_164 : decode cX9_makes 164 = .ok (.iastore, 1) := by decide +kernel
theorem dX9_makes_165 : decode cX9_makes 165 = .ok (.aload_n 0, 1) := by decide +kernel
theorem dX9_makes_166 : decode cX9_makes 166 = .ok (.getfield 74, 3) := by decide +kernel
theorem dX9_makes_169 : decode cX9_makes 169 = .ok (.iload 7, 2) := by decide +kernel
theorem dX9_makes_171 : decode cX9_makes 171 = .ok (.aload_n 0, 1) := by decide +kernel
theorem dX9_makes_172 : decode cX9_makes 172 = .ok (.getfield 19, 3) := by decide +kernel
theorem dX9_makes_175 : decode cX9_makes 175 = .ok (.iload 6, 2) := by decide +kernel
theorem dX9_makes_177 : decode cX9_makes 177 = .ok (.iaload, 1) := by decide +kernel
theorem dX9_makes_178 : decode cX9_makes 178 = .ok (.iastore, 1) := by decide +kernel
theorem dX9_makes_179 : decode cX9_makes 179 = .ok (.aload_n 0, 1) := by decide +kernel
theorem dX9_makes_180 : decode cX9_makes 180 = .ok (.getfield 77, 3) := by decide +kernel
theorem dX9_makes_183 : decode cX9_makes 183 = .ok (.iload_n 1, 1) := by decide +kernel
theorem dX9_makes_184 : decode cX9_makes 184 = .ok (.dup2, 1) := by decide +kernel
theorem dX9_makes_185 : decode cX9_makes 185 = .ok (.iaload, 1) := by decide +kernel
theorem dX9_makes_186 : decode cX9_makes 186 = .ok (.iconst 1, 1) := by decide +kernel
theorem dX9_makes_187 : decode cX9_makes 187 = .ok (.iadd, 1) := by decide +kernel
theorem dX9_makes_188 : decode cX9_makes 188 = .ok (.iastore, 1) := by decide +kernel
theorem dX9_makes_189 : decode cX9_makes 189 = .ok (.aload_n 0, 1) := by decide +kernel
theorem dX9_makes_190 : decode cX9_makes 190 = .ok (.getfield 58, 3) := by decide +kernel
theorem dX9_makes_193 : decode cX9_makes 193 = .ok (.iload_n 1, 1) := by decide +kernel
theorem dX9_makes_194 : decode cX9_makes 194 = .ok (.baload, 1) := by decide +kernel
theorem dX9_makes_195 : decode cX9_makes 195 = .ok (.ifCond .ne 9, 3) := by decide +kernel
theorem dX9_makes_198 : decode cX9_makes 198 = .ok (.aload_n 0, 1) := by decide +kernel
theorem dX9_makes_199 : decode cX9_makes 199 = .ok (.iload_n 1, 1) := by decide +kernel
theorem dX9_makes_200 : decode cX9_makes 200 = .ok (.iconst 1, 1) := by decide +kernel
theorem dX9_makes_201 : decode cX9_makes 201 = .ok (.invokevirtual 137, 3) := by decide +kernel
theorem dX9_makes_204 : decode cX9_makes 204 = .ok (.return_, 1) := by decide +kernel
theorem dX9_isCharacter_0 : decode cX9_isCharacter 0 = .ok (.iload_n 0, 1) := by decide +kernel
theorem dX9_isCharacter_1 : decode cX9_isCharacter 1 = .ok (.bipush 32, 2) := by decide +kernel
theorem dX9_isCharacter_3 : decode cX9_isCharacter 3 = .ok (.bipush 126, 2) := by decide +kernel
theorem dX9_isCharacter_5 : decode cX9_isCharacter 5 = .ok (.invokestatic 96, 3) := by decide +kernel
theorem dX9_isCharacter_8 : decode cX9_isCharacter 8 = .ok (.ireturn, 1) := by decide +kernel
theorem dX9_isFull_0 : decode cX9_isFull 0 = .ok (.aload_n 0, 1) := by decide +kernel
theorem dX9_isFull_1 : decode cX9_isFull 1 = .ok (.getfield 34, 3) := by decide +kernel
theorem dX9_isFull_4 : decode cX9_isFull 4 = .ok (.iload_n 1, 1) := by decide +kernel
theorem dX9_isFull_5 : decode cX9_isFull 5 = .ok (.iaload, 1) := by decide +kernel
theorem dX9_isFull_6 : decode cX9_isFull 6 = .ok (.bipush 60, 2) := by decide +kernel
theorem dX9_isFull_8 : decode cX9_isFull 8 = .ok (.if_icmp .ge 13, 3) := by decide +kernel
theorem dX9_isFull_11 : decode cX9_isFull 11 = .ok (.aload_n 0, 1) := by decide +kernel
theorem dX9_isFull_12 : decode cX9_isFull 12 = .ok (.getfield 125, 3) := by decide +kernel
theorem dX9_isFull_15 : decode cX9_isFull 15 = .ok (.sipush 200, 3) := by decide +kernel
theorem dX9_isFull_18 : decode cX9_isFull 18 = .ok (.if_icmp .ne 7, 3) := by decide +kernel
theorem dX9_isFull_21 : decode cX9_isFull 21 = .ok (.iconst 1, 1) := by decide +kernel
theorem dX9_isFull_22 : decode cX9_isFull 22 = .ok (.goto 4, 3) := by decide +kernel
theorem dX9_isFull_25 : decode cX9_isFull 25 = .ok (.iconst 0, 1) := by decide +kernel
theorem dX9_isFull_26 : decode cX9_isFull 26 = .ok (.ireturn, 1) := by decide +kernel
theorem dX9_insert_0 : decode cX9_insert 0 = .ok (.aload_n 0, 1) := by decide +kernel
theorem dX9_insert_1 : decode cX9_insert 1 = .ok (.iconst 0, 1) := by decide +kernel
theorem dX9_insert_2 : decode cX9_insert 2 = .ok (.putfield 92, 3) := by decide +kernel
theorem dX9_insert_5 : decode cX9_insert 5 = .ok (.iload_n 1, 1) := by decide +kernel
theorem dX9_insert_6 : decode cX9_insert 6 = .ok (.invokestatic 140, 3) := by decide +kernel
theorem dX9_insert_9 : decode cX9_insert 9 = .ok (.ifCond .ne 9, 3) := by decide +kernel
theorem dX9_insert_12 : decode cX9_insert 12 = .ok (.aload_n 0, 1) := by decide +kernel
theorem dX9_insert_13 : decode cX9_insert 13 = .ok (.iconst 1, 1) := by decide +kernel
theorem dX9_insert_14 : decode cX9_insert 14 = .ok (.invokevirtual 144, 3) := by decide +kernel
theorem dX9_insert_17 : decode cX9_insert 17 = .ok (.ireturn, 1) := by decide +kernel
theorem dX9_insert_18 : decode cX9_insert 18 = .ok (.iload_n 2, 1) := by decide +kernel
theorem dX9_insert_19 : decode cX9_insert 19 = .ok (.iconst 0, 1) := by decide +kernel
theorem dX9_insert_20 : decode cX9_insert 20 = .ok (.aload_n 0, 1) := by decide +kernel
theorem dX9_insert_21 : decode cX9_insert 21 = .ok (.getfield 34, 3) := by decide +kernel
theorem dX9_insert_24 : decode cX9_insert 24 = .ok (.iload_n 1, 1) := by decide +kernel
theorem dX9_insert_25 : decode cX9_insert 25 = .ok (.iaload, 1) := by decide +kernel
theorem dX9_insert_26 : decode cX9_insert 26 = .ok (.invokestatic 96, 3) := by decide +kernel
theorem dX9_insert_29 : decode cX9_insert 29 = .ok (.ifCond .eq 10, 3) := by decide +kernel
theorem dX9_insert_32 : decode cX9_insert 32 = .ok (.iload_n 3, 1) := by decide +kernel
theorem dX9_insert_33 : decode cX9_insert 33 = .ok (.invokestatic 147, 3) := by decide +kernel
theorem dX9_insert_36 : decode cX9_insert 36 = .ok (.ifCond .ne 9, 3) := by decide +kernel
theorem dX9_insert_39 : decode cX9_insert 39 = .ok (.aload_n 0, 1) := by decide +kernel
theorem dX9_insert_40 : decode cX9_insert 40 = .ok (.iconst 2, 1) := by decide +kernel
theorem dX9_insert_41 : decode cX9_insert 41 = .ok (.invokevirtual 144, 3) := by decide +kernel
theorem dX9_insert_44 : decode cX9_insert 44 = .ok (.ireturn, 1) := by decide +kernel
theorem dX9_insert_45 : decode cX9_insert 45 = .ok (.aload_n 0, 1) := by decide +kernel
theorem dX9_insert_46 : decode cX9_insert 46 = .ok (.iload_n 1, 1) := by decide +kernel
theorem dX9_insert_47 : decode cX9_insert 47 = .ok (.invokevirtual 150, 3) := by decide +kernel
theorem dX9_insert_50 : decode cX9_insert 50 = .ok (.ifCond .eq 9, 3) := by decide +kernel
theorem dX9_insert_53 : decode cX9_insert 53 = .ok (.aload_n 0, 1) := by decide +kernel
theorem dX9_insert_54 : decode cX9_insert 54 = .ok (.iconst 3, 1) := by decide +kernel
theorem dX9_insert_55 : decode cX9_insert 55 = .ok (.invokevirtual 144, 3) := by decide +kernel
theorem dX9_insert_58 : decode cX9_insert 58 = .ok (.ireturn, 1) := by decide +kernel
theorem dX9_insert_59 : decode cX9_insert 59 = .ok (.aload_n 0, 1) := by decide +kernel
theorem dX9_insert_60 : decode cX9_insert 60 = .ok (.iload_n 1, 1) := by decide +kernel
theorem dX9_insert_61 : decode cX9_insert 61 = .ok (.iconst 1, 1) := by decide +kernel
theorem dX9_insert_62 : decode cX9_insert 62 = .ok (.iload_n 2, 1) := by decide +kernel
theorem dX9_insert_63 : decode cX9_insert 63 = .ok (.iload_n 3, 1) := by decide +kernel
theorem dX9_insert_64 : decode cX9_insert 64 = .ok (.iconst 1, 1) := by decide +kernel
theorem dX9_insert_65 : decode cX9_insert 65 = .ok (.invokevirtual 153, 3) := by decide +kernel
theorem dX9_insert_68 : decode cX9_insert 68 = .ok (.aload_n 0, 1) := by decide +kernel
theorem dX9_insert_69 : decode cX9_insert 69 = .ok (.getfield 34, 3) := by decide +kernel
theorem dX9_insert_72 : decode cX9_insert 72 = .ok (.iload_n 1, 1) := by decide +kernel
theorem dX9_insert_73 : decode cX9_insert 73 = .ok (.iaload, 1) := by decide +kernel
theorem dX9_insert_74 : decode cX9_insert 74 = .ok (.ireturn, 1) := by decide +kernel
theorem dX9_codeAt_0 : decode cX9_codeAt 0 = .ok (.aload_n 0, 1) := by decide +kernel
theorem dX9_codeAt_1 : decode cX9_codeAt 1 = .ok (.getfield 25, 3) := by decide +kernel
theorem dX9_codeAt_4 : decode cX9_codeAt 4 = .ok (.sipush 201, 3) := by decide +kernel
theorem dX9_codeAt_7 : decode cX9_codeAt 7 = .ok (.iload_n 1, 1) := by decide +kernel
theorem dX9_codeAt_8 : decode cX9_codeAt 8 = .ok (.imul, 1) := by decide +kernel
theorem dX9_codeAt_9 : decode cX9_codeAt 9 = .ok (.iload_n 2, 1) := by decide +kernel
theorem dX9_codeAt_10 : decode cX9_codeAt 10 = .ok (.iadd, 1) := by decide +kernel
theorem dX9_codeAt_11 : decode cX9_codeAt 11 = .ok (.iaload, 1) := by decide +kernel
theorem dX9_codeAt_12 : decode cX9_codeAt 12 = .ok (.ireturn, 1) := by decide +kernel
theorem dX9_delete_0 : decode cX9_delete 0 = .ok (.aload_n 0, 1) := by decide +kernel
theorem dX9_delete_1 : decode cX9_delete 1 = .ok (.iconst 0, 1) := by decide +kernel
theorem dX9_delete_2 : decode cX9_delete 2 = .ok (.putfield 92, 3) := by decide +kernel
theorem dX9_delete_5 : decode cX9_delete 5 = .ok (.iload_n 1, 1) := by decide +kernel
theorem dX9_delete_6 : decode cX9_delete 6 = .ok (.invokestatic 140, 3) := by decide +kernel
theorem dX9_delete_9 : decode cX9_delete 9 = .ok (.ifCond .ne 10, 3) := by decide +kernel
theorem dX9_delete_12 : decode cX9_delete 12 = .ok (.aload_n 0, 1) := by decide +kernel
theorem dX9_delete_13 : decode cX9_delete 13 = .ok (.iconst 1, 1) := by decide +kernel
theorem dX9_delete_14 : decode cX9_delete 14 = .ok (.invokevirtual 144, 3) := by decide +kernel
theorem dX9_delete_17 : decode cX9_delete 17 = .ok (.i2c, 1) := by decide +kernel
theorem dX9_delete_18 : decode cX9_delete 18 = .ok (.ireturn, 1) := by decide +kernel
theorem dX9_delete_19 : decode cX9_delete 19 = .ok (.iload_n 2, 1) := by decide +kernel
theorem dX9_delete_20 : decode cX9_delete 20 = .ok (.iconst 0, 1) := by decide +kernel
theorem dX9_delete_21 : decode cX9_delete 21 = .ok (.aload_n 0, 1) := by decide +kernel
theorem dX9_delete_22 : decode cX9_delete 22 = .ok (.getfield 34, 3) := by decide +kernel
theorem dX9_delete_25 : decode cX9_delete 25 = .ok (.iload_n 1, 1) := by decide +kernel
theorem dX9_delete_26 : decode cX9_delete 26 = .ok (.iaload, 1) := by decide +kernel
theorem dX9_delete_27 : decode cX9_delete 27 = .ok (.iconst 1, 1) := by decide +kernel
theorem dX9_delete_28 : decode cX9_delete 28 = .ok (.isub, 1) := by decide +kernel
theorem dX9_delete_29 : decode cX9_delete 29 = .ok (.invokestatic 96, 3) := by decide +kernel
theorem dX9_delete_32 : decode cX9_delete 32 = .ok (.ifCond .ne 10, 3) := by decide +kernel
theorem dX9_delete_35 : decode cX9_delete 35 = .ok (.aload_n 0, 1) := by decide +kernel
theorem dX9_delete_36 : decode cX9_delete 36 = .ok (.iconst 2, 1) := by decide +kernel
theorem dX9_delete_37 : decode cX9_delete 37 = .ok (.invokevirtual 144, 3) := by decide +kernel
theorem dX9_delete_40 : decode cX9_delete 40 = .ok (.i2c, 1) := by decide +kernel
theorem dX9_delete_41 : decode cX9_delete 41 = .ok (.ireturn, 1) := by decide +kernel
theorem dX9_delete_42 : decode cX9_delete 42 = .ok (.aload_n 0, 1) := by decide +kernel
theorem dX9_delete_43 : decode cX9_delete 43 = .ok (.getfield 125, 3) := by decide +kernel
theorem dX9_delete_46 : decode cX9_delete 46 = .ok (.sipush 200, 3) := by decide +kernel
theorem dX9_delete_49 : decode cX9_delete 49 = .ok (.if_icmp .ne 10, 3) := by decide +kernel
theorem dX9_delete_52 : decode cX9_delete 52 = .ok (.aload_n 0, 1) := by decide +kernel
theorem dX9_delete_53 : decode cX9_delete 53 = .ok (.iconst 3, 1) := by decide +kernel
theorem dX9_delete_54 : decode cX9_delete 54 = .ok (.invokevirtual 144, 3) := by decide +kernel
theorem dX9_delete_57 : decode cX9_delete 57 = .ok (.i2c, 1) := by decide +kernel
theorem dX9_delete_58 : decode cX9_delete 58 = .ok (.ireturn, 1) := by decide +kernel
theorem dX9_delete_59 : decode cX9_delete 59 = .ok (.aload_n 0, 1) := by decide +kernel
theorem dX9_delete_60 : decode cX9_delete 60 = .ok (.iload_n 1, 1) := by decide +kernel
theorem dX9_delete_61 : decode cX9_delete 61 = .ok (.iload_n 2, 1) := by decide +kernel
theorem dX9_delete_62 : decode cX9_delete 62 = .ok (.invokevirtual 157, 3) := by decide +kernel
theorem dX9_delete_65 : decode cX9_delete 65 = .ok (.istore_n 3, 1) := by decide +kernel
theorem dX9_delete_66 : decode cX9_delete 66 = .ok (.aload_n 0, 1) := by decide +kernel
theorem dX9_delete_67 : decode cX9_delete 67 = .ok (.iload_n 1, 1) := by decide +kernel
theorem dX9_delete_68 : decode cX9_delete 68 = .ok (.iconst 2, 1) := by decide +kernel
theorem dX9_delete_69 : decode cX9_delete 69 = .ok (.iload_n 2, 1) := by decide +kernel
theorem dX9_delete_70 : decode cX9_delete 70 = .ok (.iload_n 3, 1) := by decide +kernel
theorem dX9_delete_71 : decode cX9_delete 71 = .ok (.iconst 1, 1) := by decide +kernel
theorem dX9_delete_72 : decode cX9_delete 72 = .ok (.invokevirtual 153, 3) := by decide +kernel
theorem dX9_delete_75 : decode cX9_delete 75 = .ok (.iload_n 3, 1) := by decide +kernel
theorem dX9_delete_76 : decode cX9_delete 76 = .ok (.i2c, 1) := by decide +kernel
theorem dX9_delete_77 : decode cX9_delete 77 = .ok (.ireturn, 1) := by decide +kernel
theorem dX9_type_0 : decode cX9_type 0 = .ok (.aload_n 0, 1) := by decide +kernel
theorem dX9_type_1 : decode cX9_type 1 = .ok (.iconst 0, 1) := by decide +kernel
theorem dX9_type_2 : decode cX9_type 2 = .ok (.putfield 92, 3) := by decide +kernel
theorem dX9_type_5 : decode cX9_type 5 = .ok (.iload_n 1, 1) := by decide +kernel
theorem dX9_type_6 : decode cX9_type 6 = .ok (.invokestatic 140, 3) := by decide +kernel
theorem dX9_type_9 : decode cX9_type 9 = .ok (.ifCond .ne 9, 3) := by decide +kernel
theorem dX9_type_12 : decode cX9_type 12 = .ok (.aload_n 0, 1) := by decide +kernel
theorem dX9_type_13 : decode cX9_type 13 = .ok (.iconst 1, 1) := by decide +kernel
theorem dX9_type_14 : decode cX9_type 14 = .ok (.invokevirtual 144, 3) := by decide +kernel
theorem dX9_type_17 : decode cX9_type 17 = .ok (.ireturn, 1) := by decide +kernel
theorem dX9_type_18 : decode cX9_type 18 = .ok (.iload_n 2, 1) := by decide +kernel
theorem dX9_type_19 : decode cX9_type 19 = .ok (.invokestatic 147, 3) := by decide +kernel
theorem dX9_type_22 : decode cX9_type 22 = .ok (.ifCond .ne 9, 3) := by decide +kernel
theorem dX9_type_25 : decode cX9_type 25 = .ok (.aload_n 0, 1) := by decide +kernel
theorem dX9_type_26 : decode cX9_type 26 = .ok (.iconst 2, 1) := by decide +kernel
theorem dX9_type_27 : decode cX9_type 27 = .ok (.invokevirtual 144, 3) := by decide +kernel
theorem dX9_type_30 : decode cX9_type 30 = .ok (.ireturn, 1) := by decide +kernel
theorem dX9_type_31 : decode cX9_type 31 = .ok (.aload_n 0, 1) := by decide +kernel
theorem dX9_type_32 : decode cX9_type 32 = .ok (.iload_n 1, 1) := by decide +kernel
theorem dX9_type_33 : decode cX9_type 33 = .ok (.invokevirtual 150, 3) := by decide +kernel
theorem dX9_type_36 : decode cX9_type 36 = .ok (.ifCond .eq 9, 3) := by decide +kernel
theorem dX9_type_39 : decode cX9_type 39 = .ok (.aload_n 0, 1) := by decide +kernel
theorem dX9_type_40 : decode cX9_type 40 = .ok (.iconst 3, 1) := by decide +kernel
theorem dX9_type_41 : decode cX9_type 41 = .ok (.invokevirtual 144, 3) := by decide +kernel
theorem dX9_type_44 : decode cX9_type 44 = .ok (.ireturn, 1) := by decide +kernel
theorem dX9_type_45 : decode cX9_type 45 = .ok (.aload_n 0, 1) := by decide +kernel
theorem dX9_type_46 : decode cX9_type 46 = .ok (.iload_n 1, 1) := by decide +kernel
theorem dX9_type_47 : decode cX9_type 47 = .ok (.iconst 1, 1) := by decide +kernel
theorem dX9_type_48 : decode cX9_type 48 = .ok (.aload_n 0, 1) := by decide +kernel
theorem dX9_type_49 : decode cX9_type 49 = .ok (.getfield 46, 3) := by decide +kernel
theorem dX9_type_52 : decode cX9_type 52 = .ok (.iload_n 1, 1) := by decide +kernel
theorem dX9_type_53 : decode cX9_type 53 = .ok (.iaload, 1) := by decide +kernel
theorem dX9_type_54 : decode cX9_type 54 = .ok (.iload_n 2, 1) := by decide +kernel
theorem dX9_type_55 : decode cX9_type 55 = .ok (.iconst 1, 1) := by decide +kernel
theorem dX9_type_56 : decode cX9_type 56 = .ok (.invokevirtual 153, 3) := by decide +kernel
theorem dX9_type_59 : decode cX9_type 59 = .ok (.aload_n 0, 1) := by decide +kernel
theorem dX9_type_60 : decode cX9_type 60 = .ok (.getfield 46, 3) := by decide +kernel
theorem dX9_type_63 : decode cX9_type 63 = .ok (.iload_n 1, 1) := by decide +kernel
theorem dX9_type_64 : decode cX9_type 64 = .ok (.iaload, 1) := by decide +kernel
theorem dX9_type_65 : decode cX9_type 65 = .ok (.ireturn, 1) := by decide +kernel
theorem dX9_erase_0 : decode cX9_erase 0 = .ok (.aload_n 0, 1) := by decide +kernel
theorem dX9_erase_1 : decode cX9_erase 1 = .ok (.iconst 0, 1) := by decide +kernel
theorem dX9_erase_2 : decode cX9_erase 2 = .ok (.putfield 92, 3) := by decide +kernel
theorem dX9_erase_5 : decode cX9_erase 5 = .ok (.iload_n 1, 1) := by decide +kernel
theorem dX9_erase_6 : decode cX9_erase 6 = .ok (.invokestatic 140, 3) := by decide +kernel
theorem dX9_erase_9 : decode cX9_erase 9 = .ok (.ifCond .ne 10, 3) := by decide +kernel
theorem dX9_erase_12 : decode cX9_erase 12 = .ok (.aload_n 0, 1) := by decide +kernel
theorem dX9_erase_13 : decode cX9_erase 13 = .ok (.iconst 1, 1) := by decide +kernel
theorem dX9_erase_14 : decode cX9_erase 14 = .ok (.invokevirtual 144, 3) := by decide +kernel
theorem dX9_erase_17 : decode cX9_erase 17 = .ok (.i2c, 1) := by decide +kernel
theorem dX9_erase_18 : decode cX9_erase 18 = .ok (.ireturn, 1) := by decide +kernel
theorem dX9_erase_19 : decode cX9_erase 19 = .ok (.aload_n 0, 1) := by decide +kernel
theorem dX9_erase_20 : decode cX9_erase 20 = .ok (.getfield 46, 3) := by decide +kernel
theorem dX9_erase_23 : decode cX9_erase 23 = .ok (.iload_n 1, 1) := by decide +kernel
theorem dX9_erase_24 : decode cX9_erase 24 = .ok (.iaload, 1) := by decide +kernel
theorem dX9_erase_25 : decode cX9_erase 25 = .ok (.ifCond .ne 10, 3) := by decide +kernel
theorem dX9_erase_28 : decode cX9_erase 28 = .ok (.aload_n 0, 1) := by decide +kernel
theorem dX9_erase_29 : decode cX9_erase 29 = .ok (.iconst 2, 1) := by decide +kernel
theorem dX9_erase_30 : decode cX9_erase 30 = .ok (.invokevirtual 144, 3) := by decide +kernel
theorem dX9_erase_33 : decode cX9_erase 33 = .ok (.i2c, 1) := by decide +kernel
theorem dX9_erase_34 : decode cX9_erase 34 = .ok (.ireturn, 1) := by decide +kernel
theorem dX9_erase_35 : decode cX9_erase 35 = .ok (.aload_n 0, 1) := by decide +kernel
theorem dX9_erase_36 : decode cX9_erase 36 = .ok (.getfield 125, 3) := by decide +kernel
theorem dX9_erase_39 : decode cX9_erase 39 = .ok (.sipush 200, 3) := by decide +kernel
theorem dX9_erase_42 : decode cX9_erase 42 = .ok (.if_icmp .ne 10, 3) := by decide +kernel
theorem dX9_erase_45 : decode cX9_erase 45 = .ok (.aload_n 0, 1) := by decide +kernel
theorem dX9_erase_46 : decode cX9_erase 46 = .ok (.iconst 3, 1) := by decide +kernel
theorem dX9_erase_47 : decode cX9_erase 47 = .ok (.invokevirtual 144, 3) := by decide +kernel
theorem dX9_erase_50 : decode cX9_erase 50 = .ok (.i2c, 1) := by decide +kernel
theorem dX9_erase_51 : decode cX9_erase 51 = .ok (.ireturn, 1) := by decide +kernel
theorem dX9_erase_52 : decode cX9_erase 52 = .ok (.aload_n 0, 1) := by decide +kernel
theorem dX9_erase_53 : decode cX9_erase 53 = .ok (.iload_n 1, 1) := by decide +kernel
theorem dX9_erase_54 : decode cX9_erase 54 = .ok (.aload_n 0, 1) := by decide +kernel
theorem dX9_erase_55 : decode cX9_erase 55 = .ok (.getfield 46, 3) := by decide +kernel
theorem dX9_erase_58 : decode cX9_erase 58 = .ok (.iload_n 1, 1) := by decide +kernel
theorem dX9_erase_59 : decode cX9_erase 59 = .ok (.iaload, 1) := by decide +kernel
theorem dX9_erase_60 : decode cX9_erase 60 = .ok (.iconst 1, 1) := by decide +kernel
theorem dX9_erase_61 : decode cX9_erase 61 = .ok (.isub, 1) := by decide +kernel
theorem dX9_erase_62 : decode cX9_erase 62 = .ok (.invokevirtual 157, 3) := by decide +kernel
theorem dX9_erase_65 : decode cX9_erase 65 = .ok (.istore_n 2, 1) := by decide +kernel
theorem dX9_erase_66 : decode cX9_erase 66 = .ok (.aload_n 0, 1) := by decide +kernel
theorem dX9_erase_67 : decode cX9_erase 67 = .ok (.iload_n 1, 1) := by decide +kernel
theorem dX9_erase_68 : decode cX9_erase 68 = .ok (.iconst 2, 1) := by decide +kernel
theorem dX9_erase_69 : decode cX9_erase 69 = .ok (.aload_n 0, 1) := by decide +kernel
theorem dX9_erase_70 : decode cX9_erase 70 = .ok (.getfield 46, 3) := by decide +kernel
theorem dX9_erase_73 : decode cX9_erase 73 = .ok (.iload_n 1, 1) := by decide +kernel
theorem dX9_erase_74 : decode cX9_erase 74 = .ok (.iaload, 1) := by decide +kernel
theorem dX9_erase_75 : decode cX9_erase 75 = .ok (.iconst 1, 1) := by decide +kernel
theorem dX9_erase_76 : decode cX9_erase 76 = .ok (.isub, 1) := by decide +kernel
theorem dX9_erase_77 : decode cX9_erase 77 = .ok (.iload_n 2, 1) := by decide +kernel
theorem dX9_erase_78 : decode cX9_erase 78 = .ok (.iconst 1, 1) := by decide +kernel
theorem dX9_erase_79 : decode cX9_erase 79 = .ok (.invokevirtual 153, 3) := by decide +kernel
theorem dX9_erase_82 : decode cX9_erase 82 = .ok (.iload_n 2, 1) := by decide +kernel
theorem dX9_erase_83 : decode cX9_erase 83 = .ok (.i2c, 1) := by decide +kernel
theorem dX9_erase_84 : decode cX9_erase 84 = .ok (.ireturn, 1) := by decide +kernel
theorem dX9_moveCursor_0 : decode cX9_moveCursor 0 = .ok (.aload_n 0, 1) := by decide +kernel
theorem dX9_moveCursor_1 : decode cX9_moveCursor 1 = .ok (.iconst 0, 1) := by decide +kernel
theorem dX9_moveCursor_2 : decode cX9_moveCursor 2 = .ok (.putfield 92, 3) := by decide +kernel
theorem dX9_moveCursor_5 : decode cX9_moveCursor 5 = .ok (.iload_n 1, 1) := by decide +kernel
theorem dX9_moveCursor_6 : decode cX9_moveCursor 6 = .ok (.invokestatic 140, 3) := by decide +kernel
theorem dX9_moveCursor_9 : decode cX9_moveCursor 9 = .ok (.ifCond .ne 9, 3) := by decide +kernel
theorem dX9_moveCursor_12 : decode cX9_moveCursor 12 = .ok (.aload_n 0, 1) := by decide +kernel
theorem dX9_moveCursor_13 : decode cX9_moveCursor 13 = .ok (.iconst 1, 1) := by decide +kernel
theorem dX9_moveCursor_14 : decode cX9_moveCursor 14 = .ok (.invokevirtual 144, 3) := by decide +kernel
theorem dX9_moveCursor_17 : decode cX9_moveCursor 17 = .ok (.ireturn, 1) := by decide +kernel
theorem dX9_moveCursor_18 : decode cX9_moveCursor 18 = .ok (.iload_n 2, 1) := by decide +kernel
theorem dX9_moveCursor_19 : decode cX9_moveCursor 19 = .ok (.iconst 0, 1) := by decide +kernel
theorem dX9_moveCursor_20 : decode cX9_moveCursor 20 = .ok (.aload_n 0, 1) := by decide +kernel
theorem dX9_moveCursor_21 : decode cX9_moveCursor 21 = .ok (.getfield 34, 3) := by decide +kernel
theorem dX9_moveCursor_24 : decode cX9_moveCursor 24 = .ok (.iload_n 1, 1) := by decide +kernel
theorem dX9_moveCursor_25 : decode cX9_moveCursor 25 = .ok (.iaload, 1) := by decide +kernel
theorem dX9_moveCursor_26 : decode cX9_moveCursor 26 = .ok (.invokestatic 96, 3) := by decide +kernel
theorem dX9_moveCursor_29 : decode cX9_moveCursor 29 = .ok (.ifCond .ne 9, 3) := by decide +kernel
theorem dX9_moveCursor_32 : decode cX9_moveCursor 32 = .ok (.aload_n 0, 1) := by decide +kernel
theorem dX9_moveCursor_33 : decode cX9_moveCursor 33 = .ok (.iconst 2, 1) := by decide +kernel
theorem dX9_moveCursor_34 : decode cX9_moveCursor 34 = .ok (.invokevirtual 144, 3) := by decide +kernel
theorem dX9_moveCursor_37 : decode cX9_moveCursor 37 = .ok (.ireturn, 1) := by decide +kernel
theorem dX9_moveCursor_38 : decode cX9_moveCursor 38 = .ok (.aload_n 0, 1) := by decide +kernel
theorem dX9_moveCursor_39 : decode cX9_moveCursor 39 = .ok (.getfield 46, 3) := by decide +kernel
theorem dX9_moveCursor_42 : decode cX9_moveCursor 42 = .ok (.iload_n 1, 1) := by decide +kernel
theorem dX9_moveCursor_43 : decode cX9_moveCursor 43 = .ok (.iaload, 1) := by decide +kernel
theorem dX9_moveCursor_44 : decode cX9_moveCursor 44 = .ok (.istore_n 3, 1) := by decide +kernel
theorem dX9_moveCursor_45 : decode cX9_moveCursor 45 = .ok (.aload_n 0, 1) := by decide +kernel
theorem dX9_moveCursor_46 : decode cX9_moveCursor 46 = .ok (.getfield 46, 3) := by decide +kernel
theorem dX9_moveCursor_49 : decode cX9_moveCursor 49 = .ok (.iload_n 1, 1) := by decide +kernel
theorem dX9_moveCursor_50 : decode cX9_moveCursor 50 = .ok (.iload_n 2, 1) := by decide +kernel
theorem dX9_moveCursor_51 : decode cX9_moveCursor 51 = .ok (.iastore, 1) := by decide +kernel
theorem dX9_moveCursor_52 : decode cX9_moveCursor 52 = .ok (.iload_n 3, 1) := by decide +kernel
theorem dX9_moveCursor_53 : decode cX9_moveCursor 53 = .ok (.ireturn, 1) := by decide +kernel
theorem dX9_find_0 : decode cX9_find 0 = .ok (.iconst 0, 1) := by decide +kernel
theorem dX9_find_1 : decode cX9_find 1 = .ok (.istore_n 3, 1) := by decide +kernel
theorem dX9_find_2 : decode cX9_find 2 = .ok (.iload_n 3, 1) := by decide +kernel
theorem dX9_find_3 : decode cX9_find 3 = .ok (.aload_n 0, 1) := by decide +kernel
theorem dX9_find_4 : decode cX9_find 4 = .ok (.getfield 34, 3) := by decide +kernel
theorem dX9_find_7 : decode cX9_find 7 = .ok (.iload_n 1, 1) := by decide +kernel
theorem dX9_find_8 : decode cX9_find 8 = .ok (.iaload, 1) := by decide +kernel
theorem dX9_find_9 : decode cX9_find 9 = .ok (.if_icmp .ge 27, 3) := by decide +kernel
theorem dX9_find_12 : decode cX9_find 12 = .ok (.aload_n 0, 1) := by decide +kernel
theorem dX9_find_13 : decode cX9_find 13 = .ok (.getfield 28, 3) := by decide +kernel
theorem dX9_find_16 : decode cX9_find 16 = .ok (.sipush 201, 3) := by decide +kernel
theorem dX9_find_19 : decode cX9_find 19 = .ok (.iload_n 1, 1) := by decide +kernel
theorem dX9_find_20 : decode cX9_find 20 = .ok (.imul, 1) := by decide +kernel
theorem dX9_find_21 : decode cX9_find 21 = .ok (.iload_n 3, 1) := by decide +kernel
theorem dX9_find_22 : decode cX9_find 22 = .ok (.iadd, 1) := by decide +kernel
theorem dX9_find_23 : decode cX9_find 23 = .ok (.iaload, 1) := by decide +kernel
theorem dX9_find_24 : decode cX9_find 24 = .ok (.iload_n 2, 1) := by decide +kernel
theorem dX9_find_25 : decode cX9_find 25 = .ok (.if_icmp .ne 5, 3) := by decide +kernel
theorem dX9_find_28 : decode cX9_find 28 = .ok (.iload_n 3, 1) := by decide +kernel
theorem dX9_find_29 : decode cX9_find 29 = .ok (.ireturn, 1) := by decide +kernel
theorem dX9_find_30 : decode cX9_find 30 = .ok (.iinc 3 1, 3) := by decide +kernel
theorem dX9_find_33 : decode cX9_find 33 = .ok (.goto (-31), 3) := by decide +kernel
theorem dX9_find_36 : decode cX9_find 36 = .ok (.iconst (-1), 1) := by decide +kernel
theorem dX9_find_37 : decode cX9_find 37 = .ok (.ireturn, 1) := by decide +kernel
theorem dX9_undo_0 : decode cX9_undo 0 = .ok (.aload_n 0, 1) := by decide +kernel
theorem dX9_undo_1 : decode cX9_undo 1 = .ok (.iconst 0, 1) := by decide +kernel
theorem dX9_undo_2 : decode cX9_undo 2 = .ok (.putfield 92, 3) := by decide +kernel
theorem dX9_undo_5 : decode cX9_undo 5 = .ok (.iload_n 1, 1) := by decide +kernel
theorem dX9_undo_6 : decode cX9_undo 6 = .ok (.invokestatic 140, 3) := by decide +kernel
theorem dX9_undo_9 : decode cX9_undo 9 = .ok (.ifCond .ne 17, 3) := by decide +kernel
theorem dX9_undo_12 : decode cX9_undo 12 = .ok (.aload_n 0, 1) := by decide +kernel
theorem dX9_undo_13 : decode cX9_undo 13 = .ok (.iconst 1, 1) := by decide +kernel
theorem dX9_undo_14 : decode cX9_undo 14 = .ok (.invokevirtual 144, 3) := by decide +kernel
theorem dX9_undo_17 : decode cX9_undo 17 = .ok (.ifCond .le 7, 3) := by decide +kernel
theorem dX9_undo_20 : decode cX9_undo 20 = .ok (.iconst 1, 1) := by decide +kernel
theorem dX9_undo_21 : decode cX9_undo 21 = .ok (.goto 4, 3) := by decide +kernel
theorem dX9_undo_24 : decode cX9_undo 24 = .ok (.iconst 0, 1) := by decide +kernel
theorem dX9_undo_25 : decode cX9_undo 25 = .ok (.ireturn, 1) := by decide +kernel
theorem dX9_undo_26 : decode cX9_undo 26 = .ok (.aload_n 0, 1) := by decide +kernel
theorem dX9_undo_27 : decode cX9_undo 27 = .ok (.getfield 77, 3) := by decide +kernel
theorem dX9_undo_30 : decode cX9_undo 30 = .ok (.iload_n 1, 1) := by decide +kernel
theorem dX9_undo_31 : decode cX9_undo 31 = .ok (.iaload, 1) := by decide +kernel
theorem dX9_undo_32 : decode cX9_undo 32 = .ok (.ifCond .ne 17, 3) := by decide +kernel
theorem dX9_undo_35 : decode cX9_undo 35 = .ok (.aload_n 0, 1) := by decide +kernel
theorem dX9_undo_36 : decode cX9_undo 36 = .ok (.iconst 2, 1) := by decide +kernel
theorem dX9_undo_37 : decode cX9_undo 37 = .ok (.invokevirtual 144, 3) := by decide +kernel
theorem dX9_undo_40 : decode cX9_undo 40 = .ok (.ifCond .le 7, 3) := by decide +kernel
theorem dX9_undo_43 : decode cX9_undo 43 = .ok (.iconst 1, 1) := by decide +kernel
theorem dX9_undo_44 : decode cX9_undo 44 = .ok (.goto 4, 3) := by decide +kernel
theorem dX9_undo_47 : decode cX9_undo 47 = .ok (.iconst 0, 1) := by decide +kernel
theorem dX9_undo_48 : decode cX9_undo 48 = .ok (.ireturn, 1) := by decide +kernel
theorem dX9_undo_49 : decode cX9_undo 49 = .ok (.sipush 200, 3) := by decide +kernel
theorem dX9_undo_52 : decode cX9_undo 52 = .ok (.iload_n 1, 1) := by decide +kernel
theorem dX9_undo_53 : decode cX9_undo 53 = .ok (.imul, 1) := by decide +kernel
theorem dX9_undo_54 : decode cX9_undo 54 = .ok (.aload_n 0, 1) := by decide +kernel
theorem dX9_undo_55 : decode cX9_undo 55 = .ok (.getfield 77, 3) := by decide +kernel
theorem dX9_undo_58 : decode cX9_undo 58 = .ok (.iload_n 1, 1) := by decide +kernel
theorem dX9_undo_59 : decode cX9_undo 59 = .ok (.iaload, 1) := by decide +kernel
theorem dX9_undo_60 : decode cX9_undo 60 = .ok (.iadd, 1) := by decide +kernel
theorem dX9_undo_61 : decode cX9_undo 61 = .ok (.iconst 1, 1) := by decide +kernel
theorem dX9_undo_62 : decode cX9_undo 62 = .ok (.isub, 1) := by decide +kernel
theorem dX9_undo_63 : decode cX9_undo 63 = .ok (.istore_n 2, 1) := by decide +kernel
theorem dX9_undo_64 : decode cX9_undo 64 = .ok (.aload_n 0, 1) := by decide +kernel
theorem dX9_undo_65 : decode cX9_undo 65 = .ok (.getfield 65, 3) := by decide +kernel
theorem dX9_undo_68 : decode cX9_undo 68 = .ok (.iload_n 2, 1) := by decide +kernel
theorem dX9_undo_69 : decode cX9_undo 69 = .ok (.iaload, 1) := by decide +kernel
theorem dX9_undo_70 : decode cX9_undo 70 = .ok (.iconst 1, 1) := by decide +kernel
theorem dX9_undo_71 : decode cX9_undo 71 = .ok (.if_icmp .ne 7, 3) := by decide +kernel
theorem dX9_undo_74 : decode cX9_undo 74 = .ok (.iconst 1, 1) := by decide +kernel
theorem dX9_undo_75 : decode cX9_undo 75 = .ok (.goto 4, 3) := by decide +kernel
theorem dX9_undo_78 : decode cX9_undo 78 = .ok (.iconst 0, 1) := by decide +kernel
theorem dX9_undo_79 : decode cX9_undo 79 = .ok (.istore_n 3, 1) := by decide +kernel
theorem dX9_undo_80 : decode cX9_undo 80 = .ok (.iload_n 3, 1) := by decide +kernel
theorem dX9_undo_81 : decode cX9_undo 81 = .ok (.ifCond .eq 17, 3) := by decide +kernel
theorem dX9_undo_84 : decode cX9_undo 84 = .ok (.aload_n 0, 1) := by decide +kernel
theorem dX9_undo_85 : decode cX9_undo 85 = .ok (.iload_n 1, 1) := by decide +kernel
theorem dX9_undo_86 : decode cX9_undo 86 = .ok (.aload_n 0, 1) := by decide +kernel
theorem dX9_undo_87 : decode cX9_undo 87 = .ok (.getfield 74, 3) := by decide +kernel
theorem dX9_undo_90 : decode cX9_undo 90 = .ok (.iload_n 2, 1) := by decide +kernel
theorem dX9_undo_91 : decode cX9_undo 91 = .ok (.iaload, 1) := by decide +kernel
theorem dX9_undo_92 : decode cX9_undo 92 = .ok (.invokevirtual 160, 3) := by decide +kernel
theorem dX9_undo_95 : decode cX9_undo 95 = .ok (.goto 9, 3) := by decide +kernel
theorem dX9_undo_98 : decode cX9_undo 98 = .ok (.aload_n 0, 1) := by decide +kernel
theorem dX9_undo_99 : decode cX9_undo 99 = .ok (.getfield 68, 3) := by decide +kernel
theorem dX9_undo_102 : decode cX9_undo 102 = .ok (.iload_n 2, 1) := by decide +kernel
theorem dX9_undo_103 : decode cX9_undo 103 = .ok (.iaload, 1) := by decide +kernel
theorem dX9_undo_104 : decode cX9_undo 104 = .ok (.istore 4, 2) := by decide +kernel
theorem dX9_undo_106 : decode cX9_undo 106 = .ok (.iload 4, 2) := by decide +kernel
theorem dX9_undo_108 : decode cX9_undo 108 = .ok (.ifCond .lt 42, 3) := by decide +kernel
theorem dX9_undo_111 : decode cX9_undo 111 = .ok (.iload_n 3, 1) := by decide +kernel
theorem dX9_undo_112 : decode cX9_undo 112 = .ok (.ifCond .eq 16, 3) := by decide +kernel
theorem dX9_undo_115 : decode cX9_undo 115 = .ok (.aload_n 0, 1) := by decide +kernel
theorem dX9_undo_116 : decode cX9_undo 116 = .ok (.getfield 125, 3) := by decide +kernel
theorem dX9_undo_119 : decode cX9_undo 119 = .ok (.sipush 200, 3) := by decide +kernel
theorem dX9_undo_122 : decode cX9_undo 122 = .ok (.if_icmp .ne 28, 3) := by decide +kernel
theorem dX9_undo_125 : decode cX9_undo 125 = .ok (.goto 11, 3) := by decide +kernel
theorem dX9_undo_128 : decode cX9_undo 128 = .ok (.aload_n 0, 1) := by decide +kernel
theorem dX9_undo_129 : decode cX9_undo 129 = .ok (.iload_n 1, 1) := by decide +kernel
theorem dX9_undo_130 : decode cX9_undo 130 = .ok (.invokevirtual 150, 3) := by decide +kernel
theorem dX9_undo_133 : decode cX9_undo 133 = .ok (.ifCond .eq 17, 3) := by decide +kernel
theorem dX9_undo_136 : decode cX9_undo 136 = .ok (.aload_n 0, 1) := by decide +kernel
theorem dX9_undo_137 : decode cX9_undo 137 = .ok (.iconst 3, 1) := by decide +kernel
theorem dX9_undo_138 : decode cX9_undo 138 = .ok (.invokevirtual 144, 3) := by decide +kernel
theorem dX9_undo_141 : decode cX9_undo 141 = .ok (.ifCond .le 7, 3) := by decide +kernel
theorem dX9_undo_144 : decode cX9_undo 144 = .ok (.iconst 1, 1) := by decide +kernel
theorem dX9_undo_145 : decode cX9_undo 145 = .ok (.goto 4, 3) := by decide +kernel
theorem dX9_undo_148 : decode cX9_undo 148 = .ok (.iconst 0, 1) := by decide +kernel
theorem dX9_undo_149 : decode cX9_undo 149 = .ok (.ireturn, 1) := by decide +kernel
theorem dX9_undo_150 : decode cX9_undo 150 = .ok (.aload_n 0, 1) := by decide +kernel
theorem dX9_undo_151 : decode cX9_undo 151 = .ok (.getfield 77, 3) := by decide +kernel
theorem dX9_undo_154 : decode cX9_undo 154 = .ok (.iload_n 1, 1) := by decide +kernel
theorem dX9_undo_155 : decode cX9_undo 155 = .ok (.dup2, 1) := by decide +kernel
theorem dX9_undo_156 : decode cX9_undo 156 = .ok (.iaload, 1) := by decide +kernel
theorem dX9_undo_157 : decode cX9_undo 157 = .ok (.iconst 1, 1) := by decide +kernel
theorem dX9_undo_158 : decode cX9_undo 158 = .ok (.isub, 1) := by decide +kernel
theorem dX9_undo_159 : decode cX9_undo 159 = .ok (.iastore, 1) := by decide +kernel
theorem dX9_undo_160 : decode cX9_undo 160 = .ok (.iload 4, 2) := by decide +kernel
theorem dX9_undo_162 : decode cX9_undo 162 = .ok (.ifCond .lt 26, 3) := by decide +kernel
theorem dX9_undo_165 : decode cX9_undo 165 = .ok (.aload_n 0, 1) := by decide +kernel
theorem dX9_undo_166 : decode cX9_undo 166 = .ok (.iload_n 1, 1) := by decide +kernel
theorem dX9_undo_167 : decode cX9_undo 167 = .ok (.iload_n 3, 1) := by decide +kernel
theorem dX9_undo_168 : decode cX9_undo 168 = .ok (.ifCond .eq 7, 3) := by decide +kernel
theorem dX9_undo_171 : decode cX9_undo 171 = .ok (.iconst 2, 1) := by decide +kernel
theorem dX9_undo_172 : decode cX9_undo 172 = .ok (.goto 4, 3) := by decide +kernel
theorem dX9_undo_175 : decode cX9_undo 175 = .ok (.iconst 1, 1) := by decide +kernel
theorem dX9_undo_176 : decode cX9_undo 176 = .ok (.iload 4, 2) := by decide +kernel
theorem dX9_undo_178 : decode cX9_undo 178 = .ok (.aload_n 0, 1) := by decide +kernel
theorem dX9_undo_179 : decode cX9_undo 179 = .ok (.getfield 71, 3) := by decide +kernel
theorem dX9_undo_182 : decode cX9_undo 182 = .ok (.iload_n 2, 1) := by decide +kernel
theorem dX9_undo_183 : decode cX9_undo 183 = .ok (.iaload, 1) := by decide +kernel
theorem dX9_undo_184 : decode cX9_undo 184 = .ok (.iconst 0, 1) := by decide +kernel
theorem dX9_undo_185 : decode cX9_undo 185 = .ok (.invokevirtual 153, 3) := by decide +kernel
theorem dX9_undo_188 : decode cX9_undo 188 = .ok (.iload 4, 2) := by decide +kernel
theorem dX9_undo_190 : decode cX9_undo 190 = .ok (.ifCond .lt 7, 3) := by decide +kernel
theorem dX9_undo_193 : decode cX9_undo 193 = .ok (.iconst 1, 1) := by decide +kernel
theorem dX9_undo_194 : decode cX9_undo 194 = .ok (.goto 4, 3) := by decide +kernel
theorem dX9_undo_197 : decode cX9_undo 197 = .ok (.iconst 0, 1) := by decide +kernel
theorem dX9_undo_198 : decode cX9_undo 198 = .ok (.ireturn, 1) := by decide +kernel
theorem dX9_enters_0 : decode cX9_enters 0 = .ok (.aload_n 0, 1) := by decide +kernel
theorem dX9_enters_1 : decode cX9_enters 1 = .ok (.getfield 80, 3) := by decide +kernel
theorem dX9_enters_4 : decode cX9_enters 4 = .ok (.aload_n 0, 1) := by decide +kernel
theorem dX9_enters_5 : decode cX9_enters 5 = .ok (.getfield 55, 3) := by decide +kernel
theorem dX9_enters_8 : decode cX9_enters 8 = .ok (.iload_n 1, 1) := by decide +kernel
theorem dX9_enters_9 : decode cX9_enters 9 = .ok (.iaload, 1) := by decide +kernel
theorem dX9_enters_10 : decode cX9_enters 10 = .ok (.iaload, 1) := by decide +kernel
theorem dX9_enters_11 : decode cX9_enters 11 = .ok (.istore_n 2, 1) := by decide +kernel
theorem dX9_enters_12 : decode cX9_enters 12 = .ok (.iload_n 2, 1) := by decide +kernel
theorem dX9_enters_13 : decode cX9_enters 13 = .ok (.aload_n 0, 1) := by decide +kernel
theorem dX9_enters_14 : decode cX9_enters 14 = .ok (.getfield 163, 3) := by decide +kernel
theorem dX9_enters_17 : decode cX9_enters 17 = .ok (.if_icmp .ge 52, 3) := by decide +kernel
theorem dX9_enters_20 : decode cX9_enters 20 = .ok (.aload_n 0, 1) := by decide +kernel
theorem dX9_enters_21 : decode cX9_enters 21 = .ok (.sipush 1200, 3) := by decide +kernel
theorem dX9_enters_24 : decode cX9_enters 24 = .ok (.iload_n 2, 1) := by decide +kernel
theorem dX9_enters_25 : decode cX9_enters 25 = .ok (.iadd, 1) := by decide +kernel
theorem dX9_enters_26 : decode cX9_enters 26 = .ok (.sipush 1400, 3) := by decide +kernel
theorem dX9_enters_29 : decode cX9_enters 29 = .ok (.invokevirtual 119, 3) := by decide +kernel
theorem dX9_enters_32 : decode cX9_enters 32 = .ok (.iconst 0, 1) := by decide +kernel
theorem dX9_enters_33 : decode cX9_enters 33 = .ok (.istore_n 3, 1) := by decide +kernel
theorem dX9_enters_34 : decode cX9_enters 34 = .ok (.iload_n 3, 1) := by decide +kernel
theorem dX9_enters_35 : decode cX9_enters 35 = .ok (.aload_n 0, 1) := by decide +kernel
theorem dX9_enters_36 : decode cX9_enters 36 = .ok (.getfield 52, 3) := by decide +kernel
theorem dX9_enters_39 : decode cX9_enters 39 = .ok (.iload_n 1, 1) := by decide +kernel
theorem dX9_enters_40 : decode cX9_enters 40 = .ok (.iaload, 1) := by decide +kernel
theorem dX9_enters_41 : decode cX9_enters 41 = .ok (.if_icmp .ge 22, 3) := by decide +kernel
theorem dX9_enters_44 : decode cX9_enters 44 = .ok (.aload_n 0, 1) := by decide +kernel
theorem dX9_enters_45 : decode cX9_enters 45 = .ok (.iload_n 1, 1) := by decide +kernel
theorem dX9_enters_46 : decode cX9_enters 46 = .ok (.invokestatic 122, 3) := by decide +kernel
theorem dX9_enters_49 : decode cX9_enters 49 = .ok (.iload_n 3, 1) := by decide +kernel
theorem dX9_enters_50 : decode cX9_enters 50 = .ok (.iadd, 1) := by decide +kernel
theorem dX9_enters_51 : decode cX9_enters 51 = .ok (.sipush 1400, 3) := by decide +kernel
theorem dX9_enters_54 : decode cX9_enters 54 = .ok (.invokevirtual 166, 3) := by decide +kernel
theorem dX9_enters_57 : decode cX9_enters 57 = .ok (.iinc 3 1, 3) := by decide +kernel
theorem dX9_enters_60 : decode cX9_enters 60 = .ok (.goto (-26), 3) := by decide +kernel
theorem dX9_enters_63 : decode cX9_enters 63 = .ok (.iinc 2 1, 3) := by decide +kernel
theorem dX9_enters_66 : decode cX9_enters 66 = .ok (.goto (-54), 3) := by decide +kernel
theorem dX9_enters_69 : decode cX9_enters 69 = .ok (.iconst 0, 1) := by decide +kernel
theorem dX9_enters_70 : decode cX9_enters 70 = .ok (.istore_n 2, 1) := by decide +kernel
theorem dX9_enters_71 : decode cX9_enters 71 = .ok (.iload_n 2, 1) := by decide +kernel
theorem dX9_enters_72 : decode cX9_enters 72 = .ok (.aload_n 0, 1) := by decide +kernel
theorem dX9_enters_73 : decode cX9_enters 73 = .ok (.getfield 52, 3) := by decide +kernel
theorem dX9_enters_76 : decode cX9_enters 76 = .ok (.iload_n 1, 1) := by decide +kernel
theorem dX9_enters_77 : decode cX9_enters 77 = .ok (.iaload, 1) := by decide +kernel
theorem dX9_enters_78 : decode cX9_enters 78 = .ok (.if_icmp .ge 50, 3) := by decide +kernel
theorem dX9_enters_81 : decode cX9_enters 81 = .ok (.aload_n 0, 1) := by decide +kernel
theorem dX9_enters_82 : decode cX9_enters 82 = .ok (.iload_n 1, 1) := by decide +kernel
theorem dX9_enters_83 : decode cX9_enters 83 = .ok (.invokestatic 122, 3) := by decide +kernel
theorem dX9_enters_86 : decode cX9_enters 86 = .ok (.iload_n 2, 1) := by decide +kernel
theorem dX9_enters_87 : decode cX9_enters 87 = .ok (.iadd, 1) := by decide +kernel
theorem dX9_enters_88 : decode cX9_enters 88 = .ok (.sipush 1200, 3) := by decide +kernel
theorem dX9_enters_91 : decode cX9_enters 91 = .ok (.aload_n 0, 1) := by decide +kernel
theorem dX9_enters_92 : decode cX9_enters 92 = .ok (.getfield 163, 3) := by decide +kernel
theorem dX9_enters_95 : decode cX9_enters 95 = .ok (.iadd, 1) := by decide +kernel
theorem dX9_enters_96 : decode cX9_enters 96 = .ok (.invokevirtual 119, 3) := by decide +kernel
theorem dX9_enters_99 : decode cX9_enters 99 = .ok (.aload_n 0, 1) := by decide +kernel
theorem dX9_enters_100 : decode cX9_enters 100 = .ok (.iconst 2, 1) := by decide +kernel
theorem dX9_enters_101 : decode cX9_enters 101 = .ok (.sipush 1200, 3) := by decide +kernel
theorem dX9_enters_104 : decode cX9_enters 104 = .ok (.aload_n 0, 1) := by decide +kernel
theorem dX9_enters_105 : decode cX9_enters 105 = .ok (.getfield 163, 3) := by decide +kernel
theorem dX9_enters_108 : decode cX9_enters 108 = .ok (.iadd, 1) := by decide +kernel
theorem dX9_enters_109 : decode cX9_enters 109 = .ok (.invokevirtual 128, 3) := by decide +kernel
theorem dX9_enters_112 : decode cX9_enters 112 = .ok (.aload_n 0, 1) := by decide +kernel
theorem dX9_enters_113 : decode cX9_enters 113 = .ok (.dup, 1) := by decide +kernel
theorem dX9_enters_114 : decode cX9_enters 114 = .ok (.getfield 163, 3) := by decide +kernel
theorem dX9_enters_117 : decode cX9_enters 117 = .ok (.iconst 1, 1) := by decide +kernel
theorem dX9_enters_118 : decode cX9_enters 118 = .ok (.iadd, 1) := by decide +kernel
theorem dX9_enters_119 : decode cX9_enters 119 = .ok (.putfield 163, 3) := by decide +kernel
theorem dX9_enters_122 : decode cX9_enters 122 = .ok (.iinc 2 1, 3) := by decide +kernel
theorem dX9_enters_125 : decode cX9_enters 125 = .ok (.goto (-54), 3) := by decide +kernel
theorem dX9_enters_128 : decode cX9_enters 128 = .ok (.aload_n 0, 1) := by decide +kernel
theorem dX9_enters_129 : decode cX9_enters 129 = .ok (.getfield 83, 3) := by decide +kernel
theorem dX9_enters_132 : decode cX9_enters 132 = .ok (.aload_n 0, 1) := by decide +kernel
theorem dX9_enters_133 : decode cX9_enters 133 = .ok (.getfield 169, 3) := by decide +kernel
theorem dX9_enters_136 : decode cX9_enters 136 = .ok (.iload_n 1, 1) := by decide +kernel
theorem dX9_enters_137 : decode cX9_enters 137 = .ok (.iastore, 1) := by decide +kernel
theorem dX9_enters_138 : decode cX9_enters 138 = .ok (.aload_n 0, 1) := by decide +kernel
theorem dX9_enters_139 : decode cX9_enters 139 = .ok (.dup, 1) := by decide +kernel
theorem dX9_enters_140 : decode cX9_enters 140 = .ok (.getfield 169, 3) := by decide +kernel
theorem dX9_enters_143 : decode cX9_enters 143 = .ok (.iconst 1, 1) := by decide +kernel
theorem dX9_enters_144 : decode cX9_enters 144 = .ok (.iadd, 1) := by decide +kernel
theorem dX9_enters_145 : decode cX9_enters 145 = .ok (.putfield 169, 3) := by decide +kernel
theorem dX9_enters_148 : decode cX9_enters 148 = .ok (.aload_n 0, 1) := by decide +kernel
theorem dX9_enters_149 : decode cX9_enters 149 = .ok (.getfield 80, 3) := by decide +kernel
theorem dX9_enters_152 : decode cX9_enters 152 = .ok (.aload_n 0, 1) := by decide +kernel
theorem dX9_enters_153 : decode cX9_enters 153 = .ok (.getfield 169, 3) := by decide +kernel
theorem dX9_enters_156 : decode cX9_enters 156 = .ok (.aload_n 0, 1) := by decide +kernel
theorem dX9_enters_157 : decode cX9_enters 157 = .ok (.getfield 163, 3) := by decide +kernel
theorem dX9_enters_160 : decode cX9_enters 160 = .ok (.iastore, 1) := by decide +kernel
theorem dX9_enters_161 : decode cX9_enters 161 = .ok (.aload_n 0, 1) := by decide +kernel
theorem dX9_enters_162 : decode cX9_enters 162 = .ok (.getfield 62, 3) := by decide +kernel
theorem dX9_enters_165 : decode cX9_enters 165 = .ok (.iload_n 1, 1) := by decide +kernel
theorem dX9_enters_166 : decode cX9_enters 166 = .ok (.iconst 0, 1) := by decide +kernel
theorem dX9_enters_167 : decode cX9_enters 167 = .ok (.bastore, 1) := by decide +kernel
theorem dX9_enters_168 : decode cX9_enters 168 = .ok (.return_, 1) := by decide +kernel
theorem dX9_deliverUp_0 : decode cX9_deliverUp 0 = .ok (.aload_n 0, 1) := by decide +kernel
theorem dX9_deliverUp_1 : decode cX9_deliverUp 1 = .ok (.iconst 0, 1) := by decide +kernel
theorem dX9_deliverUp_2 : decode cX9_deliverUp 2 = .ok (.putfield 92, 3) := by decide +kernel
theorem dX9_deliverUp_5 : decode cX9_deliverUp 5 = .ok (.iload_n 1, 1) := by decide +kernel
theorem dX9_deliverUp_6 : decode cX9_deliverUp 6 = .ok (.invokestatic 140, 3) := by decide +kernel
theorem dX9_deliverUp_9 : decode cX9_deliverUp 9 = .ok (.ifCond .ne 9, 3) := by decide +kernel
theorem dX9_deliverUp_12 : decode cX9_deliverUp 12 = .ok (.aload_n 0, 1) := by decide +kernel
theorem dX9_deliverUp_13 : decode cX9_deliverUp 13 = .ok (.iconst 1, 1) := by decide +kernel
theorem dX9_deliverUp_14 : decode cX9_deliverUp 14 = .ok (.invokevirtual 144, 3) := by decide +kernel
theorem dX9_deliverUp_17 : decode cX9_deliverUp 17 = .ok (.ireturn, 1) := by decide +kernel
theorem dX9_deliverUp_18 : decode cX9_deliverUp 18 = .ok (.aload_n 0, 1) := by decide +kernel
theorem dX9_deliverUp_19 : decode cX9_deliverUp 19 = .ok (.getfield 62, 3) := by decide +kernel
theorem dX9_deliverUp_22 : decode cX9_deliverUp 22 = .ok (.iload_n 1, 1) := by decide +kernel
theorem dX9_deliverUp_23 : decode cX9_deliverUp 23 = .ok (.baload, 1) := by decide +kernel
theorem dX9_deliverUp_24 : decode cX9_deliverUp 24 = .ok (.ifCond .ne 9, 3) := by decide +kernel
theorem dX9_deliverUp_27 : decode cX9_deliverUp 27 = .ok (.aload_n 0, 1) := by decide +kernel
theorem dX9_deliverUp_28 : decode cX9_deliverUp 28 = .ok (.iconst 2, 1) := by decide +kernel
theorem dX9_deliverUp_29 : decode cX9_deliverUp 29 = .ok (.invokevirtual 144, 3) := by decide +kernel
theorem dX9_deliverUp_32 : decode cX9_deliverUp 32 = .ok (.ireturn, 1) := by decide +kernel
theorem dX9_deliverUp_33 : decode cX9_deliverUp 33 = .ok (.aload_n 0, 1) := by decide +kernel
theorem dX9_deliverUp_34 : decode cX9_deliverUp 34 = .ok (.iload_n 1, 1) := by decide +kernel
theorem dX9_deliverUp_35 : decode cX9_deliverUp 35 = .ok (.invokevirtual 172, 3) := by decide +kernel
theorem dX9_deliverUp_38 : decode cX9_deliverUp 38 = .ok (.aload_n 0, 1) := by decide +kernel
theorem dX9_deliverUp_39 : decode cX9_deliverUp 39 = .ok (.getfield 52, 3) := by decide +kernel
theorem dX9_deliverUp_42 : decode cX9_deliverUp 42 = .ok (.iload_n 1, 1) := by decide +kernel
theorem dX9_deliverUp_43 : decode cX9_deliverUp 43 = .ok (.iaload, 1) := by decide +kernel
theorem dX9_deliverUp_44 : decode cX9_deliverUp 44 = .ok (.ireturn, 1) := by decide +kernel
theorem dX9_goesOn_0 : decode cX9_goesOn 0 = .ok (.aload_n 0, 1) := by decide +kernel
theorem dX9_goesOn_1 : decode cX9_goesOn 1 = .ok (.getfield 7, 3) := by decide +kernel
theorem dX9_goesOn_4 : decode cX9_goesOn 4 = .ok (.iload_n 1, 1) := by decide +kernel
theorem dX9_goesOn_5 : decode cX9_goesOn 5 = .ok (.iaload, 1) := by decide +kernel
theorem dX9_goesOn_6 : decode cX9_goesOn 6 = .ok (.aload_n 0, 1) := by decide +kernel
theorem dX9_goesOn_7 : decode cX9_goesOn 7 = .ok (.getfield 7, 3) := by decide +kernel
theorem dX9_goesOn_10 : decode cX9_goesOn 10 = .ok (.iload_n 2, 1) := by decide +kernel
theorem dX9_goesOn_11 : decode cX9_goesOn 11 = .ok (.iaload, 1) := by decide +kernel
theorem dX9_goesOn_12 : decode cX9_goesOn 12 = .ok (.if_icmp .eq 5, 3) := by decide +kernel
theorem dX9_goesOn_15 : decode cX9_goesOn 15 = .ok (.iconst 0, 1) := by decide +kernel
theorem dX9_goesOn_16 : decode cX9_goesOn 16 = .ok (.ireturn, 1) := by decide +kernel
theorem dX9_goesOn_17 : decode cX9_goesOn 17 = .ok (.aload_n 0, 1) := by decide +kernel
theorem dX9_goesOn_18 : decode cX9_goesOn 18 = .ok (.getfield 7, 3) := by decide +kernel
theorem dX9_goesOn_21 : decode cX9_goesOn 21 = .ok (.iload_n 2, 1) := by decide +kernel
theorem dX9_goesOn_22 : decode cX9_goesOn 22 = .ok (.iaload, 1) := by decide +kernel
theorem dX9_goesOn_23 : decode cX9_goesOn 23 = .ok (.iconst 1, 1) := by decide +kernel
theorem dX9_goesOn_24 : decode cX9_goesOn 24 = .ok (.if_icmp .ne 28, 3) := by decide +kernel
theorem dX9_goesOn_27 : decode cX9_goesOn 27 = .ok (.aload_n 0, 1) := by decide +kernel
theorem dX9_goesOn_28 : decode cX9_goesOn 28 = .ok (.getfield 13, 3) := by decide +kernel
theorem dX9_goesOn_31 : decode cX9_goesOn 31 = .ok (.iload_n 2, 1) := by decide +kernel
theorem dX9_goesOn_32 : decode cX9_goesOn 32 = .ok (.iaload, 1) := by decide +kernel
theorem dX9_goesOn_33 : decode cX9_goesOn 33 = .ok (.aload_n 0, 1) := by decide +kernel
theorem dX9_goesOn_34 : decode cX9_goesOn 34 = .ok (.getfield 13, 3) := by decide +kernel
theorem dX9_goesOn_37 : decode cX9_goesOn 37 = .ok (.iload_n 1, 1) := by decide +kernel
theorem dX9_goesOn_38 : decode cX9_goesOn 38 = .ok (.iaload, 1) := by decide +kernel
theorem dX9_goesOn_39 : decode cX9_goesOn 39 = .ok (.iconst 1, 1) := by decide +kernel
theorem dX9_goesOn_40 : decode cX9_goesOn 40 = .ok (.iadd, 1) := by decide +kernel
theorem dX9_goesOn_41 : decode cX9_goesOn 41 = .ok (.if_icmp .ne 7, 3) := by decide +kernel
theorem dX9_goesOn_44 : decode cX9_goesOn 44 = .ok (.iconst 1, 1) := by decide +kernel
theorem dX9_goesOn_45 : decode cX9_goesOn 45 = .ok (.goto 44, 3) := by decide +kernel
theorem dX9_goesOn_48 : decode cX9_goesOn 48 = .ok (.iconst 0, 1) := by decide +kernel
theorem dX9_goesOn_49 : decode cX9_goesOn 49 = .ok (.goto 40, 3) := by decide +kernel
theorem dX9_goesOn_52 : decode cX9_goesOn 52 = .ok (.aload_n 0, 1) := by decide +kernel
theorem dX9_goesOn_53 : decode cX9_goesOn 53 = .ok (.getfield 13, 3) := by decide +kernel
theorem dX9_goesOn_56 : decode cX9_goesOn 56 = .ok (.iload_n 2, 1) := by decide +kernel
theorem dX9_goesOn_57 : decode cX9_goesOn 57 = .ok (.iaload, 1) := by decide +kernel
theorem dX9_goesOn_58 : decode cX9_goesOn 58 = .ok (.aload_n 0, 1) := by decide +kernel
theorem dX9_goesOn_59 : decode cX9_goesOn 59 = .ok (.getfield 13, 3) := by decide +kernel
theorem dX9_goesOn_62 : decode cX9_goesOn 62 = .ok (.iload_n 1, 1) := by decide +kernel
theorem dX9_goesOn_63 : decode cX9_goesOn 63 = .ok (.iaload, 1) := by decide +kernel
theorem dX9_goesOn_64 : decode cX9_goesOn 64 = .ok (.if_icmp .eq 20, 3) := by decide +kernel
theorem dX9_goesOn_67 : decode cX9_goesOn 67 = .ok (.aload_n 0, 1) := by decide +kernel
theorem dX9_goesOn_68 : decode cX9_goesOn 68 = .ok (.getfield 13, 3) := by decide +kernel
theorem dX9_goesOn_71 : decode cX9_goesOn 71 = .ok (.iload_n 2, 1) := by decide +kernel
theorem dX9_goesOn_72 : decode cX9_goesOn 72 = .ok (.iaload, 1) := by decide +kernel
theorem dX9_goesOn_73 : decode cX9_goesOn 73 = .ok (.aload_n 0, 1) := by decide +kernel
theorem dX9_goesOn_74 : decode cX9_goesOn 74 = .ok (.getfield 13, 3) := by decide +kernel
theorem dX9_goesOn_77 : decode cX9_goesOn 77 = .ok (.iload_n 1, 1) := by decide +kernel
theorem dX9_goesOn_78 : decode cX9_goesOn 78 = .ok (.iaload, 1) := by decide +kernel
theorem dX9_goesOn_79 : decode cX9_goesOn 79 = .ok (.iconst 1, 1) := by decide +kernel
theorem dX9_goesOn_80 : decode cX9_goesOn 80 = .ok (.isub, 1) := by decide +kernel
theorem dX9_goesOn_81 : decode cX9_goesOn 81 = .ok (.if_icmp .ne 7, 3) := by decide +kernel
theorem dX9_goesOn_84 : decode cX9_goesOn 84 = .ok (.iconst 1, 1) := by decide +kernel
theorem dX9_goesOn_85 : decode cX9_goesOn 85 = .ok (.goto 4, 3) := by decide +kernel
theorem dX9_goesOn_88 : decode cX9_goesOn 88 = .ok (.iconst 0, 1) := by decide +kernel
theorem dX9_goesOn_89 : decode cX9_goesOn 89 = .ok (.ireturn, 1) := by decide +kernel
theorem dX9_run_0 : decode cX9_run 0 = .ok (.iconst 1, 1) := by decide +kernel
theorem dX9_run_1 : decode cX9_run 1 = .ok (.istore_n 3, 1) := by decide +kernel
theorem dX9_run_2 : decode cX9_run 2 = .ok (.iload_n 2, 1) := by decide +kernel
theorem dX9_run_3 : decode cX9_run 3 = .ok (.iload_n 3, 1) := by decide +kernel
theorem dX9_run_4 : decode cX9_run 4 = .ok (.iadd, 1) := by decide +kernel
theorem dX9_run_5 : decode cX9_run 5 = .ok (.aload_n 0, 1) := by decide +kernel
theorem dX9_run_6 : decode cX9_run 6 = .ok (.getfield 40, 3) := by decide +kernel
theorem dX9_run_9 : decode cX9_run 9 = .ok (.iload_n 1, 1) := by decide +kernel
theorem dX9_run_10 : decode cX9_run 10 = .ok (.iaload, 1) := by decide +kernel
theorem dX9_run_11 : decode cX9_run 11 = .ok (.if_icmp .ge 34, 3) := by decide +kernel
theorem dX9_run_14 : decode cX9_run 14 = .ok (.aload_n 0, 1) := by decide +kernel
theorem dX9_run_15 : decode cX9_run 15 = .ok (.iload_n 1, 1) := by decide +kernel
theorem dX9_run_16 : decode cX9_run 16 = .ok (.invokestatic 112, 3) := by decide +kernel
theorem dX9_run_19 : decode cX9_run 19 = .ok (.iload_n 2, 1) := by decide +kernel
theorem dX9_run_20 : decode cX9_run 20 = .ok (.iadd, 1) := by decide +kernel
theorem dX9_run_21 : decode cX9_run 21 = .ok (.iload_n 3, 1) := by decide +kernel
theorem dX9_run_22 : decode cX9_run 22 = .ok (.iadd, 1) := by decide +kernel
theorem dX9_run_23 : decode cX9_run 23 = .ok (.iconst 1, 1) := by decide +kernel
theorem dX9_run_24 : decode cX9_run 24 = .ok (.isub, 1) := by decide +kernel
theorem dX9_run_25 : decode cX9_run 25 = .ok (.iload_n 1, 1) := by decide +kernel
theorem dX9_run_26 : decode cX9_run 26 = .ok (.invokestatic 112, 3) := by decide +kernel
theorem dX9_run_29 : decode cX9_run 29 = .ok (.iload_n 2, 1) := by decide +kernel
theorem dX9_run_30 : decode cX9_run 30 = .ok (.iadd, 1) := by decide +kernel
theorem dX9_run_31 : decode cX9_run 31 = .ok (.iload_n 3, 1) := by decide +kernel
theorem dX9_run_32 : decode cX9_run 32 = .ok (.iadd, 1) := by decide +kernel
theorem dX9_run_33 : decode cX9_run 33 = .ok (.invokevirtual 176, 3) := by decide +kernel
theorem dX9_run_36 : decode cX9_run 36 = .ok (.ifCond .eq 9, 3) := by decide +kernel
theorem dX9_run_39 : decode cX9_run 39 = .ok (.iinc 3 1, 3) := by decide +kernel
theorem dX9_run_42 : decode cX9_run 42 = .ok (.goto (-40), 3) := by decide +kernel
theorem dX9_run_45 : decode cX9_run 45 = .ok (.iload_n 3, 1) := by decide +kernel
theorem dX9_run_46 : decode cX9_run 46 = .ok (.ireturn, 1) := by decide +kernel
theorem dX9_forgetsNothings_0 : decode cX9_forgetsNothings 0 = .ok (.iconst 0, 1) := by decide +kernel
theorem dX9_forgetsNothings_1 : decode cX9_forgetsNothings 1 = .ok (.istore_n 2, 1) := by decide +kernel
theorem dX9_forgetsNothings_2 : decode cX9_forgetsNothings 2 = .ok (.iconst 0, 1) := by decide +kernel
theorem dX9_forgetsNothings_3 : decode cX9_forgetsNothings 3 = .ok (.istore_n 3, 1) := by decide +kernel
theorem dX9_forgetsNothings_4 : decode cX9_forgetsNothings 4 = .ok (.iload_n 3, 1) := by decide +kernel
theorem dX9_forgetsNothings_5 : decode cX9_forgetsNothings 5 = .ok (.aload_n 0, 1) := by decide +kernel
theorem dX9_forgetsNothings_6 : decode cX9_forgetsNothings 6 = .ok (.getfield 40, 3) := by decide +kernel
theorem dX9_forgetsNothings_9 : decode cX9_forgetsNothings 9 = .ok (.iload_n 1, 1) := by decide +kernel
theorem dX9_forgetsNothings_10 : decode cX9_forgetsNothings 10 = .ok (.iaload, 1) := by decide +kernel
theorem dX9_forgetsNothings_11 : decode cX9_forgetsNothings 11 = .ok (.if_icmp .ge 45, 3) := by decide +kernel
theorem dX9_forgetsNothings_14 : decode cX9_forgetsNothings 14 = .ok (.aload_n 0, 1) := by decide +kernel
theorem dX9_forgetsNothings_15 : decode cX9_forgetsNothings 15 = .ok (.getfield 7, 3) := by decide +kernel
theorem dX9_forgetsNothings_18 : decode cX9_forgetsNothings 18 = .ok (.iload_n 1, 1) := by decide +kernel
theorem dX9_forgetsNothings_19 : decode cX9_forgetsNothings 19 = .ok (.invokestatic 112, 3) := by decide +kernel
theorem dX9_forgetsNothings_22 : decode cX9_forgetsNothings 22 = .ok (.iload_n 3, 1) := by decide +kernel
theorem dX9_forgetsNothings_23 : decode cX9_forgetsNothings 23 = .ok (.iadd, 1) := by decide +kernel
theorem dX9_forgetsNothings_24 : decode cX9_forgetsNothings 24 = .ok (.iaload, 1) := by decide +kernel
theorem dX9_forgetsNothings_25 : decode cX9_forgetsNothings 25 = .ok (.ifCond .ne 6, 3) := by decide +kernel
theorem dX9_forgetsNothings_28 : decode cX9_forgetsNothings 28 = .ok (.goto 22, 3) := by decide +kernel
theorem dX9_forgetsNothings_31 : decode cX9_forgetsNothings 31 = .ok (.aload_n 0, 1) := by decide +kernel
theorem dX9_forgetsNothings_32 : decode cX9_forgetsNothings 32 = .ok (.iload_n 1, 1) := by decide +kernel
theorem dX9_forgetsNothings_33 : decode cX9_forgetsNothings 33 = .ok (.invokestatic 112, 3) := by decide +kernel
theorem dX9_forgetsNothings_36 : decode cX9_forgetsNothings 36 = .ok (.iload_n 3, 1) := by decide +kernel
theorem dX9_forgetsNothings_37 : decode cX9_forgetsNothings 37 = .ok (.iadd, 1) := by decide +kernel
theorem dX9_forgetsNothings_38 : decode cX9_forgetsNothings 38 = .ok (.iload_n 1, 1) := by decide +kernel
theorem dX9_forgetsNothings_39 : decode cX9_forgetsNothings 39 = .ok (.invokestatic 112, 3) := by decide +kernel
theorem dX9_forgetsNothings_42 : decode cX9_forgetsNothings 42 = .ok (.iload_n 2, 1) := by decide +kernel
theorem dX9_forgetsNothings_43 : decode cX9_forgetsNothings 43 = .ok (.iadd, 1) := by decide +kernel
theorem dX9_forgetsNothings_44 : decode cX9_forgetsNothings 44 = .ok (.invokevirtual 119, 3) := by decide +kernel
theorem dX9_forgetsNothings_47 : decode cX9_forgetsNothings 47 = .ok (.iinc 2 1, 3) := by decide +kernel
theorem dX9_forgetsNothings_50 : decode cX9_forgetsNothings 50 = .ok (.iinc 3 1, 3) := by decide +kernel
theorem dX9_forgetsNothings_53 : decode cX9_forgetsNothings 53 = .ok (.goto (-49), 3) := by decide +kernel
theorem dX9_forgetsNothings_56 : decode cX9_forgetsNothings 56 = .ok (.aload_n 0, 1) := by decide +kernel
theorem dX9_forgetsNothings_57 : decode cX9_forgetsNothings 57 = .ok (.getfield 40, 3) := by decide +kernel
theorem dX9_forgetsNothings_60 : decode cX9_forgetsNothings 60 = .ok (.iload_n 1, 1) := by decide +kernel
theorem dX9_forgetsNothings_61 : decode cX9_forgetsNothings 61 = .ok (.iload_n 2, 1) := by decide +kernel
theorem dX9_forgetsNothings_62 : decode cX9_forgetsNothings 62 = .ok (.iastore, 1) := by decide +kernel
theorem dX9_forgetsNothings_63 : decode cX9_forgetsNothings 63 = .ok (.return_, 1) := by decide +kernel
theorem dX9_gets_0 : decode cX9_gets 0 = .ok (.aload_n 0, 1) := by decide +kernel
theorem dX9_gets_1 : decode cX9_gets 1 = .ok (.iload_n 2, 1) := by decide +kernel
theorem dX9_gets_2 : decode cX9_gets 2 = .ok (.sipush 1400, 3) := by decide +kernel
theorem dX9_gets_5 : decode cX9_gets 5 = .ok (.invokevirtual 119, 3) := by decide +kernel
theorem dX9_gets_8 : decode cX9_gets 8 = .ok (.iconst 0, 1) := by decide +kernel
theorem dX9_gets_9 : decode cX9_gets 9 = .ok (.istore_n 3, 1) := by decide +kernel
theorem dX9_gets_10 : decode cX9_gets 10 = .ok (.iload_n 3, 1) := by decide +kernel
theorem dX9_gets_11 : decode cX9_gets 11 = .ok (.aload_n 0, 1) := by decide +kernel
theorem dX9_gets_12 : decode cX9_gets 12 = .ok (.getfield 37, 3) := by decide +kernel
theorem dX9_gets_15 : decode cX9_gets 15 = .ok (.iload_n 1, 1) := by decide +kernel
theorem dX9_gets_16 : decode cX9_gets 16 = .ok (.iaload, 1) := by decide +kernel
theorem dX9_gets_17 : decode cX9_gets 17 = .ok (.if_icmp .ge 22, 3) := by decide +kernel
theorem dX9_gets_20 : decode cX9_gets 20 = .ok (.aload_n 0, 1) := by decide +kernel
theorem dX9_gets_21 : decode cX9_gets 21 = .ok (.iload_n 1, 1) := by decide +kernel
theorem dX9_gets_22 : decode cX9_gets 22 = .ok (.invokestatic 116, 3) := by decide +kernel
theorem dX9_gets_25 : decode cX9_gets 25 = .ok (.iload_n 3, 1) := by decide +kernel
theorem dX9_gets_26 : decode cX9_gets 26 = .ok (.iadd, 1) := by decide +kernel
theorem dX9_gets_27 : decode cX9_gets 27 = .ok (.sipush 1400, 3) := by decide +kernel
theorem dX9_gets_30 : decode cX9_gets 30 = .ok (.invokevirtual 166, 3) := by decide +kernel
theorem dX9_gets_33 : decode cX9_gets 33 = .ok (.iinc 3 1, 3) := by decide +kernel
theorem dX9_gets_36 : decode cX9_gets 36 = .ok (.goto (-26), 3) := by decide +kernel
theorem dX9_gets_39 : decode cX9_gets 39 = .ok (.iconst 0, 1) := by decide +kernel
theorem dX9_gets_40 : decode cX9_gets 40 = .ok (.istore_n 3, 1) := by decide +kernel
theorem dX9_gets_41 : decode cX9_gets 41 = .ok (.iload_n 3, 1) := by decide +kernel
theorem dX9_gets_42 : decode cX9_gets 42 = .ok (.aload_n 0, 1) := by decide +kernel
theorem dX9_gets_43 : decode cX9_gets 43 = .ok (.getfield 40, 3) := by decide +kernel
theorem dX9_gets_46 : decode cX9_gets 46 = .ok (.iload_n 1, 1) := by decide +kernel
theorem dX9_gets_47 : decode cX9_gets 47 = .ok (.iaload, 1) := by decide +kernel
theorem dX9_gets_48 : decode cX9_gets 48 = .ok (.if_icmp .ge 22, 3) := by decide +kernel
theorem dX9_gets_51 : decode cX9_gets 51 = .ok (.aload_n 0, 1) := by decide +kernel
theorem dX9_gets_52 : decode cX9_gets 52 = .ok (.iload_n 1, 1) := by decide +kernel
theorem dX9_gets_53 : decode cX9_gets 53 = .ok (.invokestatic 112, 3) := by decide +kernel
theorem dX9_gets_56 : decode cX9_gets 56 = .ok (.iload_n 3, 1) := by decide +kernel
theorem dX9_gets_57 : decode cX9_gets 57 = .ok (.iadd, 1) := by decide +kernel
theorem dX9_gets_58 : decode cX9_gets 58 = .ok (.sipush 1400, 3) := by decide +kernel
theorem dX9_gets_61 : decode cX9_gets 61 = .ok (.invokevirtual 166, 3) := by decide +kernel
theorem dX9_gets_64 : decode cX9_gets 64 = .ok (.iinc 3 1, 3) := by decide +kernel
theorem dX9_gets_67 : decode cX9_gets 67 = .ok (.goto (-26), 3) := by decide +kernel
theorem dX9_gets_70 : decode cX9_gets 70 = .ok (.aload_n 0, 1) := by decide +kernel
theorem dX9_gets_71 : decode cX9_gets 71 = .ok (.getfield 7, 3) := by decide +kernel
theorem dX9_gets_74 : decode cX9_gets 74 = .ok (.sipush 1400, 3) := by decide +kernel
theorem dX9_gets_77 : decode cX9_gets 77 = .ok (.iaload, 1) := by decide +kernel
theorem dX9_gets_78 : decode cX9_gets 78 = .ok (.ifCond .ne 4, 3) := by decide +kernel
theorem dX9_gets_81 : decode cX9_gets 81 = .ok (.return_, 1) := by decide +kernel
theorem dX9_gets_82 : decode cX9_gets 82 = .ok (.aload_n 0, 1) := by decide +kernel
theorem dX9_gets_83 : decode cX9_gets 83 = .ok (.iload_n 1, 1) := by decide +kernel
theorem dX9_gets_84 : decode cX9_gets 84 = .ok (.sipush 1400, 3) := by decide +kernel
theorem dX9_gets_87 : decode cX9_gets 87 = .ok (.invokevirtual 128, 3) := by decide +kernel
theorem dX9_gets_90 : decode cX9_gets 90 = .ok (.aload_n 0, 1) := by decide +kernel
theorem dX9_gets_91 : decode cX9_gets 91 = .ok (.getfield 46, 3) := by decide +kernel
theorem dX9_gets_94 : decode cX9_gets 94 = .ok (.iload_n 1, 1) := by decide +kernel
theorem dX9_gets_95 : decode cX9_gets 95 = .ok (.aload_n 0, 1) := by decide +kernel
theorem dX9_gets_96 : decode cX9_gets 96 = .ok (.aload_n 0, 1) := by decide +kernel
theorem dX9_gets_97 : decode cX9_gets 97 = .ok (.getfield 46, 3) := by decide +kernel
theorem dX9_gets_100 : decode cX9_gets 100 = .ok (.iload_n 1, 1) := by decide +kernel
theorem dX9_gets_101 : decode cX9_gets 101 = .ok (.iaload, 1) := by decide +kernel
theorem dX9_gets_102 : decode cX9_gets 102 = .ok (.sipush 1400, 3) := by decide +kernel
theorem dX9_gets_105 : decode cX9_gets 105 = .ok (.invokevirtual 108, 3) := by decide +kernel
theorem dX9_gets_108 : decode cX9_gets 108 = .ok (.iastore, 1) := by decide +kernel
theorem dX9_gets_109 : decode cX9_gets 109 = .ok (.aload_n 0, 1) := by decide +kernel
theorem dX9_gets_110 : decode cX9_gets 110 = .ok (.getfield 49, 3) := by decide +kernel
theorem dX9_gets_113 : decode cX9_gets 113 = .ok (.iload_n 1, 1) := by decide +kernel
theorem dX9_gets_114 : decode cX9_gets 114 = .ok (.aload_n 0, 1) := by decide +kernel
theorem dX9_gets_115 : decode cX9_gets 115 = .ok (.sipush 1400, 3) := by decide +kernel
theorem dX9_gets_118 : decode cX9_gets 118 = .ok (.invokevirtual 131, 3) := by decide +kernel
theorem dX9_gets_121 : decode cX9_gets 121 = .ok (.iastore, 1) := by decide +kernel
theorem dX9_gets_122 : decode cX9_gets 122 = .ok (.aload_n 0, 1) := by decide +kernel
theorem dX9_gets_123 : decode cX9_gets 123 = .ok (.iload_n 1, 1) := by decide +kernel
theorem dX9_gets_124 : decode cX9_gets 124 = .ok (.sipush 1400, 3) := by decide +kernel
theorem dX9_gets_127 : decode cX9_gets 127 = .ok (.invokevirtual 134, 3) := by decide +kernel
theorem dX9_gets_130 : decode cX9_gets 130 = .ok (.return_, 1) := by decide +kernel
theorem dX9_delivers_0 : decode cX9_delivers 0 = .ok (.aload_n 0, 1) := by decide +kernel
theorem dX9_delivers_1 : decode cX9_delivers 1 = .ok (.getfield 43, 3) := by decide +kernel
theorem dX9_delivers_4 : decode cX9_delivers 4 = .ok (.iload_n 1, 1) := by decide +kernel
theorem dX9_delivers_5 : decode cX9_delivers 5 = .ok (.iaload, 1) := by decide +kernel
theorem dX9_delivers_6 : decode cX9_delivers 6 = .ok (.istore_n 2, 1) := by decide +kernel
theorem dX9_delivers_7 : decode cX9_delivers 7 = .ok (.aload_n 0, 1) := by decide +kernel
theorem dX9_delivers_8 : decode cX9_delivers 8 = .ok (.getfield 43, 3) := by decide +kernel
theorem dX9_delivers_11 : decode cX9_delivers 11 = .ok (.iload_n 1, 1) := by decide +kernel
theorem dX9_delivers_12 : decode cX9_delivers 12 = .ok (.dup2, 1) := by decide +kernel
theorem dX9_delivers_13 : decode cX9_delivers 13 = .ok (.iaload, 1) := by decide +kernel
theorem dX9_delivers_14 : decode cX9_delivers 14 = .ok (.iconst 1, 1) := by decide +kernel
theorem dX9_delivers_15 : decode cX9_delivers 15 = .ok (.iadd, 1) := by decide +kernel
theorem dX9_delivers_16 : decode cX9_delivers 16 = .ok (.iastore, 1) := by decide +kernel
theorem dX9_delivers_17 : decode cX9_delivers 17 = .ok (.aload_n 0, 1) := by decide +kernel
theorem dX9_delivers_18 : decode cX9_delivers 18 = .ok (.getfield 83, 3) := by decide +kernel
theorem dX9_delivers_21 : decode cX9_delivers 21 = .ok (.iload_n 2, 1) := by decide +kernel
theorem dX9_delivers_22 : decode cX9_delivers 22 = .ok (.iaload, 1) := by decide +kernel
theorem dX9_delivers_23 : decode cX9_delivers 23 = .ok (.iload_n 1, 1) := by decide +kernel
theorem dX9_delivers_24 : decode cX9_delivers 24 = .ok (.if_icmp .ne 40, 3) := by decide +kernel
theorem dX9_delivers_27 : decode cX9_delivers 27 = .ok (.aload_n 0, 1) := by decide +kernel
theorem dX9_delivers_28 : decode cX9_delivers 28 = .ok (.getfield 37, 3) := by decide +kernel
theorem dX9_delivers_31 : decode cX9_delivers 31 = .ok (.iload_n 1, 1) := by decide +kernel
theorem dX9_delivers_32 : decode cX9_delivers 32 = .ok (.iconst 0, 1) := by decide +kernel
theorem dX9_delivers_33 : decode cX9_delivers 33 = .ok (.iastore, 1) := by decide +kernel
theorem dX9_delivers_34 : decode cX9_delivers 34 = .ok (.aload_n 0, 1) := by decide +kernel
theorem dX9_delivers_35 : decode cX9_delivers 35 = .ok (.getfield 58, 3) := by decide +kernel
theorem dX9_delivers_38 : decode cX9_delivers 38 = .ok (.iload_n 1, 1) := by decide +kernel
theorem dX9_delivers_39 : decode cX9_delivers 39 = .ok (.iconst 0, 1) := by decide +kernel
theorem dX9_delivers_40 : decode cX9_delivers 40 = .ok (.bastore, 1) := by decide +kernel
theorem dX9_delivers_41 : decode cX9_delivers 41 = .ok (.aload_n 0, 1) := by decide +kernel
theorem dX9_delivers_42 : decode cX9_delivers 42 = .ok (.getfield 40, 3) := by decide +kernel
theorem dX9_delivers_45 : decode cX9_delivers 45 = .ok (.iload_n 1, 1) := by decide +kernel
theorem dX9_delivers_46 : decode cX9_delivers 46 = .ok (.iaload, 1) := by decide +kernel
theorem dX9_delivers_47 : decode cX9_delivers 47 = .ok (.ifCond .le 14, 3) := by decide +kernel
theorem dX9_delivers_50 : decode cX9_delivers 50 = .ok (.aload_n 0, 1) := by decide +kernel
theorem dX9_delivers_51 : decode cX9_delivers 51 = .ok (.iload_n 1, 1) := by decide +kernel
theorem dX9_delivers_52 : decode cX9_delivers 52 = .ok (.aload_n 0, 1) := by decide +kernel
theorem dX9_delivers_53 : decode cX9_delivers 53 = .ok (.iload_n 1, 1) := by decide +kernel
theorem dX9_delivers_54 : decode cX9_delivers 54 = .ok (.iconst 0, 1) := by decide +kernel
theorem dX9_delivers_55 : decode cX9_delivers 55 = .ok (.invokevirtual 180, 3) := by decide +kernel
theorem dX9_delivers_58 : decode cX9_delivers 58 = .ok (.invokevirtual 137, 3) := by decide +kernel
theorem dX9_delivers_61 : decode cX9_delivers 61 = .ok (.bipush 97, 2) := by decide +kernel
theorem dX9_delivers_63 : decode cX9_delivers 63 = .ok (.ireturn, 1) := by decide +kernel
theorem dX9_delivers_64 : decode cX9_delivers 64 = .ok (.aload_n 0, 1) := by decide +kernel
theorem dX9_delivers_65 : decode cX9_delivers 65 = .ok (.getfield 80, 3) := by decide +kernel
theorem dX9_delivers_68 : decode cX9_delivers 68 = .ok (.iload_n 2, 1) := by decide +kernel
theorem dX9_delivers_69 : decode cX9_delivers 69 = .ok (.iaload, 1) := by decide +kernel
theorem dX9_delivers_70 : decode cX9_delivers 70 = .ok (.istore_n 3, 1) := by decide +kernel
theorem dX9_delivers_71 : decode cX9_delivers 71 = .ok (.iload_n 3, 1) := by decide +kernel
theorem dX9_delivers_72 : decode cX9_delivers 72 = .ok (.aload_n 0, 1) := by decide +kernel
theorem dX9_delivers_73 : decode cX9_delivers 73 = .ok (.getfield 80, 3) := by decide +kernel
theorem dX9_delivers_76 : decode cX9_delivers 76 = .ok (.iload_n 2, 1) := by decide +kernel
theorem dX9_delivers_77 : decode cX9_delivers 77 = .ok (.iconst 1, 1) := by decide +kernel
theorem dX9_delivers_78 : decode cX9_delivers 78 = .ok (.iadd, 1) := by decide +kernel
theorem dX9_delivers_79 : decode cX9_delivers 79 = .ok (.iaload, 1) := by decide +kernel
theorem dX9_delivers_80 : decode cX9_delivers 80 = .ok (.if_icmp .ge 19, 3) := by decide +kernel
theorem dX9_delivers_83 : decode cX9_delivers 83 = .ok (.aload_n 0, 1) := by decide +kernel
theorem dX9_delivers_84 : decode cX9_delivers 84 = .ok (.iload_n 1, 1) := by decide +kernel
theorem dX9_delivers_85 : decode cX9_delivers 85 = .ok (.sipush 1200, 3) := by decide +kernel
theorem dX9_delivers_88 : decode cX9_delivers 88 = .ok (.iload_n 3, 1) := by decide +kernel
theorem dX9_delivers_89 : decode cX9_delivers 89 = .ok (.iadd, 1) := by decide +kernel
theorem dX9_delivers_90 : decode cX9_delivers 90 = .ok (.invokevirtual 183, 3) := by decide +kernel
theorem dX9_delivers_93 : decode cX9_delivers 93 = .ok (.iinc 3 1, 3) := by decide +kernel
theorem dX9_delivers_96 : decode cX9_delivers 96 = .ok (.goto (-25), 3) := by decide +kernel
theorem dX9_delivers_99 : decode cX9_delivers 99 = .ok (.aload_n 0, 1) := by decide +kernel
theorem dX9_delivers_100 : decode cX9_delivers 100 = .ok (.iload_n 1, 1) := by decide +kernel
theorem dX9_delivers_101 : decode cX9_delivers 101 = .ok (.invokevirtual 186, 3) := by decide +kernel
theorem dX9_delivers_104 : decode cX9_delivers 104 = .ok (.bipush 111, 2) := by decide +kernel
theorem dX9_delivers_106 : decode cX9_delivers 106 = .ok (.ireturn, 1) := by decide +kernel
theorem dX9_deliverDown_0 : decode cX9_deliverDown 0 = .ok (.aload_n 0, 1) := by decide +kernel
theorem dX9_deliverDown_1 : decode cX9_deliverDown 1 = .ok (.iconst 0, 1) := by decide +kernel
theorem dX9_deliverDown_2 : decode cX9_deliverDown 2 = .ok (.putfield 92, 3) := by decide +kernel
theorem dX9_deliverDown_5 : decode cX9_deliverDown 5 = .ok (.iload_n 1, 1) := by decide +kernel
theorem dX9_deliverDown_6 : decode cX9_deliverDown 6 = .ok (.invokestatic 140, 3) := by decide +kernel
theorem dX9_deliverDown_9 : decode cX9_deliverDown 9 = .ok (.ifCond .ne 10, 3) := by decide +kernel
theorem dX9_deliverDown_12 : decode cX9_deliverDown 12 = .ok (.aload_n 0, 1) := by decide +kernel
theorem dX9_deliverDown_13 : decode cX9_deliverDown 13 = .ok (.iconst 1, 1) := by decide +kernel
theorem dX9_deliverDown_14 : decode cX9_deliverDown 14 = .ok (.invokevirtual 144, 3) := by decide +kernel
theorem dX9_deliverDown_17 : decode cX9_deliverDown 17 = .ok (.i2c, 1) := by decide +kernel
theorem dX9_deliverDown_18 : decode cX9_deliverDown 18 = .ok (.ireturn, 1) := by decide +kernel
theorem dX9_deliverDown_19 : decode cX9_deliverDown 19 = .ok (.aload_n 0, 1) := by decide +kernel
theorem dX9_deliverDown_20 : decode cX9_deliverDown 20 = .ok (.getfield 43, 3) := by decide +kernel
theorem dX9_deliverDown_23 : decode cX9_deliverDown 23 = .ok (.iload_n 1, 1) := by decide +kernel
theorem dX9_deliverDown_24 : decode cX9_deliverDown 24 = .ok (.iaload, 1) := by decide +kernel
theorem dX9_deliverDown_25 : decode cX9_deliverDown 25 = .ok (.aload_n 0, 1) := by decide +kernel
theorem dX9_deliverDown_26 : decode cX9_deliverDown 26 = .ok (.getfield 169, 3) := by decide +kernel
theorem dX9_deliverDown_29 : decode cX9_deliverDown 29 = .ok (.if_icmp .ne 11, 3) := by decide +kernel
theorem dX9_deliverDown_32 : decode cX9_deliverDown 32 = .ok (.aload_n 0, 1) := by decide +kernel
theorem dX9_deliverDown_33 : decode cX9_deliverDown 33 = .ok (.iconst 2, 1) := by decide +kernel
theorem dX9_deliverDown_34 : decode cX9_deliverDown 34 = .ok (.invokevirtual 144, 3) := by decide +kernel
theorem dX9_deliverDown_37 : decode cX9_deliverDown 37 = .ok (.goto 8, 3) := by decide +kernel
theorem dX9_deliverDown_40 : decode cX9_deliverDown 40 = .ok (.aload_n 0, 1) := by decide +kernel
theorem dX9_deliverDown_41 : decode cX9_deliverDown 41 = .ok (.iload_n 1, 1) := by decide +kernel
theorem dX9_deliverDown_42 : decode cX9_deliverDown 42 = .ok (.invokevirtual 189, 3) := by decide +kernel
theorem dX9_deliverDown_45 : decode cX9_deliverDown 45 = .ok (.i2c, 1) := by decide +kernel
theorem dX9_deliverDown_46 : decode cX9_deliverDown 46 = .ok (.ireturn, 1) := by decide +kernel
theorem dX9_deliversOne_0 : decode cX9_deliversOne 0 = .ok (.iconst 0, 1) := by decide +kernel
theorem dX9_deliversOne_1 : decode cX9_deliversOne 1 = .ok (.istore_n 1, 1) := by decide +kernel
theorem dX9_deliversOne_2 : decode cX9_deliversOne 2 = .ok (.iload_n 1, 1) := by decide +kernel
theorem dX9_deliversOne_3 : decode cX9_deliversOne 3 = .ok (.iconst 2, 1) := by decide +kernel
theorem dX9_deliversOne_4 : decode cX9_deliversOne 4 = .ok (.if_icmp .ge 28, 3) := by decide +kernel
theorem dX9_deliversOne_7 : decode cX9_deliversOne 7 = .ok (.aload_n 0, 1) := by decide +kernel
theorem dX9_deliversOne_8 : decode cX9_deliversOne 8 = .ok (.getfield 62, 3) := by decide +kernel
theorem dX9_deliversOne_11 : decode cX9_deliversOne 11 = .ok (.iload_n 1, 1) := by decide +kernel
theorem dX9_deliversOne_12 : decode cX9_deliversOne 12 = .ok (.baload, 1) := by decide +kernel
theorem dX9_deliversOne_13 : decode cX9_deliversOne 13 = .ok (.ifCond .ne 6, 3) := by decide +kernel
theorem dX9_deliversOne_16 : decode cX9_deliversOne 16 = .ok (.goto 10, 3) := by decide +kernel
theorem dX9_deliversOne_19 : decode cX9_deliversOne 19 = .ok (.aload_n 0, 1) := by decide +kernel
theorem dX9_deliversOne_20 : decode cX9_deliversOne 20 = .ok (.iload_n 1, 1) := by decide +kernel
theorem dX9_deliversOne_21 : decode cX9_deliversOne 21 = .ok (.invokevirtual 172, 3) := by decide +kernel
theorem dX9_deliversOne_24 : decode cX9_deliversOne 24 = .ok (.iconst 1, 1) := by decide +kernel
theorem dX9_deliversOne_25 : decode cX9_deliversOne 25 = .ok (.ireturn, 1) := by decide +kernel
theorem dX9_deliversOne_26 : decode cX9_deliversOne 26 = .ok (.iinc 1 1, 3) := by decide +kernel
theorem dX9_deliversOne_29 : decode cX9_deliversOne 29 = .ok (.goto (-27), 3) := by decide +kernel
theorem dX9_deliversOne_32 : decode cX9_deliversOne 32 = .ok (.iconst 0, 1) := by decide +kernel
theorem dX9_deliversOne_33 : decode cX9_deliversOne 33 = .ok (.istore_n 1, 1) := by decide +kernel
theorem dX9_deliversOne_34 : decode cX9_deliversOne 34 = .ok (.iload_n 1, 1) := by decide +kernel
theorem dX9_deliversOne_35 : decode cX9_deliversOne 35 = .ok (.iconst 2, 1) := by decide +kernel
theorem dX9_deliversOne_36 : decode cX9_deliversOne 36 = .ok (.if_icmp .ge 33, 3) := by decide +kernel
theorem dX9_deliversOne_39 : decode cX9_deliversOne 39 = .ok (.aload_n 0, 1) := by decide +kernel
theorem dX9_deliversOne_40 : decode cX9_deliversOne 40 = .ok (.getfield 43, 3) := by decide +kernel
theorem dX9_deliversOne_43 : decode cX9_deliversOne 43 = .ok (.iload_n 1, 1) := by decide +kernel
theorem dX9_deliversOne_44 : decode cX9_deliversOne 44 = .ok (.iaload, 1) := by decide +kernel
theorem dX9_deliversOne_45 : decode cX9_deliversOne 45 = .ok (.aload_n 0, 1) := by decide +kernel
theorem dX9_deliversOne_46 : decode cX9_deliversOne 46 = .ok (.getfield 169, 3) := by decide +kernel
theorem dX9_deliversOne_49 : decode cX9_deliversOne 49 = .ok (.if_icmp .ne 6, 3) := by decide +kernel
theorem dX9_deliversOne_52 : decode cX9_deliversOne 52 = .ok (.goto 11, 3) := by decide +kernel
theorem dX9_deliversOne_55 : decode cX9_deliversOne 55 = .ok (.aload_n 0, 1) := by decide +kernel
theorem dX9_deliversOne_56 : decode cX9_deliversOne 56 = .ok (.iload_n 1, 1) := by decide +kernel
theorem dX9_deliversOne_57 : decode cX9_deliversOne 57 = .ok (.invokevirtual 189, 3) := by decide +kernel
theorem dX9_deliversOne_60 : decode cX9_deliversOne 60 = .ok (.pop, 1) := by decide +kernel
theorem dX9_deliversOne_61 : decode cX9_deliversOne 61 = .ok (.iconst 1, 1) := by decide +kernel
theorem dX9_deliversOne_62 : decode cX9_deliversOne 62 = .ok (.ireturn, 1) := by decide +kernel
theorem dX9_deliversOne_63 : decode cX9_deliversOne 63 = .ok (.iinc 1 1, 3) := by decide +kernel
theorem dX9_deliversOne_66 : decode cX9_deliversOne 66 = .ok (.goto (-32), 3) := by decide +kernel
theorem dX9_deliversOne_69 : decode cX9_deliversOne 69 = .ok (.iconst 0, 1) := by decide +kernel
theorem dX9_deliversOne_70 : decode cX9_deliversOne 70 = .ok (.ireturn, 1) := by decide +kernel
theorem dX9_deliverAll_0 : decode cX9_deliverAll 0 = .ok (.aload_n 0, 1) := by decide +kernel
theorem dX9_deliverAll_1 : decode cX9_deliverAll 1 = .ok (.iconst 0, 1) := by decide +kernel
theorem dX9_deliverAll_2 : decode cX9_deliverAll 2 = .ok (.putfield 92, 3) := by decide +kernel
theorem dX9_deliverAll_5 : decode cX9_deliverAll 5 = .ok (.iconst 0, 1) := by decide +kernel
theorem dX9_deliverAll_6 : decode cX9_deliverAll 6 = .ok (.istore_n 1, 1) := by decide +kernel
theorem dX9_deliverAll_7 : decode cX9_deliverAll 7 = .ok (.aload_n 0, 1) := by decide +kernel
theorem dX9_deliverAll_8 : decode cX9_deliverAll 8 = .ok (.invokevirtual 192, 3) := by decide +kernel
theorem dX9_deliverAll_11 : decode cX9_deliverAll 11 = .ok (.ifCond .eq 9, 3) := by decide +kernel
theorem dX9_deliverAll_14 : decode cX9_deliverAll 14 = .ok (.iinc 1 1, 3) := by decide +kernel
theorem dX9_deliverAll_17 : decode cX9_deliverAll 17 = .ok (.goto (-10), 3) := by decide +kernel
theorem dX9_deliverAll_20 : decode cX9_deliverAll 20 = .ok (.iload_n 1, 1) := by decide +kernel
theorem dX9_deliverAll_21 : decode cX9_deliverAll 21 = .ok (.ireturn, 1) := by decide +kernel
theorem dX9_length_0 : decode cX9_length 0 = .ok (.aload_n 0, 1) := by decide +kernel
theorem dX9_length_1 : decode cX9_length 1 = .ok (.iconst 0, 1) := by decide +kernel
theorem dX9_length_2 : decode cX9_length 2 = .ok (.putfield 92, 3) := by decide +kernel
theorem dX9_length_5 : decode cX9_length 5 = .ok (.iload_n 1, 1) := by decide +kernel
theorem dX9_length_6 : decode cX9_length 6 = .ok (.invokestatic 140, 3) := by decide +kernel
theorem dX9_length_9 : decode cX9_length 9 = .ok (.ifCond .eq 12, 3) := by decide +kernel
theorem dX9_length_12 : decode cX9_length 12 = .ok (.aload_n 0, 1) := by decide +kernel
theorem dX9_length_13 : decode cX9_length 13 = .ok (.getfield 34, 3) := by decide +kernel
theorem dX9_length_16 : decode cX9_length 16 = .ok (.iload_n 1, 1) := by decide +kernel
theorem dX9_length_17 : decode cX9_length 17 = .ok (.iaload, 1) := by decide +kernel
theorem dX9_length_18 : decode cX9_length 18 = .ok (.goto 8, 3) := by decide +kernel
theorem dX9_length_21 : decode cX9_length 21 = .ok (.aload_n 0, 1) := by decide +kernel
theorem dX9_length_22 : decode cX9_length 22 = .ok (.iconst 1, 1) := by decide +kernel
theorem dX9_length_23 : decode cX9_length 23 = .ok (.invokevirtual 144, 3) := by decide +kernel
theorem dX9_length_26 : decode cX9_length 26 = .ok (.ireturn, 1) := by decide +kernel
theorem dX9_notAt_0 : decode cX9_notAt 0 = .ok (.iload_n 1, 1) := by decide +kernel
theorem dX9_notAt_1 : decode cX9_notAt 1 = .ok (.invokestatic 140, 3) := by decide +kernel
theorem dX9_notAt_4 : decode cX9_notAt 4 = .ok (.ifCond .ne 5, 3) := by decide +kernel
theorem dX9_notAt_7 : decode cX9_notAt 7 = .ok (.iconst 1, 1) := by decide +kernel
theorem dX9_notAt_8 : decode cX9_notAt 8 = .ok (.ireturn, 1) := by decide +kernel
theorem dX9_notAt_9 : decode cX9_notAt 9 = .ok (.iload_n 2, 1) := by decide +kernel
theorem dX9_notAt_10 : decode cX9_notAt 10 = .ok (.iconst 0, 1) := by decide +kernel
theorem dX9_notAt_11 : decode cX9_notAt 11 = .ok (.aload_n 0, 1) := by decide +kernel
theorem dX9_notAt_12 : decode cX9_notAt 12 = .ok (.getfield 34, 3) := by decide +kernel
theorem dX9_notAt_15 : decode cX9_notAt 15 = .ok (.iload_n 1, 1) := by decide +kernel
theorem dX9_notAt_16 : decode cX9_notAt 16 = .ok (.iaload, 1) := by decide +kernel
theorem dX9_notAt_17 : decode cX9_notAt 17 = .ok (.iconst 1, 1) := by decide +kernel
theorem dX9_notAt_18 : decode cX9_notAt 18 = .ok (.isub, 1) := by decide +kernel
theorem dX9_notAt_19 : decode cX9_notAt 19 = .ok (.invokestatic 96, 3) := by decide +kernel
theorem dX9_notAt_22 : decode cX9_notAt 22 = .ok (.ifCond .eq 7, 3) := by decide +kernel
theorem dX9_notAt_25 : decode cX9_notAt 25 = .ok (.iconst 0, 1) := by decide +kernel
theorem dX9_notAt_26 : decode cX9_notAt 26 = .ok (.goto 4, 3) := by decide +kernel
theorem dX9_notAt_29 : decode cX9_notAt 29 = .ok (.iconst 2, 1) := by decide +kernel
theorem dX9_notAt_30 : decode cX9_notAt 30 = .ok (.ireturn, 1) := by decide +kernel
theorem dX9_charAt_0 : decode cX9_charAt 0 = .ok (.aload_n 0, 1) := by decide +kernel
theorem dX9_charAt_1 : decode cX9_charAt 1 = .ok (.iconst 0, 1) := by decide +kernel
theorem dX9_charAt_2 : decode cX9_charAt 2 = .ok (.putfield 92, 3) := by decide +kernel
theorem dX9_charAt_5 : decode cX9_charAt 5 = .ok (.aload_n 0, 1) := by decide +kernel
theorem dX9_charAt_6 : decode cX9_charAt 6 = .ok (.iload_n 1, 1) := by decide +kernel
theorem dX9_charAt_7 : decode cX9_charAt 7 = .ok (.iload_n 2, 1) := by decide +kernel
theorem dX9_charAt_8 : decode cX9_charAt 8 = .ok (.invokevirtual 196, 3) := by decide +kernel
theorem dX9_charAt_11 : decode cX9_charAt 11 = .ok (.istore_n 3, 1) := by decide +kernel
theorem dX9_charAt_12 : decode cX9_charAt 12 = .ok (.iload_n 3, 1) := by decide +kernel
theorem dX9_charAt_13 : decode cX9_charAt 13 = .ok (.ifCond .eq 11, 3) := by decide +kernel
theorem dX9_charAt_16 : decode cX9_charAt 16 = .ok (.aload_n 0, 1) := by decide +kernel
theorem dX9_charAt_17 : decode cX9_charAt 17 = .ok (.iload_n 3, 1) := by decide +kernel
theorem dX9_charAt_18 : decode cX9_charAt 18 = .ok (.invokevirtual 144, 3) := by decide +kernel
theorem dX9_charAt_21 : decode cX9_charAt 21 = .ok (.goto 9, 3) := by decide +kernel
theorem dX9_charAt_24 : decode cX9_charAt 24 = .ok (.aload_n 0, 1) := by decide +kernel
theorem dX9_charAt_25 : decode cX9_charAt 25 = .ok (.iload_n 1, 1) := by decide +kernel
theorem dX9_charAt_26 : decode cX9_charAt 26 = .ok (.iload_n 2, 1) := by decide +kernel
theorem dX9_charAt_27 : decode cX9_charAt 27 = .ok (.invokevirtual 157, 3) := by decide +kernel
theorem dX9_charAt_30 : decode cX9_charAt 30 = .ok (.i2c, 1) := by decide +kernel
theorem dX9_charAt_31 : decode cX9_charAt 31 = .ok (.ireturn, 1) := by decide +kernel
theorem dX9_ownerAt_0 : decode cX9_ownerAt 0 = .ok (.aload_n 0, 1) := by decide +kernel
theorem dX9_ownerAt_1 : decode cX9_ownerAt 1 = .ok (.iconst 0, 1) := by decide +kernel
theorem dX9_ownerAt_2 : decode cX9_ownerAt 2 = .ok (.putfield 92, 3) := by decide +kernel
theorem dX9_ownerAt_5 : decode cX9_ownerAt 5 = .ok (.aload_n 0, 1) := by decide +kernel
theorem dX9_ownerAt_6 : decode cX9_ownerAt 6 = .ok (.iload_n 1, 1) := by decide +kernel
theorem dX9_ownerAt_7 : decode cX9_ownerAt 7 = .ok (.iload_n 2, 1) := by decide +kernel
theorem dX9_ownerAt_8 : decode cX9_ownerAt 8 = .ok (.invokevirtual 196, 3) := by decide +kernel
theorem dX9_ownerAt_11 : decode cX9_ownerAt 11 = .ok (.istore_n 3, 1) := by decide +kernel
theorem dX9_ownerAt_12 : decode cX9_ownerAt 12 = .ok (.iload_n 3, 1) := by decide +kernel
theorem dX9_ownerAt_13 : decode cX9_ownerAt 13 = .ok (.ifCond .eq 11, 3) := by decide +kernel
theorem dX9_ownerAt_16 : decode cX9_ownerAt 16 = .ok (.aload_n 0, 1) := by decide +kernel
theorem dX9_ownerAt_17 : decode cX9_ownerAt 17 = .ok (.iload_n 3, 1) := by decide +kernel
theorem dX9_ownerAt_18 : decode cX9_ownerAt 18 = .ok (.invokevirtual 144, 3) := by decide +kernel
theorem dX9_ownerAt_21 : decode cX9_ownerAt 21 = .ok (.goto 15, 3) := by decide +kernel
theorem dX9_ownerAt_24 : decode cX9_ownerAt 24 = .ok (.aload_n 0, 1) := by decide +kernel
theorem dX9_ownerAt_25 : decode cX9_ownerAt 25 = .ok (.getfield 31, 3) := by decide +kernel
theorem dX9_ownerAt_28 : decode cX9_ownerAt 28 = .ok (.sipush 201, 3) := by decide +kernel
theorem dX9_ownerAt_31 : decode cX9_ownerAt 31 = .ok (.iload_n 1, 1) := by decide +kernel
theorem dX9_ownerAt_32 : decode cX9_ownerAt 32 = .ok (.imul, 1) := by decide +kernel
theorem dX9_ownerAt_33 : decode cX9_ownerAt 33 = .ok (.iload_n 2, 1) := by decide +kernel
theorem dX9_ownerAt_34 : decode cX9_ownerAt 34 = .ok (.iadd, 1) := by decide +kernel
theorem dX9_ownerAt_35 : decode cX9_ownerAt 35 = .ok (.iaload, 1) := by decide +kernel
theorem dX9_ownerAt_36 : decode cX9_ownerAt 36 = .ok (.ireturn, 1) := by decide +kernel
theorem dX9_lengthByHistory_0 : decode cX9_lengthByHistory 0 = .ok (.aload_n 0, 1) := by decide +kernel
theorem dX9_lengthByHistory_1 : decode cX9_lengthByHistory 1 = .ok (.iload_n 1, 1) := by decide +kernel
theorem dX9_lengthByHistory_2 : decode cX9_lengthByHistory 2 = .ok (.invokevirtual 199, 3) := by decide +kernel
theorem dX9_lengthByHistory_5 : decode cX9_lengthByHistory 5 = .ok (.ireturn, 1) := by decide +kernel
theorem dX9_charByHistory_0 : decode cX9_charByHistory 0 = .ok (.aload_n 0, 1) := by decide +kernel
theorem dX9_charByHistory_1 : decode cX9_charByHistory 1 = .ok (.iload_n 1, 1) := by decide +kernel
theorem dX9_charByHistory_2 : decode cX9_charByHistory 2 = .ok (.iload_n 2, 1) := by decide +kernel
theorem dX9_charByHistory_3 : decode cX9_charByHistory 3 = .ok (.invokevirtual 202, 3) := by decide +kernel
theorem dX9_charByHistory_6 : decode cX9_charByHistory 6 = .ok (.ireturn, 1) := by decide +kernel
theorem dX9_centreLength_0 : decode cX9_centreLength 0 = .ok (.aload_n 0, 1) := by decide +kernel
theorem dX9_centreLength_1 : decode cX9_centreLength 1 = .ok (.iconst 0, 1) := by decide +kernel
theorem dX9_centreLength_2 : decode cX9_centreLength 2 = .ok (.putfield 92, 3) := by decide +kernel
theorem dX9_centreLength_5 : decode cX9_centreLength 5 = .ok (.aload_n 0, 1) := by decide +kernel
theorem dX9_centreLength_6 : decode cX9_centreLength 6 = .ok (.getfield 34, 3) := by decide +kernel
theorem dX9_centreLength_9 : decode cX9_centreLength 9 = .ok (.iconst 2, 1) := by decide +kernel
theorem dX9_centreLength_10 : decode cX9_centreLength 10 = .ok (.iaload, 1) := by decide +kernel
theorem dX9_centreLength_11 : decode cX9_centreLength 11 = .ok (.ireturn, 1) := by decide +kernel
theorem dX9_centreChar_0 : decode cX9_centreChar 0 = .ok (.aload_n 0, 1) := by decide +kernel
theorem dX9_centreChar_1 : decode cX9_centreChar 1 = .ok (.iconst 0, 1) := by decide +kernel
theorem dX9_centreChar_2 : decode cX9_centreChar 2 = .ok (.putfield 92, 3) := by decide +kernel
theorem dX9_centreChar_5 : decode cX9_centreChar 5 = .ok (.iload_n 1, 1) := by decide +kernel
theorem dX9_centreChar_6 : decode cX9_centreChar 6 = .ok (.iconst 0, 1) := by decide +kernel
theorem dX9_centreChar_7 : decode cX9_centreChar 7 = .ok (.aload_n 0, 1) := by decide +kernel
theorem dX9_centreChar_8 : decode cX9_centreChar 8 = .ok (.getfield 34, 3) := by decide +kernel
theorem dX9_centreChar_11 : decode cX9_centreChar 11 = .ok (.iconst 2, 1) := by decide +kernel
theorem dX9_centreChar_12 : decode cX9_centreChar 12 = .ok (.iaload, 1) := by decide +kernel
theorem dX9_centreChar_13 : decode cX9_centreChar 13 = .ok (.iconst 1, 1) := by decide +kernel
theorem dX9_centreChar_14 : decode cX9_centreChar 14 = .ok (.isub, 1) := by decide +kernel
theorem dX9_centreChar_15 : decode cX9_centreChar 15 = .ok (.invokestatic 96, 3) := by decide +kernel
theorem dX9_centreChar_18 : decode cX9_centreChar 18 = .ok (.ifCond .eq 12, 3) := by decide +kernel
theorem dX9_centreChar_21 : decode cX9_centreChar 21 = .ok (.aload_n 0, 1) := by decide +kernel
theorem dX9_centreChar_22 : decode cX9_centreChar 22 = .ok (.iconst 2, 1) := by decide +kernel
theorem dX9_centreChar_23 : decode cX9_centreChar 23 = .ok (.iload_n 1, 1) := by decide +kernel
theorem dX9_centreChar_24 : decode cX9_centreChar 24 = .ok (.invokevirtual 157, 3) := by decide +kernel
theorem dX9_centreChar_27 : decode cX9_centreChar 27 = .ok (.goto 8, 3) := by decide +kernel
theorem dX9_centreChar_30 : decode cX9_centreChar 30 = .ok (.aload_n 0, 1) := by decide +kernel
theorem dX9_centreChar_31 : decode cX9_centreChar 31 = .ok (.iconst 1, 1) := by decide +kernel
theorem dX9_centreChar_32 : decode cX9_centreChar 32 = .ok (.invokevirtual 144, 3) := by decide +kernel
theorem dX9_centreChar_35 : decode cX9_centreChar 35 = .ok (.i2c, 1) := by decide +kernel
theorem dX9_centreChar_36 : decode cX9_centreChar 36 = .ok (.ireturn, 1) := by decide +kernel
theorem dX9_cursor_0 : decode cX9_cursor 0 = .ok (.aload_n 0, 1) := by decide +kernel
theorem dX9_cursor_1 : decode cX9_cursor 1 = .ok (.iconst 0, 1) := by decide +kernel
theorem dX9_cursor_2 : decode cX9_cursor 2 = .ok (.putfield 92, 3) := by decide +kernel
theorem dX9_cursor_5 : decode cX9_cursor 5 = .ok (.iload_n 1, 1) := by decide +kernel
theorem dX9_cursor_6 : decode cX9_cursor 6 = .ok (.invokestatic 140, 3) := by decide +kernel
theorem dX9_cursor_9 : decode cX9_cursor 9 = .ok (.ifCond .eq 12, 3) := by decide +kernel
theorem dX9_cursor_12 : decode cX9_cursor 12 = .ok (.aload_n 0, 1) := by decide +kernel
theorem dX9_cursor_13 : decode cX9_cursor 13 = .ok (.getfield 46, 3) := by decide +kernel
theorem dX9_cursor_16 : decode cX9_cursor 16 = .ok (.iload_n 1, 1) := by decide +kernel
theorem dX9_cursor_17 : decode cX9_cursor 17 = .ok (.iaload, 1) := by decide +kernel
theorem dX9_cursor_18 : decode cX9_cursor 18 = .ok (.goto 8, 3) := by decide +kernel
theorem dX9_cursor_21 : decode cX9_cursor 21 = .ok (.aload_n 0, 1) := by decide +kernel
theorem dX9_cursor_22 : decode cX9_cursor 22 = .ok (.iconst 1, 1) := by decide +kernel
theorem dX9_cursor_23 : decode cX9_cursor 23 = .ok (.invokevirtual 144, 3) := by decide +kernel
theorem dX9_cursor_26 : decode cX9_cursor 26 = .ok (.ireturn, 1) := by decide +kernel
theorem dX9_mark_0 : decode cX9_mark 0 = .ok (.aload_n 0, 1) := by decide +kernel
theorem dX9_mark_1 : decode cX9_mark 1 = .ok (.iconst 0, 1) := by decide +kernel
theorem dX9_mark_2 : decode cX9_mark 2 = .ok (.putfield 92, 3) := by decide +kernel
theorem dX9_mark_5 : decode cX9_mark 5 = .ok (.iload_n 1, 1) := by decide +kernel
theorem dX9_mark_6 : decode cX9_mark 6 = .ok (.invokestatic 140, 3) := by decide +kernel
theorem dX9_mark_9 : decode cX9_mark 9 = .ok (.ifCond .eq 12, 3) := by decide +kernel
theorem dX9_mark_12 : decode cX9_mark 12 = .ok (.aload_n 0, 1) := by decide +kernel
theorem dX9_mark_13 : decode cX9_mark 13 = .ok (.getfield 49, 3) := by decide +kernel
theorem dX9_mark_16 : decode cX9_mark 16 = .ok (.iload_n 1, 1) := by decide +kernel
theorem dX9_mark_17 : decode cX9_mark 17 = .ok (.iaload, 1) := by decide +kernel
theorem dX9_mark_18 : decode cX9_mark 18 = .ok (.goto 8, 3) := by decide +kernel
theorem dX9_mark_21 : decode cX9_mark 21 = .ok (.aload_n 0, 1) := by decide +kernel
theorem dX9_mark_22 : decode cX9_mark 22 = .ok (.iconst 1, 1) := by decide +kernel
theorem dX9_mark_23 : decode cX9_mark 23 = .ok (.invokevirtual 144, 3) := by decide +kernel
theorem dX9_mark_26 : decode cX9_mark 26 = .ok (.ireturn, 1) := by decide +kernel
theorem dX9_revision_0 : decode cX9_revision 0 = .ok (.aload_n 0, 1) := by decide +kernel
theorem dX9_revision_1 : decode cX9_revision 1 = .ok (.iconst 0, 1) := by decide +kernel
theorem dX9_revision_2 : decode cX9_revision 2 = .ok (.putfield 92, 3) := by decide +kernel
theorem dX9_revision_5 : decode cX9_revision 5 = .ok (.iload_n 1, 1) := by decide +kernel
theorem dX9_revision_6 : decode cX9_revision 6 = .ok (.invokestatic 140, 3) := by decide +kernel
theorem dX9_revision_9 : decode cX9_revision 9 = .ok (.ifCond .eq 12, 3) := by decide +kernel
theorem dX9_revision_12 : decode cX9_revision 12 = .ok (.aload_n 0, 1) := by decide +kernel
theorem dX9_revision_13 : decode cX9_revision 13 = .ok (.getfield 43, 3) := by decide +kernel
theorem dX9_revision_16 : decode cX9_revision 16 = .ok (.iload_n 1, 1) := by decide +kernel
theorem dX9_revision_17 : decode cX9_revision 17 = .ok (.iaload, 1) := by decide +kernel
theorem dX9_revision_18 : decode cX9_revision 18 = .ok (.goto 8, 3) := by decide +kernel
theorem dX9_revision_21 : decode cX9_revision 21 = .ok (.aload_n 0, 1) := by decide +kernel
theorem dX9_revision_22 : decode cX9_revision 22 = .ok (.iconst 1, 1) := by decide +kernel
theorem dX9_revision_23 : decode cX9_revision 23 = .ok (.invokevirtual 144, 3) := by decide +kernel
theorem dX9_revision_26 : decode cX9_revision 26 = .ok (.ireturn, 1) := by decide +kernel
theorem dX9_sent_0 : decode cX9_sent 0 = .ok (.aload_n 0, 1) := by decide +kernel
theorem dX9_sent_1 : decode cX9_sent 1 = .ok (.iconst 0, 1) := by decide +kernel
theorem dX9_sent_2 : decode cX9_sent 2 = .ok (.putfield 92, 3) := by decide +kernel
theorem dX9_sent_5 : decode cX9_sent 5 = .ok (.iload_n 1, 1) := by decide +kernel
theorem dX9_sent_6 : decode cX9_sent 6 = .ok (.invokestatic 140, 3) := by decide +kernel
theorem dX9_sent_9 : decode cX9_sent 9 = .ok (.ifCond .eq 12, 3) := by decide +kernel
theorem dX9_sent_12 : decode cX9_sent 12 = .ok (.aload_n 0, 1) := by decide +kernel
theorem dX9_sent_13 : decode cX9_sent 13 = .ok (.getfield 37, 3) := by decide +kernel
theorem dX9_sent_16 : decode cX9_sent 16 = .ok (.iload_n 1, 1) := by decide +kernel
theorem dX9_sent_17 : decode cX9_sent 17 = .ok (.iaload, 1) := by decide +kernel
theorem dX9_sent_18 : decode cX9_sent 18 = .ok (.goto 8, 3) := by decide +kernel
theorem dX9_sent_21 : decode cX9_sent 21 = .ok (.aload_n 0, 1) := by decide +kernel
theorem dX9_sent_22 : decode cX9_sent 22 = .ok (.iconst 1, 1) := by decide +kernel
theorem dX9_sent_23 : decode cX9_sent 23 = .ok (.invokevirtual 144, 3) := by decide +kernel
theorem dX9_sent_26 : decode cX9_sent 26 = .ok (.ireturn, 1) := by decide +kernel
theorem dX9_waiting_0 : decode cX9_waiting 0 = .ok (.aload_n 0, 1) := by decide +kernel
theorem dX9_waiting_1 : decode cX9_waiting 1 = .ok (.iconst 0, 1) := by decide +kernel
theorem dX9_waiting_2 : decode cX9_waiting 2 = .ok (.putfield 92, 3) := by decide +kernel
theorem dX9_waiting_5 : decode cX9_waiting 5 = .ok (.iload_n 1, 1) := by decide +kernel
theorem dX9_waiting_6 : decode cX9_waiting 6 = .ok (.invokestatic 140, 3) := by decide +kernel
theorem dX9_waiting_9 : decode cX9_waiting 9 = .ok (.ifCond .eq 12, 3) := by decide +kernel
theorem dX9_waiting_12 : decode cX9_waiting 12 = .ok (.aload_n 0, 1) := by decide +kernel
theorem dX9_waiting_13 : decode cX9_waiting 13 = .ok (.getfield 40, 3) := by decide +kernel
theorem dX9_waiting_16 : decode cX9_waiting 16 = .ok (.iload_n 1, 1) := by decide +kernel
theorem dX9_waiting_17 : decode cX9_waiting 17 = .ok (.iaload, 1) := by decide +kernel
theorem dX9_waiting_18 : decode cX9_waiting 18 = .ok (.goto 8, 3) := by decide +kernel
theorem dX9_waiting_21 : decode cX9_waiting 21 = .ok (.aload_n 0, 1) := by decide +kernel
theorem dX9_waiting_22 : decode cX9_waiting 22 = .ok (.iconst 1, 1) := by decide +kernel
theorem dX9_waiting_23 : decode cX9_waiting 23 = .ok (.invokevirtual 144, 3) := by decide +kernel
theorem dX9_waiting_26 : decode cX9_waiting 26 = .ok (.ireturn, 1) := by decide +kernel
theorem dX9_runs_0 : decode cX9_runs 0 = .ok (.aload_n 0, 1) := by decide +kernel
theorem dX9_runs_1 : decode cX9_runs 1 = .ok (.iconst 0, 1) := by decide +kernel
theorem dX9_runs_2 : decode cX9_runs 2 = .ok (.putfield 92, 3) := by decide +kernel
theorem dX9_runs_5 : decode cX9_runs 5 = .ok (.iload_n 1, 1) := by decide +kernel
theorem dX9_runs_6 : decode cX9_runs 6 = .ok (.invokestatic 140, 3) := by decide +kernel
theorem dX9_runs_9 : decode cX9_runs 9 = .ok (.ifCond .ne 9, 3) := by decide +kernel
theorem dX9_runs_12 : decode cX9_runs 12 = .ok (.aload_n 0, 1) := by decide +kernel
theorem dX9_runs_13 : decode cX9_runs 13 = .ok (.iconst 1, 1) := by decide +kernel
theorem dX9_runs_14 : decode cX9_runs 14 = .ok (.invokevirtual 144, 3) := by decide +kernel
theorem dX9_runs_17 : decode cX9_runs 17 = .ok (.ireturn, 1) := by decide +kernel
theorem dX9_runs_18 : decode cX9_runs 18 = .ok (.iconst 0, 1) := by decide +kernel
theorem dX9_runs_19 : decode cX9_runs 19 = .ok (.istore_n 2, 1) := by decide +kernel
theorem dX9_runs_20 : decode cX9_runs 20 = .ok (.iconst 0, 1) := by decide +kernel
theorem dX9_runs_21 : decode cX9_runs 21 = .ok (.istore_n 3, 1) := by decide +kernel
theorem dX9_runs_22 : decode cX9_runs 22 = .ok (.iload_n 3, 1) := by decide +kernel
theorem dX9_runs_23 : decode cX9_runs 23 = .ok (.aload_n 0, 1) := by decide +kernel
theorem dX9_runs_24 : decode cX9_runs 24 = .ok (.getfield 40, 3) := by decide +kernel
theorem dX9_runs_27 : decode cX9_runs 27 = .ok (.iload_n 1, 1) := by decide +kernel
theorem dX9_runs_28 : decode cX9_runs 28 = .ok (.iaload, 1) := by decide +kernel
theorem dX9_runs_29 : decode cX9_runs 29 = .ok (.if_icmp .ge 18, 3) := by decide +kernel
theorem dX9_runs_32 : decode cX9_runs 32 = .ok (.iinc 2 1, 3) := by decide +kernel
theorem dX9_runs_35 : decode cX9_runs 35 = .ok (.iload_n 3, 1) := by decide +kernel
theorem dX9_runs_36 : decode cX9_runs 36 = .ok (.aload_n 0, 1) := by decide +kernel
theorem dX9_runs_37 : decode cX9_runs 37 = .ok (.iload_n 1, 1) := by decide +kernel
theorem dX9_runs_38 : decode cX9_runs 38 = .ok (.iload_n 3, 1) := by decide +kernel
theorem dX9_runs_39 : decode cX9_runs 39 = .ok (.invokevirtual 180, 3) := by decide +kernel
theorem dX9_runs_42 : decode cX9_runs 42 = .ok (.iadd, 1) := by decide +kernel
theorem dX9_runs_43 : decode cX9_runs 43 = .ok (.istore_n 3, 1) := by decide +kernel
theorem dX9_runs_44 : decode cX9_runs 44 = .ok (.goto (-22), 3) := by decide +kernel
theorem dX9_runs_47 : decode cX9_runs 47 = .ok (.iload_n 2, 1) := by decide +kernel
theorem dX9_runs_48 : decode cX9_runs 48 = .ok (.ireturn, 1) := by decide +kernel
theorem dX9_up_0 : decode cX9_up 0 = .ok (.aload_n 0, 1) := by decide +kernel
theorem dX9_up_1 : decode cX9_up 1 = .ok (.iconst 0, 1) := by decide +kernel
theorem dX9_up_2 : decode cX9_up 2 = .ok (.putfield 92, 3) := by decide +kernel
theorem dX9_up_5 : decode cX9_up 5 = .ok (.iload_n 1, 1) := by decide +kernel
theorem dX9_up_6 : decode cX9_up 6 = .ok (.invokestatic 140, 3) := by decide +kernel
theorem dX9_up_9 : decode cX9_up 9 = .ok (.ifCond .ne 9, 3) := by decide +kernel
theorem dX9_up_12 : decode cX9_up 12 = .ok (.aload_n 0, 1) := by decide +kernel
theorem dX9_up_13 : decode cX9_up 13 = .ok (.iconst 1, 1) := by decide +kernel
theorem dX9_up_14 : decode cX9_up 14 = .ok (.invokevirtual 144, 3) := by decide +kernel
theorem dX9_up_17 : decode cX9_up 17 = .ok (.ireturn, 1) := by decide +kernel
theorem dX9_up_18 : decode cX9_up 18 = .ok (.aload_n 0, 1) := by decide +kernel
theorem dX9_up_19 : decode cX9_up 19 = .ok (.getfield 62, 3) := by decide +kernel
theorem dX9_up_22 : decode cX9_up 22 = .ok (.iload_n 1, 1) := by decide +kernel
theorem dX9_up_23 : decode cX9_up 23 = .ok (.baload, 1) := by decide +kernel
theorem dX9_up_24 : decode cX9_up 24 = .ok (.ifCond .eq 7, 3) := by decide +kernel
theorem dX9_up_27 : decode cX9_up 27 = .ok (.iconst 1, 1) := by decide +kernel
theorem dX9_up_28 : decode cX9_up 28 = .ok (.goto 4, 3) := by decide +kernel
theorem dX9_up_31 : decode cX9_up 31 = .ok (.iconst 0, 1) := by decide +kernel
theorem dX9_up_32 : decode cX9_up 32 = .ok (.ireturn, 1) := by decide +kernel
theorem dX9_down_0 : decode cX9_down 0 = .ok (.aload_n 0, 1) := by decide +kernel
theorem dX9_down_1 : decode cX9_down 1 = .ok (.iconst 0, 1) := by decide +kernel
theorem dX9_down_2 : decode cX9_down 2 = .ok (.putfield 92, 3) := by decide +kernel
theorem dX9_down_5 : decode cX9_down 5 = .ok (.iload_n 1, 1) := by decide +kernel
theorem dX9_down_6 : decode cX9_down 6 = .ok (.invokestatic 140, 3) := by decide +kernel
theorem dX9_down_9 : decode cX9_down 9 = .ok (.ifCond .eq 17, 3) := by decide +kernel
theorem dX9_down_12 : decode cX9_down 12 = .ok (.aload_n 0, 1) := by decide +kernel
theorem dX9_down_13 : decode cX9_down 13 = .ok (.getfield 169, 3) := by decide +kernel
theorem dX9_down_16 : decode cX9_down 16 = .ok (.aload_n 0, 1) := by decide +kernel
theorem dX9_down_17 : decode cX9_down 17 = .ok (.getfield 43, 3) := by decide +kernel
theorem dX9_down_20 : decode cX9_down 20 = .ok (.iload_n 1, 1) := by decide +kernel
theorem dX9_down_21 : decode cX9_down 21 = .ok (.iaload, 1) := by decide +kernel
theorem dX9_down_22 : decode cX9_down 22 = .ok (.isub, 1) := by decide +kernel
theorem dX9_down_23 : decode cX9_down 23 = .ok (.goto 8, 3) := by decide +kernel
theorem dX9_down_26 : decode cX9_down 26 = .ok (.aload_n 0, 1) := by decide +kernel
theorem dX9_down_27 : decode cX9_down 27 = .ok (.iconst 1, 1) := by decide +kernel
theorem dX9_down_28 : decode cX9_down 28 = .ok (.invokevirtual 144, 3) := by decide +kernel
theorem dX9_down_31 : decode cX9_down 31 = .ok (.ireturn, 1) := by decide +kernel
theorem dX9_kept_0 : decode cX9_kept 0 = .ok (.aload_n 0, 1) := by decide +kernel
theorem dX9_kept_1 : decode cX9_kept 1 = .ok (.iconst 0, 1) := by decide +kernel
theorem dX9_kept_2 : decode cX9_kept 2 = .ok (.putfield 92, 3) := by decide +kernel
theorem dX9_kept_5 : decode cX9_kept 5 = .ok (.iload_n 1, 1) := by decide +kernel
theorem dX9_kept_6 : decode cX9_kept 6 = .ok (.invokestatic 140, 3) := by decide +kernel
theorem dX9_kept_9 : decode cX9_kept 9 = .ok (.ifCond .eq 12, 3) := by decide +kernel
theorem dX9_kept_12 : decode cX9_kept 12 = .ok (.aload_n 0, 1) := by decide +kernel
theorem dX9_kept_13 : decode cX9_kept 13 = .ok (.getfield 77, 3) := by decide +kernel
theorem dX9_kept_16 : decode cX9_kept 16 = .ok (.iload_n 1, 1) := by decide +kernel
theorem dX9_kept_17 : decode cX9_kept 17 = .ok (.iaload, 1) := by decide +kernel
theorem dX9_kept_18 : decode cX9_kept 18 = .ok (.goto 8, 3) := by decide +kernel
theorem dX9_kept_21 : decode cX9_kept 21 = .ok (.aload_n 0, 1) := by decide +kernel
theorem dX9_kept_22 : decode cX9_kept 22 = .ok (.iconst 1, 1) := by decide +kernel
theorem dX9_kept_23 : decode cX9_kept 23 = .ok (.invokevirtual 144, 3) := by decide +kernel
theorem dX9_kept_26 : decode cX9_kept 26 = .ok (.ireturn, 1) := by decide +kernel
theorem dX9_centreRevision_0 : decode cX9_centreRevision 0 = .ok (.aload_n 0, 1) := by decide +kernel
theorem dX9_centreRevision_1 : decode cX9_centreRevision 1 = .ok (.iconst 0, 1) := by decide +kernel
theorem dX9_centreRevision_2 : decode cX9_centreRevision 2 = .ok (.putfield 92, 3) := by decide +kernel
theorem dX9_centreRevision_5 : decode cX9_centreRevision 5 = .ok (.aload_n 0, 1) := by decide +kernel
theorem dX9_centreRevision_6 : decode cX9_centreRevision 6 = .ok (.getfield 169, 3) := by decide +kernel
theorem dX9_centreRevision_9 : decode cX9_centreRevision 9 = .ok (.ireturn, 1) := by decide +kernel
theorem dX9_isMessage_0 : decode cX9_isMessage 0 = .ok (.iload_n 1, 1) := by decide +kernel
theorem dX9_isMessage_1 : decode cX9_isMessage 1 = .ok (.iconst 0, 1) := by decide +kernel
theorem dX9_isMessage_2 : decode cX9_isMessage 2 = .ok (.aload_n 0, 1) := by decide +kernel
theorem dX9_isMessage_3 : decode cX9_isMessage 3 = .ok (.getfield 169, 3) := by decide +kernel
theorem dX9_isMessage_6 : decode cX9_isMessage 6 = .ok (.iconst 1, 1) := by decide +kernel
theorem dX9_isMessage_7 : decode cX9_isMessage 7 = .ok (.isub, 1) := by decide +kernel
theorem dX9_isMessage_8 : decode cX9_isMessage 8 = .ok (.invokestatic 96, 3) := by decide +kernel
theorem dX9_isMessage_11 : decode cX9_isMessage 11 = .ok (.ireturn, 1) := by decide +kernel
theorem dX9_historyEnd_0 : decode cX9_historyEnd 0 = .ok (.aload_n 0, 1) := by decide +kernel
theorem dX9_historyEnd_1 : decode cX9_historyEnd 1 = .ok (.iconst 0, 1) := by decide +kernel
theorem dX9_historyEnd_2 : decode cX9_historyEnd 2 = .ok (.putfield 92, 3) := by decide +kernel
theorem dX9_historyEnd_5 : decode cX9_historyEnd 5 = .ok (.aload_n 0, 1) := by decide +kernel
theorem dX9_historyEnd_6 : decode cX9_historyEnd 6 = .ok (.iload_n 1, 1) := by decide +kernel
theorem dX9_historyEnd_7 : decode cX9_historyEnd 7 = .ok (.invokevirtual 206, 3) := by decide +kernel
theorem dX9_historyEnd_10 : decode cX9_historyEnd 10 = .ok (.ifCond .eq 12, 3) := by decide +kernel
theorem dX9_historyEnd_13 : decode cX9_historyEnd 13 = .ok (.aload_n 0, 1) := by decide +kernel
theorem dX9_historyEnd_14 : decode cX9_historyEnd 14 = .ok (.getfield 83, 3) := by decide +kernel
theorem dX9_historyEnd_17 : decode cX9_historyEnd 17 = .ok (.iload_n 1, 1) := by decide +kernel
theorem dX9_historyEnd_18 : decode cX9_historyEnd 18 = .ok (.iaload, 1) := by decide +kernel
theorem dX9_historyEnd_19 : decode cX9_historyEnd 19 = .ok (.goto 8, 3) := by decide +kernel
theorem dX9_historyEnd_22 : decode cX9_historyEnd 22 = .ok (.aload_n 0, 1) := by decide +kernel
theorem dX9_historyEnd_23 : decode cX9_historyEnd 23 = .ok (.iconst 1, 1) := by decide +kernel
theorem dX9_historyEnd_24 : decode cX9_historyEnd 24 = .ok (.invokevirtual 144, 3) := by decide +kernel
theorem dX9_historyEnd_27 : decode cX9_historyEnd 27 = .ok (.ireturn, 1) := by decide +kernel
theorem dX9_historySize_0 : decode cX9_historySize 0 = .ok (.aload_n 0, 1) := by decide +kernel
theorem dX9_historySize_1 : decode cX9_historySize 1 = .ok (.iconst 0, 1) := by decide +kernel
theorem dX9_historySize_2 : decode cX9_historySize 2 = .ok (.putfield 92, 3) := by decide +kernel
theorem dX9_historySize_5 : decode cX9_historySize 5 = .ok (.aload_n 0, 1) := by decide +kernel
theorem dX9_historySize_6 : decode cX9_historySize 6 = .ok (.iload_n 1, 1) := by decide +kernel
theorem dX9_historySize_7 : decode cX9_historySize 7 = .ok (.invokevirtual 206, 3) := by decide +kernel
theorem dX9_historySize_10 : decode cX9_historySize 10 = .ok (.ifCond .eq 21, 3) := by decide +kernel
theorem dX9_historySize_13 : decode cX9_historySize 13 = .ok (.aload_n 0, 1) := by decide +kernel
theorem dX9_historySize_14 : decode cX9_historySize 14 = .ok (.getfield 80, 3) := by decide +kernel
theorem dX9_historySize_17 : decode cX9_historySize 17 = .ok (.iload_n 1, 1) := by decide +kernel
theorem dX9_historySize_18 : decode cX9_historySize 18 = .ok (.iconst 1, 1) := by decide +kernel
theorem dX9_historySize_19 : decode cX9_historySize 19 = .ok (.iadd, 1) := by decide +kernel
theorem dX9_historySize_20 : decode cX9_historySize 20 = .ok (.iaload, 1) := by decide +kernel
theorem dX9_historySize_21 : decode cX9_historySize 21 = .ok (.aload_n 0, 1) := by decide +kernel
theorem dX9_historySize_22 : decode cX9_historySize 22 = .ok (.getfield 80, 3) := by decide +kernel
theorem dX9_historySize_25 : decode cX9_historySize 25 = .ok (.iload_n 1, 1) := by decide +kernel
theorem dX9_historySize_26 : decode cX9_historySize 26 = .ok (.iaload, 1) := by decide +kernel
theorem dX9_historySize_27 : decode cX9_historySize 27 = .ok (.isub, 1) := by decide +kernel
theorem dX9_historySize_28 : decode cX9_historySize 28 = .ok (.goto 8, 3) := by decide +kernel
theorem dX9_historySize_31 : decode cX9_historySize 31 = .ok (.aload_n 0, 1) := by decide +kernel
theorem dX9_historySize_32 : decode cX9_historySize 32 = .ok (.iconst 1, 1) := by decide +kernel
theorem dX9_historySize_33 : decode cX9_historySize 33 = .ok (.invokevirtual 144, 3) := by decide +kernel
theorem dX9_historySize_36 : decode cX9_historySize 36 = .ok (.ireturn, 1) := by decide +kernel
theorem dX9_notOf_0 : decode cX9_notOf 0 = .ok (.aload_n 0, 1) := by decide +kernel
theorem dX9_notOf_1 : decode cX9_notOf 1 = .ok (.iload_n 1, 1) := by decide +kernel
theorem dX9_notOf_2 : decode cX9_notOf 2 = .ok (.invokevirtual 206, 3) := by decide +kernel
theorem dX9_notOf_5 : decode cX9_notOf 5 = .ok (.ifCond .ne 5, 3) := by decide +kernel
theorem dX9_notOf_8 : decode cX9_notOf 8 = .ok (.iconst 1, 1) := by decide +kernel
theorem dX9_notOf_9 : decode cX9_notOf 9 = .ok (.ireturn, 1) := by decide +kernel
theorem dX9_notOf_10 : decode cX9_notOf 10 = .ok (.iload_n 2, 1) := by decide +kernel
theorem dX9_notOf_11 : decode cX9_notOf 11 = .ok (.iconst 0, 1) := by decide +kernel
theorem dX9_notOf_12 : decode cX9_notOf 12 = .ok (.aload_n 0, 1) := by decide +kernel
theorem dX9_notOf_13 : decode cX9_notOf 13 = .ok (.getfield 80, 3) := by decide +kernel
theorem dX9_notOf_16 : decode cX9_notOf 16 = .ok (.iload_n 1, 1) := by decide +kernel
theorem dX9_notOf_17 : decode cX9_notOf 17 = .ok (.iconst 1, 1) := by decide +kernel
theorem dX9_notOf_18 : decode cX9_notOf 18 = .ok (.iadd, 1) := by decide +kernel
theorem dX9_notOf_19 : decode cX9_notOf 19 = .ok (.iaload, 1) := by decide +kernel
theorem dX9_notOf_20 : decode cX9_notOf 20 = .ok (.aload_n 0, 1) := by decide +kernel
theorem dX9_notOf_21 : decode cX9_notOf 21 = .ok (.getfield 80, 3) := by decide +kernel
theorem dX9_notOf_24 : decode cX9_notOf 24 = .ok (.iload_n 1, 1) := by decide +kernel
theorem dX9_notOf_25 : decode cX9_notOf 25 = .ok (.iaload, 1) := by decide +kernel
theorem dX9_notOf_26 : decode cX9_notOf 26 = .ok (.isub, 1) := by decide +kernel
theorem dX9_notOf_27 : decode cX9_notOf 27 = .ok (.iconst 1, 1) := by decide +kernel
theorem dX9_notOf_28 : decode cX9_notOf 28 = .ok (.isub, 1) := by decide +kernel
theorem dX9_notOf_29 : decode cX9_notOf 29 = .ok (.invokestatic 96, 3) := by decide +kernel
theorem dX9_notOf_32 : decode cX9_notOf 32 = .ok (.ifCond .eq 7, 3) := by decide +kernel
theorem dX9_notOf_35 : decode cX9_notOf 35 = .ok (.iconst 0, 1) := by decide +kernel
theorem dX9_notOf_36 : decode cX9_notOf 36 = .ok (.goto 4, 3) := by decide +kernel
theorem dX9_notOf_39 : decode cX9_notOf 39 = .ok (.iconst 2, 1) := by decide +kernel
theorem dX9_notOf_40 : decode cX9_notOf 40 = .ok (.ireturn, 1) := by decide +kernel
theorem dX9_historyKind_0 : decode cX9_historyKind 0 = .ok (.aload_n 0, 1) := by decide +kernel
theorem dX9_historyKind_1 : decode cX9_historyKind 1 = .ok (.iconst 0, 1) := by decide +kernel
theorem dX9_historyKind_2 : decode cX9_historyKind 2 = .ok (.putfield 92, 3) := by decide +kernel
theorem dX9_historyKind_5 : decode cX9_historyKind 5 = .ok (.aload_n 0, 1) := by decide +kernel
theorem dX9_historyKind_6 : decode cX9_historyKind 6 = .ok (.iload_n 1, 1) := by decide +kernel
theorem dX9_historyKind_7 : decode cX9_historyKind 7 = .ok (.iload_n 2, 1) := by decide +kernel
theorem dX9_historyKind_8 : decode cX9_historyKind 8 = .ok (.invokevirtual 209, 3) := by decide +kernel
theorem dX9_historyKind_11 : decode cX9_historyKind 11 = .ok (.istore_n 3, 1) := by decide +kernel
theorem dX9_historyKind_12 : decode cX9_historyKind 12 = .ok (.iload_n 3, 1) := by decide +kernel
theorem dX9_historyKind_13 : decode cX9_historyKind 13 = .ok (.ifCond .eq 10, 3) := by decide +kernel
theorem dX9_historyKind_16 : decode cX9_historyKind 16 = .ok (.aload_n 0, 1) := by decide +kernel
theorem dX9_historyKind_17 : decode cX9_historyKind 17 = .ok (.iload_n 3, 1) := by decide +kernel
theorem dX9_historyKind_18 : decode cX9_historyKind 18 = .ok (.invokevirtual 144, 3) := by decide +kernel
theorem dX9_historyKind_21 : decode cX9_historyKind 21 = .ok (.i2c, 1) := by decide +kernel
theorem dX9_historyKind_22 : decode cX9_historyKind 22 = .ok (.ireturn, 1) := by decide +kernel
theorem dX9_historyKind_23 : decode cX9_historyKind 23 = .ok (.aload_n 0, 1) := by decide +kernel
theorem dX9_historyKind_24 : decode cX9_historyKind 24 = .ok (.getfield 7, 3) := by decide +kernel
theorem dX9_historyKind_27 : decode cX9_historyKind 27 = .ok (.sipush 1200, 3) := by decide +kernel
theorem dX9_historyKind_30 : decode cX9_historyKind 30 = .ok (.aload_n 0, 1) := by decide +kernel
theorem dX9_historyKind_31 : decode cX9_historyKind 31 = .ok (.getfield 80, 3) := by decide +kernel
theorem dX9_historyKind_34 : decode cX9_historyKind 34 = .ok (.iload_n 1, 1) := by decide +kernel
theorem dX9_historyKind_35 : decode cX9_historyKind 35 = .ok (.iaload, 1) := by decide +kernel
theorem dX9_historyKind_36 : decode cX9_historyKind 36 = .ok (.iadd, 1) := by decide +kernel
theorem dX9_historyKind_37 : decode cX9_historyKind 37 = .ok (.iload_n 2, 1) := by decide +kernel
theorem dX9_historyKind_38 : decode cX9_historyKind 38 = .ok (.iadd, 1) := by decide +kernel
theorem dX9_historyKind_39 : decode cX9_historyKind 39 = .ok (.iaload, 1) := by decide +kernel
theorem dX9_historyKind_40 : decode cX9_historyKind 40 = .ok (.istore 4, 2) := by decide +kernel
theorem dX9_historyKind_42 : decode cX9_historyKind 42 = .ok (.iload 4, 2) := by decide +kernel
theorem dX9_historyKind_44 : decode cX9_historyKind 44 = .ok (.iconst 1, 1) := by decide +kernel
theorem dX9_historyKind_45 : decode cX9_historyKind 45 = .ok (.if_icmp .ne 8, 3) := by decide +kernel
theorem dX9_historyKind_48 : decode cX9_historyKind 48 = .ok (.bipush 105, 2) := by decide +kernel
theorem dX9_historyKind_50 : decode cX9_historyKind 50 = .ok (.goto 16, 3) := by decide +kernel
theorem dX9_historyKind_53 : decode cX9_historyKind 53 = .ok (.iload 4, 2) := by decide +kernel
theorem dX9_historyKind_55 : decode cX9_historyKind 55 = .ok (.iconst 2, 1) := by decide +kernel
theorem dX9_historyKind_56 : decode cX9_historyKind 56 = .ok (.if_icmp .ne 8, 3) := by decide +kernel
theorem dX9_historyKind_59 : decode cX9_historyKind 59 = .ok (.bipush 100, 2) := by decide +kernel
theorem dX9_historyKind_61 : decode cX9_historyKind 61 = .ok (.goto 5, 3) := by decide +kernel
theorem dX9_historyKind_64 : decode cX9_historyKind 64 = .ok (.bipush 110, 2) := by decide +kernel
theorem dX9_historyKind_66 : decode cX9_historyKind 66 = .ok (.ireturn, 1) := by decide +kernel
theorem dX9_historyPosition_0 : decode cX9_historyPosition 0 = .ok (.aload_n 0, 1) := by decide +kernel
theorem dX9_historyPosition_1 : decode cX9_historyPosition 1 = .ok (.iconst 0, 1) := by decide +kernel
theorem dX9_historyPosition_2 : decode cX9_historyPosition 2 = .ok (.putfield 92, 3) := by decide +kernel
theorem dX9_historyPosition_5 : decode cX9_historyPosition 5 = .ok (.aload_n 0, 1) := by decide +kernel
theorem dX9_historyPosition_6 : decode cX9_historyPosition 6 = .ok (.iload_n 1, 1) := by decide +kernel
theorem dX9_historyPosition_7 : decode cX9_historyPosition 7 = .ok (.iload_n 2, 1) := by decide +kernel
theorem dX9_historyPosition_8 : decode cX9_historyPosition 8 = .ok (.invokevirtual 209, 3) := by decide +kernel
theorem dX9_historyPosition_11 : decode cX9_historyPosition 11 = .ok (.istore_n 3, 1) := by decide +kernel
theorem dX9_historyPosition_12 : decode cX9_historyPosition 12 = .ok (.iload_n 3, 1) := by decide +kernel
theorem dX9_historyPosition_13 : decode cX9_historyPosition 13 = .ok (.ifCond .eq 9, 3) := by decide +kernel
theorem dX9_historyPosition_16 : decode cX9_historyPosition 16 = .ok (.aload_n 0, 1) := by decide +kernel
theorem dX9_historyPosition_17 : decode cX9_historyPosition 17 = .ok (.iload_n 3, 1) := by decide +kernel
theorem dX9_historyPosition_18 : decode cX9_historyPosition 18 = .ok (.invokevirtual 144, 3) := by decide +kernel
theorem dX9_historyPosition_21 : decode cX9_historyPosition 21 = .ok (.ireturn, 1) := by decide +kernel
theorem dX9_historyPosition_22 : decode cX9_historyPosition 22 = .ok (.sipush 1200, 3) := by decide +kernel
theorem dX9_historyPosition_25 : decode cX9_historyPosition 25 = .ok (.aload_n 0, 1) := by decide +kernel
theorem dX9_historyPosition_26 : decode cX9_historyPosition 26 = .ok (.getfield 80, 3) := by decide +kernel
theorem dX9_historyPosition_29 : decode cX9_historyPosition 29 = .ok (.iload_n 1, 1) := by decide +kernel
theorem dX9_historyPosition_30 : decode cX9_historyPosition 30 = .ok (.iaload, 1) := by decide +kernel
theorem dX9_historyPosition_31 : decode cX9_historyPosition 31 = .ok (.iadd, 1) := by decide +kernel
theorem dX9_historyPosition_32 : decode cX9_historyPosition 32 = .ok (.iload_n 2, 1) := by decide +kernel
theorem dX9_historyPosition_33 : decode cX9_historyPosition 33 = .ok (.iadd, 1) := by decide +kernel
theorem dX9_historyPosition_34 : decode cX9_historyPosition 34 = .ok (.istore 4, 2) := by decide +kernel
theorem dX9_historyPosition_36 : decode cX9_historyPosition 36 = .ok (.aload_n 0, 1) := by decide +kernel
theorem dX9_historyPosition_37 : decode cX9_historyPosition 37 = .ok (.getfield 7, 3) := by decide +kernel
theorem dX9_historyPosition_40 : decode cX9_historyPosition 40 = .ok (.iload 4, 2) := by decide +kernel
theorem dX9_historyPosition_42 : decode cX9_historyPosition 42 = .ok (.iaload, 1) := by decide +kernel
theorem dX9_historyPosition_43 : decode cX9_historyPosition 43 = .ok (.ifCond .ne 7, 3) := by decide +kernel
theorem dX9_historyPosition_46 : decode cX9_historyPosition 46 = .ok (.iconst (-1), 1) := by decide +kernel
theorem dX9_historyPosition_47 : decode cX9_historyPosition 47 = .ok (.goto 10, 3) := by decide +kernel
theorem dX9_historyPosition_50 : decode cX9_historyPosition 50 = .ok (.aload_n 0, 1) := by decide +kernel
theorem dX9_historyPosition_51 : decode cX9_historyPosition 51 = .ok (.getfield 13, 3) := by decide +kernel
theorem dX9_historyPosition_54 : decode cX9_historyPosition 54 = .ok (.iload 4, 2) := by decide +kernel
theorem dX9_historyPosition_56 : decode cX9_historyPosition 56 = .ok (.iaload, 1) := by decide +kernel
theorem dX9_historyPosition_57 : decode cX9_historyPosition 57 = .ok (.ireturn, 1) := by decide +kernel
theorem dX9_areSame_0 : decode cX9_areSame 0 = .ok (.aload_n 0, 1) := by decide +kernel
theorem dX9_areSame_1 : decode cX9_areSame 1 = .ok (.getfield 34, 3) := by decide +kernel
theorem dX9_areSame_4 : decode cX9_areSame 4 = .ok (.iload_n 1, 1) := by decide +kernel
theorem dX9_areSame_5 : decode cX9_areSame 5 = .ok (.iaload, 1) := by decide +kernel
theorem dX9_areSame_6 : decode cX9_areSame 6 = .ok (.aload_n 0, 1) := by decide +kernel
theorem dX9_areSame_7 : decode cX9_areSame 7 = .ok (.getfield 34, 3) := by decide +kernel
theorem dX9_areSame_10 : decode cX9_areSame 10 = .ok (.iload_n 2, 1) := by decide +kernel
theorem dX9_areSame_11 : decode cX9_areSame 11 = .ok (.iaload, 1) := by decide +kernel
theorem dX9_areSame_12 : decode cX9_areSame 12 = .ok (.if_icmp .eq 5, 3) := by decide +kernel
theorem dX9_areSame_15 : decode cX9_areSame 15 = .ok (.iconst 0, 1) := by decide +kernel
theorem dX9_areSame_16 : decode cX9_areSame 16 = .ok (.ireturn, 1) := by decide +kernel
theorem dX9_areSame_17 : decode cX9_areSame 17 = .ok (.iconst 0, 1) := by decide +kernel
theorem dX9_areSame_18 : decode cX9_areSame 18 = .ok (.istore_n 3, 1) := by decide +kernel
theorem dX9_areSame_19 : decode cX9_areSame 19 = .ok (.iload_n 3, 1) := by decide +kernel
theorem dX9_areSame_20 : decode cX9_areSame 20 = .ok (.aload_n 0, 1) := by decide +kernel
theorem dX9_areSame_21 : decode cX9_areSame 21 = .ok (.getfield 34, 3) := by decide +kernel
theorem dX9_areSame_24 : decode cX9_areSame 24 = .ok (.iload_n 1, 1) := by decide +kernel
theorem dX9_areSame_25 : decode cX9_areSame 25 = .ok (.iaload, 1) := by decide +kernel
theorem dX9_areSame_26 : decode cX9_areSame 26 = .ok (.if_icmp .ge 26, 3) := by decide +kernel
theorem dX9_areSame_29 : decode cX9_areSame 29 = .ok (.aload_n 0, 1) := by decide +kernel
theorem dX9_areSame_30 : decode cX9_areSame 30 = .ok (.iload_n 1, 1) := by decide +kernel
theorem dX9_areSame_31 : decode cX9_areSame 31 = .ok (.iload_n 3, 1) := by decide +kernel
theorem dX9_areSame_32 : decode cX9_areSame 32 = .ok (.invokevirtual 157, 3) := by decide +kernel
theorem dX9_areSame_35 : decode cX9_areSame 35 = .ok (.aload_n 0, 1) := by decide +kernel
theorem dX9_areSame_36 : decode cX9_areSame 36 = .ok (.iload_n 2, 1) := by decide +kernel
theorem dX9_areSame_37 : decode cX9_areSame 37 = .ok (.iload_n 3, 1) := by decide +kernel
theorem dX9_areSame_38 : decode cX9_areSame 38 = .ok (.invokevirtual 157, 3) := by decide +kernel
theorem dX9_areSame_41 : decode cX9_areSame 41 = .ok (.if_icmp .eq 5, 3) := by decide +kernel
theorem dX9_areSame_44 : decode cX9_areSame 44 = .ok (.iconst 0, 1) := by decide +kernel
theorem dX9_areSame_45 : decode cX9_areSame 45 = .ok (.ireturn, 1) := by decide +kernel
theorem dX9_areSame_46 : decode cX9_areSame 46 = .ok (.iinc 3 1, 3) := by decide +kernel
theorem dX9_areSame_49 : decode cX9_areSame 49 = .ok (.goto (-30), 3) := by decide +kernel
theorem dX9_areSame_52 : decode cX9_areSame 52 = .ok (.iconst 1, 1) := by decide +kernel
theorem dX9_areSame_53 : decode cX9_areSame 53 = .ok (.ireturn, 1) := by decide +kernel
theorem dX9_agree_0 : decode cX9_agree 0 = .ok (.aload_n 0, 1) := by decide +kernel
theorem dX9_agree_1 : decode cX9_agree 1 = .ok (.iconst 0, 1) := by decide +kernel
theorem dX9_agree_2 : decode cX9_agree 2 = .ok (.putfield 92, 3) := by decide +kernel
theorem dX9_agree_5 : decode cX9_agree 5 = .ok (.aload_n 0, 1) := by decide +kernel
theorem dX9_agree_6 : decode cX9_agree 6 = .ok (.iconst 0, 1) := by decide +kernel
theorem dX9_agree_7 : decode cX9_agree 7 = .ok (.iconst 1, 1) := by decide +kernel
theorem dX9_agree_8 : decode cX9_agree 8 = .ok (.invokevirtual 212, 3) := by decide +kernel
theorem dX9_agree_11 : decode cX9_agree 11 = .ok (.ifCond .eq 16, 3) := by decide +kernel
theorem dX9_agree_14 : decode cX9_agree 14 = .ok (.aload_n 0, 1) := by decide +kernel
theorem dX9_agree_15 : decode cX9_agree 15 = .ok (.iconst 0, 1) := by decide +kernel
theorem dX9_agree_16 : decode cX9_agree 16 = .ok (.iconst 2, 1) := by decide +kernel
theorem dX9_agree_17 : decode cX9_agree 17 = .ok (.invokevirtual 212, 3) := by decide +kernel
theorem dX9_agree_20 : decode cX9_agree 20 = .ok (.ifCond .eq 7, 3) := by decide +kernel
theorem dX9_agree_23 : decode cX9_agree 23 = .ok (.iconst 1, 1) := by decide +kernel
theorem dX9_agree_24 : decode cX9_agree 24 = .ok (.goto 4, 3) := by decide +kernel
theorem dX9_agree_27 : decode cX9_agree 27 = .ok (.iconst 0, 1) := by decide +kernel
theorem dX9_agree_28 : decode cX9_agree 28 = .ok (.ireturn, 1) := by decide +kernel
theorem dX9_distance_0 : decode cX9_distance 0 = .ok (.aload_n 0, 1) := by decide +kernel
theorem dX9_distance_1 : decode cX9_distance 1 = .ok (.iconst 0, 1) := by decide +kernel
theorem dX9_distance_2 : decode cX9_distance 2 = .ok (.putfield 92, 3) := by decide +kernel
theorem dX9_distance_5 : decode cX9_distance 5 = .ok (.iconst 0, 1) := by decide +kernel
theorem dX9_distance_6 : decode cX9_distance 6 = .ok (.istore_n 1, 1) := by decide +kernel
theorem dX9_distance_7 : decode cX9_distance 7 = .ok (.iload_n 1, 1) := by decide +kernel
theorem dX9_distance_8 : decode cX9_distance 8 = .ok (.aload_n 0, 1) := by decide +kernel
theorem dX9_distance_9 : decode cX9_distance 9 = .ok (.getfield 34, 3) := by decide +kernel
theorem dX9_distance_12 : decode cX9_distance 12 = .ok (.iconst 1, 1) := by decide +kernel
theorem dX9_distance_13 : decode cX9_distance 13 = .ok (.iaload, 1) := by decide +kernel
theorem dX9_distance_14 : decode cX9_distance 14 = .ok (.if_icmp .gt 16, 3) := by decide +kernel
theorem dX9_distance_17 : decode cX9_distance 17 = .ok (.aload_n 0, 1) := by decide +kernel
theorem dX9_distance_18 : decode cX9_distance 18 = .ok (.getfield 86, 3) := by decide +kernel
theorem dX9_distance_21 : decode cX9_distance 21 = .ok (.iload_n 1, 1) := by decide +kernel
theorem dX9_distance_22 : decode cX9_distance 22 = .ok (.iload_n 1, 1) := by decide +kernel
theorem dX9_distance_23 : decode cX9_distance 23 = .ok (.iastore, 1) := by decide +kernel
theorem dX9_distance_24 : decode cX9_distance 24 = .ok (.iinc 1 1, 3) := by decide +kernel
theorem dX9_distance_27 : decode cX9_distance 27 = .ok (.goto (-20), 3) := by decide +kernel
theorem dX9_distance_30 : decode cX9_distance 30 = .ok (.iconst 1, 1) := by decide +kernel
theorem dX9_distance_31 : decode cX9_distance 31 = .ok (.istore_n 1, 1) := by decide +kernel
theorem dX9_distance_32 : decode cX9_distance 32 = .ok (.iload_n 1, 1) := by decide +kernel
theorem dX9_distance_33 : decode cX9_distance 33 = .ok (.aload_n 0, 1) := by decide +kernel
theorem dX9_distance_34 : decode cX9_distance 34 = .ok (.getfield 34, 3) := by decide +kernel
theorem dX9_distance_37 : decode cX9_distance 37 = .ok (.iconst 0, 1) := by decide +kernel
theorem dX9_distance_38 : decode cX9_distance 38 = .ok (.iaload, 1) := by decide +kernel
theorem dX9_distance_39 : decode cX9_distance 39 = .ok (.if_icmp .gt 138, 3) := by decide +kernel
theorem dX9_distance_42 : decode cX9_distance 42 = .ok (.iconst 0, 1) := by decide +kernel
theorem dX9_distance_43 : decode cX9_distance 43 = .ok (.istore_n 2, 1) := by decide +kernel
theorem dX9_distance_44 : decode cX9_distance 44 = .ok (.iload_n 2, 1) := by decide +kernel
theorem dX9_distance_45 : decode cX9_distance 45 = .ok (.aload_n 0, 1) := by decide +kernel
theorem dX9_distance_46 : decode cX9_distance 46 = .ok (.getfield 34, 3) := by decide +kernel
theorem dX9_distance_49 : decode cX9_distance 49 = .ok (.iconst 1, 1) := by decide +kernel
theorem dX9_distance_50 : decode cX9_distance 50 = .ok (.iaload, 1) := by decide +kernel
theorem dX9_distance_51 : decode cX9_distance 51 = .ok (.if_icmp .gt 21, 3) := by decide +kernel
theorem dX9_distance_54 : decode cX9_distance 54 = .ok (.aload_n 0, 1) := by decide +kernel
theorem dX9_distance_55 : decode cX9_distance 55 = .ok (.getfield 89, 3) := by decide +kernel
theorem dX9_distance_58 : decode cX9_distance 58 = .ok (.iload_n 2, 1) := by decide +kernel
theorem dX9_distance_59 : decode cX9_distance 59 = .ok (.aload_n 0, 1) := by decide +kernel
theorem dX9_distance_60 : decode cX9_distance 60 = .ok (.getfield 86, 3) := by decide +kernel
theorem dX9_distance_63 : decode cX9_distance 63 = .ok (.iload_n 2, 1) := by decide +kernel
theorem dX9_distance_64 : decode cX9_distance 64 = .ok (.iaload, 1) := by decide +kernel
theorem dX9_distance_65 : decode cX9_distance 65 = .ok (.iastore, 1) := by decide +kernel
theorem dX9_distance_66 : decode cX9_distance 66 = .ok (.iinc 2 1, 3) := by decide +kernel
theorem dX9_distance_69 : decode cX9_distance 69 = .ok (.goto (-25), 3) := by decide +kernel
theorem dX9_distance_72 : decode cX9_distance 72 = .ok (.aload_n 0, 1) := by decide +kernel
theorem dX9_distance_73 : decode cX9_distance 73 = .ok (.getfield 86, 3) := by decide +kernel
theorem dX9_distance_76 : decode cX9_distance 76 = .ok (.iconst 0, 1) := by decide +kernel
theorem dX9_distance_77 : decode cX9_distance 77 = .ok (.iload_n 1, 1) := by decide +kernel
theorem dX9_distance_78 : decode cX9_distance 78 = .ok (.iastore, 1) := by decide +kernel
theorem dX9_distance_79 : decode cX9_distance 79 = .ok (.iconst 1, 1) := by decide +kernel
theorem dX9_distance_80 : decode cX9_distance 80 = .ok (.istore_n 2, 1) := by decide +kernel
theorem dX9_distance_81 : decode cX9_distance 81 = .ok (.iload_n 2, 1) := by decide +kernel
theorem dX9_distance_82 : decode cX9_distance 82 = .ok (.aload_n 0, 1) := by decide +kernel
theorem dX9_distance_83 : decode cX9_distance 83 = .ok (.getfield 34, 3) := by decide +kernel
theorem dX9_distance_86 : decode cX9_distance 86 = .ok (.iconst 1, 1) := by decide +kernel
theorem dX9_distance_87 : decode cX9_distance 87 = .ok (.iaload, 1) := by decide +kernel
theorem dX9_distance_88 : decode cX9_distance 88 = .ok (.if_icmp .gt 83, 3) := by decide +kernel
theorem dX9_distance_91 : decode cX9_distance 91 = .ok (.aload_n 0, 1) := by decide +kernel
theorem dX9_distance_92 : decode cX9_distance 92 = .ok (.getfield 86, 3) := by decide +kernel
theorem dX9_distance_95 : decode cX9_distance 95 = .ok (.iload_n 2, 1) := by decide +kernel
theorem dX9_distance_96 : decode cX9_distance 96 = .ok (.iconst 1, 1) := by decide +kernel
theorem dX9_distance_97 : decode cX9_distance 97 = .ok (.isub, 1) := by decide +kernel
theorem dX9_distance_98 : decode cX9_distance 98 = .ok (.iaload, 1) := by decide +kernel
theorem dX9_distance_99 : decode cX9_distance 99 = .ok (.aload_n 0, 1) := by decide +kernel
theorem dX9_distance_100 : decode cX9_distance 100 = .ok (.getfield 89, 3) := by decide +kernel
theorem dX9_distance_103 : decode cX9_distance 103 = .ok (.iload_n 2, 1) := by decide +kernel
theorem dX9_distance_104 : decode cX9_distance 104 = .ok (.iaload, 1) := by decide +kernel
theorem dX9_distance_105 : decode cX9_distance 105 = .ok (.if_icmp .ge 14, 3) := by decide +kernel
theorem dX9_distance_108 : decode cX9_distance 108 = .ok (.aload_n 0, 1) := by decide +kernel
theorem dX9_distance_109 : decode cX9_distance 109 = .ok (.getfield 86, 3) := by decide +kernel
theorem dX9_distance_112 : decode cX9_distance 112 = .ok (.iload_n 2, 1) := by decide +kernel
theorem dX9_distance_113 : decode cX9_distance 113 = .ok (.iconst 1, 1) := by decide +kernel
theorem dX9_distance_114 : decode cX9_distance 114 = .ok (.isub, 1) := by decide +kernel
theorem dX9_distance_115 : decode cX9_distance 115 = .ok (.iaload, 1) := by decide +kernel
theorem dX9_distance_116 : decode cX9_distance 116 = .ok (.goto 9, 3) := by decide +kernel
theorem dX9_distance_119 : decode cX9_distance 119 = .ok (.aload_n 0, 1) := by decide +kernel
theorem dX9_distance_120 : decode cX9_distance 120 = .ok (.getfield 89, 3) := by decide +kernel
theorem dX9_distance_123 : decode cX9_distance 123 = .ok (.iload_n 2, 1) := by decide +kernel
theorem dX9_distance_124 : decode cX9_distance 124 = .ok (.iaload, 1) := by decide +kernel
theorem dX9_distance_125 : decode cX9_distance 125 = .ok (.istore_n 3, 1) := by decide +kernel
theorem dX9_distance_126 : decode cX9_distance 126 = .ok (.aload_n 0, 1) := by decide +kernel
theorem dX9_distance_127 : decode cX9_distance 127 = .ok (.getfield 86, 3) := by decide +kernel
theorem dX9_distance_130 : decode cX9_distance 130 = .ok (.iload_n 2, 1) := by decide +kernel
theorem dX9_distance_131 : decode cX9_distance 131 = .ok (.aload_n 0, 1) := by decide +kernel
theorem dX9_distance_132 : decode cX9_distance 132 = .ok (.iconst 0, 1) := by decide +kernel
theorem dX9_distance_133 : decode cX9_distance 133 = .ok (.iload_n 1, 1) := by decide +kernel
theorem dX9_distance_134 : decode cX9_distance 134 = .ok (.iconst 1, 1) := by decide +kernel
theorem dX9_distance_135 : decode cX9_distance 135 = .ok (.isub, 1) := by decide +kernel
theorem dX9_distance_136 : decode cX9_distance 136 = .ok (.invokevirtual 157, 3) := by decide +kernel
theorem dX9_distance_139 : decode cX9_distance 139 = .ok (.aload_n 0, 1) := by decide +kernel
theorem dX9_distance_140 : decode cX9_distance 140 = .ok (.iconst 1, 1) := by decide +kernel
theorem dX9_distance_141 : decode cX9_distance 141 = .ok (.iload_n 2, 1) := by decide +kernel
theorem dX9_distance_142 : decode cX9_distance 142 = .ok (.iconst 1, 1) := by decide +kernel
theorem dX9_distance_143 : decode cX9_distance 143 = .ok (.isub, 1) := by decide +kernel
theorem dX9_distance_144 : decode cX9_distance 144 = .ok (.invokevirtual 157, 3) := by decide +kernel
theorem dX9_distance_147 : decode cX9_distance 147 = .ok (.if_icmp .ne 14, 3) := by decide +kernel
theorem dX9_distance_150 : decode cX9_distance 150 = .ok (.aload_n 0, 1) := by decide +kernel
theorem dX9_distance_151 : decode cX9_distance 151 = .ok (.getfield 89, 3) := by decide +kernel
theorem dX9_distance_154 : decode cX9_distance 154 = .ok (.iload_n 2, 1) := by decide +kernel
theorem dX9_distance_155 : decode cX9_distance 155 = .ok (.iconst 1, 1) := by decide +kernel
theorem dX9_distance_156 : decode cX9_distance 156 = .ok (.isub, 1) := by decide +kernel
theorem dX9_distance_157 : decode cX9_distance 157 = .ok (.iaload, 1) := by decide +kernel
theorem dX9_distance_158 : decode cX9_distance 158 = .ok (.goto 6, 3) := by decide +kernel
theorem dX9_distance_161 : decode cX9_distance 161 = .ok (.iload_n 3, 1) := by decide +kernel
theorem dX9_distance_162 : decode cX9_distance 162 = .ok (.iconst 1, 1) := by decide +kernel
theorem dX9_distance_163 : decode cX9_distance 163 = .ok (.iadd, 1) := by decide +kernel
theorem dX9_distance_164 : decode cX9_distance 164 = .ok (.iastore, 1) := by decide +kernel
theorem dX9_distance_165 : decode cX9_distance 165 = .ok (.iinc 2 1, 3) := by decide +kernel
theorem dX9_distance_168 : decode cX9_distance 168 = .ok (.goto (-87), 3) := by decide +kernel
theorem dX9_distance_171 : decode cX9_distance 171 = .ok (.iinc 1 1, 3) := by decide +kernel
theorem dX9_distance_174 : decode cX9_distance 174 = .ok (.goto (-142), 3) := by decide +kernel
theorem dX9_distance_177 : decode cX9_distance 177 = .ok (.aload_n 0, 1) := by decide +kernel
theorem dX9_distance_178 : decode cX9_distance 178 = .ok (.getfield 86, 3) := by decide +kernel
theorem dX9_distance_181 : decode cX9_distance 181 = .ok (.aload_n 0, 1) := by decide +kernel
theorem dX9_distance_182 : decode cX9_distance 182 = .ok (.getfield 34, 3) := by decide +kernel
theorem dX9_distance_185 : decode cX9_distance 185 = .ok (.iconst 1, 1) := by decide +kernel
theorem dX9_distance_186 : decode cX9_distance 186 = .ok (.iaload, 1) := by decide +kernel
theorem dX9_distance_187 : decode cX9_distance 187 = .ok (.iaload, 1) := by decide +kernel
theorem dX9_distance_188 : decode cX9_distance 188 = .ok (.ireturn, 1) := by decide +kernel
theorem dX9_distanceByWays_0 : decode cX9_distanceByWays 0 = .ok (.aload_n 0, 1) := by decide +kernel
theorem dX9_distanceByWays_1 : decode cX9_distanceByWays 1 = .ok (.invokevirtual 215, 3) := by decide +kernel
theorem dX9_distanceByWays_4 : decode cX9_distanceByWays 4 = .ok (.ireturn, 1) := by decide +kernel
theorem dX9_ownShare_0 : decode cX9_ownShare 0 = .ok (.aload_n 0, 1) := by decide +kernel
theorem dX9_ownShare_1 : decode cX9_ownShare 1 = .ok (.iconst 0, 1) := by decide +kernel
theorem dX9_ownShare_2 : decode cX9_ownShare 2 = .ok (.putfield 92, 3) := by decide +kernel
theorem dX9_ownShare_5 : decode cX9_ownShare 5 = .ok (.iload_n 1, 1) := by decide +kernel
theorem dX9_ownShare_6 : decode cX9_ownShare 6 = .ok (.invokestatic 140, 3) := by decide +kernel
theorem dX9_ownShare_9 : decode cX9_ownShare 9 = .ok (.ifCond .ne 10, 3) := by decide +kernel
theorem dX9_ownShare_12 : decode cX9_ownShare 12 = .ok (.aload_n 0, 1) := by decide +kernel
theorem dX9_ownShare_13 : decode cX9_ownShare 13 = .ok (.iconst 1, 1) := by decide +kernel
theorem dX9_ownShare_14 : decode cX9_ownShare 14 = .ok (.invokevirtual 144, 3) := by decide +kernel
theorem dX9_ownShare_17 : decode cX9_ownShare 17 = .ok (.i2f, 1) := by decide +kernel
theorem dX9_ownShare_18 : decode cX9_ownShare 18 = .ok (.freturn, 1) := by decide +kernel
theorem dX9_ownShare_19 : decode cX9_ownShare 19 = .ok (.iconst 0, 1) := by decide +kernel
theorem dX9_ownShare_20 : decode cX9_ownShare 20 = .ok (.istore_n 2, 1) := by decide +kernel
theorem dX9_ownShare_21 : decode cX9_ownShare 21 = .ok (.iconst 0, 1) := by decide +kernel
theorem dX9_ownShare_22 : decode cX9_ownShare 22 = .ok (.istore_n 3, 1) := by decide +kernel
theorem dX9_ownShare_23 : decode cX9_ownShare 23 = .ok (.iload_n 3, 1) := by decide +kernel
theorem dX9_ownShare_24 : decode cX9_ownShare 24 = .ok (.aload_n 0, 1) := by decide +kernel
theorem dX9_ownShare_25 : decode cX9_ownShare 25 = .ok (.getfield 34, 3) := by decide +kernel
theorem dX9_ownShare_28 : decode cX9_ownShare 28 = .ok (.iload_n 1, 1) := by decide +kernel
theorem dX9_ownShare_29 : decode cX9_ownShare 29 = .ok (.iaload, 1) := by decide +kernel
theorem dX9_ownShare_30 : decode cX9_ownShare 30 = .ok (.if_icmp .ge 33, 3) := by decide +kernel
theorem dX9_ownShare_33 : decode cX9_ownShare 33 = .ok (.iload_n 2, 1) := by decide +kernel
theorem dX9_ownShare_34 : decode cX9_ownShare 34 = .ok (.aload_n 0, 1) := by decide +kernel
theorem dX9_ownShare_35 : decode cX9_ownShare 35 = .ok (.getfield 31, 3) := by decide +kernel
theorem dX9_ownShare_38 : decode cX9_ownShare 38 = .ok (.sipush 201, 3) := by decide +kernel
theorem dX9_ownShare_41 : decode cX9_ownShare 41 = .ok (.iload_n 1, 1) := by decide +kernel
theorem dX9_ownShare_42 : decode cX9_ownShare 42 = .ok (.imul, 1) := by decide +kernel
theorem dX9_ownShare_43 : decode cX9_ownShare 43 = .ok (.iload_n 3, 1) := by decide +kernel
theorem dX9_ownShare_44 : decode cX9_ownShare 44 = .ok (.iadd, 1) := by decide +kernel
theorem dX9_ownShare_45 : decode cX9_ownShare 45 = .ok (.iaload, 1) := by decide +kernel
theorem dX9_ownShare_46 : decode cX9_ownShare 46 = .ok (.iload_n 1, 1) := by decide +kernel
theorem dX9_ownShare_47 : decode cX9_ownShare 47 = .ok (.if_icmp .ne 7, 3) := by decide +kernel
theorem dX9_ownShare_50 : decode cX9_ownShare 50 = .ok (.iconst 1, 1) := by decide +kernel
theorem dX9_ownShare_51 : decode cX9_ownShare 51 = .ok (.goto 4, 3) := by decide +kernel
theorem dX9_ownShare_54 : decode cX9_ownShare 54 = .ok (.iconst 0, 1) := by decide +kernel
theorem dX9_ownShare_55 : decode cX9_ownShare 55 = .ok (.iadd, 1) := by decide +kernel
theorem dX9_ownShare_56 : decode cX9_ownShare 56 = .ok (.istore_n 2, 1) := by decide +kernel
theorem dX9_ownShare_57 : decode cX9_ownShare 57 = .ok (.iinc 3 1, 3) := by decide +kernel
theorem dX9_ownShare_60 : decode cX9_ownShare 60 = .ok (.goto (-37), 3) := by decide +kernel
theorem dX9_ownShare_63 : decode cX9_ownShare 63 = .ok (.aload_n 0, 1) := by decide +kernel
theorem dX9_ownShare_64 : decode cX9_ownShare 64 = .ok (.getfield 34, 3) := by decide +kernel
theorem dX9_ownShare_67 : decode cX9_ownShare 67 = .ok (.iload_n 1, 1) := by decide +kernel
theorem dX9_ownShare_68 : decode cX9_ownShare 68 = .ok (.iaload, 1) := by decide +kernel
theorem dX9_ownShare_69 : decode cX9_ownShare 69 = .ok (.ifCond .ne 12, 3) := by decide +kernel
theorem dX9_ownShare_72 : decode cX9_ownShare 72 = .ok (.aload_n 0, 1) := by decide +kernel
theorem dX9_ownShare_73 : decode cX9_ownShare 73 = .ok (.iconst 2, 1) := by decide +kernel
theorem dX9_ownShare_74 : decode cX9_ownShare 74 = .ok (.invokevirtual 144, 3) := by decide +kernel
theorem dX9_ownShare_77 : decode cX9_ownShare 77 = .ok (.i2f, 1) := by decide +kernel
theorem dX9_ownShare_78 : decode cX9_ownShare 78 = .ok (.goto 13, 3) := by decide +kernel
theorem dX9_ownShare_81 : decode cX9_ownShare 81 = .ok (.iload_n 2, 1) := by decide +kernel
theorem dX9_ownShare_82 : decode cX9_ownShare 82 = .ok (.i2f, 1) := by decide +kernel
theorem dX9_ownShare_83 : decode cX9_ownShare 83 = .ok (.aload_n 0, 1) := by decide +kernel
theorem dX9_ownShare_84 : decode cX9_ownShare 84 = .ok (.getfield 34, 3) := by decide +kernel
theorem dX9_ownShare_87 : decode cX9_ownShare 87 = .ok (.iload_n 1, 1) := by decide +kernel
theorem dX9_ownShare_88 : decode cX9_ownShare 88 = .ok (.iaload, 1) := by decide +kernel
theorem dX9_ownShare_89 : decode cX9_ownShare 89 = .ok (.i2f, 1) := by decide +kernel
theorem dX9_ownShare_90 : decode cX9_ownShare 90 = .ok (.fdiv, 1) := by decide +kernel
theorem dX9_ownShare_91 : decode cX9_ownShare 91 = .ok (.freturn, 1) := by decide +kernel
theorem dX9_meanRun_0 : decode cX9_meanRun 0 = .ok (.aload_n 0, 1) := by decide +kernel
theorem dX9_meanRun_1 : decode cX9_meanRun 1 = .ok (.iconst 0, 1) := by decide +kernel
theorem dX9_meanRun_2 : decode cX9_meanRun 2 = .ok (.putfield 92, 3) := by decide +kernel
theorem dX9_meanRun_5 : decode cX9_meanRun 5 = .ok (.aload_n 0, 1) := by decide +kernel
theorem dX9_meanRun_6 : decode cX9_meanRun 6 = .ok (.getfield 169, 3) := by decide +kernel
theorem dX9_meanRun_9 : decode cX9_meanRun 9 = .ok (.ifCond .ne 12, 3) := by decide +kernel
theorem dX9_meanRun_12 : decode cX9_meanRun 12 = .ok (.aload_n 0, 1) := by decide +kernel
theorem dX9_meanRun_13 : decode cX9_meanRun 13 = .ok (.iconst 1, 1) := by decide +kernel
theorem dX9_meanRun_14 : decode cX9_meanRun 14 = .ok (.invokevirtual 144, 3) := by decide +kernel
theorem dX9_meanRun_17 : decode cX9_meanRun 17 = .ok (.i2d, 1) := by decide +kernel
theorem dX9_meanRun_18 : decode cX9_meanRun 18 = .ok (.goto 14, 3) := by decide +kernel
theorem dX9_meanRun_21 : decode cX9_meanRun 21 = .ok (.aload_n 0, 1) := by decide +kernel
theorem dX9_meanRun_22 : decode cX9_meanRun 22 = .ok (.getfield 163, 3) := by decide +kernel
theorem dX9_meanRun_25 : decode cX9_meanRun 25 = .ok (.i2d, 1) := by decide +kernel
theorem dX9_meanRun_26 : decode cX9_meanRun 26 = .ok (.aload_n 0, 1) := by decide +kernel
theorem dX9_meanRun_27 : decode cX9_meanRun 27 = .ok (.getfield 169, 3) := by decide +kernel
theorem dX9_meanRun_30 : decode cX9_meanRun 30 = .ok (.i2d, 1) := by decide +kernel
theorem dX9_meanRun_31 : decode cX9_meanRun 31 = .ok (.ddiv, 1) := by decide +kernel
theorem dX9_meanRun_32 : decode cX9_meanRun 32 = .ok (.dreturn, 1) := by decide +kernel
theorem dX9_textNumber_0 : decode cX9_textNumber 0 = .ok (.aload_n 0, 1) := by decide +kernel
theorem dX9_textNumber_1 : decode cX9_textNumber 1 = .ok (.iconst 0, 1) := by decide +kernel
theorem dX9_textNumber_2 : decode cX9_textNumber 2 = .ok (.putfield 92, 3) := by decide +kernel
theorem dX9_textNumber_5 : decode cX9_textNumber 5 = .ok (.iload_n 1, 1) := by decide +kernel
theorem dX9_textNumber_6 : decode cX9_textNumber 6 = .ok (.invokestatic 140, 3) := by decide +kernel
theorem dX9_textNumber_9 : decode cX9_textNumber 9 = .ok (.ifCond .ne 10, 3) := by decide +kernel
theorem dX9_textNumber_12 : decode cX9_textNumber 12 = .ok (.aload_n 0, 1) := by decide +kernel
theorem dX9_textNumber_13 : decode cX9_textNumber 13 = .ok (.iconst 1, 1) := by decide +kernel
theorem dX9_textNumber_14 : decode cX9_textNumber 14 = .ok (.invokevirtual 144, 3) := by decide +kernel
theorem dX9_textNumber_17 : decode cX9_textNumber 17 = .ok (.i2l, 1) := by decide +kernel
theorem dX9_textNumber_18 : decode cX9_textNumber 18 = .ok (.lreturn, 1) := by decide +kernel
theorem dX9_textNumber_19 : decode cX9_textNumber 19 = .ok (.ldc2_w 219, 3) := by decide +kernel
theorem dX9_textNumber_22 : decode cX9_textNumber 22 = .ok (.lstore_n 2, 1) := by decide +kernel
theorem dX9_textNumber_23 : decode cX9_textNumber 23 = .ok (.iconst 0, 1) := by decide +kernel
theorem dX9_textNumber_24 : decode cX9_textNumber 24 = .ok (.istore 4, 2) := by decide +kernel
theorem dX9_textNumber_26 : decode cX9_textNumber 26 = .ok (.iload 4, 2) := by decide +kernel
theorem dX9_textNumber_28 : decode cX9_textNumber 28 = .ok (.aload_n 0, 1) := by decide +kernel
theorem dX9_textNumber_29 : decode cX9_textNumber 29 = .ok (.getfield 34, 3) := by decide +kernel
theorem dX9_textNumber_32 : decode cX9_textNumber 32 = .ok (.iload_n 1, 1) := by decide +kernel
theorem dX9_textNumber_33 : decode cX9_textNumber 33 = .ok (.iaload, 1) := by decide +kernel
theorem dX9_textNumber_34 : decode cX9_textNumber 34 = .ok (.if_icmp .ge 24, 3) := by decide +kernel
theorem dX9_textNumber_37 : decode cX9_textNumber 37 = .ok (.ldc2_w 221, 3) := by decide +kernel
theorem dX9_textNumber_40 : decode cX9_textNumber 40 = .ok (.lload_n 2, 1) := by decide +kernel
theorem dX9_textNumber_41 : decode cX9_textNumber 41 = .ok (.lmul, 1) := by decide +kernel
theorem dX9_textNumber_42 : decode cX9_textNumber 42 = .ok (.aload_n 0, 1) := by decide +kernel
theorem dX9_textNumber_43 : decode cX9_textNumber 43 = .ok (.iload_n 1, 1) := by decide +kernel
theorem dX9_textNumber_44 : decode cX9_textNumber 44 = .ok (.iload 4, 2) := by decide +kernel
theorem dX9_textNumber_46 : decode cX9_textNumber 46 = .ok (.invokevirtual 157, 3) := by decide +kernel
theorem dX9_textNumber_49 : decode cX9_textNumber 49 = .ok (.i2l, 1) := by decide +kernel
theorem dX9_textNumber_50 : decode cX9_textNumber 50 = .ok (.ladd, 1) := by decide +kernel
theorem dX9_textNumber_51 : decode cX9_textNumber 51 = .ok (.lstore_n 2, 1) := by decide +kernel
theorem dX9_textNumber_52 : decode cX9_textNumber 52 = .ok (.iinc 4 1, 3) := by decide +kernel
theorem dX9_textNumber_55 : decode cX9_textNumber 55 = .ok (.goto (-29), 3) := by decide +kernel
theorem dX9_textNumber_58 : decode cX9_textNumber 58 = .ok (.lload_n 2, 1) := by decide +kernel
theorem dX9_textNumber_59 : decode cX9_textNumber 59 = .ok (.lreturn, 1) := by decide +kernel
end
section
theorem dL_insert_0 : decode cL_insert 0 = .ok (.aload 4, 2) := by decide +kernel
theorem dL_insert_2 : decode cL_insert 2 = .ok (.iconst 0, 1) := by decide +kernel
theorem dL_insert_3 : decode cL_insert 3 = .ok (.aload_n 0, 1) := by decide +kernel
theorem dL_insert_4 : decode cL_insert 4 = .ok (.iload_n 1, 1) := by decide +kernel
theorem dL_insert_5 : decode cL_insert 5 = .ok (.iload_n 2, 1) := by decide +kernel
theorem dL_insert_6 : decode cL_insert 6 = .ok (.iload_n 3, 1) := by decide +kernel
theorem dL_insert_7 : decode cL_insert 7 = .ok (.invokevirtual 7, 3) := by decide +kernel
theorem dL_insert_10 : decode cL_insert 10 = .ok (.i2l, 1) := by decide +kernel
theorem dL_insert_11 : decode cL_insert 11 = .ok (.lastore, 1) := by decide +kernel
theorem dL_insert_12 : decode cL_insert 12 = .ok (.goto 15, 3) := by decide +kernel
theorem dL_insert_15 : decode cL_insert 15 = .ok (.astore 5, 2) := by decide +kernel
theorem dL_insert_17 : decode cL_insert 17 = .ok (.iconst 1, 1) := by decide +kernel
theorem dL_insert_18 : decode cL_insert 18 = .ok (.ireturn, 1) := by decide +kernel
theorem dL_insert_19 : decode cL_insert 19 = .ok (.astore 5, 2) := by decide +kernel
theorem dL_insert_21 : decode cL_insert 21 = .ok (.iconst 2, 1) := by decide +kernel
theorem dL_insert_22 : decode cL_insert 22 = .ok (.ireturn, 1) := by decide +kernel
theorem dL_insert_23 : decode cL_insert 23 = .ok (.astore 5, 2) := by decide +kernel
theorem dL_insert_25 : decode cL_insert 25 = .ok (.iconst 3, 1) := by decide +kernel
theorem dL_insert_26 : decode cL_insert 26 = .ok (.ireturn, 1) := by decide +kernel
theorem dL_insert_27 : decode cL_insert 27 = .ok (.iconst 0, 1) := by decide +kernel
theorem dL_insert_28 : decode cL_insert 28 = .ok (.ireturn, 1) := by decide +kernel
theorem dL_delete_0 : decode cL_delete 0 = .ok (.aload_n 3, 1) := by decide +kernel
theorem dL_delete_1 : decode cL_delete 1 = .ok (.iconst 0, 1) := by decide +kernel
theorem dL_delete_2 : decode cL_delete 2 = .ok (.aload_n 0, 1) := by decide +kernel
theorem dL_delete_3 : decode cL_delete 3 = .ok (.iload_n 1, 1) := by decide +kernel
theorem dL_delete_4 : decode cL_delete 4 = .ok (.iload_n 2, 1) := by decide +kernel
theorem dL_delete_5 : decode cL_delete 5 = .ok (.invokevirtual 19, 3) := by decide +kernel
theorem dL_delete_8 : decode cL_delete 8 = .ok (.i2l, 1) := by decide +kernel
theorem dL_delete_9 : decode cL_delete 9 = .ok (.lastore, 1) := by decide +kernel
theorem dL_delete_10 : decode cL_delete 10 = .ok (.goto 15, 3) := by decide +kernel
theorem dL_delete_13 : decode cL_delete 13 = .ok (.astore 4, 2) := by decide +kernel
theorem dL_delete_15 : decode cL_delete 15 = .ok (.iconst 1, 1) := by decide +kernel
theorem dL_delete_16 : decode cL_delete 16 = .ok (.ireturn, 1) := by decide +kernel
theorem dL_delete_17 : decode cL_delete 17 = .ok (.astore 4, 2) := by decide +kernel
theorem dL_delete_19 : decode cL_delete 19 = .ok (.iconst 2, 1) := by decide +kernel
theorem dL_delete_20 : decode cL_delete 20 = .ok (.ireturn, 1) := by decide +kernel
theorem dL_delete_21 : decode cL_delete 21 = .ok (.astore 4, 2) := by decide +kernel
theorem dL_delete_23 : decode cL_delete 23 = .ok (.iconst 3, 1) := by decide +kernel
theorem dL_delete_24 : decode cL_delete 24 = .ok (.ireturn, 1) := by decide +kernel
theorem dL_delete_25 : decode cL_delete 25 = .ok (.iconst 0, 1) := by decide +kernel
theorem dL_delete_26 : decode cL_delete 26 = .ok (.ireturn, 1) := by decide +kernel
theorem dL_type_0 : decode cL_type 0 = .ok (.aload_n 3, 1) := by decide +kernel
theorem dL_type_1 : decode cL_type 1 = .ok (.iconst 0, 1) := by decide +kernel
theorem dL_type_2 : decode cL_type 2 = .ok (.aload_n 0, 1) := by decide +kernel
theorem dL_type_3 : decode cL_type 3 = .ok (.iload_n 1, 1) := by decide +kernel
theorem dL_type_4 : decode cL_type 4 = .ok (.iload_n 2, 1) := by decide +kernel
theorem dL_type_5 : decode cL_type 5 = .ok (.invokevirtual 23, 3) := by decide +kernel
theorem dL_type_8 : decode cL_type 8 = .ok (.i2l, 1) := by decide +kernel
theorem dL_type_9 : decode cL_type 9 = .ok (.lastore, 1) := by decide +kernel
theorem dL_type_10 : decode cL_type 10 = .ok (.goto 15, 3) := by decide +kernel
theorem dL_type_13 : decode cL_type 13 = .ok (.astore 4, 2) := by decide +kernel
theorem dL_type_15 : decode cL_type 15 = .ok (.iconst 1, 1) := by decide +kernel
theorem dL_type_16 : decode cL_type 16 = .ok (.ireturn, 1) := by decide +kernel
theorem dL_type_17 : decode cL_type 17 = .ok (.astore 4, 2) := by decide +kernel
theorem dL_type_19 : decode cL_type 19 = .ok (.iconst 2, 1) := by decide +kernel
theorem dL_type_20 : decode cL_type 20 = .ok (.ireturn, 1) := by decide +kernel
theorem dL_type_21 : decode cL_type 21 = .ok (.astore 4, 2) := by decide +kernel
theorem dL_type_23 : decode cL_type 23 = .ok (.iconst 3, 1) := by decide +kernel
theorem dL_type_24 : decode cL_type 24 = .ok (.ireturn, 1) := by decide +kernel
theorem dL_type_25 : decode cL_type 25 = .ok (.iconst 0, 1) := by decide +kernel
theorem dL_type_26 : decode cL_type 26 = .ok (.ireturn, 1) := by decide +kernel
theorem dL_erase_0 : decode cL_erase 0 = .ok (.aload_n 2, 1) := by decide +kernel
theorem dL_erase_1 : decode cL_erase 1 = .ok (.iconst 0, 1) := by decide +kernel
theorem dL_erase_2 : decode cL_erase 2 = .ok (.aload_n 0, 1) := by decide +kernel
theorem dL_erase_3 : decode cL_erase 3 = .ok (.iload_n 1, 1) := by decide +kernel
theorem dL_erase_4 : decode cL_erase 4 = .ok (.invokevirtual 27, 3) := by decide +kernel
theorem dL_erase_7 : decode cL_erase 7 = .ok (.i2l, 1) := by decide +kernel
theorem dL_erase_8 : decode cL_erase 8 = .ok (.lastore, 1) := by decide +kernel
theorem dL_erase_9 : decode cL_erase 9 = .ok (.goto 12, 3) := by decide +kernel
theorem dL_erase_12 : decode cL_erase 12 = .ok (.astore_n 3, 1) := by decide +kernel
theorem dL_erase_13 : decode cL_erase 13 = .ok (.iconst 1, 1) := by decide +kernel
theorem dL_erase_14 : decode cL_erase 14 = .ok (.ireturn, 1) := by decide +kernel
theorem dL_erase_15 : decode cL_erase 15 = .ok (.astore_n 3, 1) := by decide +kernel
theorem dL_erase_16 : decode cL_erase 16 = .ok (.iconst 2, 1) := by decide +kernel
theorem dL_erase_17 : decode cL_erase 17 = .ok (.ireturn, 1) := by decide +kernel
theorem dL_erase_18 : decode cL_erase 18 = .ok (.astore_n 3, 1) := by decide +kernel
theorem dL_erase_19 : decode cL_erase 19 = .ok (.iconst 3, 1) := by decide +kernel
theorem dL_erase_20 : decode cL_erase 20 = .ok (.ireturn, 1) := by decide +kernel
theorem dL_erase_21 : decode cL_erase 21 = .ok (.iconst 0, 1) := by decide +kernel
theorem dL_erase_22 : decode cL_erase 22 = .ok (.ireturn, 1) := by decide +kernel
theorem dL_moveCursor_0 : decode cL_moveCursor 0 = .ok (.aload_n 3, 1) := by decide +kernel
theorem dL_moveCursor_1 : decode cL_moveCursor 1 = .ok (.iconst 0, 1) := by decide +kernel
theorem dL_moveCursor_2 : decode cL_moveCursor 2 = .ok (.aload_n 0, 1) := by decide +kernel
theorem dL_moveCursor_3 : decode cL_moveCursor 3 = .ok (.iload_n 1, 1) := by decide +kernel
theorem dL_moveCursor_4 : decode cL_moveCursor 4 = .ok (.iload_n 2, 1) := by decide +kernel
theorem dL_moveCursor_5 : decode cL_moveCursor 5 = .ok (.invokevirtual 33, 3) := by decide +kernel
theorem dL_moveCursor_8 : decode cL_moveCursor 8 = .ok (.i2l, 1) := by decide +kernel
theorem dL_moveCursor_9 : decode cL_moveCursor 9 = .ok (.lastore, 1) := by decide +kernel
theorem dL_moveCursor_10 : decode cL_moveCursor 10 = .ok (.goto 11, 3) := by decide +kernel
theorem dL_moveCursor_13 : decode cL_moveCursor 13 = .ok (.astore 4, 2) := by decide +kernel
theorem dL_moveCursor_15 : decode cL_moveCursor 15 = .ok (.iconst 1, 1) := by decide +kernel
theorem dL_moveCursor_16 : decode cL_moveCursor 16 = .ok (.ireturn, 1) := by decide +kernel
theorem dL_moveCursor_17 : decode cL_moveCursor 17 = .ok (.astore 4, 2) := by decide +kernel
theorem dL_moveCursor_19 : decode cL_moveCursor 19 = .ok (.iconst 2, 1) := by decide +kernel
theorem dL_moveCursor_20 : decode cL_moveCursor 20 = .ok (.ireturn, 1) := by decide +kernel
theorem dL_moveCursor_21 : decode cL_moveCursor 21 = .ok (.iconst 0, 1) := by decide +kernel
theorem dL_moveCursor_22 : decode cL_moveCursor 22 = .ok (.ireturn, 1) := by decide +kernel
theorem dL_undo_0 : decode cL_undo 0 = .ok (.aload_n 2, 1) := by decide +kernel
theorem dL_undo_1 : decode cL_undo 1 = .ok (.iconst 0, 1) := by decide +kernel
theorem dL_undo_2 : decode cL_undo 2 = .ok (.aload_n 0, 1) := by decide +kernel
theorem dL_undo_3 : decode cL_undo 3 = .ok (.iload_n 1, 1) := by decide +kernel
theorem dL_undo_4 : decode cL_undo 4 = .ok (.invokevirtual 37, 3) := by decide +kernel
theorem dL_undo_7 : decode cL_undo 7 = .ok (.ifCond .eq 7, 3) := by decide +kernel
theorem dL_undo_10 : decode cL_undo 10 = .ok (.lconst 1, 1) := by decide +kernel
theorem dL_undo_11 : decode cL_undo 11 = .ok (.goto 4, 3) := by decide +kernel
theorem dL_undo_14 : decode cL_undo 14 = .ok (.lconst 0, 1) := by decide +kernel
theorem dL_undo_15 : decode cL_undo 15 = .ok (.lastore, 1) := by decide +kernel
theorem dL_undo_16 : decode cL_undo 16 = .ok (.goto 12, 3) := by decide +kernel
theorem dL_undo_19 : decode cL_undo 19 = .ok (.astore_n 3, 1) := by decide +kernel
theorem dL_undo_20 : decode cL_undo 20 = .ok (.iconst 1, 1) := by decide +kernel
theorem dL_undo_21 : decode cL_undo 21 = .ok (.ireturn, 1) := by decide +kernel
theorem dL_undo_22 : decode cL_undo 22 = .ok (.astore_n 3, 1) := by decide +kernel
theorem dL_undo_23 : decode cL_undo 23 = .ok (.iconst 2, 1) := by decide +kernel
theorem dL_undo_24 : decode cL_undo 24 = .ok (.ireturn, 1) := by decide +kernel
theorem dL_undo_25 : decode cL_undo 25 = .ok (.astore_n 3, 1) := by decide +kernel
theorem dL_undo_26 : decode cL_undo 26 = .ok (.iconst 3, 1) := by decide +kernel
theorem dL_undo_27 : decode cL_undo 27 = .ok (.ireturn, 1) := by decide +kernel
theorem dL_undo_28 : decode cL_undo 28 = .ok (.iconst 0, 1) := by decide +kernel
theorem dL_undo_29 : decode cL_undo 29 = .ok (.ireturn, 1) := by decide +kernel
theorem dL_deliverUp_0 : decode cL_deliverUp 0 = .ok (.aload_n 2, 1) := by decide +kernel
theorem dL_deliverUp_1 : decode cL_deliverUp 1 = .ok (.iconst 0, 1) := by decide +kernel
theorem dL_deliverUp_2 : decode cL_deliverUp 2 = .ok (.aload_n 0, 1) := by decide +kernel
theorem dL_deliverUp_3 : decode cL_deliverUp 3 = .ok (.iload_n 1, 1) := by decide +kernel
theorem dL_deliverUp_4 : decode cL_deliverUp 4 = .ok (.invokevirtual 41, 3) := by decide +kernel
theorem dL_deliverUp_7 : decode cL_deliverUp 7 = .ok (.i2l, 1) := by decide +kernel
theorem dL_deliverUp_8 : decode cL_deliverUp 8 = .ok (.lastore, 1) := by decide +kernel
theorem dL_deliverUp_9 : decode cL_deliverUp 9 = .ok (.goto 9, 3) := by decide +kernel
theorem dL_deliverUp_12 : decode cL_deliverUp 12 = .ok (.astore_n 3, 1) := by decide +kernel
theorem dL_deliverUp_13 : decode cL_deliverUp 13 = .ok (.iconst 1, 1) := by decide +kernel
theorem dL_deliverUp_14 : decode cL_deliverUp 14 = .ok (.ireturn, 1) := by decide +kernel
theorem dL_deliverUp_15 : decode cL_deliverUp 15 = .ok (.astore_n 3, 1) := by decide +kernel
theorem dL_deliverUp_16 : decode cL_deliverUp 16 = .ok (.iconst 2, 1) := by decide +kernel
theorem dL_deliverUp_17 : decode cL_deliverUp 17 = .ok (.ireturn, 1) := by decide +kernel
theorem dL_deliverUp_18 : decode cL_deliverUp 18 = .ok (.iconst 0, 1) := by decide +kernel
theorem dL_deliverUp_19 : decode cL_deliverUp 19 = .ok (.ireturn, 1) := by decide +kernel
theorem dL_deliverDown_0 : decode cL_deliverDown 0 = .ok (.aload_n 2, 1) := by decide +kernel
theorem dL_deliverDown_1 : decode cL_deliverDown 1 = .ok (.iconst 0, 1) := by decide +kernel
theorem dL_deliverDown_2 : decode cL_deliverDown 2 = .ok (.aload_n 0, 1) := by decide +kernel
theorem dL_deliverDown_3 : decode cL_deliverDown 3 = .ok (.iload_n 1, 1) := by decide +kernel
theorem dL_deliverDown_4 : decode cL_deliverDown 4 = .ok (.invokevirtual 45, 3) := by decide +kernel
theorem dL_deliverDown_7 : decode cL_deliverDown 7 = .ok (.i2l, 1) := by decide +kernel
theorem dL_deliverDown_8 : decode cL_deliverDown 8 = .ok (.lastore, 1) := by decide +kernel
theorem dL_deliverDown_9 : decode cL_deliverDown 9 = .ok (.goto 9, 3) := by decide +kernel
theorem dL_deliverDown_12 : decode cL_deliverDown 12 = .ok (.astore_n 3, 1) := by decide +kernel
theorem dL_deliverDown_13 : decode cL_deliverDown 13 = .ok (.iconst 1, 1) := by decide +kernel
theorem dL_deliverDown_14 : decode cL_deliverDown 14 = .ok (.ireturn, 1) := by decide +kernel
theorem dL_deliverDown_15 : decode cL_deliverDown 15 = .ok (.astore_n 3, 1) := by decide +kernel
theorem dL_deliverDown_16 : decode cL_deliverDown 16 = .ok (.iconst 2, 1) := by decide +kernel
theorem dL_deliverDown_17 : decode cL_deliverDown 17 = .ok (.ireturn, 1) := by decide +kernel
theorem dL_deliverDown_18 : decode cL_deliverDown 18 = .ok (.iconst 0, 1) := by decide +kernel
theorem dL_deliverDown_19 : decode cL_deliverDown 19 = .ok (.ireturn, 1) := by decide +kernel
theorem dL_length_0 : decode cL_length 0 = .ok (.aload_n 2, 1) := by decide +kernel
theorem dL_length_1 : decode cL_length 1 = .ok (.iconst 0, 1) := by decide +kernel
theorem dL_length_2 : decode cL_length 2 = .ok (.aload_n 0, 1) := by decide +kernel
theorem dL_length_3 : decode cL_length 3 = .ok (.iload_n 1, 1) := by decide +kernel
theorem dL_length_4 : decode cL_length 4 = .ok (.invokevirtual 48, 3) := by decide +kernel
theorem dL_length_7 : decode cL_length 7 = .ok (.i2l, 1) := by decide +kernel
theorem dL_length_8 : decode cL_length 8 = .ok (.lastore, 1) := by decide +kernel
theorem dL_length_9 : decode cL_length 9 = .ok (.goto 6, 3) := by decide +kernel
theorem dL_length_12 : decode cL_length 12 = .ok (.astore_n 3, 1) := by decide +kernel
theorem dL_length_13 : decode cL_length 13 = .ok (.iconst 1, 1) := by decide +kernel
theorem dL_length_14 : decode cL_length 14 = .ok (.ireturn, 1) := by decide +kernel
theorem dL_length_15 : decode cL_length 15 = .ok (.iconst 0, 1) := by decide +kernel
theorem dL_length_16 : decode cL_length 16 = .ok (.ireturn, 1) := by decide +kernel
theorem dL_charAt_0 : decode cL_charAt 0 = .ok (.aload_n 3, 1) := by decide +kernel
theorem dL_charAt_1 : decode cL_charAt 1 = .ok (.iconst 0, 1) := by decide +kernel
theorem dL_charAt_2 : decode cL_charAt 2 = .ok (.aload_n 0, 1) := by decide +kernel
theorem dL_charAt_3 : decode cL_charAt 3 = .ok (.iload_n 1, 1) := by decide +kernel
theorem dL_charAt_4 : decode cL_charAt 4 = .ok (.iload_n 2, 1) := by decide +kernel
theorem dL_charAt_5 : decode cL_charAt 5 = .ok (.invokevirtual 51, 3) := by decide +kernel
theorem dL_charAt_8 : decode cL_charAt 8 = .ok (.i2l, 1) := by decide +kernel
theorem dL_charAt_9 : decode cL_charAt 9 = .ok (.lastore, 1) := by decide +kernel
theorem dL_charAt_10 : decode cL_charAt 10 = .ok (.goto 11, 3) := by decide +kernel
theorem dL_charAt_13 : decode cL_charAt 13 = .ok (.astore 4, 2) := by decide +kernel
theorem dL_charAt_15 : decode cL_charAt 15 = .ok (.iconst 1, 1) := by decide +kernel
theorem dL_charAt_16 : decode cL_charAt 16 = .ok (.ireturn, 1) := by decide +kernel
theorem dL_charAt_17 : decode cL_charAt 17 = .ok (.astore 4, 2) := by decide +kernel
theorem dL_charAt_19 : decode cL_charAt 19 = .ok (.iconst 2, 1) := by decide +kernel
theorem dL_charAt_20 : decode cL_charAt 20 = .ok (.ireturn, 1) := by decide +kernel
theorem dL_charAt_21 : decode cL_charAt 21 = .ok (.iconst 0, 1) := by decide +kernel
theorem dL_charAt_22 : decode cL_charAt 22 = .ok (.ireturn, 1) := by decide +kernel
theorem dL_ownerAt_0 : decode cL_ownerAt 0 = .ok (.aload_n 3, 1) := by decide +kernel
theorem dL_ownerAt_1 : decode cL_ownerAt 1 = .ok (.iconst 0, 1) := by decide +kernel
theorem dL_ownerAt_2 : decode cL_ownerAt 2 = .ok (.aload_n 0, 1) := by decide +kernel
theorem dL_ownerAt_3 : decode cL_ownerAt 3 = .ok (.iload_n 1, 1) := by decide +kernel
theorem dL_ownerAt_4 : decode cL_ownerAt 4 = .ok (.iload_n 2, 1) := by decide +kernel
theorem dL_ownerAt_5 : decode cL_ownerAt 5 = .ok (.invokevirtual 54, 3) := by decide +kernel
theorem dL_ownerAt_8 : decode cL_ownerAt 8 = .ok (.i2l, 1) := by decide +kernel
theorem dL_ownerAt_9 : decode cL_ownerAt 9 = .ok (.lastore, 1) := by decide +kernel
theorem dL_ownerAt_10 : decode cL_ownerAt 10 = .ok (.goto 11, 3) := by decide +kernel
theorem dL_ownerAt_13 : decode cL_ownerAt 13 = .ok (.astore 4, 2) := by decide +kernel
theorem dL_ownerAt_15 : decode cL_ownerAt 15 = .ok (.iconst 1, 1) := by decide +kernel
theorem dL_ownerAt_16 : decode cL_ownerAt 16 = .ok (.ireturn, 1) := by decide +kernel
theorem dL_ownerAt_17 : decode cL_ownerAt 17 = .ok (.astore 4, 2) := by decide +kernel
theorem dL_ownerAt_19 : decode cL_ownerAt 19 = .ok (.iconst 2, 1) := by decide +kernel
theorem dL_ownerAt_20 : decode cL_ownerAt 20 = .ok (.ireturn, 1) := by decide +kernel
theorem dL_ownerAt_21 : decode cL_ownerAt 21 = .ok (.iconst 0, 1) := by decide +kernel
theorem dL_ownerAt_22 : decode cL_ownerAt 22 = .ok (.ireturn, 1) := by decide +kernel
theorem dL_lengthByHistory_0 : decode cL_lengthByHistory 0 = .ok (.aload_n 2, 1) := by decide +kernel
theorem dL_lengthByHistory_1 : decode cL_lengthByHistory 1 = .ok (.iconst 0, 1) := by decide +kernel
theorem dL_lengthByHistory_2 : decode cL_lengthByHistory 2 = .ok (.aload_n 0, 1) := by decide +kernel
theorem dL_lengthByHistory_3 : decode cL_lengthByHistory 3 = .ok (.iload_n 1, 1) := by decide +kernel
theorem dL_lengthByHistory_4 : decode cL_lengthByHistory 4 = .ok (.invokevirtual 57, 3) := by decide +kernel
theorem dL_lengthByHistory_7 : decode cL_lengthByHistory 7 = .ok (.i2l, 1) := by decide +kernel
theorem dL_lengthByHistory_8 : decode cL_lengthByHistory 8 = .ok (.lastore, 1) := by decide +kernel
theorem dL_lengthByHistory_9 : decode cL_lengthByHistory 9 = .ok (.goto 6, 3) := by decide +kernel
theorem dL_lengthByHistory_12 : decode cL_lengthByHistory 12 = .ok (.astore_n 3, 1) := by decide +kernel
theorem dL_lengthByHistory_13 : decode cL_lengthByHistory 13 = .ok (.iconst 1, 1) := by decide +kernel
theorem dL_lengthByHistory_14 : decode cL_lengthByHistory 14 = .ok (.ireturn, 1) := by decide +kernel
theorem dL_lengthByHistory_15 : decode cL_lengthByHistory 15 = .ok (.iconst 0, 1) := by decide +kernel
theorem dL_lengthByHistory_16 : decode cL_lengthByHistory 16 = .ok (.ireturn, 1) := by decide +kernel
theorem dL_charByHistory_0 : decode cL_charByHistory 0 = .ok (.aload_n 3, 1) := by decide +kernel
theorem dL_charByHistory_1 : decode cL_charByHistory 1 = .ok (.iconst 0, 1) := by decide +kernel
theorem dL_charByHistory_2 : decode cL_charByHistory 2 = .ok (.aload_n 0, 1) := by decide +kernel
theorem dL_charByHistory_3 : decode cL_charByHistory 3 = .ok (.iload_n 1, 1) := by decide +kernel
theorem dL_charByHistory_4 : decode cL_charByHistory 4 = .ok (.iload_n 2, 1) := by decide +kernel
theorem dL_charByHistory_5 : decode cL_charByHistory 5 = .ok (.invokevirtual 60, 3) := by decide +kernel
theorem dL_charByHistory_8 : decode cL_charByHistory 8 = .ok (.i2l, 1) := by decide +kernel
theorem dL_charByHistory_9 : decode cL_charByHistory 9 = .ok (.lastore, 1) := by decide +kernel
theorem dL_charByHistory_10 : decode cL_charByHistory 10 = .ok (.goto 11, 3) := by decide +kernel
theorem dL_charByHistory_13 : decode cL_charByHistory 13 = .ok (.astore 4, 2) := by decide +kernel
theorem dL_charByHistory_15 : decode cL_charByHistory 15 = .ok (.iconst 1, 1) := by decide +kernel
theorem dL_charByHistory_16 : decode cL_charByHistory 16 = .ok (.ireturn, 1) := by decide +kernel
theorem dL_charByHistory_17 : decode cL_charByHistory 17 = .ok (.astore 4, 2) := by decide +kernel
theorem dL_charByHistory_19 : decode cL_charByHistory 19 = .ok (.iconst 2, 1) := by decide +kernel
theorem dL_charByHistory_20 : decode cL_charByHistory 20 = .ok (.ireturn, 1) := by decide +kernel
theorem dL_charByHistory_21 : decode cL_charByHistory 21 = .ok (.iconst 0, 1) := by decide +kernel
theorem dL_charByHistory_22 : decode cL_charByHistory 22 = .ok (.ireturn, 1) := by decide +kernel
theorem dL_centreChar_0 : decode cL_centreChar 0 = .ok (.aload_n 2, 1) := by decide +kernel
theorem dL_centreChar_1 : decode cL_centreChar 1 = .ok (.iconst 0, 1) := by decide +kernel
theorem dL_centreChar_2 : decode cL_centreChar 2 = .ok (.aload_n 0, 1) := by decide +kernel
theorem dL_centreChar_3 : decode cL_centreChar 3 = .ok (.iload_n 1, 1) := by decide +kernel
theorem dL_centreChar_4 : decode cL_centreChar 4 = .ok (.invokevirtual 63, 3) := by decide +kernel
theorem dL_centreChar_7 : decode cL_centreChar 7 = .ok (.i2l, 1) := by decide +kernel
theorem dL_centreChar_8 : decode cL_centreChar 8 = .ok (.lastore, 1) := by decide +kernel
theorem dL_centreChar_9 : decode cL_centreChar 9 = .ok (.goto 6, 3) := by decide +kernel
theorem dL_centreChar_12 : decode cL_centreChar 12 = .ok (.astore_n 3, 1) := by decide +kernel
theorem dL_centreChar_13 : decode cL_centreChar 13 = .ok (.iconst 1, 1) := by decide +kernel
theorem dL_centreChar_14 : decode cL_centreChar 14 = .ok (.ireturn, 1) := by decide +kernel
theorem dL_centreChar_15 : decode cL_centreChar 15 = .ok (.iconst 0, 1) := by decide +kernel
theorem dL_centreChar_16 : decode cL_centreChar 16 = .ok (.ireturn, 1) := by decide +kernel
theorem dL_cursor_0 : decode cL_cursor 0 = .ok (.aload_n 2, 1) := by decide +kernel
theorem dL_cursor_1 : decode cL_cursor 1 = .ok (.iconst 0, 1) := by decide +kernel
theorem dL_cursor_2 : decode cL_cursor 2 = .ok (.aload_n 0, 1) := by decide +kernel
theorem dL_cursor_3 : decode cL_cursor 3 = .ok (.iload_n 1, 1) := by decide +kernel
theorem dL_cursor_4 : decode cL_cursor 4 = .ok (.invokevirtual 66, 3) := by decide +kernel
theorem dL_cursor_7 : decode cL_cursor 7 = .ok (.i2l, 1) := by decide +kernel
theorem dL_cursor_8 : decode cL_cursor 8 = .ok (.lastore, 1) := by decide +kernel
theorem dL_cursor_9 : decode cL_cursor 9 = .ok (.goto 6, 3) := by decide +kernel
theorem dL_cursor_12 : decode cL_cursor 12 = .ok (.astore_n 3, 1) := by decide +kernel
theorem dL_cursor_13 : decode cL_cursor 13 = .ok (.iconst 1, 1) := by decide +kernel
theorem dL_cursor_14 : decode cL_cursor 14 = .ok (.ireturn, 1) := by decide +kernel
theorem dL_cursor_15 : decode cL_cursor 15 = .ok (.iconst 0, 1) := by decide +kernel
theorem dL_cursor_16 : decode cL_cursor 16 = .ok (.ireturn, 1) := by decide +kernel
theorem dL_mark_0 : decode cL_mark 0 = .ok (.aload_n 2, 1) := by decide +kernel
theorem dL_mark_1 : decode cL_mark 1 = .ok (.iconst 0, 1) := by decide +kernel
theorem dL_mark_2 : decode cL_mark 2 = .ok (.aload_n 0, 1) := by decide +kernel
theorem dL_mark_3 : decode cL_mark 3 = .ok (.iload_n 1, 1) := by decide +kernel
theorem dL_mark_4 : decode cL_mark 4 = .ok (.invokevirtual 69, 3) := by decide +kernel
theorem dL_mark_7 : decode cL_mark 7 = .ok (.i2l, 1) := by decide +kernel
theorem dL_mark_8 : decode cL_mark 8 = .ok (.lastore, 1) := by decide +kernel
theorem dL_mark_9 : decode cL_mark 9 = .ok (.goto 6, 3) := by decide +kernel
theorem dL_mark_12 : decode cL_mark 12 = .ok (.astore_n 3, 1) := by decide +kernel
theorem dL_mark_13 : decode cL_mark 13 = .ok (.iconst 1, 1) := by decide +kernel
theorem dL_mark_14 : decode cL_mark 14 = .ok (.ireturn, 1) := by decide +kernel
theorem dL_mark_15 : decode cL_mark 15 = .ok (.iconst 0, 1) := by decide +kernel
theorem dL_mark_16 : decode cL_mark 16 = .ok (.ireturn, 1) := by decide +kernel
theorem dL_revision_0 : decode cL_revision 0 = .ok (.aload_n 2, 1) := by decide +kernel
theorem dL_revision_1 : decode cL_revision 1 = .ok (.iconst 0, 1) := by decide +kernel
theorem dL_revision_2 : decode cL_revision 2 = .ok (.aload_n 0, 1) := by decide +kernel
theorem dL_revision_3 : decode cL_revision 3 = .ok (.iload_n 1, 1) := by decide +kernel
theorem dL_revision_4 : decode cL_revision 4 = .ok (.invokevirtual 72, 3) := by decide +kernel
theorem dL_revision_7 : decode cL_revision 7 = .ok (.i2l, 1) := by decide +kernel
theorem dL_revision_8 : decode cL_revision 8 = .ok (.lastore, 1) := by decide +kernel
theorem dL_revision_9 : decode cL_revision 9 = .ok (.goto 6, 3) := by decide +kernel
theorem dL_revision_12 : decode cL_revision 12 = .ok (.astore_n 3, 1) := by decide +kernel
theorem dL_revision_13 : decode cL_revision 13 = .ok (.iconst 1, 1) := by decide +kernel
theorem dL_revision_14 : decode cL_revision 14 = .ok (.ireturn, 1) := by decide +kernel
theorem dL_revision_15 : decode cL_revision 15 = .ok (.iconst 0, 1) := by decide +kernel
theorem dL_revision_16 : decode cL_revision 16 = .ok (.ireturn, 1) := by decide +kernel
theorem dL_sent_0 : decode cL_sent 0 = .ok (.aload_n 2, 1) := by decide +kernel
theorem dL_sent_1 : decode cL_sent 1 = .ok (.iconst 0, 1) := by decide +kernel
theorem dL_sent_2 : decode cL_sent 2 = .ok (.aload_n 0, 1) := by decide +kernel
theorem dL_sent_3 : decode cL_sent 3 = .ok (.iload_n 1, 1) := by decide +kernel
theorem dL_sent_4 : decode cL_sent 4 = .ok (.invokevirtual 75, 3) := by decide +kernel
theorem dL_sent_7 : decode cL_sent 7 = .ok (.i2l, 1) := by decide +kernel
theorem dL_sent_8 : decode cL_sent 8 = .ok (.lastore, 1) := by decide +kernel
theorem dL_sent_9 : decode cL_sent 9 = .ok (.goto 6, 3) := by decide +kernel
theorem dL_sent_12 : decode cL_sent 12 = .ok (.astore_n 3, 1) := by decide +kernel
theorem dL_sent_13 : decode cL_sent 13 = .ok (.iconst 1, 1) := by decide +kernel
theorem dL_sent_14 : decode cL_sent 14 = .ok (.ireturn, 1) := by decide +kernel
theorem dL_sent_15 : decode cL_sent 15 = .ok (.iconst 0, 1) := by decide +kernel
theorem dL_sent_16 : decode cL_sent 16 = .ok (.ireturn, 1) := by decide +kernel
theorem dL_waiting_0 : decode cL_waiting 0 = .ok (.aload_n 2, 1) := by decide +kernel
theorem dL_waiting_1 : decode cL_waiting 1 = .ok (.iconst 0, 1) := by decide +kernel
theorem dL_waiting_2 : decode cL_waiting 2 = .ok (.aload_n 0, 1) := by decide +kernel
theorem dL_waiting_3 : decode cL_waiting 3 = .ok (.iload_n 1, 1) := by decide +kernel
theorem dL_waiting_4 : decode cL_waiting 4 = .ok (.invokevirtual 78, 3) := by decide +kernel
theorem dL_waiting_7 : decode cL_waiting 7 = .ok (.i2l, 1) := by decide +kernel
theorem dL_waiting_8 : decode cL_waiting 8 = .ok (.lastore, 1) := by decide +kernel
theorem dL_waiting_9 : decode cL_waiting 9 = .ok (.goto 6, 3) := by decide +kernel
theorem dL_waiting_12 : decode cL_waiting 12 = .ok (.astore_n 3, 1) := by decide +kernel
theorem dL_waiting_13 : decode cL_waiting 13 = .ok (.iconst 1, 1) := by decide +kernel
theorem dL_waiting_14 : decode cL_waiting 14 = .ok (.ireturn, 1) := by decide +kernel
theorem dL_waiting_15 : decode cL_waiting 15 = .ok (.iconst 0, 1) := by decide +kernel
theorem dL_waiting_16 : decode cL_waiting 16 = .ok (.ireturn, 1) := by decide +kernel
theorem dL_runs_0 : decode cL_runs 0 = .ok (.aload_n 2, 1) := by decide +kernel
theorem dL_runs_1 : decode cL_runs 1 = .ok (.iconst 0, 1) := by decide +kernel
theorem dL_runs_2 : decode cL_runs 2 = .ok (.aload_n 0, 1) := by decide +kernel
theorem dL_runs_3 : decode cL_runs 3 = .ok (.iload_n 1, 1) := by decide +kernel
theorem dL_runs_4 : decode cL_runs 4 = .ok (.invokevirtual 81, 3) := by decide +kernel
theorem dL_runs_7 : decode cL_runs 7 = .ok (.i2l, 1) := by decide +kernel
theorem dL_runs_8 : decode cL_runs 8 = .ok (.lastore, 1) := by decide +kernel
theorem dL_runs_9 : decode cL_runs 9 = .ok (.goto 6, 3) := by decide +kernel
theorem dL_runs_12 : decode cL_runs 12 = .ok (.astore_n 3, 1) := by decide +kernel
theorem dL_runs_13 : decode cL_runs 13 = .ok (.iconst 1, 1) := by decide +kernel
theorem dL_runs_14 : decode cL_runs 14 = .ok (.ireturn, 1) := by decide +kernel
theorem dL_runs_15 : decode cL_runs 15 = .ok (.iconst 0, 1) := by decide +kernel
theorem dL_runs_16 : decode cL_runs 16 = .ok (.ireturn, 1) := by decide +kernel
theorem dL_up_0 : decode cL_up 0 = .ok (.aload_n 2, 1) := by decide +kernel
theorem dL_up_1 : decode cL_up 1 = .ok (.iconst 0, 1) := by decide +kernel
theorem dL_up_2 : decode cL_up 2 = .ok (.aload_n 0, 1) := by decide +kernel
theorem dL_up_3 : decode cL_up 3 = .ok (.iload_n 1, 1) := by decide +kernel
theorem dL_up_4 : decode cL_up 4 = .ok (.invokevirtual 84, 3) := by decide +kernel
theorem dL_up_7 : decode cL_up 7 = .ok (.i2l, 1) := by decide +kernel
theorem dL_up_8 : decode cL_up 8 = .ok (.lastore, 1) := by decide +kernel
theorem dL_up_9 : decode cL_up 9 = .ok (.goto 6, 3) := by decide +kernel
theorem dL_up_12 : decode cL_up 12 = .ok (.astore_n 3, 1) := by decide +kernel
theorem dL_up_13 : decode cL_up 13 = .ok (.iconst 1, 1) := by decide +kernel
theorem dL_up_14 : decode cL_up 14 = .ok (.ireturn, 1) := by decide +kernel
theorem dL_up_15 : decode cL_up 15 = .ok (.iconst 0, 1) := by decide +kernel
theorem dL_up_16 : decode cL_up 16 = .ok (.ireturn, 1) := by decide +kernel
theorem dL_down_0 : decode cL_down 0 = .ok (.aload_n 2, 1) := by decide +kernel
theorem dL_down_1 : decode cL_down 1 = .ok (.iconst 0, 1) := by decide +kernel
theorem dL_down_2 : decode cL_down 2 = .ok (.aload_n 0, 1) := by decide +kernel
theorem dL_down_3 : decode cL_down 3 = .ok (.iload_n 1, 1) := by decide +kernel
theorem dL_down_4 : decode cL_down 4 = .ok (.invokevirtual 87, 3) := by decide +kernel
theorem dL_down_7 : decode cL_down 7 = .ok (.i2l, 1) := by decide +kernel
theorem dL_down_8 : decode cL_down 8 = .ok (.lastore, 1) := by decide +kernel
theorem dL_down_9 : decode cL_down 9 = .ok (.goto 6, 3) := by decide +kernel
theorem dL_down_12 : decode cL_down 12 = .ok (.astore_n 3, 1) := by decide +kernel
theorem dL_down_13 : decode cL_down 13 = .ok (.iconst 1, 1) := by decide +kernel
theorem dL_down_14 : decode cL_down 14 = .ok (.ireturn, 1) := by decide +kernel
theorem dL_down_15 : decode cL_down 15 = .ok (.iconst 0, 1) := by decide +kernel
theorem dL_down_16 : decode cL_down 16 = .ok (.ireturn, 1) := by decide +kernel
theorem dL_kept_0 : decode cL_kept 0 = .ok (.aload_n 2, 1) := by decide +kernel
theorem dL_kept_1 : decode cL_kept 1 = .ok (.iconst 0, 1) := by decide +kernel
theorem dL_kept_2 : decode cL_kept 2 = .ok (.aload_n 0, 1) := by decide +kernel
theorem dL_kept_3 : decode cL_kept 3 = .ok (.iload_n 1, 1) := by decide +kernel
theorem dL_kept_4 : decode cL_kept 4 = .ok (.invokevirtual 90, 3) := by decide +kernel
theorem dL_kept_7 : decode cL_kept 7 = .ok (.i2l, 1) := by decide +kernel
theorem dL_kept_8 : decode cL_kept 8 = .ok (.lastore, 1) := by decide +kernel
theorem dL_kept_9 : decode cL_kept 9 = .ok (.goto 6, 3) := by decide +kernel
theorem dL_kept_12 : decode cL_kept 12 = .ok (.astore_n 3, 1) := by decide +kernel
theorem dL_kept_13 : decode cL_kept 13 = .ok (.iconst 1, 1) := by decide +kernel
theorem dL_kept_14 : decode cL_kept 14 = .ok (.ireturn, 1) := by decide +kernel
theorem dL_kept_15 : decode cL_kept 15 = .ok (.iconst 0, 1) := by decide +kernel
theorem dL_kept_16 : decode cL_kept 16 = .ok (.ireturn, 1) := by decide +kernel
theorem dL_historyEnd_0 : decode cL_historyEnd 0 = .ok (.aload_n 2, 1) := by decide +kernel
theorem dL_historyEnd_1 : decode cL_historyEnd 1 = .ok (.iconst 0, 1) := by decide +kernel
theorem dL_historyEnd_2 : decode cL_historyEnd 2 = .ok (.aload_n 0, 1) := by decide +kernel
theorem dL_historyEnd_3 : decode cL_historyEnd 3 = .ok (.iload_n 1, 1) := by decide +kernel
theorem dL_historyEnd_4 : decode cL_historyEnd 4 = .ok (.invokevirtual 93, 3) := by decide +kernel
theorem dL_historyEnd_7 : decode cL_historyEnd 7 = .ok (.i2l, 1) := by decide +kernel
theorem dL_historyEnd_8 : decode cL_historyEnd 8 = .ok (.lastore, 1) := by decide +kernel
theorem dL_historyEnd_9 : decode cL_historyEnd 9 = .ok (.goto 6, 3) := by decide +kernel
theorem dL_historyEnd_12 : decode cL_historyEnd 12 = .ok (.astore_n 3, 1) := by decide +kernel
theorem dL_historyEnd_13 : decode cL_historyEnd 13 = .ok (.iconst 1, 1) := by decide +kernel
theorem dL_historyEnd_14 : decode cL_historyEnd 14 = .ok (.ireturn, 1) := by decide +kernel
theorem dL_historyEnd_15 : decode cL_historyEnd 15 = .ok (.iconst 0, 1) := by decide +kernel
theorem dL_historyEnd_16 : decode cL_historyEnd 16 = .ok (.ireturn, 1) := by decide +kernel
theorem dL_historySize_0 : decode cL_historySize 0 = .ok (.aload_n 2, 1) := by decide +kernel
theorem dL_historySize_1 : decode cL_historySize 1 = .ok (.iconst 0, 1) := by decide +kernel
theorem dL_historySize_2 : decode cL_historySize 2 = .ok (.aload_n 0, 1) := by decide +kernel
theorem dL_historySize_3 : decode cL_historySize 3 = .ok (.iload_n 1, 1) := by decide +kernel
theorem dL_historySize_4 : decode cL_historySize 4 = .ok (.invokevirtual 96, 3) := by decide +kernel
theorem dL_historySize_7 : decode cL_historySize 7 = .ok (.i2l, 1) := by decide +kernel
theorem dL_historySize_8 : decode cL_historySize 8 = .ok (.lastore, 1) := by decide +kernel
theorem dL_historySize_9 : decode cL_historySize 9 = .ok (.goto 6, 3) := by decide +kernel
theorem dL_historySize_12 : decode cL_historySize 12 = .ok (.astore_n 3, 1) := by decide +kernel
theorem dL_historySize_13 : decode cL_historySize 13 = .ok (.iconst 1, 1) := by decide +kernel
theorem dL_historySize_14 : decode cL_historySize 14 = .ok (.ireturn, 1) := by decide +kernel
theorem dL_historySize_15 : decode cL_historySize 15 = .ok (.iconst 0, 1) := by decide +kernel
theorem dL_historySize_16 : decode cL_historySize 16 = .ok (.ireturn, 1) := by decide +kernel
theorem dL_historyKind_0 : decode cL_historyKind 0 = .ok (.aload_n 3, 1) := by decide +kernel
theorem dL_historyKind_1 : decode cL_historyKind 1 = .ok (.iconst 0, 1) := by decide +kernel
theorem dL_historyKind_2 : decode cL_historyKind 2 = .ok (.aload_n 0, 1) := by decide +kernel
theorem dL_historyKind_3 : decode cL_historyKind 3 = .ok (.iload_n 1, 1) := by decide +kernel
theorem dL_historyKind_4 : decode cL_historyKind 4 = .ok (.iload_n 2, 1) := by decide +kernel
theorem dL_historyKind_5 : decode cL_historyKind 5 = .ok (.invokevirtual 99, 3) := by decide +kernel
theorem dL_historyKind_8 : decode cL_historyKind 8 = .ok (.i2l, 1) := by decide +kernel
theorem dL_historyKind_9 : decode cL_historyKind 9 = .ok (.lastore, 1) := by decide +kernel
theorem dL_historyKind_10 : decode cL_historyKind 10 = .ok (.goto 11, 3) := by decide +kernel
theorem dL_historyKind_13 : decode cL_historyKind 13 = .ok (.astore 4, 2) := by decide +kernel
theorem dL_historyKind_15 : decode cL_historyKind 15 = .ok (.iconst 1, 1) := by decide +kernel
theorem dL_historyKind_16 : decode cL_historyKind 16 = .ok (.ireturn, 1) := by decide +kernel
theorem dL_historyKind_17 : decode cL_historyKind 17 = .ok (.astore 4, 2) := by decide +kernel
theorem dL_historyKind_19 : decode cL_historyKind 19 = .ok (.iconst 2, 1) := by decide +kernel
theorem dL_historyKind_20 : decode cL_historyKind 20 = .ok (.ireturn, 1) := by decide +kernel
theorem dL_historyKind_21 : decode cL_historyKind 21 = .ok (.iconst 0, 1) := by decide +kernel
theorem dL_historyKind_22 : decode cL_historyKind 22 = .ok (.ireturn, 1) := by decide +kernel
theorem dL_historyPosition_0 : decode cL_historyPosition 0 = .ok (.aload_n 3, 1) := by decide +kernel
theorem dL_historyPosition_1 : decode cL_historyPosition 1 = .ok (.iconst 0, 1) := by decide +kernel
theorem dL_historyPosition_2 : decode cL_historyPosition 2 = .ok (.aload_n 0, 1) := by decide +kernel
theorem dL_historyPosition_3 : decode cL_historyPosition 3 = .ok (.iload_n 1, 1) := by decide +kernel
theorem dL_historyPosition_4 : decode cL_historyPosition 4 = .ok (.iload_n 2, 1) := by decide +kernel
theorem dL_historyPosition_5 : decode cL_historyPosition 5 = .ok (.invokevirtual 102, 3) := by decide +kernel
theorem dL_historyPosition_8 : decode cL_historyPosition 8 = .ok (.i2l, 1) := by decide +kernel
theorem dL_historyPosition_9 : decode cL_historyPosition 9 = .ok (.lastore, 1) := by decide +kernel
theorem dL_historyPosition_10 : decode cL_historyPosition 10 = .ok (.goto 11, 3) := by decide +kernel
theorem dL_historyPosition_13 : decode cL_historyPosition 13 = .ok (.astore 4, 2) := by decide +kernel
theorem dL_historyPosition_15 : decode cL_historyPosition 15 = .ok (.iconst 1, 1) := by decide +kernel
theorem dL_historyPosition_16 : decode cL_historyPosition 16 = .ok (.ireturn, 1) := by decide +kernel
theorem dL_historyPosition_17 : decode cL_historyPosition 17 = .ok (.astore 4, 2) := by decide +kernel
theorem dL_historyPosition_19 : decode cL_historyPosition 19 = .ok (.iconst 2, 1) := by decide +kernel
theorem dL_historyPosition_20 : decode cL_historyPosition 20 = .ok (.ireturn, 1) := by decide +kernel
theorem dL_historyPosition_21 : decode cL_historyPosition 21 = .ok (.iconst 0, 1) := by decide +kernel
theorem dL_historyPosition_22 : decode cL_historyPosition 22 = .ok (.ireturn, 1) := by decide +kernel
theorem dL_ownShare_0 : decode cL_ownShare 0 = .ok (.aload_n 2, 1) := by decide +kernel
theorem dL_ownShare_1 : decode cL_ownShare 1 = .ok (.iconst 0, 1) := by decide +kernel
theorem dL_ownShare_2 : decode cL_ownShare 2 = .ok (.aload_n 0, 1) := by decide +kernel
theorem dL_ownShare_3 : decode cL_ownShare 3 = .ok (.iload_n 1, 1) := by decide +kernel
theorem dL_ownShare_4 : decode cL_ownShare 4 = .ok (.invokevirtual 105, 3) := by decide +kernel
theorem dL_ownShare_7 : decode cL_ownShare 7 = .ok (.f2d, 1) := by decide +kernel
theorem dL_ownShare_8 : decode cL_ownShare 8 = .ok (.dastore, 1) := by decide +kernel
theorem dL_ownShare_9 : decode cL_ownShare 9 = .ok (.goto 9, 3) := by decide +kernel
theorem dL_ownShare_12 : decode cL_ownShare 12 = .ok (.astore_n 3, 1) := by decide +kernel
theorem dL_ownShare_13 : decode cL_ownShare 13 = .ok (.iconst 1, 1) := by decide +kernel
theorem dL_ownShare_14 : decode cL_ownShare 14 = .ok (.ireturn, 1) := by decide +kernel
theorem dL_ownShare_15 : decode cL_ownShare 15 = .ok (.astore_n 3, 1) := by decide +kernel
theorem dL_ownShare_16 : decode cL_ownShare 16 = .ok (.iconst 2, 1) := by decide +kernel
theorem dL_ownShare_17 : decode cL_ownShare 17 = .ok (.ireturn, 1) := by decide +kernel
theorem dL_ownShare_18 : decode cL_ownShare 18 = .ok (.iconst 0, 1) := by decide +kernel
theorem dL_ownShare_19 : decode cL_ownShare 19 = .ok (.ireturn, 1) := by decide +kernel
theorem dL_meanRun_0 : decode cL_meanRun 0 = .ok (.aload_n 1, 1) := by decide +kernel
theorem dL_meanRun_1 : decode cL_meanRun 1 = .ok (.iconst 0, 1) := by decide +kernel
theorem dL_meanRun_2 : decode cL_meanRun 2 = .ok (.aload_n 0, 1) := by decide +kernel
theorem dL_meanRun_3 : decode cL_meanRun 3 = .ok (.invokevirtual 111, 3) := by decide +kernel
theorem dL_meanRun_6 : decode cL_meanRun 6 = .ok (.dastore, 1) := by decide +kernel
theorem dL_meanRun_7 : decode cL_meanRun 7 = .ok (.goto 6, 3) := by decide +kernel
theorem dL_meanRun_10 : decode cL_meanRun 10 = .ok (.astore_n 2, 1) := by decide +kernel
theorem dL_meanRun_11 : decode cL_meanRun 11 = .ok (.iconst 1, 1) := by decide +kernel
theorem dL_meanRun_12 : decode cL_meanRun 12 = .ok (.ireturn, 1) := by decide +kernel
theorem dL_meanRun_13 : decode cL_meanRun 13 = .ok (.iconst 0, 1) := by decide +kernel
theorem dL_meanRun_14 : decode cL_meanRun 14 = .ok (.ireturn, 1) := by decide +kernel
theorem dL_textNumber_0 : decode cL_textNumber 0 = .ok (.aload_n 2, 1) := by decide +kernel
theorem dL_textNumber_1 : decode cL_textNumber 1 = .ok (.iconst 0, 1) := by decide +kernel
theorem dL_textNumber_2 : decode cL_textNumber 2 = .ok (.aload_n 0, 1) := by decide +kernel
theorem dL_textNumber_3 : decode cL_textNumber 3 = .ok (.iload_n 1, 1) := by decide +kernel
theorem dL_textNumber_4 : decode cL_textNumber 4 = .ok (.invokevirtual 115, 3) := by decide +kernel
theorem dL_textNumber_7 : decode cL_textNumber 7 = .ok (.lastore, 1) := by decide +kernel
theorem dL_textNumber_8 : decode cL_textNumber 8 = .ok (.goto 6, 3) := by decide +kernel
theorem dL_textNumber_11 : decode cL_textNumber 11 = .ok (.astore_n 3, 1) := by decide +kernel
theorem dL_textNumber_12 : decode cL_textNumber 12 = .ok (.iconst 1, 1) := by decide +kernel
theorem dL_textNumber_13 : decode cL_textNumber 13 = .ok (.ireturn, 1) := by decide +kernel
theorem dL_textNumber_14 : decode cL_textNumber 14 = .ok (.iconst 0, 1) := by decide +kernel
theorem dL_textNumber_15 : decode cL_textNumber 15 = .ok (.ireturn, 1) := by decide +kernel
theorem dL_law_0 : decode cL_law 0 = .ok (.new 8, 3) := by decide +kernel
theorem dL_law_3 : decode cL_law 3 = .ok (.dup, 1) := by decide +kernel
theorem dL_law_4 : decode cL_law 4 = .ok (.invokespecial 119, 3) := by decide +kernel
theorem dL_law_7 : decode cL_law 7 = .ok (.astore_n 1, 1) := by decide +kernel
theorem dL_law_8 : decode cL_law 8 = .ok (.new 120, 3) := by decide +kernel
theorem dL_law_11 : decode cL_law 11 = .ok (.dup, 1) := by decide +kernel
theorem dL_law_12 : decode cL_law 12 = .ok (.invokespecial 122, 3) := by decide +kernel
theorem dL_law_15 : decode cL_law 15 = .ok (.astore_n 2, 1) := by decide +kernel
theorem dL_law_16 : decode cL_law 16 = .ok (.iconst 1, 1) := by decide +kernel
theorem dL_law_17 : decode cL_law 17 = .ok (.newarray .long, 2) := by decide +kernel
theorem dL_law_19 : decode cL_law 19 = .ok (.astore_n 3, 1) := by decide +kernel
theorem dL_law_20 : decode cL_law 20 = .ok (.iconst 1, 1) := by decide +kernel
theorem dL_law_21 : decode cL_law 21 = .ok (.newarray .double, 2) := by decide +kernel
theorem dL_law_23 : decode cL_law 23 = .ok (.astore 4, 2) := by decide +kernel
theorem dL_law_25 : decode cL_law 25 = .ok (.iconst 0, 1) := by decide +kernel
theorem dL_law_26 : decode cL_law 26 = .ok (.istore 5, 2) := by decide +kernel
theorem dL_law_28 : decode cL_law 28 = .ok (.iload 5, 2) := by decide +kernel
theorem dL_law_30 : decode cL_law 30 = .ok (.aload_n 0, 1) := by decide +kernel
theorem dL_law_31 : decode cL_law 31 = .ok (.arraylength, 1) := by decide +kernel
theorem dL_law_32 : decode cL_law 32 = .ok (.iconst 4, 1) := by decide +kernel
theorem dL_law_33 : decode cL_law 33 = .ok (.isub, 1) := by decide +kernel
theorem dL_law_34 : decode cL_law 34 = .ok (.if_icmp .gt 2095, 3) := by decide +kernel
theorem dL_law_37 : decode cL_law 37 = .ok (.aload_n 0, 1) := by decide +kernel
theorem dL_law_38 : decode cL_law 38 = .ok (.iload 5, 2) := by decide +kernel
theorem dL_law_40 : decode cL_law 40 = .ok (.iaload, 1) := by decide +kernel
theorem dL_law_41 : decode cL_law 41 = .ok (.bipush 63, 2) := by decide +kernel
theorem dL_law_43 : decode cL_law 43 = .ok (.iand, 1) := by decide +kernel
theorem dL_law_44 : decode cL_law 44 = .ok (.tableswitch 2079 0 35 #[160, 242, 310, 380, 436, 504, 567, 623, 679, 692, 748, 816, 884, 940, 1008, 1021, 1077, 1133, 1189, 1245, 1301, 1357, 1413, 1469, 1525, 1581, 1594, 1650, 1706, 1774, 1842, 1855, 1868, 1881, 1959, 2024], 160) := by decide +kernel
theorem dL_law_204 : decode cL_law 204 = .ok (.aload_n 1, 1) := by decide +kernel
theorem dL_law_205 : decode cL_law 205 = .ok (.aload_n 0, 1) := by decide +kernel
theorem dL_law_206 : decode cL_law 206 = .ok (.iload 5, 2) := by decide +kernel
theorem dL_law_208 : decode cL_law 208 = .ok (.iconst 1, 1) := by decide +kernel
theorem dL_law_209 : decode cL_law 209 = .ok (.iadd, 1) := by decide +kernel
theorem dL_law_210 : decode cL_law 210 = .ok (.iaload, 1) := by decide +kernel
theorem dL_law_211 : decode cL_law 211 = .ok (.aload_n 0, 1) := by decide +kernel
theorem dL_law_212 : decode cL_law 212 = .ok (.iload 5, 2) := by decide +kernel
theorem dL_law_214 : decode cL_law 214 = .ok (.iconst 2, 1) := by decide +kernel
theorem dL_law_215 : decode cL_law 215 = .ok (.iadd, 1) := by decide +kernel
theorem dL_law_216 : decode cL_law 216 = .ok (.iaload, 1) := by decide +kernel
theorem dL_law_217 : decode cL_law 217 = .ok (.aload_n 0, 1) := by decide +kernel
theorem dL_law_218 : decode cL_law 218 = .ok (.iload 5, 2) := by decide +kernel
theorem dL_law_220 : decode cL_law 220 = .ok (.iconst 3, 1) := by decide +kernel
theorem dL_law_221 : decode cL_law 221 = .ok (.iadd, 1) := by decide +kernel
theorem dL_law_222 : decode cL_law 222 = .ok (.iaload, 1) := by decide +kernel
theorem dL_law_223 : decode cL_law 223 = .ok (.i2c, 1) := by decide +kernel
theorem dL_law_224 : decode cL_law 224 = .ok (.aload_n 3, 1) := by decide +kernel
theorem dL_law_225 : decode cL_law 225 = .ok (.invokestatic 123, 3) := by decide +kernel
theorem dL_law_228 : decode cL_law 228 = .ok (.istore 6, 2) := by decide +kernel
theorem dL_law_230 : decode cL_law 230 = .ok (.aload_n 2, 1) := by decide +kernel
theorem dL_law_231 : decode cL_law 231 = .ok (.aload_n 0, 1) := by decide +kernel
theorem dL_law_232 : decode cL_law 232 = .ok (.iload 5, 2) := by decide +kernel
theorem dL_law_234 : decode cL_law 234 = .ok (.iconst 1, 1) := by decide +kernel
theorem dL_law_235 : decode cL_law 235 = .ok (.iadd, 1) := by decide +kernel
theorem dL_law_236 : decode cL_law 236 = .ok (.iaload, 1) := by decide +kernel
theorem dL_law_237 : decode cL_law 237 = .ok (.aload_n 0, 1) := by decide +kernel
theorem dL_law_238 : decode cL_law 238 = .ok (.iload 5, 2) := by decide +kernel
theorem dL_law_240 : decode cL_law 240 = .ok (.iconst 2, 1) := by decide +kernel
theorem dL_law_241 : decode cL_law 241 = .ok (.iadd, 1) := by decide +kernel
theorem dL_law_242 : decode cL_law 242 = .ok (.iaload, 1) := by decide +kernel
theorem dL_law_243 : decode cL_law 243 = .ok (.aload_n 0, 1) := by decide +kernel
theorem dL_law_244 : decode cL_law 244 = .ok (.iload 5, 2) := by decide +kernel
theorem dL_law_246 : decode cL_law 246 = .ok (.iconst 3, 1) := by decide +kernel
theorem dL_law_247 : decode cL_law 247 = .ok (.iadd, 1) := by decide +kernel
theorem dL_law_248 : decode cL_law 248 = .ok (.iaload, 1) := by decide +kernel
theorem dL_law_249 : decode cL_law 249 = .ok (.i2c, 1) := by decide +kernel
theorem dL_law_250 : decode cL_law 250 = .ok (.invokevirtual 128, 3) := by decide +kernel
theorem dL_law_253 : decode cL_law 253 = .ok (.istore 7, 2) := by decide +kernel
theorem dL_law_255 : decode cL_law 255 = .ok (.aload_n 2, 1) := by decide +kernel
theorem dL_law_256 : decode cL_law 256 = .ok (.invokevirtual 129, 3) := by decide +kernel
theorem dL_law_259 : decode cL_law 259 = .ok (.iload 6, 2) := by decide +kernel
theorem dL_law_261 : decode cL_law 261 = .ok (.if_icmp .eq 5, 3) := by decide +kernel
theorem dL_law_264 : decode cL_law 264 = .ok (.iconst 0, 1) := by decide +kernel
theorem dL_law_265 : decode cL_law 265 = .ok (.ireturn, 1) := by decide +kernel
theorem dL_law_266 : decode cL_law 266 = .ok (.iload 6, 2) := by decide +kernel
theorem dL_law_268 : decode cL_law 268 = .ok (.ifCond .ne 15, 3) := by decide +kernel
theorem dL_law_271 : decode cL_law 271 = .ok (.aload_n 3, 1) := by decide +kernel
theorem dL_law_272 : decode cL_law 272 = .ok (.iconst 0, 1) := by decide +kernel
theorem dL_law_273 : decode cL_law 273 = .ok (.laload, 1) := by decide +kernel
theorem dL_law_274 : decode cL_law 274 = .ok (.iload 7, 2) := by decide +kernel
theorem dL_law_276 : decode cL_law 276 = .ok (.i2l, 1) := by decide +kernel
theorem dL_law_277 : decode cL_law 277 = .ok (.lcmp, 1) := by decide +kernel
theorem dL_law_278 : decode cL_law 278 = .ok (.ifCond .eq 5, 3) := by decide +kernel
theorem dL_law_281 : decode cL_law 281 = .ok (.iconst 0, 1) := by decide +kernel
theorem dL_law_282 : decode cL_law 282 = .ok (.ireturn, 1) := by decide +kernel
theorem dL_law_283 : decode cL_law 283 = .ok (.goto 1840, 3) := by decide +kernel
theorem dL_law_286 : decode cL_law 286 = .ok (.aload_n 1, 1) := by decide +kernel
theorem dL_law_287 : decode cL_law 287 = .ok (.aload_n 0, 1) := by decide +kernel
theorem dL_law_288 : decode cL_law 288 = .ok (.iload 5, 2) := by decide +kernel
theorem dL_law_290 : decode cL_law 290 = .ok (.iconst 1, 1) := by decide +kernel
theorem dL_law_291 : decode cL_law 291 = .ok (.iadd, 1) := by decide +kernel
theorem dL_law_292 : decode cL_law 292 = .ok (.iaload, 1) := by decide +kernel
theorem dL_law_293 : decode cL_law 293 = .ok (.aload_n 0, 1) := by decide +kernel
theorem dL_law_294 : decode cL_law 294 = .ok (.iload 5, 2) := by decide +kernel
theorem dL_law_296 : decode cL_law 296 = .ok (.iconst 2, 1) := by decide +kernel
theorem dL_law_297 : decode cL_law 297 = .ok (.iadd, 1) := by decide +kernel
theorem dL_law_298 : decode cL_law 298 = .ok (.iaload, 1) := by decide +kernel
theorem dL_law_299 : decode cL_law 299 = .ok (.aload_n 3, 1) := by decide +kernel
theorem dL_law_300 : decode cL_law 300 = .ok (.invokestatic 133, 3) := by decide +kernel
theorem dL_law_303 : decode cL_law 303 = .ok (.istore 6, 2) := by decide +kernel
theorem dL_law_305 : decode cL_law 305 = .ok (.aload_n 2, 1) := by decide +kernel
theorem dL_law_306 : decode cL_law 306 = .ok (.aload_n 0, 1) := by decide +kernel
theorem dL_law_307 : decode cL_law 307 = .ok (.iload 5, 2) := by decide +kernel
theorem dL_law_309 : decode cL_law 309 = .ok (.iconst 1, 1) := by decide +kernel
theorem dL_law_310 : decode cL_law 310 = .ok (.iadd, 1) := by decide +kernel
theorem dL_law_311 : decode cL_law 311 = .ok (.iaload, 1) := by decide +kernel
theorem dL_law_312 : decode cL_law 312 = .ok (.aload_n 0, 1) := by decide +kernel
theorem dL_law_313 : decode cL_law 313 = .ok (.iload 5, 2) := by decide +kernel
theorem dL_law_315 : decode cL_law 315 = .ok (.iconst 2, 1) := by decide +kernel
theorem dL_law_316 : decode cL_law 316 = .ok (.iadd, 1) := by decide +kernel
theorem dL_law_317 : decode cL_law 317 = .ok (.iaload, 1) := by decide +kernel
theorem dL_law_318 : decode cL_law 318 = .ok (.invokevirtual 136, 3) := by decide +kernel
theorem dL_law_321 : decode cL_law 321 = .ok (.istore 7, 2) := by decide +kernel
theorem dL_law_323 : decode cL_law 323 = .ok (.aload_n 2, 1) := by decide +kernel
theorem dL_law_324 : decode cL_law 324 = .ok (.invokevirtual 129, 3) := by decide +kernel
theorem dL_law_327 : decode cL_law 327 = .ok (.iload 6, 2) := by decide +kernel
theorem dL_law_329 : decode cL_law 329 = .ok (.if_icmp .eq 5, 3) := by decide +kernel
theorem dL_law_332 : decode cL_law 332 = .ok (.iconst 0, 1) := by decide +kernel
theorem dL_law_333 : decode cL_law 333 = .ok (.ireturn, 1) := by decide +kernel
theorem dL_law_334 : decode cL_law 334 = .ok (.iload 6, 2) := by decide +kernel
theorem dL_law_336 : decode cL_law 336 = .ok (.ifCond .ne 15, 3) := by decide +kernel
theorem dL_law_339 : decode cL_law 339 = .ok (.aload_n 3, 1) := by decide +kernel
theorem dL_law_340 : decode cL_law 340 = .ok (.iconst 0, 1) := by decide +kernel
theorem dL_law_341 : decode cL_law 341 = .ok (.laload, 1) := by decide +kernel
theorem dL_law_342 : decode cL_law 342 = .ok (.iload 7, 2) := by decide +kernel
theorem dL_law_344 : decode cL_law 344 = .ok (.i2l, 1) := by decide +kernel
theorem dL_law_345 : decode cL_law 345 = .ok (.lcmp, 1) := by decide +kernel
theorem dL_law_346 : decode cL_law 346 = .ok (.ifCond .eq 5, 3) := by decide +kernel
theorem dL_law_349 : decode cL_law 349 = .ok (.iconst 0, 1) := by decide +kernel
theorem dL_law_350 : decode cL_law 350 = .ok (.ireturn, 1) := by decide +kernel
theorem dL_law_351 : decode cL_law 351 = .ok (.goto 1772, 3) := by decide +kernel
theorem dL_law_354 : decode cL_law 354 = .ok (.aload_n 1, 1) := by decide +kernel
theorem dL_law_355 : decode cL_law 355 = .ok (.aload_n 0, 1) := by decide +kernel
theorem dL_law_356 : decode cL_law 356 = .ok (.iload 5, 2) := by decide +kernel
theorem dL_law_358 : decode cL_law 358 = .ok (.iconst 1, 1) := by decide +kernel
theorem dL_law_359 : decode cL_law 359 = .ok (.iadd, 1) := by decide +kernel
theorem dL_law_360 : decode cL_law 360 = .ok (.iaload, 1) := by decide +kernel
theorem dL_law_361 : decode cL_law 361 = .ok (.aload_n 0, 1) := by decide +kernel
theorem dL_law_362 : decode cL_law 362 = .ok (.iload 5, 2) := by decide +kernel
theorem dL_law_364 : decode cL_law 364 = .ok (.iconst 2, 1) := by decide +kernel
theorem dL_law_365 : decode cL_law 365 = .ok (.iadd, 1) := by decide +kernel
theorem dL_law_366 : decode cL_law 366 = .ok (.iaload, 1) := by decide +kernel
theorem dL_law_367 : decode cL_law 367 = .ok (.i2c, 1) := by decide +kernel
theorem dL_law_368 : decode cL_law 368 = .ok (.aload_n 3, 1) := by decide +kernel
theorem dL_law_369 : decode cL_law 369 = .ok (.invokestatic 137, 3) := by decide +kernel
theorem dL_law_372 : decode cL_law 372 = .ok (.istore 6, 2) := by decide +kernel
theorem dL_law_374 : decode cL_law 374 = .ok (.aload_n 2, 1) := by decide +kernel
theorem dL_law_375 : decode cL_law 375 = .ok (.aload_n 0, 1) := by decide +kernel
theorem dL_law_376 : decode cL_law 376 = .ok (.iload 5, 2) := by decide +kernel
theorem dL_law_378 : decode cL_law 378 = .ok (.iconst 1, 1) := by decide +kernel
theorem dL_law_379 : decode cL_law 379 = .ok (.iadd, 1) := by decide +kernel
theorem dL_law_380 : decode cL_law 380 = .ok (.iaload, 1) := by decide +kernel
theorem dL_law_381 : decode cL_law 381 = .ok (.aload_n 0, 1) := by decide +kernel
theorem dL_law_382 : decode cL_law 382 = .ok (.iload 5, 2) := by decide +kernel
theorem dL_law_384 : decode cL_law 384 = .ok (.iconst 2, 1) := by decide +kernel
theorem dL_law_385 : decode cL_law 385 = .ok (.iadd, 1) := by decide +kernel
theorem dL_law_386 : decode cL_law 386 = .ok (.iaload, 1) := by decide +kernel
theorem dL_law_387 : decode cL_law 387 = .ok (.i2c, 1) := by decide +kernel
theorem dL_law_388 : decode cL_law 388 = .ok (.invokevirtual 140, 3) := by decide +kernel
theorem dL_law_391 : decode cL_law 391 = .ok (.istore 7, 2) := by decide +kernel
theorem dL_law_393 : decode cL_law 393 = .ok (.aload_n 2, 1) := by decide +kernel
theorem dL_law_394 : decode cL_law 394 = .ok (.invokevirtual 129, 3) := by decide +kernel
theorem dL_law_397 : decode cL_law 397 = .ok (.iload 6, 2) := by decide +kernel
theorem dL_law_399 : decode cL_law 399 = .ok (.if_icmp .eq 5, 3) := by decide +kernel
theorem dL_law_402 : decode cL_law 402 = .ok (.iconst 0, 1) := by decide +kernel
theorem dL_law_403 : decode cL_law 403 = .ok (.ireturn, 1) := by decide +kernel
theorem dL_law_404 : decode cL_law 404 = .ok (.iload 6, 2) := by decide +kernel
theorem dL_law_406 : decode cL_law 406 = .ok (.ifCond .ne 15, 3) := by decide +kernel
theorem dL_law_409 : decode cL_law 409 = .ok (.aload_n 3, 1) := by decide +kernel
theorem dL_law_410 : decode cL_law 410 = .ok (.iconst 0, 1) := by decide +kernel
theorem dL_law_411 : decode cL_law 411 = .ok (.laload, 1) := by decide +kernel
theorem dL_law_412 : decode cL_law 412 = .ok (.iload 7, 2) := by decide +kernel
theorem dL_law_414 : decode cL_law 414 = .ok (.i2l, 1) := by decide +kernel
theorem dL_law_415 : decode cL_law 415 = .ok (.lcmp, 1) := by decide +kernel
theorem dL_law_416 : decode cL_law 416 = .ok (.ifCond .eq 5, 3) := by decide +kernel
theorem dL_law_419 : decode cL_law 419 = .ok (.iconst 0, 1) := by decide +kernel
theorem dL_law_420 : decode cL_law 420 = .ok (.ireturn, 1) := by decide +kernel
theorem dL_law_421 : decode cL_law 421 = .ok (.goto 1702, 3) := by decide +kernel
theorem dL_law_424 : decode cL_law 424 = .ok (.aload_n 1, 1) := by decide +kernel
theorem dL_law_425 : decode cL_law 425 = .ok (.aload_n 0, 1) := by decide +kernel
theorem dL_law_426 : decode cL_law 426 = .ok (.iload 5, 2) := by decide +kernel
theorem dL_law_428 : decode cL_law 428 = .ok (.iconst 1, 1) := by decide +kernel
theorem dL_law_429 : decode cL_law 429 = .ok (.iadd, 1) := by decide +kernel
theorem dL_law_430 : decode cL_law 430 = .ok (.iaload, 1) := by decide +kernel
theorem dL_law_431 : decode cL_law 431 = .ok (.aload_n 3, 1) := by decide +kernel
theorem dL_law_432 : decode cL_law 432 = .ok (.invokestatic 141, 3) := by decide +kernel
theorem dL_law_435 : decode cL_law 435 = .ok (.istore 6, 2) := by decide +kernel
theorem dL_law_437 : decode cL_law 437 = .ok (.aload_n 2, 1) := by decide +kernel
theorem dL_law_438 : decode cL_law 438 = .ok (.aload_n 0, 1) := by decide +kernel
theorem dL_law_439 : decode cL_law 439 = .ok (.iload 5, 2) := by decide +kernel
theorem dL_law_441 : decode cL_law 441 = .ok (.iconst 1, 1) := by decide +kernel
theorem dL_law_442 : decode cL_law 442 = .ok (.iadd, 1) := by decide +kernel
theorem dL_law_443 : decode cL_law 443 = .ok (.iaload, 1) := by decide +kernel
theorem dL_law_444 : decode cL_law 444 = .ok (.invokevirtual 144, 3) := by decide +kernel
theorem dL_law_447 : decode cL_law 447 = .ok (.istore 7, 2) := by decide +kernel
theorem dL_law_449 : decode cL_law 449 = .ok (.aload_n 2, 1) := by decide +kernel
theorem dL_law_450 : decode cL_law 450 = .ok (.invokevirtual 129, 3) := by decide +kernel
theorem dL_law_453 : decode cL_law 453 = .ok (.iload 6, 2) := by decide +kernel
theorem dL_law_455 : decode cL_law 455 = .ok (.if_icmp .eq 5, 3) := by decide +kernel
theorem dL_law_458 : decode cL_law 458 = .ok (.iconst 0, 1) := by decide +kernel
theorem dL_law_459 : decode cL_law 459 = .ok (.ireturn, 1) := by decide +kernel
theorem dL_law_460 : decode cL_law 460 = .ok (.iload 6, 2) := by decide +kernel
theorem dL_law_462 : decode cL_law 462 = .ok (.ifCond .ne 15, 3) := by decide +kernel
theorem dL_law_465 : decode cL_law 465 = .ok (.aload_n 3, 1) := by decide +kernel
theorem dL_law_466 : decode cL_law 466 = .ok (.iconst 0, 1) := by decide +kernel
theorem dL_law_467 : decode cL_law 467 = .ok (.laload, 1) := by decide +kernel
theorem dL_law_468 : decode cL_law 468 = .ok (.iload 7, 2) := by decide +kernel
theorem dL_law_470 : decode cL_law 470 = .ok (.i2l, 1) := by decide +kernel
theorem dL_law_471 : decode cL_law 471 = .ok (.lcmp, 1) := by decide +kernel
theorem dL_law_472 : decode cL_law 472 = .ok (.ifCond .eq 5, 3) := by decide +kernel
theorem dL_law_475 : decode cL_law 475 = .ok (.iconst 0, 1) := by decide +kernel
theorem dL_law_476 : decode cL_law 476 = .ok (.ireturn, 1) := by decide +kernel
theorem dL_law_477 : decode cL_law 477 = .ok (.goto 1646, 3) := by decide +kernel
theorem dL_law_480 : decode cL_law 480 = .ok (.aload_n 1, 1) := by decide +kernel
theorem dL_law_481 : decode cL_law 481 = .ok (.aload_n 0, 1) := by decide +kernel
theorem dL_law_482 : decode cL_law 482 = .ok (.iload 5, 2) := by decide +kernel
theorem dL_law_484 : decode cL_law 484 = .ok (.iconst 1, 1) := by decide +kernel
theorem dL_law_485 : decode cL_law 485 = .ok (.iadd, 1) := by decide +kernel
theorem dL_law_486 : decode cL_law 486 = .ok (.iaload, 1) := by decide +kernel
theorem dL_law_487 : decode cL_law 487 = .ok (.aload_n 0, 1) := by decide +kernel
theorem dL_law_488 : decode cL_law 488 = .ok (.iload 5, 2) := by decide +kernel
theorem dL_law_490 : decode cL_law 490 = .ok (.iconst 2, 1) := by decide +kernel
theorem dL_law_491 : decode cL_law 491 = .ok (.iadd, 1) := by decide +kernel
theorem dL_law_492 : decode cL_law 492 = .ok (.iaload, 1) := by decide +kernel
theorem dL_law_493 : decode cL_law 493 = .ok (.aload_n 3, 1) := by decide +kernel
theorem dL_law_494 : decode cL_law 494 = .ok (.invokestatic 145, 3) := by decide +kernel
theorem dL_law_497 : decode cL_law 497 = .ok (.istore 6, 2) := by decide +kernel
theorem dL_law_499 : decode cL_law 499 = .ok (.aload_n 2, 1) := by decide +kernel
theorem dL_law_500 : decode cL_law 500 = .ok (.aload_n 0, 1) := by decide +kernel
theorem dL_law_501 : decode cL_law 501 = .ok (.iload 5, 2) := by decide +kernel
theorem dL_law_503 : decode cL_law 503 = .ok (.iconst 1, 1) := by decide +kernel
theorem dL_law_504 : decode cL_law 504 = .ok (.iadd, 1) := by decide +kernel
theorem dL_law_505 : decode cL_law 505 = .ok (.iaload, 1) := by decide +kernel
theorem dL_law_506 : decode cL_law 506 = .ok (.aload_n 0, 1) := by decide +kernel
theorem dL_law_507 : decode cL_law 507 = .ok (.iload 5, 2) := by decide +kernel
theorem dL_law_509 : decode cL_law 509 = .ok (.iconst 2, 1) := by decide +kernel
theorem dL_law_510 : decode cL_law 510 = .ok (.iadd, 1) := by decide +kernel
theorem dL_law_511 : decode cL_law 511 = .ok (.iaload, 1) := by decide +kernel
theorem dL_law_512 : decode cL_law 512 = .ok (.invokevirtual 147, 3) := by decide +kernel
theorem dL_law_515 : decode cL_law 515 = .ok (.istore 7, 2) := by decide +kernel
theorem dL_law_517 : decode cL_law 517 = .ok (.aload_n 2, 1) := by decide +kernel
theorem dL_law_518 : decode cL_law 518 = .ok (.invokevirtual 129, 3) := by decide +kernel
theorem dL_law_521 : decode cL_law 521 = .ok (.iload 6, 2) := by decide +kernel
theorem dL_law_523 : decode cL_law 523 = .ok (.if_icmp .eq 5, 3) := by decide +kernel
theorem dL_law_526 : decode cL_law 526 = .ok (.iconst 0, 1) := by decide +kernel
theorem dL_law_527 : decode cL_law 527 = .ok (.ireturn, 1) := by decide +kernel
theorem dL_law_528 : decode cL_law 528 = .ok (.iload 6, 2) := by decide +kernel
theorem dL_law_530 : decode cL_law 530 = .ok (.ifCond .ne 15, 3) := by decide +kernel
theorem dL_law_533 : decode cL_law 533 = .ok (.aload_n 3, 1) := by decide +kernel
theorem dL_law_534 : decode cL_law 534 = .ok (.iconst 0, 1) := by decide +kernel
theorem dL_law_535 : decode cL_law 535 = .ok (.laload, 1) := by decide +kernel
theorem dL_law_536 : decode cL_law 536 = .ok (.iload 7, 2) := by decide +kernel
theorem dL_law_538 : decode cL_law 538 = .ok (.i2l, 1) := by decide +kernel
theorem dL_law_539 : decode cL_law 539 = .ok (.lcmp, 1) := by decide +kernel
theorem dL_law_540 : decode cL_law 540 = .ok (.ifCond .eq 5, 3) := by decide +kernel
theorem dL_law_543 : decode cL_law 543 = .ok (.iconst 0, 1) := by decide +kernel
theorem dL_law_544 : decode cL_law 544 = .ok (.ireturn, 1) := by decide +kernel
theorem dL_law_545 : decode cL_law 545 = .ok (.goto 1578, 3) := by decide +kernel
theorem dL_law_548 : decode cL_law 548 = .ok (.aload_n 1, 1) := by decide +kernel
theorem dL_law_549 : decode cL_law 549 = .ok (.aload_n 0, 1) := by decide +kernel
theorem dL_law_550 : decode cL_law 550 = .ok (.iload 5, 2) := by decide +kernel
theorem dL_law_552 : decode cL_law 552 = .ok (.iconst 1, 1) := by decide +kernel
theorem dL_law_553 : decode cL_law 553 = .ok (.iadd, 1) := by decide +kernel
theorem dL_law_554 : decode cL_law 554 = .ok (.iaload, 1) := by decide +kernel
theorem dL_law_555 : decode cL_law 555 = .ok (.aload_n 3, 1) := by decide +kernel
theorem dL_law_556 : decode cL_law 556 = .ok (.invokestatic 148, 3) := by decide +kernel
theorem dL_law_559 : decode cL_law 559 = .ok (.istore 6, 2) := by decide +kernel
theorem dL_law_561 : decode cL_law 561 = .ok (.aload_n 2, 1) := by decide +kernel
theorem dL_law_562 : decode cL_law 562 = .ok (.aload_n 0, 1) := by decide +kernel
theorem dL_law_563 : decode cL_law 563 = .ok (.iload 5, 2) := by decide +kernel
theorem dL_law_565 : decode cL_law 565 = .ok (.iconst 1, 1) := by decide +kernel
theorem dL_law_566 : decode cL_law 566 = .ok (.iadd, 1) := by decide +kernel
theorem dL_law_567 : decode cL_law 567 = .ok (.iaload, 1) := by decide +kernel
theorem dL_law_568 : decode cL_law 568 = .ok (.invokevirtual 150, 3) := by decide +kernel
theorem dL_law_571 : decode cL_law 571 = .ok (.istore 7, 2) := by decide +kernel
theorem dL_law_573 : decode cL_law 573 = .ok (.aload_n 2, 1) := by decide +kernel
theorem dL_law_574 : decode cL_law 574 = .ok (.invokevirtual 129, 3) := by decide +kernel
theorem dL_law_577 : decode cL_law 577 = .ok (.iload 6, 2) := by decide +kernel
theorem dL_law_579 : decode cL_law 579 = .ok (.if_icmp .eq 5, 3) := by decide +kernel
theorem dL_law_582 : decode cL_law 582 = .ok (.iconst 0, 1) := by decide +kernel
theorem dL_law_583 : decode cL_law 583 = .ok (.ireturn, 1) := by decide +kernel
theorem dL_law_584 : decode cL_law 584 = .ok (.iload 6, 2) := by decide +kernel
theorem dL_law_586 : decode cL_law 586 = .ok (.ifCond .ne 22, 3) := by decide +kernel
theorem dL_law_589 : decode cL_law 589 = .ok (.aload_n 3, 1) := by decide +kernel
theorem dL_law_590 : decode cL_law 590 = .ok (.iconst 0, 1) := by decide +kernel
theorem dL_law_591 : decode cL_law 591 = .ok (.laload, 1) := by decide +kernel
theorem dL_law_592 : decode cL_law 592 = .ok (.iload 7, 2) := by decide +kernel
theorem dL_law_594 : decode cL_law 594 = .ok (.ifCond .eq 7, 3) := by decide +kernel
theorem dL_law_597 : decode cL_law 597 = .ok (.lconst 1, 1) := by decide +kernel
theorem dL_law_598 : decode cL_law 598 = .ok (.goto 4, 3) := by decide +kernel
theorem dL_law_601 : decode cL_law 601 = .ok (.lconst 0, 1) := by decide +kernel
theorem dL_law_602 : decode cL_law 602 = .ok (.lcmp, 1) := by decide +kernel
theorem dL_law_603 : decode cL_law 603 = .ok (.ifCond .eq 5, 3) := by decide +kernel
theorem dL_law_606 : decode cL_law 606 = .ok (.iconst 0, 1) := by decide +kernel
theorem dL_law_607 : decode cL_law 607 = .ok (.ireturn, 1) := by decide +kernel
theorem dL_law_608 : decode cL_law 608 = .ok (.goto 1515, 3) := by decide +kernel
theorem dL_law_611 : decode cL_law 611 = .ok (.aload_n 1, 1) := by decide +kernel
theorem dL_law_612 : decode cL_law 612 = .ok (.aload_n 0, 1) := by decide +kernel
theorem dL_law_613 : decode cL_law 613 = .ok (.iload 5, 2) := by decide +kernel
theorem dL_law_615 : decode cL_law 615 = .ok (.iconst 1, 1) := by decide +kernel
theorem dL_law_616 : decode cL_law 616 = .ok (.iadd, 1) := by decide +kernel
theorem dL_law_617 : decode cL_law 617 = .ok (.iaload, 1) := by decide +kernel
theorem dL_law_618 : decode cL_law 618 = .ok (.aload_n 3, 1) := by decide +kernel
theorem dL_law_619 : decode cL_law 619 = .ok (.invokestatic 151, 3) := by decide +kernel
theorem dL_law_622 : decode cL_law 622 = .ok (.istore 6, 2) := by decide +kernel
theorem dL_law_624 : decode cL_law 624 = .ok (.aload_n 2, 1) := by decide +kernel
theorem dL_law_625 : decode cL_law 625 = .ok (.aload_n 0, 1) := by decide +kernel
theorem dL_law_626 : decode cL_law 626 = .ok (.iload 5, 2) := by decide +kernel
theorem dL_law_628 : decode cL_law 628 = .ok (.iconst 1, 1) := by decide +kernel
theorem dL_law_629 : decode cL_law 629 = .ok (.iadd, 1) := by decide +kernel
theorem dL_law_630 : decode cL_law 630 = .ok (.iaload, 1) := by decide +kernel
theorem dL_law_631 : decode cL_law 631 = .ok (.invokevirtual 153, 3) := by decide +kernel
theorem dL_law_634 : decode cL_law 634 = .ok (.istore 7, 2) := by decide +kernel
theorem dL_law_636 : decode cL_law 636 = .ok (.aload_n 2, 1) := by decide +kernel
theorem dL_law_637 : decode cL_law 637 = .ok (.invokevirtual 129, 3) := by decide +kernel
theorem dL_law_640 : decode cL_law 640 = .ok (.iload 6, 2) := by decide +kernel
theorem dL_law_642 : decode cL_law 642 = .ok (.if_icmp .eq 5, 3) := by decide +kernel
theorem dL_law_645 : decode cL_law 645 = .ok (.iconst 0, 1) := by decide +kernel
theorem dL_law_646 : decode cL_law 646 = .ok (.ireturn, 1) := by decide +kernel
theorem dL_law_647 : decode cL_law 647 = .ok (.iload 6, 2) := by decide +kernel
theorem dL_law_649 : decode cL_law 649 = .ok (.ifCond .ne 15, 3) := by decide +kernel
theorem dL_law_652 : decode cL_law 652 = .ok (.aload_n 3, 1) := by decide +kernel
theorem dL_law_653 : decode cL_law 653 = .ok (.iconst 0, 1) := by decide +kernel
theorem dL_law_654 : decode cL_law 654 = .ok (.laload, 1) := by decide +kernel
theorem dL_law_655 : decode cL_law 655 = .ok (.iload 7, 2) := by decide +kernel
theorem dL_law_657 : decode cL_law 657 = .ok (.i2l, 1) := by decide +kernel
theorem dL_law_658 : decode cL_law 658 = .ok (.lcmp, 1) := by decide +kernel
theorem dL_law_659 : decode cL_law 659 = .ok (.ifCond .eq 5, 3) := by decide +kernel
theorem dL_law_662 : decode cL_law 662 = .ok (.iconst 0, 1) := by decide +kernel
theorem dL_law_663 : decode cL_law 663 = .ok (.ireturn, 1) := by decide +kernel
theorem dL_law_664 : decode cL_law 664 = .ok (.goto 1459, 3) := by decide +kernel
theorem dL_law_667 : decode cL_law 667 = .ok (.aload_n 1, 1) := by decide +kernel
theorem dL_law_668 : decode cL_law 668 = .ok (.aload_n 0, 1) := by decide +kernel
theorem dL_law_669 : decode cL_law 669 = .ok (.iload 5, 2) := by decide +kernel
theorem dL_law_671 : decode cL_law 671 = .ok (.iconst 1, 1) := by decide +kernel
theorem dL_law_672 : decode cL_law 672 = .ok (.iadd, 1) := by decide +kernel
theorem dL_law_673 : decode cL_law 673 = .ok (.iaload, 1) := by decide +kernel
theorem dL_law_674 : decode cL_law 674 = .ok (.aload_n 3, 1) := by decide +kernel
theorem dL_law_675 : decode cL_law 675 = .ok (.invokestatic 154, 3) := by decide +kernel
theorem dL_law_678 : decode cL_law 678 = .ok (.istore 6, 2) := by decide +kernel
theorem dL_law_680 : decode cL_law 680 = .ok (.aload_n 2, 1) := by decide +kernel
theorem dL_law_681 : decode cL_law 681 = .ok (.aload_n 0, 1) := by decide +kernel
theorem dL_law_682 : decode cL_law 682 = .ok (.iload 5, 2) := by decide +kernel
theorem dL_law_684 : decode cL_law 684 = .ok (.iconst 1, 1) := by decide +kernel
theorem dL_law_685 : decode cL_law 685 = .ok (.iadd, 1) := by decide +kernel
theorem dL_law_686 : decode cL_law 686 = .ok (.iaload, 1) := by decide +kernel
theorem dL_law_687 : decode cL_law 687 = .ok (.invokevirtual 156, 3) := by decide +kernel
theorem dL_law_690 : decode cL_law 690 = .ok (.istore 7, 2) := by decide +kernel
theorem dL_law_692 : decode cL_law 692 = .ok (.aload_n 2, 1) := by decide +kernel
theorem dL_law_693 : decode cL_law 693 = .ok (.invokevirtual 129, 3) := by decide +kernel
theorem dL_law_696 : decode cL_law 696 = .ok (.iload 6, 2) := by decide +kernel
theorem dL_law_698 : decode cL_law 698 = .ok (.if_icmp .eq 5, 3) := by decide +kernel
theorem dL_law_701 : decode cL_law 701 = .ok (.iconst 0, 1) := by decide +kernel
theorem dL_law_702 : decode cL_law 702 = .ok (.ireturn, 1) := by decide +kernel
theorem dL_law_703 : decode cL_law 703 = .ok (.iload 6, 2) := by decide +kernel
theorem dL_law_705 : decode cL_law 705 = .ok (.ifCond .ne 15, 3) := by decide +kernel
theorem dL_law_708 : decode cL_law 708 = .ok (.aload_n 3, 1) := by decide +kernel
theorem dL_law_709 : decode cL_law 709 = .ok (.iconst 0, 1) := by decide +kernel
theorem dL_law_710 : decode cL_law 710 = .ok (.laload, 1) := by decide +kernel
theorem dL_law_711 : decode cL_law 711 = .ok (.iload 7, 2) := by decide +kernel
theorem dL_law_713 : decode cL_law 713 = .ok (.i2l, 1) := by decide +kernel
theorem dL_law_714 : decode cL_law 714 = .ok (.lcmp, 1) := by decide +kernel
theorem dL_law_715 : decode cL_law 715 = .ok (.ifCond .eq 5, 3) := by decide +kernel
theorem dL_law_718 : decode cL_law 718 = .ok (.iconst 0, 1) := by decide +kernel
theorem dL_law_719 : decode cL_law 719 = .ok (.ireturn, 1) := by decide +kernel
theorem dL_law_720 : decode cL_law 720 = .ok (.goto 1403, 3) := by decide +kernel
theorem dL_law_723 : decode cL_law 723 = .ok (.aload_n 1, 1) := by decide +kernel
theorem dL_law_724 : decode cL_law 724 = .ok (.invokevirtual 157, 3) := by decide +kernel
theorem dL_law_727 : decode cL_law 727 = .ok (.aload_n 2, 1) := by decide +kernel
theorem dL_law_728 : decode cL_law 728 = .ok (.invokevirtual 160, 3) := by decide +kernel
theorem dL_law_731 : decode cL_law 731 = .ok (.if_icmp .eq 1392, 3) := by decide +kernel
theorem dL_law_734 : decode cL_law 734 = .ok (.iconst 0, 1) := by decide +kernel
theorem dL_law_735 : decode cL_law 735 = .ok (.ireturn, 1) := by decide +kernel
theorem dL_law_736 : decode cL_law 736 = .ok (.aload_n 1, 1) := by decide +kernel
theorem dL_law_737 : decode cL_law 737 = .ok (.aload_n 0, 1) := by decide +kernel
theorem dL_law_738 : decode cL_law 738 = .ok (.iload 5, 2) := by decide +kernel
theorem dL_law_740 : decode cL_law 740 = .ok (.iconst 1, 1) := by decide +kernel
theorem dL_law_741 : decode cL_law 741 = .ok (.iadd, 1) := by decide +kernel
theorem dL_law_742 : decode cL_law 742 = .ok (.iaload, 1) := by decide +kernel
theorem dL_law_743 : decode cL_law 743 = .ok (.aload_n 3, 1) := by decide +kernel
theorem dL_law_744 : decode cL_law 744 = .ok (.invokestatic 161, 3) := by decide +kernel
theorem dL_law_747 : decode cL_law 747 = .ok (.istore 6, 2) := by decide +kernel
theorem dL_law_749 : decode cL_law 749 = .ok (.aload_n 2, 1) := by decide +kernel
theorem dL_law_750 : decode cL_law 750 = .ok (.aload_n 0, 1) := by decide +kernel
theorem dL_law_751 : decode cL_law 751 = .ok (.iload 5, 2) := by decide +kernel
theorem dL_law_753 : decode cL_law 753 = .ok (.iconst 1, 1) := by decide +kernel
theorem dL_law_754 : decode cL_law 754 = .ok (.iadd, 1) := by decide +kernel
theorem dL_law_755 : decode cL_law 755 = .ok (.iaload, 1) := by decide +kernel
theorem dL_law_756 : decode cL_law 756 = .ok (.invokevirtual 163, 3) := by decide +kernel
theorem dL_law_759 : decode cL_law 759 = .ok (.istore 7, 2) := by decide +kernel
theorem dL_law_761 : decode cL_law 761 = .ok (.aload_n 2, 1) := by decide +kernel
theorem dL_law_762 : decode cL_law 762 = .ok (.invokevirtual 129, 3) := by decide +kernel
theorem dL_law_765 : decode cL_law 765 = .ok (.iload 6, 2) := by decide +kernel
theorem dL_law_767 : decode cL_law 767 = .ok (.if_icmp .eq 5, 3) := by decide +kernel
theorem dL_law_770 : decode cL_law 770 = .ok (.iconst 0, 1) := by decide +kernel
theorem dL_law_771 : decode cL_law 771 = .ok (.ireturn, 1) := by decide +kernel
theorem dL_law_772 : decode cL_law 772 = .ok (.iload 6, 2) := by decide +kernel
theorem dL_law_774 : decode cL_law 774 = .ok (.ifCond .ne 15, 3) := by decide +kernel
theorem dL_law_777 : decode cL_law 777 = .ok (.aload_n 3, 1) := by decide +kernel
theorem dL_law_778 : decode cL_law 778 = .ok (.iconst 0, 1) := by decide +kernel
theorem dL_law_779 : decode cL_law 779 = .ok (.laload, 1) := by decide +kernel
theorem dL_law_780 : decode cL_law 780 = .ok (.iload 7, 2) := by decide +kernel
theorem dL_law_782 : decode cL_law 782 = .ok (.i2l, 1) := by decide +kernel
theorem dL_law_783 : decode cL_law 783 = .ok (.lcmp, 1) := by decide +kernel
theorem dL_law_784 : decode cL_law 784 = .ok (.ifCond .eq 5, 3) := by decide +kernel
theorem dL_law_787 : decode cL_law 787 = .ok (.iconst 0, 1) := by decide +kernel
theorem dL_law_788 : decode cL_law 788 = .ok (.ireturn, 1) := by decide +kernel
theorem dL_law_789 : decode cL_law 789 = .ok (.goto 1334, 3) := by decide +kernel
theorem dL_law_792 : decode cL_law 792 = .ok (.aload_n 1, 1) := by decide +kernel
theorem dL_law_793 : decode cL_law 793 = .ok (.aload_n 0, 1) := by decide +kernel
theorem dL_law_794 : decode cL_law 794 = .ok (.iload 5, 2) := by decide +kernel
theorem dL_law_796 : decode cL_law 796 = .ok (.iconst 1, 1) := by decide +kernel
theorem dL_law_797 : decode cL_law 797 = .ok (.iadd, 1) := by decide +kernel
theorem dL_law_798 : decode cL_law 798 = .ok (.iaload, 1) := by decide +kernel
theorem dL_law_799 : decode cL_law 799 = .ok (.aload_n 0, 1) := by decide +kernel
theorem dL_law_800 : decode cL_law 800 = .ok (.iload 5, 2) := by decide +kernel
theorem dL_law_802 : decode cL_law 802 = .ok (.iconst 2, 1) := by decide +kernel
theorem dL_law_803 : decode cL_law 803 = .ok (.iadd, 1) := by decide +kernel
theorem dL_law_804 : decode cL_law 804 = .ok (.iaload, 1) := by decide +kernel
theorem dL_law_805 : decode cL_law 805 = .ok (.aload_n 3, 1) := by decide +kernel
theorem dL_law_806 : decode cL_law 806 = .ok (.invokestatic 164, 3) := by decide +kernel
theorem dL_law_809 : decode cL_law 809 = .ok (.istore 6, 2) := by decide +kernel
theorem dL_law_811 : decode cL_law 811 = .ok (.aload_n 2, 1) := by decide +kernel
theorem dL_law_812 : decode cL_law 812 = .ok (.aload_n 0, 1) := by decide +kernel
theorem dL_law_813 : decode cL_law 813 = .ok (.iload 5, 2) := by decide +kernel
theorem dL_law_815 : decode cL_law 815 = .ok (.iconst 1, 1) := by decide +kernel
theorem dL_law_816 : decode cL_law 816 = .ok (.iadd, 1) := by decide +kernel
theorem dL_law_817 : decode cL_law 817 = .ok (.iaload, 1) := by decide +kernel
theorem dL_law_818 : decode cL_law 818 = .ok (.aload_n 0, 1) := by decide +kernel
theorem dL_law_819 : decode cL_law 819 = .ok (.iload 5, 2) := by decide +kernel
theorem dL_law_821 : decode cL_law 821 = .ok (.iconst 2, 1) := by decide +kernel
theorem dL_law_822 : decode cL_law 822 = .ok (.iadd, 1) := by decide +kernel
theorem dL_law_823 : decode cL_law 823 = .ok (.iaload, 1) := by decide +kernel
theorem dL_law_824 : decode cL_law 824 = .ok (.invokevirtual 166, 3) := by decide +kernel
theorem dL_law_827 : decode cL_law 827 = .ok (.istore 7, 2) := by decide +kernel
theorem dL_law_829 : decode cL_law 829 = .ok (.aload_n 2, 1) := by decide +kernel
theorem dL_law_830 : decode cL_law 830 = .ok (.invokevirtual 129, 3) := by decide +kernel
theorem dL_law_833 : decode cL_law 833 = .ok (.iload 6, 2) := by decide +kernel
theorem dL_law_835 : decode cL_law 835 = .ok (.if_icmp .eq 5, 3) := by decide +kernel
theorem dL_law_838 : decode cL_law 838 = .ok (.iconst 0, 1) := by decide +kernel
theorem dL_law_839 : decode cL_law 839 = .ok (.ireturn, 1) := by decide +kernel
theorem dL_law_840 : decode cL_law 840 = .ok (.iload 6, 2) := by decide +kernel
theorem dL_law_842 : decode cL_law 842 = .ok (.ifCond .ne 15, 3) := by decide +kernel
theorem dL_law_845 : decode cL_law 845 = .ok (.aload_n 3, 1) := by decide +kernel
theorem dL_law_846 : decode cL_law 846 = .ok (.iconst 0, 1) := by decide +kernel
theorem dL_law_847 : decode cL_law 847 = .ok (.laload, 1) := by decide +kernel
theorem dL_law_848 : decode cL_law 848 = .ok (.iload 7, 2) := by decide +kernel
theorem dL_law_850 : decode cL_law 850 = .ok (.i2l, 1) := by decide +kernel
theorem dL_law_851 : decode cL_law 851 = .ok (.lcmp, 1) := by decide +kernel
theorem dL_law_852 : decode cL_law 852 = .ok (.ifCond .eq 5, 3) := by decide +kernel
theorem dL_law_855 : decode cL_law 855 = .ok (.iconst 0, 1) := by decide +kernel
theorem dL_law_856 : decode cL_law 856 = .ok (.ireturn, 1) := by decide +kernel
theorem dL_law_857 : decode cL_law 857 = .ok (.goto 1266, 3) := by decide +kernel
theorem dL_law_860 : decode cL_law 860 = .ok (.aload_n 1, 1) := by decide +kernel
theorem dL_law_861 : decode cL_law 861 = .ok (.aload_n 0, 1) := by decide +kernel
theorem dL_law_862 : decode cL_law 862 = .ok (.iload 5, 2) := by decide +kernel
theorem dL_law_864 : decode cL_law 864 = .ok (.iconst 1, 1) := by decide +kernel
theorem dL_law_865 : decode cL_law 865 = .ok (.iadd, 1) := by decide +kernel
theorem dL_law_866 : decode cL_law 866 = .ok (.iaload, 1) := by decide +kernel
theorem dL_law_867 : decode cL_law 867 = .ok (.aload_n 0, 1) := by decide +kernel
theorem dL_law_868 : decode cL_law 868 = .ok (.iload 5, 2) := by decide +kernel
theorem dL_law_870 : decode cL_law 870 = .ok (.iconst 2, 1) := by decide +kernel
theorem dL_law_871 : decode cL_law 871 = .ok (.iadd, 1) := by decide +kernel
theorem dL_law_872 : decode cL_law 872 = .ok (.iaload, 1) := by decide +kernel
theorem dL_law_873 : decode cL_law 873 = .ok (.aload_n 3, 1) := by decide +kernel
theorem dL_law_874 : decode cL_law 874 = .ok (.invokestatic 167, 3) := by decide +kernel
theorem dL_law_877 : decode cL_law 877 = .ok (.istore 6, 2) := by decide +kernel
theorem dL_law_879 : decode cL_law 879 = .ok (.aload_n 2, 1) := by decide +kernel
theorem dL_law_880 : decode cL_law 880 = .ok (.aload_n 0, 1) := by decide +kernel
theorem dL_law_881 : decode cL_law 881 = .ok (.iload 5, 2) := by decide +kernel
theorem dL_law_883 : decode cL_law 883 = .ok (.iconst 1, 1) := by decide +kernel
theorem dL_law_884 : decode cL_law 884 = .ok (.iadd, 1) := by decide +kernel
theorem dL_law_885 : decode cL_law 885 = .ok (.iaload, 1) := by decide +kernel
theorem dL_law_886 : decode cL_law 886 = .ok (.aload_n 0, 1) := by decide +kernel
theorem dL_law_887 : decode cL_law 887 = .ok (.iload 5, 2) := by decide +kernel
theorem dL_law_889 : decode cL_law 889 = .ok (.iconst 2, 1) := by decide +kernel
theorem dL_law_890 : decode cL_law 890 = .ok (.iadd, 1) := by decide +kernel
theorem dL_law_891 : decode cL_law 891 = .ok (.iaload, 1) := by decide +kernel
theorem dL_law_892 : decode cL_law 892 = .ok (.invokevirtual 169, 3) := by decide +kernel
theorem dL_law_895 : decode cL_law 895 = .ok (.istore 7, 2) := by decide +kernel
theorem dL_law_897 : decode cL_law 897 = .ok (.aload_n 2, 1) := by decide +kernel
theorem dL_law_898 : decode cL_law 898 = .ok (.invokevirtual 129, 3) := by decide +kernel
theorem dL_law_901 : decode cL_law 901 = .ok (.iload 6, 2) := by decide +kernel
theorem dL_law_903 : decode cL_law 903 = .ok (.if_icmp .eq 5, 3) := by decide +kernel
theorem dL_law_906 : decode cL_law 906 = .ok (.iconst 0, 1) := by decide +kernel
theorem dL_law_907 : decode cL_law 907 = .ok (.ireturn, 1) := by decide +kernel
theorem dL_law_908 : decode cL_law 908 = .ok (.iload 6, 2) := by decide +kernel
theorem dL_law_910 : decode cL_law 910 = .ok (.ifCond .ne 15, 3) := by decide +kernel
theorem dL_law_913 : decode cL_law 913 = .ok (.aload_n 3, 1) := by decide +kernel
theorem dL_law_914 : decode cL_law 914 = .ok (.iconst 0, 1) := by decide +kernel
theorem dL_law_915 : decode cL_law 915 = .ok (.laload, 1) := by decide +kernel
theorem dL_law_916 : decode cL_law 916 = .ok (.iload 7, 2) := by decide +kernel
theorem dL_law_918 : decode cL_law 918 = .ok (.i2l, 1) := by decide +kernel
theorem dL_law_919 : decode cL_law 919 = .ok (.lcmp, 1) := by decide +kernel
theorem dL_law_920 : decode cL_law 920 = .ok (.ifCond .eq 5, 3) := by decide +kernel
theorem dL_law_923 : decode cL_law 923 = .ok (.iconst 0, 1) := by decide +kernel
theorem dL_law_924 : decode cL_law 924 = .ok (.ireturn, 1) := by decide +kernel
theorem dL_law_925 : decode cL_law 925 = .ok (.goto 1198, 3) := by decide +kernel
theorem dL_law_928 : decode cL_law 928 = .ok (.aload_n 1, 1) := by decide +kernel
theorem dL_law_929 : decode cL_law 929 = .ok (.aload_n 0, 1) := by decide +kernel
theorem dL_law_930 : decode cL_law 930 = .ok (.iload 5, 2) := by decide +kernel
theorem dL_law_932 : decode cL_law 932 = .ok (.iconst 1, 1) := by decide +kernel
theorem dL_law_933 : decode cL_law 933 = .ok (.iadd, 1) := by decide +kernel
theorem dL_law_934 : decode cL_law 934 = .ok (.iaload, 1) := by decide +kernel
theorem dL_law_935 : decode cL_law 935 = .ok (.aload_n 3, 1) := by decide +kernel
theorem dL_law_936 : decode cL_law 936 = .ok (.invokestatic 170, 3) := by decide +kernel
theorem dL_law_939 : decode cL_law 939 = .ok (.istore 6, 2) := by decide +kernel
theorem dL_law_941 : decode cL_law 941 = .ok (.aload_n 2, 1) := by decide +kernel
theorem dL_law_942 : decode cL_law 942 = .ok (.aload_n 0, 1) := by decide +kernel
theorem dL_law_943 : decode cL_law 943 = .ok (.iload 5, 2) := by decide +kernel
theorem dL_law_945 : decode cL_law 945 = .ok (.iconst 1, 1) := by decide +kernel
theorem dL_law_946 : decode cL_law 946 = .ok (.iadd, 1) := by decide +kernel
theorem dL_law_947 : decode cL_law 947 = .ok (.iaload, 1) := by decide +kernel
theorem dL_law_948 : decode cL_law 948 = .ok (.invokevirtual 172, 3) := by decide +kernel
theorem dL_law_951 : decode cL_law 951 = .ok (.istore 7, 2) := by decide +kernel
theorem dL_law_953 : decode cL_law 953 = .ok (.aload_n 2, 1) := by decide +kernel
theorem dL_law_954 : decode cL_law 954 = .ok (.invokevirtual 129, 3) := by decide +kernel
theorem dL_law_957 : decode cL_law 957 = .ok (.iload 6, 2) := by decide +kernel
theorem dL_law_959 : decode cL_law 959 = .ok (.if_icmp .eq 5, 3) := by decide +kernel
theorem dL_law_962 : decode cL_law 962 = .ok (.iconst 0, 1) := by decide +kernel
theorem dL_law_963 : decode cL_law 963 = .ok (.ireturn, 1) := by decide +kernel
theorem dL_law_964 : decode cL_law 964 = .ok (.iload 6, 2) := by decide +kernel
theorem dL_law_966 : decode cL_law 966 = .ok (.ifCond .ne 15, 3) := by decide +kernel
theorem dL_law_969 : decode cL_law 969 = .ok (.aload_n 3, 1) := by decide +kernel
theorem dL_law_970 : decode cL_law 970 = .ok (.iconst 0, 1) := by decide +kernel
theorem dL_law_971 : decode cL_law 971 = .ok (.laload, 1) := by decide +kernel
theorem dL_law_972 : decode cL_law 972 = .ok (.iload 7, 2) := by decide +kernel
theorem dL_law_974 : decode cL_law 974 = .ok (.i2l, 1) := by decide +kernel
theorem dL_law_975 : decode cL_law 975 = .ok (.lcmp, 1) := by decide +kernel
theorem dL_law_976 : decode cL_law 976 = .ok (.ifCond .eq 5, 3) := by decide +kernel
theorem dL_law_979 : decode cL_law 979 = .ok (.iconst 0, 1) := by decide +kernel
theorem dL_law_980 : decode cL_law 980 = .ok (.ireturn, 1) := by decide +kernel
theorem dL_law_981 : decode cL_law 981 = .ok (.goto 1142, 3) := by decide +kernel
theorem dL_law_984 : decode cL_law 984 = .ok (.aload_n 1, 1) := by decide +kernel
theorem dL_law_985 : decode cL_law 985 = .ok (.aload_n 0, 1) := by decide +kernel
theorem dL_law_986 : decode cL_law 986 = .ok (.iload 5, 2) := by decide +kernel
theorem dL_law_988 : decode cL_law 988 = .ok (.iconst 1, 1) := by decide +kernel
theorem dL_law_989 : decode cL_law 989 = .ok (.iadd, 1) := by decide +kernel
theorem dL_law_990 : decode cL_law 990 = .ok (.iaload, 1) := by decide +kernel
theorem dL_law_991 : decode cL_law 991 = .ok (.aload_n 0, 1) := by decide +kernel
theorem dL_law_992 : decode cL_law 992 = .ok (.iload 5, 2) := by decide +kernel
theorem dL_law_994 : decode cL_law 994 = .ok (.iconst 2, 1) := by decide +kernel
theorem dL_law_995 : decode cL_law 995 = .ok (.iadd, 1) := by decide +kernel
theorem dL_law_996 : decode cL_law 996 = .ok (.iaload, 1) := by decide +kernel
theorem dL_law_997 : decode cL_law 997 = .ok (.aload_n 3, 1) := by decide +kernel
theorem dL_law_998 : decode cL_law 998 = .ok (.invokestatic 173, 3) := by decide +kernel
theorem dL_law_1001 : decode cL_law 1001 = .ok (.istore 6, 2) := by decide +kernel
theorem dL_law_1003 : decode cL_law 1003 = .ok (.aload_n 2, 1) := by decide +kernel
theorem dL_law_1004 : decode cL_law 1004 = .ok (.aload_n 0, 1) := by decide +kernel
theorem dL_law_1005 : decode cL_law 1005 = .ok (.iload 5, 2) := by decide +kernel
theorem dL_law_1007 : decode cL_law 1007 = .ok (.iconst 1, 1) := by decide +kernel
theorem dL_law_1008 : decode cL_law 1008 = .ok (.iadd, 1) := by decide +kernel
theorem dL_law_1009 : decode cL_law 1009 = .ok (.iaload, 1) := by decide +kernel
theorem dL_law_1010 : decode cL_law 1010 = .ok (.aload_n 0, 1) := by decide +kernel
theorem dL_law_1011 : decode cL_law 1011 = .ok (.iload 5, 2) := by decide +kernel
theorem dL_law_1013 : decode cL_law 1013 = .ok (.iconst 2, 1) := by decide +kernel
theorem dL_law_1014 : decode cL_law 1014 = .ok (.iadd, 1) := by decide +kernel
theorem dL_law_1015 : decode cL_law 1015 = .ok (.iaload, 1) := by decide +kernel
theorem dL_law_1016 : decode cL_law 1016 = .ok (.invokevirtual 175, 3) := by decide +kernel
theorem dL_law_1019 : decode cL_law 1019 = .ok (.istore 7, 2) := by decide +kernel
theorem dL_law_1021 : decode cL_law 1021 = .ok (.aload_n 2, 1) := by decide +kernel
theorem dL_law_1022 : decode cL_law 1022 = .ok (.invokevirtual 129, 3) := by decide +kernel
theorem dL_law_1025 : decode cL_law 1025 = .ok (.iload 6, 2) := by decide +kernel
theorem dL_law_1027 : decode cL_law 1027 = .ok (.if_icmp .eq 5, 3) := by decide +kernel
theorem dL_law_1030 : decode cL_law 1030 = .ok (.iconst 0, 1) := by decide +kernel
theorem dL_law_1031 : decode cL_law 1031 = .ok (.ireturn, 1) := by decide +kernel
theorem dL_law_1032 : decode cL_law 1032 = .ok (.iload 6, 2) := by decide +kernel
theorem dL_law_1034 : decode cL_law 1034 = .ok (.ifCond .ne 15, 3) := by decide +kernel
theorem dL_law_1037 : decode cL_law 1037 = .ok (.aload_n 3, 1) := by decide +kernel
theorem dL_law_1038 : decode cL_law 1038 = .ok (.iconst 0, 1) := by decide +kernel
theorem dL_law_1039 : decode cL_law 1039 = .ok (.laload, 1) := by decide +kernel
theorem dL_law_1040 : decode cL_law 1040 = .ok (.iload 7, 2) := by decide +kernel
theorem dL_law_1042 : decode cL_law 1042 = .ok (.i2l, 1) := by decide +kernel
theorem dL_law_1043 : decode cL_law 1043 = .ok (.lcmp, 1) := by decide +kernel
theorem dL_law_1044 : decode cL_law 1044 = .ok (.ifCond .eq 5, 3) := by decide +kernel
theorem dL_law_1047 : decode cL_law 1047 = .ok (.iconst 0, 1) := by decide +kernel
theorem dL_law_1048 : decode cL_law 1048 = .ok (.ireturn, 1) := by decide +kernel
theorem dL_law_1049 : decode cL_law 1049 = .ok (.goto 1074, 3) := by decide +kernel
theorem dL_law_1052 : decode cL_law 1052 = .ok (.aload_n 1, 1) := by decide +kernel
theorem dL_law_1053 : decode cL_law 1053 = .ok (.invokevirtual 176, 3) := by decide +kernel
theorem dL_law_1056 : decode cL_law 1056 = .ok (.aload_n 2, 1) := by decide +kernel
theorem dL_law_1057 : decode cL_law 1057 = .ok (.invokevirtual 179, 3) := by decide +kernel
theorem dL_law_1060 : decode cL_law 1060 = .ok (.if_icmp .eq 1063, 3) := by decide +kernel
theorem dL_law_1063 : decode cL_law 1063 = .ok (.iconst 0, 1) := by decide +kernel
theorem dL_law_1064 : decode cL_law 1064 = .ok (.ireturn, 1) := by decide +kernel
theorem dL_law_1065 : decode cL_law 1065 = .ok (.aload_n 1, 1) := by decide +kernel
theorem dL_law_1066 : decode cL_law 1066 = .ok (.aload_n 0, 1) := by decide +kernel
theorem dL_law_1067 : decode cL_law 1067 = .ok (.iload 5, 2) := by decide +kernel
theorem dL_law_1069 : decode cL_law 1069 = .ok (.iconst 1, 1) := by decide +kernel
theorem dL_law_1070 : decode cL_law 1070 = .ok (.iadd, 1) := by decide +kernel
theorem dL_law_1071 : decode cL_law 1071 = .ok (.iaload, 1) := by decide +kernel
theorem dL_law_1072 : decode cL_law 1072 = .ok (.aload_n 3, 1) := by decide +kernel
theorem dL_law_1073 : decode cL_law 1073 = .ok (.invokestatic 180, 3) := by decide +kernel
theorem dL_law_1076 : decode cL_law 1076 = .ok (.istore 6, 2) := by decide +kernel
theorem dL_law_1078 : decode cL_law 1078 = .ok (.aload_n 2, 1) := by decide +kernel
theorem dL_law_1079 : decode cL_law 1079 = .ok (.aload_n 0, 1) := by decide +kernel
theorem dL_law_1080 : decode cL_law 1080 = .ok (.iload 5, 2) := by decide +kernel
theorem dL_law_1082 : decode cL_law 1082 = .ok (.iconst 1, 1) := by decide +kernel
theorem dL_law_1083 : decode cL_law 1083 = .ok (.iadd, 1) := by decide +kernel
theorem dL_law_1084 : decode cL_law 1084 = .ok (.iaload, 1) := by decide +kernel
theorem dL_law_1085 : decode cL_law 1085 = .ok (.invokevirtual 182, 3) := by decide +kernel
theorem dL_law_1088 : decode cL_law 1088 = .ok (.istore 7, 2) := by decide +kernel
theorem dL_law_1090 : decode cL_law 1090 = .ok (.aload_n 2, 1) := by decide +kernel
theorem dL_law_1091 : decode cL_law 1091 = .ok (.invokevirtual 129, 3) := by decide +kernel
theorem dL_law_1094 : decode cL_law 1094 = .ok (.iload 6, 2) := by decide +kernel
theorem dL_law_1096 : decode cL_law 1096 = .ok (.if_icmp .eq 5, 3) := by decide +kernel
theorem dL_law_1099 : decode cL_law 1099 = .ok (.iconst 0, 1) := by decide +kernel
theorem dL_law_1100 : decode cL_law 1100 = .ok (.ireturn, 1) := by decide +kernel
theorem dL_law_1101 : decode cL_law 1101 = .ok (.iload 6, 2) := by decide +kernel
theorem dL_law_1103 : decode cL_law 1103 = .ok (.ifCond .ne 15, 3) := by decide +kernel
theorem dL_law_1106 : decode cL_law 1106 = .ok (.aload_n 3, 1) := by decide +kernel
theorem dL_law_1107 : decode cL_law 1107 = .ok (.iconst 0, 1) := by decide +kernel
theorem dL_law_1108 : decode cL_law 1108 = .ok (.laload, 1) := by decide +kernel
theorem dL_law_1109 : decode cL_law 1109 = .ok (.iload 7, 2) := by decide +kernel
theorem dL_law_1111 : decode cL_law 1111 = .ok (.i2l, 1) := by decide +kernel
theorem dL_law_1112 : decode cL_law 1112 = .ok (.lcmp, 1) := by decide +kernel
theorem dL_law_1113 : decode cL_law 1113 = .ok (.ifCond .eq 5, 3) := by decide +kernel
theorem dL_law_1116 : decode cL_law 1116 = .ok (.iconst 0, 1) := by decide +kernel
theorem dL_law_1117 : decode cL_law 1117 = .ok (.ireturn, 1) := by decide +kernel
theorem dL_law_1118 : decode cL_law 1118 = .ok (.goto 1005, 3) := by decide +kernel
theorem dL_law_1121 : decode cL_law 1121 = .ok (.aload_n 1, 1) := by decide +kernel
theorem dL_law_1122 : decode cL_law 1122 = .ok (.aload_n 0, 1) := by decide +kernel
theorem dL_law_1123 : decode cL_law 1123 = .ok (.iload 5, 2) := by decide +kernel
theorem dL_law_1125 : decode cL_law 1125 = .ok (.iconst 1, 1) := by decide +kernel
theorem dL_law_1126 : decode cL_law 1126 = .ok (.iadd, 1) := by decide +kernel
theorem dL_law_1127 : decode cL_law 1127 = .ok (.iaload, 1) := by decide +kernel
theorem dL_law_1128 : decode cL_law 1128 = .ok (.aload_n 3, 1) := by decide +kernel
theorem dL_law_1129 : decode cL_law 1129 = .ok (.invokestatic 183, 3) := by decide +kernel
theorem dL_law_1132 : decode cL_law 1132 = .ok (.istore 6, 2) := by decide +kernel
theorem dL_law_1134 : decode cL_law 1134 = .ok (.aload_n 2, 1) := by decide +kernel
theorem dL_law_1135 : decode cL_law 1135 = .ok (.aload_n 0, 1) := by decide +kernel
theorem dL_law_1136 : decode cL_law 1136 = .ok (.iload 5, 2) := by decide +kernel
theorem dL_law_1138 : decode cL_law 1138 = .ok (.iconst 1, 1) := by decide +kernel
theorem dL_law_1139 : decode cL_law 1139 = .ok (.iadd, 1) := by decide +kernel
theorem dL_law_1140 : decode cL_law 1140 = .ok (.iaload, 1) := by decide +kernel
theorem dL_law_1141 : decode cL_law 1141 = .ok (.invokevirtual 185, 3) := by decide +kernel
theorem dL_law_1144 : decode cL_law 1144 = .ok (.istore 7, 2) := by decide +kernel
theorem dL_law_1146 : decode cL_law 1146 = .ok (.aload_n 2, 1) := by decide +kernel
theorem dL_law_1147 : decode cL_law 1147 = .ok (.invokevirtual 129, 3) := by decide +kernel
theorem dL_law_1150 : decode cL_law 1150 = .ok (.iload 6, 2) := by decide +kernel
theorem dL_law_1152 : decode cL_law 1152 = .ok (.if_icmp .eq 5, 3) := by decide +kernel
theorem dL_law_1155 : decode cL_law 1155 = .ok (.iconst 0, 1) := by decide +kernel
theorem dL_law_1156 : decode cL_law 1156 = .ok (.ireturn, 1) := by decide +kernel
theorem dL_law_1157 : decode cL_law 1157 = .ok (.iload 6, 2) := by decide +kernel
theorem dL_law_1159 : decode cL_law 1159 = .ok (.ifCond .ne 15, 3) := by decide +kernel
theorem dL_law_1162 : decode cL_law 1162 = .ok (.aload_n 3, 1) := by decide +kernel
theorem dL_law_1163 : decode cL_law 1163 = .ok (.iconst 0, 1) := by decide +kernel
theorem dL_law_1164 : decode cL_law 1164 = .ok (.laload, 1) := by decide +kernel
theorem dL_law_1165 : decode cL_law 1165 = .ok (.iload 7, 2) := by decide +kernel
theorem dL_law_1167 : decode cL_law 1167 = .ok (.i2l, 1) := by decide +kernel
theorem dL_law_1168 : decode cL_law 1168 = .ok (.lcmp, 1) := by decide +kernel
theorem dL_law_1169 : decode cL_law 1169 = .ok (.ifCond .eq 5, 3) := by decide +kernel
theorem dL_law_1172 : decode cL_law 1172 = .ok (.iconst 0, 1) := by decide +kernel
theorem dL_law_1173 : decode cL_law 1173 = .ok (.ireturn, 1) := by decide +kernel
theorem dL_law_1174 : decode cL_law 1174 = .ok (.goto 949, 3) := by decide +kernel
theorem dL_law_1177 : decode cL_law 1177 = .ok (.aload_n 1, 1) := by decide +kernel
theorem dL_law_1178 : decode cL_law 1178 = .ok (.aload_n 0, 1) := by decide +kernel
theorem dL_law_1179 : decode cL_law 1179 = .ok (.iload 5, 2) := by decide +kernel
theorem dL_law_1181 : decode cL_law 1181 = .ok (.iconst 1, 1) := by decide +kernel
theorem dL_law_1182 : decode cL_law 1182 = .ok (.iadd, 1) := by decide +kernel
theorem dL_law_1183 : decode cL_law 1183 = .ok (.iaload, 1) := by decide +kernel
theorem dL_law_1184 : decode cL_law 1184 = .ok (.aload_n 3, 1) := by decide +kernel
theorem dL_law_1185 : decode cL_law 1185 = .ok (.invokestatic 186, 3) := by decide +kernel
theorem dL_law_1188 : decode cL_law 1188 = .ok (.istore 6, 2) := by decide +kernel
theorem dL_law_1190 : decode cL_law 1190 = .ok (.aload_n 2, 1) := by decide +kernel
theorem dL_law_1191 : decode cL_law 1191 = .ok (.aload_n 0, 1) := by decide +kernel
theorem dL_law_1192 : decode cL_law 1192 = .ok (.iload 5, 2) := by decide +kernel
theorem dL_law_1194 : decode cL_law 1194 = .ok (.iconst 1, 1) := by decide +kernel
theorem dL_law_1195 : decode cL_law 1195 = .ok (.iadd, 1) := by decide +kernel
theorem dL_law_1196 : decode cL_law 1196 = .ok (.iaload, 1) := by decide +kernel
theorem dL_law_1197 : decode cL_law 1197 = .ok (.invokevirtual 188, 3) := by decide +kernel
theorem dL_law_1200 : decode cL_law 1200 = .ok (.istore 7, 2) := by decide +kernel
theorem dL_law_1202 : decode cL_law 1202 = .ok (.aload_n 2, 1) := by decide +kernel
theorem dL_law_1203 : decode cL_law 1203 = .ok (.invokevirtual 129, 3) := by decide +kernel
theorem dL_law_1206 : decode cL_law 1206 = .ok (.iload 6, 2) := by decide +kernel
theorem dL_law_1208 : decode cL_law 1208 = .ok (.if_icmp .eq 5, 3) := by decide +kernel
theorem dL_law_1211 : decode cL_law 1211 = .ok (.iconst 0, 1) := by decide +kernel
theorem dL_law_1212 : decode cL_law 1212 = .ok (.ireturn, 1) := by decide +kernel
theorem dL_law_1213 : decode cL_law 1213 = .ok (.iload 6, 2) := by decide +kernel
theorem dL_law_1215 : decode cL_law 1215 = .ok (.ifCond .ne 15, 3) := by decide +kernel
theorem dL_law_1218 : decode cL_law 1218 = .ok (.aload_n 3, 1) := by decide +kernel
theorem dL_law_1219 : decode cL_law 1219 = .ok (.iconst 0, 1) := by decide +kernel
theorem dL_law_1220 : decode cL_law 1220 = .ok (.laload, 1) := by decide +kernel
theorem dL_law_1221 : decode cL_law 1221 = .ok (.iload 7, 2) := by decide +kernel
theorem dL_law_1223 : decode cL_law 1223 = .ok (.i2l, 1) := by decide +kernel
theorem dL_law_1224 : decode cL_law 1224 = .ok (.lcmp, 1) := by decide +kernel
theorem dL_law_1225 : decode cL_law 1225 = .ok (.ifCond .eq 5, 3) := by decide +kernel
theorem dL_law_1228 : decode cL_law 1228 = .ok (.iconst 0, 1) := by decide +kernel
theorem dL_law_1229 : decode cL_law 1229 = .ok (.ireturn, 1) := by decide +kernel
theorem dL_law_1230 : decode cL_law 1230 = .ok (.goto 893, 3) := by decide +kernel
theorem dL_law_1233 : decode cL_law 1233 = .ok (.aload_n 1, 1) := by decide +kernel
theorem dL_law_1234 : decode cL_law 1234 = .ok (.aload_n 0, 1) := by decide +kernel
theorem dL_law_1235 : decode cL_law 1235 = .ok (.iload 5, 2) := by decide +kernel
theorem dL_law_1237 : decode cL_law 1237 = .ok (.iconst 1, 1) := by decide +kernel
theorem dL_law_1238 : decode cL_law 1238 = .ok (.iadd, 1) := by decide +kernel
theorem dL_law_1239 : decode cL_law 1239 = .ok (.iaload, 1) := by decide +kernel
theorem dL_law_1240 : decode cL_law 1240 = .ok (.aload_n 3, 1) := by decide +kernel
theorem dL_law_1241 : decode cL_law 1241 = .ok (.invokestatic 189, 3) := by decide +kernel
theorem dL_law_1244 : decode cL_law 1244 = .ok (.istore 6, 2) := by decide +kernel
theorem dL_law_1246 : decode cL_law 1246 = .ok (.aload_n 2, 1) := by decide +kernel
theorem dL_law_1247 : decode cL_law 1247 = .ok (.aload_n 0, 1) := by decide +kernel
theorem dL_law_1248 : decode cL_law 1248 = .ok (.iload 5, 2) := by decide +kernel
theorem dL_law_1250 : decode cL_law 1250 = .ok (.iconst 1, 1) := by decide +kernel
theorem dL_law_1251 : decode cL_law 1251 = .ok (.iadd, 1) := by decide +kernel
theorem dL_law_1252 : decode cL_law 1252 = .ok (.iaload, 1) := by decide +kernel
theorem dL_law_1253 : decode cL_law 1253 = .ok (.invokevirtual 191, 3) := by decide +kernel
theorem dL_law_1256 : decode cL_law 1256 = .ok (.istore 7, 2) := by decide +kernel
theorem dL_law_1258 : decode cL_law 1258 = .ok (.aload_n 2, 1) := by decide +kernel
theorem dL_law_1259 : decode cL_law 1259 = .ok (.invokevirtual 129, 3) := by decide +kernel
theorem dL_law_1262 : decode cL_law 1262 = .ok (.iload 6, 2) := by decide +kernel
theorem dL_law_1264 : decode cL_law 1264 = .ok (.if_icmp .eq 5, 3) := by decide +kernel
theorem dL_law_1267 : decode cL_law 1267 = .ok (.iconst 0, 1) := by decide +kernel
theorem dL_law_1268 : decode cL_law 1268 = .ok (.ireturn, 1) := by decide +kernel
theorem dL_law_1269 : decode cL_law 1269 = .ok (.iload 6, 2) := by decide +kernel
theorem dL_law_1271 : decode cL_law 1271 = .ok (.ifCond .ne 15, 3) := by decide +kernel
theorem dL_law_1274 : decode cL_law 1274 = .ok (.aload_n 3, 1) := by decide +kernel
theorem dL_law_1275 : decode cL_law 1275 = .ok (.iconst 0, 1) := by decide +kernel
theorem dL_law_1276 : decode cL_law 1276 = .ok (.laload, 1) := by decide +kernel
theorem dL_law_1277 : decode cL_law 1277 = .ok (.iload 7, 2) := by decide +kernel
theorem dL_law_1279 : decode cL_law 1279 = .ok (.i2l, 1) := by decide +kernel
theorem dL_law_1280 : decode cL_law 1280 = .ok (.lcmp, 1) := by decide +kernel
theorem dL_law_1281 : decode cL_law 1281 = .ok (.ifCond .eq 5, 3) := by decide +kernel
theorem dL_law_1284 : decode cL_law 1284 = .ok (.iconst 0, 1) := by decide +kernel
theorem dL_law_1285 : decode cL_law 1285 = .ok (.ireturn, 1) := by decide +kernel
theorem dL_law_1286 : decode cL_law 1286 = .ok (.goto 837, 3) := by decide +kernel
theorem dL_law_1289 : decode cL_law 1289 = .ok (.aload_n 1, 1) := by decide +kernel
theorem dL_law_1290 : decode cL_law 1290 = .ok (.aload_n 0, 1) := by decide +kernel
theorem dL_law_1291 : decode cL_law 1291 = .ok (.iload 5, 2) := by decide +kernel
theorem dL_law_1293 : decode cL_law 1293 = .ok (.iconst 1, 1) := by decide +kernel
theorem dL_law_1294 : decode cL_law 1294 = .ok (.iadd, 1) := by decide +kernel
theorem dL_law_1295 : decode cL_law 1295 = .ok (.iaload, 1) := by decide +kernel
theorem dL_law_1296 : decode cL_law 1296 = .ok (.aload_n 3, 1) := by decide +kernel
theorem dL_law_1297 : decode cL_law 1297 = .ok (.invokestatic 192, 3) := by decide +kernel
theorem dL_law_1300 : decode cL_law 1300 = .ok (.istore 6, 2) := by decide +kernel
theorem dL_law_1302 : decode cL_law 1302 = .ok (.aload_n 2, 1) := by decide +kernel
theorem dL_law_1303 : decode cL_law 1303 = .ok (.aload_n 0, 1) := by decide +kernel
theorem dL_law_1304 : decode cL_law 1304 = .ok (.iload 5, 2) := by decide +kernel
theorem dL_law_1306 : decode cL_law 1306 = .ok (.iconst 1, 1) := by decide +kernel
theorem dL_law_1307 : decode cL_law 1307 = .ok (.iadd, 1) := by decide +kernel
theorem dL_law_1308 : decode cL_law 1308 = .ok (.iaload, 1) := by decide +kernel
theorem dL_law_1309 : decode cL_law 1309 = .ok (.invokevirtual 194, 3) := by decide +kernel
theorem dL_law_1312 : decode cL_law 1312 = .ok (.istore 7, 2) := by decide +kernel
theorem dL_law_1314 : decode cL_law 1314 = .ok (.aload_n 2, 1) := by decide +kernel
theorem dL_law_1315 : decode cL_law 1315 = .ok (.invokevirtual 129, 3) := by decide +kernel
theorem dL_law_1318 : decode cL_law 1318 = .ok (.iload 6, 2) := by decide +kernel
theorem dL_law_1320 : decode cL_law 1320 = .ok (.if_icmp .eq 5, 3) := by decide +kernel
theorem dL_law_1323 : decode cL_law 1323 = .ok (.iconst 0, 1) := by decide +kernel
theorem dL_law_1324 : decode cL_law 1324 = .ok (.ireturn, 1) := by decide +kernel
theorem dL_law_1325 : decode cL_law 1325 = .ok (.iload 6, 2) := by decide +kernel
theorem dL_law_1327 : decode cL_law 1327 = .ok (.ifCond .ne 15, 3) := by decide +kernel
theorem dL_law_1330 : decode cL_law 1330 = .ok (.aload_n 3, 1) := by decide +kernel
theorem dL_law_1331 : decode cL_law 1331 = .ok (.iconst 0, 1) := by decide +kernel
theorem dL_law_1332 : decode cL_law 1332 = .ok (.laload, 1) := by decide +kernel
theorem dL_law_1333 : decode cL_law 1333 = .ok (.iload 7, 2) := by decide +kernel
theorem dL_law_1335 : decode cL_law 1335 = .ok (.i2l, 1) := by decide +kernel
theorem dL_law_1336 : decode cL_law 1336 = .ok (.lcmp, 1) := by decide +kernel
theorem dL_law_1337 : decode cL_law 1337 = .ok (.ifCond .eq 5, 3) := by decide +kernel
theorem dL_law_1340 : decode cL_law 1340 = .ok (.iconst 0, 1) := by decide +kernel
theorem dL_law_1341 : decode cL_law 1341 = .ok (.ireturn, 1) := by decide +kernel
theorem dL_law_1342 : decode cL_law 1342 = .ok (.goto 781, 3) := by decide +kernel
theorem dL_law_1345 : decode cL_law 1345 = .ok (.aload_n 1, 1) := by decide +kernel
theorem dL_law_1346 : decode cL_law 1346 = .ok (.aload_n 0, 1) := by decide +kernel
theorem dL_law_1347 : decode cL_law 1347 = .ok (.iload 5, 2) := by decide +kernel
theorem dL_law_1349 : decode cL_law 1349 = .ok (.iconst 1, 1) := by decide +kernel
theorem dL_law_1350 : decode cL_law 1350 = .ok (.iadd, 1) := by decide +kernel
theorem dL_law_1351 : decode cL_law 1351 = .ok (.iaload, 1) := by decide +kernel
theorem dL_law_1352 : decode cL_law 1352 = .ok (.aload_n 3, 1) := by decide +kernel
theorem dL_law_1353 : decode cL_law 1353 = .ok (.invokestatic 195, 3) := by decide +kernel
theorem dL_law_1356 : decode cL_law 1356 = .ok (.istore 6, 2) := by decide +kernel
theorem dL_law_1358 : decode cL_law 1358 = .ok (.aload_n 2, 1) := by decide +kernel
theorem dL_law_1359 : decode cL_law 1359 = .ok (.aload_n 0, 1) := by decide +kernel
theorem dL_law_1360 : decode cL_law 1360 = .ok (.iload 5, 2) := by decide +kernel
theorem dL_law_1362 : decode cL_law 1362 = .ok (.iconst 1, 1) := by decide +kernel
theorem dL_law_1363 : decode cL_law 1363 = .ok (.iadd, 1) := by decide +kernel
theorem dL_law_1364 : decode cL_law 1364 = .ok (.iaload, 1) := by decide +kernel
theorem dL_law_1365 : decode cL_law 1365 = .ok (.invokevirtual 197, 3) := by decide +kernel
theorem dL_law_1368 : decode cL_law 1368 = .ok (.istore 7, 2) := by decide +kernel
theorem dL_law_1370 : decode cL_law 1370 = .ok (.aload_n 2, 1) := by decide +kernel
theorem dL_law_1371 : decode cL_law 1371 = .ok (.invokevirtual 129, 3) := by decide +kernel
theorem dL_law_1374 : decode cL_law 1374 = .ok (.iload 6, 2) := by decide +kernel
theorem dL_law_1376 : decode cL_law 1376 = .ok (.if_icmp .eq 5, 3) := by decide +kernel
theorem dL_law_1379 : decode cL_law 1379 = .ok (.iconst 0, 1) := by decide +kernel
theorem dL_law_1380 : decode cL_law 1380 = .ok (.ireturn, 1) := by decide +kernel
theorem dL_law_1381 : decode cL_law 1381 = .ok (.iload 6, 2) := by decide +kernel
theorem dL_law_1383 : decode cL_law 1383 = .ok (.ifCond .ne 15, 3) := by decide +kernel
theorem dL_law_1386 : decode cL_law 1386 = .ok (.aload_n 3, 1) := by decide +kernel
theorem dL_law_1387 : decode cL_law 1387 = .ok (.iconst 0, 1) := by decide +kernel
theorem dL_law_1388 : decode cL_law 1388 = .ok (.laload, 1) := by decide +kernel
theorem dL_law_1389 : decode cL_law 1389 = .ok (.iload 7, 2) := by decide +kernel
theorem dL_law_1391 : decode cL_law 1391 = .ok (.i2l, 1) := by decide +kernel
theorem dL_law_1392 : decode cL_law 1392 = .ok (.lcmp, 1) := by decide +kernel
theorem dL_law_1393 : decode cL_law 1393 = .ok (.ifCond .eq 5, 3) := by decide +kernel
theorem dL_law_1396 : decode cL_law 1396 = .ok (.iconst 0, 1) := by decide +kernel
theorem dL_law_1397 : decode cL_law 1397 = .ok (.ireturn, 1) := by decide +kernel
theorem dL_law_1398 : decode cL_law 1398 = .ok (.goto 725, 3) := by decide +kernel
theorem dL_law_1401 : decode cL_law 1401 = .ok (.aload_n 1, 1) := by decide +kernel
theorem dL_law_1402 : decode cL_law 1402 = .ok (.aload_n 0, 1) := by decide +kernel
theorem dL_law_1403 : decode cL_law 1403 = .ok (.iload 5, 2) := by decide +kernel
theorem dL_law_1405 : decode cL_law 1405 = .ok (.iconst 1, 1) := by decide +kernel
theorem dL_law_1406 : decode cL_law 1406 = .ok (.iadd, 1) := by decide +kernel
theorem dL_law_1407 : decode cL_law 1407 = .ok (.iaload, 1) := by decide +kernel
theorem dL_law_1408 : decode cL_law 1408 = .ok (.aload_n 3, 1) := by decide +kernel
theorem dL_law_1409 : decode cL_law 1409 = .ok (.invokestatic 198, 3) := by decide +kernel
theorem dL_law_1412 : decode cL_law 1412 = .ok (.istore 6, 2) := by decide +kernel
theorem dL_law_1414 : decode cL_law 1414 = .ok (.aload_n 2, 1) := by decide +kernel
theorem dL_law_1415 : decode cL_law 1415 = .ok (.aload_n 0, 1) := by decide +kernel
theorem dL_law_1416 : decode cL_law 1416 = .ok (.iload 5, 2) := by decide +kernel
theorem dL_law_1418 : decode cL_law 1418 = .ok (.iconst 1, 1) := by decide +kernel
theorem dL_law_1419 : decode cL_law 1419 = .ok (.iadd, 1) := by decide +kernel
theorem dL_law_1420 : decode cL_law 1420 = .ok (.iaload, 1) := by decide +kernel
theorem dL_law_1421 : decode cL_law 1421 = .ok (.invokevirtual 200, 3) := by decide +kernel
theorem dL_law_1424 : decode cL_law 1424 = .ok (.istore 7, 2) := by decide +kernel
theorem dL_law_1426 : decode cL_law 1426 = .ok (.aload_n 2, 1) := by decide +kernel
theorem dL_law_1427 : decode cL_law 1427 = .ok (.invokevirtual 129, 3) := by decide +kernel
theorem dL_law_1430 : decode cL_law 1430 = .ok (.iload 6, 2) := by decide +kernel
theorem dL_law_1432 : decode cL_law 1432 = .ok (.if_icmp .eq 5, 3) := by decide +kernel
theorem dL_law_1435 : decode cL_law 1435 = .ok (.iconst 0, 1) := by decide +kernel
theorem dL_law_1436 : decode cL_law 1436 = .ok (.ireturn, 1) := by decide +kernel
theorem dL_law_1437 : decode cL_law 1437 = .ok (.iload 6, 2) := by decide +kernel
theorem dL_law_1439 : decode cL_law 1439 = .ok (.ifCond .ne 15, 3) := by decide +kernel
theorem dL_law_1442 : decode cL_law 1442 = .ok (.aload_n 3, 1) := by decide +kernel
theorem dL_law_1443 : decode cL_law 1443 = .ok (.iconst 0, 1) := by decide +kernel
theorem dL_law_1444 : decode cL_law 1444 = .ok (.laload, 1) := by decide +kernel
theorem dL_law_1445 : decode cL_law 1445 = .ok (.iload 7, 2) := by decide +kernel
theorem dL_law_1447 : decode cL_law 1447 = .ok (.i2l, 1) := by decide +kernel
theorem dL_law_1448 : decode cL_law 1448 = .ok (.lcmp, 1) := by decide +kernel
theorem dL_law_1449 : decode cL_law 1449 = .ok (.ifCond .eq 5, 3) := by decide +kernel
theorem dL_law_1452 : decode cL_law 1452 = .ok (.iconst 0, 1) := by decide +kernel
theorem dL_law_1453 : decode cL_law 1453 = .ok (.ireturn, 1) := by decide +kernel
theorem dL_law_1454 : decode cL_law 1454 = .ok (.goto 669, 3) := by decide +kernel
theorem dL_law_1457 : decode cL_law 1457 = .ok (.aload_n 1, 1) := by decide +kernel
theorem dL_law_1458 : decode cL_law 1458 = .ok (.aload_n 0, 1) := by decide +kernel
theorem dL_law_1459 : decode cL_law 1459 = .ok (.iload 5, 2) := by decide +kernel
theorem dL_law_1461 : decode cL_law 1461 = .ok (.iconst 1, 1) := by decide +kernel
theorem dL_law_1462 : decode cL_law 1462 = .ok (.iadd, 1) := by decide +kernel
theorem dL_law_1463 : decode cL_law 1463 = .ok (.iaload, 1) := by decide +kernel
theorem dL_law_1464 : decode cL_law 1464 = .ok (.aload_n 3, 1) := by decide +kernel
theorem dL_law_1465 : decode cL_law 1465 = .ok (.invokestatic 201, 3) := by decide +kernel
theorem dL_law_1468 : decode cL_law 1468 = .ok (.istore 6, 2) := by decide +kernel
theorem dL_law_1470 : decode cL_law 1470 = .ok (.aload_n 2, 1) := by decide +kernel
theorem dL_law_1471 : decode cL_law 1471 = .ok (.aload_n 0, 1) := by decide +kernel
theorem dL_law_1472 : decode cL_law 1472 = .ok (.iload 5, 2) := by decide +kernel
theorem dL_law_1474 : decode cL_law 1474 = .ok (.iconst 1, 1) := by decide +kernel
theorem dL_law_1475 : decode cL_law 1475 = .ok (.iadd, 1) := by decide +kernel
theorem dL_law_1476 : decode cL_law 1476 = .ok (.iaload, 1) := by decide +kernel
theorem dL_law_1477 : decode cL_law 1477 = .ok (.invokevirtual 203, 3) := by decide +kernel
theorem dL_law_1480 : decode cL_law 1480 = .ok (.istore 7, 2) := by decide +kernel
theorem dL_law_1482 : decode cL_law 1482 = .ok (.aload_n 2, 1) := by decide +kernel
theorem dL_law_1483 : decode cL_law 1483 = .ok (.invokevirtual 129, 3) := by decide +kernel
theorem dL_law_1486 : decode cL_law 1486 = .ok (.iload 6, 2) := by decide +kernel
theorem dL_law_1488 : decode cL_law 1488 = .ok (.if_icmp .eq 5, 3) := by decide +kernel
theorem dL_law_1491 : decode cL_law 1491 = .ok (.iconst 0, 1) := by decide +kernel
theorem dL_law_1492 : decode cL_law 1492 = .ok (.ireturn, 1) := by decide +kernel
theorem dL_law_1493 : decode cL_law 1493 = .ok (.iload 6, 2) := by decide +kernel
theorem dL_law_1495 : decode cL_law 1495 = .ok (.ifCond .ne 15, 3) := by decide +kernel
theorem dL_law_1498 : decode cL_law 1498 = .ok (.aload_n 3, 1) := by decide +kernel
theorem dL_law_1499 : decode cL_law 1499 = .ok (.iconst 0, 1) := by decide +kernel
theorem dL_law_1500 : decode cL_law 1500 = .ok (.laload, 1) := by decide +kernel
theorem dL_law_1501 : decode cL_law 1501 = .ok (.iload 7, 2) := by decide +kernel
theorem dL_law_1503 : decode cL_law 1503 = .ok (.i2l, 1) := by decide +kernel
theorem dL_law_1504 : decode cL_law 1504 = .ok (.lcmp, 1) := by decide +kernel
theorem dL_law_1505 : decode cL_law 1505 = .ok (.ifCond .eq 5, 3) := by decide +kernel
theorem dL_law_1508 : decode cL_law 1508 = .ok (.iconst 0, 1) := by decide +kernel
theorem dL_law_1509 : decode cL_law 1509 = .ok (.ireturn, 1) := by decide +kernel
theorem dL_law_1510 : decode cL_law 1510 = .ok (.goto 613, 3) := by decide +kernel
theorem dL_law_1513 : decode cL_law 1513 = .ok (.aload_n 1, 1) := by decide +kernel
theorem dL_law_1514 : decode cL_law 1514 = .ok (.aload_n 0, 1) := by decide +kernel
theorem dL_law_1515 : decode cL_law 1515 = .ok (.iload 5, 2) := by decide +kernel
theorem dL_law_1517 : decode cL_law 1517 = .ok (.iconst 1, 1) := by decide +kernel
theorem dL_law_1518 : decode cL_law 1518 = .ok (.iadd, 1) := by decide +kernel
theorem dL_law_1519 : decode cL_law 1519 = .ok (.iaload, 1) := by decide +kernel
theorem dL_law_1520 : decode cL_law 1520 = .ok (.aload_n 3, 1) := by decide +kernel
theorem dL_law_1521 : decode cL_law 1521 = .ok (.invokestatic 204, 3) := by decide +kernel
theorem dL_law_1524 : decode cL_law 1524 = .ok (.istore 6, 2) := by decide +kernel
theorem dL_law_1526 : decode cL_law 1526 = .ok (.aload_n 2, 1) := by decide +kernel
theorem dL_law_1527 : decode cL_law 1527 = .ok (.aload_n 0, 1) := by decide +kernel
theorem dL_law_1528 : decode cL_law 1528 = .ok (.iload 5, 2) := by decide +kernel
theorem dL_law_1530 : decode cL_law 1530 = .ok (.iconst 1, 1) := by decide +kernel
theorem dL_law_1531 : decode cL_law 1531 = .ok (.iadd, 1) := by decide +kernel
theorem dL_law_1532 : decode cL_law 1532 = .ok (.iaload, 1) := by decide +kernel
theorem dL_law_1533 : decode cL_law 1533 = .ok (.invokevirtual 206, 3) := by decide +kernel
theorem dL_law_1536 : decode cL_law 1536 = .ok (.istore 7, 2) := by decide +kernel
theorem dL_law_1538 : decode cL_law 1538 = .ok (.aload_n 2, 1) := by decide +kernel
theorem dL_law_1539 : decode cL_law 1539 = .ok (.invokevirtual 129, 3) := by decide +kernel
theorem dL_law_1542 : decode cL_law 1542 = .ok (.iload 6, 2) := by decide +kernel
theorem dL_law_1544 : decode cL_law 1544 = .ok (.if_icmp .eq 5, 3) := by decide +kernel
theorem dL_law_1547 : decode cL_law 1547 = .ok (.iconst 0, 1) := by decide +kernel
theorem dL_law_1548 : decode cL_law 1548 = .ok (.ireturn, 1) := by decide +kernel
theorem dL_law_1549 : decode cL_law 1549 = .ok (.iload 6, 2) := by decide +kernel
theorem dL_law_1551 : decode cL_law 1551 = .ok (.ifCond .ne 15, 3) := by decide +kernel
theorem dL_law_1554 : decode cL_law 1554 = .ok (.aload_n 3, 1) := by decide +kernel
theorem dL_law_1555 : decode cL_law 1555 = .ok (.iconst 0, 1) := by decide +kernel
theorem dL_law_1556 : decode cL_law 1556 = .ok (.laload, 1) := by decide +kernel
theorem dL_law_1557 : decode cL_law 1557 = .ok (.iload 7, 2) := by decide +kernel
theorem dL_law_1559 : decode cL_law 1559 = .ok (.i2l, 1) := by decide +kernel
theorem dL_law_1560 : decode cL_law 1560 = .ok (.lcmp, 1) := by decide +kernel
theorem dL_law_1561 : decode cL_law 1561 = .ok (.ifCond .eq 5, 3) := by decide +kernel
theorem dL_law_1564 : decode cL_law 1564 = .ok (.iconst 0, 1) := by decide +kernel
theorem dL_law_1565 : decode cL_law 1565 = .ok (.ireturn, 1) := by decide +kernel
theorem dL_law_1566 : decode cL_law 1566 = .ok (.goto 557, 3) := by decide +kernel
theorem dL_law_1569 : decode cL_law 1569 = .ok (.aload_n 1, 1) := by decide +kernel
theorem dL_law_1570 : decode cL_law 1570 = .ok (.aload_n 0, 1) := by decide +kernel
theorem dL_law_1571 : decode cL_law 1571 = .ok (.iload 5, 2) := by decide +kernel
theorem dL_law_1573 : decode cL_law 1573 = .ok (.iconst 1, 1) := by decide +kernel
theorem dL_law_1574 : decode cL_law 1574 = .ok (.iadd, 1) := by decide +kernel
theorem dL_law_1575 : decode cL_law 1575 = .ok (.iaload, 1) := by decide +kernel
theorem dL_law_1576 : decode cL_law 1576 = .ok (.aload_n 3, 1) := by decide +kernel
theorem dL_law_1577 : decode cL_law 1577 = .ok (.invokestatic 207, 3) := by decide +kernel
theorem dL_law_1580 : decode cL_law 1580 = .ok (.istore 6, 2) := by decide +kernel
theorem dL_law_1582 : decode cL_law 1582 = .ok (.aload_n 2, 1) := by decide +kernel
theorem dL_law_1583 : decode cL_law 1583 = .ok (.aload_n 0, 1) := by decide +kernel
theorem dL_law_1584 : decode cL_law 1584 = .ok (.iload 5, 2) := by decide +kernel
theorem dL_law_1586 : decode cL_law 1586 = .ok (.iconst 1, 1) := by decide +kernel
theorem dL_law_1587 : decode cL_law 1587 = .ok (.iadd, 1) := by decide +kernel
theorem dL_law_1588 : decode cL_law 1588 = .ok (.iaload, 1) := by decide +kernel
theorem dL_law_1589 : decode cL_law 1589 = .ok (.invokevirtual 209, 3) := by decide +kernel
theorem dL_law_1592 : decode cL_law 1592 = .ok (.istore 7, 2) := by decide +kernel
theorem dL_law_1594 : decode cL_law 1594 = .ok (.aload_n 2, 1) := by decide +kernel
theorem dL_law_1595 : decode cL_law 1595 = .ok (.invokevirtual 129, 3) := by decide +kernel
theorem dL_law_1598 : decode cL_law 1598 = .ok (.iload 6, 2) := by decide +kernel
theorem dL_law_1600 : decode cL_law 1600 = .ok (.if_icmp .eq 5, 3) := by decide +kernel
theorem dL_law_1603 : decode cL_law 1603 = .ok (.iconst 0, 1) := by decide +kernel
theorem dL_law_1604 : decode cL_law 1604 = .ok (.ireturn, 1) := by decide +kernel
theorem dL_law_1605 : decode cL_law 1605 = .ok (.iload 6, 2) := by decide +kernel
theorem dL_law_1607 : decode cL_law 1607 = .ok (.ifCond .ne 15, 3) := by decide +kernel
theorem dL_law_1610 : decode cL_law 1610 = .ok (.aload_n 3, 1) := by decide +kernel
theorem dL_law_1611 : decode cL_law 1611 = .ok (.iconst 0, 1) := by decide +kernel
theorem dL_law_1612 : decode cL_law 1612 = .ok (.laload, 1) := by decide +kernel
theorem dL_law_1613 : decode cL_law 1613 = .ok (.iload 7, 2) := by decide +kernel
theorem dL_law_1615 : decode cL_law 1615 = .ok (.i2l, 1) := by decide +kernel
theorem dL_law_1616 : decode cL_law 1616 = .ok (.lcmp, 1) := by decide +kernel
theorem dL_law_1617 : decode cL_law 1617 = .ok (.ifCond .eq 5, 3) := by decide +kernel
theorem dL_law_1620 : decode cL_law 1620 = .ok (.iconst 0, 1) := by decide +kernel
theorem dL_law_1621 : decode cL_law 1621 = .ok (.ireturn, 1) := by decide +kernel
theorem dL_law_1622 : decode cL_law 1622 = .ok (.goto 501, 3) := by decide +kernel
theorem dL_law_1625 : decode cL_law 1625 = .ok (.aload_n 1, 1) := by decide +kernel
theorem dL_law_1626 : decode cL_law 1626 = .ok (.invokevirtual 210, 3) := by decide +kernel
theorem dL_law_1629 : decode cL_law 1629 = .ok (.aload_n 2, 1) := by decide +kernel
theorem dL_law_1630 : decode cL_law 1630 = .ok (.invokevirtual 213, 3) := by decide +kernel
theorem dL_law_1633 : decode cL_law 1633 = .ok (.if_icmp .eq 490, 3) := by decide +kernel
theorem dL_law_1636 : decode cL_law 1636 = .ok (.iconst 0, 1) := by decide +kernel
theorem dL_law_1637 : decode cL_law 1637 = .ok (.ireturn, 1) := by decide +kernel
theorem dL_law_1638 : decode cL_law 1638 = .ok (.aload_n 1, 1) := by decide +kernel
theorem dL_law_1639 : decode cL_law 1639 = .ok (.aload_n 0, 1) := by decide +kernel
theorem dL_law_1640 : decode cL_law 1640 = .ok (.iload 5, 2) := by decide +kernel
theorem dL_law_1642 : decode cL_law 1642 = .ok (.iconst 1, 1) := by decide +kernel
theorem dL_law_1643 : decode cL_law 1643 = .ok (.iadd, 1) := by decide +kernel
theorem dL_law_1644 : decode cL_law 1644 = .ok (.iaload, 1) := by decide +kernel
theorem dL_law_1645 : decode cL_law 1645 = .ok (.aload_n 3, 1) := by decide +kernel
theorem dL_law_1646 : decode cL_law 1646 = .ok (.invokestatic 214, 3) := by decide +kernel
theorem dL_law_1649 : decode cL_law 1649 = .ok (.istore 6, 2) := by decide +kernel
theorem dL_law_1651 : decode cL_law 1651 = .ok (.aload_n 2, 1) := by decide +kernel
theorem dL_law_1652 : decode cL_law 1652 = .ok (.aload_n 0, 1) := by decide +kernel
theorem dL_law_1653 : decode cL_law 1653 = .ok (.iload 5, 2) := by decide +kernel
theorem dL_law_1655 : decode cL_law 1655 = .ok (.iconst 1, 1) := by decide +kernel
theorem dL_law_1656 : decode cL_law 1656 = .ok (.iadd, 1) := by decide +kernel
theorem dL_law_1657 : decode cL_law 1657 = .ok (.iaload, 1) := by decide +kernel
theorem dL_law_1658 : decode cL_law 1658 = .ok (.invokevirtual 216, 3) := by decide +kernel
theorem dL_law_1661 : decode cL_law 1661 = .ok (.istore 7, 2) := by decide +kernel
theorem dL_law_1663 : decode cL_law 1663 = .ok (.aload_n 2, 1) := by decide +kernel
theorem dL_law_1664 : decode cL_law 1664 = .ok (.invokevirtual 129, 3) := by decide +kernel
theorem dL_law_1667 : decode cL_law 1667 = .ok (.iload 6, 2) := by decide +kernel
theorem dL_law_1669 : decode cL_law 1669 = .ok (.if_icmp .eq 5, 3) := by decide +kernel
theorem dL_law_1672 : decode cL_law 1672 = .ok (.iconst 0, 1) := by decide +kernel
theorem dL_law_1673 : decode cL_law 1673 = .ok (.ireturn, 1) := by decide +kernel
theorem dL_law_1674 : decode cL_law 1674 = .ok (.iload 6, 2) := by decide +kernel
theorem dL_law_1676 : decode cL_law 1676 = .ok (.ifCond .ne 15, 3) := by decide +kernel
theorem dL_law_1679 : decode cL_law 1679 = .ok (.aload_n 3, 1) := by decide +kernel
theorem dL_law_1680 : decode cL_law 1680 = .ok (.iconst 0, 1) := by decide +kernel
theorem dL_law_1681 : decode cL_law 1681 = .ok (.laload, 1) := by decide +kernel
theorem dL_law_1682 : decode cL_law 1682 = .ok (.iload 7, 2) := by decide +kernel
theorem dL_law_1684 : decode cL_law 1684 = .ok (.i2l, 1) := by decide +kernel
theorem dL_law_1685 : decode cL_law 1685 = .ok (.lcmp, 1) := by decide +kernel
theorem dL_law_1686 : decode cL_law 1686 = .ok (.ifCond .eq 5, 3) := by decide +kernel
theorem dL_law_1689 : decode cL_law 1689 = .ok (.iconst 0, 1) := by decide +kernel
theorem dL_law_1690 : decode cL_law 1690 = .ok (.ireturn, 1) := by decide +kernel
theorem dL_law_1691 : decode cL_law 1691 = .ok (.goto 432, 3) := by decide +kernel
theorem dL_law_1694 : decode cL_law 1694 = .ok (.aload_n 1, 1) := by decide +kernel
theorem dL_law_1695 : decode cL_law 1695 = .ok (.aload_n 0, 1) := by decide +kernel
theorem dL_law_1696 : decode cL_law 1696 = .ok (.iload 5, 2) := by decide +kernel
theorem dL_law_1698 : decode cL_law 1698 = .ok (.iconst 1, 1) := by decide +kernel
theorem dL_law_1699 : decode cL_law 1699 = .ok (.iadd, 1) := by decide +kernel
theorem dL_law_1700 : decode cL_law 1700 = .ok (.iaload, 1) := by decide +kernel
theorem dL_law_1701 : decode cL_law 1701 = .ok (.aload_n 3, 1) := by decide +kernel
theorem dL_law_1702 : decode cL_law 1702 = .ok (.invokestatic 217, 3) := by decide +kernel
theorem dL_law_1705 : decode cL_law 1705 = .ok (.istore 6, 2) := by decide +kernel
theorem dL_law_1707 : decode cL_law 1707 = .ok (.aload_n 2, 1) := by decide +kernel
theorem dL_law_1708 : decode cL_law 1708 = .ok (.aload_n 0, 1) := by decide +kernel
theorem dL_law_1709 : decode cL_law 1709 = .ok (.iload 5, 2) := by decide +kernel
theorem dL_law_1711 : decode cL_law 1711 = .ok (.iconst 1, 1) := by decide +kernel
theorem dL_law_1712 : decode cL_law 1712 = .ok (.iadd, 1) := by decide +kernel
theorem dL_law_1713 : decode cL_law 1713 = .ok (.iaload, 1) := by decide +kernel
theorem dL_law_1714 : decode cL_law 1714 = .ok (.invokevirtual 219, 3) := by decide +kernel
theorem dL_law_1717 : decode cL_law 1717 = .ok (.istore 7, 2) := by decide +kernel
theorem dL_law_1719 : decode cL_law 1719 = .ok (.aload_n 2, 1) := by decide +kernel
theorem dL_law_1720 : decode cL_law 1720 = .ok (.invokevirtual 129, 3) := by decide +kernel
theorem dL_law_1723 : decode cL_law 1723 = .ok (.iload 6, 2) := by decide +kernel
theorem dL_law_1725 : decode cL_law 1725 = .ok (.if_icmp .eq 5, 3) := by decide +kernel
theorem dL_law_1728 : decode cL_law 1728 = .ok (.iconst 0, 1) := by decide +kernel
theorem dL_law_1729 : decode cL_law 1729 = .ok (.ireturn, 1) := by decide +kernel
theorem dL_law_1730 : decode cL_law 1730 = .ok (.iload 6, 2) := by decide +kernel
theorem dL_law_1732 : decode cL_law 1732 = .ok (.ifCond .ne 15, 3) := by decide +kernel
theorem dL_law_1735 : decode cL_law 1735 = .ok (.aload_n 3, 1) := by decide +kernel
theorem dL_law_1736 : decode cL_law 1736 = .ok (.iconst 0, 1) := by decide +kernel
theorem dL_law_1737 : decode cL_law 1737 = .ok (.laload, 1) := by decide +kernel
theorem dL_law_1738 : decode cL_law 1738 = .ok (.iload 7, 2) := by decide +kernel
theorem dL_law_1740 : decode cL_law 1740 = .ok (.i2l, 1) := by decide +kernel
theorem dL_law_1741 : decode cL_law 1741 = .ok (.lcmp, 1) := by decide +kernel
theorem dL_law_1742 : decode cL_law 1742 = .ok (.ifCond .eq 5, 3) := by decide +kernel
theorem dL_law_1745 : decode cL_law 1745 = .ok (.iconst 0, 1) := by decide +kernel
theorem dL_law_1746 : decode cL_law 1746 = .ok (.ireturn, 1) := by decide +kernel
theorem dL_law_1747 : decode cL_law 1747 = .ok (.goto 376, 3) := by decide +kernel
theorem dL_law_1750 : decode cL_law 1750 = .ok (.aload_n 1, 1) := by decide +kernel
theorem dL_law_1751 : decode cL_law 1751 = .ok (.aload_n 0, 1) := by decide +kernel
theorem dL_law_1752 : decode cL_law 1752 = .ok (.iload 5, 2) := by decide +kernel
theorem dL_law_1754 : decode cL_law 1754 = .ok (.iconst 1, 1) := by decide +kernel
theorem dL_law_1755 : decode cL_law 1755 = .ok (.iadd, 1) := by decide +kernel
theorem dL_law_1756 : decode cL_law 1756 = .ok (.iaload, 1) := by decide +kernel
theorem dL_law_1757 : decode cL_law 1757 = .ok (.aload_n 0, 1) := by decide +kernel
theorem dL_law_1758 : decode cL_law 1758 = .ok (.iload 5, 2) := by decide +kernel
theorem dL_law_1760 : decode cL_law 1760 = .ok (.iconst 2, 1) := by decide +kernel
theorem dL_law_1761 : decode cL_law 1761 = .ok (.iadd, 1) := by decide +kernel
theorem dL_law_1762 : decode cL_law 1762 = .ok (.iaload, 1) := by decide +kernel
theorem dL_law_1763 : decode cL_law 1763 = .ok (.aload_n 3, 1) := by decide +kernel
theorem dL_law_1764 : decode cL_law 1764 = .ok (.invokestatic 220, 3) := by decide +kernel
theorem dL_law_1767 : decode cL_law 1767 = .ok (.istore 6, 2) := by decide +kernel
theorem dL_law_1769 : decode cL_law 1769 = .ok (.aload_n 2, 1) := by decide +kernel
theorem dL_law_1770 : decode cL_law 1770 = .ok (.aload_n 0, 1) := by decide +kernel
theorem dL_law_1771 : decode cL_law 1771 = .ok (.iload 5, 2) := by decide +kernel
theorem dL_law_1773 : decode cL_law 1773 = .ok (.iconst 1, 1) := by decide +kernel
theorem dL_law_1774 : decode cL_law 1774 = .ok (.iadd, 1) := by decide +kernel
theorem dL_law_1775 : decode cL_law 1775 = .ok (.iaload, 1) := by decide +kernel
theorem dL_law_1776 : decode cL_law 1776 = .ok (.aload_n 0, 1) := by decide +kernel
theorem dL_law_1777 : decode cL_law 1777 = .ok (.iload 5, 2) := by decide +kernel
theorem dL_law_1779 : decode cL_law 1779 = .ok (.iconst 2, 1) := by decide +kernel
theorem dL_law_1780 : decode cL_law 1780 = .ok (.iadd, 1) := by decide +kernel
theorem dL_law_1781 : decode cL_law 1781 = .ok (.iaload, 1) := by decide +kernel
theorem dL_law_1782 : decode cL_law 1782 = .ok (.invokevirtual 222, 3) := by decide +kernel
theorem dL_law_1785 : decode cL_law 1785 = .ok (.istore 7, 2) := by decide +kernel
theorem dL_law_1787 : decode cL_law 1787 = .ok (.aload_n 2, 1) := by decide +kernel
theorem dL_law_1788 : decode cL_law 1788 = .ok (.invokevirtual 129, 3) := by decide +kernel
theorem dL_law_1791 : decode cL_law 1791 = .ok (.iload 6, 2) := by decide +kernel
theorem dL_law_1793 : decode cL_law 1793 = .ok (.if_icmp .eq 5, 3) := by decide +kernel
theorem dL_law_1796 : decode cL_law 1796 = .ok (.iconst 0, 1) := by decide +kernel
theorem dL_law_1797 : decode cL_law 1797 = .ok (.ireturn, 1) := by decide +kernel
theorem dL_law_1798 : decode cL_law 1798 = .ok (.iload 6, 2) := by decide +kernel
theorem dL_law_1800 : decode cL_law 1800 = .ok (.ifCond .ne 15, 3) := by decide +kernel
theorem dL_law_1803 : decode cL_law 1803 = .ok (.aload_n 3, 1) := by decide +kernel
theorem dL_law_1804 : decode cL_law 1804 = .ok (.iconst 0, 1) := by decide +kernel
theorem dL_law_1805 : decode cL_law 1805 = .ok (.laload, 1) := by decide +kernel
theorem dL_law_1806 : decode cL_law 1806 = .ok (.iload 7, 2) := by decide +kernel
theorem dL_law_1808 : decode cL_law 1808 = .ok (.i2l, 1) := by decide +kernel
theorem dL_law_1809 : decode cL_law 1809 = .ok (.lcmp, 1) := by decide +kernel
theorem dL_law_1810 : decode cL_law 1810 = .ok (.ifCond .eq 5, 3) := by decide +kernel
theorem dL_law_1813 : decode cL_law 1813 = .ok (.iconst 0, 1) := by decide +kernel
theorem dL_law_1814 : decode cL_law 1814 = .ok (.ireturn, 1) := by decide +kernel
theorem dL_law_1815 : decode cL_law 1815 = .ok (.goto 308, 3) := by decide +kernel
theorem dL_law_1818 : decode cL_law 1818 = .ok (.aload_n 1, 1) := by decide +kernel
theorem dL_law_1819 : decode cL_law 1819 = .ok (.aload_n 0, 1) := by decide +kernel
theorem dL_law_1820 : decode cL_law 1820 = .ok (.iload 5, 2) := by decide +kernel
theorem dL_law_1822 : decode cL_law 1822 = .ok (.iconst 1, 1) := by decide +kernel
theorem dL_law_1823 : decode cL_law 1823 = .ok (.iadd, 1) := by decide +kernel
theorem dL_law_1824 : decode cL_law 1824 = .ok (.iaload, 1) := by decide +kernel
theorem dL_law_1825 : decode cL_law 1825 = .ok (.aload_n 0, 1) := by decide +kernel
theorem dL_law_1826 : decode cL_law 1826 = .ok (.iload 5, 2) := by decide +kernel
theorem dL_law_1828 : decode cL_law 1828 = .ok (.iconst 2, 1) := by decide +kernel
theorem dL_law_1829 : decode cL_law 1829 = .ok (.iadd, 1) := by decide +kernel
theorem dL_law_1830 : decode cL_law 1830 = .ok (.iaload, 1) := by decide +kernel
theorem dL_law_1831 : decode cL_law 1831 = .ok (.aload_n 3, 1) := by decide +kernel
theorem dL_law_1832 : decode cL_law 1832 = .ok (.invokestatic 223, 3) := by decide +kernel
theorem dL_law_1835 : decode cL_law 1835 = .ok (.istore 6, 2) := by decide +kernel
theorem dL_law_1837 : decode cL_law 1837 = .ok (.aload_n 2, 1) := by decide +kernel
theorem dL_law_1838 : decode cL_law 1838 = .ok (.aload_n 0, 1) := by decide +kernel
theorem dL_law_1839 : decode cL_law 1839 = .ok (.iload 5, 2) := by decide +kernel
theorem dL_law_1841 : decode cL_law 1841 = .ok (.iconst 1, 1) := by decide +kernel
theorem dL_law_1842 : decode cL_law 1842 = .ok (.iadd, 1) := by decide +kernel
theorem dL_law_1843 : decode cL_law 1843 = .ok (.iaload, 1) := by decide +kernel
theorem dL_law_1844 : decode cL_law 1844 = .ok (.aload_n 0, 1) := by decide +kernel
theorem dL_law_1845 : decode cL_law 1845 = .ok (.iload 5, 2) := by decide +kernel
theorem dL_law_1847 : decode cL_law 1847 = .ok (.iconst 2, 1) := by decide +kernel
theorem dL_law_1848 : decode cL_law 1848 = .ok (.iadd, 1) := by decide +kernel
theorem dL_law_1849 : decode cL_law 1849 = .ok (.iaload, 1) := by decide +kernel
theorem dL_law_1850 : decode cL_law 1850 = .ok (.invokevirtual 225, 3) := by decide +kernel
theorem dL_law_1853 : decode cL_law 1853 = .ok (.istore 7, 2) := by decide +kernel
theorem dL_law_1855 : decode cL_law 1855 = .ok (.aload_n 2, 1) := by decide +kernel
theorem dL_law_1856 : decode cL_law 1856 = .ok (.invokevirtual 129, 3) := by decide +kernel
theorem dL_law_1859 : decode cL_law 1859 = .ok (.iload 6, 2) := by decide +kernel
theorem dL_law_1861 : decode cL_law 1861 = .ok (.if_icmp .eq 5, 3) := by decide +kernel
theorem dL_law_1864 : decode cL_law 1864 = .ok (.iconst 0, 1) := by decide +kernel
theorem dL_law_1865 : decode cL_law 1865 = .ok (.ireturn, 1) := by decide +kernel
theorem dL_law_1866 : decode cL_law 1866 = .ok (.iload 6, 2) := by decide +kernel
theorem dL_law_1868 : decode cL_law 1868 = .ok (.ifCond .ne 15, 3) := by decide +kernel
theorem dL_law_1871 : decode cL_law 1871 = .ok (.aload_n 3, 1) := by decide +kernel
theorem dL_law_1872 : decode cL_law 1872 = .ok (.iconst 0, 1) := by decide +kernel
theorem dL_law_1873 : decode cL_law 1873 = .ok (.laload, 1) := by decide +kernel
theorem dL_law_1874 : decode cL_law 1874 = .ok (.iload 7, 2) := by decide +kernel
theorem dL_law_1876 : decode cL_law 1876 = .ok (.i2l, 1) := by decide +kernel
theorem dL_law_1877 : decode cL_law 1877 = .ok (.lcmp, 1) := by decide +kernel
theorem dL_law_1878 : decode cL_law 1878 = .ok (.ifCond .eq 5, 3) := by decide +kernel
theorem dL_law_1881 : decode cL_law 1881 = .ok (.iconst 0, 1) := by decide +kernel
theorem dL_law_1882 : decode cL_law 1882 = .ok (.ireturn, 1) := by decide +kernel
theorem dL_law_1883 : decode cL_law 1883 = .ok (.goto 240, 3) := by decide +kernel
theorem dL_law_1886 : decode cL_law 1886 = .ok (.aload_n 1, 1) := by decide +kernel
theorem dL_law_1887 : decode cL_law 1887 = .ok (.invokevirtual 226, 3) := by decide +kernel
theorem dL_law_1890 : decode cL_law 1890 = .ok (.aload_n 2, 1) := by decide +kernel
theorem dL_law_1891 : decode cL_law 1891 = .ok (.invokevirtual 230, 3) := by decide +kernel
theorem dL_law_1894 : decode cL_law 1894 = .ok (.if_icmp .eq 229, 3) := by decide +kernel
theorem dL_law_1897 : decode cL_law 1897 = .ok (.iconst 0, 1) := by decide +kernel
theorem dL_law_1898 : decode cL_law 1898 = .ok (.ireturn, 1) := by decide +kernel
theorem dL_law_1899 : decode cL_law 1899 = .ok (.aload_n 1, 1) := by decide +kernel
theorem dL_law_1900 : decode cL_law 1900 = .ok (.invokevirtual 231, 3) := by decide +kernel
theorem dL_law_1903 : decode cL_law 1903 = .ok (.aload_n 2, 1) := by decide +kernel
theorem dL_law_1904 : decode cL_law 1904 = .ok (.invokevirtual 234, 3) := by decide +kernel
theorem dL_law_1907 : decode cL_law 1907 = .ok (.if_icmp .eq 216, 3) := by decide +kernel
theorem dL_law_1910 : decode cL_law 1910 = .ok (.iconst 0, 1) := by decide +kernel
theorem dL_law_1911 : decode cL_law 1911 = .ok (.ireturn, 1) := by decide +kernel
theorem dL_law_1912 : decode cL_law 1912 = .ok (.aload_n 1, 1) := by decide +kernel
theorem dL_law_1913 : decode cL_law 1913 = .ok (.invokevirtual 235, 3) := by decide +kernel
theorem dL_law_1916 : decode cL_law 1916 = .ok (.aload_n 2, 1) := by decide +kernel
theorem dL_law_1917 : decode cL_law 1917 = .ok (.invokevirtual 238, 3) := by decide +kernel
theorem dL_law_1920 : decode cL_law 1920 = .ok (.if_icmp .eq 203, 3) := by decide +kernel
theorem dL_law_1923 : decode cL_law 1923 = .ok (.iconst 0, 1) := by decide +kernel
theorem dL_law_1924 : decode cL_law 1924 = .ok (.ireturn, 1) := by decide +kernel
theorem dL_law_1925 : decode cL_law 1925 = .ok (.aload_n 1, 1) := by decide +kernel
theorem dL_law_1926 : decode cL_law 1926 = .ok (.aload_n 0, 1) := by decide +kernel
theorem dL_law_1927 : decode cL_law 1927 = .ok (.iload 5, 2) := by decide +kernel
theorem dL_law_1929 : decode cL_law 1929 = .ok (.iconst 1, 1) := by decide +kernel
theorem dL_law_1930 : decode cL_law 1930 = .ok (.iadd, 1) := by decide +kernel
theorem dL_law_1931 : decode cL_law 1931 = .ok (.iaload, 1) := by decide +kernel
theorem dL_law_1932 : decode cL_law 1932 = .ok (.aload 4, 2) := by decide +kernel
theorem dL_law_1934 : decode cL_law 1934 = .ok (.invokestatic 239, 3) := by decide +kernel
theorem dL_law_1937 : decode cL_law 1937 = .ok (.istore 6, 2) := by decide +kernel
theorem dL_law_1939 : decode cL_law 1939 = .ok (.aload_n 2, 1) := by decide +kernel
theorem dL_law_1940 : decode cL_law 1940 = .ok (.aload_n 0, 1) := by decide +kernel
theorem dL_law_1941 : decode cL_law 1941 = .ok (.iload 5, 2) := by decide +kernel
theorem dL_law_1943 : decode cL_law 1943 = .ok (.iconst 1, 1) := by decide +kernel
theorem dL_law_1944 : decode cL_law 1944 = .ok (.iadd, 1) := by decide +kernel
theorem dL_law_1945 : decode cL_law 1945 = .ok (.iaload, 1) := by decide +kernel
theorem dL_law_1946 : decode cL_law 1946 = .ok (.invokevirtual 242, 3) := by decide +kernel
theorem dL_law_1949 : decode cL_law 1949 = .ok (.fstore 7, 2) := by decide +kernel
theorem dL_law_1951 : decode cL_law 1951 = .ok (.aload_n 2, 1) := by decide +kernel
theorem dL_law_1952 : decode cL_law 1952 = .ok (.invokevirtual 129, 3) := by decide +kernel
theorem dL_law_1955 : decode cL_law 1955 = .ok (.iload 6, 2) := by decide +kernel
theorem dL_law_1957 : decode cL_law 1957 = .ok (.if_icmp .eq 5, 3) := by decide +kernel
theorem dL_law_1960 : decode cL_law 1960 = .ok (.iconst 0, 1) := by decide +kernel
theorem dL_law_1961 : decode cL_law 1961 = .ok (.ireturn, 1) := by decide +kernel
theorem dL_law_1962 : decode cL_law 1962 = .ok (.iload 6, 2) := by decide +kernel
theorem dL_law_1964 : decode cL_law 1964 = .ok (.ifCond .ne 36, 3) := by decide +kernel
theorem dL_law_1967 : decode cL_law 1967 = .ok (.aload 4, 2) := by decide +kernel
theorem dL_law_1969 : decode cL_law 1969 = .ok (.iconst 0, 1) := by decide +kernel
theorem dL_law_1970 : decode cL_law 1970 = .ok (.daload, 1) := by decide +kernel
theorem dL_law_1971 : decode cL_law 1971 = .ok (.fload 7, 2) := by decide +kernel
theorem dL_law_1973 : decode cL_law 1973 = .ok (.f2d, 1) := by decide +kernel
theorem dL_law_1974 : decode cL_law 1974 = .ok (.dcmp .l, 1) := by decide +kernel
theorem dL_law_1975 : decode cL_law 1975 = .ok (.ifCond .eq 25, 3) := by decide +kernel
theorem dL_law_1978 : decode cL_law 1978 = .ok (.aload 4, 2) := by decide +kernel
theorem dL_law_1980 : decode cL_law 1980 = .ok (.iconst 0, 1) := by decide +kernel
theorem dL_law_1981 : decode cL_law 1981 = .ok (.daload, 1) := by decide +kernel
theorem dL_law_1982 : decode cL_law 1982 = .ok (.aload 4, 2) := by decide +kernel
theorem dL_law_1984 : decode cL_law 1984 = .ok (.iconst 0, 1) := by decide +kernel
theorem dL_law_1985 : decode cL_law 1985 = .ok (.daload, 1) := by decide +kernel
theorem dL_law_1986 : decode cL_law 1986 = .ok (.dcmp .l, 1) := by decide +kernel
theorem dL_law_1987 : decode cL_law 1987 = .ok (.ifCond .eq 11, 3) := by decide +kernel
theorem dL_law_1990 : decode cL_law 1990 = .ok (.fload 7, 2) := by decide +kernel
theorem dL_law_1992 : decode cL_law 1992 = .ok (.fload 7, 2) := by decide +kernel
theorem dL_law_1994 : decode cL_law 1994 = .ok (.fcmp .l, 1) := by decide +kernel
theorem dL_law_1995 : decode cL_law 1995 = .ok (.ifCond .ne 5, 3) := by decide +kernel
theorem dL_law_1998 : decode cL_law 1998 = .ok (.iconst 0, 1) := by decide +kernel
theorem dL_law_1999 : decode cL_law 1999 = .ok (.ireturn, 1) := by decide +kernel
theorem dL_law_2000 : decode cL_law 2000 = .ok (.goto 123, 3) := by decide +kernel
theorem dL_law_2003 : decode cL_law 2003 = .ok (.aload_n 1, 1) := by decide +kernel
theorem dL_law_2004 : decode cL_law 2004 = .ok (.aload 4, 2) := by decide +kernel
theorem dL_law_2006 : decode cL_law 2006 = .ok (.invokestatic 243, 3) := by decide +kernel
theorem dL_law_2009 : decode cL_law 2009 = .ok (.istore 6, 2) := by decide +kernel
theorem dL_law_2011 : decode cL_law 2011 = .ok (.aload_n 2, 1) := by decide +kernel
theorem dL_law_2012 : decode cL_law 2012 = .ok (.invokevirtual 246, 3) := by decide +kernel
theorem dL_law_2015 : decode cL_law 2015 = .ok (.dstore 7, 2) := by decide +kernel
theorem dL_law_2017 : decode cL_law 2017 = .ok (.aload_n 2, 1) := by decide +kernel
theorem dL_law_2018 : decode cL_law 2018 = .ok (.invokevirtual 129, 3) := by decide +kernel
theorem dL_law_2021 : decode cL_law 2021 = .ok (.iload 6, 2) := by decide +kernel
theorem dL_law_2023 : decode cL_law 2023 = .ok (.if_icmp .eq 5, 3) := by decide +kernel
theorem dL_law_2026 : decode cL_law 2026 = .ok (.iconst 0, 1) := by decide +kernel
theorem dL_law_2027 : decode cL_law 2027 = .ok (.ireturn, 1) := by decide +kernel
theorem dL_law_2028 : decode cL_law 2028 = .ok (.iload 6, 2) := by decide +kernel
theorem dL_law_2030 : decode cL_law 2030 = .ok (.ifCond .ne 35, 3) := by decide +kernel
theorem dL_law_2033 : decode cL_law 2033 = .ok (.aload 4, 2) := by decide +kernel
theorem dL_law_2035 : decode cL_law 2035 = .ok (.iconst 0, 1) := by decide +kernel
theorem dL_law_2036 : decode cL_law 2036 = .ok (.daload, 1) := by decide +kernel
theorem dL_law_2037 : decode cL_law 2037 = .ok (.dload 7, 2) := by decide +kernel
theorem dL_law_2039 : decode cL_law 2039 = .ok (.dcmp .l, 1) := by decide +kernel
theorem dL_law_2040 : decode cL_law 2040 = .ok (.ifCond .eq 25, 3) := by decide +kernel
theorem dL_law_2043 : decode cL_law 2043 = .ok (.aload 4, 2) := by decide +kernel
theorem dL_law_2045 : decode cL_law 2045 = .ok (.iconst 0, 1) := by decide +kernel
theorem dL_law_2046 : decode cL_law 2046 = .ok (.daload, 1) := by decide +kernel
theorem dL_law_2047 : decode cL_law 2047 = .ok (.aload 4, 2) := by decide +kernel
theorem dL_law_2049 : decode cL_law 2049 = .ok (.iconst 0, 1) := by decide +kernel
theorem dL_law_2050 : decode cL_law 2050 = .ok (.daload, 1) := by decide +kernel
theorem dL_law_2051 : decode cL_law 2051 = .ok (.dcmp .l, 1) := by decide +kernel
theorem dL_law_2052 : decode cL_law 2052 = .ok (.ifCond .eq 11, 3) := by decide +kernel
theorem dL_law_2055 : decode cL_law 2055 = .ok (.dload 7, 2) := by decide +kernel
theorem dL_law_2057 : decode cL_law 2057 = .ok (.dload 7, 2) := by decide +kernel
theorem dL_law_2059 : decode cL_law 2059 = .ok (.dcmp .l, 1) := by decide +kernel
theorem dL_law_2060 : decode cL_law 2060 = .ok (.ifCond .ne 5, 3) := by decide +kernel
theorem dL_law_2063 : decode cL_law 2063 = .ok (.iconst 0, 1) := by decide +kernel
theorem dL_law_2064 : decode cL_law 2064 = .ok (.ireturn, 1) := by decide +kernel
theorem dL_law_2065 : decode cL_law 2065 = .ok (.goto 58, 3) := by decide +kernel
theorem dL_law_2068 : decode cL_law 2068 = .ok (.aload_n 1, 1) := by decide +kernel
theorem dL_law_2069 : decode cL_law 2069 = .ok (.aload_n 0, 1) := by decide +kernel
theorem dL_law_2070 : decode cL_law 2070 = .ok (.iload 5, 2) := by decide +kernel
theorem dL_law_2072 : decode cL_law 2072 = .ok (.iconst 1, 1) := by decide +kernel
theorem dL_law_2073 : decode cL_law 2073 = .ok (.iadd, 1) := by decide +kernel
theorem dL_law_2074 : decode cL_law 2074 = .ok (.iaload, 1) := by decide +kernel
theorem dL_law_2075 : decode cL_law 2075 = .ok (.aload_n 3, 1) := by decide +kernel
theorem dL_law_2076 : decode cL_law 2076 = .ok (.invokestatic 247, 3) := by decide +kernel
theorem dL_law_2079 : decode cL_law 2079 = .ok (.istore 6, 2) := by decide +kernel
theorem dL_law_2081 : decode cL_law 2081 = .ok (.aload_n 2, 1) := by decide +kernel
theorem dL_law_2082 : decode cL_law 2082 = .ok (.aload_n 0, 1) := by decide +kernel
theorem dL_law_2083 : decode cL_law 2083 = .ok (.iload 5, 2) := by decide +kernel
theorem dL_law_2085 : decode cL_law 2085 = .ok (.iconst 1, 1) := by decide +kernel
theorem dL_law_2086 : decode cL_law 2086 = .ok (.iadd, 1) := by decide +kernel
theorem dL_law_2087 : decode cL_law 2087 = .ok (.iaload, 1) := by decide +kernel
theorem dL_law_2088 : decode cL_law 2088 = .ok (.invokevirtual 249, 3) := by decide +kernel
theorem dL_law_2091 : decode cL_law 2091 = .ok (.lstore 7, 2) := by decide +kernel
theorem dL_law_2093 : decode cL_law 2093 = .ok (.aload_n 2, 1) := by decide +kernel
theorem dL_law_2094 : decode cL_law 2094 = .ok (.invokevirtual 129, 3) := by decide +kernel
theorem dL_law_2097 : decode cL_law 2097 = .ok (.iload 6, 2) := by decide +kernel
theorem dL_law_2099 : decode cL_law 2099 = .ok (.if_icmp .eq 5, 3) := by decide +kernel
theorem dL_law_2102 : decode cL_law 2102 = .ok (.iconst 0, 1) := by decide +kernel
theorem dL_law_2103 : decode cL_law 2103 = .ok (.ireturn, 1) := by decide +kernel
theorem dL_law_2104 : decode cL_law 2104 = .ok (.iload 6, 2) := by decide +kernel
theorem dL_law_2106 : decode cL_law 2106 = .ok (.ifCond .ne 14, 3) := by decide +kernel
theorem dL_law_2109 : decode cL_law 2109 = .ok (.aload_n 3, 1) := by decide +kernel
theorem dL_law_2110 : decode cL_law 2110 = .ok (.iconst 0, 1) := by decide +kernel
theorem dL_law_2111 : decode cL_law 2111 = .ok (.laload, 1) := by decide +kernel
theorem dL_law_2112 : decode cL_law 2112 = .ok (.lload 7, 2) := by decide +kernel
theorem dL_law_2114 : decode cL_law 2114 = .ok (.lcmp, 1) := by decide +kernel
theorem dL_law_2115 : decode cL_law 2115 = .ok (.ifCond .eq 5, 3) := by decide +kernel
theorem dL_law_2118 : decode cL_law 2118 = .ok (.iconst 0, 1) := by decide +kernel
theorem dL_law_2119 : decode cL_law 2119 = .ok (.ireturn, 1) := by decide +kernel
theorem dL_law_2120 : decode cL_law 2120 = .ok (.goto 3, 3) := by decide +kernel
theorem dL_law_2123 : decode cL_law 2123 = .ok (.iinc 5 4, 3) := by decide +kernel
theorem dL_law_2126 : decode cL_law 2126 = .ok (.goto (-2098), 3) := by decide +kernel
theorem dL_law_2129 : decode cL_law 2129 = .ok (.iconst 1, 1) := by decide +kernel
theorem dL_law_2130 : decode cL_law 2130 = .ok (.ireturn, 1) := by decide +kernel
end
section

/-! THE ABSTRACT HEAP: kinds of addresses; fields by number (100 * class + place), then by address; lists and their room; arrays of ints -/
abbrev AH : Type := (Nat → Nat) × (Nat → Nat → Value) × (Nat → List Nat) × (Nat → Nat) × (Nat → List Int32)
def qK (h : AH) : Nat → Nat := h.1
def qF (h : AH) : Nat → Nat → Value := h.2.1
def qL (h : AH) : Nat → List Nat := h.2.2.1
def qC (h : AH) : Nat → Nat := h.2.2.2.1
def qI (h : AH) : Nat → List Int32 := h.2.2.2.2
def sF (h : AH) (f a : Nat) (v : Value) : AH := (h.1, fun g b => if g = f ∧ b = a then v else h.2.1 g b, h.2.2)
def sI (h : AH) (a : Nat) (x : List Int32) : AH := (h.1, h.2.1, h.2.2.1, h.2.2.2.1, fun b => if b = a then x else h.2.2.2.2 b)
def sL (h : AH) (a : Nat) (x : List Nat) (c : Nat) : AH := (h.1, h.2.1, (fun b => if b = a then x else h.2.2.1 b), (fun b => if b = a then c else h.2.2.2.1 b), h.2.2.2.2)
def sK (h : AH) (a k : Nat) : AH := (fun b => if b = a then k else h.1 b, h.2)
/-- the value that a field is born with -/
def dfv (f : Nat) : Value := if f ∈ [200, 207, 208, 209, 300, 302, 400, 401, 500, 501, 600, 602, 603, 805, 900, 926, 927, 928] then .int 0 else .null
def nO (h : AH) (q k : Nat) : AH := (fun b => if b = q then k else h.1 b, fun g b => if b = q then dfv g else h.2.1 g b, h.2.2)
theorem qK_sF (h : AH) (f a : Nat) (v : Value) : qK (sF h f a v) = qK h := rfl
theorem qL_sF (h : AH) (f a : Nat) (v : Value) : qL (sF h f a v) = qL h := rfl
theorem qC_sF (h : AH) (f a : Nat) (v : Value) : qC (sF h f a v) = qC h := rfl
theorem qI_sF (h : AH) (f a : Nat) (v : Value) : qI (sF h f a v) = qI h := rfl
theorem qF_sF (h : AH) (f a : Nat) (v : Value) (g b : Nat) : qF (sF h f a v) g b = if g = f ∧ b = a then v else qF h g b := rfl
theorem qK_sI (h : AH) (a : Nat) (x : List Int32) : qK (sI h a x) = qK h := rfl
theorem qF_sI (h : AH) (a : Nat) (x : List Int32) : qF (sI h a x) = qF h := rfl
theorem qL_sI (h : AH) (a : Nat) (x : List Int32) : qL (sI h a x) = qL h := rfl
theorem qC_sI (h : AH) (a : Nat) (x : List Int32) : qC (sI h a x) = qC h := rfl
theorem qI_sI (h : AH) (a : Nat) (x : List Int32) (b : Nat) : qI (sI h a x) b = if b = a then x else qI h b := rfl
theorem qK_sL (h : AH) (a : Nat) (x : List Nat) (c : Nat) : qK (sL h a x c) = qK h := rfl
theorem qF_sL (h : AH) (a : Nat) (x : List Nat) (c : Nat) : qF (sL h a x c) = qF h := rfl
theorem qI_sL (h : AH) (a : Nat) (x : List Nat) (c : Nat) : qI (sL h a x c) = qI h := rfl
theorem qL_sL (h : AH) (a : Nat) (x : List Nat) (c b : Nat) : qL (sL h a x c) b = if b = a then x else qL h b := rfl
theorem qC_sL (h : AH) (a : Nat) (x : List Nat) (c b : Nat) : qC (sL h a x c) b = if b = a then c else qC h b := rfl
theorem qK_sK (h : AH) (a k b : Nat) : qK (sK h a k) b = if b = a then k else qK h b := rfl
theorem qF_sK (h : AH) (a k : Nat) : qF (sK h a k) = qF h := rfl
theorem qL_sK (h : AH) (a k : Nat) : qL (sK h a k) = qL h := rfl
theorem qC_sK (h : AH) (a k : Nat) : qC (sK h a k) = qC h := rfl
theorem qI_sK (h : AH) (a k : Nat) : qI (sK h a k) = qI h := rfl
theorem qK_nO (h : AH) (q k b : Nat) : qK (nO h q k) b = if b = q then k else qK h b := rfl
theorem qF_nO (h : AH) (q k g b : Nat) : qF (nO h q k) g b = if b = q then dfv g else qF h g b := rfl
theorem qL_nO (h : AH) (q k : Nat) : qL (nO h q k) = qL h := rfl
theorem qC_nO (h : AH) (q k : Nat) : qC (nO h q k) = qC h := rfl
theorem qI_nO (h : AH) (q k : Nat) : qI (nO h q k) = qI h := rfl
/-! WORDS -/
def WS : List Cond := lw_tbl.filter goodWord
theorem wsm {w : Cond} (i : Nat) (h : tables_1[i]? = some w) (g : goodWord w = true) : w ∈ WS := List.mem_filter.mpr ⟨List.mem_append_right _ (List.mem_of_getElem? h), g⟩
theorem wsp {w : Cond} (i : Nat) (h : (k2_sels lw_privs)[i]? = some w) (g : goodWord w = true) : w ∈ WS := List.mem_filter.mpr ⟨List.mem_append_left _ (List.mem_of_getElem? h), g⟩
/-- words that the tables decide and that aren't good -/
def nestW : Cond → Bool
  | .castable .. => true
  | .declares .. => true
  | .methodLinkNest .. => true
  | _ => false
def WN : List Cond := tables_1.filter nestW
theorem wnm {w : Cond} (i : Nat) (h : tables_1[i]? = some w) (g : nestW w = true) : w ∈ WN := List.mem_filter.mpr ⟨List.mem_of_getElem? h, g⟩
theorem wn_warm {w : Cond} (hw : w ∈ WN) {s U : State} (hW : s.WarmedH U.vm) (h : va_Nw w s) : va_Nw w U := by
  have hg := (List.mem_filter.mp hw).2
  cases w <;> first | exact va_Nw.warmC hW h | exact va_Nw.warmD hW h | exact va_Nw.warmM hW h | (simp [nestW] at hg)
theorem wn_same {w : Cond} (hw : w ∈ WN) {s U : State} (hW : s.vm = U.vm) (h : va_Nw w s) : va_Nw w U := by
  have hg := (List.mem_filter.mp hw).2
  cases w <;> first | exact va_Nw.same rfl hW h | (simp [nestW] at hg)
/-! THE ENVIRONMENT: numbers of classes and slots, of array classes; the empty array of lists; where the law's heap begins -/
abbrev EV : Type := va_G × (Nat → ClassId) × Nat × Nat
abbrev eD (E : EV) : va_G := E.1
abbrev eA (E : EV) : Nat → ClassId := E.2.1
abbrev eZ (E : EV) : Nat := E.2.2.1
abbrev eN (E : EV) : Nat := E.2.2.2
def A0 (E : EV) : Nat → Prop := fun q => eN E ≤ q
abbrev kcl : List vw_C := [(RX0, TX0, 2), (RX1, TX1, 2), (RX2, TX2, 10), (RX3, TX3, 3), (RX4, TX4, 2), (RX5, TX5, 3), (RX6, TX6, 4), (RX7, TX7, 1), (RX8, TX8, 6), (RX9, TX9, 31), (RJx4a65c, TJx4a65c, 3)]
def nfl : Nat → Nat
  | 0 => 2 | 1 => 2 | 2 => 10 | 3 => 3 | 4 => 2 | 5 => 3 | 6 => 4 | 7 => 1 | 8 => 6 | 9 => 31 | _ => 3
abbrev ety (E : EV) : List (ClassId × FieldType) := [(eA E 0, .object "java/lang/Object"), (eA E 1, .int), (eA E 2, .boolean), (eA E 3, .long), (eA E 4, .double)]
def qStr : List (String × Nat × String) := [("Couplet", 256, "there is no such end"), ("Couplet", 136, "no message from this end"), ("Couplet", 157, "no message to this end"), ("Couplet", 59, "there is no such position"), ("Couplet", 259, "this character can not be written"), ("Couplet", 266, "the text is full"), ("Couplet", 263, "all operations were made"), ("Couplet", 95, "nothing is ahead of the cursor"), ("Couplet", 105, "no operation is kept"), ("Couplet", 271, "there is no such message"), ("Couplet", 273, "there is no such operation"), ("Couplet", 240, "the text is empty"), ("Couplet", 246, "the history has no messages")]
def EN (E : EV) (s : State) : Prop :=
  va_K (eD E) kcl (ety E) s ∧ va_Z "java/util/ArrayList" "DEFAULTCAPACITY_EMPTY_ELEMENTDATA" "[Ljava/lang/Object;" (.ref (eZ E)) (A0 E) s s.heap ∧ va_T (.object "java/lang/Object") (eZ E) 0 (fun _ => .null) (A0 E) s s.heap ∧
  vx_Zq Bundle.tN "UNASSIGNED_STACK" Bundle.steD (A0 E) s s.heap ∧ vx_Zq Bundle.tN "SUPPRESSED_SENTINEL" Bundle.listD (A0 E) s s.heap ∧ (∀ w ∈ WN, va_Nw w s) ∧ (∀ q ∈ qStr, ∃ a, vk_R q.1 q.2.1 q.2.2 a s) ∧ eN E ≤ s.heap.size
theorem EN.calling {E : EV} {u : State} (g : JFrame) (mk : MethodId) (a : Array Value) (h : EN E u) : EN E (u.calling g mk a) := by
  obtain ⟨h1, h2, h3, h4, h5, h6, h7, h8⟩ := h
  have hv : (u.calling g mk a).vm = u.vm := rfl
  exact ⟨va_K.moved (Vm.Alike.refl u.vm) h1, va_Z.moved (Vm.Alike.refl u.vm) h2, va_T.moved (Vm.Alike.refl u.vm) h3, vx_Zq.moved (Vm.Alike.refl u.vm) h4, vx_Zq.moved (Vm.Alike.refl u.vm) h5, fun w hw => wn_same hw hv.symm (h6 w hw), fun q hq => by
    obtain ⟨a9, h9⟩ := h7 q hq
    exact ⟨a9, vk_R.same hv h9⟩, h8⟩
theorem EN.call {E : EV} {s U : State} {H : Heap} {locs : List Loc} (h : EN E s) (hS : va_S (A0 E) s.heap H locs) (hU : U.heap = H) (hW : s.WarmedH U.vm) : EN E U := by
  obtain ⟨h1, h2, h3, h4, h5, h6, h7, h8⟩ := h
  subst hU
  have ha := hW.alike
  exact ⟨va_K.moved ha h1, va_Z.moved ha (va_Z.kept h2 hS.2.1), va_T.moved ha (va_T.kept h3 hS.2.1), vx_Zq.moved ha (vx_Zq.kept h4 hS.2.1), vx_Zq.moved ha (vx_Zq.kept h5 hS.2.1), fun w hw => wn_warm hw hW (h6 w hw), fun q hq => by
    obtain ⟨a9, h9⟩ := h7 q hq
    exact ⟨a9, vk_R.warm hW h9⟩, Nat.le_trans h8 hS.1⟩
/-! WHAT THE HEAP HOLDS -/
def qLV (bk : Nat → Nat) (mcn : Nat → Int32) (h : AH) (a : Nat) : Nat → Value := fun k => match k with
  | 0 => .int (mcn a)
  | 1 => .ref (bk a)
  | _ => .int (nI (qL h a).length)
def qAt (E : EV) (bk : Nat → Nat) (mcn : Nat → Int32) (h : AH) (H : Heap) (a : Nat) : Prop :=
  (qK h a ≤ 10 → t_OB a ((eD E).1 (qK h a - 1)) (nfl (qK h a - 1)) ((eD E).2 (qK h a - 1)) H (fun k => qF h (100 * (qK h a - 1) + k) a)) ∧
  (qK h a = 11 → t_OB a ((eD E).1 10) 3 ((eD E).2 10) H (qLV bk mcn h a)) ∧
  (qK h a = 12 → t_OB a ((eD E).1 10) 3 ((eD E).2 10) H (fun k => if k = 1 then .null else .int 0)) ∧
  ((qK h a = 13 ∨ qK h a = 14) → H[a]? = some (arrV (eA E 1) (qI h a).length (fun j => .int ((qI h a).getD j 0)))) ∧
  (qK h a = 15 → H[a]? = some (arrV (eA E 2) (qI h a).length (fun j => .int ((qI h a).getD j 0)))) ∧
  (qK h a = 16 → ∃ x : Int64, qF h 1600 a = .long x ∧ H[a]? = some (arrV (eA E 3) 1 (fun _ => .long x))) ∧
  (qK h a = 17 → ∃ x : UInt64, qF h 1700 a = .double x ∧ H[a]? = some (arrV (eA E 4) 1 (fun _ => .double x)))
def qLB (E : EV) (bk : Nat → Nat) (h : AH) (H : Heap) (a : Nat) : Prop :=
  (qC h a = 0 ∧ bk a = eZ E ∧ qL h a = []) ∨ (0 < qC h a ∧ qC h a < 40000 ∧ (qL h a).length ≤ qC h a ∧ eN E ≤ bk a ∧ qK h (bk a) = 0 ∧ H[bk a]? = some (arrV (eA E 0) (qC h a) (fun j => va_rf ((qL h a)[j]?))))
def HP (E : EV) (h : AH) (H : Heap) : Prop := ∃ (bk : Nat → Nat) (mcn : Nat → Int32),
  (∀ a, qK h a ≠ 0 → eN E ≤ a ∧ a < H.size ∧ qAt E bk mcn h H a) ∧ (∀ a, qK h a = 11 → qLB E bk h H a) ∧ (∀ a b, qK h a = 11 → qK h b = 11 → 0 < qC h a → bk a = bk b → a = b)
theorem qAt.kept {E : EV} {bk bk1 : Nat → Nat} {mcn mcn1 : Nat → Int32} {h h1 : AH} {H H1 : Heap} {a : Nat} (z : qAt E bk mcn h H a) (hq : H1[a]? = H[a]?) (e1 : qK h1 a = qK h a) (e2 : ∀ f, qF h1 f a = qF h f a) (e3 : qI h1 a = qI h a) (e4 : qL h1 a = qL h a) (e5 : bk1 a = bk a) (e6 : mcn1 a = mcn a) : qAt E bk1 mcn1 h1 H1 a := by
  obtain ⟨z1, z2, z3, z4, z5, z6, z7⟩ := z
  unfold qAt
  simp only [e1, e2, e3, hq]
  refine ⟨fun x => t_OB.to ((z1 x).kept hq) (fun k _ => rfl), fun x => t_OB.to ((z2 x).kept hq) (fun k _ => ?_), fun x => (z3 x).kept hq, z4, z5, z6, z7⟩
  unfold qLV
  rw [e4, e5, e6]
theorem HP.upd {E : EV} {h h1 : AH} {H H1 : Heap} {a : Nat} (hp : HP E h H) (hk : qK h a ≠ 0) (hk1 : qK h a ≠ 11) (eK : qK h1 = qK h) (eL : qL h1 = qL h) (eC : qC h1 = qC h) (eF : ∀ f b, b ≠ a → qF h1 f b = qF h f b) (eI : ∀ b, b ≠ a → qI h1 b = qI h b) (hs : H1.size = H.size) (oq : ∀ q, q ≠ a → H1[q]? = H[q]?) (hat : ∀ bk mcn, qAt E bk mcn h H a → qAt E bk mcn h1 H1 a) : HP E h1 H1 := by
  obtain ⟨bk, mcn, p1, p2, p3⟩ := hp
  refine ⟨bk, mcn, fun b hb => ?_, fun b hb => ?_, fun b c hb hc hc0 hbc => p3 b c (by rw [← eK]; exact hb) (by rw [← eK]; exact hc) (by rw [← eC]; exact hc0) hbc⟩
  · rw [eK] at hb
    obtain ⟨b1, b2, b3⟩ := p1 b hb
    refine ⟨b1, by rw [hs]; exact b2, ?_⟩
    by_cases e : b = a
    · subst e; exact hat bk mcn b3
    · exact b3.kept (oq b e) (by rw [eK]) (fun f => eF f b e) (eI b e) (by rw [eL]) rfl rfl
  · rw [eK] at hb
    have z := p2 b hb
    unfold qLB at z ⊢
    rw [eC, eL, eK]
    rcases z with z | ⟨z1, z2, z3, z4, z5, z6⟩
    · exact Or.inl z
    · exact Or.inr ⟨z1, z2, z3, z4, z5, by rw [oq _ (fun e => hk (by rw [← e]; exact z5))]; exact z6⟩
theorem HP.add {E : EV} {h h1 : AH} {H H1 : Heap} {q : Nat} (hp : HP E h H) (hq : q = H.size) (hN : eN E ≤ H.size) (hz : qK h1 q ≠ 11) (eK : ∀ b, b ≠ q → qK h1 b = qK h b) (eL : ∀ b, b ≠ q → qL h1 b = qL h b) (eC : ∀ b, b ≠ q → qC h1 b = qC h b) (eF : ∀ f b, b ≠ q → qF h1 f b = qF h f b) (eI : ∀ b, b ≠ q → qI h1 b = qI h b) (hs : H1.size = q + 1) (oq : ∀ x, x < q → H1[x]? = H[x]?) (hat : ∀ bk mcn, qAt E bk mcn h1 H1 q) : HP E h1 H1 ∧ qK h q = 0 := by
  subst hq
  obtain ⟨bk, mcn, p1, p2, p3⟩ := hp
  have h0 : qK h H.size = 0 := by
    rcases Nat.eq_zero_or_pos (qK h H.size) with z | z
    · exact z
    · exact absurd (p1 H.size (by omega)).2.1 (Nat.lt_irrefl _)
  refine ⟨⟨bk, mcn, fun b hb => ?_, fun b hb => ?_, fun b c hb hc hc0 hbc => ?_⟩, h0⟩
  · by_cases e : b = H.size
    · subst e; exact ⟨hN, by omega, hat bk mcn⟩
    · rw [eK b e] at hb
      obtain ⟨b1, b2, b3⟩ := p1 b hb
      exact ⟨b1, by omega, b3.kept (oq b b2) (eK b e) (fun f => eF f b e) (eI b e) (eL b e) rfl rfl⟩
  · have e : b ≠ H.size := fun e => hz (by rw [← e]; exact hb)
    rw [eK b e] at hb
    have z := p2 b hb
    unfold qLB at z ⊢
    rw [eC b e, eL b e]
    rcases z with z | ⟨z1, z2, z3, z4, z5, z6⟩
    · exact Or.inl z
    · have l := (Array.getElem?_eq_some_iff.mp z6).1
      exact Or.inr ⟨z1, z2, z3, z4, by rw [eK _ (by omega)]; exact z5, by rw [oq _ l]; exact z6⟩
  · have e : b ≠ H.size := fun e => hz (by rw [← e]; exact hb)
    have e2 : c ≠ H.size := fun e => hz (by rw [← e]; exact hc)
    rw [eK b e] at hb
    rw [eK c e2] at hc
    rw [eC b e] at hc0
    exact p3 b c hb hc hc0 hbc
/-! THE JUDGEMENT -/
abbrev VG : Type := Program × Launch × Env × Room × State × MethodId × Array Value × List Frame × Method × Code × (State → Prop)
abbrev gp (Γ : VG) : Program := Γ.1
abbrev gl (Γ : VG) : Launch := Γ.2.1
abbrev ge (Γ : VG) : Env := Γ.2.2.1
abbrev gR (Γ : VG) : Room := Γ.2.2.2.1
abbrev gs (Γ : VG) : State := Γ.2.2.2.2.1
abbrev gm (Γ : VG) : MethodId := Γ.2.2.2.2.2.1
abbrev ga (Γ : VG) : Array Value := Γ.2.2.2.2.2.2.1
abbrev gb (Γ : VG) : List Frame := Γ.2.2.2.2.2.2.2.1
abbrev gM (Γ : VG) : Method := Γ.2.2.2.2.2.2.2.2.1
abbrev gc (Γ : VG) : Code := Γ.2.2.2.2.2.2.2.2.2.1
abbrev gQ (Γ : VG) : State → Prop := Γ.2.2.2.2.2.2.2.2.2.2
abbrev WG (Γ : VG) (H : Heap) (locs : List Loc) (k n : Nat) (pc : Nat) (ls : Array Slot) (st : List Value) : Prop := W (gp Γ) (gl Γ) (ge Γ) (gR Γ) (gs Γ) (gm Γ) (ga Γ) (gb Γ) (gM Γ) (gc Γ) H locs k n (gQ Γ) (F0 (gm Γ) pc ls st)
def V (E : EV) (Γ : VG) (b : Nat) (h : AH) (pc : Nat) (lv : List (Nat × Value)) (st : List Value) : Prop :=
  ∀ (ls : Array Slot) (H : Heap) (locs : List Loc) (k n : Nat), lv_has ls (gc Γ).maxLocals lv → HP E h H → va_S (A0 E) (gs Γ).heap H locs → k + b ≤ (gR Γ).cells → n + 4 * b ≤ (gR Γ).slots → WG Γ H locs k n pc ls st
def CX (E : EV) (Γ : VG) (own : String) (cc : ByteArray) (nL : Nat) : Prop :=
  (gp Γ).tables.exec = Jvm.exec ∧ (gc Γ).code = cc ∧ (gc Γ).maxLocals = nL ∧ (gs Γ).vm.findClass own = some (gm Γ).cls ∧ (∀ w ∈ WS, w.before (ga Γ) (gs Γ) = true) ∧ EN E (gs Γ) ∧ (gM Γ).locks = false ∧ (gl Γ).stackTraces = false
section VR
variable {E : EV} {Γ : VG} {own : String} {cc : ByteArray} {nL b : Nat} {h : AH} {pc : Nat} {lv : List (Nat × Value)} {st : List Value}
theorem V.eq {lv' : List (Nat × Value)} {st' : List Value} (e1 : lv = lv') (e2 : st = st') (k : V E Γ b h pc lv' st') : V E Γ b h pc lv st := by rw [e1, e2]; exact k
theorem V.heap {h' : AH} (e : h = h') (k : V E Γ b h' pc lv st) : V E Γ b h pc lv st := by rw [e]; exact k
theorem V.less {b' : Nat} (e : b' ≤ b) (k : V E Γ b' h pc lv st) : V E Γ b h pc lv st := fun ls H locs k9 n h1 h2 h3 h4 h5 => k ls H locs k9 n h1 h2 h3 (by omega) (by omega)
theorem V.sub {lv' : List (Nat × Value)} (ks : List Nat) (e : lv_pick lv ks = lv') (k : V E Γ b h pc lv' st) : V E Γ b h pc lv st := fun ls H locs k9 n h1 h2 h3 h4 h5 => k ls H locs k9 n (lv_sub h1 ks e) h2 h3 h4 h5
theorem V_iadd (X : CX E Γ own cc nL) {x y : Int32} (d : decode cc pc = .ok (.iadd, 1))  (k : V E Γ b h (pc + 1) lv (.int (x + y) :: st)) : V E Γ b h pc lv (.int y :: .int x :: st) :=
  fun ls H locs k9 n9 h1 h2 h3 h4 h5 => lv_iadd X.1 X.2.1 d  (k ls H locs k9 n9 h1 h2 h3 h4 h5)
theorem V_isub (X : CX E Γ own cc nL) {x y : Int32} (d : decode cc pc = .ok (.isub, 1))  (k : V E Γ b h (pc + 1) lv (.int (x - y) :: st)) : V E Γ b h pc lv (.int y :: .int x :: st) :=
  fun ls H locs k9 n9 h1 h2 h3 h4 h5 => lv_isub X.1 X.2.1 d  (k ls H locs k9 n9 h1 h2 h3 h4 h5)
theorem V_imul (X : CX E Γ own cc nL) {x y : Int32} (d : decode cc pc = .ok (.imul, 1))  (k : V E Γ b h (pc + 1) lv (.int (x * y) :: st)) : V E Γ b h pc lv (.int y :: .int x :: st) :=
  fun ls H locs k9 n9 h1 h2 h3 h4 h5 => lv_imul X.1 X.2.1 d  (k ls H locs k9 n9 h1 h2 h3 h4 h5)
theorem V_iand (X : CX E Γ own cc nL) {x y : Int32} (d : decode cc pc = .ok (.iand, 1))  (k : V E Γ b h (pc + 1) lv (.int (x &&& y) :: st)) : V E Γ b h pc lv (.int y :: .int x :: st) :=
  fun ls H locs k9 n9 h1 h2 h3 h4 h5 => lv_iand X.1 X.2.1 d  (k ls H locs k9 n9 h1 h2 h3 h4 h5)
theorem V_ladd (X : CX E Γ own cc nL) {x y : Int64} (d : decode cc pc = .ok (.ladd, 1))  (k : V E Γ b h (pc + 1) lv (.long (x + y) :: st)) : V E Γ b h pc lv (.long y :: .long x :: st) :=
  fun ls H locs k9 n9 h1 h2 h3 h4 h5 => lv_ladd X.1 X.2.1 d  (k ls H locs k9 n9 h1 h2 h3 h4 h5)
theorem V_lmul (X : CX E Γ own cc nL) {x y : Int64} (d : decode cc pc = .ok (.lmul, 1))  (k : V E Γ b h (pc + 1) lv (.long (x * y) :: st)) : V E Γ b h pc lv (.long y :: .long x :: st) :=
  fun ls H locs k9 n9 h1 h2 h3 h4 h5 => lv_lmul X.1 X.2.1 d  (k ls H locs k9 n9 h1 h2 h3 h4 h5)
theorem V_ineg (X : CX E Γ own cc nL) {x : Int32} (d : decode cc pc = .ok (.ineg, 1))  (k : V E Γ b h (pc + 1) lv (.int (-x) :: st)) : V E Γ b h pc lv (.int x :: st) :=
  fun ls H locs k9 n9 h1 h2 h3 h4 h5 => lv_ineg X.1 X.2.1 d  (k ls H locs k9 n9 h1 h2 h3 h4 h5)
theorem V_i2l (X : CX E Γ own cc nL) {x : Int32} (d : decode cc pc = .ok (.i2l, 1))  (k : V E Γ b h (pc + 1) lv (.long x.toInt64 :: st)) : V E Γ b h pc lv (.int x :: st) :=
  fun ls H locs k9 n9 h1 h2 h3 h4 h5 => lv_i2l X.1 X.2.1 d rfl (k ls H locs k9 n9 h1 h2 h3 h4 h5)
theorem V_i2c (X : CX E Γ own cc nL) {x : Int32} (d : decode cc pc = .ok (.i2c, 1))  (k : V E Γ b h (pc + 1) lv (.int (x.toUInt32 % 65536).toInt32 :: st)) : V E Γ b h pc lv (.int x :: st) :=
  fun ls H locs k9 n9 h1 h2 h3 h4 h5 => lv_i2c X.1 X.2.1 d rfl (k ls H locs k9 n9 h1 h2 h3 h4 h5)
theorem V_i2f (X : CX E Γ own cc nL) {x : Int32} (d : decode cc pc = .ok (.i2f, 1))  (k : V E Γ b h (pc + 1) lv (.float (FP.i2f x) :: st)) : V E Γ b h pc lv (.int x :: st) :=
  fun ls H locs k9 n9 h1 h2 h3 h4 h5 => lv_i2f X.1 X.2.1 d  (k ls H locs k9 n9 h1 h2 h3 h4 h5)
theorem V_i2d (X : CX E Γ own cc nL) {x : Int32} (d : decode cc pc = .ok (.i2d, 1))  (k : V E Γ b h (pc + 1) lv (.double (FP.i2d x) :: st)) : V E Γ b h pc lv (.int x :: st) :=
  fun ls H locs k9 n9 h1 h2 h3 h4 h5 => lv_i2d X.1 X.2.1 d  (k ls H locs k9 n9 h1 h2 h3 h4 h5)
theorem V_f2d (X : CX E Γ own cc nL) {x : UInt32} (d : decode cc pc = .ok (.f2d, 1)) (hne : vf_n64 (FP.f2d x)) (k : V E Γ b h (pc + 1) lv (.double (FP.f2d x) :: st)) : V E Γ b h pc lv (.float x :: st) :=
  fun ls H locs k9 n9 h1 h2 h3 h4 h5 => lv_f2d X.1 X.2.1 d hne (k ls H locs k9 n9 h1 h2 h3 h4 h5)
theorem V_fdiv (X : CX E Γ own cc nL) {x y : UInt32} (d : decode cc pc = .ok (.fdiv, 1)) (hne : vf_n32 (FP.fdiv x y)) (k : V E Γ b h (pc + 1) lv (.float (FP.fdiv x y) :: st)) : V E Γ b h pc lv (.float y :: .float x :: st) :=
  fun ls H locs k9 n9 h1 h2 h3 h4 h5 => lv_fdiv X.1 X.2.1 d hne (k ls H locs k9 n9 h1 h2 h3 h4 h5)
theorem V_ddiv (X : CX E Γ own cc nL) {x y : UInt64} (d : decode cc pc = .ok (.ddiv, 1)) (hne : vf_n64 (FP.ddiv x y)) (k : V E Γ b h (pc + 1) lv (.double (FP.ddiv x y) :: st)) : V E Γ b h pc lv (.double y :: .double x :: st) :=
  fun ls H locs k9 n9 h1 h2 h3 h4 h5 => lv_ddiv X.1 X.2.1 d hne (k ls H locs k9 n9 h1 h2 h3 h4 h5)
theorem V_fcmp (X : CX E Γ own cc nL) {x y : UInt32} {op : CmpOp} (d : decode cc pc = .ok (.fcmp op, 1))  (k : V E Γ b h (pc + 1) lv (.int (Op.cmpValue (FP.fcmp x y) op) :: st)) : V E Γ b h pc lv (.float y :: .float x :: st) :=
  fun ls H locs k9 n9 h1 h2 h3 h4 h5 => lv_fcmp X.1 X.2.1 d  (k ls H locs k9 n9 h1 h2 h3 h4 h5)
theorem V_dcmp (X : CX E Γ own cc nL) {x y : UInt64} {op : CmpOp} (d : decode cc pc = .ok (.dcmp op, 1))  (k : V E Γ b h (pc + 1) lv (.int (Op.cmpValue (FP.dcmp x y) op) :: st)) : V E Γ b h pc lv (.double y :: .double x :: st) :=
  fun ls H locs k9 n9 h1 h2 h3 h4 h5 => lv_dcmp X.1 X.2.1 d  (k ls H locs k9 n9 h1 h2 h3 h4 h5)
theorem V_lcmp (X : CX E Γ own cc nL) {x y : Int64} (d : decode cc pc = .ok (.lcmp, 1))  (k : V E Γ b h (pc + 1) lv (.int (lg_cmp x y) :: st)) : V E Γ b h pc lv (.long y :: .long x :: st) :=
  fun ls H locs k9 n9 h1 h2 h3 h4 h5 => W.lcmp X.1 X.2.1 d  (k ls H locs k9 n9 h1 h2 h3 h4 h5)
theorem V_dup (X : CX E Γ own cc nL) {v : Value} (d : decode cc pc = .ok (.dup, 1)) (hv : v.category = 1) (k : V E Γ b h (pc + 1) lv (v :: v :: st)) : V E Γ b h pc lv (v :: st) :=
  fun ls H locs k9 n9 h1 h2 h3 h4 h5 => lv_dup X.1 X.2.1 d hv (k ls H locs k9 n9 h1 h2 h3 h4 h5)
theorem V_pop (X : CX E Γ own cc nL) {v : Value} (d : decode cc pc = .ok (.pop, 1)) (hv : v.category = 1) (k : V E Γ b h (pc + 1) lv (st)) : V E Γ b h pc lv (v :: st) :=
  fun ls H locs k9 n9 h1 h2 h3 h4 h5 => lv_pop X.1 X.2.1 d hv (k ls H locs k9 n9 h1 h2 h3 h4 h5)
theorem V_dup2 (X : CX E Γ own cc nL) {v u : Value} (d : decode cc pc = .ok (.dup2, 1)) (hv : v.category = 1) (hu : u.category = 1) (k : V E Γ b h (pc + 1) lv (v :: u :: v :: u :: st)) : V E Γ b h pc lv (v :: u :: st) :=
  fun ls H locs k9 n9 h1 h2 h3 h4 h5 => lv_dup2_11 X.1 X.2.1 d hv hu (k ls H locs k9 n9 h1 h2 h3 h4 h5)
theorem V_dup_x1 (X : CX E Γ own cc nL) {v u : Value} (d : decode cc pc = .ok (.dup_x1, 1)) (hv : v.category = 1) (hu : u.category = 1) (k : V E Γ b h (pc + 1) lv (v :: u :: v :: st)) : V E Γ b h pc lv (v :: u :: st) :=
  fun ls H locs k9 n9 h1 h2 h3 h4 h5 => lv_dup_x1 X.1 X.2.1 d hv hu (k ls H locs k9 n9 h1 h2 h3 h4 h5)
theorem V_null (X : CX E Γ own cc nL)  (d : decode cc pc = .ok (.aconst_null, 1))  (k : V E Γ b h (pc + 1) lv (.null :: st)) : V E Γ b h pc lv (st) :=
  fun ls H locs k9 n9 h1 h2 h3 h4 h5 => lv_null X.1 X.2.1 d  (k ls H locs k9 n9 h1 h2 h3 h4 h5)
theorem V_iconst (X : CX E Γ own cc nL) {n : Int} {v : Int32} (d : decode cc pc = .ok (.iconst n, 1)) (hv : Int32.ofInt n = v) (k : V E Γ b h (pc + 1) lv (.int v :: st)) : V E Γ b h pc lv (st) :=
  fun ls H locs k9 n9 h1 h2 h3 h4 h5 => lv_iconst X.1 X.2.1 d hv (k ls H locs k9 n9 h1 h2 h3 h4 h5)
theorem V_bipush (X : CX E Γ own cc nL) {n : Int} {v : Int32} (d : decode cc pc = .ok (.bipush n, 2)) (hv : (Int8.ofInt n).toInt32 = v) (k : V E Γ b h (pc + 2) lv (.int v :: st)) : V E Γ b h pc lv (st) :=
  fun ls H locs k9 n9 h1 h2 h3 h4 h5 => lv_bipush X.1 X.2.1 d hv (k ls H locs k9 n9 h1 h2 h3 h4 h5)
theorem V_sipush (X : CX E Γ own cc nL) {n : Int} {v : Int32} (d : decode cc pc = .ok (.sipush n, 3)) (hv : (Int16.ofInt n).toInt32 = v) (k : V E Γ b h (pc + 3) lv (.int v :: st)) : V E Γ b h pc lv (st) :=
  fun ls H locs k9 n9 h1 h2 h3 h4 h5 => lv_sipush X.1 X.2.1 d hv (k ls H locs k9 n9 h1 h2 h3 h4 h5)
theorem V_lconst (X : CX E Γ own cc nL) {n : Fin 2} {v : Int64} (d : decode cc pc = .ok (.lconst n, 1)) (hv : Int64.ofNat (n : Nat) = v) (k : V E Γ b h (pc + 1) lv (.long v :: st)) : V E Γ b h pc lv (st) :=
  fun ls H locs k9 n9 h1 h2 h3 h4 h5 => lv_lconst X.1 X.2.1 d hv (k ls H locs k9 n9 h1 h2 h3 h4 h5)
theorem V_iload_n (X : CX E Γ own cc nL) {k : Fin 4} (j : Nat) {x : Int32} (d : decode cc pc = .ok (.iload_n k, 1)) (hl : lv[j]? = some ((k : Nat), Value.int x)) (kk : V E Γ b h (pc + 1) lv (.int x :: st)) : V E Γ b h pc lv st :=
  fun ls H locs k9 n9 h1 h2 h3 h4 h5 => lv_iload_n X.1 X.2.1 d rfl (lv_at h1 j hl) (kk ls H locs k9 n9 h1 h2 h3 h4 h5)
theorem V_iload (X : CX E Γ own cc nL) {i : Nat} (j : Nat) {x : Int32} (d : decode cc pc = .ok (.iload i, 2)) (hl : lv[j]? = some (i, Value.int x)) (kk : V E Γ b h (pc + 2) lv (.int x :: st)) : V E Γ b h pc lv st :=
  fun ls H locs k9 n9 h1 h2 h3 h4 h5 => lv_iload X.1 X.2.1 d (lv_at h1 j hl) (kk ls H locs k9 n9 h1 h2 h3 h4 h5)
theorem V_istore_n (X : CX E Γ own cc nL) {k : Fin 4} {i : Nat} {x : Int32} (lv' : List (Nat × Value)) (d : decode cc pc = .ok (.istore_n k, 1)) (hi : (k : Nat) = i) (hn : i < nL) (hl : (i, Value.int x) :: lv.filter (fun q => !(q.1 == i) && !(q.1 + 1 == i && q.2.category == 2)) = lv') (kk : V E Γ b h (pc + 1) lv' st) : V E Γ b h pc lv (.int x :: st) :=
  fun ls H locs k9 n9 h1 h2 h3 h4 h5 => lv_istore_n X.1 X.2.1 d hi h1 (by rw [X.2.2.1]; exact hn) hl (fun ls' h1' => kk ls' H locs k9 n9 h1' h2 h3 h4 h5)
theorem V_istore (X : CX E Γ own cc nL) {i : Nat} {x : Int32} (lv' : List (Nat × Value)) (d : decode cc pc = .ok (.istore i, 2)) (hn : i < nL) (hl : (i, Value.int x) :: lv.filter (fun q => !(q.1 == i) && !(q.1 + 1 == i && q.2.category == 2)) = lv') (kk : V E Γ b h (pc + 2) lv' st) : V E Γ b h pc lv (.int x :: st) :=
  fun ls H locs k9 n9 h1 h2 h3 h4 h5 => lv_istore X.1 X.2.1 d h1 (by rw [X.2.2.1]; exact hn) hl (fun ls' h1' => kk ls' H locs k9 n9 h1' h2 h3 h4 h5)
theorem V_lload_n (X : CX E Γ own cc nL) {k : Fin 4} (j : Nat) {x : Int64} (d : decode cc pc = .ok (.lload_n k, 1)) (hl : lv[j]? = some ((k : Nat), Value.long x)) (kk : V E Γ b h (pc + 1) lv (.long x :: st)) : V E Γ b h pc lv st :=
  fun ls H locs k9 n9 h1 h2 h3 h4 h5 => lv_lload_n X.1 X.2.1 d rfl (lv_at h1 j hl) (kk ls H locs k9 n9 h1 h2 h3 h4 h5)
theorem V_lload (X : CX E Γ own cc nL) {i : Nat} (j : Nat) {x : Int64} (d : decode cc pc = .ok (.lload i, 2)) (hl : lv[j]? = some (i, Value.long x)) (kk : V E Γ b h (pc + 2) lv (.long x :: st)) : V E Γ b h pc lv st :=
  fun ls H locs k9 n9 h1 h2 h3 h4 h5 => lv_lload X.1 X.2.1 d (lv_at h1 j hl) (kk ls H locs k9 n9 h1 h2 h3 h4 h5)
theorem V_lstore_n (X : CX E Γ own cc nL) {k : Fin 4} {i : Nat} {x : Int64} (lv' : List (Nat × Value)) (d : decode cc pc = .ok (.lstore_n k, 1)) (hi : (k : Nat) = i) (hn : i + 1 < nL) (hl : (i, Value.long x) :: lv.filter (fun q => !(q.1 == i) && (!(q.1 == i + 1) && !(q.1 + 1 == i && q.2.category == 2))) = lv') (kk : V E Γ b h (pc + 1) lv' st) : V E Γ b h pc lv (.long x :: st) :=
  fun ls H locs k9 n9 h1 h2 h3 h4 h5 => lv_lstore_n X.1 X.2.1 d hi h1 (by rw [X.2.2.1]; exact hn) hl (fun ls' h1' => kk ls' H locs k9 n9 h1' h2 h3 h4 h5)
theorem V_lstore (X : CX E Γ own cc nL) {i : Nat} {x : Int64} (lv' : List (Nat × Value)) (d : decode cc pc = .ok (.lstore i, 2)) (hn : i + 1 < nL) (hl : (i, Value.long x) :: lv.filter (fun q => !(q.1 == i) && (!(q.1 == i + 1) && !(q.1 + 1 == i && q.2.category == 2))) = lv') (kk : V E Γ b h (pc + 2) lv' st) : V E Γ b h pc lv (.long x :: st) :=
  fun ls H locs k9 n9 h1 h2 h3 h4 h5 => lv_lstore X.1 X.2.1 d h1 (by rw [X.2.2.1]; exact hn) hl (fun ls' h1' => kk ls' H locs k9 n9 h1' h2 h3 h4 h5)
theorem V_fload_n (X : CX E Γ own cc nL) {k : Fin 4} (j : Nat) {x : UInt32} (d : decode cc pc = .ok (.fload_n k, 1)) (hl : lv[j]? = some ((k : Nat), Value.float x)) (kk : V E Γ b h (pc + 1) lv (.float x :: st)) : V E Γ b h pc lv st :=
  fun ls H locs k9 n9 h1 h2 h3 h4 h5 => lv_fload_n X.1 X.2.1 d rfl (lv_at h1 j hl) (kk ls H locs k9 n9 h1 h2 h3 h4 h5)
theorem V_fload (X : CX E Γ own cc nL) {i : Nat} (j : Nat) {x : UInt32} (d : decode cc pc = .ok (.fload i, 2)) (hl : lv[j]? = some (i, Value.float x)) (kk : V E Γ b h (pc + 2) lv (.float x :: st)) : V E Γ b h pc lv st :=
  fun ls H locs k9 n9 h1 h2 h3 h4 h5 => lv_fload X.1 X.2.1 d (lv_at h1 j hl) (kk ls H locs k9 n9 h1 h2 h3 h4 h5)
theorem V_fstore_n (X : CX E Γ own cc nL) {k : Fin 4} {i : Nat} {x : UInt32} (lv' : List (Nat × Value)) (d : decode cc pc = .ok (.fstore_n k, 1)) (hi : (k : Nat) = i) (hn : i < nL) (hl : (i, Value.float x) :: lv.filter (fun q => !(q.1 == i) && !(q.1 + 1 == i && q.2.category == 2)) = lv') (kk : V E Γ b h (pc + 1) lv' st) : V E Γ b h pc lv (.float x :: st) :=
  fun ls H locs k9 n9 h1 h2 h3 h4 h5 => lv_fstore_n X.1 X.2.1 d hi h1 (by rw [X.2.2.1]; exact hn) hl (fun ls' h1' => kk ls' H locs k9 n9 h1' h2 h3 h4 h5)
theorem V_fstore (X : CX E Γ own cc nL) {i : Nat} {x : UInt32} (lv' : List (Nat × Value)) (d : decode cc pc = .ok (.fstore i, 2)) (hn : i < nL) (hl : (i, Value.float x) :: lv.filter (fun q => !(q.1 == i) && !(q.1 + 1 == i && q.2.category == 2)) = lv') (kk : V E Γ b h (pc + 2) lv' st) : V E Γ b h pc lv (.float x :: st) :=
  fun ls H locs k9 n9 h1 h2 h3 h4 h5 => lv_fstore X.1 X.2.1 d h1 (by rw [X.2.2.1]; exact hn) hl (fun ls' h1' => kk ls' H locs k9 n9 h1' h2 h3 h4 h5)
theorem V_dload_n (X : CX E Γ own cc nL) {k : Fin 4} (j : Nat) {x : UInt64} (d : decode cc pc = .ok (.dload_n k, 1)) (hl : lv[j]? = some ((k : Nat), Value.double x)) (kk : V E Γ b h (pc + 1) lv (.double x :: st)) : V E Γ b h pc lv st :=
  fun ls H locs k9 n9 h1 h2 h3 h4 h5 => lv_dload_n X.1 X.2.1 d rfl (lv_at h1 j hl) (kk ls H locs k9 n9 h1 h2 h3 h4 h5)
theorem V_dload (X : CX E Γ own cc nL) {i : Nat} (j : Nat) {x : UInt64} (d : decode cc pc = .ok (.dload i, 2)) (hl : lv[j]? = some (i, Value.double x)) (kk : V E Γ b h (pc + 2) lv (.double x :: st)) : V E Γ b h pc lv st :=
  fun ls H locs k9 n9 h1 h2 h3 h4 h5 => lv_dload X.1 X.2.1 d (lv_at h1 j hl) (kk ls H locs k9 n9 h1 h2 h3 h4 h5)
theorem V_dstore_n (X : CX E Γ own cc nL) {k : Fin 4} {i : Nat} {x : UInt64} (lv' : List (Nat × Value)) (d : decode cc pc = .ok (.dstore_n k, 1)) (hi : (k : Nat) = i) (hn : i + 1 < nL) (hl : (i, Value.double x) :: lv.filter (fun q => !(q.1 == i) && (!(q.1 == i + 1) && !(q.1 + 1 == i && q.2.category == 2))) = lv') (kk : V E Γ b h (pc + 1) lv' st) : V E Γ b h pc lv (.double x :: st) :=
  fun ls H locs k9 n9 h1 h2 h3 h4 h5 => lv_dstore_n X.1 X.2.1 d hi h1 (by rw [X.2.2.1]; exact hn) hl (fun ls' h1' => kk ls' H locs k9 n9 h1' h2 h3 h4 h5)
theorem V_dstore (X : CX E Γ own cc nL) {i : Nat} {x : UInt64} (lv' : List (Nat × Value)) (d : decode cc pc = .ok (.dstore i, 2)) (hn : i + 1 < nL) (hl : (i, Value.double x) :: lv.filter (fun q => !(q.1 == i) && (!(q.1 == i + 1) && !(q.1 + 1 == i && q.2.category == 2))) = lv') (kk : V E Γ b h (pc + 2) lv' st) : V E Γ b h pc lv (.double x :: st) :=
  fun ls H locs k9 n9 h1 h2 h3 h4 h5 => lv_dstore X.1 X.2.1 d h1 (by rw [X.2.2.1]; exact hn) hl (fun ls' h1' => kk ls' H locs k9 n9 h1' h2 h3 h4 h5)
theorem V_aload_n (X : CX E Γ own cc nL) {k : Fin 4} (j : Nat) {x : Nat} (d : decode cc pc = .ok (.aload_n k, 1)) (hl : lv[j]? = some ((k : Nat), Value.ref x)) (kk : V E Γ b h (pc + 1) lv (.ref x :: st)) : V E Γ b h pc lv st :=
  fun ls H locs k9 n9 h1 h2 h3 h4 h5 => lv_aload_n X.1 X.2.1 d rfl (lv_at h1 j hl) (kk ls H locs k9 n9 h1 h2 h3 h4 h5)
theorem V_aload (X : CX E Γ own cc nL) {i : Nat} (j : Nat) {x : Nat} (d : decode cc pc = .ok (.aload i, 2)) (hl : lv[j]? = some (i, Value.ref x)) (kk : V E Γ b h (pc + 2) lv (.ref x :: st)) : V E Γ b h pc lv st :=
  fun ls H locs k9 n9 h1 h2 h3 h4 h5 => lv_aload X.1 X.2.1 d (lv_at h1 j hl) (kk ls H locs k9 n9 h1 h2 h3 h4 h5)
theorem V_astore_n (X : CX E Γ own cc nL) {k : Fin 4} {i : Nat} {x : Nat} (lv' : List (Nat × Value)) (d : decode cc pc = .ok (.astore_n k, 1)) (hi : (k : Nat) = i) (hn : i < nL) (hl : (i, Value.ref x) :: lv.filter (fun q => !(q.1 == i) && !(q.1 + 1 == i && q.2.category == 2)) = lv') (kk : V E Γ b h (pc + 1) lv' st) : V E Γ b h pc lv (.ref x :: st) :=
  fun ls H locs k9 n9 h1 h2 h3 h4 h5 => lv_astore_n X.1 X.2.1 d hi h1 (by rw [X.2.2.1]; exact hn) hl (fun ls' h1' => kk ls' H locs k9 n9 h1' h2 h3 h4 h5)
theorem V_astore (X : CX E Γ own cc nL) {i : Nat} {x : Nat} (lv' : List (Nat × Value)) (d : decode cc pc = .ok (.astore i, 2)) (hn : i < nL) (hl : (i, Value.ref x) :: lv.filter (fun q => !(q.1 == i) && !(q.1 + 1 == i && q.2.category == 2)) = lv') (kk : V E Γ b h (pc + 2) lv' st) : V E Γ b h pc lv (.ref x :: st) :=
  fun ls H locs k9 n9 h1 h2 h3 h4 h5 => lv_astore X.1 X.2.1 d h1 (by rw [X.2.2.1]; exact hn) hl (fun ls' h1' => kk ls' H locs k9 n9 h1' h2 h3 h4 h5)
theorem V_iinc (X : CX E Γ own cc nL) {i : Nat} {n : Int} {x v : Int32} (j : Nat) (lv' : List (Nat × Value)) (d : decode cc pc = .ok (.iinc i n, 3)) (hj : lv[j]? = some (i, .int x)) (hv : x + Int32.ofInt n = v) (hn : i < nL) (hl : (i, Value.int v) :: lv.filter (fun q => !(q.1 == i) && !(q.1 + 1 == i && q.2.category == 2)) = lv') (kk : V E Γ b h (pc + 3) lv' st) : V E Γ b h pc lv st :=
  fun ls H locs k9 n9 h1 h2 h3 h4 h5 => lv_iinc X.1 X.2.1 d h1 hj hv (by rw [X.2.2.1]; exact hn) hl (fun ls' h1' => kk ls' H locs k9 n9 h1' h2 h3 h4 h5)
-- BRANCHES
theorem V_if_eq (X : CX E Γ own cc nL) {x : Int32} {off : Int} (tgt : Nat) (d : decode cc pc = .ok (.ifCond .eq off, 3)) (ht : (pc : Int) + off = (tgt : Int)) (kt : x = 0 → V E Γ b h tgt lv st) (kf : ¬ x = 0 → V E Γ b h (pc + 3) lv st) : V E Γ b h pc lv (.int x :: st) :=
  fun ls H locs k9 n9 h1 h2 h3 h4 h5 => lv_if_eq X.1 X.2.1 d ht (fun c => kt c ls H locs k9 n9 h1 h2 h3 h4 h5) (fun c => kf c ls H locs k9 n9 h1 h2 h3 h4 h5)
theorem V_icmp_eq (X : CX E Γ own cc nL) {x y : Int32} {off : Int} (tgt : Nat) (d : decode cc pc = .ok (.if_icmp .eq off, 3)) (ht : (pc : Int) + off = (tgt : Int)) (kt : x = y → V E Γ b h tgt lv st) (kf : ¬ x = y → V E Γ b h (pc + 3) lv st) : V E Γ b h pc lv (.int y :: .int x :: st) :=
  fun ls H locs k9 n9 h1 h2 h3 h4 h5 => lv_icmp_eq X.1 X.2.1 d ht (fun c => kt c ls H locs k9 n9 h1 h2 h3 h4 h5) (fun c => kf c ls H locs k9 n9 h1 h2 h3 h4 h5)
theorem V_if_ne (X : CX E Γ own cc nL) {x : Int32} {off : Int} (tgt : Nat) (d : decode cc pc = .ok (.ifCond .ne off, 3)) (ht : (pc : Int) + off = (tgt : Int)) (kt : ¬ x = 0 → V E Γ b h tgt lv st) (kf : x = 0 → V E Γ b h (pc + 3) lv st) : V E Γ b h pc lv (.int x :: st) :=
  fun ls H locs k9 n9 h1 h2 h3 h4 h5 => lv_if_ne X.1 X.2.1 d ht (fun c => kt c ls H locs k9 n9 h1 h2 h3 h4 h5) (fun c => kf c ls H locs k9 n9 h1 h2 h3 h4 h5)
theorem V_icmp_ne (X : CX E Γ own cc nL) {x y : Int32} {off : Int} (tgt : Nat) (d : decode cc pc = .ok (.if_icmp .ne off, 3)) (ht : (pc : Int) + off = (tgt : Int)) (kt : ¬ x = y → V E Γ b h tgt lv st) (kf : x = y → V E Γ b h (pc + 3) lv st) : V E Γ b h pc lv (.int y :: .int x :: st) :=
  fun ls H locs k9 n9 h1 h2 h3 h4 h5 => lv_icmp_ne X.1 X.2.1 d ht (fun c => kt c ls H locs k9 n9 h1 h2 h3 h4 h5) (fun c => kf c ls H locs k9 n9 h1 h2 h3 h4 h5)
theorem V_if_lt (X : CX E Γ own cc nL) {x : Int32} {off : Int} (tgt : Nat) (d : decode cc pc = .ok (.ifCond .lt off, 3)) (ht : (pc : Int) + off = (tgt : Int)) (kt : x < 0 → V E Γ b h tgt lv st) (kf : ¬ x < 0 → V E Γ b h (pc + 3) lv st) : V E Γ b h pc lv (.int x :: st) :=
  fun ls H locs k9 n9 h1 h2 h3 h4 h5 => lv_if_lt X.1 X.2.1 d ht (fun c => kt c ls H locs k9 n9 h1 h2 h3 h4 h5) (fun c => kf c ls H locs k9 n9 h1 h2 h3 h4 h5)
theorem V_icmp_lt (X : CX E Γ own cc nL) {x y : Int32} {off : Int} (tgt : Nat) (d : decode cc pc = .ok (.if_icmp .lt off, 3)) (ht : (pc : Int) + off = (tgt : Int)) (kt : x < y → V E Γ b h tgt lv st) (kf : ¬ x < y → V E Γ b h (pc + 3) lv st) : V E Γ b h pc lv (.int y :: .int x :: st) :=
  fun ls H locs k9 n9 h1 h2 h3 h4 h5 => lv_icmp_lt X.1 X.2.1 d ht (fun c => kt c ls H locs k9 n9 h1 h2 h3 h4 h5) (fun c => kf c ls H locs k9 n9 h1 h2 h3 h4 h5)
theorem V_if_ge (X : CX E Γ own cc nL) {x : Int32} {off : Int} (tgt : Nat) (d : decode cc pc = .ok (.ifCond .ge off, 3)) (ht : (pc : Int) + off = (tgt : Int)) (kt : 0 ≤ x → V E Γ b h tgt lv st) (kf : ¬ 0 ≤ x → V E Γ b h (pc + 3) lv st) : V E Γ b h pc lv (.int x :: st) :=
  fun ls H locs k9 n9 h1 h2 h3 h4 h5 => lv_if_ge X.1 X.2.1 d ht (fun c => kt c ls H locs k9 n9 h1 h2 h3 h4 h5) (fun c => kf c ls H locs k9 n9 h1 h2 h3 h4 h5)
theorem V_icmp_ge (X : CX E Γ own cc nL) {x y : Int32} {off : Int} (tgt : Nat) (d : decode cc pc = .ok (.if_icmp .ge off, 3)) (ht : (pc : Int) + off = (tgt : Int)) (kt : y ≤ x → V E Γ b h tgt lv st) (kf : ¬ y ≤ x → V E Γ b h (pc + 3) lv st) : V E Γ b h pc lv (.int y :: .int x :: st) :=
  fun ls H locs k9 n9 h1 h2 h3 h4 h5 => lv_icmp_ge X.1 X.2.1 d ht (fun c => kt c ls H locs k9 n9 h1 h2 h3 h4 h5) (fun c => kf c ls H locs k9 n9 h1 h2 h3 h4 h5)
theorem V_if_gt (X : CX E Γ own cc nL) {x : Int32} {off : Int} (tgt : Nat) (d : decode cc pc = .ok (.ifCond .gt off, 3)) (ht : (pc : Int) + off = (tgt : Int)) (kt : 0 < x → V E Γ b h tgt lv st) (kf : ¬ 0 < x → V E Γ b h (pc + 3) lv st) : V E Γ b h pc lv (.int x :: st) :=
  fun ls H locs k9 n9 h1 h2 h3 h4 h5 => lv_if_gt X.1 X.2.1 d ht (fun c => kt c ls H locs k9 n9 h1 h2 h3 h4 h5) (fun c => kf c ls H locs k9 n9 h1 h2 h3 h4 h5)
theorem V_icmp_gt (X : CX E Γ own cc nL) {x y : Int32} {off : Int} (tgt : Nat) (d : decode cc pc = .ok (.if_icmp .gt off, 3)) (ht : (pc : Int) + off = (tgt : Int)) (kt : y < x → V E Γ b h tgt lv st) (kf : ¬ y < x → V E Γ b h (pc + 3) lv st) : V E Γ b h pc lv (.int y :: .int x :: st) :=
  fun ls H locs k9 n9 h1 h2 h3 h4 h5 => lv_icmp_gt X.1 X.2.1 d ht (fun c => kt c ls H locs k9 n9 h1 h2 h3 h4 h5) (fun c => kf c ls H locs k9 n9 h1 h2 h3 h4 h5)
theorem V_if_le (X : CX E Γ own cc nL) {x : Int32} {off : Int} (tgt : Nat) (d : decode cc pc = .ok (.ifCond .le off, 3)) (ht : (pc : Int) + off = (tgt : Int)) (kt : x ≤ 0 → V E Γ b h tgt lv st) (kf : ¬ x ≤ 0 → V E Γ b h (pc + 3) lv st) : V E Γ b h pc lv (.int x :: st) :=
  fun ls H locs k9 n9 h1 h2 h3 h4 h5 => lv_if_le X.1 X.2.1 d ht (fun c => kt c ls H locs k9 n9 h1 h2 h3 h4 h5) (fun c => kf c ls H locs k9 n9 h1 h2 h3 h4 h5)
theorem V_icmp_le (X : CX E Γ own cc nL) {x y : Int32} {off : Int} (tgt : Nat) (d : decode cc pc = .ok (.if_icmp .le off, 3)) (ht : (pc : Int) + off = (tgt : Int)) (kt : x ≤ y → V E Γ b h tgt lv st) (kf : ¬ x ≤ y → V E Γ b h (pc + 3) lv st) : V E Γ b h pc lv (.int y :: .int x :: st) :=
  fun ls H locs k9 n9 h1 h2 h3 h4 h5 => lv_icmp_le X.1 X.2.1 d ht (fun c => kt c ls H locs k9 n9 h1 h2 h3 h4 h5) (fun c => kf c ls H locs k9 n9 h1 h2 h3 h4 h5)
theorem V_acmp_ne (X : CX E Γ own cc nL) {x y : Nat} {off : Int} (tgt : Nat) (d : decode cc pc = .ok (.if_acmp .ne off, 3)) (ht : (pc : Int) + off = (tgt : Int)) (kt : ¬ x = y → V E Γ b h tgt lv st) (kf : x = y → V E Γ b h (pc + 3) lv st) : V E Γ b h pc lv (.ref y :: .ref x :: st) :=
  fun ls H locs k9 n9 h1 h2 h3 h4 h5 => lv_acmp_ne (rx := some x) (ry := some y) X.1 X.2.1 d ht (fun c => kt (fun e => c (by rw [e])) ls H locs k9 n9 h1 h2 h3 h4 h5) (fun c => kf (Option.some.inj c) ls H locs k9 n9 h1 h2 h3 h4 h5)
theorem V_goto (X : CX E Γ own cc nL) {off : Int} (tgt : Nat) (d : decode cc pc = .ok (.goto off, 3)) (ht : (pc : Int) + off = (tgt : Int)) (k : V E Γ b h tgt lv st) : V E Γ b h pc lv st :=
  fun ls H locs k9 n9 h1 h2 h3 h4 h5 => lv_goto X.1 X.2.1 d ht (k ls H locs k9 n9 h1 h2 h3 h4 h5)
theorem V_tableIn (X : CX E Γ own cc nL) {dflt lo hi : Int} {offs : Array Int} {len : Nat} {x : Int32} {off : Int} (tgt : Nat) (d : decode cc pc = .ok (.tableswitch dflt lo hi offs, len)) (g1 : ¬ x.toInt < lo) (g2 : ¬ hi < x.toInt) (ho : offs[(x.toInt - lo).toNat]? = some off) (ht : (pc : Int) + off = (tgt : Int)) (k : V E Γ b h tgt lv st) : V E Γ b h pc lv (.int x :: st) :=
  fun ls H locs k9 n9 h1 h2 h3 h4 h5 => lv_tableIn X.1 X.2.1 d g1 g2 ho ht (k ls H locs k9 n9 h1 h2 h3 h4 h5)
theorem V_tableOut (X : CX E Γ own cc nL) {dflt lo hi : Int} {offs : Array Int} {len : Nat} {x : Int32} (tgt : Nat) (d : decode cc pc = .ok (.tableswitch dflt lo hi offs, len)) (g : x.toInt < lo ∨ hi < x.toInt) (ht : (pc : Int) + dflt = (tgt : Int)) (k : V E Γ b h tgt lv st) : V E Γ b h pc lv (.int x :: st) :=
  fun ls H locs k9 n9 h1 h2 h3 h4 h5 => lv_tableOut X.1 X.2.1 d g ht (k ls H locs k9 n9 h1 h2 h3 h4 h5)
theorem V_ldc (X : CX E Γ own cc nL) {index : Nat} {v : Int32} (hw : Cond.constant own index v ∈ WS) (d : decode cc pc = .ok (.ldc index, 2)) (k : V E Γ b h (pc + 2) lv (.int v :: st)) : V E Γ b h pc lv st :=
  fun ls H locs k9 n9 h1 h2 h3 h4 h5 => lv_ldc X.1 X.2.1 X.2.2.2.1 (X.2.2.2.2.1 _ hw) d (k ls H locs k9 n9 h1 h2 h3 h4 h5)
theorem V_ldc2 (X : CX E Γ own cc nL) {index : Nat} {v : Int64} (hw : Cond.constantLong own index v ∈ WS) (d : decode cc pc = .ok (.ldc2_w index, 3)) (k : V E Γ b h (pc + 3) lv (.long v :: st)) : V E Γ b h pc lv st :=
  fun ls H locs k9 n9 h1 h2 h3 h4 h5 => lv_ldc2 X.1 X.2.1 X.2.2.2.1 (X.2.2.2.2.1 _ hw) d (k ls H locs k9 n9 h1 h2 h3 h4 h5)
end VR
end
section
/-! ROWS OF THE HEAP -/
/-- a class's words -/
def CLK (ci : Nat) (C : String) (T : u_T) (N : Nat) (ty0 : Nat → FieldType) : Prop :=
  kcl[ci]? = some (C, T, N) ∧ nfl ci = N ∧ (∀ w ∈ u_ws C T N, w ∈ WS) ∧ (∀ k, k < N → parseFieldDescriptor (T k).2.2.1 = some (ty0 k)) ∧ (∀ a, a < N → ∀ b, b < N → a ≠ b → (T a).2.1 ≠ (T b).2.1)
/-- a field's words: its number, who links it where, its type, whether it is final, the class that declares it -/
def FL (f : Nat) (own : String) (index : Nat) (ty : FieldType) (fin : Bool) (dcl : String) : Prop :=
  ∃ (C : String) (T : u_T) (N : Nat) (ty0 : Nat → FieldType), CLK (f / 100) C T N ty0 ∧ f / 100 ≤ 9 ∧ f % 100 < N ∧ ty0 (f % 100) = ty ∧ (T (f % 100)).2.2.2 = fin ∧ (T (f % 100)).1 = dcl ∧ Cond.fieldLink own index (T (f % 100)).1 (T (f % 100)).2.1 (T (f % 100)).2.2.1 ∈ WS
section VH
variable {E : EV} {Γ : VG} {own : String} {cc : ByteArray} {nL b : Nat} {h : AH} {pc : Nat} {lv : List (Nat × Value)} {st : List Value}
theorem CX.ts (X : CX E Γ own cc nL) : ∀ w ∈ WS, w.before (ga Γ) (gs Γ) = true := X.2.2.2.2.1
theorem CX.en (X : CX E Γ own cc nL) : EN E (gs Γ) := X.2.2.2.2.2.1
theorem CX.ow (X : CX E Γ own cc nL) : (gs Γ).vm.findClass own = some (gm Γ).cls := X.2.2.2.1
theorem HP.obj {E : EV} {h : AH} {H : Heap} {a ci : Nat} (hp : HP E h H) (hk : qK h a = ci + 1) (hc : ci ≤ 9) : t_OB a ((eD E).1 ci) (nfl ci) ((eD E).2 ci) H (fun k => qF h (100 * ci + k) a) := by
  obtain ⟨bk, mcn, p1, -, -⟩ := hp
  have z := (p1 a (by omega)).2.2.1 (by omega)
  rw [hk] at z
  exact z
theorem V_get (X : CX E Γ own cc nL) {f index a : Nat} {ty : FieldType} {fin : Bool} {dcl : String} {v : Value} (F : FL f own index ty fin dcl) (d : decode cc pc = .ok (.getfield index, 3)) (hk : qK h a = f / 100 + 1) (hv : qF h f a = v) (k : V E Γ b h (pc + 3) lv (v :: st)) : V E Γ b h pc lv (.ref a :: st) := by
  intro ls H locs k9 n9 h1 h2 h3 h4 h5
  obtain ⟨C, T, N, ty0, ⟨c1, c2, c3, c4, c5⟩, f1, f2, f3, f4, f5, f6⟩ := F
  obtain ⟨cell, q1, q2, q3, q4⟩ := h2.obj hk f1
  obtain ⟨hS, hfc, kC, hkC, hkind⟩ := X.en.1.1 _ _ c1
  obtain ⟨cf, kf, fi, fd, hi, hsl⟩ := hS (f % 100) f2
  refine W.getf X.1 X.2.1 X.ow (X.ts _ f6) hi (u_facts hfc hkC (u_lays X.ts c3 f2) hi).1 q1 (by rw [q3]; exact fun h => by cases h) (v := v) ?_ rfl rfl d (k ls H locs k9 n9 h1 h2 h3 h4 h5)
  rw [hsl, q4 _ (by rw [c2]; exact f2)]
  show some (qF h (100 * (f / 100) + f % 100) a) = some v
  rw [Nat.div_add_mod, hv]
theorem V_put (X : CX E Γ own cc nL) {f index a : Nat} {ty : FieldType} {dcl : String} {v : Value} (F : FL f own index ty false dcl) (d : decode cc pc = .ok (.putfield index, 3)) (hk : qK h a = f / 100 + 1) (hn : narrow ty v = v ∧ fits ty v = true) (k : V E Γ b (sF h f a v) (pc + 3) lv st) : V E Γ b h pc lv (v :: .ref a :: st) := by
  intro ls H locs k9 n9 h1 h2 h3 h4 h5
  obtain ⟨C, T, N, ty0, ⟨c1, c2, c3, c4, c5⟩, f1, f2, f3, f4, f5, f6⟩ := F
  have hap := va_apart (own := own) X.ts c3 ty0 c4 c5 X.en.1 c1
  obtain ⟨cell, q1, q2, q3, q4⟩ := h2.obj hk f1
  obtain ⟨hS, hfc, kC, hkC, hkind⟩ := X.en.1.1 _ _ c1
  obtain ⟨cf, kf, fi, fd, hi, hsl⟩ := hS (f % 100) f2
  have hlay := X.ts _ (c3 _ (u_in_lay f2))
  unfold u_lay at hlay
  rw [if_neg (by rw [f4]; decide)] at hlay
  have hst := (u_facts hfc hkC (u_lays X.ts c3 f2) hi).1
  have h6 := u_store hfc hkC hkind hlay hi (c4 _ f2) (by rw [f3]; exact hn.1) (by rw [f3]; exact hn.2)
  rw [c2] at q4
  refine W.putK X.1 X.2.1 (f := fd) ⟨X.ow, X.ts _ f6, ⟨_, _, _, hi⟩, hst⟩ (by rw [q2]; exact h6) q1 q3 (by rw [hsl]; exact k2_hasslot (q4 _ f2)) rfl rfl d fun H' e1 e2 e3 => ?_
  rw [hsl] at e1 ⊢
  refine k ls H' _ k9 n9 h1 ?_ (h3.put e2 e3 ?_) h4 h5
  · refine h2.upd (a := a) (by rw [hk]; omega) (by rw [hk]; omega) rfl rfl rfl (fun g x hx => by rw [qF_sF, if_neg (fun z => hx z.2)]) (fun _ _ => rfl) e2 e3 (fun bk mcn z => ?_)
    unfold qAt
    simp only [qK_sF, hk, Nat.add_sub_cancel]
    refine ⟨fun _ => ?_, fun z => by omega, fun z => by omega, fun z => by omega, fun z => by omega, fun z => by omega, fun z => by omega⟩
    rw [c2]
    refine t_OB.to (V := updV (fun k => qF h (100 * (f / 100) + k) a) (f % 100) v) ⟨_, e1, q2, q3, t_set q4 hap f2 v⟩ (fun j hj => ?_)
    by_cases e : j = f % 100
    · rw [e, qF_sF, Nat.div_add_mod, if_pos ⟨rfl, rfl⟩, updV, if_pos rfl]
    · rw [qF_sF, if_neg (fun z => e (by have := z.1; have := Nat.div_add_mod f 100; omega)), updV, if_neg e]
  · obtain ⟨bk, mcn, p1, -, -⟩ := h2
    exact (p1 a (by rw [hk]; omega)).1
theorem V_putF (X : CX E Γ own cc nL) {f index a : Nat} {ty : FieldType} {v : Value} (hin : (gM Γ).name = "<init>") (F : FL f own index ty true own) (d : decode cc pc = .ok (.putfield index, 3)) (hk : qK h a = f / 100 + 1) (hn : narrow ty v = v ∧ fits ty v = true) (k : V E Γ b (sF h f a v) (pc + 3) lv st) : V E Γ b h pc lv (v :: .ref a :: st) := by
  intro ls H locs k9 n9 h1 h2 h3 h4 h5
  obtain ⟨C, T, N, ty0, ⟨c1, c2, c3, c4, c5⟩, f1, f2, f3, f4, f5, f6⟩ := F
  have hap := va_apart (own := own) X.ts c3 ty0 c4 c5 X.en.1 c1
  obtain ⟨cell, q1, q2, q3, q4⟩ := h2.obj hk f1
  obtain ⟨hS, hfc, kC, hkC, hkind⟩ := X.en.1.1 _ _ c1
  obtain ⟨cf, kf, fi, fd, hi, hsl⟩ := hS (f % 100) f2
  have hlay := X.ts _ (c3 _ (u_in_lay f2))
  unfold u_lay at hlay
  rw [if_pos f4] at hlay
  have hst := (u_facts hfc hkC (u_lays X.ts c3 f2) hi).1
  have hcf : (gm Γ).cls = cf := by
    obtain ⟨_, _, c', _, _, _, -, -, hf', -, -, -, hown2, -⟩ := Cond.laysFinal_spec hlay
    have e1 : c' = cf := by have := hi.symm.trans hf'; simp at this; exact this.1.symm
    rw [f5] at hown2
    rw [← e1]; exact Option.some.inj (X.ow.symm.trans hown2)
  have h6 := u_fits hfc hkC hkind (Or.inr hlay) hi (c4 _ f2) (by rw [f3]; exact hn.1) (by rw [f3]; exact hn.2)
  rw [c2] at q4
  refine W.putFinK X.1 X.2.1 X.ow (X.ts _ f6) hi hst hcf hin (by rw [q2]; exact h6) q1 q3 (by rw [hsl]; exact k2_hasslot (q4 _ f2)) rfl rfl d fun H' e1 e2 e3 => ?_
  rw [hsl] at e1 ⊢
  refine k ls H' _ k9 n9 h1 ?_ (h3.put e2 e3 ?_) h4 h5
  · refine h2.upd (a := a) (by rw [hk]; omega) (by rw [hk]; omega) rfl rfl rfl (fun g x hx => by rw [qF_sF, if_neg (fun z => hx z.2)]) (fun _ _ => rfl) e2 e3 (fun bk mcn z => ?_)
    unfold qAt
    simp only [qK_sF, hk, Nat.add_sub_cancel]
    refine ⟨fun _ => ?_, fun z => by omega, fun z => by omega, fun z => by omega, fun z => by omega, fun z => by omega, fun z => by omega⟩
    rw [c2]
    refine t_OB.to (V := updV (fun k => qF h (100 * (f / 100) + k) a) (f % 100) v) ⟨_, e1, q2, q3, t_set q4 hap f2 v⟩ (fun j hj => ?_)
    by_cases e : j = f % 100
    · rw [e, qF_sF, Nat.div_add_mod, if_pos ⟨rfl, rfl⟩, updV, if_pos rfl]
    · rw [qF_sF, if_neg (fun z => e (by have := z.1; have := Nat.div_add_mod f 100; omega)), updV, if_neg e]
  · obtain ⟨bk, mcn, p1, -, -⟩ := h2
    exact (p1 a (by rw [hk]; omega)).1
/-- a new object of a class -/
theorem V_new (X : CX E Γ own cc nL) {ci index N u : Nat} {C : String} {T : u_T} {ty0 : Nat → FieldType} (c : CLK ci C T N ty0) (hci : ci ≤ 9) (hw : Cond.classLink own index C ∈ WS ∧ Cond.instantiable C N ∈ WS ∧ Cond.initialized C ∈ WS) (hd : ∀ j, j < N → defaultValue (ty0 j) = dfv (100 * ci + j)) (hu : 1 ≤ u ∧ N ≤ 4 * u ∧ u ≤ b) (d : decode cc pc = .ok (.new index, 3))
    (k : ∀ q, qK h q = 0 → V E Γ (b - u) (nO h q (ci + 1)) (pc + 3) lv (.ref q :: st)) : V E Γ b h pc lv st := by
  intro ls H locs k9 n9 h1 h2 h3 h4 h5
  obtain ⟨c1, c2, c3, c4, c5⟩ := c
  have hKn := X.en.1.1 _ _ c1
  refine W.newcK X.1 X.2.1 X.ow (X.ts _ hw.1) (X.ts _ hw.2.1) (X.ts _ hw.2.2) rfl d (by omega) (by omega) hKn.2.1 rfl fun H1 kC hkC e1 z1 o1 => ?_
  have hN : eN E ≤ H.size := Nat.le_trans X.en.2.2.2.2.2.2.2 h3.1
  have key := h2.add (h1 := nO h H.size (ci + 1)) (H1 := H1) (q := H.size) rfl hN (by rw [qK_nO, if_pos rfl]; omega) (fun x hx => by rw [qK_nO, if_neg hx]) (fun _ _ => rfl) (fun _ _ => rfl) (fun f x hx => by rw [qF_nO, if_neg hx]) (fun _ _ => rfl) z1 o1 (fun bk mcn => by
    unfold qAt
    simp only [qK_nO, if_pos, Nat.add_sub_cancel]
    refine ⟨fun _ => ?_, fun z => by omega, fun z => by omega, fun z => by omega, fun z => by omega, fun z => by omega, fun z => by omega⟩
    rw [c2]
    exact (u_born ty0 X.ts c3 hKn hkC e1 c4).to (fun j hj => by rw [qF_nO, if_pos rfl]; exact hd j hj))
  exact k H.size key.2 ls H1 _ (k9 + 1) (n9 + N) h1 key.1 ⟨Nat.le_trans h3.1 (by omega), fun x x1 x2 => (o1 x (Nat.lt_of_lt_of_le x1 h3.1)).trans (h3.2.1 x x1 x2), h3.2.2⟩ (by omega) (by omega)
/-- a new list, before its constructor -/
theorem V_newL (X : CX E Γ own cc nL) {index : Nat} (hw : Cond.classLink own index RJx4a65c ∈ WS ∧ Cond.instantiable RJx4a65c 3 ∈ WS ∧ Cond.initialized RJx4a65c ∈ WS) (hin : ∀ w ∈ u_ws RJx4a65c TJx4a65c 3, w ∈ WS) (hu : 1 ≤ b) (d : decode cc pc = .ok (.new index, 3))
    (k : ∀ q, qK h q = 0 → V E Γ (b - 1) (sK h q 12) (pc + 3) lv (.ref q :: st)) : V E Γ b h pc lv st := by
  intro ls H locs k9 n9 h1 h2 h3 h4 h5
  have hKn := X.en.1.1 10 _ rfl
  refine W.newcK X.1 X.2.1 X.ow (X.ts _ hw.1) (X.ts _ hw.2.1) (X.ts _ hw.2.2) rfl d (by omega) (by omega) hKn.2.1 rfl fun H1 kC hkC e1 z1 o1 => ?_
  have hN : eN E ≤ H.size := Nat.le_trans X.en.2.2.2.2.2.2.2 h3.1
  have key := h2.add (h1 := sK h H.size 12) (H1 := H1) (q := H.size) rfl hN (by rw [qK_sK, if_pos rfl]; omega) (fun x hx => by rw [qK_sK, if_neg hx]) (fun _ _ => rfl) (fun _ _ => rfl) (fun f x hx => rfl) (fun _ _ => rfl) z1 o1 (fun bk mcn => by
    unfold qAt
    simp only [qK_sK, if_pos]
    refine ⟨fun z => by omega, fun z => by omega, fun _ => ?_, fun z => by omega, fun z => by omega, fun z => by omega, fun z => by omega⟩
    exact (u_born tyJx4a65c X.ts hin hKn hkC e1 tyJx4a65c_ok).to (fun j hj => by
      rcases (show j = 0 ∨ j = 1 ∨ j = 2 by omega) with rfl | rfl | rfl <;> rfl))
  exact k H.size key.2 ls H1 _ (k9 + 1) (n9 + 3) h1 key.1 ⟨Nat.le_trans h3.1 (by omega), fun x x1 x2 => (o1 x (Nat.lt_of_lt_of_le x1 h3.1)).trans (h3.2.1 x x1 x2), h3.2.2⟩ (by omega) (by omega)
/-- a new row of ints (kind 13 or 14) or booleans (15) -/
theorem arr_name (E : EV) (s : State) (h : EN E s) (i : Nat) (ty : FieldType) (hi : (ety E)[i]? = some (eA E i, ty)) (hno : ∀ C, ty ≠ .object C) : s.vm.findClass ("[" ++ ty.toString) = some (eA E i) := by
  have z := (h.1.2 i _ hi).2
  cases ty <;> first | exact z | exact absurd rfl (hno _)
theorem V_newarrI (X : CX E Γ own cc nL) {n : Int32} {N u kd : Nat} (hkd : kd = 13 ∨ kd = 14) (hn : ¬ n < 0) (hN : n.toNatClampNeg = N) (hb : N * 4 ≤ 536870912) (hu : 1 ≤ u ∧ N ≤ 4 * u ∧ u ≤ b) (hw : Cond.arrayClass .int ∈ WS) (d : decode cc pc = .ok (.newarray .int, 2))
    (k : ∀ q, qK h q = 0 → V E Γ (b - u) (sI (sK h q kd) q (List.replicate N 0)) (pc + 2) lv (.ref q :: st)) : V E Γ b h pc lv (.int n :: st) := by
  intro ls H locs k9 n9 h1 h2 h3 h4 h5
  refine va_newaK (atype := .int) X.1 X.2.1 (X.ts _ hw) rfl d rfl hn hN hb (by omega) (by omega) rfl fun H1 cA e1 z1 o1 hAr hNm => ?_
  have hA : cA = eA E 1 := Option.some.inj (hNm.symm.trans (arr_name E _ X.en 1 .int rfl (by simp)))
  have hN2 : eN E ≤ H.size := Nat.le_trans X.en.2.2.2.2.2.2.2 h3.1
  have key := h2.add (h1 := sI (sK h H.size kd) H.size (List.replicate N 0)) (H1 := H1) (q := H.size) rfl hN2 (by rw [qK_sI, qK_sK, if_pos rfl]; omega) (fun x hx => by rw [qK_sI, qK_sK, if_neg hx]) (fun _ _ => rfl) (fun _ _ => rfl) (fun f x hx => rfl) (fun x hx => by rw [qI_sI, if_neg hx]; rfl) z1 o1 (fun bk mcn => by
    unfold qAt
    simp only [qK_sI, qK_sK, if_pos, qI_sI, List.length_replicate]
    refine ⟨fun z => by omega, fun z => by omega, fun z => by omega, fun _ => ?_, fun z => by omega, fun z => by omega, fun z => by omega⟩
    rw [e1, hA]
    congr 2
    funext j
    show Value.int 0 = _
    congr 1
    simp only [List.getD_eq_getElem?_getD, List.getElem?_replicate]
    split <;> rfl)
  exact k H.size key.2 ls H1 _ (k9 + 1) (n9 + N) h1 key.1 ⟨Nat.le_trans h3.1 (by omega), fun x x1 x2 => (o1 x (Nat.lt_of_lt_of_le x1 h3.1)).trans (h3.2.1 x x1 x2), h3.2.2⟩ (by omega) (by omega)
theorem V_newarrZ (X : CX E Γ own cc nL) {n : Int32} {N u : Nat} (hn : ¬ n < 0) (hN : n.toNatClampNeg = N) (hb : N * 1 ≤ 536870912) (hu : 1 ≤ u ∧ N ≤ 4 * u ∧ u ≤ b) (hw : Cond.arrayClass .boolean ∈ WS) (d : decode cc pc = .ok (.newarray .boolean, 2))
    (k : ∀ q, qK h q = 0 → V E Γ (b - u) (sI (sK h q 15) q (List.replicate N 0)) (pc + 2) lv (.ref q :: st)) : V E Γ b h pc lv (.int n :: st) := by
  intro ls H locs k9 n9 h1 h2 h3 h4 h5
  refine va_newaK (atype := .boolean) X.1 X.2.1 (X.ts _ hw) rfl d rfl hn hN hb (by omega) (by omega) rfl fun H1 cA e1 z1 o1 hAr hNm => ?_
  have hA : cA = eA E 2 := Option.some.inj (hNm.symm.trans (arr_name E _ X.en 2 .boolean rfl (by simp)))
  have hN2 : eN E ≤ H.size := Nat.le_trans X.en.2.2.2.2.2.2.2 h3.1
  have key := h2.add (h1 := sI (sK h H.size 15) H.size (List.replicate N 0)) (H1 := H1) (q := H.size) rfl hN2 (by rw [qK_sI, qK_sK, if_pos rfl]; omega) (fun x hx => by rw [qK_sI, qK_sK, if_neg hx]) (fun _ _ => rfl) (fun _ _ => rfl) (fun f x hx => rfl) (fun x hx => by rw [qI_sI, if_neg hx]; rfl) z1 o1 (fun bk mcn => by
    unfold qAt
    simp only [qK_sI, qK_sK, if_pos, qI_sI, List.length_replicate]
    refine ⟨fun z => by omega, fun z => by omega, fun z => by omega, fun z => by omega, fun _ => ?_, fun z => by omega, fun z => by omega⟩
    rw [e1, hA]
    congr 2
    funext j
    show Value.int 0 = _
    congr 1
    simp only [List.getD_eq_getElem?_getD, List.getElem?_replicate]
    split <;> rfl)
  exact k H.size key.2 ls H1 _ (k9 + 1) (n9 + N) h1 key.1 ⟨Nat.le_trans h3.1 (by omega), fun x x1 x2 => (o1 x (Nat.lt_of_lt_of_le x1 h3.1)).trans (h3.2.1 x x1 x2), h3.2.2⟩ (by omega) (by omega)
theorem V_newarrJ (X : CX E Γ own cc nL) (hu : 1 ≤ b) (hw : Cond.arrayClass .long ∈ WS) (d : decode cc pc = .ok (.newarray .long, 2))
    (k : ∀ q, qK h q = 0 → V E Γ (b - 1) (sF (sK h q 16) 1600 q (.long 0)) (pc + 2) lv (.ref q :: st)) : V E Γ b h pc lv (.int 1 :: st) := by
  intro ls H locs k9 n9 h1 h2 h3 h4 h5
  refine va_newaK (atype := .long) (N := 1) X.1 X.2.1 (X.ts _ hw) rfl d rfl (by decide) (by decide) (by decide) (by omega) (by omega) rfl fun H1 cA e1 z1 o1 hAr hNm => ?_
  have hA : cA = eA E 3 := Option.some.inj (hNm.symm.trans (arr_name E _ X.en 3 .long rfl (by simp)))
  have hN2 : eN E ≤ H.size := Nat.le_trans X.en.2.2.2.2.2.2.2 h3.1
  have key := h2.add (h1 := sF (sK h H.size 16) 1600 H.size (.long 0)) (H1 := H1) (q := H.size) rfl hN2 (by rw [qK_sF, qK_sK, if_pos rfl]; omega) (fun x hx => by rw [qK_sF, qK_sK, if_neg hx]) (fun _ _ => rfl) (fun _ _ => rfl) (fun f x hx => by rw [qF_sF, if_neg (fun z => hx z.2)]; rfl) (fun x hx => rfl) z1 o1 (fun bk mcn => by
    unfold qAt
    simp only [qK_sF, qK_sK, if_pos, qF_sF]
    refine ⟨fun z => by omega, fun z => by omega, fun z => by omega, fun z => by omega, fun z => by omega, fun _ => ⟨0, by simp, ?_⟩, fun z => by omega⟩
    rw [e1, hA]
    rfl)
  exact k H.size key.2 ls H1 _ (k9 + 1) (n9 + 1) h1 key.1 ⟨Nat.le_trans h3.1 (by omega), fun x x1 x2 => (o1 x (Nat.lt_of_lt_of_le x1 h3.1)).trans (h3.2.1 x x1 x2), h3.2.2⟩ (by omega) (by omega)
theorem V_newarrD (X : CX E Γ own cc nL) (hu : 1 ≤ b) (hw : Cond.arrayClass .double ∈ WS) (d : decode cc pc = .ok (.newarray .double, 2))
    (k : ∀ q, qK h q = 0 → V E Γ (b - 1) (sF (sK h q 17) 1700 q (.double 0)) (pc + 2) lv (.ref q :: st)) : V E Γ b h pc lv (.int 1 :: st) := by
  intro ls H locs k9 n9 h1 h2 h3 h4 h5
  refine va_newaK (atype := .double) (N := 1) X.1 X.2.1 (X.ts _ hw) rfl d rfl (by decide) (by decide) (by decide) (by omega) (by omega) rfl fun H1 cA e1 z1 o1 hAr hNm => ?_
  have hA : cA = eA E 4 := Option.some.inj (hNm.symm.trans (arr_name E _ X.en 4 .double rfl (by simp)))
  have hN2 : eN E ≤ H.size := Nat.le_trans X.en.2.2.2.2.2.2.2 h3.1
  have key := h2.add (h1 := sF (sK h H.size 17) 1700 H.size (.double 0)) (H1 := H1) (q := H.size) rfl hN2 (by rw [qK_sF, qK_sK, if_pos rfl]; omega) (fun x hx => by rw [qK_sF, qK_sK, if_neg hx]) (fun _ _ => rfl) (fun _ _ => rfl) (fun f x hx => by rw [qF_sF, if_neg (fun z => hx z.2)]; rfl) (fun x hx => rfl) z1 o1 (fun bk mcn => by
    unfold qAt
    simp only [qK_sF, qK_sK, if_pos, qF_sF]
    refine ⟨fun z => by omega, fun z => by omega, fun z => by omega, fun z => by omega, fun z => by omega, fun z => by omega, fun _ => ⟨0, by simp, ?_⟩⟩
    rw [e1, hA]
    rfl)
  exact k H.size key.2 ls H1 _ (k9 + 1) (n9 + 1) h1 key.1 ⟨Nat.le_trans h3.1 (by omega), fun x x1 x2 => (o1 x (Nat.lt_of_lt_of_le x1 h3.1)).trans (h3.2.1 x x1 x2), h3.2.2⟩ (by omega) (by omega)
/-! reading and writing rows -/
theorem V_iald (X : CX E Γ own cc nL) {a : Nat} {i v : Int32} (hk : qK h a = 13 ∨ qK h a = 14) (hin : vp_in i (qI h a).length) (hv : (qI h a).getD i.toNatClampNeg 0 = v) (d : decode cc pc = .ok (.iaload, 1)) (k : V E Γ b h (pc + 1) lv (.int v :: st)) : V E Γ b h pc lv (.int i :: .ref a :: st) := by
  intro ls H locs k9 n9 h1 h2 h3 h4 h5
  have hlt : i.toNatClampNeg < (qI h a).length := Nat.not_le.mp fun q => hin (Or.inr q)
  have hc : H[a]? = some (arrV (eA E 1) (qI h a).length (fun j => .int ((qI h a).getD j 0))) := by
    obtain ⟨bk, mcn, p1, -, -⟩ := h2
    exact (p1 a (by omega)).2.2.2.2.2.1 hk
  exact W.iald (v := .int v) X.1 X.2.1 hc ((X.en.1.2 1 _ rfl).1 _ _) (fun q => by cases q) (by rw [arrV_size]; exact hin) (by rw [arrV_read _ _ hlt, hv]) rfl rfl d (k ls H locs k9 n9 h1 h2 h3 h4 h5)
theorem V_zald (X : CX E Γ own cc nL) {a : Nat} {i v : Int32} (hk : qK h a = 15) (hin : vp_in i (qI h a).length) (hv : (qI h a).getD i.toNatClampNeg 0 = v) (d : decode cc pc = .ok (.baload, 1)) (k : V E Γ b h (pc + 1) lv (.int v :: st)) : V E Γ b h pc lv (.int i :: .ref a :: st) := by
  intro ls H locs k9 n9 h1 h2 h3 h4 h5
  have hlt : i.toNatClampNeg < (qI h a).length := Nat.not_le.mp fun q => hin (Or.inr q)
  have hc : H[a]? = some (arrV (eA E 2) (qI h a).length (fun j => .int ((qI h a).getD j 0))) := by
    obtain ⟨bk, mcn, p1, -, -⟩ := h2
    exact (p1 a (by omega)).2.2.2.2.2.2.1 hk
  exact W.zald (v := .int v) X.1 X.2.1 hc ((X.en.1.2 2 _ rfl).1 _ _) (fun q => by cases q) (by rw [arrV_size]; exact hin) (by rw [arrV_read _ _ hlt, hv]) rfl rfl d (k ls H locs k9 n9 h1 h2 h3 h4 h5)
theorem upd_set (l : List Int32) (i : Nat) (x : Int32) (hi : i < l.length) : updV (fun j => .int (l.getD j 0)) i (.int x) = fun j => Value.int ((l.set i x).getD j 0) := by
  funext j
  unfold updV
  by_cases e : j = i
  · subst e
    rw [if_pos rfl]
    simp [hi]
  · rw [if_neg e]
    simp [List.getElem?_set_ne (Ne.symm e)]
theorem HP.row {E : EV} {h : AH} {H H1 : Heap} {a : Nat} {l : List Int32} (h2 : HP E h H) (hk : 13 ≤ qK h a ∧ qK h a ≤ 15) (e2 : H1.size = H.size) (e3 : ∀ q, q ≠ a → H1[q]? = H[q]?) (e1 : ∀ cA, (qK h a = 15 → cA = eA E 2) → (qK h a ≠ 15 → cA = eA E 1) → H1[a]? = some (arrV cA l.length (fun j => .int (l.getD j 0)))) : HP E (sI h a l) H1 := by
  refine h2.upd (a := a) (by omega) (by omega) rfl rfl rfl (fun g x hx => rfl) (fun x hx => by rw [qI_sI, if_neg hx]) e2 e3 (fun bk mcn z => ?_)
  unfold qAt
  simp only [qK_sI, qI_sI, if_pos]
  exact ⟨fun z => by omega, fun z => by omega, fun z => by omega, fun z => e1 _ (fun y => by omega) (fun _ => rfl), fun z => e1 _ (fun _ => rfl) (fun y => absurd z y), fun z => by omega, fun z => by omega⟩
theorem V_iast (X : CX E Γ own cc nL) {a : Nat} {i x : Int32} (hk : qK h a = 13 ∨ qK h a = 14) (hin : vp_in i (qI h a).length) (d : decode cc pc = .ok (.iastore, 1)) (k : V E Γ b (sI h a ((qI h a).set i.toNatClampNeg x)) (pc + 1) lv st) : V E Γ b h pc lv (.int x :: .int i :: .ref a :: st) := by
  intro ls H locs k9 n9 h1 h2 h3 h4 h5
  have hlt : i.toNatClampNeg < (qI h a).length := Nat.not_le.mp fun q => hin (Or.inr q)
  have hq := h2
  obtain ⟨bk, mcn, p1, -, -⟩ := hq
  have hc : H[a]? = some (arrV (eA E 1) (qI h a).length (fun j => .int ((qI h a).getD j 0))) := (p1 a (by omega)).2.2.2.2.2.1 hk
  refine W.iast X.1 X.2.1 hc ((X.en.1.2 1 _ rfl).1 _ _) (fun q => by cases q) (by rw [arrV_size]; exact hin) rfl rfl d fun H1 e z oq => ?_
  refine k ls H1 _ k9 n9 h1 (h2.row (by omega) z oq (fun cA y1 y2 => ?_)) (h3.put z oq (p1 a (by omega)).1) h4 h5
  rw [e, y2 (by omega), arrV_store, upd_set _ _ _ hlt, List.length_set]
theorem V_zast (X : CX E Γ own cc nL) {a : Nat} {i x : Int32} (hk : qK h a = 15) (hx : x = 0 ∨ x = 1) (hin : vp_in i (qI h a).length) (d : decode cc pc = .ok (.bastore, 1)) (k : V E Γ b (sI h a ((qI h a).set i.toNatClampNeg x)) (pc + 1) lv st) : V E Γ b h pc lv (.int x :: .int i :: .ref a :: st) := by
  intro ls H locs k9 n9 h1 h2 h3 h4 h5
  have hlt : i.toNatClampNeg < (qI h a).length := Nat.not_le.mp fun q => hin (Or.inr q)
  have hq := h2
  obtain ⟨bk, mcn, p1, -, -⟩ := hq
  have hc : H[a]? = some (arrV (eA E 2) (qI h a).length (fun j => .int ((qI h a).getD j 0))) := (p1 a (by omega)).2.2.2.2.2.2.1 hk
  have hnar : narrow .boolean (.int x) = .int x := by rcases hx with rfl | rfl <;> decide
  refine W.zast X.1 X.2.1 hc ((X.en.1.2 2 _ rfl).1 _ _) (fun q => by cases q) (by rw [arrV_size]; exact hin) rfl rfl d fun H1 e z oq => ?_
  refine k ls H1 _ k9 n9 h1 (h2.row (by omega) z oq (fun cA y1 y2 => ?_)) (h3.put z oq (p1 a (by omega)).1) h4 h5
  rw [e, hnar, y1 hk, arrV_store, upd_set _ _ _ hlt, List.length_set]
theorem V_lald (X : CX E Γ own cc nL) {a : Nat} {x : Int64} (hk : qK h a = 16) (hv : qF h 1600 a = .long x) (d : decode cc pc = .ok (.laload, 1)) (k : V E Γ b h (pc + 1) lv (.long x :: st)) : V E Γ b h pc lv (.int 0 :: .ref a :: st) := by
  intro ls H locs k9 n9 h1 h2 h3 h4 h5
  have hq := h2
  obtain ⟨bk, mcn, p1, -, -⟩ := hq
  obtain ⟨y, y1, y2⟩ := (p1 a (by omega)).2.2.2.2.2.2.2.1 hk
  rw [hv] at y1
  cases y1
  exact W.lald (v := .long x) X.1 X.2.1 y2 ((X.en.1.2 3 _ rfl).1 _ _) (fun q => by cases q) (by rw [arrV_size]; decide) (by rw [arrV_read _ _ (by decide)]) rfl rfl d (k ls H locs k9 n9 h1 h2 h3 h4 h5)
theorem V_dald (X : CX E Γ own cc nL) {a : Nat} {x : UInt64} (hk : qK h a = 17) (hv : qF h 1700 a = .double x) (d : decode cc pc = .ok (.daload, 1)) (k : V E Γ b h (pc + 1) lv (.double x :: st)) : V E Γ b h pc lv (.int 0 :: .ref a :: st) := by
  intro ls H locs k9 n9 h1 h2 h3 h4 h5
  have hq := h2
  obtain ⟨bk, mcn, p1, -, -⟩ := hq
  obtain ⟨y, y1, y2⟩ := (p1 a (by omega)).2.2.2.2.2.2.2.2 hk
  rw [hv] at y1
  cases y1
  exact W.dald (v := .double x) X.1 X.2.1 y2 ((X.en.1.2 4 _ rfl).1 _ _) (fun q => by cases q) (by rw [arrV_size]; decide) (by rw [arrV_read _ _ (by decide)]) rfl rfl d (k ls H locs k9 n9 h1 h2 h3 h4 h5)
theorem upd_one {cA : ClassId} (x y : Value) : arrV cA 1 (updV (fun _ => x) 0 y) = arrV cA 1 (fun _ => y) := by
  unfold arrV
  congr 1
theorem V_last (X : CX E Γ own cc nL) {a : Nat} {x : Int64} (hk : qK h a = 16) (d : decode cc pc = .ok (.lastore, 1)) (k : V E Γ b (sF h 1600 a (.long x)) (pc + 1) lv st) : V E Γ b h pc lv (.long x :: .int 0 :: .ref a :: st) := by
  intro ls H locs k9 n9 h1 h2 h3 h4 h5
  have hq := h2
  obtain ⟨bk, mcn, p1, -, -⟩ := hq
  obtain ⟨y, y1, y2⟩ := (p1 a (by omega)).2.2.2.2.2.2.2.1 hk
  refine W.last X.1 X.2.1 y2 ((X.en.1.2 3 _ rfl).1 _ _) (fun q => by cases q) (by rw [arrV_size]; decide) rfl rfl d fun H1 e z oq => ?_
  refine k ls H1 _ k9 n9 h1 (h2.upd (a := a) (by omega) (by omega) rfl rfl rfl (fun g x hx => by rw [qF_sF, if_neg (fun z => hx z.2)]) (fun _ _ => rfl) z oq (fun bk mcn z => ?_)) (h3.put z oq (p1 a (by omega)).1) h4 h5
  unfold qAt
  simp only [qK_sF, hk, qF_sF]
  refine ⟨fun z => by omega, fun z => by omega, fun z => by omega, fun z => by omega, fun z => by omega, fun _ => ⟨x, by simp, ?_⟩, fun z => by omega⟩
  rw [e, arrV_store]
  exact congrArg some (upd_one _ _)
theorem V_dast (X : CX E Γ own cc nL) {a : Nat} {x : UInt64} (hk : qK h a = 17) (d : decode cc pc = .ok (.dastore, 1)) (k : V E Γ b (sF h 1700 a (.double x)) (pc + 1) lv st) : V E Γ b h pc lv (.double x :: .int 0 :: .ref a :: st) := by
  intro ls H locs k9 n9 h1 h2 h3 h4 h5
  have hq := h2
  obtain ⟨bk, mcn, p1, -, -⟩ := hq
  obtain ⟨y, y1, y2⟩ := (p1 a (by omega)).2.2.2.2.2.2.2.2 hk
  refine W.dast X.1 X.2.1 y2 ((X.en.1.2 4 _ rfl).1 _ _) (fun q => by cases q) (by rw [arrV_size]; decide) rfl rfl d fun H1 e z oq => ?_
  refine k ls H1 _ k9 n9 h1 (h2.upd (a := a) (by omega) (by omega) rfl rfl rfl (fun g x hx => by rw [qF_sF, if_neg (fun z => hx z.2)]) (fun _ _ => rfl) z oq (fun bk mcn z => ?_)) (h3.put z oq (p1 a (by omega)).1) h4 h5
  unfold qAt
  simp only [qK_sF, hk, qF_sF]
  refine ⟨fun z => by omega, fun z => by omega, fun z => by omega, fun z => by omega, fun z => by omega, fun z => by omega, fun _ => ⟨x, by simp, ?_⟩⟩
  rw [e, arrV_store]
  exact congrArg some (upd_one _ _)
/-- a cast of an object to its own class -/
theorem V_cast (X : CX E Γ own cc nL) {ci index a N : Nat} {C : String} {T : u_T} {ty0 : Nat → FieldType} (c : CLK ci C T N ty0) (hci : ci ≤ 9) (hw : Cond.classLink own index C ∈ WS) (hk : qK h a = ci + 1) (d : decode cc pc = .ok (.checkcast index, 3)) (k : V E Γ b h (pc + 3) lv (.ref a :: st)) : V E Γ b h pc lv (.ref a :: st) := by
  intro ls H locs k9 n9 h1 h2 h3 h4 h5
  have hKn := X.en.1.1 _ _ c.1
  obtain ⟨cell, q1, q2, q3, q4⟩ := h2.obj hk hci
  exact va_castS X.1 X.2.1 X.ow (X.ts _ hw) hKn.2 ⟨cell, q1, by rw [q3]; rfl, by rw [q2]; exact hKn.2.1⟩ d (k ls H locs k9 n9 h1 h2 h3 h4 h5)
end VH
end
section
/-! CONTRACTS, RETURNS, CALLS, THROWS -/
def rmOf (rk b : Nat) : Room := { frames := rk, cells := b, slots := 4 * b, locals := 40 * rk + 400 }
def qQ (E : EV) (Ret : Option Value → AH → Prop) : Array Value → State → Outcome → State → Prop := fun _ st oc t => (∃ (v : Option Value) (h' : AH), oc = .returned v ∧ Ret v h' ∧ HP E h' t.heap) ∧ va_F (A0 E) st t
def qX (E : EV) (Thr : String → AH → Prop) : String → State → State → Prop := fun X st t => ∃ h' : AH, Thr X h' ∧ HP E h' t.heap ∧ va_F (A0 E) st t
def qPc (E : EV) (args : List Value) (h : AH) : Array Value → State → Prop := va_Pc args (fun U => HP E h U.heap ∧ EN E U)
/-- the contract of a method, called with args in the abstract heap h: it returns v in h' with 'Ret v h'', or throws E in h' with 'Thr E h''; it makes at most b cells of 4 b slots -/
def Ct (E : EV) (y : MethodName) (cc : ByteArray) (nL : Nat) (ret : Option FieldType) (rk b : Nat) (args : List Value) (h : AH) (Ret : Option Value → AH → Prop) (Thr : String → AH → Prop) : Prop :=
  ∀ l : Launch, l.stackTraces = false → vx_Met l y (.code y cc nL ret :: WS) (rmOf rk b) (qPc E args h) (qQ E Ret) (qX E Thr) b (4 * b) (A0 E)
def noX : String → AH → Prop := fun _ _ => False
def NT (Γ : VG) : Prop := ∀ x ∈ (gc Γ).exceptionTable.toList, False
def RQ (E : EV) (Γ : VG) (ret : Option FieldType) (rk b : Nat) (Ret : Option Value → AH → Prop) (Thr : String → AH → Prop) : Prop :=
  (gM Γ).sig.returnType = ret ∧ gR Γ = rmOf rk b ∧ gQ Γ = vx_MQ (gb Γ) (qQ E Ret) (qX E Thr) (ga Γ) (gs Γ) b (4 * b) (A0 E)
theorem qPc_blind {E : EV} {args : List Value} {h : AH} : FrameBlind (qPc E args h) := fun a U g mk q => ⟨q.1, q.2.1, q.2.2.calling g mk a⟩
theorem Ct_of {E : EV} {y : MethodName} {cc : ByteArray} {nL : Nat} {ret : Option FieldType} {rk b : Nat} {args : List Value} {h : AH} {Ret : Option Value → AH → Prop} {Thr : String → AH → Prop} (own : String) (hy : plainName y.cls = true) (ho : y.cls = own) (hl : (lg_sl args).length ≤ nL)
    (body : ∀ Γ : VG, CX E Γ own cc nL → NT Γ → RQ E Γ ret rk b Ret Thr → (gM Γ).name = y.name → V E Γ b h 0 (lv_args 0 args) []) : Ct E y cc nL ret rk b args h Ret Thr := by
  intro l hst
  refine vx_ofW (cc := cc) (maxL := nL) (ret := ret) hy rfl ?_
  intro p e s m args' below meth c s₁ B hml ht hv
  obtain ⟨rfl, hP, hE⟩ := hv
  have hts : ∀ w ∈ (Cond.code y cc nL ret :: WS), w.before args.toArray s = true := atoms_spec (ws := Cond.code y cc nL ret :: WS) B.pre
  have hown : s.vm.findClass own = some m.cls := by rw [← ho]; exact findClass_of_methodNamed B.named
  have hnm : meth.name = y.name := (name_of_methodNamed B.named B.method).1
  have hle := lv_entry args (n := nL) hl
  rw [lg_entry_eq]
  generalize (lg_sl args ++ List.replicate (nL - (lg_sl args).length) Slot.unset).toArray = ls at hle ⊢
  exact body (p, l, e, rmOf rk b, s, m, args.toArray, below, meth, c, vx_MQ below (qQ E Ret) (qX E Thr) args.toArray s b (4 * b) (A0 E)) ⟨B.exec, B.bytes, hml, hown, fun w hw => hts w (List.mem_cons_of_mem _ hw), hE, B.notSynchronized, hst⟩ ht ⟨B.returns, rfl, rfl⟩ hnm ls s.heap [] 0 0 (by rw [show (gc (p, l, e, rmOf rk b, s, m, args.toArray, below, meth, c, vx_MQ below (qQ E Ret) (qX E Thr) args.toArray s b (4 * b) (A0 E))).maxLocals = c.maxLocals from rfl, hml]; exact hle) hP va_S.rf (by show 0 + b ≤ b; omega) (by show 0 + 4 * b ≤ 4 * b; omega)
theorem Ct.met {E : EV} {y : MethodName} {cc : ByteArray} {nL : Nat} {ret : Option FieldType} {rk b : Nat} {args : List Value} {h : AH} {Ret : Option Value → AH → Prop} (M : Ct E y cc nL ret rk b args h Ret noX) (l : Launch) (hl : l.stackTraces = false) : Met l y (.code y cc nL ret :: WS) (rmOf rk b) (qPc E args h) (qQ E Ret) b (4 * b) (A0 E) := by
  intro p e h1 h2 h3 s m a below h4 h5 h6 h7
  obtain ⟨n, o, g1, g2, g3, g4⟩ := M l hl p e h1 h2 h3 s m a below h4 h5 h6 h7
  rcases g4 with g4 | ⟨q, -, X, ce, L, ⟨h', f, -⟩, -⟩
  · exact ⟨n, o, g1, g2, g3, g4⟩
  · exact f.elim
theorem Ct.mono {E : EV} {y : MethodName} {cc : ByteArray} {nL : Nat} {ret : Option FieldType} {rk b : Nat} {args : List Value} {h : AH} {Ret Ret' : Option Value → AH → Prop} {Thr Thr' : String → AH → Prop} (M : Ct E y cc nL ret rk b args h Ret Thr) (hr : ∀ v h', Ret v h' → Ret' v h') (ht : ∀ X h', Thr X h' → Thr' X h') : Ct E y cc nL ret rk b args h Ret' Thr' := by
  intro l hl p e h1 h2 h3 s m a below h4 h5 h6 h7
  obtain ⟨n, o, g1, g2, g3, g4⟩ := M l hl p e h1 h2 h3 s m a below h4 h5 h6 h7
  refine ⟨n, o, g1, g2, g3, ?_⟩
  rcases g4 with ⟨⟨⟨v, h', f1, f2, f3⟩, f4⟩, f5⟩ | ⟨q, e1, X, ce, L, ⟨h', f1, f2, f3⟩, f4⟩
  · exact Or.inl ⟨⟨⟨v, h', f1, hr v h' f2, f3⟩, f4⟩, f5⟩
  · exact Or.inr ⟨q, e1, X, ce, L, ⟨h', ht X h' f1, f2, f3⟩, f4⟩
theorem HP.grow {E : EV} {h : AH} {H H1 : Heap} (hp : HP E h H) (hs : H.size ≤ H1.size) (oq : ∀ q, q < H.size → H1[q]? = H[q]?) : HP E h H1 := by
  obtain ⟨bk, mcn, p1, p2, p3⟩ := hp
  refine ⟨bk, mcn, fun a ha => ?_, fun a ha => ?_, p3⟩
  · obtain ⟨b1, b2, b3⟩ := p1 a ha
    exact ⟨b1, by omega, b3.kept (oq a b2) rfl (fun _ => rfl) rfl rfl rfl rfl⟩
  · rcases p2 a ha with z | ⟨z1, z2, z3, z4, z5, z6⟩
    · exact Or.inl z
    · exact Or.inr ⟨z1, z2, z3, z4, z5, by rw [oq _ (Array.getElem?_eq_some_iff.mp z6).1]; exact z6⟩
/-- X has been thrown over the frame at pc -/
def VX (E : EV) (Γ : VG) (b : Nat) (h : AH) (pc : Nat) (lv : List (Nat × Value)) (st : List Value) (X : String) : Prop :=
  ∀ (ls : Array Slot) (H : Heap) (locs : List Loc) (k n : Nat) (q : Addr) (ce : Cell), lv_has ls (gc Γ).maxLocals lv → HP E h H → va_S (A0 E) (gs Γ).heap H locs → k + b ≤ (gR Γ).cells → n + 4 * b ≤ (gR Γ).slots → H[q]? = some ce → ce.vm = .none → (gs Γ).vm.findClass X = some ce.cls →
    vx_W (gp Γ) (gl Γ) (ge Γ) (gR Γ) (gs Γ) (gm Γ) (ga Γ) (gb Γ) (gM Γ) (gc Γ) H locs k n (gQ Γ) (F0 (gm Γ) pc ls st) q
/-- the words of a call -/
def CWv (own : String) (index : Nat) (C : String) (y : MethodName) (bytes : ByteArray) (maxL : Nat) (ret : Option FieldType) (n : Nat) : Prop :=
  (y.cls = C ∧ y.cls ≠ "java/lang/invoke/MethodHandle" ∧ y.cls ≠ "java/lang/invoke/VarHandle" ∧ (parseMethodDescriptor y.desc).map (fun d => d.parameters.length) = some n) ∧ Cond.methodLink own index y ∈ WS ∧ Cond.instanceMethod y ∈ WS ∧ Cond.selects C y y ∈ WS ∧ Cond.initialized C ∈ WS ∧ Cond.code y bytes maxL ret ∈ WS
def CWs (own : String) (index : Nat) (y : MethodName) (bytes : ByteArray) (maxL : Nat) (ret : Option FieldType) (n : Nat) : Prop :=
  (y.cls ≠ "java/lang/invoke/MethodHandle" ∧ y.cls ≠ "java/lang/invoke/VarHandle" ∧ (parseMethodDescriptor y.desc).map (fun d => d.parameters.length) = some n) ∧ Cond.methodLink own index y ∈ WS ∧ Cond.static y ∈ WS ∧ Cond.initialized y.cls ∈ WS ∧ Cond.code y bytes maxL ret ∈ WS
def CWi (own : String) (index : Nat) (y : MethodName) (bytes : ByteArray) (maxL : Nat) (n : Nat) : Prop :=
  (y.cls ≠ "java/lang/invoke/MethodHandle" ∧ y.cls ≠ "java/lang/invoke/VarHandle" ∧ (parseMethodDescriptor y.desc).map (fun d => d.parameters.length) = some n) ∧ Cond.methodLink own index y ∈ WS ∧ Cond.instanceMethod y ∈ WS ∧ Cond.initialized y.cls ∈ WS ∧ Cond.code y bytes maxL none ∈ WS ∧ y.name = "<init>"
def CWn (own : String) (index : Nat) (y : MethodName) (host : String) (bytes : ByteArray) (maxL : Nat) (n : Nat) : Prop :=
  (y.cls ≠ "java/lang/invoke/MethodHandle" ∧ y.cls ≠ "java/lang/invoke/VarHandle" ∧ (parseMethodDescriptor y.desc).map (fun d => d.parameters.length) = some n) ∧ Cond.methodLinkNest own index y host ∈ WN ∧ Cond.instanceMethod y ∈ WS ∧ Cond.initialized y.cls ∈ WS ∧ Cond.code y bytes maxL none ∈ WS ∧ y.name = "<init>"
theorem good_WS {y : MethodName} {bytes : ByteArray} {maxL : Nat} {ret : Option FieldType} (h : Cond.code y bytes maxL ret ∈ WS) : GoodIn WS (.code y bytes maxL ret :: WS) := by
  intro w hw
  have hm : w ∈ WS := by
    rcases List.mem_cons.mp hw with e | e
    · rw [e]; exact h
    · exact e
  exact ⟨hm, good_of_word (List.mem_filter.mp hm).2⟩
section VC
variable {E : EV} {Γ : VG} {own : String} {cc : ByteArray} {nL b : Nat} {h : AH} {pc : Nat} {lv : List (Nat × Value)} {st : List Value} {ret0 : Option FieldType} {rk0 b0 : Nat} {Ret0 : Option Value → AH → Prop} {Thr0 : String → AH → Prop}
theorem V_iret (X : CX E Γ own cc nL) (Q : RQ E Γ ret0 rk0 b0 Ret0 Thr0) {ty : FieldType} {v : Int32} (hret : ret0 = some ty) (hn : narrow ty (.int v) = .int v) (d : decode cc pc = .ok (.ireturn, 1)) (hr : Ret0 (some (.int v)) h) : V E Γ b h pc lv [.int v] := by
  intro ls H locs k9 n9 h1 h2 h3 h4 h5
  obtain ⟨q1, q2, q3⟩ := Q
  rw [q2] at h4 h5
  have h4' : k9 + b ≤ b0 := h4
  have h5' : n9 + 4 * b ≤ 4 * b0 := h5
  show W _ _ _ _ _ _ _ _ _ _ _ _ _ _ (gQ Γ) _
  rw [q3]
  refine vx_ret (W.widen (k := b0) (n := 4 * b0) (by omega) (by omega) ?_)
  exact W.zret X.1 X.2.1 (q1.trans hret) hn (fun t ht hW => ⟨⟨_, h, rfl, hr, by rw [ht]; exact h2⟩, h3.F ht⟩) h3.2.2 d X.2.2.2.2.2.2.1
theorem V_vret (X : CX E Γ own cc nL) (Q : RQ E Γ ret0 rk0 b0 Ret0 Thr0) (hret : ret0 = none) (d : decode cc pc = .ok (.return_, 1)) (hr : Ret0 none h) : V E Γ b h pc lv [] := by
  intro ls H locs k9 n9 h1 h2 h3 h4 h5
  obtain ⟨q1, q2, q3⟩ := Q
  rw [q2] at h4 h5
  have h4' : k9 + b ≤ b0 := h4
  have h5' : n9 + 4 * b ≤ 4 * b0 := h5
  show W _ _ _ _ _ _ _ _ _ _ _ _ _ _ (gQ Γ) _
  rw [q3]
  refine vx_ret (W.widen (k := b0) (n := 4 * b0) (by omega) (by omega) ?_)
  exact W.vret X.1 X.2.1 (q1.trans hret) (fun t ht hW => ⟨⟨_, h, rfl, hr, by rw [ht]; exact h2⟩, h3.F ht⟩) h3.2.2 d X.2.2.2.2.2.2.1
theorem V_aret (X : CX E Γ own cc nL) (Q : RQ E Γ ret0 rk0 b0 Ret0 Thr0) {a : Nat} {C : String} (hret : ret0 = some (.object C)) (d : decode cc pc = .ok (.areturn, 1)) (hr : Ret0 (some (.ref a)) h) : V E Γ b h pc lv [.ref a] := by
  intro ls H locs k9 n9 h1 h2 h3 h4 h5
  obtain ⟨q1, q2, q3⟩ := Q
  rw [q2] at h4 h5
  have h4' : k9 + b ≤ b0 := h4
  have h5' : n9 + 4 * b ≤ 4 * b0 := h5
  show W _ _ _ _ _ _ _ _ _ _ _ _ _ _ (gQ Γ) _
  rw [q3]
  refine vx_ret (W.widen (k := b0) (n := 4 * b0) (by omega) (by omega) ?_)
  exact W.aret X.1 X.2.1 (q1.trans hret) (Or.inl ⟨C, rfl⟩) (Or.inr ⟨a, rfl⟩) (fun t ht hW => ⟨⟨_, h, rfl, hr, by rw [ht]; exact h2⟩, h3.F ht⟩) h3.2.2 d X.2.2.2.2.2.2.1
theorem V_lret (X : CX E Γ own cc nL) (Q : RQ E Γ ret0 rk0 b0 Ret0 Thr0) {v : Int64} (hret : ret0 = some .long) (d : decode cc pc = .ok (.lreturn, 1)) (hr : Ret0 (some (.long v)) h) : V E Γ b h pc lv [.long v] := by
  intro ls H locs k9 n9 h1 h2 h3 h4 h5
  obtain ⟨q1, q2, q3⟩ := Q
  rw [q2] at h4 h5
  have h4' : k9 + b ≤ b0 := h4
  have h5' : n9 + 4 * b ≤ 4 * b0 := h5
  show W _ _ _ _ _ _ _ _ _ _ _ _ _ _ (gQ Γ) _
  rw [q3]
  refine vx_ret (W.widen (k := b0) (n := 4 * b0) (by omega) (by omega) ?_)
  exact W.lret X.1 X.2.1 (q1.trans hret) (fun t ht hW => ⟨⟨_, h, rfl, hr, by rw [ht]; exact h2⟩, h3.F ht⟩) h3.2.2 d X.2.2.2.2.2.2.1
theorem V_fret (X : CX E Γ own cc nL) (Q : RQ E Γ ret0 rk0 b0 Ret0 Thr0) {v : UInt32} (hret : ret0 = some .float) (d : decode cc pc = .ok (.freturn, 1)) (hr : Ret0 (some (.float v)) h) : V E Γ b h pc lv [.float v] := by
  intro ls H locs k9 n9 h1 h2 h3 h4 h5
  obtain ⟨q1, q2, q3⟩ := Q
  rw [q2] at h4 h5
  have h4' : k9 + b ≤ b0 := h4
  have h5' : n9 + 4 * b ≤ 4 * b0 := h5
  show W _ _ _ _ _ _ _ _ _ _ _ _ _ _ (gQ Γ) _
  rw [q3]
  refine vx_ret (W.widen (k := b0) (n := 4 * b0) (by omega) (by omega) ?_)
  exact W.fret X.1 X.2.1 (q1.trans hret) (fun t ht hW => ⟨⟨_, h, rfl, hr, by rw [ht]; exact h2⟩, h3.F ht⟩) h3.2.2 d X.2.2.2.2.2.2.1
theorem V_dret (X : CX E Γ own cc nL) (Q : RQ E Γ ret0 rk0 b0 Ret0 Thr0) {v : UInt64} (hret : ret0 = some .double) (d : decode cc pc = .ok (.dreturn, 1)) (hr : Ret0 (some (.double v)) h) : V E Γ b h pc lv [.double v] := by
  intro ls H locs k9 n9 h1 h2 h3 h4 h5
  obtain ⟨q1, q2, q3⟩ := Q
  rw [q2] at h4 h5
  have h4' : k9 + b ≤ b0 := h4
  have h5' : n9 + 4 * b ≤ 4 * b0 := h5
  show W _ _ _ _ _ _ _ _ _ _ _ _ _ _ (gQ Γ) _
  rw [q3]
  refine vx_ret (W.widen (k := b0) (n := 4 * b0) (by omega) (by omega) ?_)
  exact W.dret X.1 X.2.1 (q1.trans hret) (fun t ht hW => ⟨⟨_, h, rfl, hr, by rw [ht]; exact h2⟩, h3.F ht⟩) h3.2.2 d X.2.2.2.2.2.2.1
/-- an exception leaves the method -/
theorem VX_out (X : CX E Γ own cc nL) (Q : RQ E Γ ret0 rk0 b0 Ret0 Thr0) (nt : NT Γ) {N : String} (ht : Thr0 N h) : VX E Γ b h pc lv st N := by
  intro ls H locs k9 n9 q ce h1 h2 h3 h4 h5 h6 h7 h8
  obtain ⟨q1, q2, q3⟩ := Q
  rw [q2] at h4 h5
  have h4' : k9 + b ≤ b0 := h4
  have h5' : n9 + 4 * b ≤ 4 * b0 := h5
  rw [q3]
  exact vx_out (E := N) (fun x hx => (nt x hx).elim) X.2.2.2.2.2.2.1 h6 h7 h8 (fun t ht1 hal => ⟨h, ht, by rw [ht1]; exact h2, h3.F ht1⟩) h3.2.2 (by omega) (by omega)
/-- behind a run of a callee: what came back -/
theorem V_back (X : CX E Γ own cc nL) {mc : Nat} {Ret : Option Value → AH → Prop} {Thr : String → AH → Prop} {a : Array Value} {st0 : List Value} (hb : mc ≤ b)
    (hr : ∀ (ls : Array Slot) (H : Heap) (locs : List Loc) (k n : Nat), lv_has ls (gc Γ).maxLocals lv → HP E h H → va_S (A0 E) (gs Γ).heap H locs → k + b ≤ (gR Γ).cells → n + 4 * b ≤ (gR Γ).slots → vx_Run (gp Γ) (gl Γ) (ge Γ) (gR Γ) (gs Γ) (gm Γ) (ga Γ) (gb Γ) (gM Γ) (gc Γ) H locs k n mc (4 * mc) (F0 (gm Γ) pc ls st0) st (qQ E Ret a) (qX E Thr) (A0 E))
    (kx : ∀ (N : String) (h' : AH), Thr N h' → VX E Γ (b - mc) h' pc lv st N)
    (kk : ∀ (v : Option Value) (h' : AH), Ret v h' → V E Γ (b - mc) h' (pc + 3) lv (v.toList ++ st)) : V E Γ b h pc lv st0 := by
  intro ls H locs k9 n9 h1 h2 h3 h4 h5 T hT Y
  have hA : ∀ q, q < H.size → A0 E q → A0 E q := fun _ _ z => z
  rcases hr ls H locs k9 n9 h1 h2 h3 h4 h5 T hT Y with ⟨v, st₀, t, T', L, h0, X', hL, e1, e2, ⟨⟨v', h', hv, hR, hP⟩, hF⟩, stp⟩ | ⟨q, st₀, t, T', L, N, ce, h0, X', hL, e1, e2, ⟨h', hR, hP, hF⟩, hce, hcv, hcl, stp⟩
  · cases hv
    obtain ⟨z1, z2, z3⟩ := vx_keep h0 e1 h3 hA (fun _ z => z) hL hF
    obtain ⟨t2, a1, b1⟩ := kk v h' hR ls T'.heap (locs ++ L) (k9 + mc) (n9 + 4 * mc) h1 (by rw [e1]; exact hP) z3 (by omega) (by omega) T' rfl X'
    exact ⟨t2, stp t2 a1, b1⟩
  · obtain ⟨z1, z2, z3⟩ := vx_keep h0 e1 h3 hA (fun _ z => z) hL hF
    obtain ⟨t2, a1, b1⟩ := kx N h' hR ls T'.heap (locs ++ L) (k9 + mc) (n9 + 4 * mc) q ce h1 (by rw [e1]; exact hP) z3 (by omega) (by omega) (by rw [e1]; exact hce) hcv hcl T' rfl X'
    exact ⟨t2, stp.trans a1, b1⟩
/-- a run of a method that throws nothing is such a run -/
theorem run_of {p : Program} {l : Launch} {e : Env} {R : Room} {s : State} {m : MethodId} {args : Array Value} {below : List Frame} {meth : Method} {c : Code} {H : Heap} {locs : List Loc} {cells slots mc ms : Nat} {g : JFrame} {rest : List Value} {Qa : State → Outcome → State → Prop} {XC : String → State → State → Prop} {free : Addr → Prop}
    (hr : va_Run p l e R s m args below meth c H locs cells slots mc ms g rest Qa free) : vx_Run p l e R s m args below meth c H locs cells slots mc ms g rest Qa XC free := fun T hT X => Or.inl (hr T hT X)
section
variable {y : MethodName} {bytes : ByteArray} {maxL : Nat} {ret : Option FieldType} {rk mc : Nat} {Ret : Option Value → AH → Prop} {Thr : String → AH → Prop} {As st0 : List Value} {a index n : Nat}
/-- a call of an instance method of a class of ours -/
theorem V_callV (X : CX E Γ own cc nL) {ci N : Nat} {C : String} {T : u_T} {ty0 : Nat → FieldType} (c : CLK ci C T N ty0) (hci : ci ≤ 9) (hk : qK h a = ci + 1) (As : List Value) (M : Ct E y bytes maxL ret rk mc (.ref a :: As) h Ret Thr) (cw : CWv own index C y bytes maxL ret n) (hR : rk + 1 ≤ (gR Γ).frames ∧ 419 + maxL + 40 * rk ≤ (gR Γ).locals) (hn : As.length = n) (hc : (st.map fun v => v.category).sum ≤ 8) (hs : st0 = As.reverse ++ .ref a :: st) (hb : mc ≤ b) (d : decode cc pc = .ok (.invokevirtual index, 3))
    (kx : ∀ (N : String) (h' : AH), Thr N h' → VX E Γ (b - mc) h' pc lv st N)
    (kk : ∀ (v : Option Value) (h' : AH), Ret v h' → V E Γ (b - mc) h' (pc + 3) lv (v.toList ++ st)) : V E Γ b h pc lv st0 := by
  refine V_back (a := (Value.ref a :: As).toArray) X hb (fun ls H locs k9 n9 h1 h2 h3 h4 h5 => ?_) kx kk
  obtain ⟨cell, q1, q2, q3, q4⟩ := h2.obj hk hci
  have hKn := X.en.1.1 _ _ c.1
  obtain ⟨w0, w1, w2, w3, w4, w5⟩ := cw
  have hG : GoodIn WS (wsV own index C y (.code y bytes maxL ret :: WS)) := by
    intro w hw
    unfold wsV at hw
    rcases List.mem_append.mp hw with hw | hw
    · have hm : w ∈ WS := by
        simp only [List.mem_cons, List.not_mem_nil, or_false] at hw
        rcases hw with rfl | rfl | rfl | rfl <;> assumption
      exact ⟨hm, good_of_word (List.mem_filter.mp hm).2⟩
    · exact good_WS w5 w hw
  refine vx_runV (nL := nL) ⟨X.1, X.2.1, X.2.2.1, X.ow, X.ts⟩ (M _ X.2.2.2.2.2.2.2) (cwV n X.ts hG rfl rfl rfl w0 ⟨hR.1, ?_⟩) ⟨qPc_blind, ⟨cell, q1, by rw [q3]; rfl, by rw [q2]; exact hKn.2.1⟩, fun U hU hW => ⟨rfl, by rw [hU]; exact h2, X.en.call h3 hU hW⟩⟩ rfl hn (h1.1.trans X.2.2.1) hs (by rw [show (F0 (gm Γ) pc ls st0).monitorRoom = 0 from rfl]; omega) d ⟨by omega, by omega⟩
  show 8 + (maxL + 11) + (40 * rk + 400) ≤ _
  omega
theorem V_callS (X : CX E Γ own cc nL) (As : List Value) (M : Ct E y bytes maxL ret rk mc As h Ret Thr) (cw : CWs own index y bytes maxL ret n) (hR : rk + 1 ≤ (gR Γ).frames ∧ 419 + maxL + 40 * rk ≤ (gR Γ).locals) (hn : As.length = n) (hc : (st.map fun v => v.category).sum ≤ 8) (hs : st0 = As.reverse ++ st) (hb : mc ≤ b) (d : decode cc pc = .ok (.invokestatic index, 3))
    (kx : ∀ (N : String) (h' : AH), Thr N h' → VX E Γ (b - mc) h' pc lv st N)
    (kk : ∀ (v : Option Value) (h' : AH), Ret v h' → V E Γ (b - mc) h' (pc + 3) lv (v.toList ++ st)) : V E Γ b h pc lv st0 := by
  refine V_back (a := As.toArray) X hb (fun ls H locs k9 n9 h1 h2 h3 h4 h5 => ?_) kx kk
  obtain ⟨w0, w1, w2, w3, w4⟩ := cw
  refine vx_runS (nL := nL) (n := n) ⟨X.1, X.2.1, X.2.2.1, X.ow, X.ts⟩ (M _ X.2.2.2.2.2.2.2) ⟨callB_of n X.ts (good_WS w4) rfl rfl rfl (X.ts _ w3) (X.ts _ w1) w0 ⟨hR.1, ?_⟩, X.ts _ w2⟩ ⟨qPc_blind, fun U hU hW => ⟨rfl, by rw [hU]; exact h2, X.en.call h3 hU hW⟩⟩ rfl hn (h1.1.trans X.2.2.1) hs (by rw [show (F0 (gm Γ) pc ls st0).monitorRoom = 0 from rfl]; omega) d ⟨by omega, by omega⟩
  show 8 + (maxL + 11) + (40 * rk + 400) ≤ _
  omega
theorem V_callI (X : CX E Γ own cc nL) (As : List Value) (M : Ct E y bytes maxL none rk mc (.ref a :: As) h Ret noX) (cw : CWi own index y bytes maxL n) (hR : rk + 1 ≤ (gR Γ).frames ∧ 419 + maxL + 40 * rk ≤ (gR Γ).locals) (hn : As.length = n) (hc : (st.map fun v => v.category).sum ≤ 8) (hs : st0 = As.reverse ++ .ref a :: st) (hb : mc ≤ b) (d : decode cc pc = .ok (.invokespecial index, 3))
    (kk : ∀ (v : Option Value) (h' : AH), Ret v h' → V E Γ (b - mc) h' (pc + 3) lv (v.toList ++ st)) : V E Γ b h pc lv st0 := by
  refine V_back (a := (Value.ref a :: As).toArray) (Thr := noX) X hb (fun ls H locs k9 n9 h1 h2 h3 h4 h5 => ?_) (fun _ _ z => z.elim) kk
  obtain ⟨w0, w1, w2, w3, w4, w5⟩ := cw
  refine run_of (va_runI (nL := nL) (n := n) ⟨X.1, X.2.1, X.2.2.1, X.ow, X.ts⟩ (M.met _ X.2.2.2.2.2.2.2) (cwI n X.ts (good_WS w4) rfl rfl rfl (X.ts _ w3) (X.ts _ w1) (X.ts _ w2) w5 w0 ⟨hR.1, ?_⟩) ⟨qPc_blind, fun U hU hW => ⟨rfl, by rw [hU]; exact h2, X.en.call h3 hU hW⟩⟩ rfl hn (h1.1.trans X.2.2.1) hs (by rw [show (F0 (gm Γ) pc ls st0).monitorRoom = 0 from rfl]; omega) d ⟨by omega, by omega⟩)
  show 8 + (maxL + 11) + (40 * rk + 400) ≤ _
  omega
theorem V_callN (X : CX E Γ own cc nL) {host : String} (As : List Value) (M : Ct E y bytes maxL none rk mc (.ref a :: As) h Ret noX) (cw : CWn own index y host bytes maxL n) (hR : rk + 1 ≤ (gR Γ).frames ∧ 419 + maxL + 40 * rk ≤ (gR Γ).locals) (hn : As.length = n) (hc : (st.map fun v => v.category).sum ≤ 8) (hs : st0 = As.reverse ++ .ref a :: st) (hb : mc ≤ b) (d : decode cc pc = .ok (.invokespecial index, 3))
    (kk : ∀ (v : Option Value) (h' : AH), Ret v h' → V E Γ (b - mc) h' (pc + 3) lv (v.toList ++ st)) : V E Γ b h pc lv st0 := by
  refine V_back (a := (Value.ref a :: As).toArray) (Thr := noX) X hb (fun ls H locs k9 n9 h1 h2 h3 h4 h5 => ?_) (fun _ _ z => z.elim) kk
  obtain ⟨w0, w1, w2, w3, w4, w5⟩ := cw
  refine run_of (va_runIN (nL := nL) (n := n) ⟨X.1, X.2.1, X.2.2.1, X.ow, X.ts⟩ (M.met _ X.2.2.2.2.2.2.2) ⟨va_cnB n X.ts (good_WS w4) rfl rfl rfl (X.en.2.2.2.2.2.1 _ w1) (X.ts _ w3) w0 ⟨hR.1, ?_⟩, w5, X.ts _ w2⟩ ⟨qPc_blind, fun U hU hW => ⟨rfl, by rw [hU]; exact h2, X.en.call h3 hU hW⟩⟩ rfl hn (h1.1.trans X.2.2.1) hs (by rw [show (F0 (gm Γ) pc ls st0).monitorRoom = 0 from rfl]; omega) d ⟨by omega, by omega⟩)
  show 8 + (maxL + 11) + (40 * rk + 400) ≤ _
  omega
end
theorem V_objInit (X : CX E Γ own cc nL) {index a : Nat} (hw : Cond.methodLink own index Lib.objectInit ∈ WS ∧ Cond.instanceMethod Lib.objectInit ∈ WS ∧ Cond.code Lib.objectInit ⟨#[0xb1]⟩ 1 none ∈ WS) (hR : 1 ≤ (gR Γ).frames ∧ 20 ≤ (gR Γ).locals) (hc : (st.map fun v => v.category).sum ≤ 8) (d : decode cc pc = .ok (.invokespecial index, 3)) (k : V E Γ b h (pc + 3) lv st) : V E Γ b h pc lv (.ref a :: st) := by
  intro ls H locs k9 n9 h1 h2 h3 h4 h5
  exact W.objInit X.1 X.2.1 X.ow (X.ts _ hw.1) (X.ts _ hw.2.1) (X.ts _ hw.2.2) rfl h1.1 rfl d hR.1 (by rw [show (F0 (gm Γ) pc ls (Value.ref a :: st)).monitorRoom = 0 from rfl]; omega) (k ls H locs k9 n9 h1 h2 h3 h4 h5)
/-- 'throw new N("text")' -/
def TWd (own : String) (ik : Nat) (is : Nat) (ic : Nat) (N text : String) : Prop :=
  Bundle.fit N = true ∧ Cond.classLink own ik N ∈ WS ∧ Cond.initialized N ∈ WS ∧ (own, is, text) ∈ qStr ∧ (∀ w ∈ vx_atS own ic N ["java/lang/RuntimeException", "java/lang/Exception"], w ∈ WS ∨ w ∈ WN)
theorem V_throw (X : CX E Γ own cc nL) (Q : RQ E Γ ret0 rk0 b0 Ret0 Thr0) (nt : NT Γ) {ik is ic : Nat} {N text : String} (tw : TWd own ik is ic N text) (d0 : decode cc pc = .ok (.new ik, 3)) (d3 : decode cc (pc + 3) = .ok (.dup, 1)) (d4 : decode cc (pc + 4) = .ok (.ldc is, 2)) (d6 : decode cc (pc + 6) = .ok (.invokespecial ic, 3)) (d9 : decode cc (pc + 9) = .ok (.athrow, 1))
    (hrk : 6 ≤ rk0) (hc : (st.map fun v => v.category).sum ≤ 8) (hb : 2 ≤ b) (ht : Thr0 N h) : V E Γ b h pc lv st := by
  intro ls H locs k9 n9 h1 h2 h3 h4 h5
  obtain ⟨t1, t2, t3, t4, t5⟩ := tw
  obtain ⟨q1, q2, q3⟩ := Q
  obtain ⟨sa, hsa⟩ := X.en.2.2.2.2.2.2.1 _ t4
  rw [q2] at h4 h5
  have h4' : k9 + b ≤ b0 := h4
  have h5' : n9 + 4 * b ≤ 4 * b0 := h5
  have wn_b : ∀ w ∈ WN, w.before (ga Γ) (gs Γ) = true := fun w hw => by
    have hg := (List.mem_filter.mp hw).2
    have hz := X.en.2.2.2.2.2.1 w hw
    cases w <;> first | exact va_Nw.use rfl hz | (simp [nestW] at hg)
  have ot : ∀ w, w ∈ WS ∨ w ∈ WN → vx_ot w = true := by
    intro w hw
    unfold vx_ot
    rcases hw with hw | hw
    · rw [(List.mem_filter.mp hw).2]; simp
    · have hg := (List.mem_filter.mp hw).2
      cases w <;> first | rfl | (simp [nestW] at hg)
  show W _ _ _ _ _ _ _ _ _ _ _ _ _ _ (gQ Γ) _
  rw [q3]
  refine vx_throwS (A := A0 E) (names := ["java/lang/RuntimeException", "java/lang/Exception"]) X.1 X.2.1 X.2.2.2.2.2.2.2 X.ow t1 (by decide +kernel) (X.ts _ t2) (X.ts _ t3) hsa (fun w hw => (t5 w hw).elim (fun z => X.ts w z) (fun z => wn_b w z)) (fun w hw => ?_) X.en.2.2.2.1 X.en.2.2.2.2.1 h3 h1.1 d0 d3 d4 d6 d9 (fun x hx => (nt x hx).elim) (by rw [q2]; show 2 + 3 < rk0; omega) (by rw [q2]; show _ + (13 * (2 + 1) + 43) ≤ 40 * rk0 + 400; omega) (by rw [q2]; show k9 + 1 ≤ b0; omega) (by rw [q2]; show n9 + 6 ≤ 4 * b0; omega) X.2.2.2.2.2.2.1 (fun t hal z1 z2 => ⟨h, ht, h2.grow z1 z2, ?_⟩) h3.2.2 (by omega) (by omega)
  · rcases List.mem_cons.mp hw with rfl | hw
    · exact ot _ (Or.inl t2)
    · rcases List.mem_cons.mp hw with rfl | hw
      · exact ot _ (Or.inl t3)
      · exact ot _ (t5 w hw)
  · exact ⟨Nat.le_trans h3.1 z1, fun q g1 g2 => (z2 q (Nat.lt_of_lt_of_le g1 h3.1)).trans (h3.2.1 q g1 g2)⟩
end VC
end
