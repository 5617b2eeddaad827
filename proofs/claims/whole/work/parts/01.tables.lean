-- ===== PART A: goes FIRST, ahead of the names: the tables' words, and 'selects' of the private methods out of them =====
/-- a private method of a class that the tables say can be made, by its rows of tables_1 -/
def lw_okq (q : MethodName × Nat) : Prop := (q.1.cls ≠ "java/lang/invoke/MethodHandle" ∧ q.1.cls ≠ "java/lang/invoke/VarHandle") ∧ Cond.instantiable q.1.cls q.2 ∈ tables_1 ∧ Cond.privateMethod q.1 ∈ tables_1 ∧ Cond.instanceMethod q.1 ∈ tables_1
theorem lw_p0 : lw_okq (⟨"Objections$Tape", "readWord", "()V"⟩, 8) := ⟨⟨by decide +kernel, by decide +kernel⟩, List.mem_of_getElem? (i := 30) (by decide +kernel), List.mem_of_getElem? (i := 613) (by decide +kernel), List.mem_of_getElem? (i := 614) (by decide +kernel)⟩
theorem lw_p1 : lw_okq (⟨"Objections$Tape", "readNumber", "()V"⟩, 8) := ⟨⟨by decide +kernel, by decide +kernel⟩, List.mem_of_getElem? (i := 30) (by decide +kernel), List.mem_of_getElem? (i := 620) (by decide +kernel), List.mem_of_getElem? (i := 621) (by decide +kernel)⟩
theorem lw_p2 : lw_okq (⟨"Objections$Reader", "readObjector", "()Z"⟩, 12) := ⟨⟨by decide +kernel, by decide +kernel⟩, List.mem_of_getElem? (i := 125) (by decide +kernel), List.mem_of_getElem? (i := 627) (by decide +kernel), List.mem_of_getElem? (i := 628) (by decide +kernel)⟩
theorem lw_p3 : lw_okq (⟨"Objections$Reader", "misplaced", "()Z"⟩, 12) := ⟨⟨by decide +kernel, by decide +kernel⟩, List.mem_of_getElem? (i := 125) (by decide +kernel), List.mem_of_getElem? (i := 631) (by decide +kernel), List.mem_of_getElem? (i := 632) (by decide +kernel)⟩
theorem lw_p4 : lw_okq (⟨"Objections$Reader", "refuse", "(I)Z"⟩, 12) := ⟨⟨by decide +kernel, by decide +kernel⟩, List.mem_of_getElem? (i := 125) (by decide +kernel), List.mem_of_getElem? (i := 635) (by decide +kernel), List.mem_of_getElem? (i := 636) (by decide +kernel)⟩
theorem lw_p5 : lw_okq (⟨"Objections$Reader", "readNewName", "(I)Z"⟩, 12) := ⟨⟨by decide +kernel, by decide +kernel⟩, List.mem_of_getElem? (i := 125) (by decide +kernel), List.mem_of_getElem? (i := 640) (by decide +kernel), List.mem_of_getElem? (i := 641) (by decide +kernel)⟩
theorem lw_p6 : lw_okq (⟨"Objections$Reader", "find", "()I"⟩, 12) := ⟨⟨by decide +kernel, by decide +kernel⟩, List.mem_of_getElem? (i := 125) (by decide +kernel), List.mem_of_getElem? (i := 644) (by decide +kernel), List.mem_of_getElem? (i := 645) (by decide +kernel)⟩
theorem lw_p7 : lw_okq (⟨"Objections$Reader", "take", "(I)Z"⟩, 12) := ⟨⟨by decide +kernel, by decide +kernel⟩, List.mem_of_getElem? (i := 125) (by decide +kernel), List.mem_of_getElem? (i := 648) (by decide +kernel), List.mem_of_getElem? (i := 649) (by decide +kernel)⟩
theorem lw_p8 : lw_okq (⟨"Objections$Reader", "readAmount", "(II)Z"⟩, 12) := ⟨⟨by decide +kernel, by decide +kernel⟩, List.mem_of_getElem? (i := 125) (by decide +kernel), List.mem_of_getElem? (i := 652) (by decide +kernel), List.mem_of_getElem? (i := 653) (by decide +kernel)⟩
theorem lw_p9 : lw_okq (⟨"Objections$Reader", "readWhom", "([II)Z"⟩, 12) := ⟨⟨by decide +kernel, by decide +kernel⟩, List.mem_of_getElem? (i := 125) (by decide +kernel), List.mem_of_getElem? (i := 656) (by decide +kernel), List.mem_of_getElem? (i := 657) (by decide +kernel)⟩
theorem lw_p10 : lw_okq (⟨"Objections$Reader", "readTwoNames", "()Z"⟩, 12) := ⟨⟨by decide +kernel, by decide +kernel⟩, List.mem_of_getElem? (i := 125) (by decide +kernel), List.mem_of_getElem? (i := 666) (by decide +kernel), List.mem_of_getElem? (i := 667) (by decide +kernel)⟩
theorem lw_p11 : lw_okq (⟨"Objections$Reader", "readJoined", "()Z"⟩, 12) := ⟨⟨by decide +kernel, by decide +kernel⟩, List.mem_of_getElem? (i := 125) (by decide +kernel), List.mem_of_getElem? (i := 670) (by decide +kernel), List.mem_of_getElem? (i := 671) (by decide +kernel)⟩
theorem lw_p12 : lw_okq (⟨"Objections$Reader", "readFormula", "(LObjections$Formula;)Z"⟩, 12) := ⟨⟨by decide +kernel, by decide +kernel⟩, List.mem_of_getElem? (i := 125) (by decide +kernel), List.mem_of_getElem? (i := 674) (by decide +kernel), List.mem_of_getElem? (i := 675) (by decide +kernel)⟩
theorem lw_p13 : lw_okq (⟨"Objections$Reader", "beginOnce", "()Z"⟩, 12) := ⟨⟨by decide +kernel, by decide +kernel⟩, List.mem_of_getElem? (i := 125) (by decide +kernel), List.mem_of_getElem? (i := 678) (by decide +kernel), List.mem_of_getElem? (i := 679) (by decide +kernel)⟩
theorem lw_p14 : lw_okq (⟨"Objections$Reader", "readPart", "(II)Z"⟩, 12) := ⟨⟨by decide +kernel, by decide +kernel⟩, List.mem_of_getElem? (i := 125) (by decide +kernel), List.mem_of_getElem? (i := 683) (by decide +kernel), List.mem_of_getElem? (i := 684) (by decide +kernel)⟩
theorem lw_p15 : lw_okq (⟨"Objections$Reader", "readUnit", "(I)Z"⟩, 12) := ⟨⟨by decide +kernel, by decide +kernel⟩, List.mem_of_getElem? (i := 125) (by decide +kernel), List.mem_of_getElem? (i := 687) (by decide +kernel), List.mem_of_getElem? (i := 688) (by decide +kernel)⟩
def lw_privs_1 : List (MethodName × Nat) := [(⟨"Objections$Tape", "readWord", "()V"⟩, 8), (⟨"Objections$Tape", "readNumber", "()V"⟩, 8), (⟨"Objections$Reader", "readObjector", "()Z"⟩, 12), (⟨"Objections$Reader", "misplaced", "()Z"⟩, 12), (⟨"Objections$Reader", "refuse", "(I)Z"⟩, 12), (⟨"Objections$Reader", "readNewName", "(I)Z"⟩, 12), (⟨"Objections$Reader", "find", "()I"⟩, 12), (⟨"Objections$Reader", "take", "(I)Z"⟩, 12), (⟨"Objections$Reader", "readAmount", "(II)Z"⟩, 12), (⟨"Objections$Reader", "readWhom", "([II)Z"⟩, 12), (⟨"Objections$Reader", "readTwoNames", "()Z"⟩, 12), (⟨"Objections$Reader", "readJoined", "()Z"⟩, 12), (⟨"Objections$Reader", "readFormula", "(LObjections$Formula;)Z"⟩, 12), (⟨"Objections$Reader", "beginOnce", "()Z"⟩, 12), (⟨"Objections$Reader", "readPart", "(II)Z"⟩, 12), (⟨"Objections$Reader", "readUnit", "(I)Z"⟩, 12)]
theorem lw_r1 : ∀ q ∈ lw_privs_1, lw_okq q := List.forall_mem_cons.mpr ⟨lw_p0, List.forall_mem_cons.mpr ⟨lw_p1, List.forall_mem_cons.mpr ⟨lw_p2, List.forall_mem_cons.mpr ⟨lw_p3, List.forall_mem_cons.mpr ⟨lw_p4, List.forall_mem_cons.mpr ⟨lw_p5, List.forall_mem_cons.mpr ⟨lw_p6, List.forall_mem_cons.mpr ⟨lw_p7, List.forall_mem_cons.mpr ⟨lw_p8, List.forall_mem_cons.mpr ⟨lw_p9, List.forall_mem_cons.mpr ⟨lw_p10, List.forall_mem_cons.mpr ⟨lw_p11, List.forall_mem_cons.mpr ⟨lw_p12, List.forall_mem_cons.mpr ⟨lw_p13, List.forall_mem_cons.mpr ⟨lw_p14, List.forall_mem_cons.mpr ⟨lw_p15, fun _ h => absurd h List.not_mem_nil⟩⟩⟩⟩⟩⟩⟩⟩⟩⟩⟩⟩⟩⟩⟩⟩
theorem lw_p16 : lw_okq (⟨"Objections$Reader", "readNot", "(I)Z"⟩, 12) := ⟨⟨by decide +kernel, by decide +kernel⟩, List.mem_of_getElem? (i := 125) (by decide +kernel), List.mem_of_getElem? (i := 695) (by decide +kernel), List.mem_of_getElem? (i := 696) (by decide +kernel)⟩
theorem lw_p17 : lw_okq (⟨"Objections$Reader", "readBar", "()Z"⟩, 12) := ⟨⟨by decide +kernel, by decide +kernel⟩, List.mem_of_getElem? (i := 125) (by decide +kernel), List.mem_of_getElem? (i := 702) (by decide +kernel), List.mem_of_getElem? (i := 703) (by decide +kernel)⟩
theorem lw_p18 : lw_okq (⟨"Objections$Reader", "readDraw", "()Z"⟩, 12) := ⟨⟨by decide +kernel, by decide +kernel⟩, List.mem_of_getElem? (i := 125) (by decide +kernel), List.mem_of_getElem? (i := 706) (by decide +kernel), List.mem_of_getElem? (i := 707) (by decide +kernel)⟩
theorem lw_p19 : lw_okq (⟨"Objections", "isTold", "(I)Z"⟩, 12) := ⟨⟨by decide +kernel, by decide +kernel⟩, List.mem_of_getElem? (i := 22) (by decide +kernel), List.mem_of_getElem? (i := 742) (by decide +kernel), List.mem_of_getElem? (i := 743) (by decide +kernel)⟩
theorem lw_p20 : lw_okq (⟨"Objections", "isWaiting", "(I)Z"⟩, 12) := ⟨⟨by decide +kernel, by decide +kernel⟩, List.mem_of_getElem? (i := 22) (by decide +kernel), List.mem_of_getElem? (i := 762) (by decide +kernel), List.mem_of_getElem? (i := 763) (by decide +kernel)⟩
theorem lw_p21 : lw_okq (⟨"Objections$Room", "gather", "(II)V"⟩, 8) := ⟨⟨by decide +kernel, by decide +kernel⟩, List.mem_of_getElem? (i := 293) (by decide +kernel), List.mem_of_getElem? (i := 770) (by decide +kernel), List.mem_of_getElem? (i := 771) (by decide +kernel)⟩
theorem lw_p22 : lw_okq (⟨"Objections$Archive", "rowOf", "(I)I"⟩, 7) := ⟨⟨by decide +kernel, by decide +kernel⟩, List.mem_of_getElem? (i := 456) (by decide +kernel), List.mem_of_getElem? (i := 798) (by decide +kernel), List.mem_of_getElem? (i := 799) (by decide +kernel)⟩
theorem lw_p23 : lw_okq (⟨"Objections$Room", "dismiss", "()I"⟩, 8) := ⟨⟨by decide +kernel, by decide +kernel⟩, List.mem_of_getElem? (i := 293) (by decide +kernel), List.mem_of_getElem? (i := 823) (by decide +kernel), List.mem_of_getElem? (i := 824) (by decide +kernel)⟩
theorem lw_p24 : lw_okq (⟨"Objections", "lay", "([II)V"⟩, 12) := ⟨⟨by decide +kernel, by decide +kernel⟩, List.mem_of_getElem? (i := 22) (by decide +kernel), List.mem_of_getElem? (i := 903) (by decide +kernel), List.mem_of_getElem? (i := 904) (by decide +kernel)⟩
theorem lw_p25 : lw_okq (⟨"Objections$Search", "keep", "(II)V"⟩, 7) := ⟨⟨by decide +kernel, by decide +kernel⟩, List.mem_of_getElem? (i := 366) (by decide +kernel), List.mem_of_getElem? (i := 925) (by decide +kernel), List.mem_of_getElem? (i := 926) (by decide +kernel)⟩
theorem lw_p26 : lw_okq (⟨"Objections$Search", "wasHere", "(LObjections$Room;)Z"⟩, 7) := ⟨⟨by decide +kernel, by decide +kernel⟩, List.mem_of_getElem? (i := 366) (by decide +kernel), List.mem_of_getElem? (i := 930) (by decide +kernel), List.mem_of_getElem? (i := 931) (by decide +kernel)⟩
theorem lw_p27 : lw_okq (⟨"Objections$Advice", "priceOf", "(I)I"⟩, 8) := ⟨⟨by decide +kernel, by decide +kernel⟩, List.mem_of_getElem? (i := 400) (by decide +kernel), List.mem_of_getElem? (i := 956) (by decide +kernel), List.mem_of_getElem? (i := 957) (by decide +kernel)⟩
theorem lw_p28 : lw_okq (⟨"Objections$Advice", "isCheaper", "(I)Z"⟩, 8) := ⟨⟨by decide +kernel, by decide +kernel⟩, List.mem_of_getElem? (i := 400) (by decide +kernel), List.mem_of_getElem? (i := 960) (by decide +kernel), List.mem_of_getElem? (i := 961) (by decide +kernel)⟩
theorem lw_p29 : lw_okq (⟨"Objections$Scales", "threatens", "(I)Z"⟩, 4) := ⟨⟨by decide +kernel, by decide +kernel⟩, List.mem_of_getElem? (i := 436) (by decide +kernel), List.mem_of_getElem? (i := 997) (by decide +kernel), List.mem_of_getElem? (i := 998) (by decide +kernel)⟩
theorem lw_p30 : lw_okq (⟨"Objections", "canBeDrawn", "(II)Z"⟩, 12) := ⟨⟨by decide +kernel, by decide +kernel⟩, List.mem_of_getElem? (i := 22) (by decide +kernel), List.mem_of_getElem? (i := 1032) (by decide +kernel), List.mem_of_getElem? (i := 1033) (by decide +kernel)⟩
theorem lw_p31 : lw_okq (⟨"Objections$Scales", "takeChances", "()V"⟩, 4) := ⟨⟨by decide +kernel, by decide +kernel⟩, List.mem_of_getElem? (i := 436) (by decide +kernel), List.mem_of_getElem? (i := 1040) (by decide +kernel), List.mem_of_getElem? (i := 1041) (by decide +kernel)⟩
def lw_privs_2 : List (MethodName × Nat) := [(⟨"Objections$Reader", "readNot", "(I)Z"⟩, 12), (⟨"Objections$Reader", "readBar", "()Z"⟩, 12), (⟨"Objections$Reader", "readDraw", "()Z"⟩, 12), (⟨"Objections", "isTold", "(I)Z"⟩, 12), (⟨"Objections", "isWaiting", "(I)Z"⟩, 12), (⟨"Objections$Room", "gather", "(II)V"⟩, 8), (⟨"Objections$Archive", "rowOf", "(I)I"⟩, 7), (⟨"Objections$Room", "dismiss", "()I"⟩, 8), (⟨"Objections", "lay", "([II)V"⟩, 12), (⟨"Objections$Search", "keep", "(II)V"⟩, 7), (⟨"Objections$Search", "wasHere", "(LObjections$Room;)Z"⟩, 7), (⟨"Objections$Advice", "priceOf", "(I)I"⟩, 8), (⟨"Objections$Advice", "isCheaper", "(I)Z"⟩, 8), (⟨"Objections$Scales", "threatens", "(I)Z"⟩, 4), (⟨"Objections", "canBeDrawn", "(II)Z"⟩, 12), (⟨"Objections$Scales", "takeChances", "()V"⟩, 4)]
theorem lw_r2 : ∀ q ∈ lw_privs_2, lw_okq q := List.forall_mem_cons.mpr ⟨lw_p16, List.forall_mem_cons.mpr ⟨lw_p17, List.forall_mem_cons.mpr ⟨lw_p18, List.forall_mem_cons.mpr ⟨lw_p19, List.forall_mem_cons.mpr ⟨lw_p20, List.forall_mem_cons.mpr ⟨lw_p21, List.forall_mem_cons.mpr ⟨lw_p22, List.forall_mem_cons.mpr ⟨lw_p23, List.forall_mem_cons.mpr ⟨lw_p24, List.forall_mem_cons.mpr ⟨lw_p25, List.forall_mem_cons.mpr ⟨lw_p26, List.forall_mem_cons.mpr ⟨lw_p27, List.forall_mem_cons.mpr ⟨lw_p28, List.forall_mem_cons.mpr ⟨lw_p29, List.forall_mem_cons.mpr ⟨lw_p30, List.forall_mem_cons.mpr ⟨lw_p31, fun _ h => absurd h List.not_mem_nil⟩⟩⟩⟩⟩⟩⟩⟩⟩⟩⟩⟩⟩⟩⟩⟩
theorem lw_p32 : lw_okq (⟨"Objections$Scales", "ways", "(II)I"⟩, 4) := ⟨⟨by decide +kernel, by decide +kernel⟩, List.mem_of_getElem? (i := 436) (by decide +kernel), List.mem_of_getElem? (i := 1051) (by decide +kernel), List.mem_of_getElem? (i := 1052) (by decide +kernel)⟩
theorem lw_p33 : lw_okq (⟨"Objections$Advice", "duskExchanged", "(II)I"⟩, 8) := ⟨⟨by decide +kernel, by decide +kernel⟩, List.mem_of_getElem? (i := 400) (by decide +kernel), List.mem_of_getElem? (i := 1087) (by decide +kernel), List.mem_of_getElem? (i := 1088) (by decide +kernel)⟩
theorem lw_p34 : lw_okq (⟨"Objections$Sights", "findHeard", "(I)V"⟩, 15) := ⟨⟨by decide +kernel, by decide +kernel⟩, List.mem_of_getElem? (i := 486) (by decide +kernel), List.mem_of_getElem? (i := 1137) (by decide +kernel), List.mem_of_getElem? (i := 1138) (by decide +kernel)⟩
theorem lw_p35 : lw_okq (⟨"Objections$Sights", "isSo", "(II)Z"⟩, 15) := ⟨⟨by decide +kernel, by decide +kernel⟩, List.mem_of_getElem? (i := 486) (by decide +kernel), List.mem_of_getElem? (i := 1143) (by decide +kernel), List.mem_of_getElem? (i := 1144) (by decide +kernel)⟩
theorem lw_p36 : lw_okq (⟨"Objections$Sights", "mostLeft", "(I)I"⟩, 15) := ⟨⟨by decide +kernel, by decide +kernel⟩, List.mem_of_getElem? (i := 486) (by decide +kernel), List.mem_of_getElem? (i := 1167) (by decide +kernel), List.mem_of_getElem? (i := 1168) (by decide +kernel)⟩
theorem lw_p37 : lw_okq (⟨"ObjectionsModel", "four", "(I)V"⟩, 76) := ⟨⟨by decide +kernel, by decide +kernel⟩, List.mem_of_getElem? (i := 1194) (by decide +kernel), List.mem_of_getElem? (i := 1433) (by decide +kernel), List.mem_of_getElem? (i := 1434) (by decide +kernel)⟩
theorem lw_p38 : lw_okq (⟨"ObjectionsModel", "readAll", "()V"⟩, 76) := ⟨⟨by decide +kernel, by decide +kernel⟩, List.mem_of_getElem? (i := 1194) (by decide +kernel), List.mem_of_getElem? (i := 1445) (by decide +kernel), List.mem_of_getElem? (i := 1446) (by decide +kernel)⟩
theorem lw_p39 : lw_okq (⟨"ObjectionsModel", "token", "()V"⟩, 76) := ⟨⟨by decide +kernel, by decide +kernel⟩, List.mem_of_getElem? (i := 1194) (by decide +kernel), List.mem_of_getElem? (i := 1449) (by decide +kernel), List.mem_of_getElem? (i := 1450) (by decide +kernel)⟩
theorem lw_p40 : lw_okq (⟨"ObjectionsModel", "here", "(I)I"⟩, 76) := ⟨⟨by decide +kernel, by decide +kernel⟩, List.mem_of_getElem? (i := 1194) (by decide +kernel), List.mem_of_getElem? (i := 1453) (by decide +kernel), List.mem_of_getElem? (i := 1454) (by decide +kernel)⟩
theorem lw_p41 : lw_okq (⟨"ObjectionsModel", "readLine", "()V"⟩, 76) := ⟨⟨by decide +kernel, by decide +kernel⟩, List.mem_of_getElem? (i := 1194) (by decide +kernel), List.mem_of_getElem? (i := 1466) (by decide +kernel), List.mem_of_getElem? (i := 1467) (by decide +kernel)⟩
theorem lw_p42 : lw_okq (⟨"ObjectionsModel", "isWord", "(J)Z"⟩, 76) := ⟨⟨by decide +kernel, by decide +kernel⟩, List.mem_of_getElem? (i := 1194) (by decide +kernel), List.mem_of_getElem? (i := 1471) (by decide +kernel), List.mem_of_getElem? (i := 1472) (by decide +kernel)⟩
theorem lw_p43 : lw_okq (⟨"ObjectionsModel", "readObjector", "()V"⟩, 76) := ⟨⟨by decide +kernel, by decide +kernel⟩, List.mem_of_getElem? (i := 1194) (by decide +kernel), List.mem_of_getElem? (i := 1475) (by decide +kernel), List.mem_of_getElem? (i := 1476) (by decide +kernel)⟩
theorem lw_p44 : lw_okq (⟨"ObjectionsModel", "isName", "()Z"⟩, 76) := ⟨⟨by decide +kernel, by decide +kernel⟩, List.mem_of_getElem? (i := 1194) (by decide +kernel), List.mem_of_getElem? (i := 1479) (by decide +kernel), List.mem_of_getElem? (i := 1480) (by decide +kernel)⟩
theorem lw_p45 : lw_okq (⟨"ObjectionsModel", "isOwn", "()Z"⟩, 76) := ⟨⟨by decide +kernel, by decide +kernel⟩, List.mem_of_getElem? (i := 1194) (by decide +kernel), List.mem_of_getElem? (i := 1483) (by decide +kernel), List.mem_of_getElem? (i := 1484) (by decide +kernel)⟩
theorem lw_p46 : lw_okq (⟨"ObjectionsModel", "wrong", "(I)V"⟩, 76) := ⟨⟨by decide +kernel, by decide +kernel⟩, List.mem_of_getElem? (i := 1194) (by decide +kernel), List.mem_of_getElem? (i := 1506) (by decide +kernel), List.mem_of_getElem? (i := 1507) (by decide +kernel)⟩
theorem lw_p47 : lw_okq (⟨"ObjectionsModel", "find", "()I"⟩, 76) := ⟨⟨by decide +kernel, by decide +kernel⟩, List.mem_of_getElem? (i := 1194) (by decide +kernel), List.mem_of_getElem? (i := 1510) (by decide +kernel), List.mem_of_getElem? (i := 1511) (by decide +kernel)⟩
def lw_privs_3 : List (MethodName × Nat) := [(⟨"Objections$Scales", "ways", "(II)I"⟩, 4), (⟨"Objections$Advice", "duskExchanged", "(II)I"⟩, 8), (⟨"Objections$Sights", "findHeard", "(I)V"⟩, 15), (⟨"Objections$Sights", "isSo", "(II)Z"⟩, 15), (⟨"Objections$Sights", "mostLeft", "(I)I"⟩, 15), (⟨"ObjectionsModel", "four", "(I)V"⟩, 76), (⟨"ObjectionsModel", "readAll", "()V"⟩, 76), (⟨"ObjectionsModel", "token", "()V"⟩, 76), (⟨"ObjectionsModel", "here", "(I)I"⟩, 76), (⟨"ObjectionsModel", "readLine", "()V"⟩, 76), (⟨"ObjectionsModel", "isWord", "(J)Z"⟩, 76), (⟨"ObjectionsModel", "readObjector", "()V"⟩, 76), (⟨"ObjectionsModel", "isName", "()Z"⟩, 76), (⟨"ObjectionsModel", "isOwn", "()Z"⟩, 76), (⟨"ObjectionsModel", "wrong", "(I)V"⟩, 76), (⟨"ObjectionsModel", "find", "()I"⟩, 76)]
theorem lw_r3 : ∀ q ∈ lw_privs_3, lw_okq q := List.forall_mem_cons.mpr ⟨lw_p32, List.forall_mem_cons.mpr ⟨lw_p33, List.forall_mem_cons.mpr ⟨lw_p34, List.forall_mem_cons.mpr ⟨lw_p35, List.forall_mem_cons.mpr ⟨lw_p36, List.forall_mem_cons.mpr ⟨lw_p37, List.forall_mem_cons.mpr ⟨lw_p38, List.forall_mem_cons.mpr ⟨lw_p39, List.forall_mem_cons.mpr ⟨lw_p40, List.forall_mem_cons.mpr ⟨lw_p41, List.forall_mem_cons.mpr ⟨lw_p42, List.forall_mem_cons.mpr ⟨lw_p43, List.forall_mem_cons.mpr ⟨lw_p44, List.forall_mem_cons.mpr ⟨lw_p45, List.forall_mem_cons.mpr ⟨lw_p46, List.forall_mem_cons.mpr ⟨lw_p47, fun _ h => absurd h List.not_mem_nil⟩⟩⟩⟩⟩⟩⟩⟩⟩⟩⟩⟩⟩⟩⟩⟩
theorem lw_p48 : lw_okq (⟨"ObjectionsModel", "told", "(JII)I"⟩, 76) := ⟨⟨by decide +kernel, by decide +kernel⟩, List.mem_of_getElem? (i := 1194) (by decide +kernel), List.mem_of_getElem? (i := 1514) (by decide +kernel), List.mem_of_getElem? (i := 1515) (by decide +kernel)⟩
theorem lw_p49 : lw_okq (⟨"ObjectionsModel", "want", "(J)V"⟩, 76) := ⟨⟨by decide +kernel, by decide +kernel⟩, List.mem_of_getElem? (i := 1194) (by decide +kernel), List.mem_of_getElem? (i := 1518) (by decide +kernel), List.mem_of_getElem? (i := 1519) (by decide +kernel)⟩
theorem lw_p50 : lw_okq (⟨"ObjectionsModel", "toldNumber", "(II)I"⟩, 76) := ⟨⟨by decide +kernel, by decide +kernel⟩, List.mem_of_getElem? (i := 1194) (by decide +kernel), List.mem_of_getElem? (i := 1522) (by decide +kernel), List.mem_of_getElem? (i := 1523) (by decide +kernel)⟩
theorem lw_p51 : lw_okq (⟨"ObjectionsModel", "option", "(JII)I"⟩, 76) := ⟨⟨by decide +kernel, by decide +kernel⟩, List.mem_of_getElem? (i := 1194) (by decide +kernel), List.mem_of_getElem? (i := 1526) (by decide +kernel), List.mem_of_getElem? (i := 1527) (by decide +kernel)⟩
theorem lw_p52 : lw_okq (⟨"ObjectionsModel", "takes", "(J)Z"⟩, 76) := ⟨⟨by decide +kernel, by decide +kernel⟩, List.mem_of_getElem? (i := 1194) (by decide +kernel), List.mem_of_getElem? (i := 1530) (by decide +kernel), List.mem_of_getElem? (i := 1531) (by decide +kernel)⟩
theorem lw_p53 : lw_okq (⟨"ObjectionsModel", "readSettles", "()V"⟩, 76) := ⟨⟨by decide +kernel, by decide +kernel⟩, List.mem_of_getElem? (i := 1194) (by decide +kernel), List.mem_of_getElem? (i := 1537) (by decide +kernel), List.mem_of_getElem? (i := 1538) (by decide +kernel)⟩
theorem lw_p54 : lw_okq (⟨"ObjectionsModel", "readFirst", "()I"⟩, 76) := ⟨⟨by decide +kernel, by decide +kernel⟩, List.mem_of_getElem? (i := 1194) (by decide +kernel), List.mem_of_getElem? (i := 1541) (by decide +kernel), List.mem_of_getElem? (i := 1542) (by decide +kernel)⟩
theorem lw_p55 : lw_okq (⟨"ObjectionsModel", "oldOne", "()I"⟩, 76) := ⟨⟨by decide +kernel, by decide +kernel⟩, List.mem_of_getElem? (i := 1194) (by decide +kernel), List.mem_of_getElem? (i := 1545) (by decide +kernel), List.mem_of_getElem? (i := 1546) (by decide +kernel)⟩
theorem lw_p56 : lw_okq (⟨"ObjectionsModel", "readSecond", "(II)I"⟩, 76) := ⟨⟨by decide +kernel, by decide +kernel⟩, List.mem_of_getElem? (i := 1194) (by decide +kernel), List.mem_of_getElem? (i := 1549) (by decide +kernel), List.mem_of_getElem? (i := 1550) (by decide +kernel)⟩
theorem lw_p57 : lw_okq (⟨"ObjectionsModel", "readBrings", "()V"⟩, 76) := ⟨⟨by decide +kernel, by decide +kernel⟩, List.mem_of_getElem? (i := 1194) (by decide +kernel), List.mem_of_getElem? (i := 1553) (by decide +kernel), List.mem_of_getElem? (i := 1554) (by decide +kernel)⟩
theorem lw_p58 : lw_okq (⟨"ObjectionsModel", "readJoined", "()V"⟩, 76) := ⟨⟨by decide +kernel, by decide +kernel⟩, List.mem_of_getElem? (i := 1194) (by decide +kernel), List.mem_of_getElem? (i := 1557) (by decide +kernel), List.mem_of_getElem? (i := 1558) (by decide +kernel)⟩
theorem lw_p59 : lw_okq (⟨"ObjectionsModel", "formula", "(I)V"⟩, 76) := ⟨⟨by decide +kernel, by decide +kernel⟩, List.mem_of_getElem? (i := 1194) (by decide +kernel), List.mem_of_getElem? (i := 1561) (by decide +kernel), List.mem_of_getElem? (i := 1562) (by decide +kernel)⟩
theorem lw_p60 : lw_okq (⟨"ObjectionsModel", "unit", "()V"⟩, 76) := ⟨⟨by decide +kernel, by decide +kernel⟩, List.mem_of_getElem? (i := 1194) (by decide +kernel), List.mem_of_getElem? (i := 1565) (by decide +kernel), List.mem_of_getElem? (i := 1566) (by decide +kernel)⟩
theorem lw_p61 : lw_okq (⟨"ObjectionsModel", "mayNot", "()Z"⟩, 76) := ⟨⟨by decide +kernel, by decide +kernel⟩, List.mem_of_getElem? (i := 1194) (by decide +kernel), List.mem_of_getElem? (i := 1569) (by decide +kernel), List.mem_of_getElem? (i := 1570) (by decide +kernel)⟩
theorem lw_p62 : lw_okq (⟨"ObjectionsModel", "openUp", "(I)V"⟩, 76) := ⟨⟨by decide +kernel, by decide +kernel⟩, List.mem_of_getElem? (i := 1194) (by decide +kernel), List.mem_of_getElem? (i := 1576) (by decide +kernel), List.mem_of_getElem? (i := 1577) (by decide +kernel)⟩
theorem lw_p63 : lw_okq (⟨"ObjectionsModel", "isFull", "()Z"⟩, 76) := ⟨⟨by decide +kernel, by decide +kernel⟩, List.mem_of_getElem? (i := 1194) (by decide +kernel), List.mem_of_getElem? (i := 1580) (by decide +kernel), List.mem_of_getElem? (i := 1581) (by decide +kernel)⟩
def lw_privs_4 : List (MethodName × Nat) := [(⟨"ObjectionsModel", "told", "(JII)I"⟩, 76), (⟨"ObjectionsModel", "want", "(J)V"⟩, 76), (⟨"ObjectionsModel", "toldNumber", "(II)I"⟩, 76), (⟨"ObjectionsModel", "option", "(JII)I"⟩, 76), (⟨"ObjectionsModel", "takes", "(J)Z"⟩, 76), (⟨"ObjectionsModel", "readSettles", "()V"⟩, 76), (⟨"ObjectionsModel", "readFirst", "()I"⟩, 76), (⟨"ObjectionsModel", "oldOne", "()I"⟩, 76), (⟨"ObjectionsModel", "readSecond", "(II)I"⟩, 76), (⟨"ObjectionsModel", "readBrings", "()V"⟩, 76), (⟨"ObjectionsModel", "readJoined", "()V"⟩, 76), (⟨"ObjectionsModel", "formula", "(I)V"⟩, 76), (⟨"ObjectionsModel", "unit", "()V"⟩, 76), (⟨"ObjectionsModel", "mayNot", "()Z"⟩, 76), (⟨"ObjectionsModel", "openUp", "(I)V"⟩, 76), (⟨"ObjectionsModel", "isFull", "()Z"⟩, 76)]
theorem lw_r4 : ∀ q ∈ lw_privs_4, lw_okq q := List.forall_mem_cons.mpr ⟨lw_p48, List.forall_mem_cons.mpr ⟨lw_p49, List.forall_mem_cons.mpr ⟨lw_p50, List.forall_mem_cons.mpr ⟨lw_p51, List.forall_mem_cons.mpr ⟨lw_p52, List.forall_mem_cons.mpr ⟨lw_p53, List.forall_mem_cons.mpr ⟨lw_p54, List.forall_mem_cons.mpr ⟨lw_p55, List.forall_mem_cons.mpr ⟨lw_p56, List.forall_mem_cons.mpr ⟨lw_p57, List.forall_mem_cons.mpr ⟨lw_p58, List.forall_mem_cons.mpr ⟨lw_p59, List.forall_mem_cons.mpr ⟨lw_p60, List.forall_mem_cons.mpr ⟨lw_p61, List.forall_mem_cons.mpr ⟨lw_p62, List.forall_mem_cons.mpr ⟨lw_p63, fun _ h => absurd h List.not_mem_nil⟩⟩⟩⟩⟩⟩⟩⟩⟩⟩⟩⟩⟩⟩⟩⟩
theorem lw_p64 : lw_okq (⟨"ObjectionsModel", "countUnit", "()V"⟩, 76) := ⟨⟨by decide +kernel, by decide +kernel⟩, List.mem_of_getElem? (i := 1194) (by decide +kernel), List.mem_of_getElem? (i := 1584) (by decide +kernel), List.mem_of_getElem? (i := 1585) (by decide +kernel)⟩
theorem lw_p65 : lw_okq (⟨"ObjectionsModel", "asked", "()I"⟩, 76) := ⟨⟨by decide +kernel, by decide +kernel⟩, List.mem_of_getElem? (i := 1194) (by decide +kernel), List.mem_of_getElem? (i := 1588) (by decide +kernel), List.mem_of_getElem? (i := 1589) (by decide +kernel)⟩
theorem lw_p66 : lw_okq (⟨"ObjectionsModel", "add", "(II)V"⟩, 76) := ⟨⟨by decide +kernel, by decide +kernel⟩, List.mem_of_getElem? (i := 1194) (by decide +kernel), List.mem_of_getElem? (i := 1592) (by decide +kernel), List.mem_of_getElem? (i := 1593) (by decide +kernel)⟩
theorem lw_p67 : lw_okq (⟨"ObjectionsModel", "sign", "()I"⟩, 76) := ⟨⟨by decide +kernel, by decide +kernel⟩, List.mem_of_getElem? (i := 1194) (by decide +kernel), List.mem_of_getElem? (i := 1596) (by decide +kernel), List.mem_of_getElem? (i := 1597) (by decide +kernel)⟩
theorem lw_p68 : lw_okq (⟨"ObjectionsModel", "hasBracket", "()Z"⟩, 76) := ⟨⟨by decide +kernel, by decide +kernel⟩, List.mem_of_getElem? (i := 1194) (by decide +kernel), List.mem_of_getElem? (i := 1600) (by decide +kernel), List.mem_of_getElem? (i := 1601) (by decide +kernel)⟩
theorem lw_p69 : lw_okq (⟨"ObjectionsModel", "close", "(I)V"⟩, 76) := ⟨⟨by decide +kernel, by decide +kernel⟩, List.mem_of_getElem? (i := 1194) (by decide +kernel), List.mem_of_getElem? (i := 1604) (by decide +kernel), List.mem_of_getElem? (i := 1605) (by decide +kernel)⟩
theorem lw_p70 : lw_okq (⟨"ObjectionsModel", "hasRelation", "()Z"⟩, 76) := ⟨⟨by decide +kernel, by decide +kernel⟩, List.mem_of_getElem? (i := 1194) (by decide +kernel), List.mem_of_getElem? (i := 1608) (by decide +kernel), List.mem_of_getElem? (i := 1609) (by decide +kernel)⟩
theorem lw_p71 : lw_okq (⟨"ObjectionsModel", "begin", "()V"⟩, 76) := ⟨⟨by decide +kernel, by decide +kernel⟩, List.mem_of_getElem? (i := 1194) (by decide +kernel), List.mem_of_getElem? (i := 1612) (by decide +kernel), List.mem_of_getElem? (i := 1613) (by decide +kernel)⟩
theorem lw_p72 : lw_okq (⟨"ObjectionsModel", "keepAir", "()V"⟩, 76) := ⟨⟨by decide +kernel, by decide +kernel⟩, List.mem_of_getElem? (i := 1194) (by decide +kernel), List.mem_of_getElem? (i := 1616) (by decide +kernel), List.mem_of_getElem? (i := 1617) (by decide +kernel)⟩
theorem lw_p73 : lw_okq (⟨"ObjectionsModel", "isOne", "(I)Z"⟩, 76) := ⟨⟨by decide +kernel, by decide +kernel⟩, List.mem_of_getElem? (i := 1194) (by decide +kernel), List.mem_of_getElem? (i := 1628) (by decide +kernel), List.mem_of_getElem? (i := 1629) (by decide +kernel)⟩
theorem lw_p74 : lw_okq (⟨"ObjectionsModel", "load", "()V"⟩, 76) := ⟨⟨by decide +kernel, by decide +kernel⟩, List.mem_of_getElem? (i := 1194) (by decide +kernel), List.mem_of_getElem? (i := 1639) (by decide +kernel), List.mem_of_getElem? (i := 1640) (by decide +kernel)⟩
theorem lw_p75 : lw_okq (⟨"ObjectionsModel", "isWaiting", "(I)Z"⟩, 76) := ⟨⟨by decide +kernel, by decide +kernel⟩, List.mem_of_getElem? (i := 1194) (by decide +kernel), List.mem_of_getElem? (i := 1643) (by decide +kernel), List.mem_of_getElem? (i := 1644) (by decide +kernel)⟩
theorem lw_p76 : lw_okq (⟨"ObjectionsModel", "rankOf", "(I)I"⟩, 76) := ⟨⟨by decide +kernel, by decide +kernel⟩, List.mem_of_getElem? (i := 1194) (by decide +kernel), List.mem_of_getElem? (i := 1647) (by decide +kernel), List.mem_of_getElem? (i := 1648) (by decide +kernel)⟩
theorem lw_p77 : lw_okq (⟨"ObjectionsModel", "worked", "(IIII)I"⟩, 76) := ⟨⟨by decide +kernel, by decide +kernel⟩, List.mem_of_getElem? (i := 1194) (by decide +kernel), List.mem_of_getElem? (i := 1651) (by decide +kernel), List.mem_of_getElem? (i := 1652) (by decide +kernel)⟩
theorem lw_p78 : lw_okq (⟨"ObjectionsModel", "heardOnes", "()I"⟩, 76) := ⟨⟨by decide +kernel, by decide +kernel⟩, List.mem_of_getElem? (i := 1194) (by decide +kernel), List.mem_of_getElem? (i := 1655) (by decide +kernel), List.mem_of_getElem? (i := 1656) (by decide +kernel)⟩
theorem lw_p79 : lw_okq (⟨"ObjectionsModel", "turnOf", "()I"⟩, 76) := ⟨⟨by decide +kernel, by decide +kernel⟩, List.mem_of_getElem? (i := 1194) (by decide +kernel), List.mem_of_getElem? (i := 1667) (by decide +kernel), List.mem_of_getElem? (i := 1668) (by decide +kernel)⟩
def lw_privs_5 : List (MethodName × Nat) := [(⟨"ObjectionsModel", "countUnit", "()V"⟩, 76), (⟨"ObjectionsModel", "asked", "()I"⟩, 76), (⟨"ObjectionsModel", "add", "(II)V"⟩, 76), (⟨"ObjectionsModel", "sign", "()I"⟩, 76), (⟨"ObjectionsModel", "hasBracket", "()Z"⟩, 76), (⟨"ObjectionsModel", "close", "(I)V"⟩, 76), (⟨"ObjectionsModel", "hasRelation", "()Z"⟩, 76), (⟨"ObjectionsModel", "begin", "()V"⟩, 76), (⟨"ObjectionsModel", "keepAir", "()V"⟩, 76), (⟨"ObjectionsModel", "isOne", "(I)Z"⟩, 76), (⟨"ObjectionsModel", "load", "()V"⟩, 76), (⟨"ObjectionsModel", "isWaiting", "(I)Z"⟩, 76), (⟨"ObjectionsModel", "rankOf", "(I)I"⟩, 76), (⟨"ObjectionsModel", "worked", "(IIII)I"⟩, 76), (⟨"ObjectionsModel", "heardOnes", "()I"⟩, 76), (⟨"ObjectionsModel", "turnOf", "()I"⟩, 76)]
theorem lw_r5 : ∀ q ∈ lw_privs_5, lw_okq q := List.forall_mem_cons.mpr ⟨lw_p64, List.forall_mem_cons.mpr ⟨lw_p65, List.forall_mem_cons.mpr ⟨lw_p66, List.forall_mem_cons.mpr ⟨lw_p67, List.forall_mem_cons.mpr ⟨lw_p68, List.forall_mem_cons.mpr ⟨lw_p69, List.forall_mem_cons.mpr ⟨lw_p70, List.forall_mem_cons.mpr ⟨lw_p71, List.forall_mem_cons.mpr ⟨lw_p72, List.forall_mem_cons.mpr ⟨lw_p73, List.forall_mem_cons.mpr ⟨lw_p74, List.forall_mem_cons.mpr ⟨lw_p75, List.forall_mem_cons.mpr ⟨lw_p76, List.forall_mem_cons.mpr ⟨lw_p77, List.forall_mem_cons.mpr ⟨lw_p78, List.forall_mem_cons.mpr ⟨lw_p79, fun _ h => absurd h List.not_mem_nil⟩⟩⟩⟩⟩⟩⟩⟩⟩⟩⟩⟩⟩⟩⟩⟩
theorem lw_p80 : lw_okq (⟨"ObjectionsModel", "isAhead", "(IIII)Z"⟩, 76) := ⟨⟨by decide +kernel, by decide +kernel⟩, List.mem_of_getElem? (i := 1194) (by decide +kernel), List.mem_of_getElem? (i := 1671) (by decide +kernel), List.mem_of_getElem? (i := 1672) (by decide +kernel)⟩
theorem lw_p81 : lw_okq (⟨"ObjectionsModel", "act", "()V"⟩, 76) := ⟨⟨by decide +kernel, by decide +kernel⟩, List.mem_of_getElem? (i := 1194) (by decide +kernel), List.mem_of_getElem? (i := 1675) (by decide +kernel), List.mem_of_getElem? (i := 1676) (by decide +kernel)⟩
theorem lw_p82 : lw_okq (⟨"ObjectionsModel", "answerOf", "(I)I"⟩, 76) := ⟨⟨by decide +kernel, by decide +kernel⟩, List.mem_of_getElem? (i := 1194) (by decide +kernel), List.mem_of_getElem? (i := 1679) (by decide +kernel), List.mem_of_getElem? (i := 1680) (by decide +kernel)⟩
theorem lw_p83 : lw_okq (⟨"ObjectionsModel", "goHear", "(II)V"⟩, 76) := ⟨⟨by decide +kernel, by decide +kernel⟩, List.mem_of_getElem? (i := 1194) (by decide +kernel), List.mem_of_getElem? (i := 1683) (by decide +kernel), List.mem_of_getElem? (i := 1684) (by decide +kernel)⟩
theorem lw_p84 : lw_okq (⟨"ObjectionsModel", "leave", "()I"⟩, 76) := ⟨⟨by decide +kernel, by decide +kernel⟩, List.mem_of_getElem? (i := 1194) (by decide +kernel), List.mem_of_getElem? (i := 1687) (by decide +kernel), List.mem_of_getElem? (i := 1688) (by decide +kernel)⟩
theorem lw_p85 : lw_okq (⟨"ObjectionsModel", "changeNumbers", "(II)V"⟩, 76) := ⟨⟨by decide +kernel, by decide +kernel⟩, List.mem_of_getElem? (i := 1194) (by decide +kernel), List.mem_of_getElem? (i := 1703) (by decide +kernel), List.mem_of_getElem? (i := 1704) (by decide +kernel)⟩
theorem lw_p86 : lw_okq (⟨"ObjectionsModel", "exchange", "(I)V"⟩, 76) := ⟨⟨by decide +kernel, by decide +kernel⟩, List.mem_of_getElem? (i := 1194) (by decide +kernel), List.mem_of_getElem? (i := 1711) (by decide +kernel), List.mem_of_getElem? (i := 1712) (by decide +kernel)⟩
theorem lw_p87 : lw_okq (⟨"ObjectionsModel", "thatAre", "(I)I"⟩, 76) := ⟨⟨by decide +kernel, by decide +kernel⟩, List.mem_of_getElem? (i := 1194) (by decide +kernel), List.mem_of_getElem? (i := 1727) (by decide +kernel), List.mem_of_getElem? (i := 1728) (by decide +kernel)⟩
theorem lw_p88 : lw_okq (⟨"ObjectionsModel", "duskNow", "()I"⟩, 76) := ⟨⟨by decide +kernel, by decide +kernel⟩, List.mem_of_getElem? (i := 1194) (by decide +kernel), List.mem_of_getElem? (i := 1735) (by decide +kernel), List.mem_of_getElem? (i := 1736) (by decide +kernel)⟩
theorem lw_p89 : lw_okq (⟨"ObjectionsModel", "goOn", "()I"⟩, 76) := ⟨⟨by decide +kernel, by decide +kernel⟩, List.mem_of_getElem? (i := 1194) (by decide +kernel), List.mem_of_getElem? (i := 1739) (by decide +kernel), List.mem_of_getElem? (i := 1740) (by decide +kernel)⟩
theorem lw_p90 : lw_okq (⟨"ObjectionsModel", "putAhead", "(I)V"⟩, 76) := ⟨⟨by decide +kernel, by decide +kernel⟩, List.mem_of_getElem? (i := 1194) (by decide +kernel), List.mem_of_getElem? (i := 1760) (by decide +kernel), List.mem_of_getElem? (i := 1761) (by decide +kernel)⟩
theorem lw_p91 : lw_okq (⟨"ObjectionsModel", "takeAhead", "(I)V"⟩, 76) := ⟨⟨by decide +kernel, by decide +kernel⟩, List.mem_of_getElem? (i := 1194) (by decide +kernel), List.mem_of_getElem? (i := 1764) (by decide +kernel), List.mem_of_getElem? (i := 1765) (by decide +kernel)⟩
theorem lw_p92 : lw_okq (⟨"ObjectionsModel", "waitingNow", "()I"⟩, 76) := ⟨⟨by decide +kernel, by decide +kernel⟩, List.mem_of_getElem? (i := 1194) (by decide +kernel), List.mem_of_getElem? (i := 1776) (by decide +kernel), List.mem_of_getElem? (i := 1777) (by decide +kernel)⟩
theorem lw_p93 : lw_okq (⟨"ObjectionsModel", "priceOf", "(I)I"⟩, 76) := ⟨⟨by decide +kernel, by decide +kernel⟩, List.mem_of_getElem? (i := 1194) (by decide +kernel), List.mem_of_getElem? (i := 1780) (by decide +kernel), List.mem_of_getElem? (i := 1781) (by decide +kernel)⟩
theorem lw_p94 : lw_okq (⟨"ObjectionsModel", "duskWithout", "(I)I"⟩, 76) := ⟨⟨by decide +kernel, by decide +kernel⟩, List.mem_of_getElem? (i := 1194) (by decide +kernel), List.mem_of_getElem? (i := 1787) (by decide +kernel), List.mem_of_getElem? (i := 1788) (by decide +kernel)⟩
theorem lw_p95 : lw_okq (⟨"ObjectionsModel", "standing", "()I"⟩, 76) := ⟨⟨by decide +kernel, by decide +kernel⟩, List.mem_of_getElem? (i := 1194) (by decide +kernel), List.mem_of_getElem? (i := 1799) (by decide +kernel), List.mem_of_getElem? (i := 1800) (by decide +kernel)⟩
def lw_privs_6 : List (MethodName × Nat) := [(⟨"ObjectionsModel", "isAhead", "(IIII)Z"⟩, 76), (⟨"ObjectionsModel", "act", "()V"⟩, 76), (⟨"ObjectionsModel", "answerOf", "(I)I"⟩, 76), (⟨"ObjectionsModel", "goHear", "(II)V"⟩, 76), (⟨"ObjectionsModel", "leave", "()I"⟩, 76), (⟨"ObjectionsModel", "changeNumbers", "(II)V"⟩, 76), (⟨"ObjectionsModel", "exchange", "(I)V"⟩, 76), (⟨"ObjectionsModel", "thatAre", "(I)I"⟩, 76), (⟨"ObjectionsModel", "duskNow", "()I"⟩, 76), (⟨"ObjectionsModel", "goOn", "()I"⟩, 76), (⟨"ObjectionsModel", "putAhead", "(I)V"⟩, 76), (⟨"ObjectionsModel", "takeAhead", "(I)V"⟩, 76), (⟨"ObjectionsModel", "waitingNow", "()I"⟩, 76), (⟨"ObjectionsModel", "priceOf", "(I)I"⟩, 76), (⟨"ObjectionsModel", "duskWithout", "(I)I"⟩, 76), (⟨"ObjectionsModel", "standing", "()I"⟩, 76)]
theorem lw_r6 : ∀ q ∈ lw_privs_6, lw_okq q := List.forall_mem_cons.mpr ⟨lw_p80, List.forall_mem_cons.mpr ⟨lw_p81, List.forall_mem_cons.mpr ⟨lw_p82, List.forall_mem_cons.mpr ⟨lw_p83, List.forall_mem_cons.mpr ⟨lw_p84, List.forall_mem_cons.mpr ⟨lw_p85, List.forall_mem_cons.mpr ⟨lw_p86, List.forall_mem_cons.mpr ⟨lw_p87, List.forall_mem_cons.mpr ⟨lw_p88, List.forall_mem_cons.mpr ⟨lw_p89, List.forall_mem_cons.mpr ⟨lw_p90, List.forall_mem_cons.mpr ⟨lw_p91, List.forall_mem_cons.mpr ⟨lw_p92, List.forall_mem_cons.mpr ⟨lw_p93, List.forall_mem_cons.mpr ⟨lw_p94, List.forall_mem_cons.mpr ⟨lw_p95, fun _ h => absurd h List.not_mem_nil⟩⟩⟩⟩⟩⟩⟩⟩⟩⟩⟩⟩⟩⟩⟩⟩
theorem lw_p96 : lw_okq (⟨"ObjectionsModel", "weightOf", "(I)I"⟩, 76) := ⟨⟨by decide +kernel, by decide +kernel⟩, List.mem_of_getElem? (i := 1194) (by decide +kernel), List.mem_of_getElem? (i := 1803) (by decide +kernel), List.mem_of_getElem? (i := 1804) (by decide +kernel)⟩
theorem lw_p97 : lw_okq (⟨"ObjectionsModel", "isBarred", "(I)Z"⟩, 76) := ⟨⟨by decide +kernel, by decide +kernel⟩, List.mem_of_getElem? (i := 1194) (by decide +kernel), List.mem_of_getElem? (i := 1811) (by decide +kernel), List.mem_of_getElem? (i := 1812) (by decide +kernel)⟩
theorem lw_p98 : lw_okq (⟨"ObjectionsModel", "canAsk", "(II)Z"⟩, 76) := ⟨⟨by decide +kernel, by decide +kernel⟩, List.mem_of_getElem? (i := 1194) (by decide +kernel), List.mem_of_getElem? (i := 1831) (by decide +kernel), List.mem_of_getElem? (i := 1832) (by decide +kernel)⟩
theorem lw_p99 : lw_okq (⟨"ObjectionsModel", "all", "()I"⟩, 76) := ⟨⟨by decide +kernel, by decide +kernel⟩, List.mem_of_getElem? (i := 1194) (by decide +kernel), List.mem_of_getElem? (i := 1835) (by decide +kernel), List.mem_of_getElem? (i := 1836) (by decide +kernel)⟩
theorem lw_p100 : lw_okq (⟨"ObjectionsModel", "shareOf", "(II)I"⟩, 76) := ⟨⟨by decide +kernel, by decide +kernel⟩, List.mem_of_getElem? (i := 1194) (by decide +kernel), List.mem_of_getElem? (i := 1839) (by decide +kernel), List.mem_of_getElem? (i := 1840) (by decide +kernel)⟩
theorem lw_p101 : lw_okq (⟨"ObjectionsModel", "hundredths", "(I)I"⟩, 76) := ⟨⟨by decide +kernel, by decide +kernel⟩, List.mem_of_getElem? (i := 1194) (by decide +kernel), List.mem_of_getElem? (i := 1843) (by decide +kernel), List.mem_of_getElem? (i := 1844) (by decide +kernel)⟩
theorem lw_p102 : lw_okq (⟨"ObjectionsModel", "layFits", "(I)I"⟩, 76) := ⟨⟨by decide +kernel, by decide +kernel⟩, List.mem_of_getElem? (i := 1194) (by decide +kernel), List.mem_of_getElem? (i := 1897) (by decide +kernel), List.mem_of_getElem? (i := 1898) (by decide +kernel)⟩
theorem lw_p103 : lw_okq (⟨"ObjectionsModel", "fitsGrave", "(II)Z"⟩, 76) := ⟨⟨by decide +kernel, by decide +kernel⟩, List.mem_of_getElem? (i := 1194) (by decide +kernel), List.mem_of_getElem? (i := 1901) (by decide +kernel), List.mem_of_getElem? (i := 1902) (by decide +kernel)⟩
theorem lw_p104 : lw_okq (⟨"ObjectionsModel", "leftBy", "(I)I"⟩, 76) := ⟨⟨by decide +kernel, by decide +kernel⟩, List.mem_of_getElem? (i := 1194) (by decide +kernel), List.mem_of_getElem? (i := 1913) (by decide +kernel), List.mem_of_getElem? (i := 1914) (by decide +kernel)⟩
def lw_privs_7 : List (MethodName × Nat) := [(⟨"ObjectionsModel", "weightOf", "(I)I"⟩, 76), (⟨"ObjectionsModel", "isBarred", "(I)Z"⟩, 76), (⟨"ObjectionsModel", "canAsk", "(II)Z"⟩, 76), (⟨"ObjectionsModel", "all", "()I"⟩, 76), (⟨"ObjectionsModel", "shareOf", "(II)I"⟩, 76), (⟨"ObjectionsModel", "hundredths", "(I)I"⟩, 76), (⟨"ObjectionsModel", "layFits", "(I)I"⟩, 76), (⟨"ObjectionsModel", "fitsGrave", "(II)Z"⟩, 76), (⟨"ObjectionsModel", "leftBy", "(I)I"⟩, 76)]
theorem lw_r7 : ∀ q ∈ lw_privs_7, lw_okq q := List.forall_mem_cons.mpr ⟨lw_p96, List.forall_mem_cons.mpr ⟨lw_p97, List.forall_mem_cons.mpr ⟨lw_p98, List.forall_mem_cons.mpr ⟨lw_p99, List.forall_mem_cons.mpr ⟨lw_p100, List.forall_mem_cons.mpr ⟨lw_p101, List.forall_mem_cons.mpr ⟨lw_p102, List.forall_mem_cons.mpr ⟨lw_p103, List.forall_mem_cons.mpr ⟨lw_p104, fun _ h => absurd h List.not_mem_nil⟩⟩⟩⟩⟩⟩⟩⟩⟩
def lw_privs : List (MethodName × Nat) := lw_privs_1 ++ (lw_privs_2 ++ (lw_privs_3 ++ (lw_privs_4 ++ (lw_privs_5 ++ (lw_privs_6 ++ (lw_privs_7))))))
def lw_tbl : List Cond := k2_sels lw_privs ++ tables_1
theorem lw_privs_ok : ∀ q ∈ lw_privs, lw_okq q := by
  show ∀ q ∈ lw_privs_1 ++ (lw_privs_2 ++ (lw_privs_3 ++ (lw_privs_4 ++ (lw_privs_5 ++ (lw_privs_6 ++ (lw_privs_7)))))), lw_okq q
  exact List.forall_mem_append.mpr ⟨lw_r1, List.forall_mem_append.mpr ⟨lw_r2, List.forall_mem_append.mpr ⟨lw_r3, List.forall_mem_append.mpr ⟨lw_r4, List.forall_mem_append.mpr ⟨lw_r5, List.forall_mem_append.mpr ⟨lw_r6, lw_r7⟩⟩⟩⟩⟩⟩
-- ===== names of classes, fields, methods (printed by the task's own program out of the landed class; taken over by gen1.py) =====
def RX0 : String := "Objections$Advice"
def TX0 : u_T := fun k => match k with
  | 0 => ("Objections$Advice", "who", "I", false)
  | 1 => ("Objections$Advice", "other", "I", false)
  | 2 => ("Objections$Advice", "price", "I", false)
  | 3 => ("Objections$Advice", "minutes", "I", false)
  | 4 => ("Objections$Advice", "minute", "I", false)
  | 5 => ("Objections$Advice", "book", "LObjections$Book;", true)
  | 6 => ("Objections$Advice", "now", "LObjections$Room;", true)
  | _ => ("Objections$Advice", "ahead", "LObjections$Course;", true)
def tyX0 : Nat → FieldType := fun k => match k with
  | 0 => .int
  | 1 => .int
  | 2 => .int
  | 3 => .int
  | 4 => .int
  | 5 => .object "Objections$Book"
  | 6 => .object "Objections$Room"
  | _ => .object "Objections$Course"
theorem nmX0 : ∀ a, a < 8 → ∀ b, b < 8 → a ≠ b → (TX0 a).2.1 ≠ (TX0 b).2.1 := by decide +kernel
theorem tyX0_ok : ∀ k, k < 8 → parseFieldDescriptor (TX0 k).2.2.1 = some (tyX0 k) := by decide +kernel
abbrev cX0_init : ByteArray := prog_2_method_1_code
def yX0_init : MethodName := ⟨RX0, "<init>", "(LObjections$Book;LObjections$Room;LObjections$Course;)V"⟩
abbrev cX0_duskWithout : ByteArray := prog_2_method_2_code
def yX0_duskWithout : MethodName := ⟨RX0, "duskWithout", "(I)I"⟩
abbrev cX0_findFirst : ByteArray := prog_2_method_3_code
def yX0_findFirst : MethodName := ⟨RX0, "findFirst", "()Z"⟩
abbrev cX0_findPurchase : ByteArray := prog_2_method_4_code
def yX0_findPurchase : MethodName := ⟨RX0, "findPurchase", "(I)Z"⟩
abbrev cX0_isCheaper : ByteArray := prog_2_method_5_code
def yX0_isCheaper : MethodName := ⟨RX0, "isCheaper", "(I)Z"⟩
abbrev cX0_priceOf : ByteArray := prog_2_method_6_code
def yX0_priceOf : MethodName := ⟨RX0, "priceOf", "(I)I"⟩
abbrev cX0_leastGrave : ByteArray := prog_2_method_7_code
def yX0_leastGrave : MethodName := ⟨RX0, "leastGrave", "(I)I"⟩
abbrev cX0_findTarry : ByteArray := prog_2_method_8_code
def yX0_findTarry : MethodName := ⟨RX0, "findTarry", "(I)V"⟩
abbrev cX0_findSwap : ByteArray := prog_2_method_9_code
def yX0_findSwap : MethodName := ⟨RX0, "findSwap", "()Z"⟩
abbrev cX0_duskExchanged : ByteArray := prog_2_method_10_code
def yX0_duskExchanged : MethodName := ⟨RX0, "duskExchanged", "(II)I"⟩
def RX1 : String := "Objections$Archive"
def TX1 : u_T := fun k => match k with
  | 0 => ("Objections$Archive", "done", "I", false)
  | 1 => ("Objections$Archive", "undone", "I", false)
  | 2 => ("Objections$Archive", "now", "LObjections$Room;", true)
  | 3 => ("Objections$Archive", "rows", "[I", true)
  | 4 => ("Objections$Archive", "oldest", "I", false)
  | 5 => ("Objections$Archive", "boxes", "[I", true)
  | _ => ("Objections$Archive", "fullBoxes", "I", false)
def tyX1 : Nat → FieldType := fun k => match k with
  | 0 => .int
  | 1 => .int
  | 2 => .object "Objections$Room"
  | 3 => .array .int
  | 4 => .int
  | 5 => .array .int
  | _ => .int
theorem nmX1 : ∀ a, a < 7 → ∀ b, b < 7 → a ≠ b → (TX1 a).2.1 ≠ (TX1 b).2.1 := by decide +kernel
theorem tyX1_ok : ∀ k, k < 7 → parseFieldDescriptor (TX1 k).2.2.1 = some (tyX1 k) := by decide +kernel
abbrev cX1_init : ByteArray := prog_3_method_1_code
def yX1_init : MethodName := ⟨RX1, "<init>", "(LObjections$Room;)V"⟩
abbrev cX1_forgetActs : ByteArray := prog_3_method_2_code
def yX1_forgetActs : MethodName := ⟨RX1, "forgetActs", "()V"⟩
abbrev cX1_emptyBoxes : ByteArray := prog_3_method_3_code
def yX1_emptyBoxes : MethodName := ⟨RX1, "emptyBoxes", "()V"⟩
abbrev cX1_rowOf : ByteArray := prog_3_method_4_code
def yX1_rowOf : MethodName := ⟨RX1, "rowOf", "(I)I"⟩
abbrev cX1_keepAct : ByteArray := prog_3_method_5_code
def yX1_keepAct : MethodName := ⟨RX1, "keepAct", "()V"⟩
abbrev cX1_takeBack : ByteArray := prog_3_method_6_code
def yX1_takeBack : MethodName := ⟨RX1, "takeBack", "()Z"⟩
abbrev cX1_doAgain : ByteArray := prog_3_method_7_code
def yX1_doAgain : MethodName := ⟨RX1, "doAgain", "()Z"⟩
abbrev cX1_keepImage : ByteArray := prog_3_method_8_code
def yX1_keepImage : MethodName := ⟨RX1, "keepImage", "(I)V"⟩
abbrev cX1_goBack : ByteArray := prog_3_method_9_code
def yX1_goBack : MethodName := ⟨RX1, "goBack", "(I)Z"⟩
def RX2 : String := "Objections$Book"
def TX2 : u_T := fun k => match k with
  | 0 => ("Objections$Book", "count", "I", false)
  | 1 => ("Objections$Book", "grave", "[I", true)
  | 2 => ("Objections$Book", "minutes", "[I", true)
  | 3 => ("Objections$Book", "stays", "[I", true)
  | 4 => ("Objections$Book", "price", "[I", true)
  | 5 => ("Objections$Book", "settles", "[I", true)
  | 6 => ("Objections$Book", "brings", "[I", true)
  | 7 => ("Objections$Book", "joined", "[I", true)
  | 8 => ("Objections$Book", "late", "I", false)
  | 9 => ("Objections$Book", "bar", "I", false)
  | 10 => ("Objections$Book", "draw", "I", false)
  | 11 => ("Objections$Book", "units", "I", false)
  | 12 => ("Objections$Book", "order", "LObjections$Formula;", true)
  | _ => ("Objections$Book", "answer", "LObjections$Formula;", true)
def tyX2 : Nat → FieldType := fun k => match k with
  | 0 => .int
  | 1 => .array .int
  | 2 => .array .int
  | 3 => .array .int
  | 4 => .array .int
  | 5 => .array .int
  | 6 => .array .int
  | 7 => .array .int
  | 8 => .int
  | 9 => .int
  | 10 => .int
  | 11 => .int
  | 12 => .object "Objections$Formula"
  | _ => .object "Objections$Formula"
theorem nmX2 : ∀ a, a < 14 → ∀ b, b < 14 → a ≠ b → (TX2 a).2.1 ≠ (TX2 b).2.1 := by decide +kernel
theorem tyX2_ok : ∀ k, k < 14 → parseFieldDescriptor (TX2 k).2.2.1 = some (tyX2 k) := by decide +kernel
abbrev cX2_init : ByteArray := prog_4_method_1_code
def yX2_init : MethodName := ⟨RX2, "<init>", "()V"⟩
abbrev cX2_clear : ByteArray := prog_4_method_2_code
def yX2_clear : MethodName := ⟨RX2, "clear", "()V"⟩
abbrev cX2_copy : ByteArray := prog_4_method_3_code
def yX2_copy : MethodName := ⟨RX2, "copy", "(LObjections$Book;)V"⟩
abbrev cX2_crowdOf : ByteArray := prog_4_method_4_code
def yX2_crowdOf : MethodName := ⟨RX2, "crowdOf", "(I)I"⟩
def RX3 : String := "Objections$Course"
def TX3 : u_T := fun k => match k with
  | 0 => ("Objections$Course", "room", "LObjections$Room;", true)
  | 1 => ("Objections$Course", "who", "[I", true)
  | 2 => ("Objections$Course", "begun", "[I", true)
  | _ => ("Objections$Course", "count", "I", false)
def tyX3 : Nat → FieldType := fun k => match k with
  | 0 => .object "Objections$Room"
  | 1 => .array .int
  | 2 => .array .int
  | _ => .int
theorem nmX3 : ∀ a, a < 4 → ∀ b, b < 4 → a ≠ b → (TX3 a).2.1 ≠ (TX3 b).2.1 := by decide +kernel
theorem tyX3_ok : ∀ k, k < 4 → parseFieldDescriptor (TX3 k).2.2.1 = some (tyX3 k) := by decide +kernel
abbrev cX3_init : ByteArray := prog_5_method_1_code
def yX3_init : MethodName := ⟨RX3, "<init>", "(LObjections$Book;)V"⟩
abbrev cX3_goOn : ByteArray := prog_5_method_2_code
def yX3_goOn : MethodName := ⟨RX3, "goOn", "(LObjections$Room;)I"⟩
abbrev cX3_follow : ByteArray := prog_5_method_3_code
def yX3_follow : MethodName := ⟨RX3, "follow", "()I"⟩
def RX4 : String := "Objections$Formula"
def TX4 : u_T := fun k => match k with
  | 0 => ("Objections$Formula", "steps", "[I", true)
  | 1 => ("Objections$Formula", "count", "I", false)
  | _ => ("Objections$Formula", "stack", "[I", true)
def tyX4 : Nat → FieldType := fun k => match k with
  | 0 => .array .int
  | 1 => .int
  | _ => .array .int
theorem nmX4 : ∀ a, a < 3 → ∀ b, b < 3 → a ≠ b → (TX4 a).2.1 ≠ (TX4 b).2.1 := by decide +kernel
theorem tyX4_ok : ∀ k, k < 3 → parseFieldDescriptor (TX4 k).2.2.1 = some (tyX4 k) := by decide +kernel
abbrev cX4_init : ByteArray := prog_6_method_1_code
def yX4_init : MethodName := ⟨RX4, "<init>", "()V"⟩
abbrev cX4_isFact : ByteArray := prog_6_method_2_code
def yX4_isFact : MethodName := ⟨RX4, "isFact", "(I)Z"⟩
abbrev cX4_clear : ByteArray := prog_6_method_3_code
def yX4_clear : MethodName := ⟨RX4, "clear", "()V"⟩
abbrev cX4_add : ByteArray := prog_6_method_4_code
def yX4_add : MethodName := ⟨RX4, "add", "(I)V"⟩
abbrev cX4_copy : ByteArray := prog_6_method_5_code
def yX4_copy : MethodName := ⟨RX4, "copy", "(LObjections$Formula;)V"⟩
abbrev cX4_value : ByteArray := prog_6_method_6_code
def yX4_value : MethodName := ⟨RX4, "value", "([I)I"⟩
abbrev cX4_join : ByteArray := prog_6_method_7_code
def yX4_join : MethodName := ⟨RX4, "join", "(III)I"⟩
def RX5 : String := "Objections$Reader"
def TX5 : u_T := fun k => match k with
  | 0 => ("Objections$Reader", "draft", "LObjections$Book;", true)
  | 1 => ("Objections$Reader", "fault", "I", false)
  | 2 => ("Objections$Reader", "faultPlace", "I", false)
  | 3 => ("Objections$Reader", "tape", "LObjections$Tape;", true)
  | 4 => ("Objections$Reader", "names", "[J", true)
  | 5 => ("Objections$Reader", "toldOnce", "I", false)
  | 6 => ("Objections$Reader", "joinedCount", "I", false)
  | 7 => ("Objections$Reader", "amount", "I", false)
  | 8 => ("Objections$Reader", "one", "I", false)
  | 9 => ("Objections$Reader", "two", "I", false)
  | 10 => ("Objections$Reader", "target", "LObjections$Formula;", false)
  | _ => ("Objections$Reader", "unitsInOne", "I", false)
def tyX5 : Nat → FieldType := fun k => match k with
  | 0 => .object "Objections$Book"
  | 1 => .int
  | 2 => .int
  | 3 => .object "Objections$Tape"
  | 4 => .array .long
  | 5 => .int
  | 6 => .int
  | 7 => .int
  | 8 => .int
  | 9 => .int
  | 10 => .object "Objections$Formula"
  | _ => .int
theorem nmX5 : ∀ a, a < 12 → ∀ b, b < 12 → a ≠ b → (TX5 a).2.1 ≠ (TX5 b).2.1 := by decide +kernel
theorem tyX5_ok : ∀ k, k < 12 → parseFieldDescriptor (TX5 k).2.2.1 = some (tyX5 k) := by decide +kernel
abbrev cX5_init : ByteArray := prog_7_method_1_code
def yX5_init : MethodName := ⟨RX5, "<init>", "(LObjections$Tape;)V"⟩
abbrev cX5_read : ByteArray := prog_7_method_2_code
def yX5_read : MethodName := ⟨RX5, "read", "()Z"⟩
abbrev cX5_readObjector : ByteArray := prog_7_method_3_code
def yX5_readObjector : MethodName := ⟨RX5, "readObjector", "()Z"⟩
abbrev cX5_readWhom : ByteArray := prog_7_method_4_code
def yX5_readWhom : MethodName := ⟨RX5, "readWhom", "([II)Z"⟩
abbrev cX5_readJoined : ByteArray := prog_7_method_5_code
def yX5_readJoined : MethodName := ⟨RX5, "readJoined", "()Z"⟩
abbrev cX5_readFormula : ByteArray := prog_7_method_6_code
def yX5_readFormula : MethodName := ⟨RX5, "readFormula", "(LObjections$Formula;)Z"⟩
abbrev cX5_readBar : ByteArray := prog_7_method_7_code
def yX5_readBar : MethodName := ⟨RX5, "readBar", "()Z"⟩
abbrev cX5_readDraw : ByteArray := prog_7_method_8_code
def yX5_readDraw : MethodName := ⟨RX5, "readDraw", "()Z"⟩
abbrev cX5_beginOnce : ByteArray := prog_7_method_9_code
def yX5_beginOnce : MethodName := ⟨RX5, "beginOnce", "()Z"⟩
abbrev cX5_readPart : ByteArray := prog_7_method_10_code
def yX5_readPart : MethodName := ⟨RX5, "readPart", "(II)Z"⟩
abbrev cX5_readNot : ByteArray := prog_7_method_11_code
def yX5_readNot : MethodName := ⟨RX5, "readNot", "(I)Z"⟩
abbrev cX5_readUnit : ByteArray := prog_7_method_12_code
def yX5_readUnit : MethodName := ⟨RX5, "readUnit", "(I)Z"⟩
abbrev cX5_levelOf : ByteArray := prog_7_method_13_code
def yX5_levelOf : MethodName := ⟨RX5, "levelOf", "(I)I"⟩
abbrev cX5_readNewName : ByteArray := prog_7_method_14_code
def yX5_readNewName : MethodName := ⟨RX5, "readNewName", "(I)Z"⟩
abbrev cX5_readTwoNames : ByteArray := prog_7_method_15_code
def yX5_readTwoNames : MethodName := ⟨RX5, "readTwoNames", "()Z"⟩
abbrev cX5_find : ByteArray := prog_7_method_16_code
def yX5_find : MethodName := ⟨RX5, "find", "()I"⟩
abbrev cX5_readAmount : ByteArray := prog_7_method_17_code
def yX5_readAmount : MethodName := ⟨RX5, "readAmount", "(II)Z"⟩
abbrev cX5_take : ByteArray := prog_7_method_18_code
def yX5_take : MethodName := ⟨RX5, "take", "(I)Z"⟩
abbrev cX5_misplaced : ByteArray := prog_7_method_19_code
def yX5_misplaced : MethodName := ⟨RX5, "misplaced", "()Z"⟩
abbrev cX5_refuse : ByteArray := prog_7_method_20_code
def yX5_refuse : MethodName := ⟨RX5, "refuse", "(I)Z"⟩
def RX6 : String := "Objections$Room"
def TX6 : u_T := fun k => match k with
  | 0 => ("Objections$Room", "at", "[I", true)
  | 1 => ("Objections$Room", "number", "[I", true)
  | 2 => ("Objections$Room", "came", "[I", true)
  | 3 => ("Objections$Room", "minute", "I", false)
  | 4 => ("Objections$Room", "spent", "I", false)
  | 5 => ("Objections$Room", "seed", "I", false)
  | 6 => ("Objections$Room", "book", "LObjections$Book;", true)
  | _ => ("Objections$Room", "facts", "[I", true)
def tyX6 : Nat → FieldType := fun k => match k with
  | 0 => .array .int
  | 1 => .array .int
  | 2 => .array .int
  | 3 => .int
  | 4 => .int
  | 5 => .int
  | 6 => .object "Objections$Book"
  | _ => .array .int
theorem nmX6 : ∀ a, a < 8 → ∀ b, b < 8 → a ≠ b → (TX6 a).2.1 ≠ (TX6 b).2.1 := by decide +kernel
theorem tyX6_ok : ∀ k, k < 8 → parseFieldDescriptor (TX6 k).2.2.1 = some (tyX6 k) := by decide +kernel
abbrev cX6_init : ByteArray := prog_8_method_1_code
def yX6_init : MethodName := ⟨RX6, "<init>", "(LObjections$Book;)V"⟩
abbrev cX6_begin : ByteArray := prog_8_method_2_code
def yX6_begin : MethodName := ⟨RX6, "begin", "()V"⟩
abbrev cX6_copy : ByteArray := prog_8_method_3_code
def yX6_copy : MethodName := ⟨RX6, "copy", "(LObjections$Room;)V"⟩
abbrev cX6_write : ByteArray := prog_8_method_4_code
def yX6_write : MethodName := ⟨RX6, "write", "([II)V"⟩
abbrev cX6_restore : ByteArray := prog_8_method_5_code
def yX6_restore : MethodName := ⟨RX6, "restore", "([II)V"⟩
abbrev cX6_waits : ByteArray := prog_8_method_6_code
def yX6_waits : MethodName := ⟨RX6, "waits", "(I)Z"⟩
abbrev cX6_waited : ByteArray := prog_8_method_7_code
def yX6_waited : MethodName := ⟨RX6, "waited", "(I)I"⟩
abbrev cX6_sortOf : ByteArray := prog_8_method_8_code
def yX6_sortOf : MethodName := ⟨RX6, "sortOf", "(I)I"⟩
abbrev cX6_orderOf : ByteArray := prog_8_method_9_code
def yX6_orderOf : MethodName := ⟨RX6, "orderOf", "(II)I"⟩
abbrev cX6_answerOf : ByteArray := prog_8_method_10_code
def yX6_answerOf : MethodName := ⟨RX6, "answerOf", "(I)I"⟩
abbrev cX6_gather : ByteArray := prog_8_method_11_code
def yX6_gather : MethodName := ⟨RX6, "gather", "(II)V"⟩
abbrev cX6_turn : ByteArray := prog_8_method_12_code
def yX6_turn : MethodName := ⟨RX6, "turn", "()I"⟩
abbrev cX6_move : ByteArray := prog_8_method_13_code
def yX6_move : MethodName := ⟨RX6, "move", "(III)V"⟩
abbrev cX6_hearDrawn : ByteArray := prog_8_method_14_code
def yX6_hearDrawn : MethodName := ⟨RX6, "hearDrawn", "(I)V"⟩
abbrev cX6_hearAs : ByteArray := prog_8_method_15_code
def yX6_hearAs : MethodName := ⟨RX6, "hearAs", "(II)V"⟩
abbrev cX6_letPass : ByteArray := prog_8_method_16_code
def yX6_letPass : MethodName := ⟨RX6, "letPass", "(I)I"⟩
abbrev cX6_exchange : ByteArray := prog_8_method_17_code
def yX6_exchange : MethodName := ⟨RX6, "exchange", "(II)V"⟩
abbrev cX6_dismiss : ByteArray := prog_8_method_18_code
def yX6_dismiss : MethodName := ⟨RX6, "dismiss", "()I"⟩
def RX7 : String := "Objections$Scales"
def TX7 : u_T := fun k => match k with
  | 0 => ("Objections$Scales", "threatening", "I", false)
  | 1 => ("Objections$Scales", "book", "LObjections$Book;", true)
  | 2 => ("Objections$Scales", "now", "LObjections$Room;", true)
  | _ => ("Objections$Scales", "chances", "[I", true)
def tyX7 : Nat → FieldType := fun k => match k with
  | 0 => .int
  | 1 => .object "Objections$Book"
  | 2 => .object "Objections$Room"
  | _ => .array .int
theorem nmX7 : ∀ a, a < 4 → ∀ b, b < 4 → a ≠ b → (TX7 a).2.1 ≠ (TX7 b).2.1 := by decide +kernel
theorem tyX7_ok : ∀ k, k < 4 → parseFieldDescriptor (TX7 k).2.2.1 = some (tyX7 k) := by decide +kernel
abbrev cX7_init : ByteArray := prog_9_method_1_code
def yX7_init : MethodName := ⟨RX7, "<init>", "(LObjections$Book;LObjections$Room;)V"⟩
abbrev cX7_weigh : ByteArray := prog_9_method_2_code
def yX7_weigh : MethodName := ⟨RX7, "weigh", "(I)I"⟩
abbrev cX7_isBarredBy : ByteArray := prog_9_method_3_code
def yX7_isBarredBy : MethodName := ⟨RX7, "isBarredBy", "(I)Z"⟩
abbrev cX7_threatens : ByteArray := prog_9_method_4_code
def yX7_threatens : MethodName := ⟨RX7, "threatens", "(I)Z"⟩
abbrev cX7_findThreat : ByteArray := prog_9_method_5_code
def yX7_findThreat : MethodName := ⟨RX7, "findThreat", "()Z"⟩
abbrev cX7_countThreats : ByteArray := prog_9_method_6_code
def yX7_countThreats : MethodName := ⟨RX7, "countThreats", "()I"⟩
abbrev cX7_oddsOf : ByteArray := prog_9_method_7_code
def yX7_oddsOf : MethodName := ⟨RX7, "oddsOf", "(II)I"⟩
abbrev cX7_perilOf : ByteArray := prog_9_method_8_code
def yX7_perilOf : MethodName := ⟨RX7, "perilOf", "(II)I"⟩
abbrev cX7_takeChances : ByteArray := prog_9_method_9_code
def yX7_takeChances : MethodName := ⟨RX7, "takeChances", "()V"⟩
abbrev cX7_ways : ByteArray := prog_9_method_10_code
def yX7_ways : MethodName := ⟨RX7, "ways", "(II)I"⟩
abbrev cX7_whole : ByteArray := prog_9_method_11_code
def yX7_whole : MethodName := ⟨RX7, "whole", "(I)I"⟩
abbrev cX7_lowest : ByteArray := prog_9_method_12_code
def yX7_lowest : MethodName := ⟨RX7, "lowest", "(III)I"⟩
def RX8 : String := "Objections$Search"
def TX8 : u_T := fun k => match k with
  | 0 => ("Objections$Search", "best", "[I", true)
  | 1 => ("Objections$Search", "bestCount", "I", false)
  | 2 => ("Objections$Search", "bestMinute", "I", false)
  | 3 => ("Objections$Search", "book", "LObjections$Book;", true)
  | 4 => ("Objections$Search", "rooms", "[LObjections$Room;", true)
  | 5 => ("Objections$Search", "row", "[I", true)
  | _ => ("Objections$Search", "known", "[I", true)
def tyX8 : Nat → FieldType := fun k => match k with
  | 0 => .array .int
  | 1 => .int
  | 2 => .int
  | 3 => .object "Objections$Book"
  | 4 => .array (.object "Objections$Room")
  | 5 => .array .int
  | _ => .array .int
theorem nmX8 : ∀ a, a < 7 → ∀ b, b < 7 → a ≠ b → (TX8 a).2.1 ≠ (TX8 b).2.1 := by decide +kernel
theorem tyX8_ok : ∀ k, k < 7 → parseFieldDescriptor (TX8 k).2.2.1 = some (tyX8 k) := by decide +kernel
abbrev cX8_init : ByteArray := prog_10_method_1_code
def yX8_init : MethodName := ⟨RX8, "<init>", "(LObjections$Book;)V"⟩
abbrev cX8_run : ByteArray := prog_10_method_2_code
def yX8_run : MethodName := ⟨RX8, "run", "(LObjections$Room;)V"⟩
abbrev cX8_explore : ByteArray := prog_10_method_3_code
def yX8_explore : MethodName := ⟨RX8, "explore", "(LObjections$Search;I)V"⟩
abbrev cX8_keep : ByteArray := prog_10_method_4_code
def yX8_keep : MethodName := ⟨RX8, "keep", "(II)V"⟩
abbrev cX8_wasHere : ByteArray := prog_10_method_5_code
def yX8_wasHere : MethodName := ⟨RX8, "wasHere", "(LObjections$Room;)Z"⟩
def RX9 : String := "Objections$Sights"
def TX9 : u_T := fun k => match k with
  | 0 => ("Objections$Sights", "count", "I", false)
  | 1 => ("Objections$Sights", "time", "I", false)
  | 2 => ("Objections$Sights", "askPlace", "I", false)
  | 3 => ("Objections$Sights", "askLeft", "I", false)
  | 4 => ("Objections$Sights", "book", "LObjections$Book;", true)
  | 5 => ("Objections$Sights", "ahead", "LObjections$Course;", true)
  | 6 => ("Objections$Sights", "place", "[I", true)
  | 7 => ("Objections$Sights", "who", "[I", true)
  | 8 => ("Objections$Sights", "is", "[Z", true)
  | 9 => ("Objections$Sights", "toldAt", "[I", true)
  | 10 => ("Objections$Sights", "untoldAt", "[I", true)
  | 11 => ("Objections$Sights", "heard", "[I", true)
  | 12 => ("Objections$Sights", "heardIsFound", "Z", false)
  | 13 => ("Objections$Sights", "fit", "[Z", true)
  | _ => ("Objections$Sights", "left", "[I", true)
def tyX9 : Nat → FieldType := fun k => match k with
  | 0 => .int
  | 1 => .int
  | 2 => .int
  | 3 => .int
  | 4 => .object "Objections$Book"
  | 5 => .object "Objections$Course"
  | 6 => .array .int
  | 7 => .array .int
  | 8 => .array .boolean
  | 9 => .array .int
  | 10 => .array .int
  | 11 => .array .int
  | 12 => .boolean
  | 13 => .array .boolean
  | _ => .array .int
theorem nmX9 : ∀ a, a < 15 → ∀ b, b < 15 → a ≠ b → (TX9 a).2.1 ≠ (TX9 b).2.1 := by decide +kernel
theorem tyX9_ok : ∀ k, k < 15 → parseFieldDescriptor (TX9 k).2.2.1 = some (tyX9 k) := by decide +kernel
abbrev cX9_init : ByteArray := prog_11_method_1_code
def yX9_init : MethodName := ⟨RX9, "<init>", "(LObjections$Book;LObjections$Course;)V"⟩
abbrev cX9_forget : ByteArray := prog_11_method_2_code
def yX9_forget : MethodName := ⟨RX9, "forget", "()V"⟩
abbrev cX9_tell : ByteArray := prog_11_method_3_code
def yX9_tell : MethodName := ⟨RX9, "tell", "(IIZ)I"⟩
abbrev cX9_takeBack : ByteArray := prog_11_method_4_code
def yX9_takeBack : MethodName := ⟨RX9, "takeBack", "(I)Z"⟩
abbrev cX9_passTime : ByteArray := prog_11_method_5_code
def yX9_passTime : MethodName := ⟨RX9, "passTime", "(I)I"⟩
abbrev cX9_mark : ByteArray := prog_11_method_6_code
def yX9_mark : MethodName := ⟨RX9, "mark", "(I)I"⟩
abbrev cX9_findHeard : ByteArray := prog_11_method_7_code
def yX9_findHeard : MethodName := ⟨RX9, "findHeard", "(I)V"⟩
abbrev cX9_isSo : ByteArray := prog_11_method_8_code
def yX9_isSo : MethodName := ⟨RX9, "isSo", "(II)Z"⟩
abbrev cX9_leastFitting : ByteArray := prog_11_method_9_code
def yX9_leastFitting : MethodName := ⟨RX9, "leastFitting", "()I"⟩
abbrev cX9_greatestFitting : ByteArray := prog_11_method_10_code
def yX9_greatestFitting : MethodName := ⟨RX9, "greatestFitting", "()I"⟩
abbrev cX9_findPlace : ByteArray := prog_11_method_11_code
def yX9_findPlace : MethodName := ⟨RX9, "findPlace", "()V"⟩
abbrev cX9_mostLeft : ByteArray := prog_11_method_12_code
def yX9_mostLeft : MethodName := ⟨RX9, "mostLeft", "(I)I"⟩
def RX10 : String := "Objections$Tape"
def TX10 : u_T := fun k => match k with
  | 0 => ("Objections$Tape", "bytes", "[B", true)
  | 1 => ("Objections$Tape", "length", "I", false)
  | 2 => ("Objections$Tape", "kind", "I", false)
  | 3 => ("Objections$Tape", "place", "I", false)
  | 4 => ("Objections$Tape", "number", "I", false)
  | 5 => ("Objections$Tape", "name", "J", false)
  | 6 => ("Objections$Tape", "at", "I", false)
  | _ => ("Objections$Tape", "words", "[J", true)
def tyX10 : Nat → FieldType := fun k => match k with
  | 0 => .array .byte
  | 1 => .int
  | 2 => .int
  | 3 => .int
  | 4 => .int
  | 5 => .long
  | 6 => .int
  | _ => .array .long
theorem nmX10 : ∀ a, a < 8 → ∀ b, b < 8 → a ≠ b → (TX10 a).2.1 ≠ (TX10 b).2.1 := by decide +kernel
theorem tyX10_ok : ∀ k, k < 8 → parseFieldDescriptor (TX10 k).2.2.1 = some (tyX10 k) := by decide +kernel
abbrev cX10_init : ByteArray := prog_12_method_1_code
def yX10_init : MethodName := ⟨RX10, "<init>", "()V"⟩
abbrev cX10_put : ByteArray := prog_12_method_2_code
def yX10_put : MethodName := ⟨RX10, "put", "(I)V"⟩
abbrev cX10_rewind : ByteArray := prog_12_method_3_code
def yX10_rewind : MethodName := ⟨RX10, "rewind", "()V"⟩
abbrev cX10_step : ByteArray := prog_12_method_4_code
def yX10_step : MethodName := ⟨RX10, "step", "()V"⟩
abbrev cX10_readWord : ByteArray := prog_12_method_5_code
def yX10_readWord : MethodName := ⟨RX10, "readWord", "()V"⟩
abbrev cX10_readNumber : ByteArray := prog_12_method_6_code
def yX10_readNumber : MethodName := ⟨RX10, "readNumber", "()V"⟩
abbrev cX10_withLetter : ByteArray := prog_12_method_7_code
def yX10_withLetter : MethodName := ⟨RX10, "withLetter", "(JI)J"⟩
abbrev cX10_isLetter : ByteArray := prog_12_method_8_code
def yX10_isLetter : MethodName := ⟨RX10, "isLetter", "(I)Z"⟩
abbrev cX10_isDigit : ByteArray := prog_12_method_9_code
def yX10_isDigit : MethodName := ⟨RX10, "isDigit", "(I)Z"⟩
abbrev cX10_isSign : ByteArray := prog_12_method_10_code
def yX10_isSign : MethodName := ⟨RX10, "isSign", "(I)Z"⟩
def RX11 : String := "Objections"
def TX11 : u_T := fun k => match k with
  | 0 => ("Objections", "tape", "LObjections$Tape;", true)
  | 1 => ("Objections", "reader", "LObjections$Reader;", true)
  | 2 => ("Objections", "book", "LObjections$Book;", true)
  | 3 => ("Objections", "now", "LObjections$Room;", true)
  | 4 => ("Objections", "ahead", "LObjections$Course;", true)
  | 5 => ("Objections", "search", "LObjections$Search;", true)
  | 6 => ("Objections", "advice", "LObjections$Advice;", true)
  | 7 => ("Objections", "scales", "LObjections$Scales;", true)
  | 8 => ("Objections", "archive", "LObjections$Archive;", true)
  | 9 => ("Objections", "sights", "LObjections$Sights;", true)
  | 10 => ("Objections", "lying", "[I", true)
  | _ => ("Objections", "lyingCount", "I", false)
def tyX11 : Nat → FieldType := fun k => match k with
  | 0 => .object "Objections$Tape"
  | 1 => .object "Objections$Reader"
  | 2 => .object "Objections$Book"
  | 3 => .object "Objections$Room"
  | 4 => .object "Objections$Course"
  | 5 => .object "Objections$Search"
  | 6 => .object "Objections$Advice"
  | 7 => .object "Objections$Scales"
  | 8 => .object "Objections$Archive"
  | 9 => .object "Objections$Sights"
  | 10 => .array .int
  | _ => .int
theorem nmX11 : ∀ a, a < 12 → ∀ b, b < 12 → a ≠ b → (TX11 a).2.1 ≠ (TX11 b).2.1 := by decide +kernel
theorem tyX11_ok : ∀ k, k < 12 → parseFieldDescriptor (TX11 k).2.2.1 = some (tyX11 k) := by decide +kernel
abbrev cX11_init : ByteArray := prog_1_method_1_code
def yX11_init : MethodName := ⟨RX11, "<init>", "()V"⟩
abbrev cX11_feed : ByteArray := prog_1_method_2_code
def yX11_feed : MethodName := ⟨RX11, "feed", "(IIIII)I"⟩
abbrev cX11_end : ByteArray := prog_1_method_3_code
def yX11_end : MethodName := ⟨RX11, "end", "(I)I"⟩
abbrev cX11_wedding : ByteArray := prog_1_method_4_code
def yX11_wedding : MethodName := ⟨RX11, "wedding", "()I"⟩
abbrev cX11_fault : ByteArray := prog_1_method_5_code
def yX11_fault : MethodName := ⟨RX11, "fault", "(I)I"⟩
abbrev cX11_objector : ByteArray := prog_1_method_6_code
def yX11_objector : MethodName := ⟨RX11, "objector", "(II)I"⟩
abbrev cX11_ranks : ByteArray := prog_1_method_7_code
def yX11_ranks : MethodName := ⟨RX11, "ranks", "(I)I"⟩
abbrev cX11_hear : ByteArray := prog_1_method_8_code
def yX11_hear : MethodName := ⟨RX11, "hear", "()I"⟩
abbrev cX11_buy : ByteArray := prog_1_method_9_code
def yX11_buy : MethodName := ⟨RX11, "buy", "(I)I"⟩
abbrev cX11_pause : ByteArray := prog_1_method_10_code
def yX11_pause : MethodName := ⟨RX11, "pause", "(I)I"⟩
abbrev cX11_trade : ByteArray := prog_1_method_11_code
def yX11_trade : MethodName := ⟨RX11, "trade", "(II)I"⟩
abbrev cX11_undo : ByteArray := prog_1_method_12_code
def yX11_undo : MethodName := ⟨RX11, "undo", "()Z"⟩
abbrev cX11_redo : ByteArray := prog_1_method_13_code
def yX11_redo : MethodName := ⟨RX11, "redo", "()Z"⟩
abbrev cX11_next : ByteArray := prog_1_method_14_code
def yX11_next : MethodName := ⟨RX11, "next", "()I"⟩
abbrev cX11_queue : ByteArray := prog_1_method_15_code
def yX11_queue : MethodName := ⟨RX11, "queue", "()I"⟩
abbrev cX11_dusk : ByteArray := prog_1_method_16_code
def yX11_dusk : MethodName := ⟨RX11, "dusk", "()I"⟩
abbrev cX11_when : ByteArray := prog_1_method_17_code
def yX11_when : MethodName := ⟨RX11, "when", "(I)I"⟩
abbrev cX11_course : ByteArray := prog_1_method_18_code
def yX11_course : MethodName := ⟨RX11, "course", "()I"⟩
abbrev cX11_leavers : ByteArray := prog_1_method_19_code
def yX11_leavers : MethodName := ⟨RX11, "leavers", "()I"⟩
abbrev cX11_soonest : ByteArray := prog_1_method_20_code
def yX11_soonest : MethodName := ⟨RX11, "soonest", "()I"⟩
abbrev cX11_first : ByteArray := prog_1_method_21_code
def yX11_first : MethodName := ⟨RX11, "first", "(I)I"⟩
abbrev cX11_purchase : ByteArray := prog_1_method_22_code
def yX11_purchase : MethodName := ⟨RX11, "purchase", "(II)I"⟩
abbrev cX11_boast : ByteArray := prog_1_method_23_code
def yX11_boast : MethodName := ⟨RX11, "boast", "(I)I"⟩
abbrev cX11_weight : ByteArray := prog_1_method_24_code
def yX11_weight : MethodName := ⟨RX11, "weight", "()I"⟩
abbrev cX11_threat : ByteArray := prog_1_method_25_code
def yX11_threat : MethodName := ⟨RX11, "threat", "(I)I"⟩
abbrev cX11_bars : ByteArray := prog_1_method_26_code
def yX11_bars : MethodName := ⟨RX11, "bars", "()I"⟩
abbrev cX11_gain : ByteArray := prog_1_method_27_code
def yX11_gain : MethodName := ⟨RX11, "gain", "(I)I"⟩
abbrev cX11_crowd : ByteArray := prog_1_method_28_code
def yX11_crowd : MethodName := ⟨RX11, "crowd", "(I)I"⟩
abbrev cX11_odds : ByteArray := prog_1_method_29_code
def yX11_odds : MethodName := ⟨RX11, "odds", "(II)I"⟩
abbrev cX11_peril : ByteArray := prog_1_method_30_code
def yX11_peril : MethodName := ⟨RX11, "peril", "(II)I"⟩
abbrev cX11_tarry : ByteArray := prog_1_method_31_code
def yX11_tarry : MethodName := ⟨RX11, "tarry", "(I)I"⟩
abbrev cX11_swap : ByteArray := prog_1_method_32_code
def yX11_swap : MethodName := ⟨RX11, "swap", "(I)I"⟩
abbrev cX11_by : ByteArray := prog_1_method_33_code
def yX11_by : MethodName := ⟨RX11, "by", "(I)I"⟩
abbrev cX11_upset : ByteArray := prog_1_method_34_code
def yX11_upset : MethodName := ⟨RX11, "upset", "()I"⟩
abbrev cX11_lies : ByteArray := prog_1_method_35_code
def yX11_lies : MethodName := ⟨RX11, "lies", "(I)I"⟩
abbrev cX11_seen : ByteArray := prog_1_method_36_code
def yX11_seen : MethodName := ⟨RX11, "seen", "(IIZ)I"⟩
abbrev cX11_untell : ByteArray := prog_1_method_37_code
def yX11_untell : MethodName := ⟨RX11, "untell", "(I)Z"⟩
abbrev cX11_later : ByteArray := prog_1_method_38_code
def yX11_later : MethodName := ⟨RX11, "later", "(I)I"⟩
abbrev cX11_fits : ByteArray := prog_1_method_39_code
def yX11_fits : MethodName := ⟨RX11, "fits", "(I)I"⟩
abbrev cX11_sure : ByteArray := prog_1_method_40_code
def yX11_sure : MethodName := ⟨RX11, "sure", "(II)I"⟩
abbrev cX11_ask : ByteArray := prog_1_method_41_code
def yX11_ask : MethodName := ⟨RX11, "ask", "(II)I"⟩
abbrev cX11_image : ByteArray := prog_1_method_42_code
def yX11_image : MethodName := ⟨RX11, "image", "(I)I"⟩
abbrev cX11_back : ByteArray := prog_1_method_43_code
def yX11_back : MethodName := ⟨RX11, "back", "(I)I"⟩
abbrev cX11_about : ByteArray := prog_1_method_44_code
def yX11_about : MethodName := ⟨RX11, "about", "(I)I"⟩
abbrev cX11_isTold : ByteArray := prog_1_method_45_code
def yX11_isTold : MethodName := ⟨RX11, "isTold", "(I)Z"⟩
abbrev cX11_isWaiting : ByteArray := prog_1_method_46_code
def yX11_isWaiting : MethodName := ⟨RX11, "isWaiting", "(I)Z"⟩
abbrev cX11_canBeDrawn : ByteArray := prog_1_method_47_code
def yX11_canBeDrawn : MethodName := ⟨RX11, "canBeDrawn", "(II)Z"⟩
abbrev cX11_lay : ByteArray := prog_1_method_48_code
def yX11_lay : MethodName := ⟨RX11, "lay", "([II)V"⟩
def RX12 : String := "ObjectionsModel"
def TX12 : u_T := fun k => match k with
  | 0 => ("ObjectionsModel", "tape", "[I", true)
  | 1 => ("ObjectionsModel", "taped", "I", false)
  | 2 => ("ObjectionsModel", "fault", "I", false)
  | 3 => ("ObjectionsModel", "faultPlace", "I", false)
  | 4 => ("ObjectionsModel", "at", "I", false)
  | 5 => ("ObjectionsModel", "size", "I", false)
  | 6 => ("ObjectionsModel", "sort", "I", false)
  | 7 => ("ObjectionsModel", "place", "I", false)
  | 8 => ("ObjectionsModel", "number", "I", false)
  | 9 => ("ObjectionsModel", "word", "J", false)
  | 10 => ("ObjectionsModel", "nName", "[J", true)
  | 11 => ("ObjectionsModel", "nStep", "[I", true)
  | 12 => ("ObjectionsModel", "nArg", "[I", true)
  | 13 => ("ObjectionsModel", "nMany", "[I", true)
  | 14 => ("ObjectionsModel", "step", "[I", true)
  | 15 => ("ObjectionsModel", "arg", "[I", true)
  | 16 => ("ObjectionsModel", "steps", "[I", true)
  | 17 => ("ObjectionsModel", "open", "[I", true)
  | 18 => ("ObjectionsModel", "values", "[I", true)
  | 19 => ("ObjectionsModel", "nHasForm", "[Z", true)
  | 20 => ("ObjectionsModel", "form", "I", false)
  | 21 => ("ObjectionsModel", "opens", "I", false)
  | 22 => ("ObjectionsModel", "nUnits", "I", false)
  | 23 => ("ObjectionsModel", "units", "I", false)
  | 24 => ("ObjectionsModel", "ownUnits", "I", false)
  | 25 => ("ObjectionsModel", "deep", "I", false)
  | 26 => ("ObjectionsModel", "asks", "[I", true)
  | 27 => ("ObjectionsModel", "nGrave", "[I", true)
  | 28 => ("ObjectionsModel", "nMinutes", "[I", true)
  | 29 => ("ObjectionsModel", "nStays", "[I", true)
  | 30 => ("ObjectionsModel", "nPrice", "[I", true)
  | 31 => ("ObjectionsModel", "nSettles", "[I", true)
  | 32 => ("ObjectionsModel", "nBrings", "[I", true)
  | 33 => ("ObjectionsModel", "nJoined", "[I", true)
  | 34 => ("ObjectionsModel", "grave", "[I", true)
  | 35 => ("ObjectionsModel", "minutes", "[I", true)
  | 36 => ("ObjectionsModel", "stays", "[I", true)
  | 37 => ("ObjectionsModel", "price", "[I", true)
  | 38 => ("ObjectionsModel", "settles", "[I", true)
  | 39 => ("ObjectionsModel", "brings", "[I", true)
  | 40 => ("ObjectionsModel", "joined", "[I", true)
  | 41 => ("ObjectionsModel", "nObjectors", "I", false)
  | 42 => ("ObjectionsModel", "nAllSettles", "I", false)
  | 43 => ("ObjectionsModel", "nAllBrings", "I", false)
  | 44 => ("ObjectionsModel", "nAllJoined", "I", false)
  | 45 => ("ObjectionsModel", "nBar", "I", false)
  | 46 => ("ObjectionsModel", "nDraw", "I", false)
  | 47 => ("ObjectionsModel", "nLate", "I", false)
  | 48 => ("ObjectionsModel", "objectors", "I", false)
  | 49 => ("ObjectionsModel", "late", "I", false)
  | 50 => ("ObjectionsModel", "bar", "I", false)
  | 51 => ("ObjectionsModel", "nHasBar", "Z", false)
  | 52 => ("ObjectionsModel", "nHasDraw", "Z", false)
  | 53 => ("ObjectionsModel", "now", "[I", true)
  | 54 => ("ObjectionsModel", "air", "[I", true)
  | 55 => ("ObjectionsModel", "course", "[I", true)
  | 56 => ("ObjectionsModel", "begins", "[I", true)
  | 57 => ("ObjectionsModel", "heardMany", "I", false)
  | 58 => ("ObjectionsModel", "were", "[I", true)
  | 59 => ("ObjectionsModel", "acts", "I", false)
  | 60 => ("ObjectionsModel", "undone", "I", false)
  | 61 => ("ObjectionsModel", "lies", "[I", true)
  | 62 => ("ObjectionsModel", "lain", "I", false)
  | 63 => ("ObjectionsModel", "row", "[I", true)
  | 64 => ("ObjectionsModel", "ahead", "[I", true)
  | 65 => ("ObjectionsModel", "sightPlace", "[I", true)
  | 66 => ("ObjectionsModel", "sightOf", "[I", true)
  | 67 => ("ObjectionsModel", "sightTold", "[I", true)
  | 68 => ("ObjectionsModel", "sightUntold", "[I", true)
  | 69 => ("ObjectionsModel", "sightIs", "[Z", true)
  | 70 => ("ObjectionsModel", "sights", "I", false)
  | 71 => ("ObjectionsModel", "time", "I", false)
  | 72 => ("ObjectionsModel", "heardAt", "[I", true)
  | 73 => ("ObjectionsModel", "isFit", "[Z", true)
  | 74 => ("ObjectionsModel", "hasBox", "[Z", true)
  | _ => ("ObjectionsModel", "boxes", "[I", true)
def tyX12 : Nat → FieldType := fun k => match k with
  | 0 => .array .int
  | 1 => .int
  | 2 => .int
  | 3 => .int
  | 4 => .int
  | 5 => .int
  | 6 => .int
  | 7 => .int
  | 8 => .int
  | 9 => .long
  | 10 => .array .long
  | 11 => .array .int
  | 12 => .array .int
  | 13 => .array .int
  | 14 => .array .int
  | 15 => .array .int
  | 16 => .array .int
  | 17 => .array .int
  | 18 => .array .int
  | 19 => .array .boolean
  | 20 => .int
  | 21 => .int
  | 22 => .int
  | 23 => .int
  | 24 => .int
  | 25 => .int
  | 26 => .array .int
  | 27 => .array .int
  | 28 => .array .int
  | 29 => .array .int
  | 30 => .array .int
  | 31 => .array .int
  | 32 => .array .int
  | 33 => .array .int
  | 34 => .array .int
  | 35 => .array .int
  | 36 => .array .int
  | 37 => .array .int
  | 38 => .array .int
  | 39 => .array .int
  | 40 => .array .int
  | 41 => .int
  | 42 => .int
  | 43 => .int
  | 44 => .int
  | 45 => .int
  | 46 => .int
  | 47 => .int
  | 48 => .int
  | 49 => .int
  | 50 => .int
  | 51 => .boolean
  | 52 => .boolean
  | 53 => .array .int
  | 54 => .array .int
  | 55 => .array .int
  | 56 => .array .int
  | 57 => .int
  | 58 => .array .int
  | 59 => .int
  | 60 => .int
  | 61 => .array .int
  | 62 => .int
  | 63 => .array .int
  | 64 => .array .int
  | 65 => .array .int
  | 66 => .array .int
  | 67 => .array .int
  | 68 => .array .int
  | 69 => .array .boolean
  | 70 => .int
  | 71 => .int
  | 72 => .array .int
  | 73 => .array .boolean
  | 74 => .array .boolean
  | _ => .array .int
theorem nmX12 : ∀ a, a < 76 → ∀ b, b < 76 → a ≠ b → (TX12 a).2.1 ≠ (TX12 b).2.1 := by decide +kernel
theorem tyX12_ok : ∀ k, k < 76 → parseFieldDescriptor (TX12 k).2.2.1 = some (tyX12 k) := by decide +kernel
abbrev cX12_init : ByteArray := prog_14_method_1_code
def yX12_init : MethodName := ⟨RX12, "<init>", "()V"⟩
abbrev cX12_feed : ByteArray := prog_14_method_2_code
def yX12_feed : MethodName := ⟨RX12, "feed", "(IIIII)I"⟩
abbrev cX12_four : ByteArray := prog_14_method_3_code
def yX12_four : MethodName := ⟨RX12, "four", "(I)V"⟩
abbrev cX12_end : ByteArray := prog_14_method_4_code
def yX12_end : MethodName := ⟨RX12, "end", "(I)I"⟩
abbrev cX12_here : ByteArray := prog_14_method_5_code
def yX12_here : MethodName := ⟨RX12, "here", "(I)I"⟩
abbrev cX12_isLetter : ByteArray := prog_14_method_6_code
def yX12_isLetter : MethodName := ⟨RX12, "isLetter", "(I)Z"⟩
abbrev cX12_isDigit : ByteArray := prog_14_method_7_code
def yX12_isDigit : MethodName := ⟨RX12, "isDigit", "(I)Z"⟩
abbrev cX12_isSign : ByteArray := prog_14_method_8_code
def yX12_isSign : MethodName := ⟨RX12, "isSign", "(I)Z"⟩
abbrev cX12_token : ByteArray := prog_14_method_9_code
def yX12_token : MethodName := ⟨RX12, "token", "()V"⟩
abbrev cX12_wrong : ByteArray := prog_14_method_10_code
def yX12_wrong : MethodName := ⟨RX12, "wrong", "(I)V"⟩
abbrev cX12_isWord : ByteArray := prog_14_method_11_code
def yX12_isWord : MethodName := ⟨RX12, "isWord", "(J)Z"⟩
abbrev cX12_isOwn : ByteArray := prog_14_method_12_code
def yX12_isOwn : MethodName := ⟨RX12, "isOwn", "()Z"⟩
abbrev cX12_isName : ByteArray := prog_14_method_13_code
def yX12_isName : MethodName := ⟨RX12, "isName", "()Z"⟩
abbrev cX12_want : ByteArray := prog_14_method_14_code
def yX12_want : MethodName := ⟨RX12, "want", "(J)V"⟩
abbrev cX12_toldNumber : ByteArray := prog_14_method_15_code
def yX12_toldNumber : MethodName := ⟨RX12, "toldNumber", "(II)I"⟩
abbrev cX12_told : ByteArray := prog_14_method_16_code
def yX12_told : MethodName := ⟨RX12, "told", "(JII)I"⟩
abbrev cX12_option : ByteArray := prog_14_method_17_code
def yX12_option : MethodName := ⟨RX12, "option", "(JII)I"⟩
abbrev cX12_takes : ByteArray := prog_14_method_18_code
def yX12_takes : MethodName := ⟨RX12, "takes", "(J)Z"⟩
abbrev cX12_find : ByteArray := prog_14_method_19_code
def yX12_find : MethodName := ⟨RX12, "find", "()I"⟩
abbrev cX12_oldOne : ByteArray := prog_14_method_20_code
def yX12_oldOne : MethodName := ⟨RX12, "oldOne", "()I"⟩
abbrev cX12_add : ByteArray := prog_14_method_21_code
def yX12_add : MethodName := ⟨RX12, "add", "(II)V"⟩
abbrev cX12_tight : ByteArray := prog_14_method_22_code
def yX12_tight : MethodName := ⟨RX12, "tight", "(I)I"⟩
abbrev cX12_close : ByteArray := prog_14_method_23_code
def yX12_close : MethodName := ⟨RX12, "close", "(I)V"⟩
abbrev cX12_hasRelation : ByteArray := prog_14_method_24_code
def yX12_hasRelation : MethodName := ⟨RX12, "hasRelation", "()Z"⟩
abbrev cX12_mayNot : ByteArray := prog_14_method_25_code
def yX12_mayNot : MethodName := ⟨RX12, "mayNot", "()Z"⟩
abbrev cX12_asked : ByteArray := prog_14_method_26_code
def yX12_asked : MethodName := ⟨RX12, "asked", "()I"⟩
abbrev cX12_isFull : ByteArray := prog_14_method_27_code
def yX12_isFull : MethodName := ⟨RX12, "isFull", "()Z"⟩
abbrev cX12_countUnit : ByteArray := prog_14_method_28_code
def yX12_countUnit : MethodName := ⟨RX12, "countUnit", "()V"⟩
abbrev cX12_openUp : ByteArray := prog_14_method_29_code
def yX12_openUp : MethodName := ⟨RX12, "openUp", "(I)V"⟩
abbrev cX12_unit : ByteArray := prog_14_method_30_code
def yX12_unit : MethodName := ⟨RX12, "unit", "()V"⟩
abbrev cX12_sign : ByteArray := prog_14_method_31_code
def yX12_sign : MethodName := ⟨RX12, "sign", "()I"⟩
abbrev cX12_hasBracket : ByteArray := prog_14_method_32_code
def yX12_hasBracket : MethodName := ⟨RX12, "hasBracket", "()Z"⟩
abbrev cX12_formula : ByteArray := prog_14_method_33_code
def yX12_formula : MethodName := ⟨RX12, "formula", "(I)V"⟩
abbrev cX12_truth : ByteArray := prog_14_method_34_code
def yX12_truth : MethodName := ⟨RX12, "truth", "(Z)I"⟩
abbrev cX12_done : ByteArray := prog_14_method_35_code
def yX12_done : MethodName := ⟨RX12, "done", "(III)I"⟩
abbrev cX12_heardOnes : ByteArray := prog_14_method_36_code
def yX12_heardOnes : MethodName := ⟨RX12, "heardOnes", "()I"⟩
abbrev cX12_worked : ByteArray := prog_14_method_37_code
def yX12_worked : MethodName := ⟨RX12, "worked", "(IIII)I"⟩
abbrev cX12_readObjector : ByteArray := prog_14_method_38_code
def yX12_readObjector : MethodName := ⟨RX12, "readObjector", "()V"⟩
abbrev cX12_readFirst : ByteArray := prog_14_method_39_code
def yX12_readFirst : MethodName := ⟨RX12, "readFirst", "()I"⟩
abbrev cX12_readSecond : ByteArray := prog_14_method_40_code
def yX12_readSecond : MethodName := ⟨RX12, "readSecond", "(II)I"⟩
abbrev cX12_readSettles : ByteArray := prog_14_method_41_code
def yX12_readSettles : MethodName := ⟨RX12, "readSettles", "()V"⟩
abbrev cX12_readBrings : ByteArray := prog_14_method_42_code
def yX12_readBrings : MethodName := ⟨RX12, "readBrings", "()V"⟩
abbrev cX12_readJoined : ByteArray := prog_14_method_43_code
def yX12_readJoined : MethodName := ⟨RX12, "readJoined", "()V"⟩
abbrev cX12_readLine : ByteArray := prog_14_method_44_code
def yX12_readLine : MethodName := ⟨RX12, "readLine", "()V"⟩
abbrev cX12_readAll : ByteArray := prog_14_method_45_code
def yX12_readAll : MethodName := ⟨RX12, "readAll", "()V"⟩
abbrev cX12_wedding : ByteArray := prog_14_method_46_code
def yX12_wedding : MethodName := ⟨RX12, "wedding", "()I"⟩
abbrev cX12_fault : ByteArray := prog_14_method_47_code
def yX12_fault : MethodName := ⟨RX12, "fault", "(I)I"⟩
abbrev cX12_isIn : ByteArray := prog_14_method_48_code
def yX12_isIn : MethodName := ⟨RX12, "isIn", "(III)Z"⟩
abbrev cX12_isOne : ByteArray := prog_14_method_49_code
def yX12_isOne : MethodName := ⟨RX12, "isOne", "(I)Z"⟩
abbrev cX12_all : ByteArray := prog_14_method_50_code
def yX12_all : MethodName := ⟨RX12, "all", "()I"⟩
abbrev cX12_members : ByteArray := prog_14_method_51_code
def yX12_members : MethodName := ⟨RX12, "members", "(I)I"⟩
abbrev cX12_load : ByteArray := prog_14_method_52_code
def yX12_load : MethodName := ⟨RX12, "load", "()V"⟩
abbrev cX12_keepAir : ByteArray := prog_14_method_53_code
def yX12_keepAir : MethodName := ⟨RX12, "keepAir", "()V"⟩
abbrev cX12_begin : ByteArray := prog_14_method_54_code
def yX12_begin : MethodName := ⟨RX12, "begin", "()V"⟩
abbrev cX12_thatAre : ByteArray := prog_14_method_55_code
def yX12_thatAre : MethodName := ⟨RX12, "thatAre", "(I)I"⟩
abbrev cX12_rankOf : ByteArray := prog_14_method_56_code
def yX12_rankOf : MethodName := ⟨RX12, "rankOf", "(I)I"⟩
abbrev cX12_isAhead : ByteArray := prog_14_method_57_code
def yX12_isAhead : MethodName := ⟨RX12, "isAhead", "(IIII)Z"⟩
abbrev cX12_turnOf : ByteArray := prog_14_method_58_code
def yX12_turnOf : MethodName := ⟨RX12, "turnOf", "()I"⟩
abbrev cX12_leave : ByteArray := prog_14_method_59_code
def yX12_leave : MethodName := ⟨RX12, "leave", "()I"⟩
abbrev cX12_goHear : ByteArray := prog_14_method_60_code
def yX12_goHear : MethodName := ⟨RX12, "goHear", "(II)V"⟩
abbrev cX12_goOn : ByteArray := prog_14_method_61_code
def yX12_goOn : MethodName := ⟨RX12, "goOn", "()I"⟩
abbrev cX12_duskNow : ByteArray := prog_14_method_62_code
def yX12_duskNow : MethodName := ⟨RX12, "duskNow", "()I"⟩
abbrev cX12_objector : ByteArray := prog_14_method_63_code
def yX12_objector : MethodName := ⟨RX12, "objector", "(II)I"⟩
abbrev cX12_isWaiting : ByteArray := prog_14_method_64_code
def yX12_isWaiting : MethodName := ⟨RX12, "isWaiting", "(I)Z"⟩
abbrev cX12_ranks : ByteArray := prog_14_method_65_code
def yX12_ranks : MethodName := ⟨RX12, "ranks", "(I)I"⟩
abbrev cX12_act : ByteArray := prog_14_method_66_code
def yX12_act : MethodName := ⟨RX12, "act", "()V"⟩
abbrev cX12_exchange : ByteArray := prog_14_method_67_code
def yX12_exchange : MethodName := ⟨RX12, "exchange", "(I)V"⟩
abbrev cX12_answerOf : ByteArray := prog_14_method_68_code
def yX12_answerOf : MethodName := ⟨RX12, "answerOf", "(I)I"⟩
abbrev cX12_hear : ByteArray := prog_14_method_69_code
def yX12_hear : MethodName := ⟨RX12, "hear", "()I"⟩
abbrev cX12_buy : ByteArray := prog_14_method_70_code
def yX12_buy : MethodName := ⟨RX12, "buy", "(I)I"⟩
abbrev cX12_pause : ByteArray := prog_14_method_71_code
def yX12_pause : MethodName := ⟨RX12, "pause", "(I)I"⟩
abbrev cX12_changeNumbers : ByteArray := prog_14_method_72_code
def yX12_changeNumbers : MethodName := ⟨RX12, "changeNumbers", "(II)V"⟩
abbrev cX12_trade : ByteArray := prog_14_method_73_code
def yX12_trade : MethodName := ⟨RX12, "trade", "(II)I"⟩
abbrev cX12_undo : ByteArray := prog_14_method_74_code
def yX12_undo : MethodName := ⟨RX12, "undo", "()Z"⟩
abbrev cX12_redo : ByteArray := prog_14_method_75_code
def yX12_redo : MethodName := ⟨RX12, "redo", "()Z"⟩
abbrev cX12_next : ByteArray := prog_14_method_76_code
def yX12_next : MethodName := ⟨RX12, "next", "()I"⟩
abbrev cX12_queue : ByteArray := prog_14_method_77_code
def yX12_queue : MethodName := ⟨RX12, "queue", "()I"⟩
abbrev cX12_dusk : ByteArray := prog_14_method_78_code
def yX12_dusk : MethodName := ⟨RX12, "dusk", "()I"⟩
abbrev cX12_when : ByteArray := prog_14_method_79_code
def yX12_when : MethodName := ⟨RX12, "when", "(I)I"⟩
abbrev cX12_course : ByteArray := prog_14_method_80_code
def yX12_course : MethodName := ⟨RX12, "course", "()I"⟩
abbrev cX12_leavers : ByteArray := prog_14_method_81_code
def yX12_leavers : MethodName := ⟨RX12, "leavers", "()I"⟩
abbrev cX12_putAhead : ByteArray := prog_14_method_82_code
def yX12_putAhead : MethodName := ⟨RX12, "putAhead", "(I)V"⟩
abbrev cX12_takeAhead : ByteArray := prog_14_method_83_code
def yX12_takeAhead : MethodName := ⟨RX12, "takeAhead", "(I)V"⟩
abbrev cX12_soonest : ByteArray := prog_14_method_84_code
def yX12_soonest : MethodName := ⟨RX12, "soonest", "()I"⟩
abbrev cX12_first : ByteArray := prog_14_method_85_code
def yX12_first : MethodName := ⟨RX12, "first", "(I)I"⟩
abbrev cX12_duskWithout : ByteArray := prog_14_method_86_code
def yX12_duskWithout : MethodName := ⟨RX12, "duskWithout", "(I)I"⟩
abbrev cX12_priceOf : ByteArray := prog_14_method_87_code
def yX12_priceOf : MethodName := ⟨RX12, "priceOf", "(I)I"⟩
abbrev cX12_waitingNow : ByteArray := prog_14_method_88_code
def yX12_waitingNow : MethodName := ⟨RX12, "waitingNow", "()I"⟩
abbrev cX12_purchase : ByteArray := prog_14_method_89_code
def yX12_purchase : MethodName := ⟨RX12, "purchase", "(II)I"⟩
abbrev cX12_boast : ByteArray := prog_14_method_90_code
def yX12_boast : MethodName := ⟨RX12, "boast", "(I)I"⟩
abbrev cX12_weightOf : ByteArray := prog_14_method_91_code
def yX12_weightOf : MethodName := ⟨RX12, "weightOf", "(I)I"⟩
abbrev cX12_standing : ByteArray := prog_14_method_92_code
def yX12_standing : MethodName := ⟨RX12, "standing", "()I"⟩
abbrev cX12_isBarred : ByteArray := prog_14_method_93_code
def yX12_isBarred : MethodName := ⟨RX12, "isBarred", "(I)Z"⟩
abbrev cX12_weight : ByteArray := prog_14_method_94_code
def yX12_weight : MethodName := ⟨RX12, "weight", "()I"⟩
abbrev cX12_threat : ByteArray := prog_14_method_95_code
def yX12_threat : MethodName := ⟨RX12, "threat", "(I)I"⟩
abbrev cX12_bars : ByteArray := prog_14_method_96_code
def yX12_bars : MethodName := ⟨RX12, "bars", "()I"⟩
abbrev cX12_gain : ByteArray := prog_14_method_97_code
def yX12_gain : MethodName := ⟨RX12, "gain", "(I)I"⟩
abbrev cX12_crowd : ByteArray := prog_14_method_98_code
def yX12_crowd : MethodName := ⟨RX12, "crowd", "(I)I"⟩
abbrev cX12_divisor : ByteArray := prog_14_method_99_code
def yX12_divisor : MethodName := ⟨RX12, "divisor", "(II)I"⟩
abbrev cX12_power : ByteArray := prog_14_method_100_code
def yX12_power : MethodName := ⟨RX12, "power", "(II)I"⟩
abbrev cX12_hundredths : ByteArray := prog_14_method_101_code
def yX12_hundredths : MethodName := ⟨RX12, "hundredths", "(I)I"⟩
abbrev cX12_shareOf : ByteArray := prog_14_method_102_code
def yX12_shareOf : MethodName := ⟨RX12, "shareOf", "(II)I"⟩
abbrev cX12_canAsk : ByteArray := prog_14_method_103_code
def yX12_canAsk : MethodName := ⟨RX12, "canAsk", "(II)Z"⟩
abbrev cX12_partOf : ByteArray := prog_14_method_104_code
def yX12_partOf : MethodName := ⟨RX12, "partOf", "(III)I"⟩
abbrev cX12_odds : ByteArray := prog_14_method_105_code
def yX12_odds : MethodName := ⟨RX12, "odds", "(II)I"⟩
abbrev cX12_peril : ByteArray := prog_14_method_106_code
def yX12_peril : MethodName := ⟨RX12, "peril", "(II)I"⟩
abbrev cX12_tarry : ByteArray := prog_14_method_107_code
def yX12_tarry : MethodName := ⟨RX12, "tarry", "(I)I"⟩
abbrev cX12_swap : ByteArray := prog_14_method_108_code
def yX12_swap : MethodName := ⟨RX12, "swap", "(I)I"⟩
abbrev cX12_by : ByteArray := prog_14_method_109_code
def yX12_by : MethodName := ⟨RX12, "by", "(I)I"⟩
abbrev cX12_upset : ByteArray := prog_14_method_110_code
def yX12_upset : MethodName := ⟨RX12, "upset", "()I"⟩
abbrev cX12_lies : ByteArray := prog_14_method_111_code
def yX12_lies : MethodName := ⟨RX12, "lies", "(I)I"⟩
abbrev cX12_seen : ByteArray := prog_14_method_112_code
def yX12_seen : MethodName := ⟨RX12, "seen", "(IIZ)I"⟩
abbrev cX12_untell : ByteArray := prog_14_method_113_code
def yX12_untell : MethodName := ⟨RX12, "untell", "(I)Z"⟩
abbrev cX12_later : ByteArray := prog_14_method_114_code
def yX12_later : MethodName := ⟨RX12, "later", "(I)I"⟩
abbrev cX12_fitsGrave : ByteArray := prog_14_method_115_code
def yX12_fitsGrave : MethodName := ⟨RX12, "fitsGrave", "(II)Z"⟩
abbrev cX12_layFits : ByteArray := prog_14_method_116_code
def yX12_layFits : MethodName := ⟨RX12, "layFits", "(I)I"⟩
abbrev cX12_fits : ByteArray := prog_14_method_117_code
def yX12_fits : MethodName := ⟨RX12, "fits", "(I)I"⟩
abbrev cX12_sure : ByteArray := prog_14_method_118_code
def yX12_sure : MethodName := ⟨RX12, "sure", "(II)I"⟩
abbrev cX12_leftBy : ByteArray := prog_14_method_119_code
def yX12_leftBy : MethodName := ⟨RX12, "leftBy", "(I)I"⟩
abbrev cX12_ask : ByteArray := prog_14_method_120_code
def yX12_ask : MethodName := ⟨RX12, "ask", "(II)I"⟩
abbrev cX12_isBox : ByteArray := prog_14_method_121_code
def yX12_isBox : MethodName := ⟨RX12, "isBox", "(I)Z"⟩
abbrev cX12_image : ByteArray := prog_14_method_122_code
def yX12_image : MethodName := ⟨RX12, "image", "(I)I"⟩
abbrev cX12_back : ByteArray := prog_14_method_123_code
def yX12_back : MethodName := ⟨RX12, "back", "(I)I"⟩
abbrev cX12_about : ByteArray := prog_14_method_124_code
def yX12_about : MethodName := ⟨RX12, "about", "(I)I"⟩
def RJ6 : String := "java/lang/Integer"
abbrev cJ6_bitCount_0f7a4 : ByteArray := prog_15_method_49_code
def yJ6_bitCount_0f7a4 : MethodName := ⟨RJ6, "bitCount", "(I)I"⟩
def RJ9 : String := "java/lang/Math"
abbrev cJ9_max_7cf53 : ByteArray := prog_16_method_65_code
def yJ9_max_7cf53 : MethodName := ⟨RJ9, "max", "(II)I"⟩
abbrev cJ9_min_7cf53 : ByteArray := prog_16_method_69_code
def yJ9_min_7cf53 : MethodName := ⟨RJ9, "min", "(II)I"⟩
def RJ0 : String := "java/lang/String"
abbrev cJ0_length_8abf5 : ByteArray := prog_17_method_54_code
def yJ0_length_8abf5 : MethodName := ⟨RJ0, "length", "()I"⟩
abbrev cJ0_charAt_5068e : ByteArray := prog_17_method_56_code
def yJ0_charAt_5068e : MethodName := ⟨RJ0, "charAt", "(I)C"⟩
abbrev cJ0_coder_7d493 : ByteArray := prog_17_method_152_code
def yJ0_coder_7d493 : MethodName := ⟨RJ0, "coder", "()B"⟩
abbrev cJ0_isLatin1_aae02 : ByteArray := prog_17_method_154_code
def yJ0_isLatin1_aae02 : MethodName := ⟨RJ0, "isLatin1", "()Z"⟩
abbrev cJ0_checkIndex_df160 : ByteArray := prog_17_method_155_code
def yJ0_checkIndex_df160 : MethodName := ⟨RJ0, "checkIndex", "(II)V"⟩
def RJ1 : String := "java/lang/StringLatin1"
abbrev cJ1_charAt_3b067 : ByteArray := prog_18_method_2_code
def yJ1_charAt_3b067 : MethodName := ⟨RJ1, "charAt", "([BI)C"⟩
def RJ2 : String := "java/lang/StringUTF16"
abbrev cJ2_getChar_3b067 : ByteArray := prog_19_method_5_code
def yJ2_getChar_3b067 : MethodName := ⟨RJ2, "getChar", "([BI)C"⟩
abbrev cJ2_length_9d52b : ByteArray := prog_19_method_6_code
def yJ2_length_9d52b : MethodName := ⟨RJ2, "length", "([B)I"⟩
abbrev cJ2_charAt_3b067 : ByteArray := prog_19_method_83_code
def yJ2_charAt_3b067 : MethodName := ⟨RJ2, "charAt", "([BI)C"⟩
abbrev cJ2_checkIndex_2214a : ByteArray := prog_19_method_91_code
def yJ2_checkIndex_2214a : MethodName := ⟨RJ2, "checkIndex", "(I[B)V"⟩
def RJ10 : String := "java/lang/System"
def RJ3 : String := "jdk/internal/util/Preconditions"
abbrev cJ3_checkIndex_8e157 : ByteArray := prog_21_method_11_code
def yJ3_checkIndex_8e157 : MethodName := ⟨RJ3, "checkIndex", "(IILjava/util/function/BiFunction;)I"⟩
def RL : String := "ObjectionsLaw"
abbrev cL_law : ByteArray := code
def yL_law : MethodName := ⟨RL, "law", "([I)Z"⟩
