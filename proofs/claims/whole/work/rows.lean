section
-- ===== PART A: goes FIRST, ahead of the names: the tables' words, and 'selects' of the private methods out of them =====
/-- a private method of a class that the tables say can be made, by its rows of tables_1 -/
def lw_okq (q : MethodName × Nat) : Prop := (q.1.cls ≠ "java/lang/invoke/MethodHandle" ∧ q.1.cls ≠ "java/lang/invoke/VarHandle") ∧ Cond.instantiable q.1.cls q.2 ∈ tables_1 ∧ Cond.privateMethod q.1 ∈ tables_1 ∧ Cond.instanceMethod q.1 ∈ tables_1
theorem lw_p0 : lw_okq (⟨"TriSplits$Reader", "readStatement", "()V"⟩, 8) := ⟨⟨by decide +kernel, by decide +kernel⟩, List.mem_of_getElem? (i := 31) (by decide +kernel), List.mem_of_getElem? (i := 266) (by decide +kernel), List.mem_of_getElem? (i := 267) (by decide +kernel)⟩
theorem lw_p1 : lw_okq (⟨"TriSplits$Reader", "readNumber", "(II)I"⟩, 8) := ⟨⟨by decide +kernel, by decide +kernel⟩, List.mem_of_getElem? (i := 31) (by decide +kernel), List.mem_of_getElem? (i := 270) (by decide +kernel), List.mem_of_getElem? (i := 271) (by decide +kernel)⟩
theorem lw_p2 : lw_okq (⟨"TriSplits$Reader", "peek", "()I"⟩, 8) := ⟨⟨by decide +kernel, by decide +kernel⟩, List.mem_of_getElem? (i := 31) (by decide +kernel), List.mem_of_getElem? (i := 274) (by decide +kernel), List.mem_of_getElem? (i := 275) (by decide +kernel)⟩
theorem lw_p3 : lw_okq (⟨"TriSplits$Reader", "fail", "(II)J"⟩, 8) := ⟨⟨by decide +kernel, by decide +kernel⟩, List.mem_of_getElem? (i := 31) (by decide +kernel), List.mem_of_getElem? (i := 286) (by decide +kernel), List.mem_of_getElem? (i := 287) (by decide +kernel)⟩
theorem lw_p4 : lw_okq (⟨"TriSplits$Reader", "readSign", "(C)Z"⟩, 8) := ⟨⟨by decide +kernel, by decide +kernel⟩, List.mem_of_getElem? (i := 31) (by decide +kernel), List.mem_of_getElem? (i := 293) (by decide +kernel), List.mem_of_getElem? (i := 294) (by decide +kernel)⟩
theorem lw_p5 : lw_okq (⟨"TriSplits$Reader", "readSum", "()J"⟩, 8) := ⟨⟨by decide +kernel, by decide +kernel⟩, List.mem_of_getElem? (i := 31) (by decide +kernel), List.mem_of_getElem? (i := 297) (by decide +kernel), List.mem_of_getElem? (i := 298) (by decide +kernel)⟩
theorem lw_p6 : lw_okq (⟨"TriSplits$Reader", "readProduct", "()J"⟩, 8) := ⟨⟨by decide +kernel, by decide +kernel⟩, List.mem_of_getElem? (i := 31) (by decide +kernel), List.mem_of_getElem? (i := 301) (by decide +kernel), List.mem_of_getElem? (i := 302) (by decide +kernel)⟩
theorem lw_p7 : lw_okq (⟨"TriSplits$Reader", "readPower", "()J"⟩, 8) := ⟨⟨by decide +kernel, by decide +kernel⟩, List.mem_of_getElem? (i := 31) (by decide +kernel), List.mem_of_getElem? (i := 305) (by decide +kernel), List.mem_of_getElem? (i := 306) (by decide +kernel)⟩
theorem lw_p8 : lw_okq (⟨"TriSplits$Reader", "readOne", "()J"⟩, 8) := ⟨⟨by decide +kernel, by decide +kernel⟩, List.mem_of_getElem? (i := 31) (by decide +kernel), List.mem_of_getElem? (i := 309) (by decide +kernel), List.mem_of_getElem? (i := 310) (by decide +kernel)⟩
theorem lw_p9 : lw_okq (⟨"TriSplits$Reader", "readNested", "()J"⟩, 8) := ⟨⟨by decide +kernel, by decide +kernel⟩, List.mem_of_getElem? (i := 31) (by decide +kernel), List.mem_of_getElem? (i := 313) (by decide +kernel), List.mem_of_getElem? (i := 314) (by decide +kernel)⟩
theorem lw_p10 : lw_okq (⟨"TriSplits$Reader", "readLetters", "()V"⟩, 8) := ⟨⟨by decide +kernel, by decide +kernel⟩, List.mem_of_getElem? (i := 31) (by decide +kernel), List.mem_of_getElem? (i := 317) (by decide +kernel), List.mem_of_getElem? (i := 318) (by decide +kernel)⟩
theorem lw_p11 : lw_okq (⟨"TriSplits$Reader", "isWord", "(ILjava/lang/String;)Z"⟩, 8) := ⟨⟨by decide +kernel, by decide +kernel⟩, List.mem_of_getElem? (i := 31) (by decide +kernel), List.mem_of_getElem? (i := 325) (by decide +kernel), List.mem_of_getElem? (i := 326) (by decide +kernel)⟩
theorem lw_p12 : lw_okq (⟨"TriSplits$Reader", "readTri", "()J"⟩, 8) := ⟨⟨by decide +kernel, by decide +kernel⟩, List.mem_of_getElem? (i := 31) (by decide +kernel), List.mem_of_getElem? (i := 380) (by decide +kernel), List.mem_of_getElem? (i := 381) (by decide +kernel)⟩
theorem lw_p13 : lw_okq (⟨"TriSplits$Reader", "isPowerAhead", "()Z"⟩, 8) := ⟨⟨by decide +kernel, by decide +kernel⟩, List.mem_of_getElem? (i := 31) (by decide +kernel), List.mem_of_getElem? (i := 410) (by decide +kernel), List.mem_of_getElem? (i := 411) (by decide +kernel)⟩
theorem lw_p14 : lw_okq (⟨"TriSplits", "place", "(IJ)I"⟩, 9) := ⟨⟨by decide +kernel, by decide +kernel⟩, List.mem_of_getElem? (i := 23) (by decide +kernel), List.mem_of_getElem? (i := 456) (by decide +kernel), List.mem_of_getElem? (i := 457) (by decide +kernel)⟩
theorem lw_p15 : lw_okq (⟨"TriSplits", "isModulus", "(I)Z"⟩, 9) := ⟨⟨by decide +kernel, by decide +kernel⟩, List.mem_of_getElem? (i := 23) (by decide +kernel), List.mem_of_getElem? (i := 501) (by decide +kernel), List.mem_of_getElem? (i := 502) (by decide +kernel)⟩
def lw_privs_1 : List (MethodName × Nat) := [(⟨"TriSplits$Reader", "readStatement", "()V"⟩, 8), (⟨"TriSplits$Reader", "readNumber", "(II)I"⟩, 8), (⟨"TriSplits$Reader", "peek", "()I"⟩, 8), (⟨"TriSplits$Reader", "fail", "(II)J"⟩, 8), (⟨"TriSplits$Reader", "readSign", "(C)Z"⟩, 8), (⟨"TriSplits$Reader", "readSum", "()J"⟩, 8), (⟨"TriSplits$Reader", "readProduct", "()J"⟩, 8), (⟨"TriSplits$Reader", "readPower", "()J"⟩, 8), (⟨"TriSplits$Reader", "readOne", "()J"⟩, 8), (⟨"TriSplits$Reader", "readNested", "()J"⟩, 8), (⟨"TriSplits$Reader", "readLetters", "()V"⟩, 8), (⟨"TriSplits$Reader", "isWord", "(ILjava/lang/String;)Z"⟩, 8), (⟨"TriSplits$Reader", "readTri", "()J"⟩, 8), (⟨"TriSplits$Reader", "isPowerAhead", "()Z"⟩, 8), (⟨"TriSplits", "place", "(IJ)I"⟩, 9), (⟨"TriSplits", "isModulus", "(I)Z"⟩, 9)]
theorem lw_r1 : ∀ q ∈ lw_privs_1, lw_okq q := List.forall_mem_cons.mpr ⟨lw_p0, List.forall_mem_cons.mpr ⟨lw_p1, List.forall_mem_cons.mpr ⟨lw_p2, List.forall_mem_cons.mpr ⟨lw_p3, List.forall_mem_cons.mpr ⟨lw_p4, List.forall_mem_cons.mpr ⟨lw_p5, List.forall_mem_cons.mpr ⟨lw_p6, List.forall_mem_cons.mpr ⟨lw_p7, List.forall_mem_cons.mpr ⟨lw_p8, List.forall_mem_cons.mpr ⟨lw_p9, List.forall_mem_cons.mpr ⟨lw_p10, List.forall_mem_cons.mpr ⟨lw_p11, List.forall_mem_cons.mpr ⟨lw_p12, List.forall_mem_cons.mpr ⟨lw_p13, List.forall_mem_cons.mpr ⟨lw_p14, List.forall_mem_cons.mpr ⟨lw_p15, fun _ h => absurd h List.not_mem_nil⟩⟩⟩⟩⟩⟩⟩⟩⟩⟩⟩⟩⟩⟩⟩⟩
theorem lw_p16 : lw_okq (⟨"TriSplits$Orders", "findPrimes", "(J)V"⟩, 2) := ⟨⟨by decide +kernel, by decide +kernel⟩, List.mem_of_getElem? (i := 125) (by decide +kernel), List.mem_of_getElem? (i := 664) (by decide +kernel), List.mem_of_getElem? (i := 665) (by decide +kernel)⟩
theorem lw_p17 : lw_okq (⟨"TriSplits$Orders", "notePrime", "(J)V"⟩, 2) := ⟨⟨by decide +kernel, by decide +kernel⟩, List.mem_of_getElem? (i := 125) (by decide +kernel), List.mem_of_getElem? (i := 669) (by decide +kernel), List.mem_of_getElem? (i := 670) (by decide +kernel)⟩
theorem lw_p18 : lw_okq (⟨"TriSplits$Factors", "partInto", "(JI)I"⟩, 5) := ⟨⟨by decide +kernel, by decide +kernel⟩, List.mem_of_getElem? (i := 103) (by decide +kernel), List.mem_of_getElem? (i := 682) (by decide +kernel), List.mem_of_getElem? (i := 683) (by decide +kernel)⟩
theorem lw_p19 : lw_okq (⟨"TriSplits$Factors", "cutParts", "(IJ)I"⟩, 5) := ⟨⟨by decide +kernel, by decide +kernel⟩, List.mem_of_getElem? (i := 103) (by decide +kernel), List.mem_of_getElem? (i := 687) (by decide +kernel), List.mem_of_getElem? (i := 688) (by decide +kernel)⟩
theorem lw_p20 : lw_okq (⟨"TriSplits$Factors", "sortParts", "(I)V"⟩, 5) := ⟨⟨by decide +kernel, by decide +kernel⟩, List.mem_of_getElem? (i := 103) (by decide +kernel), List.mem_of_getElem? (i := 692) (by decide +kernel), List.mem_of_getElem? (i := 693) (by decide +kernel)⟩
theorem lw_p21 : lw_okq (⟨"TriSplits$Factors", "takeOut", "(JJ)J"⟩, 5) := ⟨⟨by decide +kernel, by decide +kernel⟩, List.mem_of_getElem? (i := 103) (by decide +kernel), List.mem_of_getElem? (i := 696) (by decide +kernel), List.mem_of_getElem? (i := 697) (by decide +kernel)⟩
theorem lw_p22 : lw_okq (⟨"TriSplits$Factors", "note", "(JI)V"⟩, 5) := ⟨⟨by decide +kernel, by decide +kernel⟩, List.mem_of_getElem? (i := 103) (by decide +kernel), List.mem_of_getElem? (i := 701) (by decide +kernel), List.mem_of_getElem? (i := 702) (by decide +kernel)⟩
theorem lw_p23 : lw_okq (⟨"TriSplits", "howSplit", "(I)I"⟩, 9) := ⟨⟨by decide +kernel, by decide +kernel⟩, List.mem_of_getElem? (i := 23) (by decide +kernel), List.mem_of_getElem? (i := 705) (by decide +kernel), List.mem_of_getElem? (i := 706) (by decide +kernel)⟩
theorem lw_p24 : lw_okq (⟨"TriSplits", "orderOf", "(J)J"⟩, 9) := ⟨⟨by decide +kernel, by decide +kernel⟩, List.mem_of_getElem? (i := 23) (by decide +kernel), List.mem_of_getElem? (i := 750) (by decide +kernel), List.mem_of_getElem? (i := 751) (by decide +kernel)⟩
theorem lw_p25 : lw_okq (⟨"TriSplits$Rows", "append", "(J)V"⟩, 4) := ⟨⟨by decide +kernel, by decide +kernel⟩, List.mem_of_getElem? (i := 163) (by decide +kernel), List.mem_of_getElem? (i := 775) (by decide +kernel), List.mem_of_getElem? (i := 776) (by decide +kernel)⟩
theorem lw_p26 : lw_okq (⟨"TriSplits$Rows", "countAlike", "(JI)I"⟩, 4) := ⟨⟨by decide +kernel, by decide +kernel⟩, List.mem_of_getElem? (i := 163) (by decide +kernel), List.mem_of_getElem? (i := 787) (by decide +kernel), List.mem_of_getElem? (i := 788) (by decide +kernel)⟩
theorem lw_p27 : lw_okq (⟨"TriSplits$Letters", "write", "(I)V"⟩, 2) := ⟨⟨by decide +kernel, by decide +kernel⟩, List.mem_of_getElem? (i := 182) (by decide +kernel), List.mem_of_getElem? (i := 821) (by decide +kernel), List.mem_of_getElem? (i := 822) (by decide +kernel)⟩
theorem lw_p28 : lw_okq (⟨"TriSplits$Letters", "writePowerOfX", "(I)V"⟩, 2) := ⟨⟨by decide +kernel, by decide +kernel⟩, List.mem_of_getElem? (i := 182) (by decide +kernel), List.mem_of_getElem? (i := 825) (by decide +kernel), List.mem_of_getElem? (i := 826) (by decide +kernel)⟩
theorem lw_p29 : lw_okq (⟨"TriSplits$Letters", "writeNumber", "(I)V"⟩, 2) := ⟨⟨by decide +kernel, by decide +kernel⟩, List.mem_of_getElem? (i := 182) (by decide +kernel), List.mem_of_getElem? (i := 829) (by decide +kernel), List.mem_of_getElem? (i := 830) (by decide +kernel)⟩
theorem lw_p30 : lw_okq (⟨"TriSplits", "letterAt", "(I)I"⟩, 9) := ⟨⟨by decide +kernel, by decide +kernel⟩, List.mem_of_getElem? (i := 23) (by decide +kernel), List.mem_of_getElem? (i := 833) (by decide +kernel), List.mem_of_getElem? (i := 834) (by decide +kernel)⟩
theorem lw_p31 : lw_okq (⟨"TriSplits$Families", "leastOfWeight", "(IIZ)J"⟩, 1) := ⟨⟨by decide +kernel, by decide +kernel⟩, List.mem_of_getElem? (i := 138) (by decide +kernel), List.mem_of_getElem? (i := 943) (by decide +kernel), List.mem_of_getElem? (i := 944) (by decide +kernel)⟩
def lw_privs_2 : List (MethodName × Nat) := [(⟨"TriSplits$Orders", "findPrimes", "(J)V"⟩, 2), (⟨"TriSplits$Orders", "notePrime", "(J)V"⟩, 2), (⟨"TriSplits$Factors", "partInto", "(JI)I"⟩, 5), (⟨"TriSplits$Factors", "cutParts", "(IJ)I"⟩, 5), (⟨"TriSplits$Factors", "sortParts", "(I)V"⟩, 5), (⟨"TriSplits$Factors", "takeOut", "(JJ)J"⟩, 5), (⟨"TriSplits$Factors", "note", "(JI)V"⟩, 5), (⟨"TriSplits", "howSplit", "(I)I"⟩, 9), (⟨"TriSplits", "orderOf", "(J)J"⟩, 9), (⟨"TriSplits$Rows", "append", "(J)V"⟩, 4), (⟨"TriSplits$Rows", "countAlike", "(JI)I"⟩, 4), (⟨"TriSplits$Letters", "write", "(I)V"⟩, 2), (⟨"TriSplits$Letters", "writePowerOfX", "(I)V"⟩, 2), (⟨"TriSplits$Letters", "writeNumber", "(I)V"⟩, 2), (⟨"TriSplits", "letterAt", "(I)I"⟩, 9), (⟨"TriSplits$Families", "leastOfWeight", "(IIZ)J"⟩, 1)]
theorem lw_r2 : ∀ q ∈ lw_privs_2, lw_okq q := List.forall_mem_cons.mpr ⟨lw_p16, List.forall_mem_cons.mpr ⟨lw_p17, List.forall_mem_cons.mpr ⟨lw_p18, List.forall_mem_cons.mpr ⟨lw_p19, List.forall_mem_cons.mpr ⟨lw_p20, List.forall_mem_cons.mpr ⟨lw_p21, List.forall_mem_cons.mpr ⟨lw_p22, List.forall_mem_cons.mpr ⟨lw_p23, List.forall_mem_cons.mpr ⟨lw_p24, List.forall_mem_cons.mpr ⟨lw_p25, List.forall_mem_cons.mpr ⟨lw_p26, List.forall_mem_cons.mpr ⟨lw_p27, List.forall_mem_cons.mpr ⟨lw_p28, List.forall_mem_cons.mpr ⟨lw_p29, List.forall_mem_cons.mpr ⟨lw_p30, List.forall_mem_cons.mpr ⟨lw_p31, fun _ h => absurd h List.not_mem_nil⟩⟩⟩⟩⟩⟩⟩⟩⟩⟩⟩⟩⟩⟩⟩⟩
theorem lw_p32 : lw_okq (⟨"TriSplits", "isElement", "(II)Z"⟩, 9) := ⟨⟨by decide +kernel, by decide +kernel⟩, List.mem_of_getElem? (i := 23) (by decide +kernel), List.mem_of_getElem? (i := 995) (by decide +kernel), List.mem_of_getElem? (i := 996) (by decide +kernel)⟩
theorem lw_p33 : lw_okq (⟨"TriSplits$Field", "findPower", "(J)I"⟩, 2) := ⟨⟨by decide +kernel, by decide +kernel⟩, List.mem_of_getElem? (i := 150) (by decide +kernel), List.mem_of_getElem? (i := 1032) (by decide +kernel), List.mem_of_getElem? (i := 1033) (by decide +kernel)⟩
theorem lw_p34 : lw_okq (⟨"TriSplitsModel", "laysFactors", "(J)V"⟩, 35) := ⟨⟨by decide +kernel, by decide +kernel⟩, List.mem_of_getElem? (i := 1071) (by decide +kernel), List.mem_of_getElem? (i := 1202) (by decide +kernel), List.mem_of_getElem? (i := 1203) (by decide +kernel)⟩
theorem lw_p35 : lw_okq (⟨"TriSplitsModel", "oftenest", "()I"⟩, 35) := ⟨⟨by decide +kernel, by decide +kernel⟩, List.mem_of_getElem? (i := 1071) (by decide +kernel), List.mem_of_getElem? (i := 1222) (by decide +kernel), List.mem_of_getElem? (i := 1223) (by decide +kernel)⟩
theorem lw_p36 : lw_okq (⟨"TriSplitsModel", "isPrimitive", "(J)Z"⟩, 35) := ⟨⟨by decide +kernel, by decide +kernel⟩, List.mem_of_getElem? (i := 1071) (by decide +kernel), List.mem_of_getElem? (i := 1226) (by decide +kernel), List.mem_of_getElem? (i := 1227) (by decide +kernel)⟩
theorem lw_p37 : lw_okq (⟨"TriSplitsModel", "isIrreducible", "(J)Z"⟩, 35) := ⟨⟨by decide +kernel, by decide +kernel⟩, List.mem_of_getElem? (i := 1071) (by decide +kernel), List.mem_of_getElem? (i := 1233) (by decide +kernel), List.mem_of_getElem? (i := 1234) (by decide +kernel)⟩
theorem lw_p38 : lw_okq (⟨"TriSplitsModel", "orderOf", "(J)J"⟩, 35) := ⟨⟨by decide +kernel, by decide +kernel⟩, List.mem_of_getElem? (i := 1071) (by decide +kernel), List.mem_of_getElem? (i := 1237) (by decide +kernel), List.mem_of_getElem? (i := 1238) (by decide +kernel)⟩
theorem lw_p39 : lw_okq (⟨"TriSplitsModel", "laysPrimes", "(J)V"⟩, 35) := ⟨⟨by decide +kernel, by decide +kernel⟩, List.mem_of_getElem? (i := 1071) (by decide +kernel), List.mem_of_getElem? (i := 1247) (by decide +kernel), List.mem_of_getElem? (i := 1248) (by decide +kernel)⟩
theorem lw_p40 : lw_okq (⟨"TriSplitsModel", "unlikeFactors", "()I"⟩, 35) := ⟨⟨by decide +kernel, by decide +kernel⟩, List.mem_of_getElem? (i := 1071) (by decide +kernel), List.mem_of_getElem? (i := 1260) (by decide +kernel), List.mem_of_getElem? (i := 1261) (by decide +kernel)⟩
theorem lw_p41 : lw_okq (⟨"TriSplitsModel", "radical", "(J)J"⟩, 35) := ⟨⟨by decide +kernel, by decide +kernel⟩, List.mem_of_getElem? (i := 1071) (by decide +kernel), List.mem_of_getElem? (i := 1282) (by decide +kernel), List.mem_of_getElem? (i := 1283) (by decide +kernel)⟩
theorem lw_p42 : lw_okq (⟨"TriSplitsModel", "isGood", "(JZ)Z"⟩, 35) := ⟨⟨by decide +kernel, by decide +kernel⟩, List.mem_of_getElem? (i := 1071) (by decide +kernel), List.mem_of_getElem? (i := 1310) (by decide +kernel), List.mem_of_getElem? (i := 1311) (by decide +kernel)⟩
theorem lw_p43 : lw_okq (⟨"TriSplitsModel", "coprimes", "(J)J"⟩, 35) := ⟨⟨by decide +kernel, by decide +kernel⟩, List.mem_of_getElem? (i := 1071) (by decide +kernel), List.mem_of_getElem? (i := 1323) (by decide +kernel), List.mem_of_getElem? (i := 1324) (by decide +kernel)⟩
theorem lw_p44 : lw_okq (⟨"TriSplitsModel", "moebius", "(I)I"⟩, 35) := ⟨⟨by decide +kernel, by decide +kernel⟩, List.mem_of_getElem? (i := 1071) (by decide +kernel), List.mem_of_getElem? (i := 1327) (by decide +kernel), List.mem_of_getElem? (i := 1328) (by decide +kernel)⟩
theorem lw_p45 : lw_okq (⟨"TriSplitsModel", "isIn", "(II)Z"⟩, 35) := ⟨⟨by decide +kernel, by decide +kernel⟩, List.mem_of_getElem? (i := 1071) (by decide +kernel), List.mem_of_getElem? (i := 1345) (by decide +kernel), List.mem_of_getElem? (i := 1346) (by decide +kernel)⟩
theorem lw_p46 : lw_okq (⟨"TriSplitsModel", "isRule", "(JII)Z"⟩, 35) := ⟨⟨by decide +kernel, by decide +kernel⟩, List.mem_of_getElem? (i := 1071) (by decide +kernel), List.mem_of_getElem? (i := 1374) (by decide +kernel), List.mem_of_getElem? (i := 1375) (by decide +kernel)⟩
theorem lw_p47 : lw_okq (⟨"TriSplitsModel", "isRegister", "()Z"⟩, 35) := ⟨⟨by decide +kernel, by decide +kernel⟩, List.mem_of_getElem? (i := 1071) (by decide +kernel), List.mem_of_getElem? (i := 1383) (by decide +kernel), List.mem_of_getElem? (i := 1384) (by decide +kernel)⟩
def lw_privs_3 : List (MethodName × Nat) := [(⟨"TriSplits", "isElement", "(II)Z"⟩, 9), (⟨"TriSplits$Field", "findPower", "(J)I"⟩, 2), (⟨"TriSplitsModel", "laysFactors", "(J)V"⟩, 35), (⟨"TriSplitsModel", "oftenest", "()I"⟩, 35), (⟨"TriSplitsModel", "isPrimitive", "(J)Z"⟩, 35), (⟨"TriSplitsModel", "isIrreducible", "(J)Z"⟩, 35), (⟨"TriSplitsModel", "orderOf", "(J)J"⟩, 35), (⟨"TriSplitsModel", "laysPrimes", "(J)V"⟩, 35), (⟨"TriSplitsModel", "unlikeFactors", "()I"⟩, 35), (⟨"TriSplitsModel", "radical", "(J)J"⟩, 35), (⟨"TriSplitsModel", "isGood", "(JZ)Z"⟩, 35), (⟨"TriSplitsModel", "coprimes", "(J)J"⟩, 35), (⟨"TriSplitsModel", "moebius", "(I)I"⟩, 35), (⟨"TriSplitsModel", "isIn", "(II)Z"⟩, 35), (⟨"TriSplitsModel", "isRule", "(JII)Z"⟩, 35), (⟨"TriSplitsModel", "isRegister", "()Z"⟩, 35)]
theorem lw_r3 : ∀ q ∈ lw_privs_3, lw_okq q := List.forall_mem_cons.mpr ⟨lw_p32, List.forall_mem_cons.mpr ⟨lw_p33, List.forall_mem_cons.mpr ⟨lw_p34, List.forall_mem_cons.mpr ⟨lw_p35, List.forall_mem_cons.mpr ⟨lw_p36, List.forall_mem_cons.mpr ⟨lw_p37, List.forall_mem_cons.mpr ⟨lw_p38, List.forall_mem_cons.mpr ⟨lw_p39, List.forall_mem_cons.mpr ⟨lw_p40, List.forall_mem_cons.mpr ⟨lw_p41, List.forall_mem_cons.mpr ⟨lw_p42, List.forall_mem_cons.mpr ⟨lw_p43, List.forall_mem_cons.mpr ⟨lw_p44, List.forall_mem_cons.mpr ⟨lw_p45, List.forall_mem_cons.mpr ⟨lw_p46, List.forall_mem_cons.mpr ⟨lw_p47, fun _ h => absurd h List.not_mem_nil⟩⟩⟩⟩⟩⟩⟩⟩⟩⟩⟩⟩⟩⟩⟩⟩
theorem lw_p48 : lw_okq (⟨"TriSplitsModel", "period", "()J"⟩, 35) := ⟨⟨by decide +kernel, by decide +kernel⟩, List.mem_of_getElem? (i := 1071) (by decide +kernel), List.mem_of_getElem? (i := 1387) (by decide +kernel), List.mem_of_getElem? (i := 1388) (by decide +kernel)⟩
theorem lw_p49 : lw_okq (⟨"TriSplitsModel", "steppedOn", "(JJ)J"⟩, 35) := ⟨⟨by decide +kernel, by decide +kernel⟩, List.mem_of_getElem? (i := 1071) (by decide +kernel), List.mem_of_getElem? (i := 1391) (by decide +kernel), List.mem_of_getElem? (i := 1392) (by decide +kernel)⟩
theorem lw_p50 : lw_okq (⟨"TriSplitsModel", "stepped", "(J)J"⟩, 35) := ⟨⟨by decide +kernel, by decide +kernel⟩, List.mem_of_getElem? (i := 1071) (by decide +kernel), List.mem_of_getElem? (i := 1395) (by decide +kernel), List.mem_of_getElem? (i := 1396) (by decide +kernel)⟩
theorem lw_p51 : lw_okq (⟨"TriSplitsModel", "done", "(J[J)J"⟩, 35) := ⟨⟨by decide +kernel, by decide +kernel⟩, List.mem_of_getElem? (i := 1071) (by decide +kernel), List.mem_of_getElem? (i := 1399) (by decide +kernel), List.mem_of_getElem? (i := 1400) (by decide +kernel)⟩
theorem lw_p52 : lw_okq (⟨"TriSplitsModel", "keepsAct", "()V"⟩, 35) := ⟨⟨by decide +kernel, by decide +kernel⟩, List.mem_of_getElem? (i := 1071) (by decide +kernel), List.mem_of_getElem? (i := 1408) (by decide +kernel), List.mem_of_getElem? (i := 1409) (by decide +kernel)⟩
theorem lw_p53 : lw_okq (⟨"TriSplitsModel", "gets", "(IJ)I"⟩, 35) := ⟨⟨by decide +kernel, by decide +kernel⟩, List.mem_of_getElem? (i := 1071) (by decide +kernel), List.mem_of_getElem? (i := 1426) (by decide +kernel), List.mem_of_getElem? (i := 1427) (by decide +kernel)⟩
theorem lw_p54 : lw_okq (⟨"TriSplitsModel", "begins", "(I)V"⟩, 35) := ⟨⟨by decide +kernel, by decide +kernel⟩, List.mem_of_getElem? (i := 1071) (by decide +kernel), List.mem_of_getElem? (i := 1501) (by decide +kernel), List.mem_of_getElem? (i := 1502) (by decide +kernel)⟩
theorem lw_p55 : lw_okq (⟨"TriSplitsModel", "spellPoly", "(J)V"⟩, 35) := ⟨⟨by decide +kernel, by decide +kernel⟩, List.mem_of_getElem? (i := 1071) (by decide +kernel), List.mem_of_getElem? (i := 1505) (by decide +kernel), List.mem_of_getElem? (i := 1506) (by decide +kernel)⟩
theorem lw_p56 : lw_okq (⟨"TriSplitsModel", "spellByte", "(I)V"⟩, 35) := ⟨⟨by decide +kernel, by decide +kernel⟩, List.mem_of_getElem? (i := 1071) (by decide +kernel), List.mem_of_getElem? (i := 1509) (by decide +kernel), List.mem_of_getElem? (i := 1510) (by decide +kernel)⟩
theorem lw_p57 : lw_okq (⟨"TriSplitsModel", "spellPower", "(I)V"⟩, 35) := ⟨⟨by decide +kernel, by decide +kernel⟩, List.mem_of_getElem? (i := 1071) (by decide +kernel), List.mem_of_getElem? (i := 1513) (by decide +kernel), List.mem_of_getElem? (i := 1514) (by decide +kernel)⟩
theorem lw_p58 : lw_okq (⟨"TriSplitsModel", "spellNumber", "(I)V"⟩, 35) := ⟨⟨by decide +kernel, by decide +kernel⟩, List.mem_of_getElem? (i := 1071) (by decide +kernel), List.mem_of_getElem? (i := 1517) (by decide +kernel), List.mem_of_getElem? (i := 1518) (by decide +kernel)⟩
theorem lw_p59 : lw_okq (⟨"TriSplitsModel", "told", "(I)I"⟩, 35) := ⟨⟨by decide +kernel, by decide +kernel⟩, List.mem_of_getElem? (i := 1071) (by decide +kernel), List.mem_of_getElem? (i := 1521) (by decide +kernel), List.mem_of_getElem? (i := 1522) (by decide +kernel)⟩
theorem lw_p60 : lw_okq (⟨"TriSplitsModel", "placesThat", "(Z)I"⟩, 35) := ⟨⟨by decide +kernel, by decide +kernel⟩, List.mem_of_getElem? (i := 1071) (by decide +kernel), List.mem_of_getElem? (i := 1533) (by decide +kernel), List.mem_of_getElem? (i := 1534) (by decide +kernel)⟩
theorem lw_p61 : lw_okq (⟨"TriSplitsModel", "allWeights", "()I"⟩, 35) := ⟨⟨by decide +kernel, by decide +kernel⟩, List.mem_of_getElem? (i := 1071) (by decide +kernel), List.mem_of_getElem? (i := 1537) (by decide +kernel), List.mem_of_getElem? (i := 1538) (by decide +kernel)⟩
theorem lw_p62 : lw_okq (⟨"TriSplitsModel", "lays", "(I)V"⟩, 35) := ⟨⟨by decide +kernel, by decide +kernel⟩, List.mem_of_getElem? (i := 1071) (by decide +kernel), List.mem_of_getElem? (i := 1545) (by decide +kernel), List.mem_of_getElem? (i := 1546) (by decide +kernel)⟩
theorem lw_p63 : lw_okq (⟨"TriSplitsModel", "readsAll", "()Z"⟩, 35) := ⟨⟨by decide +kernel, by decide +kernel⟩, List.mem_of_getElem? (i := 1071) (by decide +kernel), List.mem_of_getElem? (i := 1557) (by decide +kernel), List.mem_of_getElem? (i := 1558) (by decide +kernel)⟩
def lw_privs_4 : List (MethodName × Nat) := [(⟨"TriSplitsModel", "period", "()J"⟩, 35), (⟨"TriSplitsModel", "steppedOn", "(JJ)J"⟩, 35), (⟨"TriSplitsModel", "stepped", "(J)J"⟩, 35), (⟨"TriSplitsModel", "done", "(J[J)J"⟩, 35), (⟨"TriSplitsModel", "keepsAct", "()V"⟩, 35), (⟨"TriSplitsModel", "gets", "(IJ)I"⟩, 35), (⟨"TriSplitsModel", "begins", "(I)V"⟩, 35), (⟨"TriSplitsModel", "spellPoly", "(J)V"⟩, 35), (⟨"TriSplitsModel", "spellByte", "(I)V"⟩, 35), (⟨"TriSplitsModel", "spellPower", "(I)V"⟩, 35), (⟨"TriSplitsModel", "spellNumber", "(I)V"⟩, 35), (⟨"TriSplitsModel", "told", "(I)I"⟩, 35), (⟨"TriSplitsModel", "placesThat", "(Z)I"⟩, 35), (⟨"TriSplitsModel", "allWeights", "()I"⟩, 35), (⟨"TriSplitsModel", "lays", "(I)V"⟩, 35), (⟨"TriSplitsModel", "readsAll", "()Z"⟩, 35)]
theorem lw_r4 : ∀ q ∈ lw_privs_4, lw_okq q := List.forall_mem_cons.mpr ⟨lw_p48, List.forall_mem_cons.mpr ⟨lw_p49, List.forall_mem_cons.mpr ⟨lw_p50, List.forall_mem_cons.mpr ⟨lw_p51, List.forall_mem_cons.mpr ⟨lw_p52, List.forall_mem_cons.mpr ⟨lw_p53, List.forall_mem_cons.mpr ⟨lw_p54, List.forall_mem_cons.mpr ⟨lw_p55, List.forall_mem_cons.mpr ⟨lw_p56, List.forall_mem_cons.mpr ⟨lw_p57, List.forall_mem_cons.mpr ⟨lw_p58, List.forall_mem_cons.mpr ⟨lw_p59, List.forall_mem_cons.mpr ⟨lw_p60, List.forall_mem_cons.mpr ⟨lw_p61, List.forall_mem_cons.mpr ⟨lw_p62, List.forall_mem_cons.mpr ⟨lw_p63, fun _ h => absurd h List.not_mem_nil⟩⟩⟩⟩⟩⟩⟩⟩⟩⟩⟩⟩⟩⟩⟩⟩
theorem lw_p64 : lw_okq (⟨"TriSplitsModel", "readsStatement", "()Z"⟩, 35) := ⟨⟨by decide +kernel, by decide +kernel⟩, List.mem_of_getElem? (i := 1071) (by decide +kernel), List.mem_of_getElem? (i := 1561) (by decide +kernel), List.mem_of_getElem? (i := 1562) (by decide +kernel)⟩
theorem lw_p65 : lw_okq (⟨"TriSplitsModel", "readsNumber", "(II)Z"⟩, 35) := ⟨⟨by decide +kernel, by decide +kernel⟩, List.mem_of_getElem? (i := 1071) (by decide +kernel), List.mem_of_getElem? (i := 1565) (by decide +kernel), List.mem_of_getElem? (i := 1566) (by decide +kernel)⟩
theorem lw_p66 : lw_okq (⟨"TriSplitsModel", "isDigitNext", "()Z"⟩, 35) := ⟨⟨by decide +kernel, by decide +kernel⟩, List.mem_of_getElem? (i := 1071) (by decide +kernel), List.mem_of_getElem? (i := 1569) (by decide +kernel), List.mem_of_getElem? (i := 1570) (by decide +kernel)⟩
theorem lw_p67 : lw_okq (⟨"TriSplitsModel", "nextByte", "()I"⟩, 35) := ⟨⟨by decide +kernel, by decide +kernel⟩, List.mem_of_getElem? (i := 1071) (by decide +kernel), List.mem_of_getElem? (i := 1573) (by decide +kernel), List.mem_of_getElem? (i := 1574) (by decide +kernel)⟩
theorem lw_p68 : lw_okq (⟨"TriSplitsModel", "byteAt", "(I)I"⟩, 35) := ⟨⟨by decide +kernel, by decide +kernel⟩, List.mem_of_getElem? (i := 1071) (by decide +kernel), List.mem_of_getElem? (i := 1577) (by decide +kernel), List.mem_of_getElem? (i := 1578) (by decide +kernel)⟩
theorem lw_p69 : lw_okq (⟨"TriSplitsModel", "fails", "(II)Z"⟩, 35) := ⟨⟨by decide +kernel, by decide +kernel⟩, List.mem_of_getElem? (i := 1071) (by decide +kernel), List.mem_of_getElem? (i := 1583) (by decide +kernel), List.mem_of_getElem? (i := 1584) (by decide +kernel)⟩
theorem lw_p70 : lw_okq (⟨"TriSplitsModel", "mustSign", "(I)Z"⟩, 35) := ⟨⟨by decide +kernel, by decide +kernel⟩, List.mem_of_getElem? (i := 1071) (by decide +kernel), List.mem_of_getElem? (i := 1587) (by decide +kernel), List.mem_of_getElem? (i := 1588) (by decide +kernel)⟩
theorem lw_p71 : lw_okq (⟨"TriSplitsModel", "takesSign", "(I)Z"⟩, 35) := ⟨⟨by decide +kernel, by decide +kernel⟩, List.mem_of_getElem? (i := 1071) (by decide +kernel), List.mem_of_getElem? (i := 1591) (by decide +kernel), List.mem_of_getElem? (i := 1592) (by decide +kernel)⟩
theorem lw_p72 : lw_okq (⟨"TriSplitsModel", "readsSum", "()Z"⟩, 35) := ⟨⟨by decide +kernel, by decide +kernel⟩, List.mem_of_getElem? (i := 1071) (by decide +kernel), List.mem_of_getElem? (i := 1595) (by decide +kernel), List.mem_of_getElem? (i := 1596) (by decide +kernel)⟩
theorem lw_p73 : lw_okq (⟨"TriSplitsModel", "readsProduct", "()Z"⟩, 35) := ⟨⟨by decide +kernel, by decide +kernel⟩, List.mem_of_getElem? (i := 1071) (by decide +kernel), List.mem_of_getElem? (i := 1599) (by decide +kernel), List.mem_of_getElem? (i := 1600) (by decide +kernel)⟩
theorem lw_p74 : lw_okq (⟨"TriSplitsModel", "readsPower", "()Z"⟩, 35) := ⟨⟨by decide +kernel, by decide +kernel⟩, List.mem_of_getElem? (i := 1071) (by decide +kernel), List.mem_of_getElem? (i := 1603) (by decide +kernel), List.mem_of_getElem? (i := 1604) (by decide +kernel)⟩
theorem lw_p75 : lw_okq (⟨"TriSplitsModel", "readsOne", "()Z"⟩, 35) := ⟨⟨by decide +kernel, by decide +kernel⟩, List.mem_of_getElem? (i := 1071) (by decide +kernel), List.mem_of_getElem? (i := 1607) (by decide +kernel), List.mem_of_getElem? (i := 1608) (by decide +kernel)⟩
theorem lw_p76 : lw_okq (⟨"TriSplitsModel", "takesWord", "(Ljava/lang/String;)Z"⟩, 35) := ⟨⟨by decide +kernel, by decide +kernel⟩, List.mem_of_getElem? (i := 1071) (by decide +kernel), List.mem_of_getElem? (i := 1612) (by decide +kernel), List.mem_of_getElem? (i := 1613) (by decide +kernel)⟩
theorem lw_p77 : lw_okq (⟨"TriSplitsModel", "isWord", "(Ljava/lang/String;)Z"⟩, 35) := ⟨⟨by decide +kernel, by decide +kernel⟩, List.mem_of_getElem? (i := 1071) (by decide +kernel), List.mem_of_getElem? (i := 1616) (by decide +kernel), List.mem_of_getElem? (i := 1617) (by decide +kernel)⟩
theorem lw_p78 : lw_okq (⟨"TriSplitsModel", "readsTri", "()Z"⟩, 35) := ⟨⟨by decide +kernel, by decide +kernel⟩, List.mem_of_getElem? (i := 1071) (by decide +kernel), List.mem_of_getElem? (i := 1626) (by decide +kernel), List.mem_of_getElem? (i := 1627) (by decide +kernel)⟩
theorem lw_p79 : lw_okq (⟨"TriSplitsModel", "readsRev", "()Z"⟩, 35) := ⟨⟨by decide +kernel, by decide +kernel⟩, List.mem_of_getElem? (i := 1071) (by decide +kernel), List.mem_of_getElem? (i := 1631) (by decide +kernel), List.mem_of_getElem? (i := 1632) (by decide +kernel)⟩
def lw_privs_5 : List (MethodName × Nat) := [(⟨"TriSplitsModel", "readsStatement", "()Z"⟩, 35), (⟨"TriSplitsModel", "readsNumber", "(II)Z"⟩, 35), (⟨"TriSplitsModel", "isDigitNext", "()Z"⟩, 35), (⟨"TriSplitsModel", "nextByte", "()I"⟩, 35), (⟨"TriSplitsModel", "byteAt", "(I)I"⟩, 35), (⟨"TriSplitsModel", "fails", "(II)Z"⟩, 35), (⟨"TriSplitsModel", "mustSign", "(I)Z"⟩, 35), (⟨"TriSplitsModel", "takesSign", "(I)Z"⟩, 35), (⟨"TriSplitsModel", "readsSum", "()Z"⟩, 35), (⟨"TriSplitsModel", "readsProduct", "()Z"⟩, 35), (⟨"TriSplitsModel", "readsPower", "()Z"⟩, 35), (⟨"TriSplitsModel", "readsOne", "()Z"⟩, 35), (⟨"TriSplitsModel", "takesWord", "(Ljava/lang/String;)Z"⟩, 35), (⟨"TriSplitsModel", "isWord", "(Ljava/lang/String;)Z"⟩, 35), (⟨"TriSplitsModel", "readsTri", "()Z"⟩, 35), (⟨"TriSplitsModel", "readsRev", "()Z"⟩, 35)]
theorem lw_r5 : ∀ q ∈ lw_privs_5, lw_okq q := List.forall_mem_cons.mpr ⟨lw_p64, List.forall_mem_cons.mpr ⟨lw_p65, List.forall_mem_cons.mpr ⟨lw_p66, List.forall_mem_cons.mpr ⟨lw_p67, List.forall_mem_cons.mpr ⟨lw_p68, List.forall_mem_cons.mpr ⟨lw_p69, List.forall_mem_cons.mpr ⟨lw_p70, List.forall_mem_cons.mpr ⟨lw_p71, List.forall_mem_cons.mpr ⟨lw_p72, List.forall_mem_cons.mpr ⟨lw_p73, List.forall_mem_cons.mpr ⟨lw_p74, List.forall_mem_cons.mpr ⟨lw_p75, List.forall_mem_cons.mpr ⟨lw_p76, List.forall_mem_cons.mpr ⟨lw_p77, List.forall_mem_cons.mpr ⟨lw_p78, List.forall_mem_cons.mpr ⟨lw_p79, fun _ h => absurd h List.not_mem_nil⟩⟩⟩⟩⟩⟩⟩⟩⟩⟩⟩⟩⟩⟩⟩⟩
theorem lw_p80 : lw_okq (⟨"TriSplitsModel", "readsWithin", "()Z"⟩, 35) := ⟨⟨by decide +kernel, by decide +kernel⟩, List.mem_of_getElem? (i := 1071) (by decide +kernel), List.mem_of_getElem? (i := 1635) (by decide +kernel), List.mem_of_getElem? (i := 1636) (by decide +kernel)⟩
theorem lw_p81 : lw_okq (⟨"TriSplitsModel", "readsDer", "()Z"⟩, 35) := ⟨⟨by decide +kernel, by decide +kernel⟩, List.mem_of_getElem? (i := 1071) (by decide +kernel), List.mem_of_getElem? (i := 1643) (by decide +kernel), List.mem_of_getElem? (i := 1644) (by decide +kernel)⟩
theorem lw_p82 : lw_okq (⟨"TriSplitsModel", "isOneNext", "()Z"⟩, 35) := ⟨⟨by decide +kernel, by decide +kernel⟩, List.mem_of_getElem? (i := 1071) (by decide +kernel), List.mem_of_getElem? (i := 1650) (by decide +kernel), List.mem_of_getElem? (i := 1651) (by decide +kernel)⟩
theorem lw_p83 : lw_okq (⟨"TriSplitsModel", "goesOn", "(IJ)V"⟩, 35) := ⟨⟨by decide +kernel, by decide +kernel⟩, List.mem_of_getElem? (i := 1071) (by decide +kernel), List.mem_of_getElem? (i := 1666) (by decide +kernel), List.mem_of_getElem? (i := 1667) (by decide +kernel)⟩
theorem lw_p84 : lw_okq (⟨"TriSplitsModel", "comes", "(J)V"⟩, 35) := ⟨⟨by decide +kernel, by decide +kernel⟩, List.mem_of_getElem? (i := 1071) (by decide +kernel), List.mem_of_getElem? (i := 1670) (by decide +kernel), List.mem_of_getElem? (i := 1671) (by decide +kernel)⟩
def lw_privs_6 : List (MethodName × Nat) := [(⟨"TriSplitsModel", "readsWithin", "()Z"⟩, 35), (⟨"TriSplitsModel", "readsDer", "()Z"⟩, 35), (⟨"TriSplitsModel", "isOneNext", "()Z"⟩, 35), (⟨"TriSplitsModel", "goesOn", "(IJ)V"⟩, 35), (⟨"TriSplitsModel", "comes", "(J)V"⟩, 35)]
theorem lw_r6 : ∀ q ∈ lw_privs_6, lw_okq q := List.forall_mem_cons.mpr ⟨lw_p80, List.forall_mem_cons.mpr ⟨lw_p81, List.forall_mem_cons.mpr ⟨lw_p82, List.forall_mem_cons.mpr ⟨lw_p83, List.forall_mem_cons.mpr ⟨lw_p84, fun _ h => absurd h List.not_mem_nil⟩⟩⟩⟩⟩
def lw_privs : List (MethodName × Nat) := lw_privs_1 ++ (lw_privs_2 ++ (lw_privs_3 ++ (lw_privs_4 ++ (lw_privs_5 ++ (lw_privs_6)))))
def lw_tbl : List Cond := k2_sels lw_privs ++ tables_1
theorem lw_privs_ok : ∀ q ∈ lw_privs, lw_okq q := by
  show ∀ q ∈ lw_privs_1 ++ (lw_privs_2 ++ (lw_privs_3 ++ (lw_privs_4 ++ (lw_privs_5 ++ (lw_privs_6))))), lw_okq q
  exact List.forall_mem_append.mpr ⟨lw_r1, List.forall_mem_append.mpr ⟨lw_r2, List.forall_mem_append.mpr ⟨lw_r3, List.forall_mem_append.mpr ⟨lw_r4, List.forall_mem_append.mpr ⟨lw_r5, lw_r6⟩⟩⟩⟩⟩
end
section
-- method names, and where each word of the tables stands (written by wip/whole/gen/words.py)
def y_T_init : MethodName := { cls := "TriSplits", name := "<init>", desc := "()V" }
def y_Object_init : MethodName := { cls := "java/lang/Object", name := "<init>", desc := "()V" }
def y_Reader_init : MethodName := { cls := "TriSplits$Reader", name := "<init>", desc := "()V" }
def y_Tape_init : MethodName := { cls := "TriSplits$Tape", name := "<init>", desc := "()V" }
def y_Store_init : MethodName := { cls := "TriSplits$Store", name := "<init>", desc := "()V" }
def y_Factors_init : MethodName := { cls := "TriSplits$Factors", name := "<init>", desc := "()V" }
def y_Orders_init : MethodName := { cls := "TriSplits$Orders", name := "<init>", desc := "()V" }
def y_Families_init : MethodName := { cls := "TriSplits$Families", name := "<init>", desc := "()V" }
def y_Field_init : MethodName := { cls := "TriSplits$Field", name := "<init>", desc := "()V" }
def y_Rows_init : MethodName := { cls := "TriSplits$Rows", name := "<init>", desc := "()V" }
def y_Letters_init : MethodName := { cls := "TriSplits$Letters", name := "<init>", desc := "()V" }
def y_T_feed : MethodName := { cls := "TriSplits", name := "feed", desc := "(IIIII)I" }
def y_Reader_tape : MethodName := { cls := "TriSplits$Reader", name := "tape", desc := "()LTriSplits$Tape;" }
def y_Tape_hasRoom : MethodName := { cls := "TriSplits$Tape", name := "hasRoom", desc := "(I)Z" }
def y_Tape_write : MethodName := { cls := "TriSplits$Tape", name := "write", desc := "(I)V" }
def y_Tape_size : MethodName := { cls := "TriSplits$Tape", name := "size", desc := "()I" }
def y_T_end : MethodName := { cls := "TriSplits", name := "end", desc := "(I)I" }
def y_Tape_cut : MethodName := { cls := "TriSplits$Tape", name := "cut", desc := "(I)Z" }
def y_T_run : MethodName := { cls := "TriSplits", name := "run", desc := "()I" }
def y_Reader_readText : MethodName := { cls := "TriSplits$Reader", name := "readText", desc := "(LTriSplits$Store;)I" }
def y_Store_polyAt : MethodName := { cls := "TriSplits$Store", name := "polyAt", desc := "(I)J" }
def y_Store_isPlace : MethodName := { cls := "TriSplits$Store", name := "isPlace", desc := "(I)Z" }
def y_Reader_readStatement : MethodName := { cls := "TriSplits$Reader", name := "readStatement", desc := "()V" }
def y_Reader_readNumber : MethodName := { cls := "TriSplits$Reader", name := "readNumber", desc := "(II)I" }
def y_Reader_peek : MethodName := { cls := "TriSplits$Reader", name := "peek", desc := "()I" }
def y_Tape_at : MethodName := { cls := "TriSplits$Tape", name := "at", desc := "(I)I" }
def y_Reader_isDigit : MethodName := { cls := "TriSplits$Reader", name := "isDigit", desc := "(I)Z" }
def y_Reader_fail : MethodName := { cls := "TriSplits$Reader", name := "fail", desc := "(II)J" }
def y_Math_min : MethodName := { cls := "java/lang/Math", name := "min", desc := "(II)I" }
def y_Reader_readSign : MethodName := { cls := "TriSplits$Reader", name := "readSign", desc := "(C)Z" }
def y_Reader_readSum : MethodName := { cls := "TriSplits$Reader", name := "readSum", desc := "()J" }
def y_Reader_readProduct : MethodName := { cls := "TriSplits$Reader", name := "readProduct", desc := "()J" }
def y_Reader_readPower : MethodName := { cls := "TriSplits$Reader", name := "readPower", desc := "()J" }
def y_Reader_readOne : MethodName := { cls := "TriSplits$Reader", name := "readOne", desc := "()J" }
def y_Reader_readNested : MethodName := { cls := "TriSplits$Reader", name := "readNested", desc := "()J" }
def y_Reader_readLetters : MethodName := { cls := "TriSplits$Reader", name := "readLetters", desc := "()V" }
def y_Reader_isSmallLetter : MethodName := { cls := "TriSplits$Reader", name := "isSmallLetter", desc := "(I)Z" }
def y_Reader_isWord : MethodName := { cls := "TriSplits$Reader", name := "isWord", desc := "(ILjava/lang/String;)Z" }
def y_String_length : MethodName := { cls := "java/lang/String", name := "length", desc := "()I" }
def y_String_coder : MethodName := { cls := "java/lang/String", name := "coder", desc := "()B" }
def y_String_charAt : MethodName := { cls := "java/lang/String", name := "charAt", desc := "(I)C" }
def y_String_isLatin1 : MethodName := { cls := "java/lang/String", name := "isLatin1", desc := "()Z" }
def y_StringLatin1_charAt : MethodName := { cls := "java/lang/StringLatin1", name := "charAt", desc := "([BI)C" }
def y_String_checkIndex : MethodName := { cls := "java/lang/String", name := "checkIndex", desc := "(II)V" }
def y_Preconditions_checkIndex : MethodName := { cls := "jdk/internal/util/Preconditions", name := "checkIndex", desc := "(IILjava/util/function/BiFunction;)I" }
def y_StringUTF16_charAt : MethodName := { cls := "java/lang/StringUTF16", name := "charAt", desc := "([BI)C" }
def y_StringUTF16_checkIndex : MethodName := { cls := "java/lang/StringUTF16", name := "checkIndex", desc := "(I[B)V" }
def y_StringUTF16_length : MethodName := { cls := "java/lang/StringUTF16", name := "length", desc := "([B)I" }
def y_StringUTF16_getChar : MethodName := { cls := "java/lang/StringUTF16", name := "getChar", desc := "([BI)C" }
def y_Reader_readTri : MethodName := { cls := "TriSplits$Reader", name := "readTri", desc := "()J" }
def y_Polys_tri : MethodName := { cls := "TriSplits$Polys", name := "tri", desc := "(II)J" }
def y_Polys_reversed : MethodName := { cls := "TriSplits$Polys", name := "reversed", desc := "(J)J" }
def y_Polys_degree : MethodName := { cls := "TriSplits$Polys", name := "degree", desc := "(J)I" }
def y_Long_numberOfLeadingZeros : MethodName := { cls := "java/lang/Long", name := "numberOfLeadingZeros", desc := "(J)I" }
def y_Integer_numberOfLeadingZeros : MethodName := { cls := "java/lang/Integer", name := "numberOfLeadingZeros", desc := "(I)I" }
def y_Polys_derived : MethodName := { cls := "TriSplits$Polys", name := "derived", desc := "(J)J" }
def y_Polys_product : MethodName := { cls := "TriSplits$Polys", name := "product", desc := "(JJ)J" }
def y_Reader_isPowerAhead : MethodName := { cls := "TriSplits$Reader", name := "isPowerAhead", desc := "()Z" }
def y_Reader_latestFault : MethodName := { cls := "TriSplits$Reader", name := "latestFault", desc := "()I" }
def y_Store_remember : MethodName := { cls := "TriSplits$Store", name := "remember", desc := "()V" }
def y_Store_copyRow : MethodName := { cls := "TriSplits$Store", name := "copyRow", desc := "([JI[JI)V" }
def y_System_arraycopy : MethodName := { cls := "java/lang/System", name := "arraycopy", desc := "(Ljava/lang/Object;ILjava/lang/Object;II)V" }
def y_Reader_handOver : MethodName := { cls := "TriSplits$Reader", name := "handOver", desc := "(LTriSplits$Store;)V" }
def y_Store_write : MethodName := { cls := "TriSplits$Store", name := "write", desc := "(IJ)V" }
def y_T_fault : MethodName := { cls := "TriSplits", name := "fault", desc := "(I)I" }
def y_Reader_within : MethodName := { cls := "TriSplits$Reader", name := "within", desc := "()I" }
def y_Reader_innermost : MethodName := { cls := "TriSplits$Reader", name := "innermost", desc := "()I" }
def y_T_put : MethodName := { cls := "TriSplits", name := "put", desc := "(IJ)I" }
def y_T_place : MethodName := { cls := "TriSplits", name := "place", desc := "(IJ)I" }
def y_T_add : MethodName := { cls := "TriSplits", name := "add", desc := "(III)I" }
def y_T_arePlaces : MethodName := { cls := "TriSplits", name := "arePlaces", desc := "(III)Z" }
def y_T_multiply : MethodName := { cls := "TriSplits", name := "multiply", desc := "(III)I" }
def y_T_divide : MethodName := { cls := "TriSplits", name := "divide", desc := "(III)I" }
def y_Polys_quotient : MethodName := { cls := "TriSplits$Polys", name := "quotient", desc := "(JJ)J" }
def y_T_rest : MethodName := { cls := "TriSplits", name := "rest", desc := "(III)I" }
def y_Polys_remainder : MethodName := { cls := "TriSplits$Polys", name := "remainder", desc := "(JJ)J" }
def y_T_common : MethodName := { cls := "TriSplits", name := "common", desc := "(III)I" }
def y_Polys_gcd : MethodName := { cls := "TriSplits$Polys", name := "gcd", desc := "(JJ)J" }
def y_T_power : MethodName := { cls := "TriSplits", name := "power", desc := "(IJII)I" }
def y_T_isModulus : MethodName := { cls := "TriSplits", name := "isModulus", desc := "(I)Z" }
def y_Polys_powerBy : MethodName := { cls := "TriSplits$Polys", name := "powerBy", desc := "(JJJ)J" }
def y_Polys_square : MethodName := { cls := "TriSplits$Polys", name := "square", desc := "(J)J" }
def y_T_moved : MethodName := { cls := "TriSplits", name := "moved", desc := "(II)I" }
def y_Polys_shifted : MethodName := { cls := "TriSplits$Polys", name := "shifted", desc := "(J)J" }
def y_T_inside : MethodName := { cls := "TriSplits", name := "inside", desc := "(IIII)I" }
def y_Polys_composed : MethodName := { cls := "TriSplits$Polys", name := "composed", desc := "(JJJ)J" }
def y_Polys_productBy : MethodName := { cls := "TriSplits$Polys", name := "productBy", desc := "(JJJ)J" }
def y_T_inverse : MethodName := { cls := "TriSplits", name := "inverse", desc := "(III)I" }
def y_Polys_inverseBy : MethodName := { cls := "TriSplits$Polys", name := "inverseBy", desc := "(JJ)J" }
def y_T_rise : MethodName := { cls := "TriSplits", name := "rise", desc := "(III)I" }
def y_Polys_risen : MethodName := { cls := "TriSplits$Polys", name := "risen", desc := "(JI)J" }
def y_T_register : MethodName := { cls := "TriSplits", name := "register", desc := "(IJ)I" }
def y_Store_tellRegister : MethodName := { cls := "TriSplits$Store", name := "tellRegister", desc := "(JJ)V" }
def y_T_step : MethodName := { cls := "TriSplits", name := "step", desc := "(I)J" }
def y_Store_hasRegister : MethodName := { cls := "TriSplits$Store", name := "hasRegister", desc := "()Z" }
def y_Store_state : MethodName := { cls := "TriSplits$Store", name := "state", desc := "()J" }
def y_Store_rule : MethodName := { cls := "TriSplits$Store", name := "rule", desc := "()J" }
def y_Shifts_after : MethodName := { cls := "TriSplits$Shifts", name := "after", desc := "(JJ)J" }
def y_Shifts_sumOf : MethodName := { cls := "TriSplits$Shifts", name := "sumOf", desc := "(J)J" }
def y_Long_bitCount : MethodName := { cls := "java/lang/Long", name := "bitCount", desc := "(J)I" }
def y_Store_stepRegister : MethodName := { cls := "TriSplits$Store", name := "stepRegister", desc := "(JI)V" }
def y_T_jump : MethodName := { cls := "TriSplits", name := "jump", desc := "(I)J" }
def y_Shifts_behind : MethodName := { cls := "TriSplits$Shifts", name := "behind", desc := "(JJJ)J" }
def y_T_undo : MethodName := { cls := "TriSplits", name := "undo", desc := "()I" }
def y_Store_goBack : MethodName := { cls := "TriSplits$Store", name := "goBack", desc := "()Z" }
def y_Store_undoable : MethodName := { cls := "TriSplits$Store", name := "undoable", desc := "()I" }
def y_T_keep : MethodName := { cls := "TriSplits", name := "keep", desc := "(I)I" }
def y_Store_keepOn : MethodName := { cls := "TriSplits$Store", name := "keepOn", desc := "(I)Z" }
def y_Store_isShelf : MethodName := { cls := "TriSplits$Store", name := "isShelf", desc := "(I)Z" }
def y_T_back : MethodName := { cls := "TriSplits", name := "back", desc := "(I)I" }
def y_Store_takeFrom : MethodName := { cls := "TriSplits$Store", name := "takeFrom", desc := "(I)Z" }
def y_T_bits : MethodName := { cls := "TriSplits", name := "bits", desc := "(I)J" }
def y_T_poly : MethodName := { cls := "TriSplits", name := "poly", desc := "(II)I" }
def y_Polys_isIrreducible : MethodName := { cls := "TriSplits$Polys", name := "isIrreducible", desc := "(J)Z" }
def y_Polys_squareBy : MethodName := { cls := "TriSplits$Polys", name := "squareBy", desc := "(JJ)J" }
def y_Orders_isSought : MethodName := { cls := "TriSplits$Orders", name := "isSought", desc := "(JZ)Z" }
def y_Orders_ofIrreducible : MethodName := { cls := "TriSplits$Orders", name := "ofIrreducible", desc := "(J)J" }
def y_Orders_findPrimes : MethodName := { cls := "TriSplits$Orders", name := "findPrimes", desc := "(J)V" }
def y_Orders_notePrime : MethodName := { cls := "TriSplits$Orders", name := "notePrime", desc := "(J)V" }
def y_Factors_split : MethodName := { cls := "TriSplits$Factors", name := "split", desc := "(J)V" }
def y_Factors_partInto : MethodName := { cls := "TriSplits$Factors", name := "partInto", desc := "(JI)I" }
def y_Factors_cutParts : MethodName := { cls := "TriSplits$Factors", name := "cutParts", desc := "(IJ)I" }
def y_Factors_sortParts : MethodName := { cls := "TriSplits$Factors", name := "sortParts", desc := "(I)V" }
def y_Factors_takeOut : MethodName := { cls := "TriSplits$Factors", name := "takeOut", desc := "(JJ)J" }
def y_Factors_note : MethodName := { cls := "TriSplits$Factors", name := "note", desc := "(JI)V" }
def y_T_howSplit : MethodName := { cls := "TriSplits", name := "howSplit", desc := "(I)I" }
def y_Factors_all : MethodName := { cls := "TriSplits$Factors", name := "all", desc := "()I" }
def y_Factors_unlike : MethodName := { cls := "TriSplits$Factors", name := "unlike", desc := "()I" }
def y_Factors_greatestDegree : MethodName := { cls := "TriSplits$Factors", name := "greatestDegree", desc := "()I" }
def y_Factors_base : MethodName := { cls := "TriSplits$Factors", name := "base", desc := "(I)J" }
def y_T_factor : MethodName := { cls := "TriSplits", name := "factor", desc := "(II)J" }
def y_Factors_inOrder : MethodName := { cls := "TriSplits$Factors", name := "inOrder", desc := "(I)J" }
def y_Factors_often : MethodName := { cls := "TriSplits$Factors", name := "often", desc := "(I)I" }
def y_T_ofDegree : MethodName := { cls := "TriSplits", name := "ofDegree", desc := "(II)I" }
def y_Factors_ofOneDegree : MethodName := { cls := "TriSplits$Factors", name := "ofOneDegree", desc := "(I)I" }
def y_T_order : MethodName := { cls := "TriSplits", name := "order", desc := "(I)J" }
def y_T_orderOf : MethodName := { cls := "TriSplits", name := "orderOf", desc := "(J)J" }
def y_Orders_ofSplit : MethodName := { cls := "TriSplits$Orders", name := "ofSplit", desc := "(LTriSplits$Factors;)J" }
def y_Orders_leastMultiple : MethodName := { cls := "TriSplits$Orders", name := "leastMultiple", desc := "(JJ)J" }
def y_Math_max : MethodName := { cls := "java/lang/Math", name := "max", desc := "(II)I" }
def y_T_divisor : MethodName := { cls := "TriSplits", name := "divisor", desc := "(II)J" }
def y_Rows_gatherDivisors : MethodName := { cls := "TriSplits$Rows", name := "gatherDivisors", desc := "(LTriSplits$Factors;)I" }
def y_Rows_append : MethodName := { cls := "TriSplits$Rows", name := "append", desc := "(J)V" }
def y_Rows_risingDivisor : MethodName := { cls := "TriSplits$Rows", name := "risingDivisor", desc := "(I)J" }
def y_Rows_countAlike : MethodName := { cls := "TriSplits$Rows", name := "countAlike", desc := "(JI)I" }
def y_T_couples : MethodName := { cls := "TriSplits", name := "couples", desc := "(I)I" }
def y_T_mirror : MethodName := { cls := "TriSplits", name := "mirror", desc := "(II)I" }
def y_T_akin : MethodName := { cls := "TriSplits", name := "akin", desc := "(II)I" }
def y_Factors_hasSameAs : MethodName := { cls := "TriSplits$Factors", name := "hasSameAs", desc := "(LTriSplits$Factors;)Z" }
def y_T_letter : MethodName := { cls := "TriSplits", name := "letter", desc := "(II)I" }
def y_Letters_restart : MethodName := { cls := "TriSplits$Letters", name := "restart", desc := "()V" }
def y_Letters_writePoly : MethodName := { cls := "TriSplits$Letters", name := "writePoly", desc := "(J)V" }
def y_Letters_write : MethodName := { cls := "TriSplits$Letters", name := "write", desc := "(I)V" }
def y_Letters_writePowerOfX : MethodName := { cls := "TriSplits$Letters", name := "writePowerOfX", desc := "(I)V" }
def y_Letters_writeNumber : MethodName := { cls := "TriSplits$Letters", name := "writeNumber", desc := "(I)V" }
def y_T_letterAt : MethodName := { cls := "TriSplits", name := "letterAt", desc := "(I)I" }
def y_Letters_size : MethodName := { cls := "TriSplits$Letters", name := "size", desc := "()I" }
def y_Letters_byteAt : MethodName := { cls := "TriSplits$Letters", name := "byteAt", desc := "(I)I" }
def y_T_spell : MethodName := { cls := "TriSplits", name := "spell", desc := "(II)I" }
def y_Letters_writeFactors : MethodName := { cls := "TriSplits$Letters", name := "writeFactors", desc := "(LTriSplits$Factors;)V" }
def y_T_swan : MethodName := { cls := "TriSplits", name := "swan", desc := "(II)I" }
def y_T_isTri : MethodName := { cls := "TriSplits", name := "isTri", desc := "(III)Z" }
def y_Families_swanParity : MethodName := { cls := "TriSplits$Families", name := "swanParity", desc := "(II)I" }
def y_Families_swanOfEven : MethodName := { cls := "TriSplits$Families", name := "swanOfEven", desc := "(II)I" }
def y_Families_swanOfOdd : MethodName := { cls := "TriSplits$Families", name := "swanOfOdd", desc := "(II)I" }
def y_T_evens : MethodName := { cls := "TriSplits", name := "evens", desc := "(I)I" }
def y_Families_countEven : MethodName := { cls := "TriSplits$Families", name := "countEven", desc := "(I)I" }
def y_T_multiple : MethodName := { cls := "TriSplits", name := "multiple", desc := "(II)I" }
def y_Rows_findMultiple : MethodName := { cls := "TriSplits$Rows", name := "findMultiple", desc := "(J)Z" }
def y_Rows_multipleN : MethodName := { cls := "TriSplits$Rows", name := "multipleN", desc := "()I" }
def y_Rows_multipleK : MethodName := { cls := "TriSplits$Rows", name := "multipleK", desc := "()I" }
def y_T_shortest : MethodName := { cls := "TriSplits", name := "shortest", desc := "(JII)J" }
def y_Shifts_shortestRule : MethodName := { cls := "TriSplits$Shifts", name := "shortestRule", desc := "(JI)J" }
def y_Shifts_breaks : MethodName := { cls := "TriSplits$Shifts", name := "breaks", desc := "(JIJI)Z" }
def y_T_shift : MethodName := { cls := "TriSplits", name := "shift", desc := "(I)J" }
def y_Orders_period : MethodName := { cls := "TriSplits$Orders", name := "period", desc := "(JJJ)J" }
def y_Store_gone : MethodName := { cls := "TriSplits$Store", name := "gone", desc := "()J" }
def y_T_trinomial : MethodName := { cls := "TriSplits", name := "trinomial", desc := "(IZI)I" }
def y_Families_countTris : MethodName := { cls := "TriSplits$Families", name := "countTris", desc := "(IZ)I" }
def y_Families_triAt : MethodName := { cls := "TriSplits$Families", name := "triAt", desc := "(IZI)I" }
def y_T_least : MethodName := { cls := "TriSplits", name := "least", desc := "(IZ)J" }
def y_Families_lightest : MethodName := { cls := "TriSplits$Families", name := "lightest", desc := "(IZ)J" }
def y_Families_leastOfWeight : MethodName := { cls := "TriSplits$Families", name := "leastOfWeight", desc := "(IIZ)J" }
def y_Long_numberOfTrailingZeros : MethodName := { cls := "java/lang/Long", name := "numberOfTrailingZeros", desc := "(J)I" }
def y_Integer_numberOfTrailingZeros : MethodName := { cls := "java/lang/Integer", name := "numberOfTrailingZeros", desc := "(I)I" }
def y_T_many : MethodName := { cls := "TriSplits", name := "many", desc := "(IZ)J" }
def y_Orders_countPrimitive : MethodName := { cls := "TriSplits$Orders", name := "countPrimitive", desc := "(I)J" }
def y_Families_countIrreducible : MethodName := { cls := "TriSplits$Families", name := "countIrreducible", desc := "(I)J" }
def y_Families_signOf : MethodName := { cls := "TriSplits$Families", name := "signOf", desc := "(I)I" }
def y_T_stays : MethodName := { cls := "TriSplits", name := "stays", desc := "(III)I" }
def y_Orders_staysRisen : MethodName := { cls := "TriSplits$Orders", name := "staysRisen", desc := "(JI)Z" }
def y_T_bare : MethodName := { cls := "TriSplits", name := "bare", desc := "(I)I" }
def y_T_next : MethodName := { cls := "TriSplits", name := "next", desc := "(IZ)J" }
def y_Families_nextAbove : MethodName := { cls := "TriSplits$Families", name := "nextAbove", desc := "(JZ)J" }
def y_T_minimal : MethodName := { cls := "TriSplits", name := "minimal", desc := "(II)J" }
def y_T_isElement : MethodName := { cls := "TriSplits", name := "isElement", desc := "(II)Z" }
def y_Field_leastPoly : MethodName := { cls := "TriSplits$Field", name := "leastPoly", desc := "(JJ)J" }
def y_Field_unlikeConjugates : MethodName := { cls := "TriSplits$Field", name := "unlikeConjugates", desc := "(JJ)I" }
def y_T_trace : MethodName := { cls := "TriSplits", name := "trace", desc := "(II)I" }
def y_Field_traceOf : MethodName := { cls := "TriSplits$Field", name := "traceOf", desc := "(JJ)I" }
def y_T_conjugates : MethodName := { cls := "TriSplits", name := "conjugates", desc := "(II)I" }
def y_T_log : MethodName := { cls := "TriSplits", name := "log", desc := "(III)J" }
def y_Field_logarithm : MethodName := { cls := "TriSplits$Field", name := "logarithm", desc := "(JJJ)J" }
def y_Field_findPower : MethodName := { cls := "TriSplits$Field", name := "findPower", desc := "(J)I" }
def y_T_roots : MethodName := { cls := "TriSplits", name := "roots", desc := "(II)I" }
def y_Field_countRoots : MethodName := { cls := "TriSplits$Field", name := "countRoots", desc := "(JI)I" }
def y_T_count : MethodName := { cls := "TriSplits", name := "count", desc := "(I)I" }
def y_Store_nonzeroPlaces : MethodName := { cls := "TriSplits$Store", name := "nonzeroPlaces", desc := "()I" }
def y_Store_keptShelves : MethodName := { cls := "TriSplits$Store", name := "keptShelves", desc := "()I" }
def y_Store_irreduciblePlaces : MethodName := { cls := "TriSplits$Store", name := "irreduciblePlaces", desc := "()I" }
def y_Store_allWeights : MethodName := { cls := "TriSplits$Store", name := "allWeights", desc := "()I" }
def y_M_init : MethodName := { cls := "TriSplitsModel", name := "<init>", desc := "()V" }
def y_M_bits : MethodName := { cls := "TriSplitsModel", name := "bits", desc := "(I)J" }
def y_M_isPlace : MethodName := { cls := "TriSplitsModel", name := "isPlace", desc := "(I)Z" }
def y_M_in : MethodName := { cls := "TriSplitsModel", name := "in", desc := "(JJJ)Z" }
def y_M_poly : MethodName := { cls := "TriSplitsModel", name := "poly", desc := "(II)I" }
def y_M_laysFactors : MethodName := { cls := "TriSplitsModel", name := "laysFactors", desc := "(J)V" }
def y_M_degree : MethodName := { cls := "TriSplitsModel", name := "degree", desc := "(J)I" }
def y_M_restOf : MethodName := { cls := "TriSplitsModel", name := "restOf", desc := "(JJ)J" }
def y_M_has : MethodName := { cls := "TriSplitsModel", name := "has", desc := "(JI)Z" }
def y_M_quotient : MethodName := { cls := "TriSplitsModel", name := "quotient", desc := "(JJ)J" }
def y_M_weight : MethodName := { cls := "TriSplitsModel", name := "weight", desc := "(J)I" }
def y_M_oftenest : MethodName := { cls := "TriSplitsModel", name := "oftenest", desc := "()I" }
def y_M_isPrimitive : MethodName := { cls := "TriSplitsModel", name := "isPrimitive", desc := "(J)Z" }
def y_M_hasOrder : MethodName := { cls := "TriSplitsModel", name := "hasOrder", desc := "(J)Z" }
def y_M_isIrreducible : MethodName := { cls := "TriSplitsModel", name := "isIrreducible", desc := "(J)Z" }
def y_M_orderOf : MethodName := { cls := "TriSplitsModel", name := "orderOf", desc := "(J)J" }
def y_M_allOnes : MethodName := { cls := "TriSplitsModel", name := "allOnes", desc := "(I)J" }
def y_M_commonNumber : MethodName := { cls := "TriSplitsModel", name := "commonNumber", desc := "(JJ)J" }
def y_M_laysPrimes : MethodName := { cls := "TriSplitsModel", name := "laysPrimes", desc := "(J)V" }
def y_M_powerBy : MethodName := { cls := "TriSplitsModel", name := "powerBy", desc := "(JJJ)J" }
def y_M_timesBy : MethodName := { cls := "TriSplitsModel", name := "timesBy", desc := "(JJJ)J" }
def y_M_product : MethodName := { cls := "TriSplitsModel", name := "product", desc := "(JJ)J" }
def y_M_unlikeFactors : MethodName := { cls := "TriSplitsModel", name := "unlikeFactors", desc := "()I" }
def y_M_factor : MethodName := { cls := "TriSplitsModel", name := "factor", desc := "(II)J" }
def y_M_ofDegree : MethodName := { cls := "TriSplitsModel", name := "ofDegree", desc := "(II)I" }
def y_M_order : MethodName := { cls := "TriSplitsModel", name := "order", desc := "(I)J" }
def y_M_akin : MethodName := { cls := "TriSplitsModel", name := "akin", desc := "(II)I" }
def y_M_radical : MethodName := { cls := "TriSplitsModel", name := "radical", desc := "(J)J" }
def y_M_swan : MethodName := { cls := "TriSplitsModel", name := "swan", desc := "(II)I" }
def y_M_swanOf : MethodName := { cls := "TriSplitsModel", name := "swanOf", desc := "(II)I" }
def y_M_evens : MethodName := { cls := "TriSplitsModel", name := "evens", desc := "(I)I" }
def y_M_multiple : MethodName := { cls := "TriSplitsModel", name := "multiple", desc := "(II)I" }
def y_M_trinomial : MethodName := { cls := "TriSplitsModel", name := "trinomial", desc := "(IZI)I" }
def y_M_tri : MethodName := { cls := "TriSplitsModel", name := "tri", desc := "(II)J" }
def y_M_isGood : MethodName := { cls := "TriSplitsModel", name := "isGood", desc := "(JZ)Z" }
def y_M_least : MethodName := { cls := "TriSplitsModel", name := "least", desc := "(IZ)J" }
def y_M_many : MethodName := { cls := "TriSplitsModel", name := "many", desc := "(IZ)J" }
def y_M_coprimes : MethodName := { cls := "TriSplitsModel", name := "coprimes", desc := "(J)J" }
def y_M_moebius : MethodName := { cls := "TriSplitsModel", name := "moebius", desc := "(I)I" }
def y_M_stays : MethodName := { cls := "TriSplitsModel", name := "stays", desc := "(III)I" }
def y_M_bare : MethodName := { cls := "TriSplitsModel", name := "bare", desc := "(I)I" }
def y_M_minimal : MethodName := { cls := "TriSplitsModel", name := "minimal", desc := "(II)J" }
def y_M_isIn : MethodName := { cls := "TriSplitsModel", name := "isIn", desc := "(II)Z" }
def y_M_trace : MethodName := { cls := "TriSplitsModel", name := "trace", desc := "(II)I" }
def y_M_conjugates : MethodName := { cls := "TriSplitsModel", name := "conjugates", desc := "(II)I" }
def y_M_log : MethodName := { cls := "TriSplitsModel", name := "log", desc := "(III)J" }
def y_M_roots : MethodName := { cls := "TriSplitsModel", name := "roots", desc := "(II)I" }
def y_M_insideBy : MethodName := { cls := "TriSplitsModel", name := "insideBy", desc := "(JJJ)J" }
def y_M_shortest : MethodName := { cls := "TriSplitsModel", name := "shortest", desc := "(JII)J" }
def y_M_isRule : MethodName := { cls := "TriSplitsModel", name := "isRule", desc := "(JII)Z" }
def y_M_shift : MethodName := { cls := "TriSplitsModel", name := "shift", desc := "(I)J" }
def y_M_isRegister : MethodName := { cls := "TriSplitsModel", name := "isRegister", desc := "()Z" }
def y_M_period : MethodName := { cls := "TriSplitsModel", name := "period", desc := "()J" }
def y_M_steppedOn : MethodName := { cls := "TriSplitsModel", name := "steppedOn", desc := "(JJ)J" }
def y_M_stepped : MethodName := { cls := "TriSplitsModel", name := "stepped", desc := "(J)J" }
def y_M_done : MethodName := { cls := "TriSplitsModel", name := "done", desc := "(J[J)J" }
def y_M_register : MethodName := { cls := "TriSplitsModel", name := "register", desc := "(IJ)I" }
def y_M_keepsAct : MethodName := { cls := "TriSplitsModel", name := "keepsAct", desc := "()V" }
def y_M_step : MethodName := { cls := "TriSplitsModel", name := "step", desc := "(I)J" }
def y_M_jump : MethodName := { cls := "TriSplitsModel", name := "jump", desc := "(I)J" }
def y_M_put : MethodName := { cls := "TriSplitsModel", name := "put", desc := "(IJ)I" }
def y_M_gets : MethodName := { cls := "TriSplitsModel", name := "gets", desc := "(IJ)I" }
def y_M_add : MethodName := { cls := "TriSplitsModel", name := "add", desc := "(III)I" }
def y_M_areThree : MethodName := { cls := "TriSplitsModel", name := "areThree", desc := "(III)Z" }
def y_M_multiply : MethodName := { cls := "TriSplitsModel", name := "multiply", desc := "(III)I" }
def y_M_divide : MethodName := { cls := "TriSplitsModel", name := "divide", desc := "(III)I" }
def y_M_rest : MethodName := { cls := "TriSplitsModel", name := "rest", desc := "(III)I" }
def y_M_common : MethodName := { cls := "TriSplitsModel", name := "common", desc := "(III)I" }
def y_M_commonOf : MethodName := { cls := "TriSplitsModel", name := "commonOf", desc := "(JJ)J" }
def y_M_power : MethodName := { cls := "TriSplitsModel", name := "power", desc := "(IJII)I" }
def y_M_moved : MethodName := { cls := "TriSplitsModel", name := "moved", desc := "(II)I" }
def y_M_movedOf : MethodName := { cls := "TriSplitsModel", name := "movedOf", desc := "(J)J" }
def y_M_inside : MethodName := { cls := "TriSplitsModel", name := "inside", desc := "(IIII)I" }
def y_M_inverse : MethodName := { cls := "TriSplitsModel", name := "inverse", desc := "(III)I" }
def y_M_inverseOf : MethodName := { cls := "TriSplitsModel", name := "inverseOf", desc := "(JJ)J" }
def y_M_rise : MethodName := { cls := "TriSplitsModel", name := "rise", desc := "(III)I" }
def y_M_risenOf : MethodName := { cls := "TriSplitsModel", name := "risenOf", desc := "(JI)J" }
def y_M_undo : MethodName := { cls := "TriSplitsModel", name := "undo", desc := "()I" }
def y_M_keep : MethodName := { cls := "TriSplitsModel", name := "keep", desc := "(I)I" }
def y_M_back : MethodName := { cls := "TriSplitsModel", name := "back", desc := "(I)I" }
def y_M_letter : MethodName := { cls := "TriSplitsModel", name := "letter", desc := "(II)I" }
def y_M_begins : MethodName := { cls := "TriSplitsModel", name := "begins", desc := "(I)V" }
def y_M_spellPoly : MethodName := { cls := "TriSplitsModel", name := "spellPoly", desc := "(J)V" }
def y_M_spellByte : MethodName := { cls := "TriSplitsModel", name := "spellByte", desc := "(I)V" }
def y_M_spellPower : MethodName := { cls := "TriSplitsModel", name := "spellPower", desc := "(I)V" }
def y_M_spellNumber : MethodName := { cls := "TriSplitsModel", name := "spellNumber", desc := "(I)V" }
def y_M_told : MethodName := { cls := "TriSplitsModel", name := "told", desc := "(I)I" }
def y_M_spell : MethodName := { cls := "TriSplitsModel", name := "spell", desc := "(II)I" }
def y_M_count : MethodName := { cls := "TriSplitsModel", name := "count", desc := "(I)I" }
def y_M_placesThat : MethodName := { cls := "TriSplitsModel", name := "placesThat", desc := "(Z)I" }
def y_M_allWeights : MethodName := { cls := "TriSplitsModel", name := "allWeights", desc := "()I" }
def y_M_feed : MethodName := { cls := "TriSplitsModel", name := "feed", desc := "(IIIII)I" }
def y_M_lays : MethodName := { cls := "TriSplitsModel", name := "lays", desc := "(I)V" }
def y_M_end : MethodName := { cls := "TriSplitsModel", name := "end", desc := "(I)I" }
def y_M_run : MethodName := { cls := "TriSplitsModel", name := "run", desc := "()I" }
def y_M_readsAll : MethodName := { cls := "TriSplitsModel", name := "readsAll", desc := "()Z" }
def y_M_readsStatement : MethodName := { cls := "TriSplitsModel", name := "readsStatement", desc := "()Z" }
def y_M_readsNumber : MethodName := { cls := "TriSplitsModel", name := "readsNumber", desc := "(II)Z" }
def y_M_isDigitNext : MethodName := { cls := "TriSplitsModel", name := "isDigitNext", desc := "()Z" }
def y_M_nextByte : MethodName := { cls := "TriSplitsModel", name := "nextByte", desc := "()I" }
def y_M_byteAt : MethodName := { cls := "TriSplitsModel", name := "byteAt", desc := "(I)I" }
def y_M_fails : MethodName := { cls := "TriSplitsModel", name := "fails", desc := "(II)Z" }
def y_M_mustSign : MethodName := { cls := "TriSplitsModel", name := "mustSign", desc := "(I)Z" }
def y_M_takesSign : MethodName := { cls := "TriSplitsModel", name := "takesSign", desc := "(I)Z" }
def y_M_readsSum : MethodName := { cls := "TriSplitsModel", name := "readsSum", desc := "()Z" }
def y_M_readsProduct : MethodName := { cls := "TriSplitsModel", name := "readsProduct", desc := "()Z" }
def y_M_readsPower : MethodName := { cls := "TriSplitsModel", name := "readsPower", desc := "()Z" }
def y_M_readsOne : MethodName := { cls := "TriSplitsModel", name := "readsOne", desc := "()Z" }
def y_M_takesWord : MethodName := { cls := "TriSplitsModel", name := "takesWord", desc := "(Ljava/lang/String;)Z" }
def y_M_isWord : MethodName := { cls := "TriSplitsModel", name := "isWord", desc := "(Ljava/lang/String;)Z" }
def y_M_readsTri : MethodName := { cls := "TriSplitsModel", name := "readsTri", desc := "()Z" }
def y_M_readsRev : MethodName := { cls := "TriSplitsModel", name := "readsRev", desc := "()Z" }
def y_M_readsWithin : MethodName := { cls := "TriSplitsModel", name := "readsWithin", desc := "()Z" }
def y_M_reversed : MethodName := { cls := "TriSplitsModel", name := "reversed", desc := "(J)J" }
def y_M_readsDer : MethodName := { cls := "TriSplitsModel", name := "readsDer", desc := "()Z" }
def y_M_derived : MethodName := { cls := "TriSplitsModel", name := "derived", desc := "(J)J" }
def y_M_isOneNext : MethodName := { cls := "TriSplitsModel", name := "isOneNext", desc := "()Z" }
def y_M_fault : MethodName := { cls := "TriSplitsModel", name := "fault", desc := "(I)I" }
def y_M_next : MethodName := { cls := "TriSplitsModel", name := "next", desc := "(IZ)J" }
def y_M_divisor : MethodName := { cls := "TriSplitsModel", name := "divisor", desc := "(II)J" }
def y_M_goesOn : MethodName := { cls := "TriSplitsModel", name := "goesOn", desc := "(IJ)V" }
def y_M_comes : MethodName := { cls := "TriSplitsModel", name := "comes", desc := "(J)V" }
def y_M_couples : MethodName := { cls := "TriSplitsModel", name := "couples", desc := "(I)I" }
def y_M_mirror : MethodName := { cls := "TriSplitsModel", name := "mirror", desc := "(II)I" }
def ay_G : List Cond := lw_tbl.filter goodWord
theorem ay_inG {w : Cond} (h : w ∈ lw_tbl) (g : goodWord w = true) : w ∈ ay_G := List.mem_filter.mpr ⟨h, g⟩
theorem ay_good {w : Cond} (h : w ∈ ay_G) : (w.onTables && w.keeps) = true ∨ ∃ ty, w = .arrayClass ty := good_of_word (List.mem_filter.mp h).2
theorem ay_sub {w : Cond} (h : w ∈ ay_G) : w ∈ lw_tbl := (List.mem_filter.mp h).1
theorem ay_u1 {w : Cond} (i : Nat) (h : tables_1_1[i]? = some w) : w ∈ lw_tbl := List.mem_append_right _ (List.mem_append_left _ (List.mem_of_getElem? h))
theorem ay_t1 {w : Cond} (i : Nat) (h : tables_1_1[i]? = some w) (g : goodWord w = true) : w ∈ ay_G := ay_inG (List.mem_append_right _ (List.mem_append_left _ (List.mem_of_getElem? h))) g
theorem ay_u2 {w : Cond} (i : Nat) (h : tables_1_2[i]? = some w) : w ∈ lw_tbl := List.mem_append_right _ (List.mem_append_right _ (List.mem_append_left _ (List.mem_of_getElem? h)))
theorem ay_t2 {w : Cond} (i : Nat) (h : tables_1_2[i]? = some w) (g : goodWord w = true) : w ∈ ay_G := ay_inG (List.mem_append_right _ (List.mem_append_right _ (List.mem_append_left _ (List.mem_of_getElem? h)))) g
theorem ay_u3 {w : Cond} (i : Nat) (h : tables_1_3[i]? = some w) : w ∈ lw_tbl := List.mem_append_right _ (List.mem_append_right _ (List.mem_append_right _ (List.mem_append_left _ (List.mem_of_getElem? h))))
theorem ay_t3 {w : Cond} (i : Nat) (h : tables_1_3[i]? = some w) (g : goodWord w = true) : w ∈ ay_G := ay_inG (List.mem_append_right _ (List.mem_append_right _ (List.mem_append_right _ (List.mem_append_left _ (List.mem_of_getElem? h))))) g
theorem ay_u4 {w : Cond} (i : Nat) (h : tables_1_4[i]? = some w) : w ∈ lw_tbl := List.mem_append_right _ (List.mem_append_right _ (List.mem_append_right _ (List.mem_append_right _ (List.mem_append_left _ (List.mem_of_getElem? h)))))
theorem ay_t4 {w : Cond} (i : Nat) (h : tables_1_4[i]? = some w) (g : goodWord w = true) : w ∈ ay_G := ay_inG (List.mem_append_right _ (List.mem_append_right _ (List.mem_append_right _ (List.mem_append_right _ (List.mem_append_left _ (List.mem_of_getElem? h)))))) g
theorem ay_u5 {w : Cond} (i : Nat) (h : tables_1_5[i]? = some w) : w ∈ lw_tbl := List.mem_append_right _ (List.mem_append_right _ (List.mem_append_right _ (List.mem_append_right _ (List.mem_append_right _ (List.mem_append_left _ (List.mem_of_getElem? h))))))
theorem ay_t5 {w : Cond} (i : Nat) (h : tables_1_5[i]? = some w) (g : goodWord w = true) : w ∈ ay_G := ay_inG (List.mem_append_right _ (List.mem_append_right _ (List.mem_append_right _ (List.mem_append_right _ (List.mem_append_right _ (List.mem_append_left _ (List.mem_of_getElem? h))))))) g
theorem ay_u6 {w : Cond} (i : Nat) (h : tables_1_6[i]? = some w) : w ∈ lw_tbl := List.mem_append_right _ (List.mem_append_right _ (List.mem_append_right _ (List.mem_append_right _ (List.mem_append_right _ (List.mem_append_right _ (List.mem_append_left _ (List.mem_of_getElem? h)))))))
theorem ay_t6 {w : Cond} (i : Nat) (h : tables_1_6[i]? = some w) (g : goodWord w = true) : w ∈ ay_G := ay_inG (List.mem_append_right _ (List.mem_append_right _ (List.mem_append_right _ (List.mem_append_right _ (List.mem_append_right _ (List.mem_append_right _ (List.mem_append_left _ (List.mem_of_getElem? h)))))))) g
theorem ay_u7 {w : Cond} (i : Nat) (h : tables_1_7[i]? = some w) : w ∈ lw_tbl := List.mem_append_right _ (List.mem_append_right _ (List.mem_append_right _ (List.mem_append_right _ (List.mem_append_right _ (List.mem_append_right _ (List.mem_append_right _ (List.mem_append_left _ (List.mem_of_getElem? h))))))))
theorem ay_t7 {w : Cond} (i : Nat) (h : tables_1_7[i]? = some w) (g : goodWord w = true) : w ∈ ay_G := ay_inG (List.mem_append_right _ (List.mem_append_right _ (List.mem_append_right _ (List.mem_append_right _ (List.mem_append_right _ (List.mem_append_right _ (List.mem_append_right _ (List.mem_append_left _ (List.mem_of_getElem? h))))))))) g
theorem ay_u8 {w : Cond} (i : Nat) (h : tables_1_8[i]? = some w) : w ∈ lw_tbl := List.mem_append_right _ (List.mem_append_right _ (List.mem_append_right _ (List.mem_append_right _ (List.mem_append_right _ (List.mem_append_right _ (List.mem_append_right _ (List.mem_append_right _ (List.mem_of_getElem? h))))))))
theorem ay_t8 {w : Cond} (i : Nat) (h : tables_1_8[i]? = some w) (g : goodWord w = true) : w ∈ ay_G := ay_inG (List.mem_append_right _ (List.mem_append_right _ (List.mem_append_right _ (List.mem_append_right _ (List.mem_append_right _ (List.mem_append_right _ (List.mem_append_right _ (List.mem_append_right _ (List.mem_of_getElem? h))))))))) g
theorem ay_ts {y : MethodName} {n : Nat} (i : Nat) (h : lw_privs[i]? = some (y, n)) (g : goodWord (Cond.selects y.cls y y) = true) : Cond.selects y.cls y y ∈ ay_G := ay_inG (List.mem_append_left _ (List.mem_map.mpr ⟨(y, n), List.mem_of_getElem? h, rfl⟩)) g
theorem wd_0 : (Cond.initialized "TriSplitsLaw") ∈ ay_G := ay_t1 0 rfl rfl
theorem wd_1 : (Cond.initialized "TriSplits") ∈ ay_G := ay_t1 1 rfl rfl
theorem wd_2 : (Cond.initialized "TriSplits$Reader") ∈ ay_G := ay_t1 2 rfl rfl
theorem wd_3 : (Cond.initialized "TriSplits$Tape") ∈ ay_G := ay_t1 3 rfl rfl
theorem wd_4 : (Cond.initialized "TriSplits$Store") ∈ ay_G := ay_t1 4 rfl rfl
theorem wd_5 : (Cond.initialized "TriSplits$Factors") ∈ ay_G := ay_t1 5 rfl rfl
theorem wd_6 : (Cond.initialized "TriSplits$Orders") ∈ ay_G := ay_t1 6 rfl rfl
theorem wd_7 : (Cond.initialized "TriSplits$Families") ∈ ay_G := ay_t1 7 rfl rfl
theorem wd_8 : (Cond.initialized "TriSplits$Field") ∈ ay_G := ay_t1 8 rfl rfl
theorem wd_9 : (Cond.initialized "TriSplits$Rows") ∈ ay_G := ay_t1 9 rfl rfl
theorem wd_10 : (Cond.initialized "TriSplits$Letters") ∈ ay_G := ay_t1 10 rfl rfl
theorem wd_11 : (Cond.initialized "TriSplitsModel") ∈ ay_G := ay_t1 11 rfl rfl
theorem wd_12 : (Cond.initialized "java/lang/Math") ∈ ay_G := ay_t1 12 rfl rfl
theorem wd_13 : (Cond.initialized "java/lang/String") ∈ ay_G := ay_t1 13 rfl rfl
theorem wd_14 : (Cond.initialized "java/lang/StringLatin1") ∈ ay_G := ay_t1 14 rfl rfl
theorem wd_15 : (Cond.initialized "jdk/internal/util/Preconditions") ∈ ay_G := ay_t1 15 rfl rfl
theorem wd_16 : (Cond.initialized "java/lang/StringUTF16") ∈ ay_G := ay_t1 16 rfl rfl
theorem wd_17 : (Cond.initialized "TriSplits$Polys") ∈ ay_G := ay_t1 17 rfl rfl
theorem wd_18 : (Cond.initialized "java/lang/Long") ∈ ay_G := ay_t1 18 rfl rfl
theorem wd_19 : (Cond.initialized "java/lang/Integer") ∈ ay_G := ay_t1 19 rfl rfl
theorem wd_20 : (Cond.initialized "java/lang/System") ∈ ay_G := ay_t1 20 rfl rfl
theorem wd_21 : (Cond.initialized "TriSplits$Shifts") ∈ ay_G := ay_t1 21 rfl rfl
theorem wd_22 : (Cond.classLink "TriSplitsLaw" 7 "TriSplits") ∈ ay_G := ay_t1 22 rfl rfl
theorem wd_23 : (Cond.instantiable "TriSplits" 9) ∈ ay_G := ay_t1 23 rfl rfl
theorem wd_24 : (Cond.methodLink "TriSplitsLaw" 9 y_T_init) ∈ ay_G := ay_t1 24 rfl rfl
theorem wd_25 : (Cond.instanceMethod y_T_init) ∈ ay_G := ay_t1 25 rfl rfl
theorem wd_26 : (Cond.code y_T_init prog_1_method_1_code 1 none) ∈ ay_G := ay_t1 26 rfl rfl
theorem wd_27 : (Cond.methodLink "TriSplits" 1 y_Object_init) ∈ ay_G := ay_t1 27 rfl rfl
theorem wd_28 : (Cond.instanceMethod y_Object_init) ∈ ay_G := ay_t1 28 rfl rfl
theorem wd_29 : (Cond.code y_Object_init object_method_1_code 1 none) ∈ ay_G := ay_t1 29 rfl rfl
theorem wd_30 : (Cond.classLink "TriSplits" 7 "TriSplits$Reader") ∈ ay_G := ay_t1 30 rfl rfl
theorem wd_31 : (Cond.instantiable "TriSplits$Reader" 8) ∈ ay_G := ay_t1 31 rfl rfl
theorem wd_32 : (Cond.methodLink "TriSplits" 9 y_Reader_init) ∈ ay_G := ay_t1 32 rfl rfl
theorem wd_33 : (Cond.instanceMethod y_Reader_init) ∈ ay_G := ay_t1 33 rfl rfl
theorem wd_34 : (Cond.code y_Reader_init prog_8_method_1_code 1 none) ∈ ay_G := ay_t1 34 rfl rfl
theorem wd_35 : (Cond.methodLink "TriSplits$Reader" 3 y_Object_init) ∈ ay_G := ay_t1 35 rfl rfl
theorem wd_36 : (Cond.classLink "TriSplits$Reader" 9 "TriSplits$Tape") ∈ ay_G := ay_t1 36 rfl rfl
theorem wd_37 : (Cond.instantiable "TriSplits$Tape" 2) ∈ ay_G := ay_t1 37 rfl rfl
theorem wd_38 : (Cond.methodLink "TriSplits$Reader" 11 y_Tape_init) ∈ ay_G := ay_t1 38 rfl rfl
theorem wd_39 : (Cond.instanceMethod y_Tape_init) ∈ ay_G := ay_t1 39 rfl rfl
theorem wd_40 : (Cond.code y_Tape_init prog_12_method_1_code 1 none) ∈ ay_G := ay_t1 40 rfl rfl
theorem wd_41 : (Cond.methodLink "TriSplits$Tape" 3 y_Object_init) ∈ ay_G := ay_t1 41 rfl rfl
theorem wd_42 : (Cond.fieldLink "TriSplits$Tape" 11 "TriSplits$Tape" "bytes" "[B") ∈ ay_G := ay_t1 42 rfl rfl
theorem wd_43 : (Cond.fieldLink "TriSplits$Tape" 15 "TriSplits$Tape" "size" "I") ∈ ay_G := ay_t1 43 rfl rfl
theorem wd_44 : (Cond.laysFinal "TriSplits$Tape" "TriSplits$Tape" "bytes" "[B") ∈ ay_G := ay_t1 44 rfl rfl
theorem wd_45 : (Cond.soleField "TriSplits$Tape" "bytes") ∈ ay_G := ay_t1 45 rfl rfl
theorem wd_46 : (Cond.lays "TriSplits$Tape" "TriSplits$Tape" "size" "I") ∈ ay_G := ay_t1 46 rfl rfl
theorem wd_47 : (Cond.soleField "TriSplits$Tape" "size") ∈ ay_G := ay_t1 47 rfl rfl
theorem wd_48 : (Cond.superclass "TriSplits$Tape" "java/lang/Object") ∈ ay_G := ay_t1 48 rfl rfl
theorem wd_49 : (Cond.arrayClass FieldType.byte) ∈ ay_G := ay_t1 49 rfl rfl
theorem wd_50 : (Cond.fieldLink "TriSplits$Reader" 12 "TriSplits$Reader" "tape" "LTriSplits$Tape;") ∈ ay_G := ay_t1 50 rfl rfl
theorem wd_51 : (Cond.fieldLink "TriSplits$Reader" 20 "TriSplits$Reader" "polys" "[J") ∈ ay_G := ay_t1 51 rfl rfl
theorem wd_52 : (Cond.fieldLink "TriSplits$Reader" 24 "TriSplits$Reader" "opened" "[I") ∈ ay_G := ay_t1 52 rfl rfl
theorem wd_53 : (Cond.fieldLink "TriSplits$Reader" 42 "TriSplits$Reader" "at" "I") ∈ ay_G := ay_t1 53 rfl rfl
theorem wd_54 : (Cond.fieldLink "TriSplits$Reader" 45 "TriSplits$Reader" "open" "I") ∈ ay_G := ay_t1 54 rfl rfl
theorem wd_55 : (Cond.fieldLink "TriSplits$Reader" 28 "TriSplits$Reader" "fault" "I") ∈ ay_G := ay_t1 55 rfl rfl
theorem wd_56 : (Cond.fieldLink "TriSplits$Reader" 35 "TriSplits$Reader" "within" "I") ∈ ay_G := ay_t1 56 rfl rfl
theorem wd_57 : (Cond.fieldLink "TriSplits$Reader" 32 "TriSplits$Reader" "innermost" "I") ∈ ay_G := ay_t1 57 rfl rfl
theorem wd_58 : (Cond.laysFinal "TriSplits$Reader" "TriSplits$Reader" "tape" "LTriSplits$Tape;") ∈ ay_G := ay_t1 58 rfl rfl
theorem wd_59 : (Cond.soleField "TriSplits$Reader" "tape") ∈ ay_G := ay_t1 59 rfl rfl
theorem wd_60 : (Cond.laysFinal "TriSplits$Reader" "TriSplits$Reader" "polys" "[J") ∈ ay_G := ay_t1 60 rfl rfl
theorem wd_61 : (Cond.soleField "TriSplits$Reader" "polys") ∈ ay_G := ay_t1 61 rfl rfl
theorem wd_62 : (Cond.laysFinal "TriSplits$Reader" "TriSplits$Reader" "opened" "[I") ∈ ay_G := ay_t1 62 rfl rfl
theorem wd_63 : (Cond.soleField "TriSplits$Reader" "opened") ∈ ay_G := ay_t1 63 rfl rfl
theorem wd_64 : (Cond.lays "TriSplits$Reader" "TriSplits$Reader" "at" "I") ∈ ay_G := ay_t1 64 rfl rfl
theorem wd_65 : (Cond.soleField "TriSplits$Reader" "at") ∈ ay_G := ay_t1 65 rfl rfl
theorem wd_66 : (Cond.lays "TriSplits$Reader" "TriSplits$Reader" "open" "I") ∈ ay_G := ay_t1 66 rfl rfl
theorem wd_67 : (Cond.soleField "TriSplits$Reader" "open") ∈ ay_G := ay_t1 67 rfl rfl
theorem wd_68 : (Cond.lays "TriSplits$Reader" "TriSplits$Reader" "fault" "I") ∈ ay_G := ay_t1 68 rfl rfl
theorem wd_69 : (Cond.soleField "TriSplits$Reader" "fault") ∈ ay_G := ay_t1 69 rfl rfl
theorem wd_70 : (Cond.lays "TriSplits$Reader" "TriSplits$Reader" "within" "I") ∈ ay_G := ay_t1 70 rfl rfl
theorem wd_71 : (Cond.soleField "TriSplits$Reader" "within") ∈ ay_G := ay_t1 71 rfl rfl
theorem wd_72 : (Cond.lays "TriSplits$Reader" "TriSplits$Reader" "innermost" "I") ∈ ay_G := ay_t1 72 rfl rfl
theorem wd_73 : (Cond.soleField "TriSplits$Reader" "innermost") ∈ ay_G := ay_t1 73 rfl rfl
theorem wd_74 : (Cond.superclass "TriSplits$Reader" "java/lang/Object") ∈ ay_G := ay_t1 74 rfl rfl
theorem wd_75 : (Cond.arrayClass FieldType.long) ∈ ay_G := ay_t1 75 rfl rfl
theorem wd_76 : (Cond.arrayClass FieldType.int) ∈ ay_G := ay_t1 76 rfl rfl
theorem wd_77 : (Cond.classLink "TriSplits" 16 "TriSplits$Store") ∈ ay_G := ay_t1 77 rfl rfl
theorem wd_78 : (Cond.instantiable "TriSplits$Store" 6) ∈ ay_G := ay_t1 78 rfl rfl
theorem wd_79 : (Cond.methodLink "TriSplits" 18 y_Store_init) ∈ ay_G := ay_t1 79 rfl rfl
theorem wd_80 : (Cond.instanceMethod y_Store_init) ∈ ay_G := ay_t1 80 rfl rfl
theorem wd_81 : (Cond.code y_Store_init prog_11_method_1_code 1 none) ∈ ay_G := ay_t1 81 rfl rfl
theorem wd_82 : (Cond.methodLink "TriSplits$Store" 1 y_Object_init) ∈ ay_G := ay_t1 82 rfl rfl
theorem wd_83 : (Cond.fieldLink "TriSplits$Store" 9 "TriSplits$Store" "now" "[J") ∈ ay_G := ay_t1 83 rfl rfl
theorem wd_84 : (Cond.fieldLink "TriSplits$Store" 13 "TriSplits$Store" "past" "[J") ∈ ay_G := ay_t1 84 rfl rfl
theorem wd_85 : (Cond.fieldLink "TriSplits$Store" 16 "TriSplits$Store" "shelves" "[J") ∈ ay_G := ay_t1 85 rfl rfl
theorem wd_86 : (Cond.fieldLink "TriSplits$Store" 23 "TriSplits$Store" "undoable" "I") ∈ ay_G := ay_t1 86 rfl rfl
theorem wd_87 : (Cond.fieldLink "TriSplits$Store" 30 "TriSplits$Store" "slot" "I") ∈ ay_G := ay_t1 87 rfl rfl
theorem wd_88 : (Cond.fieldLink "TriSplits$Store" 27 "TriSplits$Store" "kept" "I") ∈ ay_G := ay_t1 88 rfl rfl
theorem wd_89 : (Cond.laysFinal "TriSplits$Store" "TriSplits$Store" "now" "[J") ∈ ay_G := ay_t1 89 rfl rfl
theorem wd_90 : (Cond.soleField "TriSplits$Store" "now") ∈ ay_G := ay_t1 90 rfl rfl
theorem wd_91 : (Cond.laysFinal "TriSplits$Store" "TriSplits$Store" "past" "[J") ∈ ay_G := ay_t1 91 rfl rfl
theorem wd_92 : (Cond.soleField "TriSplits$Store" "past") ∈ ay_G := ay_t1 92 rfl rfl
theorem wd_93 : (Cond.laysFinal "TriSplits$Store" "TriSplits$Store" "shelves" "[J") ∈ ay_G := ay_t1 93 rfl rfl
theorem wd_94 : (Cond.soleField "TriSplits$Store" "shelves") ∈ ay_G := ay_t1 94 rfl rfl
theorem wd_95 : (Cond.lays "TriSplits$Store" "TriSplits$Store" "undoable" "I") ∈ ay_G := ay_t1 95 rfl rfl
theorem wd_96 : (Cond.soleField "TriSplits$Store" "undoable") ∈ ay_G := ay_t1 96 rfl rfl
theorem wd_97 : (Cond.lays "TriSplits$Store" "TriSplits$Store" "slot" "I") ∈ ay_G := ay_t1 97 rfl rfl
theorem wd_98 : (Cond.soleField "TriSplits$Store" "slot") ∈ ay_G := ay_t1 98 rfl rfl
theorem wd_99 : (Cond.lays "TriSplits$Store" "TriSplits$Store" "kept" "I") ∈ ay_G := ay_t1 99 rfl rfl
theorem wd_100 : (Cond.soleField "TriSplits$Store" "kept") ∈ ay_G := ay_t1 100 rfl rfl
theorem wd_101 : (Cond.superclass "TriSplits$Store" "java/lang/Object") ∈ ay_G := ay_t1 101 rfl rfl
theorem wd_102 : (Cond.classLink "TriSplits" 23 "TriSplits$Factors") ∈ ay_G := ay_t1 102 rfl rfl
theorem wd_103 : (Cond.instantiable "TriSplits$Factors" 5) ∈ ay_G := ay_t1 103 rfl rfl
theorem wd_104 : (Cond.methodLink "TriSplits" 25 y_Factors_init) ∈ ay_G := ay_t1 104 rfl rfl
theorem wd_105 : (Cond.instanceMethod y_Factors_init) ∈ ay_G := ay_t1 105 rfl rfl
theorem wd_106 : (Cond.code y_Factors_init prog_2_method_1_code 1 none) ∈ ay_G := ay_t1 106 rfl rfl
theorem wd_107 : (Cond.methodLink "TriSplits$Factors" 1 y_Object_init) ∈ ay_G := ay_t1 107 rfl rfl
theorem wd_108 : (Cond.fieldLink "TriSplits$Factors" 9 "TriSplits$Factors" "bases" "[J") ∈ ay_G := ay_t1 108 rfl rfl
theorem wd_109 : (Cond.fieldLink "TriSplits$Factors" 13 "TriSplits$Factors" "times" "[I") ∈ ay_G := ay_t1 109 rfl rfl
theorem wd_110 : (Cond.fieldLink "TriSplits$Factors" 17 "TriSplits$Factors" "parts" "[J") ∈ ay_G := ay_t1 110 rfl rfl
theorem wd_111 : (Cond.fieldLink "TriSplits$Factors" 20 "TriSplits$Factors" "unlike" "I") ∈ ay_G := ay_t1 111 rfl rfl
theorem wd_112 : (Cond.fieldLink "TriSplits$Factors" 24 "TriSplits$Factors" "all" "I") ∈ ay_G := ay_t1 112 rfl rfl
theorem wd_113 : (Cond.laysFinal "TriSplits$Factors" "TriSplits$Factors" "bases" "[J") ∈ ay_G := ay_t1 113 rfl rfl
theorem wd_114 : (Cond.soleField "TriSplits$Factors" "bases") ∈ ay_G := ay_t1 114 rfl rfl
theorem wd_115 : (Cond.laysFinal "TriSplits$Factors" "TriSplits$Factors" "times" "[I") ∈ ay_G := ay_t1 115 rfl rfl
theorem wd_116 : (Cond.soleField "TriSplits$Factors" "times") ∈ ay_G := ay_t1 116 rfl rfl
theorem wd_117 : (Cond.laysFinal "TriSplits$Factors" "TriSplits$Factors" "parts" "[J") ∈ ay_G := ay_t1 117 rfl rfl
theorem wd_118 : (Cond.soleField "TriSplits$Factors" "parts") ∈ ay_G := ay_t1 118 rfl rfl
theorem wd_119 : (Cond.lays "TriSplits$Factors" "TriSplits$Factors" "unlike" "I") ∈ ay_G := ay_t1 119 rfl rfl
theorem wd_120 : (Cond.soleField "TriSplits$Factors" "unlike") ∈ ay_G := ay_t1 120 rfl rfl
theorem wd_121 : (Cond.lays "TriSplits$Factors" "TriSplits$Factors" "all" "I") ∈ ay_G := ay_t1 121 rfl rfl
theorem wd_122 : (Cond.soleField "TriSplits$Factors" "all") ∈ ay_G := ay_t1 122 rfl rfl
theorem wd_123 : (Cond.superclass "TriSplits$Factors" "java/lang/Object") ∈ ay_G := ay_t1 123 rfl rfl
theorem wd_124 : (Cond.classLink "TriSplits" 33 "TriSplits$Orders") ∈ ay_G := ay_t1 124 rfl rfl
theorem wd_125 : (Cond.instantiable "TriSplits$Orders" 2) ∈ ay_G := ay_t1 125 rfl rfl
theorem wd_126 : (Cond.methodLink "TriSplits" 35 y_Orders_init) ∈ ay_G := ay_t1 126 rfl rfl
theorem wd_127 : (Cond.instanceMethod y_Orders_init) ∈ ay_G := ay_t1 127 rfl rfl
theorem wd_128 : (Cond.code y_Orders_init prog_6_method_1_code 1 none) ∈ ay_G := ay_t1 128 rfl rfl
theorem wd_129 : (Cond.methodLink "TriSplits$Orders" 1 y_Object_init) ∈ ay_G := ay_t1 129 rfl rfl
theorem wd_130 : (Cond.fieldLink "TriSplits$Orders" 9 "TriSplits$Orders" "primes" "[J") ∈ ay_G := ay_t1 130 rfl rfl
theorem wd_131 : (Cond.fieldLink "TriSplits$Orders" 33 "TriSplits$Orders" "many" "I") ∈ ay_G := ay_t1 131 rfl rfl
theorem wd_132 : (Cond.laysFinal "TriSplits$Orders" "TriSplits$Orders" "primes" "[J") ∈ ay_G := ay_t1 132 rfl rfl
theorem wd_133 : (Cond.soleField "TriSplits$Orders" "primes") ∈ ay_G := ay_t1 133 rfl rfl
theorem wd_134 : (Cond.lays "TriSplits$Orders" "TriSplits$Orders" "many" "I") ∈ ay_G := ay_t1 134 rfl rfl
theorem wd_135 : (Cond.soleField "TriSplits$Orders" "many") ∈ ay_G := ay_t1 135 rfl rfl
theorem wd_136 : (Cond.superclass "TriSplits$Orders" "java/lang/Object") ∈ ay_G := ay_t1 136 rfl rfl
theorem wd_137 : (Cond.classLink "TriSplits" 40 "TriSplits$Families") ∈ ay_G := ay_t1 137 rfl rfl
theorem wd_138 : (Cond.instantiable "TriSplits$Families" 1) ∈ ay_G := ay_t1 138 rfl rfl
theorem wd_139 : (Cond.methodLink "TriSplits" 42 y_Families_init) ∈ ay_G := ay_t1 139 rfl rfl
theorem wd_140 : (Cond.instanceMethod y_Families_init) ∈ ay_G := ay_t1 140 rfl rfl
theorem wd_141 : (Cond.code y_Families_init prog_3_method_1_code 1 none) ∈ ay_G := ay_t1 141 rfl rfl
theorem wd_142 : (Cond.methodLink "TriSplits$Families" 3 y_Object_init) ∈ ay_G := ay_t1 142 rfl rfl
theorem wd_143 : (Cond.classLink "TriSplits$Families" 9 "TriSplits$Orders") ∈ ay_G := ay_t1 143 rfl rfl
theorem wd_144 : (Cond.methodLink "TriSplits$Families" 11 y_Orders_init) ∈ ay_G := ay_t1 144 rfl rfl
theorem wd_145 : (Cond.fieldLink "TriSplits$Families" 12 "TriSplits$Families" "orders" "LTriSplits$Orders;") ∈ ay_G := ay_t1 145 rfl rfl
theorem wd_146 : (Cond.laysFinal "TriSplits$Families" "TriSplits$Families" "orders" "LTriSplits$Orders;") ∈ ay_G := ay_t1 146 rfl rfl
theorem wd_147 : (Cond.soleField "TriSplits$Families" "orders") ∈ ay_G := ay_t1 147 rfl rfl
theorem wd_148 : (Cond.superclass "TriSplits$Families" "java/lang/Object") ∈ ay_G := ay_t1 148 rfl rfl
theorem wd_149 : (Cond.classLink "TriSplits" 47 "TriSplits$Field") ∈ ay_G := ay_t1 149 rfl rfl
theorem wd_150 : (Cond.instantiable "TriSplits$Field" 2) ∈ ay_G := ay_t1 150 rfl rfl
theorem wd_151 : (Cond.methodLink "TriSplits" 49 y_Field_init) ∈ ay_G := ay_t1 151 rfl rfl
theorem wd_152 : (Cond.instanceMethod y_Field_init) ∈ ay_G := ay_t1 152 rfl rfl
theorem wd_153 : (Cond.code y_Field_init prog_4_method_1_code 1 none) ∈ ay_G := ay_t1 153 rfl rfl
theorem wd_154 : (Cond.methodLink "TriSplits$Field" 3 y_Object_init) ∈ ay_G := ay_t1 154 rfl rfl
theorem wd_155 : (Cond.fieldLink "TriSplits$Field" 11 "TriSplits$Field" "coefficients" "[J") ∈ ay_G := ay_t1 155 rfl rfl
theorem wd_156 : (Cond.fieldLink "TriSplits$Field" 17 "TriSplits$Field" "powers" "[J") ∈ ay_G := ay_t1 156 rfl rfl
theorem wd_157 : (Cond.laysFinal "TriSplits$Field" "TriSplits$Field" "coefficients" "[J") ∈ ay_G := ay_t1 157 rfl rfl
theorem wd_158 : (Cond.soleField "TriSplits$Field" "coefficients") ∈ ay_G := ay_t1 158 rfl rfl
theorem wd_159 : (Cond.laysFinal "TriSplits$Field" "TriSplits$Field" "powers" "[J") ∈ ay_G := ay_t1 159 rfl rfl
theorem wd_160 : (Cond.soleField "TriSplits$Field" "powers") ∈ ay_G := ay_t1 160 rfl rfl
theorem wd_161 : (Cond.superclass "TriSplits$Field" "java/lang/Object") ∈ ay_G := ay_t1 161 rfl rfl
theorem wd_162 : (Cond.classLink "TriSplits" 54 "TriSplits$Rows") ∈ ay_G := ay_t1 162 rfl rfl
theorem wd_163 : (Cond.instantiable "TriSplits$Rows" 4) ∈ ay_G := ay_t1 163 rfl rfl
theorem wd_164 : (Cond.methodLink "TriSplits" 56 y_Rows_init) ∈ ay_G := ay_t1 164 rfl rfl
theorem wd_165 : (Cond.instanceMethod y_Rows_init) ∈ ay_G := ay_t1 165 rfl rfl
theorem wd_166 : (Cond.code y_Rows_init prog_9_method_1_code 1 none) ∈ ay_G := ay_t1 166 rfl rfl
theorem wd_167 : (Cond.methodLink "TriSplits$Rows" 1 y_Object_init) ∈ ay_G := ay_t1 167 rfl rfl
theorem wd_168 : (Cond.fieldLink "TriSplits$Rows" 9 "TriSplits$Rows" "row" "[J") ∈ ay_G := ay_t1 168 rfl rfl
theorem wd_169 : (Cond.fieldLink "TriSplits$Rows" 20 "TriSplits$Rows" "many" "I") ∈ ay_G := ay_t1 169 rfl rfl
theorem wd_170 : (Cond.fieldLink "TriSplits$Rows" 13 "TriSplits$Rows" "multipleN" "I") ∈ ay_G := ay_t1 170 rfl rfl
theorem wd_171 : (Cond.fieldLink "TriSplits$Rows" 17 "TriSplits$Rows" "multipleK" "I") ∈ ay_G := ay_t1 171 rfl rfl
theorem wd_172 : (Cond.laysFinal "TriSplits$Rows" "TriSplits$Rows" "row" "[J") ∈ ay_G := ay_t1 172 rfl rfl
theorem wd_173 : (Cond.soleField "TriSplits$Rows" "row") ∈ ay_G := ay_t1 173 rfl rfl
theorem wd_174 : (Cond.lays "TriSplits$Rows" "TriSplits$Rows" "many" "I") ∈ ay_G := ay_t1 174 rfl rfl
theorem wd_175 : (Cond.soleField "TriSplits$Rows" "many") ∈ ay_G := ay_t1 175 rfl rfl
theorem wd_176 : (Cond.lays "TriSplits$Rows" "TriSplits$Rows" "multipleN" "I") ∈ ay_G := ay_t1 176 rfl rfl
theorem wd_177 : (Cond.soleField "TriSplits$Rows" "multipleN") ∈ ay_G := ay_t1 177 rfl rfl
theorem wd_178 : (Cond.lays "TriSplits$Rows" "TriSplits$Rows" "multipleK" "I") ∈ ay_G := ay_t1 178 rfl rfl
theorem wd_179 : (Cond.soleField "TriSplits$Rows" "multipleK") ∈ ay_G := ay_t1 179 rfl rfl
theorem wd_180 : (Cond.superclass "TriSplits$Rows" "java/lang/Object") ∈ ay_G := ay_t1 180 rfl rfl
theorem wd_181 : (Cond.classLink "TriSplits" 61 "TriSplits$Letters") ∈ ay_G := ay_t1 181 rfl rfl
theorem wd_182 : (Cond.instantiable "TriSplits$Letters" 2) ∈ ay_G := ay_t1 182 rfl rfl
theorem wd_183 : (Cond.methodLink "TriSplits" 63 y_Letters_init) ∈ ay_G := ay_t1 183 rfl rfl
theorem wd_184 : (Cond.instanceMethod y_Letters_init) ∈ ay_G := ay_t1 184 rfl rfl
theorem wd_185 : (Cond.code y_Letters_init prog_5_method_1_code 1 none) ∈ ay_G := ay_t1 185 rfl rfl
theorem wd_186 : (Cond.methodLink "TriSplits$Letters" 3 y_Object_init) ∈ ay_G := ay_t1 186 rfl rfl
theorem wd_187 : (Cond.fieldLink "TriSplits$Letters" 11 "TriSplits$Letters" "bytes" "[B") ∈ ay_G := ay_t1 187 rfl rfl
theorem wd_188 : (Cond.fieldLink "TriSplits$Letters" 15 "TriSplits$Letters" "size" "I") ∈ ay_G := ay_t1 188 rfl rfl
theorem wd_189 : (Cond.laysFinal "TriSplits$Letters" "TriSplits$Letters" "bytes" "[B") ∈ ay_G := ay_t1 189 rfl rfl
theorem wd_190 : (Cond.soleField "TriSplits$Letters" "bytes") ∈ ay_G := ay_t1 190 rfl rfl
theorem wd_191 : (Cond.lays "TriSplits$Letters" "TriSplits$Letters" "size" "I") ∈ ay_G := ay_t1 191 rfl rfl
theorem wd_192 : (Cond.soleField "TriSplits$Letters" "size") ∈ ay_G := ay_t1 192 rfl rfl
theorem wd_193 : (Cond.superclass "TriSplits$Letters" "java/lang/Object") ∈ ay_G := ay_t1 193 rfl rfl
theorem wd_194 : (Cond.fieldLink "TriSplits" 10 "TriSplits" "reader" "LTriSplits$Reader;") ∈ ay_G := ay_t1 194 rfl rfl
theorem wd_195 : (Cond.fieldLink "TriSplits" 19 "TriSplits" "store" "LTriSplits$Store;") ∈ ay_G := ay_t1 195 rfl rfl
theorem wd_196 : (Cond.fieldLink "TriSplits" 26 "TriSplits" "factors" "LTriSplits$Factors;") ∈ ay_G := ay_t1 196 rfl rfl
theorem wd_197 : (Cond.fieldLink "TriSplits" 30 "TriSplits" "others" "LTriSplits$Factors;") ∈ ay_G := ay_t1 197 rfl rfl
theorem wd_198 : (Cond.fieldLink "TriSplits" 36 "TriSplits" "orders" "LTriSplits$Orders;") ∈ ay_G := ay_t1 198 rfl rfl
theorem wd_199 : (Cond.fieldLink "TriSplits" 43 "TriSplits" "families" "LTriSplits$Families;") ∈ ay_G := ay_t1 199 rfl rfl
theorem wd_200 : (Cond.fieldLink "TriSplits" 50 "TriSplits" "field" "LTriSplits$Field;") ∈ ay_G := ay_t1 200 rfl rfl
theorem wd_201 : (Cond.fieldLink "TriSplits" 57 "TriSplits" "rows" "LTriSplits$Rows;") ∈ ay_G := ay_t1 201 rfl rfl
theorem wd_202 : (Cond.fieldLink "TriSplits" 64 "TriSplits" "letters" "LTriSplits$Letters;") ∈ ay_G := ay_t1 202 rfl rfl
theorem wd_203 : (Cond.laysFinal "TriSplits" "TriSplits" "reader" "LTriSplits$Reader;") ∈ ay_G := ay_t1 203 rfl rfl
theorem wd_204 : (Cond.soleField "TriSplits" "reader") ∈ ay_G := ay_t1 204 rfl rfl
theorem wd_205 : (Cond.laysFinal "TriSplits" "TriSplits" "store" "LTriSplits$Store;") ∈ ay_G := ay_t1 205 rfl rfl
theorem wd_206 : (Cond.soleField "TriSplits" "store") ∈ ay_G := ay_t1 206 rfl rfl
theorem wd_207 : (Cond.laysFinal "TriSplits" "TriSplits" "factors" "LTriSplits$Factors;") ∈ ay_G := ay_t1 207 rfl rfl
theorem wd_208 : (Cond.soleField "TriSplits" "factors") ∈ ay_G := ay_t1 208 rfl rfl
theorem wd_209 : (Cond.laysFinal "TriSplits" "TriSplits" "others" "LTriSplits$Factors;") ∈ ay_G := ay_t1 209 rfl rfl
theorem wd_210 : (Cond.soleField "TriSplits" "others") ∈ ay_G := ay_t1 210 rfl rfl
theorem wd_211 : (Cond.laysFinal "TriSplits" "TriSplits" "orders" "LTriSplits$Orders;") ∈ ay_G := ay_t1 211 rfl rfl
theorem wd_212 : (Cond.soleField "TriSplits" "orders") ∈ ay_G := ay_t1 212 rfl rfl
theorem wd_213 : (Cond.laysFinal "TriSplits" "TriSplits" "families" "LTriSplits$Families;") ∈ ay_G := ay_t1 213 rfl rfl
theorem wd_214 : (Cond.soleField "TriSplits" "families") ∈ ay_G := ay_t1 214 rfl rfl
theorem wd_215 : (Cond.laysFinal "TriSplits" "TriSplits" "field" "LTriSplits$Field;") ∈ ay_G := ay_t1 215 rfl rfl
theorem wd_216 : (Cond.soleField "TriSplits" "field") ∈ ay_G := ay_t1 216 rfl rfl
theorem wd_217 : (Cond.laysFinal "TriSplits" "TriSplits" "rows" "LTriSplits$Rows;") ∈ ay_G := ay_t1 217 rfl rfl
theorem wd_218 : (Cond.soleField "TriSplits" "rows") ∈ ay_G := ay_t1 218 rfl rfl
theorem wd_219 : (Cond.laysFinal "TriSplits" "TriSplits" "letters" "LTriSplits$Letters;") ∈ ay_G := ay_t1 219 rfl rfl
theorem wd_220 : (Cond.soleField "TriSplits" "letters") ∈ ay_G := ay_t1 220 rfl rfl
theorem wd_221 : (Cond.superclass "TriSplits" "java/lang/Object") ∈ ay_G := ay_t1 221 rfl rfl
theorem wd_222 : (Cond.methodLink "TriSplitsLaw" 13 y_T_feed) ∈ ay_G := ay_t1 222 rfl rfl
theorem wd_223 : (Cond.instanceMethod y_T_feed) ∈ ay_G := ay_t1 223 rfl rfl
theorem wd_224 : (Cond.selects "TriSplits" y_T_feed y_T_feed) ∈ ay_G := ay_t1 224 rfl rfl
theorem wd_225 : (Cond.code y_T_feed prog_1_method_2_code 7 (some FieldType.int)) ∈ ay_G := ay_t1 225 rfl rfl
theorem wd_226 : (Cond.methodLink "TriSplits" 68 y_Reader_tape) ∈ ay_G := ay_t1 226 rfl rfl
theorem wd_227 : (Cond.instanceMethod y_Reader_tape) ∈ ay_G := ay_t1 227 rfl rfl
theorem wd_228 : (Cond.selects "TriSplits$Reader" y_Reader_tape y_Reader_tape) ∈ ay_G := ay_t1 228 rfl rfl
theorem wd_229 : (Cond.code y_Reader_tape prog_8_method_2_code 1 (some (FieldType.object "TriSplits$Tape"))) ∈ ay_G := ay_t1 229 rfl rfl
theorem wd_230 : (Cond.methodLink "TriSplits" 72 y_Tape_hasRoom) ∈ ay_G := ay_t1 230 rfl rfl
theorem wd_231 : (Cond.instanceMethod y_Tape_hasRoom) ∈ ay_G := ay_t1 231 rfl rfl
theorem wd_232 : (Cond.selects "TriSplits$Tape" y_Tape_hasRoom y_Tape_hasRoom) ∈ ay_G := ay_t1 232 rfl rfl
theorem wd_233 : (Cond.code y_Tape_hasRoom prog_12_method_3_code 2 (some FieldType.boolean)) ∈ ay_G := ay_t1 233 rfl rfl
theorem wd_234 : (Cond.methodLink "TriSplits" 78 y_Tape_write) ∈ ay_G := ay_t1 234 rfl rfl
theorem wd_235 : (Cond.instanceMethod y_Tape_write) ∈ ay_G := ay_t1 235 rfl rfl
theorem wd_236 : (Cond.selects "TriSplits$Tape" y_Tape_write y_Tape_write) ∈ ay_G := ay_t1 236 rfl rfl
theorem wd_237 : (Cond.code y_Tape_write prog_12_method_5_code 3 none) ∈ ay_G := ay_t1 237 rfl rfl
theorem wd_238 : (Cond.methodLink "TriSplits" 82 y_Tape_size) ∈ ay_G := ay_t1 238 rfl rfl
theorem wd_239 : (Cond.instanceMethod y_Tape_size) ∈ ay_G := ay_t1 239 rfl rfl
theorem wd_240 : (Cond.selects "TriSplits$Tape" y_Tape_size y_Tape_size) ∈ ay_G := ay_t2 0 rfl rfl
theorem wd_241 : (Cond.code y_Tape_size prog_12_method_2_code 1 (some FieldType.int)) ∈ ay_G := ay_t2 1 rfl rfl
theorem wd_242 : (Cond.methodLink "TriSplitsLaw" 18 y_T_end) ∈ ay_G := ay_t2 2 rfl rfl
theorem wd_243 : (Cond.instanceMethod y_T_end) ∈ ay_G := ay_t2 3 rfl rfl
theorem wd_244 : (Cond.selects "TriSplits" y_T_end y_T_end) ∈ ay_G := ay_t2 4 rfl rfl
theorem wd_245 : (Cond.code y_T_end prog_1_method_3_code 2 (some FieldType.int)) ∈ ay_G := ay_t2 5 rfl rfl
theorem wd_246 : (Cond.methodLink "TriSplits" 86 y_Tape_cut) ∈ ay_G := ay_t2 6 rfl rfl
theorem wd_247 : (Cond.instanceMethod y_Tape_cut) ∈ ay_G := ay_t2 7 rfl rfl
theorem wd_248 : (Cond.selects "TriSplits$Tape" y_Tape_cut y_Tape_cut) ∈ ay_G := ay_t2 8 rfl rfl
theorem wd_249 : (Cond.code y_Tape_cut prog_12_method_6_code 2 (some FieldType.boolean)) ∈ ay_G := ay_t2 9 rfl rfl
theorem wd_250 : (Cond.methodLink "TriSplitsLaw" 23 y_T_run) ∈ ay_G := ay_t2 10 rfl rfl
theorem wd_251 : (Cond.instanceMethod y_T_run) ∈ ay_G := ay_t2 11 rfl rfl
theorem wd_252 : (Cond.selects "TriSplits" y_T_run y_T_run) ∈ ay_G := ay_t2 12 rfl rfl
theorem wd_253 : (Cond.code y_T_run prog_1_method_4_code 2 (some FieldType.int)) ∈ ay_G := ay_t2 13 rfl rfl
theorem wd_254 : (Cond.methodLink "TriSplits" 89 y_Reader_readText) ∈ ay_G := ay_t2 14 rfl rfl
theorem wd_255 : (Cond.instanceMethod y_Reader_readText) ∈ ay_G := ay_t2 15 rfl rfl
theorem wd_256 : (Cond.selects "TriSplits$Reader" y_Reader_readText y_Reader_readText) ∈ ay_G := ay_t2 16 rfl rfl
theorem wd_257 : (Cond.code y_Reader_readText prog_8_method_6_code 4 (some FieldType.int)) ∈ ay_G := ay_t2 17 rfl rfl
theorem wd_258 : (Cond.methodLink "TriSplits$Reader" 38 y_Store_polyAt) ∈ ay_G := ay_t2 18 rfl rfl
theorem wd_259 : (Cond.instanceMethod y_Store_polyAt) ∈ ay_G := ay_t2 19 rfl rfl
theorem wd_260 : (Cond.selects "TriSplits$Store" y_Store_polyAt y_Store_polyAt) ∈ ay_G := ay_t2 20 rfl rfl
theorem wd_261 : (Cond.code y_Store_polyAt prog_11_method_4_code 2 (some FieldType.long)) ∈ ay_G := ay_t2 21 rfl rfl
theorem wd_262 : (Cond.methodLink "TriSplits$Store" 19 y_Store_isPlace) ∈ ay_G := ay_t2 22 rfl rfl
theorem wd_263 : (Cond.static y_Store_isPlace) ∈ ay_G := ay_t2 23 rfl rfl
theorem wd_264 : (Cond.code y_Store_isPlace prog_11_method_2_code 1 (some FieldType.boolean)) ∈ ay_G := ay_t2 24 rfl rfl
theorem wd_265 : (Cond.methodLink "TriSplits$Reader" 48 y_Reader_readStatement) ∈ ay_G := ay_t2 25 rfl rfl
theorem wd_267 : (Cond.instanceMethod y_Reader_readStatement) ∈ ay_G := ay_t2 27 rfl rfl
theorem wd_268 : (Cond.code y_Reader_readStatement prog_8_method_11_code 4 none) ∈ ay_G := ay_t2 28 rfl rfl
theorem wd_269 : (Cond.methodLink "TriSplits$Reader" 73 y_Reader_readNumber) ∈ ay_G := ay_t2 29 rfl rfl
theorem wd_271 : (Cond.instanceMethod y_Reader_readNumber) ∈ ay_G := ay_t2 31 rfl rfl
theorem wd_272 : (Cond.code y_Reader_readNumber prog_8_method_19_code 6 (some FieldType.int)) ∈ ay_G := ay_t2 32 rfl rfl
theorem wd_273 : (Cond.methodLink "TriSplits$Reader" 51 y_Reader_peek) ∈ ay_G := ay_t2 33 rfl rfl
theorem wd_275 : (Cond.instanceMethod y_Reader_peek) ∈ ay_G := ay_t2 35 rfl rfl
theorem wd_276 : (Cond.code y_Reader_peek prog_8_method_9_code 2 (some FieldType.int)) ∈ ay_G := ay_t2 36 rfl rfl
theorem wd_277 : (Cond.methodLink "TriSplits$Reader" 63 y_Tape_size) ∈ ay_G := ay_t2 37 rfl rfl
theorem wd_278 : (Cond.methodLink "TriSplits$Reader" 66 y_Tape_at) ∈ ay_G := ay_t2 38 rfl rfl
theorem wd_279 : (Cond.instanceMethod y_Tape_at) ∈ ay_G := ay_t2 39 rfl rfl
theorem wd_280 : (Cond.selects "TriSplits$Tape" y_Tape_at y_Tape_at) ∈ ay_G := ay_t2 40 rfl rfl
theorem wd_281 : (Cond.code y_Tape_at prog_12_method_4_code 2 (some FieldType.int)) ∈ ay_G := ay_t2 41 rfl rfl
theorem wd_282 : (Cond.methodLink "TriSplits$Reader" 99 y_Reader_isDigit) ∈ ay_G := ay_t2 42 rfl rfl
theorem wd_283 : (Cond.static y_Reader_isDigit) ∈ ay_G := ay_t2 43 rfl rfl
theorem wd_284 : (Cond.code y_Reader_isDigit prog_8_method_22_code 1 (some FieldType.boolean)) ∈ ay_G := ay_t2 44 rfl rfl
theorem wd_285 : (Cond.methodLink "TriSplits$Reader" 69 y_Reader_fail) ∈ ay_G := ay_t2 45 rfl rfl
theorem wd_287 : (Cond.instanceMethod y_Reader_fail) ∈ ay_G := ay_t2 47 rfl rfl
theorem wd_288 : (Cond.code y_Reader_fail prog_8_method_8_code 3 (some FieldType.long)) ∈ ay_G := ay_t2 48 rfl rfl
theorem wd_289 : (Cond.methodLink "TriSplits$Reader" 147 y_Math_min) ∈ ay_G := ay_t2 49 rfl rfl
theorem wd_290 : (Cond.static y_Math_min) ∈ ay_G := ay_t2 50 rfl rfl
theorem wd_291 : (Cond.code y_Math_min prog_17_method_69_code 2 (some FieldType.int)) ∈ ay_G := ay_t2 51 rfl rfl
theorem wd_292 : (Cond.methodLink "TriSplits$Reader" 55 y_Reader_readSign) ∈ ay_G := ay_t2 52 rfl rfl
theorem wd_294 : (Cond.instanceMethod y_Reader_readSign) ∈ ay_G := ay_t2 54 rfl rfl
theorem wd_295 : (Cond.code y_Reader_readSign prog_8_method_10_code 2 (some FieldType.boolean)) ∈ ay_G := ay_t2 55 rfl rfl
theorem wd_296 : (Cond.methodLink "TriSplits$Reader" 77 y_Reader_readSum) ∈ ay_G := ay_t2 56 rfl rfl
theorem wd_298 : (Cond.instanceMethod y_Reader_readSum) ∈ ay_G := ay_t2 58 rfl rfl
theorem wd_299 : (Cond.code y_Reader_readSum prog_8_method_12_code 4 (some FieldType.long)) ∈ ay_G := ay_t2 59 rfl rfl
theorem wd_300 : (Cond.methodLink "TriSplits$Reader" 81 y_Reader_readProduct) ∈ ay_G := ay_t2 60 rfl rfl
theorem wd_302 : (Cond.instanceMethod y_Reader_readProduct) ∈ ay_G := ay_t2 62 rfl rfl
theorem wd_303 : (Cond.code y_Reader_readProduct prog_8_method_13_code 7 (some FieldType.long)) ∈ ay_G := ay_t2 63 rfl rfl
theorem wd_304 : (Cond.methodLink "TriSplits$Reader" 84 y_Reader_readPower) ∈ ay_G := ay_t2 64 rfl rfl
theorem wd_306 : (Cond.instanceMethod y_Reader_readPower) ∈ ay_G := ay_t2 66 rfl rfl
theorem wd_307 : (Cond.code y_Reader_readPower prog_8_method_15_code 8 (some FieldType.long)) ∈ ay_G := ay_t2 67 rfl rfl
theorem wd_308 : (Cond.methodLink "TriSplits$Reader" 106 y_Reader_readOne) ∈ ay_G := ay_t2 68 rfl rfl
theorem wd_310 : (Cond.instanceMethod y_Reader_readOne) ∈ ay_G := ay_t2 70 rfl rfl
theorem wd_311 : (Cond.code y_Reader_readOne prog_8_method_16_code 4 (some FieldType.long)) ∈ ay_G := ay_t2 71 rfl rfl
theorem wd_312 : (Cond.methodLink "TriSplits$Reader" 113 y_Reader_readNested) ∈ ay_G := ay_t2 72 rfl rfl
theorem wd_314 : (Cond.instanceMethod y_Reader_readNested) ∈ ay_G := ay_t2 74 rfl rfl
theorem wd_315 : (Cond.code y_Reader_readNested prog_8_method_18_code 3 (some FieldType.long)) ∈ ay_G := ay_t2 75 rfl rfl
theorem wd_316 : (Cond.methodLink "TriSplits$Reader" 116 y_Reader_readLetters) ∈ ay_G := ay_t2 76 rfl rfl
theorem wd_318 : (Cond.instanceMethod y_Reader_readLetters) ∈ ay_G := ay_t2 78 rfl rfl
theorem wd_319 : (Cond.code y_Reader_readLetters prog_8_method_20_code 2 none) ∈ ay_G := ay_t2 79 rfl rfl
theorem wd_320 : (Cond.methodLink "TriSplits$Reader" 103 y_Reader_isSmallLetter) ∈ ay_G := ay_t2 80 rfl rfl
theorem wd_321 : (Cond.static y_Reader_isSmallLetter) ∈ ay_G := ay_t2 81 rfl rfl
theorem wd_322 : (Cond.code y_Reader_isSmallLetter prog_8_method_23_code 1 (some FieldType.boolean)) ∈ ay_G := ay_t2 82 rfl rfl
theorem wd_323 : (Cond.stringRef "TriSplits$Reader" 119 "x") ∈ lw_tbl := ay_u2 83 rfl
theorem wd_324 : (Cond.methodLink "TriSplits$Reader" 121 y_Reader_isWord) ∈ ay_G := ay_t2 84 rfl rfl
theorem wd_326 : (Cond.instanceMethod y_Reader_isWord) ∈ ay_G := ay_t2 86 rfl rfl
theorem wd_327 : (Cond.code y_Reader_isWord prog_8_method_21_code 4 (some FieldType.boolean)) ∈ ay_G := ay_t2 87 rfl rfl
theorem wd_328 : (Cond.methodLink "TriSplits$Reader" 152 y_String_length) ∈ ay_G := ay_t2 88 rfl rfl
theorem wd_329 : (Cond.instanceMethod y_String_length) ∈ ay_G := ay_t2 89 rfl rfl
theorem wd_330 : (Cond.selects "java/lang/String" y_String_length y_String_length) ∈ ay_G := ay_t2 90 rfl rfl
theorem wd_331 : (Cond.code y_String_length prog_18_method_54_code 1 (some FieldType.int)) ∈ ay_G := ay_t2 91 rfl rfl
theorem wd_332 : (Cond.methodLink "java/lang/String" 335 y_String_coder) ∈ ay_G := ay_t2 92 rfl rfl
theorem wd_333 : (Cond.instanceMethod y_String_coder) ∈ ay_G := ay_t2 93 rfl rfl
theorem wd_334 : (Cond.selects "java/lang/String" y_String_coder y_String_coder) ∈ ay_G := ay_t2 94 rfl rfl
theorem wd_335 : (Cond.code y_String_coder prog_18_method_152_code 1 (some FieldType.byte)) ∈ ay_G := ay_t2 95 rfl rfl
theorem wd_336 : (Cond.fieldLink "java/lang/String" 38 "java/lang/String" "COMPACT_STRINGS" "Z") ∈ ay_G := ay_t2 96 rfl rfl
theorem wd_337 : (Cond.laysStatic "java/lang/String" "COMPACT_STRINGS" "Z") ∈ lw_tbl := ay_u2 97 rfl
theorem wd_338 : (Cond.methodLink "TriSplits$Reader" 157 y_String_charAt) ∈ ay_G := ay_t2 98 rfl rfl
theorem wd_339 : (Cond.instanceMethod y_String_charAt) ∈ ay_G := ay_t2 99 rfl rfl
theorem wd_340 : (Cond.selects "java/lang/String" y_String_charAt y_String_charAt) ∈ ay_G := ay_t2 100 rfl rfl
theorem wd_341 : (Cond.code y_String_charAt prog_18_method_56_code 2 (some FieldType.char)) ∈ ay_G := ay_t2 101 rfl rfl
theorem wd_342 : (Cond.methodLink "java/lang/String" 492 y_String_isLatin1) ∈ ay_G := ay_t2 102 rfl rfl
theorem wd_343 : (Cond.instanceMethod y_String_isLatin1) ∈ ay_G := ay_t2 103 rfl rfl
theorem wd_344 : (Cond.selects "java/lang/String" y_String_isLatin1 y_String_isLatin1) ∈ ay_G := ay_t2 104 rfl rfl
theorem wd_345 : (Cond.code y_String_isLatin1 prog_18_method_154_code 1 (some FieldType.boolean)) ∈ ay_G := ay_t2 105 rfl rfl
theorem wd_346 : (Cond.methodLink "java/lang/String" 495 y_StringLatin1_charAt) ∈ ay_G := ay_t2 106 rfl rfl
theorem wd_347 : (Cond.static y_StringLatin1_charAt) ∈ ay_G := ay_t2 107 rfl rfl
theorem wd_348 : (Cond.code y_StringLatin1_charAt prog_19_method_2_code 2 (some FieldType.char)) ∈ ay_G := ay_t2 108 rfl rfl
theorem wd_349 : (Cond.methodLink "java/lang/StringLatin1" 9 y_String_checkIndex) ∈ ay_G := ay_t2 109 rfl rfl
theorem wd_350 : (Cond.static y_String_checkIndex) ∈ ay_G := ay_t2 110 rfl rfl
theorem wd_351 : (Cond.code y_String_checkIndex prog_18_method_155_code 2 none) ∈ ay_G := ay_t2 111 rfl rfl
theorem wd_352 : (Cond.fieldLink "java/lang/String" 1053 "jdk/internal/util/Preconditions" "SIOOBE_FORMATTER" "Ljava/util/function/BiFunction;") ∈ ay_G := ay_t2 112 rfl rfl
theorem wd_353 : (Cond.laysStatic "jdk/internal/util/Preconditions" "SIOOBE_FORMATTER" "Ljava/util/function/BiFunction;") ∈ lw_tbl := ay_u2 113 rfl
theorem wd_354 : (Cond.methodLink "java/lang/String" 1059 y_Preconditions_checkIndex) ∈ ay_G := ay_t2 114 rfl rfl
theorem wd_355 : (Cond.static y_Preconditions_checkIndex) ∈ ay_G := ay_t2 115 rfl rfl
theorem wd_356 : (Cond.code y_Preconditions_checkIndex prog_22_method_11_code 3 (some FieldType.int)) ∈ ay_G := ay_t2 116 rfl rfl
theorem wd_357 : (Cond.methodLink "java/lang/String" 498 y_StringUTF16_charAt) ∈ ay_G := ay_t2 117 rfl rfl
theorem wd_358 : (Cond.static y_StringUTF16_charAt) ∈ ay_G := ay_t2 118 rfl rfl
theorem wd_359 : (Cond.code y_StringUTF16_charAt prog_20_method_83_code 2 (some FieldType.char)) ∈ ay_G := ay_t2 119 rfl rfl
theorem wd_360 : (Cond.methodLink "java/lang/StringUTF16" 67 y_StringUTF16_checkIndex) ∈ ay_G := ay_t2 120 rfl rfl
theorem wd_361 : (Cond.static y_StringUTF16_checkIndex) ∈ ay_G := ay_t2 121 rfl rfl
theorem wd_362 : (Cond.code y_StringUTF16_checkIndex prog_20_method_91_code 2 none) ∈ ay_G := ay_t2 122 rfl rfl
theorem wd_363 : (Cond.methodLink "java/lang/StringUTF16" 48 y_StringUTF16_length) ∈ ay_G := ay_t2 123 rfl rfl
theorem wd_364 : (Cond.static y_StringUTF16_length) ∈ ay_G := ay_t2 124 rfl rfl
theorem wd_365 : (Cond.code y_StringUTF16_length prog_20_method_6_code 1 (some FieldType.int)) ∈ ay_G := ay_t2 125 rfl rfl
theorem wd_366 : (Cond.methodLink "java/lang/StringUTF16" 414 y_String_checkIndex) ∈ ay_G := ay_t2 126 rfl rfl
theorem wd_367 : (Cond.methodLink "java/lang/StringUTF16" 71 y_StringUTF16_getChar) ∈ ay_G := ay_t2 127 rfl rfl
theorem wd_368 : (Cond.static y_StringUTF16_getChar) ∈ ay_G := ay_t2 128 rfl rfl
theorem wd_369 : (Cond.code y_StringUTF16_getChar prog_20_method_5_code 2 (some FieldType.char)) ∈ ay_G := ay_t2 129 rfl rfl
theorem wd_370 : (Cond.fieldLink "java/lang/StringUTF16" 44 "java/lang/StringUTF16" "$assertionsDisabled" "Z") ∈ ay_G := ay_t2 130 rfl rfl
theorem wd_371 : (Cond.laysStatic "java/lang/StringUTF16" "$assertionsDisabled" "Z") ∈ lw_tbl := ay_u2 131 rfl
theorem wd_372 : (Cond.fieldLink "java/lang/StringUTF16" 59 "java/lang/StringUTF16" "HI_BYTE_SHIFT" "I") ∈ ay_G := ay_t2 132 rfl rfl
theorem wd_373 : (Cond.laysStatic "java/lang/StringUTF16" "HI_BYTE_SHIFT" "I") ∈ lw_tbl := ay_u2 133 rfl
theorem wd_374 : (Cond.fieldLink "java/lang/StringUTF16" 63 "java/lang/StringUTF16" "LO_BYTE_SHIFT" "I") ∈ ay_G := ay_t2 134 rfl rfl
theorem wd_375 : (Cond.laysStatic "java/lang/StringUTF16" "LO_BYTE_SHIFT" "I") ∈ lw_tbl := ay_u2 135 rfl
theorem wd_376 : (Cond.constantLong "TriSplits$Reader" 125 2) ∈ ay_G := ay_t2 136 rfl rfl
theorem wd_377 : (Cond.stringRef "TriSplits$Reader" 127 "p") ∈ lw_tbl := ay_u2 137 rfl
theorem wd_378 : (Cond.stringRef "TriSplits$Reader" 129 "tri") ∈ lw_tbl := ay_u2 138 rfl
theorem wd_379 : (Cond.methodLink "TriSplits$Reader" 131 y_Reader_readTri) ∈ ay_G := ay_t2 139 rfl rfl
theorem wd_381 : (Cond.instanceMethod y_Reader_readTri) ∈ ay_G := ay_t2 141 rfl rfl
theorem wd_382 : (Cond.code y_Reader_readTri prog_8_method_17_code 3 (some FieldType.long)) ∈ ay_G := ay_t2 142 rfl rfl
theorem wd_383 : (Cond.methodLink "TriSplits$Reader" 145 y_Polys_tri) ∈ ay_G := ay_t2 143 rfl rfl
theorem wd_384 : (Cond.static y_Polys_tri) ∈ ay_G := ay_t2 144 rfl rfl
theorem wd_385 : (Cond.code y_Polys_tri prog_7_method_3_code 2 (some FieldType.long)) ∈ ay_G := ay_t2 145 rfl rfl
theorem wd_386 : (Cond.stringRef "TriSplits$Reader" 134 "rev") ∈ lw_tbl := ay_u2 146 rfl
theorem wd_387 : (Cond.methodLink "TriSplits$Reader" 136 y_Polys_reversed) ∈ ay_G := ay_t2 147 rfl rfl
theorem wd_388 : (Cond.static y_Polys_reversed) ∈ ay_G := ay_t2 148 rfl rfl
theorem wd_389 : (Cond.code y_Polys_reversed prog_7_method_16_code 6 (some FieldType.long)) ∈ ay_G := ay_t2 149 rfl rfl
theorem wd_390 : (Cond.methodLink "TriSplits$Polys" 23 y_Polys_degree) ∈ ay_G := ay_t2 150 rfl rfl
theorem wd_391 : (Cond.static y_Polys_degree) ∈ ay_G := ay_t2 151 rfl rfl
theorem wd_392 : (Cond.code y_Polys_degree prog_7_method_2_code 2 (some FieldType.int)) ∈ ay_G := ay_t2 152 rfl rfl
theorem wd_393 : (Cond.methodLink "TriSplits$Polys" 7 y_Long_numberOfLeadingZeros) ∈ ay_G := ay_t2 153 rfl rfl
theorem wd_394 : (Cond.static y_Long_numberOfLeadingZeros) ∈ ay_G := ay_t2 154 rfl rfl
theorem wd_395 : (Cond.code y_Long_numberOfLeadingZeros prog_16_method_48_code 3 (some FieldType.int)) ∈ ay_G := ay_t2 155 rfl rfl
theorem wd_396 : (Cond.methodLink "java/lang/Long" 308 y_Integer_numberOfLeadingZeros) ∈ ay_G := ay_t2 156 rfl rfl
theorem wd_397 : (Cond.static y_Integer_numberOfLeadingZeros) ∈ ay_G := ay_t2 157 rfl rfl
theorem wd_398 : (Cond.code y_Integer_numberOfLeadingZeros prog_15_method_47_code 2 (some FieldType.int)) ∈ ay_G := ay_t2 158 rfl rfl
theorem wd_399 : (Cond.constant "java/lang/Integer" 264 65536) ∈ ay_G := ay_t2 159 rfl rfl
theorem wd_400 : (Cond.stringRef "TriSplits$Reader" 140 "der") ∈ lw_tbl := ay_u2 160 rfl
theorem wd_401 : (Cond.methodLink "TriSplits$Reader" 142 y_Polys_derived) ∈ ay_G := ay_t2 161 rfl rfl
theorem wd_402 : (Cond.static y_Polys_derived) ∈ ay_G := ay_t2 162 rfl rfl
theorem wd_403 : (Cond.code y_Polys_derived prog_7_method_17_code 2 (some FieldType.long)) ∈ ay_G := ay_t2 163 rfl rfl
theorem wd_404 : (Cond.constantLong "TriSplits$Polys" 21 6148914691236517205) ∈ ay_G := ay_t2 164 rfl rfl
theorem wd_405 : (Cond.methodLink "TriSplits$Reader" 109 y_Polys_degree) ∈ ay_G := ay_t2 165 rfl rfl
theorem wd_406 : (Cond.methodLink "TriSplits$Reader" 91 y_Polys_product) ∈ ay_G := ay_t2 166 rfl rfl
theorem wd_407 : (Cond.static y_Polys_product) ∈ ay_G := ay_t2 167 rfl rfl
theorem wd_408 : (Cond.code y_Polys_product prog_7_method_4_code 7 (some FieldType.long)) ∈ ay_G := ay_t2 168 rfl rfl
theorem wd_409 : (Cond.methodLink "TriSplits$Reader" 87 y_Reader_isPowerAhead) ∈ ay_G := ay_t2 169 rfl rfl
theorem wd_411 : (Cond.instanceMethod y_Reader_isPowerAhead) ∈ ay_G := ay_t2 171 rfl rfl
theorem wd_412 : (Cond.code y_Reader_isPowerAhead prog_8_method_14_code 2 (some FieldType.boolean)) ∈ ay_G := ay_t2 172 rfl rfl
theorem wd_413 : (Cond.constantLong "TriSplits$Reader" 97 4294967295) ∈ ay_G := ay_t2 173 rfl rfl
theorem wd_414 : (Cond.methodLink "TriSplits" 93 y_Reader_latestFault) ∈ ay_G := ay_t2 174 rfl rfl
theorem wd_415 : (Cond.instanceMethod y_Reader_latestFault) ∈ ay_G := ay_t2 175 rfl rfl
theorem wd_416 : (Cond.selects "TriSplits$Reader" y_Reader_latestFault y_Reader_latestFault) ∈ ay_G := ay_t2 176 rfl rfl
theorem wd_417 : (Cond.code y_Reader_latestFault prog_8_method_3_code 1 (some FieldType.int)) ∈ ay_G := ay_t2 177 rfl rfl
theorem wd_418 : (Cond.methodLink "TriSplits" 96 y_Store_remember) ∈ ay_G := ay_t2 178 rfl rfl
theorem wd_419 : (Cond.instanceMethod y_Store_remember) ∈ ay_G := ay_t2 179 rfl rfl
theorem wd_420 : (Cond.selects "TriSplits$Store" y_Store_remember y_Store_remember) ∈ ay_G := ay_t2 180 rfl rfl
theorem wd_421 : (Cond.code y_Store_remember prog_11_method_14_code 1 none) ∈ ay_G := ay_t2 181 rfl rfl
theorem wd_422 : (Cond.methodLink "TriSplits$Store" 33 y_Store_copyRow) ∈ ay_G := ay_t2 182 rfl rfl
theorem wd_423 : (Cond.static y_Store_copyRow) ∈ ay_G := ay_t2 183 rfl rfl
theorem wd_424 : (Cond.code y_Store_copyRow prog_11_method_21_code 6 none) ∈ ay_G := ay_t2 184 rfl rfl
theorem wd_425 : (Cond.methodLink "TriSplits$Store" 62 y_System_arraycopy) ∈ ay_G := ay_t2 185 rfl rfl
theorem wd_426 : (Cond.static y_System_arraycopy) ∈ ay_G := ay_t2 186 rfl rfl
theorem wd_427 : (Cond.native y_System_arraycopy) ∈ ay_G := ay_t2 187 rfl rfl
theorem wd_428 : (Cond.methodLink "TriSplits$Store" 37 y_Math_min) ∈ ay_G := ay_t2 188 rfl rfl
theorem wd_429 : (Cond.methodLink "TriSplits" 99 y_Reader_handOver) ∈ ay_G := ay_t2 189 rfl rfl
theorem wd_430 : (Cond.instanceMethod y_Reader_handOver) ∈ ay_G := ay_t2 190 rfl rfl
theorem wd_431 : (Cond.selects "TriSplits$Reader" y_Reader_handOver y_Reader_handOver) ∈ ay_G := ay_t2 191 rfl rfl
theorem wd_432 : (Cond.code y_Reader_handOver prog_8_method_7_code 3 none) ∈ ay_G := ay_t2 192 rfl rfl
theorem wd_433 : (Cond.methodLink "TriSplits$Reader" 59 y_Store_write) ∈ ay_G := ay_t2 193 rfl rfl
theorem wd_434 : (Cond.instanceMethod y_Store_write) ∈ ay_G := ay_t2 194 rfl rfl
theorem wd_435 : (Cond.selects "TriSplits$Store" y_Store_write y_Store_write) ∈ ay_G := ay_t2 195 rfl rfl
theorem wd_436 : (Cond.code y_Store_write prog_11_method_5_code 4 none) ∈ ay_G := ay_t2 196 rfl rfl
theorem wd_437 : (Cond.methodLink "TriSplitsLaw" 28 y_T_fault) ∈ ay_G := ay_t2 197 rfl rfl
theorem wd_438 : (Cond.instanceMethod y_T_fault) ∈ ay_G := ay_t2 198 rfl rfl
theorem wd_439 : (Cond.selects "TriSplits" y_T_fault y_T_fault) ∈ ay_G := ay_t2 199 rfl rfl
theorem wd_440 : (Cond.code y_T_fault prog_1_method_5_code 2 (some FieldType.int)) ∈ ay_G := ay_t2 200 rfl rfl
theorem wd_441 : (Cond.methodLink "TriSplits" 103 y_Reader_within) ∈ ay_G := ay_t2 201 rfl rfl
theorem wd_442 : (Cond.instanceMethod y_Reader_within) ∈ ay_G := ay_t2 202 rfl rfl
theorem wd_443 : (Cond.selects "TriSplits$Reader" y_Reader_within y_Reader_within) ∈ ay_G := ay_t2 203 rfl rfl
theorem wd_444 : (Cond.code y_Reader_within prog_8_method_4_code 1 (some FieldType.int)) ∈ ay_G := ay_t2 204 rfl rfl
theorem wd_445 : (Cond.methodLink "TriSplits" 106 y_Reader_innermost) ∈ ay_G := ay_t2 205 rfl rfl
theorem wd_446 : (Cond.instanceMethod y_Reader_innermost) ∈ ay_G := ay_t2 206 rfl rfl
theorem wd_447 : (Cond.selects "TriSplits$Reader" y_Reader_innermost y_Reader_innermost) ∈ ay_G := ay_t2 207 rfl rfl
theorem wd_448 : (Cond.code y_Reader_innermost prog_8_method_5_code 1 (some FieldType.int)) ∈ ay_G := ay_t2 208 rfl rfl
theorem wd_449 : (Cond.methodLink "TriSplitsLaw" 34 y_T_put) ∈ ay_G := ay_t2 209 rfl rfl
theorem wd_450 : (Cond.instanceMethod y_T_put) ∈ ay_G := ay_t2 210 rfl rfl
theorem wd_451 : (Cond.selects "TriSplits" y_T_put y_T_put) ∈ ay_G := ay_t2 211 rfl rfl
theorem wd_452 : (Cond.code y_T_put prog_1_method_6_code 4 (some FieldType.int)) ∈ ay_G := ay_t2 212 rfl rfl
theorem wd_453 : (Cond.methodLink "TriSplits" 109 y_Store_isPlace) ∈ ay_G := ay_t2 213 rfl rfl
theorem wd_454 : (Cond.constantLong "TriSplits" 112 4294967295) ∈ ay_G := ay_t2 214 rfl rfl
theorem wd_455 : (Cond.methodLink "TriSplits" 114 y_T_place) ∈ ay_G := ay_t2 215 rfl rfl
theorem wd_457 : (Cond.instanceMethod y_T_place) ∈ ay_G := ay_t2 217 rfl rfl
theorem wd_458 : (Cond.code y_T_place prog_1_method_55_code 4 (some FieldType.int)) ∈ ay_G := ay_t2 218 rfl rfl
theorem wd_459 : (Cond.methodLink "TriSplits" 370 y_Store_write) ∈ ay_G := ay_t2 219 rfl rfl
theorem wd_460 : (Cond.methodLink "TriSplits" 158 y_Polys_degree) ∈ ay_G := ay_t2 220 rfl rfl
theorem wd_461 : (Cond.methodLink "TriSplitsLaw" 39 y_T_add) ∈ ay_G := ay_t2 221 rfl rfl
theorem wd_462 : (Cond.instanceMethod y_T_add) ∈ ay_G := ay_t2 222 rfl rfl
theorem wd_463 : (Cond.selects "TriSplits" y_T_add y_T_add) ∈ ay_G := ay_t2 223 rfl rfl
theorem wd_464 : (Cond.code y_T_add prog_1_method_7_code 4 (some FieldType.int)) ∈ ay_G := ay_t2 224 rfl rfl
theorem wd_465 : (Cond.methodLink "TriSplits" 118 y_T_arePlaces) ∈ ay_G := ay_t2 225 rfl rfl
theorem wd_466 : (Cond.static y_T_arePlaces) ∈ ay_G := ay_t2 226 rfl rfl
theorem wd_467 : (Cond.code y_T_arePlaces prog_1_method_51_code 3 (some FieldType.boolean)) ∈ ay_G := ay_t2 227 rfl rfl
theorem wd_468 : (Cond.methodLink "TriSplits" 122 y_Store_polyAt) ∈ ay_G := ay_t2 228 rfl rfl
theorem wd_469 : (Cond.methodLink "TriSplitsLaw" 44 y_T_multiply) ∈ ay_G := ay_t2 229 rfl rfl
theorem wd_470 : (Cond.instanceMethod y_T_multiply) ∈ ay_G := ay_t2 230 rfl rfl
theorem wd_471 : (Cond.selects "TriSplits" y_T_multiply y_T_multiply) ∈ ay_G := ay_t2 231 rfl rfl
theorem wd_472 : (Cond.code y_T_multiply prog_1_method_8_code 6 (some FieldType.int)) ∈ ay_G := ay_t2 232 rfl rfl
theorem wd_473 : (Cond.methodLink "TriSplits" 126 y_Polys_product) ∈ ay_G := ay_t2 233 rfl rfl
theorem wd_474 : (Cond.methodLink "TriSplitsLaw" 48 y_T_divide) ∈ ay_G := ay_t2 234 rfl rfl
theorem wd_475 : (Cond.instanceMethod y_T_divide) ∈ ay_G := ay_t2 235 rfl rfl
theorem wd_476 : (Cond.selects "TriSplits" y_T_divide y_T_divide) ∈ ay_G := ay_t2 236 rfl rfl
theorem wd_477 : (Cond.code y_T_divide prog_1_method_9_code 4 (some FieldType.int)) ∈ ay_G := ay_t2 237 rfl rfl
theorem wd_478 : (Cond.methodLink "TriSplits" 132 y_Polys_quotient) ∈ ay_G := ay_t2 238 rfl rfl
theorem wd_479 : (Cond.static y_Polys_quotient) ∈ ay_G := ay_t2 239 rfl rfl
theorem wd_480 : (Cond.code y_Polys_quotient prog_7_method_6_code 11 (some FieldType.long)) ∈ ay_G := ay_t3 0 rfl rfl
theorem wd_481 : (Cond.methodLink "TriSplitsLaw" 52 y_T_rest) ∈ ay_G := ay_t3 1 rfl rfl
theorem wd_482 : (Cond.instanceMethod y_T_rest) ∈ ay_G := ay_t3 2 rfl rfl
theorem wd_483 : (Cond.selects "TriSplits" y_T_rest y_T_rest) ∈ ay_G := ay_t3 3 rfl rfl
theorem wd_484 : (Cond.code y_T_rest prog_1_method_10_code 4 (some FieldType.int)) ∈ ay_G := ay_t3 4 rfl rfl
theorem wd_485 : (Cond.methodLink "TriSplits" 135 y_Polys_remainder) ∈ ay_G := ay_t3 5 rfl rfl
theorem wd_486 : (Cond.static y_Polys_remainder) ∈ ay_G := ay_t3 6 rfl rfl
theorem wd_487 : (Cond.code y_Polys_remainder prog_7_method_7_code 9 (some FieldType.long)) ∈ ay_G := ay_t3 7 rfl rfl
theorem wd_488 : (Cond.methodLink "TriSplitsLaw" 56 y_T_common) ∈ ay_G := ay_t3 8 rfl rfl
theorem wd_489 : (Cond.instanceMethod y_T_common) ∈ ay_G := ay_t3 9 rfl rfl
theorem wd_490 : (Cond.selects "TriSplits" y_T_common y_T_common) ∈ ay_G := ay_t3 10 rfl rfl
theorem wd_491 : (Cond.code y_T_common prog_1_method_11_code 4 (some FieldType.int)) ∈ ay_G := ay_t3 11 rfl rfl
theorem wd_492 : (Cond.methodLink "TriSplits" 138 y_Polys_gcd) ∈ ay_G := ay_t3 12 rfl rfl
theorem wd_493 : (Cond.static y_Polys_gcd) ∈ ay_G := ay_t3 13 rfl rfl
theorem wd_494 : (Cond.code y_Polys_gcd prog_7_method_8_code 11 (some FieldType.long)) ∈ ay_G := ay_t3 14 rfl rfl
theorem wd_495 : (Cond.methodLink "TriSplits$Polys" 28 y_Polys_remainder) ∈ ay_G := ay_t3 15 rfl rfl
theorem wd_496 : (Cond.methodLink "TriSplitsLaw" 60 y_T_power) ∈ ay_G := ay_t3 16 rfl rfl
theorem wd_497 : (Cond.instanceMethod y_T_power) ∈ ay_G := ay_t3 17 rfl rfl
theorem wd_498 : (Cond.selects "TriSplits" y_T_power y_T_power) ∈ ay_G := ay_t3 18 rfl rfl
theorem wd_499 : (Cond.code y_T_power prog_1_method_12_code 6 (some FieldType.int)) ∈ ay_G := ay_t3 19 rfl rfl
theorem wd_500 : (Cond.methodLink "TriSplits" 141 y_T_isModulus) ∈ ay_G := ay_t3 20 rfl rfl
theorem wd_502 : (Cond.instanceMethod y_T_isModulus) ∈ ay_G := ay_t3 22 rfl rfl
theorem wd_503 : (Cond.code y_T_isModulus prog_1_method_53_code 2 (some FieldType.boolean)) ∈ ay_G := ay_t3 23 rfl rfl
theorem wd_504 : (Cond.methodLink "TriSplits" 144 y_Polys_powerBy) ∈ ay_G := ay_t3 24 rfl rfl
theorem wd_505 : (Cond.static y_Polys_powerBy) ∈ ay_G := ay_t3 25 rfl rfl
theorem wd_506 : (Cond.code y_Polys_powerBy prog_7_method_11_code 11 (some FieldType.long)) ∈ ay_G := ay_t3 26 rfl rfl
theorem wd_507 : (Cond.methodLink "TriSplits$Polys" 35 y_Polys_square) ∈ ay_G := ay_t3 27 rfl rfl
theorem wd_508 : (Cond.static y_Polys_square) ∈ ay_G := ay_t3 28 rfl rfl
theorem wd_509 : (Cond.code y_Polys_square prog_7_method_5_code 4 (some FieldType.long)) ∈ ay_G := ay_t3 29 rfl rfl
theorem wd_510 : (Cond.constantLong "TriSplits$Polys" 13 281470681808895) ∈ ay_G := ay_t3 30 rfl rfl
theorem wd_511 : (Cond.constantLong "TriSplits$Polys" 15 71777214294589695) ∈ ay_G := ay_t3 31 rfl rfl
theorem wd_512 : (Cond.constantLong "TriSplits$Polys" 17 1085102592571150095) ∈ ay_G := ay_t3 32 rfl rfl
theorem wd_513 : (Cond.constantLong "TriSplits$Polys" 19 3689348814741910323) ∈ ay_G := ay_t3 33 rfl rfl
theorem wd_514 : (Cond.methodLink "TriSplits$Polys" 32 y_Polys_product) ∈ ay_G := ay_t3 34 rfl rfl
theorem wd_515 : (Cond.methodLink "TriSplitsLaw" 65 y_T_moved) ∈ ay_G := ay_t3 35 rfl rfl
theorem wd_516 : (Cond.instanceMethod y_T_moved) ∈ ay_G := ay_t3 36 rfl rfl
theorem wd_517 : (Cond.selects "TriSplits" y_T_moved y_T_moved) ∈ ay_G := ay_t3 37 rfl rfl
theorem wd_518 : (Cond.code y_T_moved prog_1_method_13_code 3 (some FieldType.int)) ∈ ay_G := ay_t3 38 rfl rfl
theorem wd_519 : (Cond.methodLink "TriSplits" 148 y_Polys_shifted) ∈ ay_G := ay_t3 39 rfl rfl
theorem wd_520 : (Cond.static y_Polys_shifted) ∈ ay_G := ay_t3 40 rfl rfl
theorem wd_521 : (Cond.code y_Polys_shifted prog_7_method_14_code 5 (some FieldType.long)) ∈ ay_G := ay_t3 41 rfl rfl
theorem wd_522 : (Cond.methodLink "TriSplitsLaw" 70 y_T_inside) ∈ ay_G := ay_t3 42 rfl rfl
theorem wd_523 : (Cond.instanceMethod y_T_inside) ∈ ay_G := ay_t3 43 rfl rfl
theorem wd_524 : (Cond.selects "TriSplits" y_T_inside y_T_inside) ∈ ay_G := ay_t3 44 rfl rfl
theorem wd_525 : (Cond.code y_T_inside prog_1_method_14_code 5 (some FieldType.int)) ∈ ay_G := ay_t3 45 rfl rfl
theorem wd_526 : (Cond.methodLink "TriSplits" 152 y_Polys_composed) ∈ ay_G := ay_t3 46 rfl rfl
theorem wd_527 : (Cond.static y_Polys_composed) ∈ ay_G := ay_t3 47 rfl rfl
theorem wd_528 : (Cond.code y_Polys_composed prog_7_method_13_code 9 (some FieldType.long)) ∈ ay_G := ay_t3 48 rfl rfl
theorem wd_529 : (Cond.methodLink "TriSplits$Polys" 42 y_Polys_productBy) ∈ ay_G := ay_t3 49 rfl rfl
theorem wd_530 : (Cond.static y_Polys_productBy) ∈ ay_G := ay_t3 50 rfl rfl
theorem wd_531 : (Cond.code y_Polys_productBy prog_7_method_9_code 6 (some FieldType.long)) ∈ ay_G := ay_t3 51 rfl rfl
theorem wd_532 : (Cond.methodLink "TriSplitsLaw" 75 y_T_inverse) ∈ ay_G := ay_t3 52 rfl rfl
theorem wd_533 : (Cond.instanceMethod y_T_inverse) ∈ ay_G := ay_t3 53 rfl rfl
theorem wd_534 : (Cond.selects "TriSplits" y_T_inverse y_T_inverse) ∈ ay_G := ay_t3 54 rfl rfl
theorem wd_535 : (Cond.code y_T_inverse prog_1_method_15_code 6 (some FieldType.int)) ∈ ay_G := ay_t3 55 rfl rfl
theorem wd_536 : (Cond.methodLink "TriSplits" 155 y_Polys_inverseBy) ∈ ay_G := ay_t3 56 rfl rfl
theorem wd_537 : (Cond.static y_Polys_inverseBy) ∈ ay_G := ay_t3 57 rfl rfl
theorem wd_538 : (Cond.code y_Polys_inverseBy prog_7_method_12_code 19 (some FieldType.long)) ∈ ay_G := ay_t3 58 rfl rfl
theorem wd_539 : (Cond.methodLink "TriSplits$Polys" 39 y_Polys_quotient) ∈ ay_G := ay_t3 59 rfl rfl
theorem wd_540 : (Cond.methodLink "TriSplitsLaw" 79 y_T_rise) ∈ ay_G := ay_t3 60 rfl rfl
theorem wd_541 : (Cond.instanceMethod y_T_rise) ∈ ay_G := ay_t3 61 rfl rfl
theorem wd_542 : (Cond.selects "TriSplits" y_T_rise y_T_rise) ∈ ay_G := ay_t3 62 rfl rfl
theorem wd_543 : (Cond.code y_T_rise prog_1_method_16_code 4 (some FieldType.int)) ∈ ay_G := ay_t3 63 rfl rfl
theorem wd_544 : (Cond.methodLink "TriSplits" 162 y_Polys_risen) ∈ ay_G := ay_t3 64 rfl rfl
theorem wd_545 : (Cond.static y_Polys_risen) ∈ ay_G := ay_t3 65 rfl rfl
theorem wd_546 : (Cond.code y_Polys_risen prog_7_method_15_code 6 (some FieldType.long)) ∈ ay_G := ay_t3 66 rfl rfl
theorem wd_547 : (Cond.methodLink "TriSplitsLaw" 83 y_T_register) ∈ ay_G := ay_t3 67 rfl rfl
theorem wd_548 : (Cond.instanceMethod y_T_register) ∈ ay_G := ay_t3 68 rfl rfl
theorem wd_549 : (Cond.selects "TriSplits" y_T_register y_T_register) ∈ ay_G := ay_t3 69 rfl rfl
theorem wd_550 : (Cond.code y_T_register prog_1_method_17_code 7 (some FieldType.int)) ∈ ay_G := ay_t3 70 rfl rfl
theorem wd_551 : (Cond.constantLong "TriSplits" 166 2147483647) ∈ ay_G := ay_t3 71 rfl rfl
theorem wd_552 : (Cond.methodLink "TriSplits" 168 y_Store_tellRegister) ∈ ay_G := ay_t3 72 rfl rfl
theorem wd_553 : (Cond.instanceMethod y_Store_tellRegister) ∈ ay_G := ay_t3 73 rfl rfl
theorem wd_554 : (Cond.selects "TriSplits$Store" y_Store_tellRegister y_Store_tellRegister) ∈ ay_G := ay_t3 74 rfl rfl
theorem wd_555 : (Cond.code y_Store_tellRegister prog_11_method_10_code 5 none) ∈ ay_G := ay_t3 75 rfl rfl
theorem wd_556 : (Cond.methodLink "TriSplitsLaw" 87 y_T_step) ∈ ay_G := ay_t3 76 rfl rfl
theorem wd_557 : (Cond.instanceMethod y_T_step) ∈ ay_G := ay_t3 77 rfl rfl
theorem wd_558 : (Cond.selects "TriSplits" y_T_step y_T_step) ∈ ay_G := ay_t3 78 rfl rfl
theorem wd_559 : (Cond.code y_T_step prog_1_method_18_code 7 (some FieldType.long)) ∈ ay_G := ay_t3 79 rfl rfl
theorem wd_560 : (Cond.constantLong "TriSplits" 172 (-1)) ∈ ay_G := ay_t3 80 rfl rfl
theorem wd_561 : (Cond.methodLink "TriSplits" 174 y_Store_hasRegister) ∈ ay_G := ay_t3 81 rfl rfl
theorem wd_562 : (Cond.instanceMethod y_Store_hasRegister) ∈ ay_G := ay_t3 82 rfl rfl
theorem wd_563 : (Cond.selects "TriSplits$Store" y_Store_hasRegister y_Store_hasRegister) ∈ ay_G := ay_t3 83 rfl rfl
theorem wd_564 : (Cond.code y_Store_hasRegister prog_11_method_6_code 1 (some FieldType.boolean)) ∈ ay_G := ay_t3 84 rfl rfl
theorem wd_565 : (Cond.constantLong "TriSplits" 178 (-2)) ∈ ay_G := ay_t3 85 rfl rfl
theorem wd_566 : (Cond.methodLink "TriSplits" 180 y_Store_state) ∈ ay_G := ay_t3 86 rfl rfl
theorem wd_567 : (Cond.instanceMethod y_Store_state) ∈ ay_G := ay_t3 87 rfl rfl
theorem wd_568 : (Cond.selects "TriSplits$Store" y_Store_state y_Store_state) ∈ ay_G := ay_t3 88 rfl rfl
theorem wd_569 : (Cond.code y_Store_state prog_11_method_8_code 1 (some FieldType.long)) ∈ ay_G := ay_t3 89 rfl rfl
theorem wd_570 : (Cond.methodLink "TriSplits" 184 y_Store_rule) ∈ ay_G := ay_t3 90 rfl rfl
theorem wd_571 : (Cond.instanceMethod y_Store_rule) ∈ ay_G := ay_t3 91 rfl rfl
theorem wd_572 : (Cond.selects "TriSplits$Store" y_Store_rule y_Store_rule) ∈ ay_G := ay_t3 92 rfl rfl
theorem wd_573 : (Cond.code y_Store_rule prog_11_method_7_code 1 (some FieldType.long)) ∈ ay_G := ay_t3 93 rfl rfl
theorem wd_574 : (Cond.methodLink "TriSplits" 187 y_Shifts_after) ∈ ay_G := ay_t3 94 rfl rfl
theorem wd_575 : (Cond.static y_Shifts_after) ∈ ay_G := ay_t3 95 rfl rfl
theorem wd_576 : (Cond.code y_Shifts_after prog_10_method_2_code 5 (some FieldType.long)) ∈ ay_G := ay_t3 96 rfl rfl
theorem wd_577 : (Cond.methodLink "TriSplits$Shifts" 7 y_Polys_degree) ∈ ay_G := ay_t3 97 rfl rfl
theorem wd_578 : (Cond.methodLink "TriSplits$Shifts" 13 y_Shifts_sumOf) ∈ ay_G := ay_t3 98 rfl rfl
theorem wd_579 : (Cond.static y_Shifts_sumOf) ∈ ay_G := ay_t3 99 rfl rfl
theorem wd_580 : (Cond.code y_Shifts_sumOf prog_10_method_4_code 2 (some FieldType.long)) ∈ ay_G := ay_t3 100 rfl rfl
theorem wd_581 : (Cond.methodLink "TriSplits$Shifts" 29 y_Long_bitCount) ∈ ay_G := ay_t3 101 rfl rfl
theorem wd_582 : (Cond.static y_Long_bitCount) ∈ ay_G := ay_t3 102 rfl rfl
theorem wd_583 : (Cond.code y_Long_bitCount prog_16_method_50_code 2 (some FieldType.int)) ∈ ay_G := ay_t3 103 rfl rfl
theorem wd_584 : (Cond.constantLong "java/lang/Long" 314 6148914691236517205) ∈ ay_G := ay_t3 104 rfl rfl
theorem wd_585 : (Cond.constantLong "java/lang/Long" 316 3689348814741910323) ∈ ay_G := ay_t3 105 rfl rfl
theorem wd_586 : (Cond.constantLong "java/lang/Long" 318 1085102592571150095) ∈ ay_G := ay_t3 106 rfl rfl
theorem wd_587 : (Cond.methodLink "TriSplits" 192 y_Store_stepRegister) ∈ ay_G := ay_t3 107 rfl rfl
theorem wd_588 : (Cond.instanceMethod y_Store_stepRegister) ∈ ay_G := ay_t3 108 rfl rfl
theorem wd_589 : (Cond.selects "TriSplits$Store" y_Store_stepRegister y_Store_stepRegister) ∈ ay_G := ay_t3 109 rfl rfl
theorem wd_590 : (Cond.code y_Store_stepRegister prog_11_method_11_code 4 none) ∈ ay_G := ay_t3 110 rfl rfl
theorem wd_591 : (Cond.methodLink "TriSplitsLaw" 92 y_T_jump) ∈ ay_G := ay_t3 111 rfl rfl
theorem wd_592 : (Cond.instanceMethod y_T_jump) ∈ ay_G := ay_t3 112 rfl rfl
theorem wd_593 : (Cond.selects "TriSplits" y_T_jump y_T_jump) ∈ ay_G := ay_t3 113 rfl rfl
theorem wd_594 : (Cond.code y_T_jump prog_1_method_19_code 4 (some FieldType.long)) ∈ ay_G := ay_t3 114 rfl rfl
theorem wd_595 : (Cond.constant "TriSplits" 196 1000000000) ∈ ay_G := ay_t3 115 rfl rfl
theorem wd_596 : (Cond.methodLink "TriSplits" 197 y_Shifts_behind) ∈ ay_G := ay_t3 116 rfl rfl
theorem wd_597 : (Cond.static y_Shifts_behind) ∈ ay_G := ay_t3 117 rfl rfl
theorem wd_598 : (Cond.code y_Shifts_behind prog_10_method_3_code 12 (some FieldType.long)) ∈ ay_G := ay_t3 118 rfl rfl
theorem wd_599 : (Cond.constantLong "TriSplits$Shifts" 19 2) ∈ ay_G := ay_t3 119 rfl rfl
theorem wd_600 : (Cond.methodLink "TriSplits$Shifts" 21 y_Polys_powerBy) ∈ ay_G := ay_t3 120 rfl rfl
theorem wd_601 : (Cond.methodLink "TriSplits$Shifts" 25 y_Polys_remainder) ∈ ay_G := ay_t3 121 rfl rfl
theorem wd_602 : (Cond.methodLink "TriSplitsLaw" 96 y_T_undo) ∈ ay_G := ay_t3 122 rfl rfl
theorem wd_603 : (Cond.instanceMethod y_T_undo) ∈ ay_G := ay_t3 123 rfl rfl
theorem wd_604 : (Cond.selects "TriSplits" y_T_undo y_T_undo) ∈ ay_G := ay_t3 124 rfl rfl
theorem wd_605 : (Cond.code y_T_undo prog_1_method_20_code 1 (some FieldType.int)) ∈ ay_G := ay_t3 125 rfl rfl
theorem wd_606 : (Cond.methodLink "TriSplits" 200 y_Store_goBack) ∈ ay_G := ay_t3 126 rfl rfl
theorem wd_607 : (Cond.instanceMethod y_Store_goBack) ∈ ay_G := ay_t3 127 rfl rfl
theorem wd_608 : (Cond.selects "TriSplits$Store" y_Store_goBack y_Store_goBack) ∈ ay_G := ay_t3 128 rfl rfl
theorem wd_609 : (Cond.code y_Store_goBack prog_11_method_15_code 1 (some FieldType.boolean)) ∈ ay_G := ay_t3 129 rfl rfl
theorem wd_610 : (Cond.methodLink "TriSplits" 203 y_Store_undoable) ∈ ay_G := ay_t3 130 rfl rfl
theorem wd_611 : (Cond.instanceMethod y_Store_undoable) ∈ ay_G := ay_t3 131 rfl rfl
theorem wd_612 : (Cond.selects "TriSplits$Store" y_Store_undoable y_Store_undoable) ∈ ay_G := ay_t3 132 rfl rfl
theorem wd_613 : (Cond.code y_Store_undoable prog_11_method_12_code 1 (some FieldType.int)) ∈ ay_G := ay_t3 133 rfl rfl
theorem wd_614 : (Cond.methodLink "TriSplitsLaw" 100 y_T_keep) ∈ ay_G := ay_t3 134 rfl rfl
theorem wd_615 : (Cond.instanceMethod y_T_keep) ∈ ay_G := ay_t3 135 rfl rfl
theorem wd_616 : (Cond.selects "TriSplits" y_T_keep y_T_keep) ∈ ay_G := ay_t3 136 rfl rfl
theorem wd_617 : (Cond.code y_T_keep prog_1_method_21_code 2 (some FieldType.int)) ∈ ay_G := ay_t3 137 rfl rfl
theorem wd_618 : (Cond.methodLink "TriSplits" 206 y_Store_keepOn) ∈ ay_G := ay_t3 138 rfl rfl
theorem wd_619 : (Cond.instanceMethod y_Store_keepOn) ∈ ay_G := ay_t3 139 rfl rfl
theorem wd_620 : (Cond.selects "TriSplits$Store" y_Store_keepOn y_Store_keepOn) ∈ ay_G := ay_t3 140 rfl rfl
theorem wd_621 : (Cond.code y_Store_keepOn prog_11_method_16_code 2 (some FieldType.boolean)) ∈ ay_G := ay_t3 141 rfl rfl
theorem wd_622 : (Cond.methodLink "TriSplits$Store" 43 y_Store_isShelf) ∈ ay_G := ay_t3 142 rfl rfl
theorem wd_623 : (Cond.static y_Store_isShelf) ∈ ay_G := ay_t3 143 rfl rfl
theorem wd_624 : (Cond.code y_Store_isShelf prog_11_method_3_code 1 (some FieldType.boolean)) ∈ ay_G := ay_t3 144 rfl rfl
theorem wd_625 : (Cond.methodLink "TriSplitsLaw" 104 y_T_back) ∈ ay_G := ay_t3 145 rfl rfl
theorem wd_626 : (Cond.instanceMethod y_T_back) ∈ ay_G := ay_t3 146 rfl rfl
theorem wd_627 : (Cond.selects "TriSplits" y_T_back y_T_back) ∈ ay_G := ay_t3 147 rfl rfl
theorem wd_628 : (Cond.code y_T_back prog_1_method_22_code 2 (some FieldType.int)) ∈ ay_G := ay_t3 148 rfl rfl
theorem wd_629 : (Cond.methodLink "TriSplits" 209 y_Store_isShelf) ∈ ay_G := ay_t3 149 rfl rfl
theorem wd_630 : (Cond.methodLink "TriSplits" 212 y_Store_takeFrom) ∈ ay_G := ay_t3 150 rfl rfl
theorem wd_631 : (Cond.instanceMethod y_Store_takeFrom) ∈ ay_G := ay_t3 151 rfl rfl
theorem wd_632 : (Cond.selects "TriSplits$Store" y_Store_takeFrom y_Store_takeFrom) ∈ ay_G := ay_t3 152 rfl rfl
theorem wd_633 : (Cond.code y_Store_takeFrom prog_11_method_17_code 2 (some FieldType.boolean)) ∈ ay_G := ay_t3 153 rfl rfl
theorem wd_634 : (Cond.methodLink "TriSplitsLaw" 108 y_T_bits) ∈ ay_G := ay_t3 154 rfl rfl
theorem wd_635 : (Cond.instanceMethod y_T_bits) ∈ ay_G := ay_t3 155 rfl rfl
theorem wd_636 : (Cond.selects "TriSplits" y_T_bits y_T_bits) ∈ ay_G := ay_t3 156 rfl rfl
theorem wd_637 : (Cond.code y_T_bits prog_1_method_23_code 2 (some FieldType.long)) ∈ ay_G := ay_t3 157 rfl rfl
theorem wd_638 : (Cond.methodLink "TriSplitsLaw" 112 y_T_poly) ∈ ay_G := ay_t3 158 rfl rfl
theorem wd_639 : (Cond.instanceMethod y_T_poly) ∈ ay_G := ay_t3 159 rfl rfl
theorem wd_640 : (Cond.selects "TriSplits" y_T_poly y_T_poly) ∈ ay_G := ay_t3 160 rfl rfl
theorem wd_641 : (Cond.code y_T_poly prog_1_method_24_code 5 (some FieldType.int)) ∈ ay_G := ay_t3 161 rfl rfl
theorem wd_642 : (Cond.methodLink "TriSplits" 215 y_Long_bitCount) ∈ ay_G := ay_t3 162 rfl rfl
theorem wd_643 : (Cond.methodLink "TriSplits" 220 y_Polys_isIrreducible) ∈ ay_G := ay_t3 163 rfl rfl
theorem wd_644 : (Cond.static y_Polys_isIrreducible) ∈ ay_G := ay_t3 164 rfl rfl
theorem wd_645 : (Cond.code y_Polys_isIrreducible prog_7_method_18_code 6 (some FieldType.boolean)) ∈ ay_G := ay_t3 165 rfl rfl
theorem wd_646 : (Cond.methodLink "TriSplits$Polys" 46 y_Long_bitCount) ∈ ay_G := ay_t3 166 rfl rfl
theorem wd_647 : (Cond.constantLong "TriSplits$Polys" 49 2) ∈ ay_G := ay_t3 167 rfl rfl
theorem wd_648 : (Cond.methodLink "TriSplits$Polys" 51 y_Polys_squareBy) ∈ ay_G := ay_t3 168 rfl rfl
theorem wd_649 : (Cond.static y_Polys_squareBy) ∈ ay_G := ay_t3 169 rfl rfl
theorem wd_650 : (Cond.code y_Polys_squareBy prog_7_method_10_code 4 (some FieldType.long)) ∈ ay_G := ay_t3 170 rfl rfl
theorem wd_651 : (Cond.methodLink "TriSplits$Polys" 54 y_Polys_gcd) ∈ ay_G := ay_t3 171 rfl rfl
theorem wd_652 : (Cond.methodLink "TriSplits" 224 y_Orders_isSought) ∈ ay_G := ay_t3 172 rfl rfl
theorem wd_653 : (Cond.instanceMethod y_Orders_isSought) ∈ ay_G := ay_t3 173 rfl rfl
theorem wd_654 : (Cond.selects "TriSplits$Orders" y_Orders_isSought y_Orders_isSought) ∈ ay_G := ay_t3 174 rfl rfl
theorem wd_655 : (Cond.code y_Orders_isSought prog_6_method_2_code 4 (some FieldType.boolean)) ∈ ay_G := ay_t3 175 rfl rfl
theorem wd_656 : (Cond.methodLink "TriSplits$Orders" 13 y_Polys_isIrreducible) ∈ ay_G := ay_t3 176 rfl rfl
theorem wd_657 : (Cond.constantLong "TriSplits$Orders" 19 2) ∈ ay_G := ay_t3 177 rfl rfl
theorem wd_658 : (Cond.methodLink "TriSplits$Orders" 21 y_Orders_ofIrreducible) ∈ ay_G := ay_t3 178 rfl rfl
theorem wd_659 : (Cond.instanceMethod y_Orders_ofIrreducible) ∈ ay_G := ay_t3 179 rfl rfl
theorem wd_660 : (Cond.selects "TriSplits$Orders" y_Orders_ofIrreducible y_Orders_ofIrreducible) ∈ ay_G := ay_t3 180 rfl rfl
theorem wd_661 : (Cond.code y_Orders_ofIrreducible prog_6_method_3_code 9 (some FieldType.long)) ∈ ay_G := ay_t3 181 rfl rfl
theorem wd_662 : (Cond.methodLink "TriSplits$Orders" 25 y_Polys_degree) ∈ ay_G := ay_t3 182 rfl rfl
theorem wd_663 : (Cond.methodLink "TriSplits$Orders" 29 y_Orders_findPrimes) ∈ ay_G := ay_t3 183 rfl rfl
theorem wd_665 : (Cond.instanceMethod y_Orders_findPrimes) ∈ ay_G := ay_t3 185 rfl rfl
theorem wd_666 : (Cond.code y_Orders_findPrimes prog_6_method_8_code 8 none) ∈ ay_G := ay_t3 186 rfl rfl
theorem wd_667 : (Cond.constantLong "TriSplits$Orders" 70 65536) ∈ ay_G := ay_t3 187 rfl rfl
theorem wd_668 : (Cond.methodLink "TriSplits$Orders" 72 y_Orders_notePrime) ∈ ay_G := ay_t3 188 rfl rfl
theorem wd_670 : (Cond.instanceMethod y_Orders_notePrime) ∈ ay_G := ay_t3 190 rfl rfl
theorem wd_671 : (Cond.code y_Orders_notePrime prog_6_method_9_code 3 none) ∈ ay_G := ay_t3 191 rfl rfl
theorem wd_672 : (Cond.methodLink "TriSplits$Orders" 37 y_Polys_powerBy) ∈ ay_G := ay_t3 192 rfl rfl
theorem wd_673 : (Cond.methodLink "TriSplits" 228 y_Factors_split) ∈ ay_G := ay_t3 193 rfl rfl
theorem wd_674 : (Cond.instanceMethod y_Factors_split) ∈ ay_G := ay_t3 194 rfl rfl
theorem wd_675 : (Cond.selects "TriSplits$Factors" y_Factors_split y_Factors_split) ∈ ay_G := ay_t3 195 rfl rfl
theorem wd_676 : (Cond.code y_Factors_split prog_2_method_10_code 10 none) ∈ ay_G := ay_t3 196 rfl rfl
theorem wd_677 : (Cond.constantLong "TriSplits$Factors" 41 2) ∈ ay_G := ay_t3 197 rfl rfl
theorem wd_678 : (Cond.methodLink "TriSplits$Factors" 31 y_Polys_degree) ∈ ay_G := ay_t3 198 rfl rfl
theorem wd_679 : (Cond.methodLink "TriSplits$Factors" 43 y_Polys_squareBy) ∈ ay_G := ay_t3 199 rfl rfl
theorem wd_680 : (Cond.methodLink "TriSplits$Factors" 47 y_Polys_gcd) ∈ ay_G := ay_t3 200 rfl rfl
theorem wd_681 : (Cond.methodLink "TriSplits$Factors" 50 y_Factors_partInto) ∈ ay_G := ay_t3 201 rfl rfl
theorem wd_683 : (Cond.instanceMethod y_Factors_partInto) ∈ ay_G := ay_t3 203 rfl rfl
theorem wd_684 : (Cond.code y_Factors_partInto prog_2_method_12_code 12 (some FieldType.int)) ∈ ay_G := ay_t3 204 rfl rfl
theorem wd_685 : (Cond.methodLink "TriSplits$Factors" 71 y_Polys_powerBy) ∈ ay_G := ay_t3 205 rfl rfl
theorem wd_686 : (Cond.methodLink "TriSplits$Factors" 75 y_Factors_cutParts) ∈ ay_G := ay_t3 206 rfl rfl
theorem wd_688 : (Cond.instanceMethod y_Factors_cutParts) ∈ ay_G := ay_t3 208 rfl rfl
theorem wd_689 : (Cond.code y_Factors_cutParts prog_2_method_13_code 8 (some FieldType.int)) ∈ ay_G := ay_t3 209 rfl rfl
theorem wd_690 : (Cond.methodLink "TriSplits$Factors" 68 y_Polys_quotient) ∈ ay_G := ay_t3 210 rfl rfl
theorem wd_691 : (Cond.methodLink "TriSplits$Factors" 54 y_Factors_sortParts) ∈ ay_G := ay_t3 211 rfl rfl
theorem wd_693 : (Cond.instanceMethod y_Factors_sortParts) ∈ ay_G := ay_t3 213 rfl rfl
theorem wd_694 : (Cond.code y_Factors_sortParts prog_2_method_14_code 7 none) ∈ ay_G := ay_t3 214 rfl rfl
theorem wd_695 : (Cond.methodLink "TriSplits$Factors" 58 y_Factors_takeOut) ∈ ay_G := ay_t3 215 rfl rfl
theorem wd_697 : (Cond.instanceMethod y_Factors_takeOut) ∈ ay_G := ay_t3 217 rfl rfl
theorem wd_698 : (Cond.code y_Factors_takeOut prog_2_method_11_code 9 (some FieldType.long)) ∈ ay_G := ay_t3 218 rfl rfl
theorem wd_699 : (Cond.methodLink "TriSplits$Factors" 61 y_Polys_remainder) ∈ ay_G := ay_t3 219 rfl rfl
theorem wd_700 : (Cond.methodLink "TriSplits$Factors" 64 y_Factors_note) ∈ ay_G := ay_t3 220 rfl rfl
theorem wd_702 : (Cond.instanceMethod y_Factors_note) ∈ ay_G := ay_t3 222 rfl rfl
theorem wd_703 : (Cond.code y_Factors_note prog_2_method_15_code 4 none) ∈ ay_G := ay_t3 223 rfl rfl
theorem wd_704 : (Cond.methodLink "TriSplits" 232 y_T_howSplit) ∈ ay_G := ay_t3 224 rfl rfl
theorem wd_706 : (Cond.instanceMethod y_T_howSplit) ∈ ay_G := ay_t3 226 rfl rfl
theorem wd_707 : (Cond.code y_T_howSplit prog_1_method_56_code 2 (some FieldType.int)) ∈ ay_G := ay_t3 227 rfl rfl
theorem wd_708 : (Cond.methodLink "TriSplits" 373 y_Factors_all) ∈ ay_G := ay_t3 228 rfl rfl
theorem wd_709 : (Cond.instanceMethod y_Factors_all) ∈ ay_G := ay_t3 229 rfl rfl
theorem wd_710 : (Cond.selects "TriSplits$Factors" y_Factors_all y_Factors_all) ∈ ay_G := ay_t3 230 rfl rfl
theorem wd_711 : (Cond.code y_Factors_all prog_2_method_3_code 1 (some FieldType.int)) ∈ ay_G := ay_t3 231 rfl rfl
theorem wd_712 : (Cond.methodLink "TriSplits" 254 y_Factors_unlike) ∈ ay_G := ay_t3 232 rfl rfl
theorem wd_713 : (Cond.instanceMethod y_Factors_unlike) ∈ ay_G := ay_t3 233 rfl rfl
theorem wd_714 : (Cond.selects "TriSplits$Factors" y_Factors_unlike y_Factors_unlike) ∈ ay_G := ay_t3 234 rfl rfl
theorem wd_715 : (Cond.code y_Factors_unlike prog_2_method_2_code 1 (some FieldType.int)) ∈ ay_G := ay_t3 235 rfl rfl
theorem wd_716 : (Cond.methodLink "TriSplits" 376 y_Factors_greatestDegree) ∈ ay_G := ay_t3 236 rfl rfl
theorem wd_717 : (Cond.instanceMethod y_Factors_greatestDegree) ∈ ay_G := ay_t3 237 rfl rfl
theorem wd_718 : (Cond.selects "TriSplits$Factors" y_Factors_greatestDegree y_Factors_greatestDegree) ∈ ay_G := ay_t3 238 rfl rfl
theorem wd_719 : (Cond.code y_Factors_greatestDegree prog_2_method_6_code 1 (some FieldType.int)) ∈ ay_G := ay_t3 239 rfl rfl
theorem wd_720 : (Cond.methodLink "TriSplits$Factors" 27 y_Factors_base) ∈ ay_G := ay_t4 0 rfl rfl
theorem wd_721 : (Cond.instanceMethod y_Factors_base) ∈ ay_G := ay_t4 1 rfl rfl
theorem wd_722 : (Cond.selects "TriSplits$Factors" y_Factors_base y_Factors_base) ∈ ay_G := ay_t4 2 rfl rfl
theorem wd_723 : (Cond.code y_Factors_base prog_2_method_4_code 2 (some FieldType.long)) ∈ ay_G := ay_t4 3 rfl rfl
theorem wd_724 : (Cond.methodLink "TriSplitsLaw" 116 y_T_factor) ∈ ay_G := ay_t4 4 rfl rfl
theorem wd_725 : (Cond.instanceMethod y_T_factor) ∈ ay_G := ay_t4 5 rfl rfl
theorem wd_726 : (Cond.selects "TriSplits" y_T_factor y_T_factor) ∈ ay_G := ay_t4 6 rfl rfl
theorem wd_727 : (Cond.code y_T_factor prog_1_method_25_code 5 (some FieldType.long)) ∈ ay_G := ay_t4 7 rfl rfl
theorem wd_728 : (Cond.methodLink "TriSplits" 236 y_Factors_inOrder) ∈ ay_G := ay_t4 8 rfl rfl
theorem wd_729 : (Cond.instanceMethod y_Factors_inOrder) ∈ ay_G := ay_t4 9 rfl rfl
theorem wd_730 : (Cond.selects "TriSplits$Factors" y_Factors_inOrder y_Factors_inOrder) ∈ ay_G := ay_t4 10 rfl rfl
theorem wd_731 : (Cond.code y_Factors_inOrder prog_2_method_8_code 4 (some FieldType.long)) ∈ ay_G := ay_t4 11 rfl rfl
theorem wd_732 : (Cond.methodLink "TriSplits$Factors" 37 y_Factors_often) ∈ ay_G := ay_t4 12 rfl rfl
theorem wd_733 : (Cond.instanceMethod y_Factors_often) ∈ ay_G := ay_t4 13 rfl rfl
theorem wd_734 : (Cond.selects "TriSplits$Factors" y_Factors_often y_Factors_often) ∈ ay_G := ay_t4 14 rfl rfl
theorem wd_735 : (Cond.code y_Factors_often prog_2_method_5_code 2 (some FieldType.int)) ∈ ay_G := ay_t4 15 rfl rfl
theorem wd_736 : (Cond.methodLink "TriSplitsLaw" 121 y_T_ofDegree) ∈ ay_G := ay_t4 16 rfl rfl
theorem wd_737 : (Cond.instanceMethod y_T_ofDegree) ∈ ay_G := ay_t4 17 rfl rfl
theorem wd_738 : (Cond.selects "TriSplits" y_T_ofDegree y_T_ofDegree) ∈ ay_G := ay_t4 18 rfl rfl
theorem wd_739 : (Cond.code y_T_ofDegree prog_1_method_26_code 3 (some FieldType.int)) ∈ ay_G := ay_t4 19 rfl rfl
theorem wd_740 : (Cond.methodLink "TriSplits" 239 y_Factors_ofOneDegree) ∈ ay_G := ay_t4 20 rfl rfl
theorem wd_741 : (Cond.instanceMethod y_Factors_ofOneDegree) ∈ ay_G := ay_t4 21 rfl rfl
theorem wd_742 : (Cond.selects "TriSplits$Factors" y_Factors_ofOneDegree y_Factors_ofOneDegree) ∈ ay_G := ay_t4 22 rfl rfl
theorem wd_743 : (Cond.code y_Factors_ofOneDegree prog_2_method_7_code 4 (some FieldType.int)) ∈ ay_G := ay_t4 23 rfl rfl
theorem wd_744 : (Cond.methodLink "TriSplitsLaw" 125 y_T_order) ∈ ay_G := ay_t4 24 rfl rfl
theorem wd_745 : (Cond.instanceMethod y_T_order) ∈ ay_G := ay_t4 25 rfl rfl
theorem wd_746 : (Cond.selects "TriSplits" y_T_order y_T_order) ∈ ay_G := ay_t4 26 rfl rfl
theorem wd_747 : (Cond.code y_T_order prog_1_method_27_code 4 (some FieldType.long)) ∈ ay_G := ay_t4 27 rfl rfl
theorem wd_748 : (Cond.constantLong "TriSplits" 242 2) ∈ ay_G := ay_t4 28 rfl rfl
theorem wd_749 : (Cond.methodLink "TriSplits" 244 y_T_orderOf) ∈ ay_G := ay_t4 29 rfl rfl
theorem wd_751 : (Cond.instanceMethod y_T_orderOf) ∈ ay_G := ay_t4 31 rfl rfl
theorem wd_752 : (Cond.code y_T_orderOf prog_1_method_57_code 3 (some FieldType.long)) ∈ ay_G := ay_t4 32 rfl rfl
theorem wd_753 : (Cond.methodLink "TriSplits" 379 y_Orders_ofSplit) ∈ ay_G := ay_t4 33 rfl rfl
theorem wd_754 : (Cond.instanceMethod y_Orders_ofSplit) ∈ ay_G := ay_t4 34 rfl rfl
theorem wd_755 : (Cond.selects "TriSplits$Orders" y_Orders_ofSplit y_Orders_ofSplit) ∈ ay_G := ay_t4 35 rfl rfl
theorem wd_756 : (Cond.code y_Orders_ofSplit prog_6_method_4_code 6 (some FieldType.long)) ∈ ay_G := ay_t4 36 rfl rfl
theorem wd_757 : (Cond.methodLink "TriSplits$Orders" 41 y_Factors_unlike) ∈ ay_G := ay_t4 37 rfl rfl
theorem wd_758 : (Cond.methodLink "TriSplits$Orders" 47 y_Factors_base) ∈ ay_G := ay_t4 38 rfl rfl
theorem wd_759 : (Cond.methodLink "TriSplits$Orders" 51 y_Orders_leastMultiple) ∈ ay_G := ay_t4 39 rfl rfl
theorem wd_760 : (Cond.static y_Orders_leastMultiple) ∈ ay_G := ay_t4 40 rfl rfl
theorem wd_761 : (Cond.code y_Orders_leastMultiple prog_6_method_10_code 11 (some FieldType.long)) ∈ ay_G := ay_t4 41 rfl rfl
theorem wd_762 : (Cond.methodLink "TriSplits$Orders" 55 y_Factors_often) ∈ ay_G := ay_t4 42 rfl rfl
theorem wd_763 : (Cond.methodLink "TriSplits$Orders" 59 y_Math_max) ∈ ay_G := ay_t4 43 rfl rfl
theorem wd_764 : (Cond.static y_Math_max) ∈ ay_G := ay_t4 44 rfl rfl
theorem wd_765 : (Cond.code y_Math_max prog_17_method_65_code 2 (some FieldType.int)) ∈ ay_G := ay_t4 45 rfl rfl
theorem wd_766 : (Cond.methodLink "TriSplitsLaw" 205 y_T_divisor) ∈ ay_G := ay_t4 46 rfl rfl
theorem wd_767 : (Cond.instanceMethod y_T_divisor) ∈ ay_G := ay_t4 47 rfl rfl
theorem wd_768 : (Cond.selects "TriSplits" y_T_divisor y_T_divisor) ∈ ay_G := ay_t4 48 rfl rfl
theorem wd_769 : (Cond.code y_T_divisor prog_1_method_28_code 4 (some FieldType.long)) ∈ ay_G := ay_t4 49 rfl rfl
theorem wd_770 : (Cond.methodLink "TriSplits" 247 y_Rows_gatherDivisors) ∈ ay_G := ay_t4 50 rfl rfl
theorem wd_771 : (Cond.instanceMethod y_Rows_gatherDivisors) ∈ ay_G := ay_t4 51 rfl rfl
theorem wd_772 : (Cond.selects "TriSplits$Rows" y_Rows_gatherDivisors y_Rows_gatherDivisors) ∈ ay_G := ay_t4 52 rfl rfl
theorem wd_773 : (Cond.code y_Rows_gatherDivisors prog_9_method_4_code 5 (some FieldType.int)) ∈ ay_G := ay_t4 53 rfl rfl
theorem wd_774 : (Cond.methodLink "TriSplits$Rows" 23 y_Rows_append) ∈ ay_G := ay_t4 54 rfl rfl
theorem wd_776 : (Cond.instanceMethod y_Rows_append) ∈ ay_G := ay_t4 56 rfl rfl
theorem wd_777 : (Cond.code y_Rows_append prog_9_method_8_code 3 none) ∈ ay_G := ay_t4 57 rfl rfl
theorem wd_778 : (Cond.methodLink "TriSplits$Rows" 27 y_Factors_unlike) ∈ ay_G := ay_t4 58 rfl rfl
theorem wd_779 : (Cond.methodLink "TriSplits$Rows" 33 y_Factors_often) ∈ ay_G := ay_t4 59 rfl rfl
theorem wd_780 : (Cond.methodLink "TriSplits$Rows" 37 y_Factors_base) ∈ ay_G := ay_t4 60 rfl rfl
theorem wd_781 : (Cond.methodLink "TriSplits$Rows" 41 y_Polys_product) ∈ ay_G := ay_t4 61 rfl rfl
theorem wd_782 : (Cond.methodLink "TriSplits" 251 y_Rows_risingDivisor) ∈ ay_G := ay_t4 62 rfl rfl
theorem wd_783 : (Cond.instanceMethod y_Rows_risingDivisor) ∈ ay_G := ay_t4 63 rfl rfl
theorem wd_784 : (Cond.selects "TriSplits$Rows" y_Rows_risingDivisor y_Rows_risingDivisor) ∈ ay_G := ay_t4 64 rfl rfl
theorem wd_785 : (Cond.code y_Rows_risingDivisor prog_9_method_5_code 7 (some FieldType.long)) ∈ ay_G := ay_t4 65 rfl rfl
theorem wd_786 : (Cond.methodLink "TriSplits$Rows" 47 y_Rows_countAlike) ∈ ay_G := ay_t4 66 rfl rfl
theorem wd_788 : (Cond.instanceMethod y_Rows_countAlike) ∈ ay_G := ay_t4 68 rfl rfl
theorem wd_789 : (Cond.code y_Rows_countAlike prog_9_method_7_code 6 (some FieldType.int)) ∈ ay_G := ay_t4 69 rfl rfl
theorem wd_790 : (Cond.methodLink "TriSplitsLaw" 209 y_T_couples) ∈ ay_G := ay_t4 70 rfl rfl
theorem wd_791 : (Cond.instanceMethod y_T_couples) ∈ ay_G := ay_t4 71 rfl rfl
theorem wd_792 : (Cond.selects "TriSplits" y_T_couples y_T_couples) ∈ ay_G := ay_t4 72 rfl rfl
theorem wd_793 : (Cond.code y_T_couples prog_1_method_29_code 2 (some FieldType.int)) ∈ ay_G := ay_t4 73 rfl rfl
theorem wd_794 : (Cond.methodLink "TriSplitsLaw" 213 y_T_mirror) ∈ ay_G := ay_t4 74 rfl rfl
theorem wd_795 : (Cond.instanceMethod y_T_mirror) ∈ ay_G := ay_t4 75 rfl rfl
theorem wd_796 : (Cond.selects "TriSplits" y_T_mirror y_T_mirror) ∈ ay_G := ay_t4 76 rfl rfl
theorem wd_797 : (Cond.code y_T_mirror prog_1_method_30_code 7 (some FieldType.int)) ∈ ay_G := ay_t4 77 rfl rfl
theorem wd_798 : (Cond.methodLink "TriSplits" 257 y_Polys_reversed) ∈ ay_G := ay_t4 78 rfl rfl
theorem wd_799 : (Cond.methodLink "TriSplitsLaw" 217 y_T_akin) ∈ ay_G := ay_t4 79 rfl rfl
theorem wd_800 : (Cond.instanceMethod y_T_akin) ∈ ay_G := ay_t4 80 rfl rfl
theorem wd_801 : (Cond.selects "TriSplits" y_T_akin y_T_akin) ∈ ay_G := ay_t4 81 rfl rfl
theorem wd_802 : (Cond.code y_T_akin prog_1_method_31_code 3 (some FieldType.int)) ∈ ay_G := ay_t4 82 rfl rfl
theorem wd_803 : (Cond.methodLink "TriSplits" 260 y_Factors_hasSameAs) ∈ ay_G := ay_t4 83 rfl rfl
theorem wd_804 : (Cond.instanceMethod y_Factors_hasSameAs) ∈ ay_G := ay_t4 84 rfl rfl
theorem wd_805 : (Cond.selects "TriSplits$Factors" y_Factors_hasSameAs y_Factors_hasSameAs) ∈ ay_G := ay_t4 85 rfl rfl
theorem wd_806 : (Cond.code y_Factors_hasSameAs prog_2_method_9_code 3 (some FieldType.boolean)) ∈ ay_G := ay_t4 86 rfl rfl
theorem wd_807 : (Cond.methodLink "TriSplitsLaw" 193 y_T_letter) ∈ ay_G := ay_t4 87 rfl rfl
theorem wd_808 : (Cond.instanceMethod y_T_letter) ∈ ay_G := ay_t4 88 rfl rfl
theorem wd_809 : (Cond.selects "TriSplits" y_T_letter y_T_letter) ∈ ay_G := ay_t4 89 rfl rfl
theorem wd_810 : (Cond.code y_T_letter prog_1_method_32_code 3 (some FieldType.int)) ∈ ay_G := ay_t4 90 rfl rfl
theorem wd_811 : (Cond.methodLink "TriSplits" 264 y_Letters_restart) ∈ ay_G := ay_t4 91 rfl rfl
theorem wd_812 : (Cond.instanceMethod y_Letters_restart) ∈ ay_G := ay_t4 92 rfl rfl
theorem wd_813 : (Cond.selects "TriSplits$Letters" y_Letters_restart y_Letters_restart) ∈ ay_G := ay_t4 93 rfl rfl
theorem wd_814 : (Cond.code y_Letters_restart prog_5_method_4_code 1 none) ∈ ay_G := ay_t4 94 rfl rfl
theorem wd_815 : (Cond.methodLink "TriSplits" 267 y_Letters_writePoly) ∈ ay_G := ay_t4 95 rfl rfl
theorem wd_816 : (Cond.instanceMethod y_Letters_writePoly) ∈ ay_G := ay_t4 96 rfl rfl
theorem wd_817 : (Cond.selects "TriSplits$Letters" y_Letters_writePoly y_Letters_writePoly) ∈ ay_G := ay_t4 97 rfl rfl
theorem wd_818 : (Cond.code y_Letters_writePoly prog_5_method_5_code 5 none) ∈ ay_G := ay_t4 98 rfl rfl
theorem wd_819 : (Cond.methodLink "TriSplits$Letters" 19 y_Polys_degree) ∈ ay_G := ay_t4 99 rfl rfl
theorem wd_820 : (Cond.methodLink "TriSplits$Letters" 25 y_Letters_write) ∈ ay_G := ay_t4 100 rfl rfl
theorem wd_822 : (Cond.instanceMethod y_Letters_write) ∈ ay_G := ay_t4 102 rfl rfl
theorem wd_823 : (Cond.code y_Letters_write prog_5_method_9_code 2 none) ∈ ay_G := ay_t4 103 rfl rfl
theorem wd_824 : (Cond.methodLink "TriSplits$Letters" 29 y_Letters_writePowerOfX) ∈ ay_G := ay_t4 104 rfl rfl
theorem wd_826 : (Cond.instanceMethod y_Letters_writePowerOfX) ∈ ay_G := ay_t4 106 rfl rfl
theorem wd_827 : (Cond.code y_Letters_writePowerOfX prog_5_method_7_code 2 none) ∈ ay_G := ay_t4 107 rfl rfl
theorem wd_828 : (Cond.methodLink "TriSplits$Letters" 50 y_Letters_writeNumber) ∈ ay_G := ay_t4 108 rfl rfl
theorem wd_830 : (Cond.instanceMethod y_Letters_writeNumber) ∈ ay_G := ay_t4 110 rfl rfl
theorem wd_831 : (Cond.code y_Letters_writeNumber prog_5_method_8_code 2 none) ∈ ay_G := ay_t4 111 rfl rfl
theorem wd_832 : (Cond.methodLink "TriSplits" 270 y_T_letterAt) ∈ ay_G := ay_t4 112 rfl rfl
theorem wd_834 : (Cond.instanceMethod y_T_letterAt) ∈ ay_G := ay_t4 114 rfl rfl
theorem wd_835 : (Cond.code y_T_letterAt prog_1_method_58_code 2 (some FieldType.int)) ∈ ay_G := ay_t4 115 rfl rfl
theorem wd_836 : (Cond.methodLink "TriSplits" 383 y_Letters_size) ∈ ay_G := ay_t4 116 rfl rfl
theorem wd_837 : (Cond.instanceMethod y_Letters_size) ∈ ay_G := ay_t4 117 rfl rfl
theorem wd_838 : (Cond.selects "TriSplits$Letters" y_Letters_size y_Letters_size) ∈ ay_G := ay_t4 118 rfl rfl
theorem wd_839 : (Cond.code y_Letters_size prog_5_method_2_code 1 (some FieldType.int)) ∈ ay_G := ay_t4 119 rfl rfl
theorem wd_840 : (Cond.methodLink "TriSplits" 384 y_Letters_byteAt) ∈ ay_G := ay_t4 120 rfl rfl
theorem wd_841 : (Cond.instanceMethod y_Letters_byteAt) ∈ ay_G := ay_t4 121 rfl rfl
theorem wd_842 : (Cond.selects "TriSplits$Letters" y_Letters_byteAt y_Letters_byteAt) ∈ ay_G := ay_t4 122 rfl rfl
theorem wd_843 : (Cond.code y_Letters_byteAt prog_5_method_3_code 2 (some FieldType.int)) ∈ ay_G := ay_t4 123 rfl rfl
theorem wd_844 : (Cond.methodLink "TriSplitsLaw" 197 y_T_spell) ∈ ay_G := ay_t4 124 rfl rfl
theorem wd_845 : (Cond.instanceMethod y_T_spell) ∈ ay_G := ay_t4 125 rfl rfl
theorem wd_846 : (Cond.selects "TriSplits" y_T_spell y_T_spell) ∈ ay_G := ay_t4 126 rfl rfl
theorem wd_847 : (Cond.code y_T_spell prog_1_method_33_code 5 (some FieldType.int)) ∈ ay_G := ay_t4 127 rfl rfl
theorem wd_848 : (Cond.methodLink "TriSplits" 273 y_Letters_writeFactors) ∈ ay_G := ay_t4 128 rfl rfl
theorem wd_849 : (Cond.instanceMethod y_Letters_writeFactors) ∈ ay_G := ay_t4 129 rfl rfl
theorem wd_850 : (Cond.selects "TriSplits$Letters" y_Letters_writeFactors y_Letters_writeFactors) ∈ ay_G := ay_t4 130 rfl rfl
theorem wd_851 : (Cond.code y_Letters_writeFactors prog_5_method_6_code 3 none) ∈ ay_G := ay_t4 131 rfl rfl
theorem wd_852 : (Cond.methodLink "TriSplits$Letters" 32 y_Factors_unlike) ∈ ay_G := ay_t4 132 rfl rfl
theorem wd_853 : (Cond.methodLink "TriSplits$Letters" 38 y_Factors_base) ∈ ay_G := ay_t4 133 rfl rfl
theorem wd_854 : (Cond.methodLink "TriSplits$Letters" 42 y_Letters_writePoly) ∈ ay_G := ay_t4 134 rfl rfl
theorem wd_855 : (Cond.methodLink "TriSplits$Letters" 46 y_Factors_often) ∈ ay_G := ay_t4 135 rfl rfl
theorem wd_856 : (Cond.methodLink "TriSplitsLaw" 129 y_T_swan) ∈ ay_G := ay_t4 136 rfl rfl
theorem wd_857 : (Cond.instanceMethod y_T_swan) ∈ ay_G := ay_t4 137 rfl rfl
theorem wd_858 : (Cond.selects "TriSplits" y_T_swan y_T_swan) ∈ ay_G := ay_t4 138 rfl rfl
theorem wd_859 : (Cond.code y_T_swan prog_1_method_34_code 3 (some FieldType.int)) ∈ ay_G := ay_t4 139 rfl rfl
theorem wd_860 : (Cond.methodLink "TriSplits" 277 y_T_isTri) ∈ ay_G := ay_t4 140 rfl rfl
theorem wd_861 : (Cond.static y_T_isTri) ∈ ay_G := ay_t4 141 rfl rfl
theorem wd_862 : (Cond.code y_T_isTri prog_1_method_52_code 3 (some FieldType.boolean)) ∈ ay_G := ay_t4 142 rfl rfl
theorem wd_863 : (Cond.methodLink "TriSplits" 280 y_Families_swanParity) ∈ ay_G := ay_t4 143 rfl rfl
theorem wd_864 : (Cond.static y_Families_swanParity) ∈ ay_G := ay_t4 144 rfl rfl
theorem wd_865 : (Cond.code y_Families_swanParity prog_3_method_7_code 2 (some FieldType.int)) ∈ ay_G := ay_t4 145 rfl rfl
theorem wd_866 : (Cond.methodLink "TriSplits$Families" 40 y_Families_swanOfEven) ∈ ay_G := ay_t4 146 rfl rfl
theorem wd_867 : (Cond.static y_Families_swanOfEven) ∈ ay_G := ay_t4 147 rfl rfl
theorem wd_868 : (Cond.code y_Families_swanOfEven prog_3_method_9_code 2 (some FieldType.int)) ∈ ay_G := ay_t4 148 rfl rfl
theorem wd_869 : (Cond.methodLink "TriSplits$Families" 44 y_Families_swanOfOdd) ∈ ay_G := ay_t4 149 rfl rfl
theorem wd_870 : (Cond.static y_Families_swanOfOdd) ∈ ay_G := ay_t4 150 rfl rfl
theorem wd_871 : (Cond.code y_Families_swanOfOdd prog_3_method_10_code 4 (some FieldType.int)) ∈ ay_G := ay_t4 151 rfl rfl
theorem wd_872 : (Cond.methodLink "TriSplitsLaw" 133 y_T_evens) ∈ ay_G := ay_t4 152 rfl rfl
theorem wd_873 : (Cond.instanceMethod y_T_evens) ∈ ay_G := ay_t4 153 rfl rfl
theorem wd_874 : (Cond.selects "TriSplits" y_T_evens y_T_evens) ∈ ay_G := ay_t4 154 rfl rfl
theorem wd_875 : (Cond.code y_T_evens prog_1_method_35_code 2 (some FieldType.int)) ∈ ay_G := ay_t4 155 rfl rfl
theorem wd_876 : (Cond.methodLink "TriSplits" 284 y_Families_countEven) ∈ ay_G := ay_t4 156 rfl rfl
theorem wd_877 : (Cond.static y_Families_countEven) ∈ ay_G := ay_t4 157 rfl rfl
theorem wd_878 : (Cond.code y_Families_countEven prog_3_method_8_code 3 (some FieldType.int)) ∈ ay_G := ay_t4 158 rfl rfl
theorem wd_879 : (Cond.methodLink "TriSplits$Families" 47 y_Families_swanParity) ∈ ay_G := ay_t4 159 rfl rfl
theorem wd_880 : (Cond.methodLink "TriSplitsLaw" 137 y_T_multiple) ∈ ay_G := ay_t4 160 rfl rfl
theorem wd_881 : (Cond.instanceMethod y_T_multiple) ∈ ay_G := ay_t4 161 rfl rfl
theorem wd_882 : (Cond.selects "TriSplits" y_T_multiple y_T_multiple) ∈ ay_G := ay_t4 162 rfl rfl
theorem wd_883 : (Cond.code y_T_multiple prog_1_method_36_code 3 (some FieldType.int)) ∈ ay_G := ay_t4 163 rfl rfl
theorem wd_884 : (Cond.methodLink "TriSplits" 287 y_Rows_findMultiple) ∈ ay_G := ay_t4 164 rfl rfl
theorem wd_885 : (Cond.instanceMethod y_Rows_findMultiple) ∈ ay_G := ay_t4 165 rfl rfl
theorem wd_886 : (Cond.selects "TriSplits$Rows" y_Rows_findMultiple y_Rows_findMultiple) ∈ ay_G := ay_t4 166 rfl rfl
theorem wd_887 : (Cond.code y_Rows_findMultiple prog_9_method_6_code 7 (some FieldType.boolean)) ∈ ay_G := ay_t4 167 rfl rfl
theorem wd_888 : (Cond.methodLink "TriSplits$Rows" 51 y_Polys_remainder) ∈ ay_G := ay_t4 168 rfl rfl
theorem wd_889 : (Cond.methodLink "TriSplits" 290 y_Rows_multipleN) ∈ ay_G := ay_t4 169 rfl rfl
theorem wd_890 : (Cond.instanceMethod y_Rows_multipleN) ∈ ay_G := ay_t4 170 rfl rfl
theorem wd_891 : (Cond.selects "TriSplits$Rows" y_Rows_multipleN y_Rows_multipleN) ∈ ay_G := ay_t4 171 rfl rfl
theorem wd_892 : (Cond.code y_Rows_multipleN prog_9_method_2_code 1 (some FieldType.int)) ∈ ay_G := ay_t4 172 rfl rfl
theorem wd_893 : (Cond.methodLink "TriSplits" 293 y_Rows_multipleK) ∈ ay_G := ay_t4 173 rfl rfl
theorem wd_894 : (Cond.instanceMethod y_Rows_multipleK) ∈ ay_G := ay_t4 174 rfl rfl
theorem wd_895 : (Cond.selects "TriSplits$Rows" y_Rows_multipleK y_Rows_multipleK) ∈ ay_G := ay_t4 175 rfl rfl
theorem wd_896 : (Cond.code y_Rows_multipleK prog_9_method_3_code 1 (some FieldType.int)) ∈ ay_G := ay_t4 176 rfl rfl
theorem wd_897 : (Cond.methodLink "TriSplitsLaw" 141 y_T_shortest) ∈ ay_G := ay_t4 177 rfl rfl
theorem wd_898 : (Cond.instanceMethod y_T_shortest) ∈ ay_G := ay_t4 178 rfl rfl
theorem wd_899 : (Cond.selects "TriSplits" y_T_shortest y_T_shortest) ∈ ay_G := ay_t4 179 rfl rfl
theorem wd_900 : (Cond.code y_T_shortest prog_1_method_37_code 8 (some FieldType.long)) ∈ ay_G := ay_t4 180 rfl rfl
theorem wd_901 : (Cond.methodLink "TriSplits" 296 y_Shifts_shortestRule) ∈ ay_G := ay_t4 181 rfl rfl
theorem wd_902 : (Cond.static y_Shifts_shortestRule) ∈ ay_G := ay_t4 182 rfl rfl
theorem wd_903 : (Cond.code y_Shifts_shortestRule prog_10_method_5_code 12 (some FieldType.long)) ∈ ay_G := ay_t4 183 rfl rfl
theorem wd_904 : (Cond.methodLink "TriSplits$Shifts" 34 y_Shifts_breaks) ∈ ay_G := ay_t4 184 rfl rfl
theorem wd_905 : (Cond.static y_Shifts_breaks) ∈ ay_G := ay_t4 185 rfl rfl
theorem wd_906 : (Cond.code y_Shifts_breaks prog_10_method_6_code 9 (some FieldType.boolean)) ∈ ay_G := ay_t4 186 rfl rfl
theorem wd_907 : (Cond.methodLink "TriSplitsLaw" 189 y_T_shift) ∈ ay_G := ay_t4 187 rfl rfl
theorem wd_908 : (Cond.instanceMethod y_T_shift) ∈ ay_G := ay_t4 188 rfl rfl
theorem wd_909 : (Cond.selects "TriSplits" y_T_shift y_T_shift) ∈ ay_G := ay_t4 189 rfl rfl
theorem wd_910 : (Cond.code y_T_shift prog_1_method_38_code 2 (some FieldType.long)) ∈ ay_G := ay_t4 190 rfl rfl
theorem wd_911 : (Cond.methodLink "TriSplits" 299 y_Orders_period) ∈ ay_G := ay_t4 191 rfl rfl
theorem wd_912 : (Cond.instanceMethod y_Orders_period) ∈ ay_G := ay_t4 192 rfl rfl
theorem wd_913 : (Cond.selects "TriSplits$Orders" y_Orders_period y_Orders_period) ∈ ay_G := ay_t4 193 rfl rfl
theorem wd_914 : (Cond.code y_Orders_period prog_6_method_5_code 13 (some FieldType.long)) ∈ ay_G := ay_t4 194 rfl rfl
theorem wd_915 : (Cond.methodLink "TriSplits$Orders" 65 y_Shifts_behind) ∈ ay_G := ay_t4 195 rfl rfl
theorem wd_916 : (Cond.methodLink "TriSplits" 302 y_Store_gone) ∈ ay_G := ay_t4 196 rfl rfl
theorem wd_917 : (Cond.instanceMethod y_Store_gone) ∈ ay_G := ay_t4 197 rfl rfl
theorem wd_918 : (Cond.selects "TriSplits$Store" y_Store_gone y_Store_gone) ∈ ay_G := ay_t4 198 rfl rfl
theorem wd_919 : (Cond.code y_Store_gone prog_11_method_9_code 1 (some FieldType.long)) ∈ ay_G := ay_t4 199 rfl rfl
theorem wd_920 : (Cond.methodLink "TriSplitsLaw" 146 y_T_trinomial) ∈ ay_G := ay_t4 200 rfl rfl
theorem wd_921 : (Cond.instanceMethod y_T_trinomial) ∈ ay_G := ay_t4 201 rfl rfl
theorem wd_922 : (Cond.selects "TriSplits" y_T_trinomial y_T_trinomial) ∈ ay_G := ay_t4 202 rfl rfl
theorem wd_923 : (Cond.code y_T_trinomial prog_1_method_39_code 5 (some FieldType.int)) ∈ ay_G := ay_t4 203 rfl rfl
theorem wd_924 : (Cond.methodLink "TriSplits" 305 y_Families_countTris) ∈ ay_G := ay_t4 204 rfl rfl
theorem wd_925 : (Cond.instanceMethod y_Families_countTris) ∈ ay_G := ay_t4 205 rfl rfl
theorem wd_926 : (Cond.selects "TriSplits$Families" y_Families_countTris y_Families_countTris) ∈ ay_G := ay_t4 206 rfl rfl
theorem wd_927 : (Cond.code y_Families_countTris prog_3_method_2_code 5 (some FieldType.int)) ∈ ay_G := ay_t4 207 rfl rfl
theorem wd_928 : (Cond.methodLink "TriSplits$Families" 18 y_Polys_tri) ∈ ay_G := ay_t4 208 rfl rfl
theorem wd_929 : (Cond.methodLink "TriSplits$Families" 24 y_Orders_isSought) ∈ ay_G := ay_t4 209 rfl rfl
theorem wd_930 : (Cond.methodLink "TriSplits" 309 y_Families_triAt) ∈ ay_G := ay_t4 210 rfl rfl
theorem wd_931 : (Cond.instanceMethod y_Families_triAt) ∈ ay_G := ay_t4 211 rfl rfl
theorem wd_932 : (Cond.selects "TriSplits$Families" y_Families_triAt y_Families_triAt) ∈ ay_G := ay_t4 212 rfl rfl
theorem wd_933 : (Cond.code y_Families_triAt prog_3_method_3_code 6 (some FieldType.int)) ∈ ay_G := ay_t4 213 rfl rfl
theorem wd_934 : (Cond.methodLink "TriSplitsLaw" 151 y_T_least) ∈ ay_G := ay_t4 214 rfl rfl
theorem wd_935 : (Cond.instanceMethod y_T_least) ∈ ay_G := ay_t4 215 rfl rfl
theorem wd_936 : (Cond.selects "TriSplits" y_T_least y_T_least) ∈ ay_G := ay_t4 216 rfl rfl
theorem wd_937 : (Cond.code y_T_least prog_1_method_40_code 3 (some FieldType.long)) ∈ ay_G := ay_t4 217 rfl rfl
theorem wd_938 : (Cond.methodLink "TriSplits" 313 y_Families_lightest) ∈ ay_G := ay_t4 218 rfl rfl
theorem wd_939 : (Cond.instanceMethod y_Families_lightest) ∈ ay_G := ay_t4 219 rfl rfl
theorem wd_940 : (Cond.selects "TriSplits$Families" y_Families_lightest y_Families_lightest) ∈ ay_G := ay_t4 220 rfl rfl
theorem wd_941 : (Cond.code y_Families_lightest prog_3_method_4_code 6 (some FieldType.long)) ∈ ay_G := ay_t4 221 rfl rfl
theorem wd_942 : (Cond.methodLink "TriSplits$Families" 28 y_Families_leastOfWeight) ∈ ay_G := ay_t4 222 rfl rfl
theorem wd_944 : (Cond.instanceMethod y_Families_leastOfWeight) ∈ ay_G := ay_t4 224 rfl rfl
theorem wd_945 : (Cond.code y_Families_leastOfWeight prog_3_method_11_code 13 (some FieldType.long)) ∈ ay_G := ay_t4 225 rfl rfl
theorem wd_946 : (Cond.constant "TriSplits$Families" 50 1000000) ∈ ay_G := ay_t4 226 rfl rfl
theorem wd_947 : (Cond.methodLink "TriSplits$Families" 51 y_Long_numberOfTrailingZeros) ∈ ay_G := ay_t4 227 rfl rfl
theorem wd_948 : (Cond.static y_Long_numberOfTrailingZeros) ∈ ay_G := ay_t4 228 rfl rfl
theorem wd_949 : (Cond.code y_Long_numberOfTrailingZeros prog_16_method_49_code 3 (some FieldType.int)) ∈ ay_G := ay_t4 229 rfl rfl
theorem wd_950 : (Cond.methodLink "java/lang/Long" 311 y_Integer_numberOfTrailingZeros) ∈ ay_G := ay_t4 230 rfl rfl
theorem wd_951 : (Cond.static y_Integer_numberOfTrailingZeros) ∈ ay_G := ay_t4 231 rfl rfl
theorem wd_952 : (Cond.code y_Integer_numberOfTrailingZeros prog_15_method_48_code 2 (some FieldType.int)) ∈ ay_G := ay_t4 232 rfl rfl
theorem wd_953 : (Cond.constantLong "TriSplits$Families" 32 (-2)) ∈ ay_G := ay_t4 233 rfl rfl
theorem wd_954 : (Cond.methodLink "TriSplitsLaw" 156 y_T_many) ∈ ay_G := ay_t4 234 rfl rfl
theorem wd_955 : (Cond.instanceMethod y_T_many) ∈ ay_G := ay_t4 235 rfl rfl
theorem wd_956 : (Cond.selects "TriSplits" y_T_many y_T_many) ∈ ay_G := ay_t4 236 rfl rfl
theorem wd_957 : (Cond.code y_T_many prog_1_method_41_code 3 (some FieldType.long)) ∈ ay_G := ay_t4 237 rfl rfl
theorem wd_958 : (Cond.methodLink "TriSplits" 317 y_Orders_countPrimitive) ∈ ay_G := ay_t4 238 rfl rfl
theorem wd_959 : (Cond.instanceMethod y_Orders_countPrimitive) ∈ ay_G := ay_t4 239 rfl rfl
theorem wd_960 : (Cond.selects "TriSplits$Orders" y_Orders_countPrimitive y_Orders_countPrimitive) ∈ ay_G := ay_t5 0 rfl rfl
theorem wd_961 : (Cond.code y_Orders_countPrimitive prog_6_method_6_code 7 (some FieldType.long)) ∈ ay_G := ay_t5 1 rfl rfl
theorem wd_962 : (Cond.methodLink "TriSplits" 320 y_Families_countIrreducible) ∈ ay_G := ay_t5 2 rfl rfl
theorem wd_963 : (Cond.static y_Families_countIrreducible) ∈ ay_G := ay_t5 3 rfl rfl
theorem wd_964 : (Cond.code y_Families_countIrreducible prog_3_method_6_code 4 (some FieldType.long)) ∈ ay_G := ay_t5 4 rfl rfl
theorem wd_965 : (Cond.methodLink "TriSplits$Families" 36 y_Families_signOf) ∈ ay_G := ay_t5 5 rfl rfl
theorem wd_966 : (Cond.static y_Families_signOf) ∈ ay_G := ay_t5 6 rfl rfl
theorem wd_967 : (Cond.code y_Families_signOf prog_3_method_12_code 4 (some FieldType.int)) ∈ ay_G := ay_t5 7 rfl rfl
theorem wd_968 : (Cond.methodLink "TriSplitsLaw" 160 y_T_stays) ∈ ay_G := ay_t5 8 rfl rfl
theorem wd_969 : (Cond.instanceMethod y_T_stays) ∈ ay_G := ay_t5 9 rfl rfl
theorem wd_970 : (Cond.selects "TriSplits" y_T_stays y_T_stays) ∈ ay_G := ay_t5 10 rfl rfl
theorem wd_971 : (Cond.code y_T_stays prog_1_method_42_code 6 (some FieldType.int)) ∈ ay_G := ay_t5 11 rfl rfl
theorem wd_972 : (Cond.methodLink "TriSplits" 323 y_Polys_tri) ∈ ay_G := ay_t5 12 rfl rfl
theorem wd_973 : (Cond.methodLink "TriSplits" 327 y_Orders_staysRisen) ∈ ay_G := ay_t5 13 rfl rfl
theorem wd_974 : (Cond.instanceMethod y_Orders_staysRisen) ∈ ay_G := ay_t5 14 rfl rfl
theorem wd_975 : (Cond.selects "TriSplits$Orders" y_Orders_staysRisen y_Orders_staysRisen) ∈ ay_G := ay_t5 15 rfl rfl
theorem wd_976 : (Cond.code y_Orders_staysRisen prog_6_method_7_code 11 (some FieldType.boolean)) ∈ ay_G := ay_t5 16 rfl rfl
theorem wd_977 : (Cond.methodLink "TriSplitsLaw" 164 y_T_bare) ∈ ay_G := ay_t5 17 rfl rfl
theorem wd_978 : (Cond.instanceMethod y_T_bare) ∈ ay_G := ay_t5 18 rfl rfl
theorem wd_979 : (Cond.selects "TriSplits" y_T_bare y_T_bare) ∈ ay_G := ay_t5 19 rfl rfl
theorem wd_980 : (Cond.code y_T_bare prog_1_method_43_code 3 (some FieldType.int)) ∈ ay_G := ay_t5 20 rfl rfl
theorem wd_981 : (Cond.methodLink "TriSplitsLaw" 201 y_T_next) ∈ ay_G := ay_t5 21 rfl rfl
theorem wd_982 : (Cond.instanceMethod y_T_next) ∈ ay_G := ay_t5 22 rfl rfl
theorem wd_983 : (Cond.selects "TriSplits" y_T_next y_T_next) ∈ ay_G := ay_t5 23 rfl rfl
theorem wd_984 : (Cond.code y_T_next prog_1_method_44_code 5 (some FieldType.long)) ∈ ay_G := ay_t5 24 rfl rfl
theorem wd_985 : (Cond.methodLink "TriSplits" 331 y_Families_nextAbove) ∈ ay_G := ay_t5 25 rfl rfl
theorem wd_986 : (Cond.instanceMethod y_Families_nextAbove) ∈ ay_G := ay_t5 26 rfl rfl
theorem wd_987 : (Cond.selects "TriSplits$Families" y_Families_nextAbove y_Families_nextAbove) ∈ ay_G := ay_t5 27 rfl rfl
theorem wd_988 : (Cond.code y_Families_nextAbove prog_3_method_5_code 6 (some FieldType.long)) ∈ ay_G := ay_t5 28 rfl rfl
theorem wd_989 : (Cond.constantLong "TriSplits$Families" 34 2097152) ∈ ay_G := ay_t5 29 rfl rfl
theorem wd_990 : (Cond.methodLink "TriSplitsLaw" 168 y_T_minimal) ∈ ay_G := ay_t5 30 rfl rfl
theorem wd_991 : (Cond.instanceMethod y_T_minimal) ∈ ay_G := ay_t5 31 rfl rfl
theorem wd_992 : (Cond.selects "TriSplits" y_T_minimal y_T_minimal) ∈ ay_G := ay_t5 32 rfl rfl
theorem wd_993 : (Cond.code y_T_minimal prog_1_method_45_code 3 (some FieldType.long)) ∈ ay_G := ay_t5 33 rfl rfl
theorem wd_994 : (Cond.methodLink "TriSplits" 335 y_T_isElement) ∈ ay_G := ay_t5 34 rfl rfl
theorem wd_996 : (Cond.instanceMethod y_T_isElement) ∈ ay_G := ay_t5 36 rfl rfl
theorem wd_997 : (Cond.code y_T_isElement prog_1_method_54_code 5 (some FieldType.boolean)) ∈ ay_G := ay_t5 37 rfl rfl
theorem wd_998 : (Cond.methodLink "TriSplits" 339 y_Field_leastPoly) ∈ ay_G := ay_t5 38 rfl rfl
theorem wd_999 : (Cond.instanceMethod y_Field_leastPoly) ∈ ay_G := ay_t5 39 rfl rfl
theorem wd_1000 : (Cond.selects "TriSplits$Field" y_Field_leastPoly y_Field_leastPoly) ∈ ay_G := ay_t5 40 rfl rfl
theorem wd_1001 : (Cond.code y_Field_leastPoly prog_4_method_4_code 11 (some FieldType.long)) ∈ ay_G := ay_t5 41 rfl rfl
theorem wd_1002 : (Cond.methodLink "TriSplits$Field" 28 y_Field_unlikeConjugates) ∈ ay_G := ay_t5 42 rfl rfl
theorem wd_1003 : (Cond.static y_Field_unlikeConjugates) ∈ ay_G := ay_t5 43 rfl rfl
theorem wd_1004 : (Cond.code y_Field_unlikeConjugates prog_4_method_2_code 8 (some FieldType.int)) ∈ ay_G := ay_t5 44 rfl rfl
theorem wd_1005 : (Cond.methodLink "TriSplits$Field" 20 y_Polys_squareBy) ∈ ay_G := ay_t5 45 rfl rfl
theorem wd_1006 : (Cond.methodLink "TriSplits$Field" 32 y_Math_min) ∈ ay_G := ay_t5 46 rfl rfl
theorem wd_1007 : (Cond.methodLink "TriSplits$Field" 38 y_Polys_productBy) ∈ ay_G := ay_t5 47 rfl rfl
theorem wd_1008 : (Cond.methodLink "TriSplitsLaw" 172 y_T_trace) ∈ ay_G := ay_t5 48 rfl rfl
theorem wd_1009 : (Cond.instanceMethod y_T_trace) ∈ ay_G := ay_t5 49 rfl rfl
theorem wd_1010 : (Cond.selects "TriSplits" y_T_trace y_T_trace) ∈ ay_G := ay_t5 50 rfl rfl
theorem wd_1011 : (Cond.code y_T_trace prog_1_method_46_code 3 (some FieldType.int)) ∈ ay_G := ay_t5 51 rfl rfl
theorem wd_1012 : (Cond.methodLink "TriSplits" 342 y_Field_traceOf) ∈ ay_G := ay_t5 52 rfl rfl
theorem wd_1013 : (Cond.static y_Field_traceOf) ∈ ay_G := ay_t5 53 rfl rfl
theorem wd_1014 : (Cond.code y_Field_traceOf prog_4_method_3_code 10 (some FieldType.int)) ∈ ay_G := ay_t5 54 rfl rfl
theorem wd_1015 : (Cond.methodLink "TriSplits$Field" 24 y_Polys_degree) ∈ ay_G := ay_t5 55 rfl rfl
theorem wd_1016 : (Cond.methodLink "TriSplitsLaw" 176 y_T_conjugates) ∈ ay_G := ay_t5 56 rfl rfl
theorem wd_1017 : (Cond.instanceMethod y_T_conjugates) ∈ ay_G := ay_t5 57 rfl rfl
theorem wd_1018 : (Cond.selects "TriSplits" y_T_conjugates y_T_conjugates) ∈ ay_G := ay_t5 58 rfl rfl
theorem wd_1019 : (Cond.code y_T_conjugates prog_1_method_47_code 3 (some FieldType.int)) ∈ ay_G := ay_t5 59 rfl rfl
theorem wd_1020 : (Cond.methodLink "TriSplits" 346 y_Field_unlikeConjugates) ∈ ay_G := ay_t5 60 rfl rfl
theorem wd_1021 : (Cond.methodLink "TriSplitsLaw" 180 y_T_log) ∈ ay_G := ay_t5 61 rfl rfl
theorem wd_1022 : (Cond.instanceMethod y_T_log) ∈ ay_G := ay_t5 62 rfl rfl
theorem wd_1023 : (Cond.selects "TriSplits" y_T_log y_T_log) ∈ ay_G := ay_t5 63 rfl rfl
theorem wd_1024 : (Cond.code y_T_log prog_1_method_48_code 8 (some FieldType.long)) ∈ ay_G := ay_t5 64 rfl rfl
theorem wd_1025 : (Cond.methodLink "TriSplits" 349 y_Field_logarithm) ∈ ay_G := ay_t5 65 rfl rfl
theorem wd_1026 : (Cond.instanceMethod y_Field_logarithm) ∈ ay_G := ay_t5 66 rfl rfl
theorem wd_1027 : (Cond.selects "TriSplits$Field" y_Field_logarithm y_Field_logarithm) ∈ ay_G := ay_t5 67 rfl rfl
theorem wd_1028 : (Cond.code y_Field_logarithm prog_4_method_5_code 15 (some FieldType.long)) ∈ ay_G := ay_t5 68 rfl rfl
theorem wd_1029 : (Cond.constantLong "TriSplits$Field" 42 (-1)) ∈ ay_G := ay_t5 69 rfl rfl
theorem wd_1030 : (Cond.methodLink "TriSplits$Field" 44 y_Polys_inverseBy) ∈ ay_G := ay_t5 70 rfl rfl
theorem wd_1031 : (Cond.methodLink "TriSplits$Field" 47 y_Field_findPower) ∈ ay_G := ay_t5 71 rfl rfl
theorem wd_1033 : (Cond.instanceMethod y_Field_findPower) ∈ ay_G := ay_t5 73 rfl rfl
theorem wd_1034 : (Cond.code y_Field_findPower prog_4_method_7_code 4 (some FieldType.int)) ∈ ay_G := ay_t5 74 rfl rfl
theorem wd_1035 : (Cond.constantLong "TriSplits$Field" 50 256) ∈ ay_G := ay_t5 75 rfl rfl
theorem wd_1036 : (Cond.constantLong "TriSplits" 352 (-3)) ∈ ay_G := ay_t5 76 rfl rfl
theorem wd_1037 : (Cond.methodLink "TriSplitsLaw" 185 y_T_roots) ∈ ay_G := ay_t5 77 rfl rfl
theorem wd_1038 : (Cond.instanceMethod y_T_roots) ∈ ay_G := ay_t5 78 rfl rfl
theorem wd_1039 : (Cond.selects "TriSplits" y_T_roots y_T_roots) ∈ ay_G := ay_t5 79 rfl rfl
theorem wd_1040 : (Cond.code y_T_roots prog_1_method_49_code 4 (some FieldType.int)) ∈ ay_G := ay_t5 80 rfl rfl
theorem wd_1041 : (Cond.methodLink "TriSplits" 354 y_Field_countRoots) ∈ ay_G := ay_t5 81 rfl rfl
theorem wd_1042 : (Cond.static y_Field_countRoots) ∈ ay_G := ay_t5 82 rfl rfl
theorem wd_1043 : (Cond.code y_Field_countRoots prog_4_method_6_code 6 (some FieldType.int)) ∈ ay_G := ay_t5 83 rfl rfl
theorem wd_1044 : (Cond.constantLong "TriSplits$Field" 52 2) ∈ ay_G := ay_t5 84 rfl rfl
theorem wd_1045 : (Cond.methodLink "TriSplits$Field" 54 y_Polys_remainder) ∈ ay_G := ay_t5 85 rfl rfl
theorem wd_1046 : (Cond.methodLink "TriSplits$Field" 57 y_Polys_gcd) ∈ ay_G := ay_t5 86 rfl rfl
theorem wd_1047 : (Cond.methodLink "TriSplitsLaw" 221 y_T_count) ∈ ay_G := ay_t5 87 rfl rfl
theorem wd_1048 : (Cond.instanceMethod y_T_count) ∈ ay_G := ay_t5 88 rfl rfl
theorem wd_1049 : (Cond.selects "TriSplits" y_T_count y_T_count) ∈ ay_G := ay_t5 89 rfl rfl
theorem wd_1050 : (Cond.code y_T_count prog_1_method_50_code 2 (some FieldType.int)) ∈ ay_G := ay_t5 90 rfl rfl
theorem wd_1051 : (Cond.methodLink "TriSplits" 358 y_Store_nonzeroPlaces) ∈ ay_G := ay_t5 91 rfl rfl
theorem wd_1052 : (Cond.instanceMethod y_Store_nonzeroPlaces) ∈ ay_G := ay_t5 92 rfl rfl
theorem wd_1053 : (Cond.selects "TriSplits$Store" y_Store_nonzeroPlaces y_Store_nonzeroPlaces) ∈ ay_G := ay_t5 93 rfl rfl
theorem wd_1054 : (Cond.code y_Store_nonzeroPlaces prog_11_method_18_code 3 (some FieldType.int)) ∈ ay_G := ay_t5 94 rfl rfl
theorem wd_1055 : (Cond.methodLink "TriSplits$Store" 46 y_Store_polyAt) ∈ ay_G := ay_t5 95 rfl rfl
theorem wd_1056 : (Cond.methodLink "TriSplits" 361 y_Store_keptShelves) ∈ ay_G := ay_t5 96 rfl rfl
theorem wd_1057 : (Cond.instanceMethod y_Store_keptShelves) ∈ ay_G := ay_t5 97 rfl rfl
theorem wd_1058 : (Cond.selects "TriSplits$Store" y_Store_keptShelves y_Store_keptShelves) ∈ ay_G := ay_t5 98 rfl rfl
theorem wd_1059 : (Cond.code y_Store_keptShelves prog_11_method_13_code 1 (some FieldType.int)) ∈ ay_G := ay_t5 99 rfl rfl
theorem wd_1060 : (Cond.methodLink "TriSplits" 364 y_Store_irreduciblePlaces) ∈ ay_G := ay_t5 100 rfl rfl
theorem wd_1061 : (Cond.instanceMethod y_Store_irreduciblePlaces) ∈ ay_G := ay_t5 101 rfl rfl
theorem wd_1062 : (Cond.selects "TriSplits$Store" y_Store_irreduciblePlaces y_Store_irreduciblePlaces) ∈ ay_G := ay_t5 102 rfl rfl
theorem wd_1063 : (Cond.code y_Store_irreduciblePlaces prog_11_method_19_code 3 (some FieldType.int)) ∈ ay_G := ay_t5 103 rfl rfl
theorem wd_1064 : (Cond.methodLink "TriSplits$Store" 50 y_Polys_isIrreducible) ∈ ay_G := ay_t5 104 rfl rfl
theorem wd_1065 : (Cond.methodLink "TriSplits" 367 y_Store_allWeights) ∈ ay_G := ay_t5 105 rfl rfl
theorem wd_1066 : (Cond.instanceMethod y_Store_allWeights) ∈ ay_G := ay_t5 106 rfl rfl
theorem wd_1067 : (Cond.selects "TriSplits$Store" y_Store_allWeights y_Store_allWeights) ∈ ay_G := ay_t5 107 rfl rfl
theorem wd_1068 : (Cond.code y_Store_allWeights prog_11_method_20_code 3 (some FieldType.int)) ∈ ay_G := ay_t5 108 rfl rfl
theorem wd_1069 : (Cond.methodLink "TriSplits$Store" 56 y_Long_bitCount) ∈ ay_G := ay_t5 109 rfl rfl
theorem wd_1070 : (Cond.classLink "TriSplitsLaw" 10 "TriSplitsModel") ∈ ay_G := ay_t5 110 rfl rfl
theorem wd_1071 : (Cond.instantiable "TriSplitsModel" 35) ∈ ay_G := ay_t5 111 rfl rfl
theorem wd_1072 : (Cond.methodLink "TriSplitsLaw" 12 y_M_init) ∈ ay_G := ay_t5 112 rfl rfl
theorem wd_1073 : (Cond.instanceMethod y_M_init) ∈ ay_G := ay_t5 113 rfl rfl
theorem wd_1074 : (Cond.code y_M_init prog_14_method_1_code 1 none) ∈ ay_G := ay_t5 114 rfl rfl
theorem wd_1075 : (Cond.methodLink "TriSplitsModel" 1 y_Object_init) ∈ ay_G := ay_t5 115 rfl rfl
theorem wd_1076 : (Cond.constantLong "TriSplitsModel" 26 (-1)) ∈ ay_G := ay_t5 116 rfl rfl
theorem wd_1077 : (Cond.fieldLink "TriSplitsModel" 7 "TriSplitsModel" "now" "[J") ∈ ay_G := ay_t5 117 rfl rfl
theorem wd_1078 : (Cond.fieldLink "TriSplitsModel" 13 "TriSplitsModel" "was" "[J") ∈ ay_G := ay_t5 118 rfl rfl
theorem wd_1079 : (Cond.fieldLink "TriSplitsModel" 245 "TriSplitsModel" "undone" "I") ∈ ay_G := ay_t5 119 rfl rfl
theorem wd_1080 : (Cond.fieldLink "TriSplitsModel" 16 "TriSplitsModel" "kept" "[J") ∈ ay_G := ay_t5 120 rfl rfl
theorem wd_1081 : (Cond.fieldLink "TriSplitsModel" 19 "TriSplitsModel" "isKept" "[Z") ∈ ay_G := ay_t5 121 rfl rfl
theorem wd_1082 : (Cond.fieldLink "TriSplitsModel" 23 "TriSplitsModel" "factor" "[J") ∈ ay_G := ay_t5 122 rfl rfl
theorem wd_1083 : (Cond.fieldLink "TriSplitsModel" 104 "TriSplitsModel" "factors" "I") ∈ ay_G := ay_t5 123 rfl rfl
theorem wd_1084 : (Cond.fieldLink "TriSplitsModel" 28 "TriSplitsModel" "factored" "J") ∈ ay_G := ay_t5 124 rfl rfl
theorem wd_1085 : (Cond.fieldLink "TriSplitsModel" 32 "TriSplitsModel" "prime" "[J") ∈ ay_G := ay_t5 125 rfl rfl
theorem wd_1086 : (Cond.fieldLink "TriSplitsModel" 119 "TriSplitsModel" "primes" "I") ∈ ay_G := ay_t5 126 rfl rfl
theorem wd_1087 : (Cond.fieldLink "TriSplitsModel" 35 "TriSplitsModel" "powers" "[J") ∈ ay_G := ay_t5 127 rfl rfl
theorem wd_1088 : (Cond.fieldLink "TriSplitsModel" 38 "TriSplitsModel" "rows" "[J") ∈ ay_G := ay_t5 128 rfl rfl
theorem wd_1089 : (Cond.fieldLink "TriSplitsModel" 41 "TriSplitsModel" "whiches" "[J") ∈ ay_G := ay_t5 129 rfl rfl
theorem wd_1090 : (Cond.fieldLink "TriSplitsModel" 211 "TriSplitsModel" "solution" "J") ∈ ay_G := ay_t5 130 rfl rfl
theorem wd_1091 : (Cond.fieldLink "TriSplitsModel" 44 "TriSplitsModel" "leads" "[I") ∈ ay_G := ay_t5 131 rfl rfl
theorem wd_1092 : (Cond.fieldLink "TriSplitsModel" 48 "TriSplitsModel" "doing" "[J") ∈ ay_G := ay_t5 132 rfl rfl
theorem wd_1093 : (Cond.fieldLink "TriSplitsModel" 51 "TriSplitsModel" "twice" "[J") ∈ ay_G := ay_t5 133 rfl rfl
theorem wd_1094 : (Cond.fieldLink "TriSplitsModel" 268 "TriSplitsModel" "spelt" "I") ∈ ay_G := ay_t5 134 rfl rfl
theorem wd_1095 : (Cond.fieldLink "TriSplitsModel" 271 "TriSplitsModel" "wanted" "I") ∈ ay_G := ay_t5 135 rfl rfl
theorem wd_1096 : (Cond.fieldLink "TriSplitsModel" 274 "TriSplitsModel" "found" "I") ∈ ay_G := ay_t5 136 rfl rfl
theorem wd_1097 : (Cond.fieldLink "TriSplitsModel" 54 "TriSplitsModel" "tape" "[B") ∈ ay_G := ay_t5 137 rfl rfl
theorem wd_1098 : (Cond.fieldLink "TriSplitsModel" 300 "TriSplitsModel" "taped" "I") ∈ ay_G := ay_t5 138 rfl rfl
theorem wd_1099 : (Cond.fieldLink "TriSplitsModel" 309 "TriSplitsModel" "spot" "I") ∈ ay_G := ay_t5 139 rfl rfl
theorem wd_1100 : (Cond.fieldLink "TriSplitsModel" 58 "TriSplitsModel" "wrong" "I") ∈ ay_G := ay_t5 140 rfl rfl
theorem wd_1101 : (Cond.fieldLink "TriSplitsModel" 318 "TriSplitsModel" "wrongOpen" "I") ∈ ay_G := ay_t5 141 rfl rfl
theorem wd_1102 : (Cond.fieldLink "TriSplitsModel" 62 "TriSplitsModel" "wrongAt" "I") ∈ ay_G := ay_t5 142 rfl rfl
theorem wd_1103 : (Cond.fieldLink "TriSplitsModel" 357 "TriSplitsModel" "number" "I") ∈ ay_G := ay_t5 143 rfl rfl
theorem wd_1104 : (Cond.fieldLink "TriSplitsModel" 354 "TriSplitsModel" "numberAt" "I") ∈ ay_G := ay_t5 144 rfl rfl
theorem wd_1105 : (Cond.fieldLink "TriSplitsModel" 315 "TriSplitsModel" "open" "I") ∈ ay_G := ay_t5 145 rfl rfl
theorem wd_1106 : (Cond.fieldLink "TriSplitsModel" 65 "TriSplitsModel" "openAt" "[I") ∈ ay_G := ay_t5 146 rfl rfl
theorem wd_1107 : (Cond.fieldLink "TriSplitsModel" 369 "TriSplitsModel" "value" "J") ∈ ay_G := ay_t5 147 rfl rfl
theorem wd_1108 : (Cond.fieldLink "TriSplitsModel" 68 "TriSplitsModel" "read" "[J") ∈ ay_G := ay_t5 148 rfl rfl
theorem wd_1109 : (Cond.fieldLink "TriSplitsModel" 414 "TriSplitsModel" "statements" "I") ∈ ay_G := ay_t5 149 rfl rfl
theorem wd_1110 : (Cond.fieldLink "TriSplitsModel" 71 "TriSplitsModel" "divisors" "[J") ∈ ay_G := ay_t5 150 rfl rfl
theorem wd_1111 : (Cond.fieldLink "TriSplitsModel" 423 "TriSplitsModel" "divisorMany" "I") ∈ ay_G := ay_t5 151 rfl rfl
theorem wd_1112 : (Cond.laysFinal "TriSplitsModel" "TriSplitsModel" "now" "[J") ∈ ay_G := ay_t5 152 rfl rfl
theorem wd_1113 : (Cond.soleField "TriSplitsModel" "now") ∈ ay_G := ay_t5 153 rfl rfl
theorem wd_1114 : (Cond.laysFinal "TriSplitsModel" "TriSplitsModel" "was" "[J") ∈ ay_G := ay_t5 154 rfl rfl
theorem wd_1115 : (Cond.soleField "TriSplitsModel" "was") ∈ ay_G := ay_t5 155 rfl rfl
theorem wd_1116 : (Cond.lays "TriSplitsModel" "TriSplitsModel" "undone" "I") ∈ ay_G := ay_t5 156 rfl rfl
theorem wd_1117 : (Cond.soleField "TriSplitsModel" "undone") ∈ ay_G := ay_t5 157 rfl rfl
theorem wd_1118 : (Cond.laysFinal "TriSplitsModel" "TriSplitsModel" "kept" "[J") ∈ ay_G := ay_t5 158 rfl rfl
theorem wd_1119 : (Cond.soleField "TriSplitsModel" "kept") ∈ ay_G := ay_t5 159 rfl rfl
theorem wd_1120 : (Cond.laysFinal "TriSplitsModel" "TriSplitsModel" "isKept" "[Z") ∈ ay_G := ay_t5 160 rfl rfl
theorem wd_1121 : (Cond.soleField "TriSplitsModel" "isKept") ∈ ay_G := ay_t5 161 rfl rfl
theorem wd_1122 : (Cond.laysFinal "TriSplitsModel" "TriSplitsModel" "factor" "[J") ∈ ay_G := ay_t5 162 rfl rfl
theorem wd_1123 : (Cond.soleField "TriSplitsModel" "factor") ∈ ay_G := ay_t5 163 rfl rfl
theorem wd_1124 : (Cond.lays "TriSplitsModel" "TriSplitsModel" "factors" "I") ∈ ay_G := ay_t5 164 rfl rfl
theorem wd_1125 : (Cond.soleField "TriSplitsModel" "factors") ∈ ay_G := ay_t5 165 rfl rfl
theorem wd_1126 : (Cond.lays "TriSplitsModel" "TriSplitsModel" "factored" "J") ∈ ay_G := ay_t5 166 rfl rfl
theorem wd_1127 : (Cond.soleField "TriSplitsModel" "factored") ∈ ay_G := ay_t5 167 rfl rfl
theorem wd_1128 : (Cond.laysFinal "TriSplitsModel" "TriSplitsModel" "prime" "[J") ∈ ay_G := ay_t5 168 rfl rfl
theorem wd_1129 : (Cond.soleField "TriSplitsModel" "prime") ∈ ay_G := ay_t5 169 rfl rfl
theorem wd_1130 : (Cond.lays "TriSplitsModel" "TriSplitsModel" "primes" "I") ∈ ay_G := ay_t5 170 rfl rfl
theorem wd_1131 : (Cond.soleField "TriSplitsModel" "primes") ∈ ay_G := ay_t5 171 rfl rfl
theorem wd_1132 : (Cond.laysFinal "TriSplitsModel" "TriSplitsModel" "powers" "[J") ∈ ay_G := ay_t5 172 rfl rfl
theorem wd_1133 : (Cond.soleField "TriSplitsModel" "powers") ∈ ay_G := ay_t5 173 rfl rfl
theorem wd_1134 : (Cond.laysFinal "TriSplitsModel" "TriSplitsModel" "rows" "[J") ∈ ay_G := ay_t5 174 rfl rfl
theorem wd_1135 : (Cond.soleField "TriSplitsModel" "rows") ∈ ay_G := ay_t5 175 rfl rfl
theorem wd_1136 : (Cond.laysFinal "TriSplitsModel" "TriSplitsModel" "whiches" "[J") ∈ ay_G := ay_t5 176 rfl rfl
theorem wd_1137 : (Cond.soleField "TriSplitsModel" "whiches") ∈ ay_G := ay_t5 177 rfl rfl
theorem wd_1138 : (Cond.lays "TriSplitsModel" "TriSplitsModel" "solution" "J") ∈ ay_G := ay_t5 178 rfl rfl
theorem wd_1139 : (Cond.soleField "TriSplitsModel" "solution") ∈ ay_G := ay_t5 179 rfl rfl
theorem wd_1140 : (Cond.laysFinal "TriSplitsModel" "TriSplitsModel" "leads" "[I") ∈ ay_G := ay_t5 180 rfl rfl
theorem wd_1141 : (Cond.soleField "TriSplitsModel" "leads") ∈ ay_G := ay_t5 181 rfl rfl
theorem wd_1142 : (Cond.laysFinal "TriSplitsModel" "TriSplitsModel" "doing" "[J") ∈ ay_G := ay_t5 182 rfl rfl
theorem wd_1143 : (Cond.soleField "TriSplitsModel" "doing") ∈ ay_G := ay_t5 183 rfl rfl
theorem wd_1144 : (Cond.laysFinal "TriSplitsModel" "TriSplitsModel" "twice" "[J") ∈ ay_G := ay_t5 184 rfl rfl
theorem wd_1145 : (Cond.soleField "TriSplitsModel" "twice") ∈ ay_G := ay_t5 185 rfl rfl
theorem wd_1146 : (Cond.lays "TriSplitsModel" "TriSplitsModel" "spelt" "I") ∈ ay_G := ay_t5 186 rfl rfl
theorem wd_1147 : (Cond.soleField "TriSplitsModel" "spelt") ∈ ay_G := ay_t5 187 rfl rfl
theorem wd_1148 : (Cond.lays "TriSplitsModel" "TriSplitsModel" "wanted" "I") ∈ ay_G := ay_t5 188 rfl rfl
theorem wd_1149 : (Cond.soleField "TriSplitsModel" "wanted") ∈ ay_G := ay_t5 189 rfl rfl
theorem wd_1150 : (Cond.lays "TriSplitsModel" "TriSplitsModel" "found" "I") ∈ ay_G := ay_t5 190 rfl rfl
theorem wd_1151 : (Cond.soleField "TriSplitsModel" "found") ∈ ay_G := ay_t5 191 rfl rfl
theorem wd_1152 : (Cond.laysFinal "TriSplitsModel" "TriSplitsModel" "tape" "[B") ∈ ay_G := ay_t5 192 rfl rfl
theorem wd_1153 : (Cond.soleField "TriSplitsModel" "tape") ∈ ay_G := ay_t5 193 rfl rfl
theorem wd_1154 : (Cond.lays "TriSplitsModel" "TriSplitsModel" "taped" "I") ∈ ay_G := ay_t5 194 rfl rfl
theorem wd_1155 : (Cond.soleField "TriSplitsModel" "taped") ∈ ay_G := ay_t5 195 rfl rfl
theorem wd_1156 : (Cond.lays "TriSplitsModel" "TriSplitsModel" "spot" "I") ∈ ay_G := ay_t5 196 rfl rfl
theorem wd_1157 : (Cond.soleField "TriSplitsModel" "spot") ∈ ay_G := ay_t5 197 rfl rfl
theorem wd_1158 : (Cond.lays "TriSplitsModel" "TriSplitsModel" "wrong" "I") ∈ ay_G := ay_t5 198 rfl rfl
theorem wd_1159 : (Cond.soleField "TriSplitsModel" "wrong") ∈ ay_G := ay_t5 199 rfl rfl
theorem wd_1160 : (Cond.lays "TriSplitsModel" "TriSplitsModel" "wrongOpen" "I") ∈ ay_G := ay_t5 200 rfl rfl
theorem wd_1161 : (Cond.soleField "TriSplitsModel" "wrongOpen") ∈ ay_G := ay_t5 201 rfl rfl
theorem wd_1162 : (Cond.lays "TriSplitsModel" "TriSplitsModel" "wrongAt" "I") ∈ ay_G := ay_t5 202 rfl rfl
theorem wd_1163 : (Cond.soleField "TriSplitsModel" "wrongAt") ∈ ay_G := ay_t5 203 rfl rfl
theorem wd_1164 : (Cond.lays "TriSplitsModel" "TriSplitsModel" "number" "I") ∈ ay_G := ay_t5 204 rfl rfl
theorem wd_1165 : (Cond.soleField "TriSplitsModel" "number") ∈ ay_G := ay_t5 205 rfl rfl
theorem wd_1166 : (Cond.lays "TriSplitsModel" "TriSplitsModel" "numberAt" "I") ∈ ay_G := ay_t5 206 rfl rfl
theorem wd_1167 : (Cond.soleField "TriSplitsModel" "numberAt") ∈ ay_G := ay_t5 207 rfl rfl
theorem wd_1168 : (Cond.lays "TriSplitsModel" "TriSplitsModel" "open" "I") ∈ ay_G := ay_t5 208 rfl rfl
theorem wd_1169 : (Cond.soleField "TriSplitsModel" "open") ∈ ay_G := ay_t5 209 rfl rfl
theorem wd_1170 : (Cond.laysFinal "TriSplitsModel" "TriSplitsModel" "openAt" "[I") ∈ ay_G := ay_t5 210 rfl rfl
theorem wd_1171 : (Cond.soleField "TriSplitsModel" "openAt") ∈ ay_G := ay_t5 211 rfl rfl
theorem wd_1172 : (Cond.lays "TriSplitsModel" "TriSplitsModel" "value" "J") ∈ ay_G := ay_t5 212 rfl rfl
theorem wd_1173 : (Cond.soleField "TriSplitsModel" "value") ∈ ay_G := ay_t5 213 rfl rfl
theorem wd_1174 : (Cond.laysFinal "TriSplitsModel" "TriSplitsModel" "read" "[J") ∈ ay_G := ay_t5 214 rfl rfl
theorem wd_1175 : (Cond.soleField "TriSplitsModel" "read") ∈ ay_G := ay_t5 215 rfl rfl
theorem wd_1176 : (Cond.lays "TriSplitsModel" "TriSplitsModel" "statements" "I") ∈ ay_G := ay_t5 216 rfl rfl
theorem wd_1177 : (Cond.soleField "TriSplitsModel" "statements") ∈ ay_G := ay_t5 217 rfl rfl
theorem wd_1178 : (Cond.laysFinal "TriSplitsModel" "TriSplitsModel" "divisors" "[J") ∈ ay_G := ay_t5 218 rfl rfl
theorem wd_1179 : (Cond.soleField "TriSplitsModel" "divisors") ∈ ay_G := ay_t5 219 rfl rfl
theorem wd_1180 : (Cond.lays "TriSplitsModel" "TriSplitsModel" "divisorMany" "I") ∈ ay_G := ay_t5 220 rfl rfl
theorem wd_1181 : (Cond.soleField "TriSplitsModel" "divisorMany") ∈ ay_G := ay_t5 221 rfl rfl
theorem wd_1182 : (Cond.superclass "TriSplitsModel" "java/lang/Object") ∈ ay_G := ay_t5 222 rfl rfl
theorem wd_1183 : (Cond.arrayClass FieldType.boolean) ∈ ay_G := ay_t5 223 rfl rfl
theorem wd_1184 : (Cond.methodLink "TriSplitsLaw" 111 y_M_bits) ∈ ay_G := ay_t5 224 rfl rfl
theorem wd_1185 : (Cond.instanceMethod y_M_bits) ∈ ay_G := ay_t5 225 rfl rfl
theorem wd_1186 : (Cond.selects "TriSplitsModel" y_M_bits y_M_bits) ∈ ay_G := ay_t5 226 rfl rfl
theorem wd_1187 : (Cond.code y_M_bits prog_14_method_30_code 2 (some FieldType.long)) ∈ ay_G := ay_t5 227 rfl rfl
theorem wd_1188 : (Cond.methodLink "TriSplitsModel" 150 y_M_isPlace) ∈ ay_G := ay_t5 228 rfl rfl
theorem wd_1189 : (Cond.static y_M_isPlace) ∈ ay_G := ay_t5 229 rfl rfl
theorem wd_1190 : (Cond.code y_M_isPlace prog_14_method_3_code 1 (some FieldType.boolean)) ∈ ay_G := ay_t5 230 rfl rfl
theorem wd_1191 : (Cond.constantLong "TriSplitsModel" 74 9) ∈ ay_G := ay_t5 231 rfl rfl
theorem wd_1192 : (Cond.methodLink "TriSplitsModel" 76 y_M_in) ∈ ay_G := ay_t5 232 rfl rfl
theorem wd_1193 : (Cond.static y_M_in) ∈ ay_G := ay_t5 233 rfl rfl
theorem wd_1194 : (Cond.code y_M_in prog_14_method_2_code 6 (some FieldType.boolean)) ∈ ay_G := ay_t5 234 rfl rfl
theorem wd_1195 : (Cond.methodLink "TriSplitsLaw" 115 y_M_poly) ∈ ay_G := ay_t5 235 rfl rfl
theorem wd_1196 : (Cond.instanceMethod y_M_poly) ∈ ay_G := ay_t5 236 rfl rfl
theorem wd_1197 : (Cond.selects "TriSplitsModel" y_M_poly y_M_poly) ∈ ay_G := ay_t5 237 rfl rfl
theorem wd_1198 : (Cond.code y_M_poly prog_14_method_31_code 5 (some FieldType.int)) ∈ ay_G := ay_t5 238 rfl rfl
theorem wd_1199 : (Cond.constantLong "TriSplitsModel" 102 3) ∈ ay_G := ay_t5 239 rfl rfl
theorem wd_1200 : (Cond.constantLong "TriSplitsModel" 154 8) ∈ ay_G := ay_t6 0 rfl rfl
theorem wd_1201 : (Cond.methodLink "TriSplitsModel" 112 y_M_laysFactors) ∈ ay_G := ay_t6 1 rfl rfl
theorem wd_1203 : (Cond.instanceMethod y_M_laysFactors) ∈ ay_G := ay_t6 3 rfl rfl
theorem wd_1204 : (Cond.code y_M_laysFactors prog_14_method_19_code 7 none) ∈ ay_G := ay_t6 4 rfl rfl
theorem wd_1205 : (Cond.constantLong "TriSplitsModel" 107 2) ∈ ay_G := ay_t6 5 rfl rfl
theorem wd_1206 : (Cond.methodLink "TriSplitsModel" 84 y_M_degree) ∈ ay_G := ay_t6 6 rfl rfl
theorem wd_1207 : (Cond.static y_M_degree) ∈ ay_G := ay_t6 7 rfl rfl
theorem wd_1208 : (Cond.code y_M_degree prog_14_method_4_code 5 (some FieldType.int)) ∈ ay_G := ay_t6 8 rfl rfl
theorem wd_1209 : (Cond.methodLink "TriSplitsModel" 88 y_M_restOf) ∈ ay_G := ay_t6 9 rfl rfl
theorem wd_1210 : (Cond.static y_M_restOf) ∈ ay_G := ay_t6 10 rfl rfl
theorem wd_1211 : (Cond.code y_M_restOf prog_14_method_8_code 8 (some FieldType.long)) ∈ ay_G := ay_t6 11 rfl rfl
theorem wd_1212 : (Cond.methodLink "TriSplitsModel" 80 y_M_has) ∈ ay_G := ay_t6 12 rfl rfl
theorem wd_1213 : (Cond.static y_M_has) ∈ ay_G := ay_t6 13 rfl rfl
theorem wd_1214 : (Cond.code y_M_has prog_14_method_5_code 3 (some FieldType.boolean)) ∈ ay_G := ay_t6 14 rfl rfl
theorem wd_1215 : (Cond.methodLink "TriSplitsModel" 109 y_M_quotient) ∈ ay_G := ay_t6 15 rfl rfl
theorem wd_1216 : (Cond.static y_M_quotient) ∈ ay_G := ay_t6 16 rfl rfl
theorem wd_1217 : (Cond.code y_M_quotient prog_14_method_9_code 10 (some FieldType.long)) ∈ ay_G := ay_t6 17 rfl rfl
theorem wd_1218 : (Cond.methodLink "TriSplitsModel" 156 y_M_weight) ∈ ay_G := ay_t6 18 rfl rfl
theorem wd_1219 : (Cond.static y_M_weight) ∈ ay_G := ay_t6 19 rfl rfl
theorem wd_1220 : (Cond.code y_M_weight prog_14_method_6_code 4 (some FieldType.int)) ∈ ay_G := ay_t6 20 rfl rfl
theorem wd_1221 : (Cond.methodLink "TriSplitsModel" 126 y_M_oftenest) ∈ ay_G := ay_t6 21 rfl rfl
theorem wd_1223 : (Cond.instanceMethod y_M_oftenest) ∈ ay_G := ay_t6 23 rfl rfl
theorem wd_1224 : (Cond.code y_M_oftenest prog_14_method_22_code 4 (some FieldType.int)) ∈ ay_G := ay_t6 24 rfl rfl
theorem wd_1225 : (Cond.methodLink "TriSplitsModel" 147 y_M_isPrimitive) ∈ ay_G := ay_t6 25 rfl rfl
theorem wd_1227 : (Cond.instanceMethod y_M_isPrimitive) ∈ ay_G := ay_t6 27 rfl rfl
theorem wd_1228 : (Cond.code y_M_isPrimitive prog_14_method_28_code 3 (some FieldType.boolean)) ∈ ay_G := ay_t6 28 rfl rfl
theorem wd_1229 : (Cond.methodLink "TriSplitsModel" 136 y_M_hasOrder) ∈ ay_G := ay_t6 29 rfl rfl
theorem wd_1230 : (Cond.static y_M_hasOrder) ∈ ay_G := ay_t6 30 rfl rfl
theorem wd_1231 : (Cond.code y_M_hasOrder prog_14_method_27_code 2 (some FieldType.boolean)) ∈ ay_G := ay_t6 31 rfl rfl
theorem wd_1232 : (Cond.methodLink "TriSplitsModel" 140 y_M_isIrreducible) ∈ ay_G := ay_t6 32 rfl rfl
theorem wd_1234 : (Cond.instanceMethod y_M_isIrreducible) ∈ ay_G := ay_t6 34 rfl rfl
theorem wd_1235 : (Cond.code y_M_isIrreducible prog_14_method_20_code 3 (some FieldType.boolean)) ∈ ay_G := ay_t6 35 rfl rfl
theorem wd_1236 : (Cond.methodLink "TriSplitsModel" 143 y_M_orderOf) ∈ ay_G := ay_t6 36 rfl rfl
theorem wd_1238 : (Cond.instanceMethod y_M_orderOf) ∈ ay_G := ay_t6 38 rfl rfl
theorem wd_1239 : (Cond.code y_M_orderOf prog_14_method_26_code 8 (some FieldType.long)) ∈ ay_G := ay_t6 39 rfl rfl
theorem wd_1240 : (Cond.methodLink "TriSplitsModel" 122 y_M_allOnes) ∈ ay_G := ay_t6 40 rfl rfl
theorem wd_1241 : (Cond.static y_M_allOnes) ∈ ay_G := ay_t6 41 rfl rfl
theorem wd_1242 : (Cond.code y_M_allOnes prog_14_method_25_code 1 (some FieldType.long)) ∈ ay_G := ay_t6 42 rfl rfl
theorem wd_1243 : (Cond.methodLink "TriSplitsModel" 116 y_M_commonNumber) ∈ ay_G := ay_t6 43 rfl rfl
theorem wd_1244 : (Cond.static y_M_commonNumber) ∈ ay_G := ay_t6 44 rfl rfl
theorem wd_1245 : (Cond.code y_M_commonNumber prog_14_method_23_code 4 (some FieldType.long)) ∈ ay_G := ay_t6 45 rfl rfl
theorem wd_1246 : (Cond.methodLink "TriSplitsModel" 130 y_M_laysPrimes) ∈ ay_G := ay_t6 46 rfl rfl
theorem wd_1248 : (Cond.instanceMethod y_M_laysPrimes) ∈ ay_G := ay_t6 48 rfl rfl
theorem wd_1249 : (Cond.code y_M_laysPrimes prog_14_method_24_code 7 none) ∈ ay_G := ay_t6 49 rfl rfl
theorem wd_1250 : (Cond.methodLink "TriSplitsModel" 133 y_M_powerBy) ∈ ay_G := ay_t6 50 rfl rfl
theorem wd_1251 : (Cond.static y_M_powerBy) ∈ ay_G := ay_t6 51 rfl rfl
theorem wd_1252 : (Cond.code y_M_powerBy prog_14_method_12_code 9 (some FieldType.long)) ∈ ay_G := ay_t6 52 rfl rfl
theorem wd_1253 : (Cond.methodLink "TriSplitsModel" 98 y_M_timesBy) ∈ ay_G := ay_t6 53 rfl rfl
theorem wd_1254 : (Cond.static y_M_timesBy) ∈ ay_G := ay_t6 54 rfl rfl
theorem wd_1255 : (Cond.code y_M_timesBy prog_14_method_11_code 6 (some FieldType.long)) ∈ ay_G := ay_t6 55 rfl rfl
theorem wd_1256 : (Cond.methodLink "TriSplitsModel" 95 y_M_product) ∈ ay_G := ay_t6 56 rfl rfl
theorem wd_1257 : (Cond.static y_M_product) ∈ ay_G := ay_t6 57 rfl rfl
theorem wd_1258 : (Cond.code y_M_product prog_14_method_7_code 7 (some FieldType.long)) ∈ ay_G := ay_t6 58 rfl rfl
theorem wd_1259 : (Cond.methodLink "TriSplitsModel" 159 y_M_unlikeFactors) ∈ ay_G := ay_t6 59 rfl rfl
theorem wd_1261 : (Cond.instanceMethod y_M_unlikeFactors) ∈ ay_G := ay_t6 61 rfl rfl
theorem wd_1262 : (Cond.code y_M_unlikeFactors prog_14_method_21_code 3 (some FieldType.int)) ∈ ay_G := ay_t6 62 rfl rfl
theorem wd_1263 : (Cond.methodLink "TriSplitsLaw" 120 y_M_factor) ∈ ay_G := ay_t6 63 rfl rfl
theorem wd_1264 : (Cond.instanceMethod y_M_factor) ∈ ay_G := ay_t6 64 rfl rfl
theorem wd_1265 : (Cond.selects "TriSplitsModel" y_M_factor y_M_factor) ∈ ay_G := ay_t6 65 rfl rfl
theorem wd_1266 : (Cond.code y_M_factor prog_14_method_32_code 3 (some FieldType.long)) ∈ ay_G := ay_t6 66 rfl rfl
theorem wd_1267 : (Cond.constantLong "TriSplitsModel" 162 (-2)) ∈ ay_G := ay_t6 67 rfl rfl
theorem wd_1268 : (Cond.methodLink "TriSplitsLaw" 124 y_M_ofDegree) ∈ ay_G := ay_t6 68 rfl rfl
theorem wd_1269 : (Cond.instanceMethod y_M_ofDegree) ∈ ay_G := ay_t6 69 rfl rfl
theorem wd_1270 : (Cond.selects "TriSplitsModel" y_M_ofDegree y_M_ofDegree) ∈ ay_G := ay_t6 70 rfl rfl
theorem wd_1271 : (Cond.code y_M_ofDegree prog_14_method_33_code 5 (some FieldType.int)) ∈ ay_G := ay_t6 71 rfl rfl
theorem wd_1272 : (Cond.constantLong "TriSplitsModel" 164 31) ∈ ay_G := ay_t6 72 rfl rfl
theorem wd_1273 : (Cond.methodLink "TriSplitsLaw" 128 y_M_order) ∈ ay_G := ay_t6 73 rfl rfl
theorem wd_1274 : (Cond.instanceMethod y_M_order) ∈ ay_G := ay_t6 74 rfl rfl
theorem wd_1275 : (Cond.selects "TriSplitsModel" y_M_order y_M_order) ∈ ay_G := ay_t6 75 rfl rfl
theorem wd_1276 : (Cond.code y_M_order prog_14_method_34_code 2 (some FieldType.long)) ∈ ay_G := ay_t6 76 rfl rfl
theorem wd_1277 : (Cond.methodLink "TriSplitsLaw" 220 y_M_akin) ∈ ay_G := ay_t6 77 rfl rfl
theorem wd_1278 : (Cond.instanceMethod y_M_akin) ∈ ay_G := ay_t6 78 rfl rfl
theorem wd_1279 : (Cond.selects "TriSplitsModel" y_M_akin y_M_akin) ∈ ay_G := ay_t6 79 rfl rfl
theorem wd_1280 : (Cond.code y_M_akin prog_14_method_35_code 3 (some FieldType.int)) ∈ ay_G := ay_t6 80 rfl rfl
theorem wd_1281 : (Cond.methodLink "TriSplitsModel" 166 y_M_radical) ∈ ay_G := ay_t6 81 rfl rfl
theorem wd_1283 : (Cond.instanceMethod y_M_radical) ∈ ay_G := ay_t6 83 rfl rfl
theorem wd_1284 : (Cond.code y_M_radical prog_14_method_36_code 6 (some FieldType.long)) ∈ ay_G := ay_t6 84 rfl rfl
theorem wd_1285 : (Cond.methodLink "TriSplitsLaw" 132 y_M_swan) ∈ ay_G := ay_t6 85 rfl rfl
theorem wd_1286 : (Cond.instanceMethod y_M_swan) ∈ ay_G := ay_t6 86 rfl rfl
theorem wd_1287 : (Cond.selects "TriSplitsModel" y_M_swan y_M_swan) ∈ ay_G := ay_t6 87 rfl rfl
theorem wd_1288 : (Cond.code y_M_swan prog_14_method_38_code 3 (some FieldType.int)) ∈ ay_G := ay_t6 88 rfl rfl
theorem wd_1289 : (Cond.constantLong "TriSplitsModel" 173 2000) ∈ ay_G := ay_t6 89 rfl rfl
theorem wd_1290 : (Cond.methodLink "TriSplitsModel" 169 y_M_swanOf) ∈ ay_G := ay_t6 90 rfl rfl
theorem wd_1291 : (Cond.static y_M_swanOf) ∈ ay_G := ay_t6 91 rfl rfl
theorem wd_1292 : (Cond.code y_M_swanOf prog_14_method_37_code 4 (some FieldType.int)) ∈ ay_G := ay_t6 92 rfl rfl
theorem wd_1293 : (Cond.methodLink "TriSplitsLaw" 136 y_M_evens) ∈ ay_G := ay_t6 93 rfl rfl
theorem wd_1294 : (Cond.instanceMethod y_M_evens) ∈ ay_G := ay_t6 94 rfl rfl
theorem wd_1295 : (Cond.selects "TriSplitsModel" y_M_evens y_M_evens) ∈ ay_G := ay_t6 95 rfl rfl
theorem wd_1296 : (Cond.code y_M_evens prog_14_method_39_code 4 (some FieldType.int)) ∈ ay_G := ay_t6 96 rfl rfl
theorem wd_1297 : (Cond.methodLink "TriSplitsLaw" 140 y_M_multiple) ∈ ay_G := ay_t6 97 rfl rfl
theorem wd_1298 : (Cond.instanceMethod y_M_multiple) ∈ ay_G := ay_t6 98 rfl rfl
theorem wd_1299 : (Cond.selects "TriSplitsModel" y_M_multiple y_M_multiple) ∈ ay_G := ay_t6 99 rfl rfl
theorem wd_1300 : (Cond.code y_M_multiple prog_14_method_40_code 7 (some FieldType.int)) ∈ ay_G := ay_t6 100 rfl rfl
theorem wd_1301 : (Cond.methodLink "TriSplitsLaw" 150 y_M_trinomial) ∈ ay_G := ay_t6 101 rfl rfl
theorem wd_1302 : (Cond.instanceMethod y_M_trinomial) ∈ ay_G := ay_t6 102 rfl rfl
theorem wd_1303 : (Cond.selects "TriSplitsModel" y_M_trinomial y_M_trinomial) ∈ ay_G := ay_t6 103 rfl rfl
theorem wd_1304 : (Cond.code y_M_trinomial prog_14_method_41_code 6 (some FieldType.int)) ∈ ay_G := ay_t6 104 rfl rfl
theorem wd_1305 : (Cond.constantLong "TriSplitsModel" 175 24) ∈ ay_G := ay_t6 105 rfl rfl
theorem wd_1306 : (Cond.methodLink "TriSplitsModel" 177 y_M_tri) ∈ ay_G := ay_t6 106 rfl rfl
theorem wd_1307 : (Cond.static y_M_tri) ∈ ay_G := ay_t6 107 rfl rfl
theorem wd_1308 : (Cond.code y_M_tri prog_14_method_18_code 2 (some FieldType.long)) ∈ ay_G := ay_t6 108 rfl rfl
theorem wd_1309 : (Cond.methodLink "TriSplitsModel" 181 y_M_isGood) ∈ ay_G := ay_t6 109 rfl rfl
theorem wd_1311 : (Cond.instanceMethod y_M_isGood) ∈ ay_G := ay_t6 111 rfl rfl
theorem wd_1312 : (Cond.code y_M_isGood prog_14_method_29_code 4 (some FieldType.boolean)) ∈ ay_G := ay_t6 112 rfl rfl
theorem wd_1313 : (Cond.methodLink "TriSplitsLaw" 155 y_M_least) ∈ ay_G := ay_t6 113 rfl rfl
theorem wd_1314 : (Cond.instanceMethod y_M_least) ∈ ay_G := ay_t6 114 rfl rfl
theorem wd_1315 : (Cond.selects "TriSplitsModel" y_M_least y_M_least) ∈ ay_G := ay_t6 115 rfl rfl
theorem wd_1316 : (Cond.code y_M_least prog_14_method_42_code 8 (some FieldType.long)) ∈ ay_G := ay_t6 116 rfl rfl
theorem wd_1317 : (Cond.constantLong "TriSplitsModel" 185 20) ∈ ay_G := ay_t6 117 rfl rfl
theorem wd_1318 : (Cond.methodLink "TriSplitsLaw" 159 y_M_many) ∈ ay_G := ay_t6 118 rfl rfl
theorem wd_1319 : (Cond.instanceMethod y_M_many) ∈ ay_G := ay_t6 119 rfl rfl
theorem wd_1320 : (Cond.selects "TriSplitsModel" y_M_many y_M_many) ∈ ay_G := ay_t6 120 rfl rfl
theorem wd_1321 : (Cond.code y_M_many prog_14_method_45_code 6 (some FieldType.long)) ∈ ay_G := ay_t6 121 rfl rfl
theorem wd_1322 : (Cond.methodLink "TriSplitsModel" 187 y_M_coprimes) ∈ ay_G := ay_t6 122 rfl rfl
theorem wd_1324 : (Cond.instanceMethod y_M_coprimes) ∈ ay_G := ay_t6 124 rfl rfl
theorem wd_1325 : (Cond.code y_M_coprimes prog_14_method_44_code 6 (some FieldType.long)) ∈ ay_G := ay_t6 125 rfl rfl
theorem wd_1326 : (Cond.methodLink "TriSplitsModel" 190 y_M_moebius) ∈ ay_G := ay_t6 126 rfl rfl
theorem wd_1328 : (Cond.instanceMethod y_M_moebius) ∈ ay_G := ay_t6 128 rfl rfl
theorem wd_1329 : (Cond.code y_M_moebius prog_14_method_43_code 4 (some FieldType.int)) ∈ ay_G := ay_t6 129 rfl rfl
theorem wd_1330 : (Cond.methodLink "TriSplitsLaw" 163 y_M_stays) ∈ ay_G := ay_t6 130 rfl rfl
theorem wd_1331 : (Cond.instanceMethod y_M_stays) ∈ ay_G := ay_t6 131 rfl rfl
theorem wd_1332 : (Cond.selects "TriSplitsModel" y_M_stays y_M_stays) ∈ ay_G := ay_t6 132 rfl rfl
theorem wd_1333 : (Cond.code y_M_stays prog_14_method_46_code 11 (some FieldType.int)) ∈ ay_G := ay_t6 133 rfl rfl
theorem wd_1334 : (Cond.constantLong "TriSplitsModel" 194 1000) ∈ ay_G := ay_t6 134 rfl rfl
theorem wd_1335 : (Cond.methodLink "TriSplitsLaw" 167 y_M_bare) ∈ ay_G := ay_t6 135 rfl rfl
theorem wd_1336 : (Cond.instanceMethod y_M_bare) ∈ ay_G := ay_t6 136 rfl rfl
theorem wd_1337 : (Cond.selects "TriSplitsModel" y_M_bare y_M_bare) ∈ ay_G := ay_t6 137 rfl rfl
theorem wd_1338 : (Cond.code y_M_bare prog_14_method_47_code 3 (some FieldType.int)) ∈ ay_G := ay_t6 138 rfl rfl
theorem wd_1339 : (Cond.methodLink "TriSplitsModel" 196 y_M_trinomial) ∈ ay_G := ay_t6 139 rfl rfl
theorem wd_1340 : (Cond.methodLink "TriSplitsLaw" 171 y_M_minimal) ∈ ay_G := ay_t6 140 rfl rfl
theorem wd_1341 : (Cond.instanceMethod y_M_minimal) ∈ ay_G := ay_t6 141 rfl rfl
theorem wd_1342 : (Cond.selects "TriSplitsModel" y_M_minimal y_M_minimal) ∈ ay_G := ay_t6 142 rfl rfl
theorem wd_1343 : (Cond.code y_M_minimal prog_14_method_49_code 14 (some FieldType.long)) ∈ ay_G := ay_t6 143 rfl rfl
theorem wd_1344 : (Cond.methodLink "TriSplitsModel" 200 y_M_isIn) ∈ ay_G := ay_t6 144 rfl rfl
theorem wd_1346 : (Cond.instanceMethod y_M_isIn) ∈ ay_G := ay_t6 146 rfl rfl
theorem wd_1347 : (Cond.code y_M_isIn prog_14_method_48_code 3 (some FieldType.boolean)) ∈ ay_G := ay_t6 147 rfl rfl
theorem wd_1348 : (Cond.methodLink "TriSplitsLaw" 175 y_M_trace) ∈ ay_G := ay_t6 148 rfl rfl
theorem wd_1349 : (Cond.instanceMethod y_M_trace) ∈ ay_G := ay_t6 149 rfl rfl
theorem wd_1350 : (Cond.selects "TriSplitsModel" y_M_trace y_M_trace) ∈ ay_G := ay_t6 150 rfl rfl
theorem wd_1351 : (Cond.code y_M_trace prog_14_method_50_code 10 (some FieldType.int)) ∈ ay_G := ay_t6 151 rfl rfl
theorem wd_1352 : (Cond.methodLink "TriSplitsLaw" 179 y_M_conjugates) ∈ ay_G := ay_t6 152 rfl rfl
theorem wd_1353 : (Cond.instanceMethod y_M_conjugates) ∈ ay_G := ay_t6 153 rfl rfl
theorem wd_1354 : (Cond.selects "TriSplitsModel" y_M_conjugates y_M_conjugates) ∈ ay_G := ay_t6 154 rfl rfl
theorem wd_1355 : (Cond.code y_M_conjugates prog_14_method_51_code 8 (some FieldType.int)) ∈ ay_G := ay_t6 155 rfl rfl
theorem wd_1356 : (Cond.methodLink "TriSplitsLaw" 184 y_M_log) ∈ ay_G := ay_t6 156 rfl rfl
theorem wd_1357 : (Cond.instanceMethod y_M_log) ∈ ay_G := ay_t6 157 rfl rfl
theorem wd_1358 : (Cond.selects "TriSplitsModel" y_M_log y_M_log) ∈ ay_G := ay_t6 158 rfl rfl
theorem wd_1359 : (Cond.code y_M_log prog_14_method_52_code 9 (some FieldType.long)) ∈ ay_G := ay_t6 159 rfl rfl
theorem wd_1360 : (Cond.constantLong "TriSplitsModel" 204 (-3)) ∈ ay_G := ay_t6 160 rfl rfl
theorem wd_1361 : (Cond.methodLink "TriSplitsLaw" 188 y_M_roots) ∈ ay_G := ay_t6 161 rfl rfl
theorem wd_1362 : (Cond.instanceMethod y_M_roots) ∈ ay_G := ay_t6 162 rfl rfl
theorem wd_1363 : (Cond.selects "TriSplitsModel" y_M_roots y_M_roots) ∈ ay_G := ay_t6 163 rfl rfl
theorem wd_1364 : (Cond.code y_M_roots prog_14_method_53_code 8 (some FieldType.int)) ∈ ay_G := ay_t6 164 rfl rfl
theorem wd_1365 : (Cond.methodLink "TriSplitsModel" 206 y_M_insideBy) ∈ ay_G := ay_t6 165 rfl rfl
theorem wd_1366 : (Cond.static y_M_insideBy) ∈ ay_G := ay_t6 166 rfl rfl
theorem wd_1367 : (Cond.code y_M_insideBy prog_14_method_13_code 9 (some FieldType.long)) ∈ ay_G := ay_t6 167 rfl rfl
theorem wd_1368 : (Cond.methodLink "TriSplitsLaw" 145 y_M_shortest) ∈ ay_G := ay_t6 168 rfl rfl
theorem wd_1369 : (Cond.instanceMethod y_M_shortest) ∈ ay_G := ay_t6 169 rfl rfl
theorem wd_1370 : (Cond.selects "TriSplitsModel" y_M_shortest y_M_shortest) ∈ ay_G := ay_t6 170 rfl rfl
theorem wd_1371 : (Cond.code y_M_shortest prog_14_method_55_code 6 (some FieldType.long)) ∈ ay_G := ay_t6 171 rfl rfl
theorem wd_1372 : (Cond.constantLong "TriSplitsModel" 214 60) ∈ ay_G := ay_t6 172 rfl rfl
theorem wd_1373 : (Cond.methodLink "TriSplitsModel" 216 y_M_isRule) ∈ ay_G := ay_t6 173 rfl rfl
theorem wd_1375 : (Cond.instanceMethod y_M_isRule) ∈ ay_G := ay_t6 175 rfl rfl
theorem wd_1376 : (Cond.code y_M_isRule prog_14_method_54_code 12 (some FieldType.boolean)) ∈ ay_G := ay_t6 176 rfl rfl
theorem wd_1377 : (Cond.constantLong "TriSplitsModel" 209 4611686018427387904) ∈ ay_G := ay_t6 177 rfl rfl
theorem wd_1378 : (Cond.methodLink "TriSplitsLaw" 192 y_M_shift) ∈ ay_G := ay_t6 178 rfl rfl
theorem wd_1379 : (Cond.instanceMethod y_M_shift) ∈ ay_G := ay_t6 179 rfl rfl
theorem wd_1380 : (Cond.selects "TriSplitsModel" y_M_shift y_M_shift) ∈ ay_G := ay_t6 180 rfl rfl
theorem wd_1381 : (Cond.code y_M_shift prog_14_method_61_code 2 (some FieldType.long)) ∈ ay_G := ay_t6 181 rfl rfl
theorem wd_1382 : (Cond.methodLink "TriSplitsModel" 230 y_M_isRegister) ∈ ay_G := ay_t6 182 rfl rfl
theorem wd_1384 : (Cond.instanceMethod y_M_isRegister) ∈ ay_G := ay_t6 184 rfl rfl
theorem wd_1385 : (Cond.code y_M_isRegister prog_14_method_56_code 1 (some FieldType.boolean)) ∈ ay_G := ay_t6 185 rfl rfl
theorem wd_1386 : (Cond.methodLink "TriSplitsModel" 234 y_M_period) ∈ ay_G := ay_t6 186 rfl rfl
theorem wd_1388 : (Cond.instanceMethod y_M_period) ∈ ay_G := ay_t6 188 rfl rfl
theorem wd_1389 : (Cond.code y_M_period prog_14_method_60_code 4 (some FieldType.long)) ∈ ay_G := ay_t6 189 rfl rfl
theorem wd_1390 : (Cond.methodLink "TriSplitsModel" 227 y_M_steppedOn) ∈ ay_G := ay_t6 190 rfl rfl
theorem wd_1392 : (Cond.instanceMethod y_M_steppedOn) ∈ ay_G := ay_t6 192 rfl rfl
theorem wd_1393 : (Cond.code y_M_steppedOn prog_14_method_59_code 11 (some FieldType.long)) ∈ ay_G := ay_t6 193 rfl rfl
theorem wd_1394 : (Cond.methodLink "TriSplitsModel" 220 y_M_stepped) ∈ ay_G := ay_t6 194 rfl rfl
theorem wd_1396 : (Cond.instanceMethod y_M_stepped) ∈ ay_G := ay_t6 196 rfl rfl
theorem wd_1397 : (Cond.code y_M_stepped prog_14_method_57_code 6 (some FieldType.long)) ∈ ay_G := ay_t6 197 rfl rfl
theorem wd_1398 : (Cond.methodLink "TriSplitsModel" 223 y_M_done) ∈ ay_G := ay_t6 198 rfl rfl
theorem wd_1400 : (Cond.instanceMethod y_M_done) ∈ ay_G := ay_t6 200 rfl rfl
theorem wd_1401 : (Cond.code y_M_done prog_14_method_58_code 7 (some FieldType.long)) ∈ ay_G := ay_t6 201 rfl rfl
theorem wd_1402 : (Cond.methodLink "TriSplitsLaw" 86 y_M_register) ∈ ay_G := ay_t6 202 rfl rfl
theorem wd_1403 : (Cond.instanceMethod y_M_register) ∈ ay_G := ay_t6 203 rfl rfl
theorem wd_1404 : (Cond.selects "TriSplitsModel" y_M_register y_M_register) ∈ ay_G := ay_t6 204 rfl rfl
theorem wd_1405 : (Cond.code y_M_register prog_14_method_62_code 4 (some FieldType.int)) ∈ ay_G := ay_t6 205 rfl rfl
theorem wd_1406 : (Cond.constantLong "TriSplitsModel" 238 2147483647) ∈ ay_G := ay_t6 206 rfl rfl
theorem wd_1407 : (Cond.methodLink "TriSplitsModel" 240 y_M_keepsAct) ∈ ay_G := ay_t6 207 rfl rfl
theorem wd_1409 : (Cond.instanceMethod y_M_keepsAct) ∈ ay_G := ay_t6 209 rfl rfl
theorem wd_1410 : (Cond.code y_M_keepsAct prog_14_method_65_code 2 none) ∈ ay_G := ay_t6 210 rfl rfl
theorem wd_1411 : (Cond.methodLink "TriSplitsLaw" 91 y_M_step) ∈ ay_G := ay_t6 211 rfl rfl
theorem wd_1412 : (Cond.instanceMethod y_M_step) ∈ ay_G := ay_t6 212 rfl rfl
theorem wd_1413 : (Cond.selects "TriSplitsModel" y_M_step y_M_step) ∈ ay_G := ay_t6 213 rfl rfl
theorem wd_1414 : (Cond.code y_M_step prog_14_method_63_code 5 (some FieldType.long)) ∈ ay_G := ay_t6 214 rfl rfl
theorem wd_1415 : (Cond.methodLink "TriSplitsLaw" 95 y_M_jump) ∈ ay_G := ay_t6 215 rfl rfl
theorem wd_1416 : (Cond.instanceMethod y_M_jump) ∈ ay_G := ay_t6 216 rfl rfl
theorem wd_1417 : (Cond.selects "TriSplitsModel" y_M_jump y_M_jump) ∈ ay_G := ay_t6 217 rfl rfl
theorem wd_1418 : (Cond.code y_M_jump prog_14_method_64_code 2 (some FieldType.long)) ∈ ay_G := ay_t6 218 rfl rfl
theorem wd_1419 : (Cond.constantLong "TriSplitsModel" 243 1000000000) ∈ ay_G := ay_t6 219 rfl rfl
theorem wd_1420 : (Cond.methodLink "TriSplitsLaw" 38 y_M_put) ∈ ay_G := ay_t6 220 rfl rfl
theorem wd_1421 : (Cond.instanceMethod y_M_put) ∈ ay_G := ay_t6 221 rfl rfl
theorem wd_1422 : (Cond.selects "TriSplitsModel" y_M_put y_M_put) ∈ ay_G := ay_t6 222 rfl rfl
theorem wd_1423 : (Cond.code y_M_put prog_14_method_67_code 4 (some FieldType.int)) ∈ ay_G := ay_t6 223 rfl rfl
theorem wd_1424 : (Cond.constantLong "TriSplitsModel" 248 4294967295) ∈ ay_G := ay_t6 224 rfl rfl
theorem wd_1425 : (Cond.methodLink "TriSplitsModel" 250 y_M_gets) ∈ ay_G := ay_t6 225 rfl rfl
theorem wd_1427 : (Cond.instanceMethod y_M_gets) ∈ ay_G := ay_t6 227 rfl rfl
theorem wd_1428 : (Cond.code y_M_gets prog_14_method_66_code 4 (some FieldType.int)) ∈ ay_G := ay_t6 228 rfl rfl
theorem wd_1429 : (Cond.methodLink "TriSplitsLaw" 43 y_M_add) ∈ ay_G := ay_t6 229 rfl rfl
theorem wd_1430 : (Cond.instanceMethod y_M_add) ∈ ay_G := ay_t6 230 rfl rfl
theorem wd_1431 : (Cond.selects "TriSplitsModel" y_M_add y_M_add) ∈ ay_G := ay_t6 231 rfl rfl
theorem wd_1432 : (Cond.code y_M_add prog_14_method_69_code 4 (some FieldType.int)) ∈ ay_G := ay_t6 232 rfl rfl
theorem wd_1433 : (Cond.methodLink "TriSplitsModel" 254 y_M_areThree) ∈ ay_G := ay_t6 233 rfl rfl
theorem wd_1434 : (Cond.static y_M_areThree) ∈ ay_G := ay_t6 234 rfl rfl
theorem wd_1435 : (Cond.code y_M_areThree prog_14_method_68_code 3 (some FieldType.boolean)) ∈ ay_G := ay_t6 235 rfl rfl
theorem wd_1436 : (Cond.methodLink "TriSplitsLaw" 47 y_M_multiply) ∈ ay_G := ay_t6 236 rfl rfl
theorem wd_1437 : (Cond.instanceMethod y_M_multiply) ∈ ay_G := ay_t6 237 rfl rfl
theorem wd_1438 : (Cond.selects "TriSplitsModel" y_M_multiply y_M_multiply) ∈ ay_G := ay_t6 238 rfl rfl
theorem wd_1439 : (Cond.code y_M_multiply prog_14_method_70_code 6 (some FieldType.int)) ∈ ay_G := ay_t6 239 rfl rfl
theorem wd_1440 : (Cond.methodLink "TriSplitsLaw" 51 y_M_divide) ∈ ay_G := ay_t7 0 rfl rfl
theorem wd_1441 : (Cond.instanceMethod y_M_divide) ∈ ay_G := ay_t7 1 rfl rfl
theorem wd_1442 : (Cond.selects "TriSplitsModel" y_M_divide y_M_divide) ∈ ay_G := ay_t7 2 rfl rfl
theorem wd_1443 : (Cond.code y_M_divide prog_14_method_71_code 4 (some FieldType.int)) ∈ ay_G := ay_t7 3 rfl rfl
theorem wd_1444 : (Cond.methodLink "TriSplitsLaw" 55 y_M_rest) ∈ ay_G := ay_t7 4 rfl rfl
theorem wd_1445 : (Cond.instanceMethod y_M_rest) ∈ ay_G := ay_t7 5 rfl rfl
theorem wd_1446 : (Cond.selects "TriSplitsModel" y_M_rest y_M_rest) ∈ ay_G := ay_t7 6 rfl rfl
theorem wd_1447 : (Cond.code y_M_rest prog_14_method_72_code 4 (some FieldType.int)) ∈ ay_G := ay_t7 7 rfl rfl
theorem wd_1448 : (Cond.methodLink "TriSplitsLaw" 59 y_M_common) ∈ ay_G := ay_t7 8 rfl rfl
theorem wd_1449 : (Cond.instanceMethod y_M_common) ∈ ay_G := ay_t7 9 rfl rfl
theorem wd_1450 : (Cond.selects "TriSplitsModel" y_M_common y_M_common) ∈ ay_G := ay_t7 10 rfl rfl
theorem wd_1451 : (Cond.code y_M_common prog_14_method_73_code 4 (some FieldType.int)) ∈ ay_G := ay_t7 11 rfl rfl
theorem wd_1452 : (Cond.methodLink "TriSplitsModel" 92 y_M_commonOf) ∈ ay_G := ay_t7 12 rfl rfl
theorem wd_1453 : (Cond.static y_M_commonOf) ∈ ay_G := ay_t7 13 rfl rfl
theorem wd_1454 : (Cond.code y_M_commonOf prog_14_method_10_code 4 (some FieldType.long)) ∈ ay_G := ay_t7 14 rfl rfl
theorem wd_1455 : (Cond.methodLink "TriSplitsLaw" 64 y_M_power) ∈ ay_G := ay_t7 15 rfl rfl
theorem wd_1456 : (Cond.instanceMethod y_M_power) ∈ ay_G := ay_t7 16 rfl rfl
theorem wd_1457 : (Cond.selects "TriSplitsModel" y_M_power y_M_power) ∈ ay_G := ay_t7 17 rfl rfl
theorem wd_1458 : (Cond.code y_M_power prog_14_method_74_code 6 (some FieldType.int)) ∈ ay_G := ay_t7 18 rfl rfl
theorem wd_1459 : (Cond.methodLink "TriSplitsLaw" 69 y_M_moved) ∈ ay_G := ay_t7 19 rfl rfl
theorem wd_1460 : (Cond.instanceMethod y_M_moved) ∈ ay_G := ay_t7 20 rfl rfl
theorem wd_1461 : (Cond.selects "TriSplitsModel" y_M_moved y_M_moved) ∈ ay_G := ay_t7 21 rfl rfl
theorem wd_1462 : (Cond.code y_M_moved prog_14_method_75_code 3 (some FieldType.int)) ∈ ay_G := ay_t7 22 rfl rfl
theorem wd_1463 : (Cond.methodLink "TriSplitsModel" 258 y_M_movedOf) ∈ ay_G := ay_t7 23 rfl rfl
theorem wd_1464 : (Cond.static y_M_movedOf) ∈ ay_G := ay_t7 24 rfl rfl
theorem wd_1465 : (Cond.code y_M_movedOf prog_14_method_14_code 5 (some FieldType.long)) ∈ ay_G := ay_t7 25 rfl rfl
theorem wd_1466 : (Cond.methodLink "TriSplitsLaw" 74 y_M_inside) ∈ ay_G := ay_t7 26 rfl rfl
theorem wd_1467 : (Cond.instanceMethod y_M_inside) ∈ ay_G := ay_t7 27 rfl rfl
theorem wd_1468 : (Cond.selects "TriSplitsModel" y_M_inside y_M_inside) ∈ ay_G := ay_t7 28 rfl rfl
theorem wd_1469 : (Cond.code y_M_inside prog_14_method_76_code 5 (some FieldType.int)) ∈ ay_G := ay_t7 29 rfl rfl
theorem wd_1470 : (Cond.methodLink "TriSplitsLaw" 78 y_M_inverse) ∈ ay_G := ay_t7 30 rfl rfl
theorem wd_1471 : (Cond.instanceMethod y_M_inverse) ∈ ay_G := ay_t7 31 rfl rfl
theorem wd_1472 : (Cond.selects "TriSplitsModel" y_M_inverse y_M_inverse) ∈ ay_G := ay_t7 32 rfl rfl
theorem wd_1473 : (Cond.code y_M_inverse prog_14_method_78_code 6 (some FieldType.int)) ∈ ay_G := ay_t7 33 rfl rfl
theorem wd_1474 : (Cond.methodLink "TriSplitsModel" 261 y_M_inverseOf) ∈ ay_G := ay_t7 34 rfl rfl
theorem wd_1475 : (Cond.static y_M_inverseOf) ∈ ay_G := ay_t7 35 rfl rfl
theorem wd_1476 : (Cond.code y_M_inverseOf prog_14_method_77_code 18 (some FieldType.long)) ∈ ay_G := ay_t7 36 rfl rfl
theorem wd_1477 : (Cond.methodLink "TriSplitsLaw" 82 y_M_rise) ∈ ay_G := ay_t7 37 rfl rfl
theorem wd_1478 : (Cond.instanceMethod y_M_rise) ∈ ay_G := ay_t7 38 rfl rfl
theorem wd_1479 : (Cond.selects "TriSplitsModel" y_M_rise y_M_rise) ∈ ay_G := ay_t7 39 rfl rfl
theorem wd_1480 : (Cond.code y_M_rise prog_14_method_79_code 4 (some FieldType.int)) ∈ ay_G := ay_t7 40 rfl rfl
theorem wd_1481 : (Cond.methodLink "TriSplitsModel" 264 y_M_risenOf) ∈ ay_G := ay_t7 41 rfl rfl
theorem wd_1482 : (Cond.static y_M_risenOf) ∈ ay_G := ay_t7 42 rfl rfl
theorem wd_1483 : (Cond.code y_M_risenOf prog_14_method_15_code 6 (some FieldType.long)) ∈ ay_G := ay_t7 43 rfl rfl
theorem wd_1484 : (Cond.methodLink "TriSplitsLaw" 99 y_M_undo) ∈ ay_G := ay_t7 44 rfl rfl
theorem wd_1485 : (Cond.instanceMethod y_M_undo) ∈ ay_G := ay_t7 45 rfl rfl
theorem wd_1486 : (Cond.selects "TriSplitsModel" y_M_undo y_M_undo) ∈ ay_G := ay_t7 46 rfl rfl
theorem wd_1487 : (Cond.code y_M_undo prog_14_method_80_code 2 (some FieldType.int)) ∈ ay_G := ay_t7 47 rfl rfl
theorem wd_1488 : (Cond.methodLink "TriSplitsLaw" 103 y_M_keep) ∈ ay_G := ay_t7 48 rfl rfl
theorem wd_1489 : (Cond.instanceMethod y_M_keep) ∈ ay_G := ay_t7 49 rfl rfl
theorem wd_1490 : (Cond.selects "TriSplitsModel" y_M_keep y_M_keep) ∈ ay_G := ay_t7 50 rfl rfl
theorem wd_1491 : (Cond.code y_M_keep prog_14_method_81_code 3 (some FieldType.int)) ∈ ay_G := ay_t7 51 rfl rfl
theorem wd_1492 : (Cond.methodLink "TriSplitsLaw" 107 y_M_back) ∈ ay_G := ay_t7 52 rfl rfl
theorem wd_1493 : (Cond.instanceMethod y_M_back) ∈ ay_G := ay_t7 53 rfl rfl
theorem wd_1494 : (Cond.selects "TriSplitsModel" y_M_back y_M_back) ∈ ay_G := ay_t7 54 rfl rfl
theorem wd_1495 : (Cond.code y_M_back prog_14_method_82_code 3 (some FieldType.int)) ∈ ay_G := ay_t7 55 rfl rfl
theorem wd_1496 : (Cond.methodLink "TriSplitsLaw" 196 y_M_letter) ∈ ay_G := ay_t7 56 rfl rfl
theorem wd_1497 : (Cond.instanceMethod y_M_letter) ∈ ay_G := ay_t7 57 rfl rfl
theorem wd_1498 : (Cond.selects "TriSplitsModel" y_M_letter y_M_letter) ∈ ay_G := ay_t7 58 rfl rfl
theorem wd_1499 : (Cond.code y_M_letter prog_14_method_89_code 3 (some FieldType.int)) ∈ ay_G := ay_t7 59 rfl rfl
theorem wd_1500 : (Cond.methodLink "TriSplitsModel" 287 y_M_begins) ∈ ay_G := ay_t7 60 rfl rfl
theorem wd_1502 : (Cond.instanceMethod y_M_begins) ∈ ay_G := ay_t7 62 rfl rfl
theorem wd_1503 : (Cond.code y_M_begins prog_14_method_83_code 2 none) ∈ ay_G := ay_t7 63 rfl rfl
theorem wd_1504 : (Cond.methodLink "TriSplitsModel" 290 y_M_spellPoly) ∈ ay_G := ay_t7 64 rfl rfl
theorem wd_1506 : (Cond.instanceMethod y_M_spellPoly) ∈ ay_G := ay_t7 66 rfl rfl
theorem wd_1507 : (Cond.code y_M_spellPoly prog_14_method_87_code 4 none) ∈ ay_G := ay_t7 67 rfl rfl
theorem wd_1508 : (Cond.methodLink "TriSplitsModel" 281 y_M_spellByte) ∈ ay_G := ay_t7 68 rfl rfl
theorem wd_1510 : (Cond.instanceMethod y_M_spellByte) ∈ ay_G := ay_t7 70 rfl rfl
theorem wd_1511 : (Cond.code y_M_spellByte prog_14_method_84_code 2 none) ∈ ay_G := ay_t7 71 rfl rfl
theorem wd_1512 : (Cond.methodLink "TriSplitsModel" 284 y_M_spellPower) ∈ ay_G := ay_t7 72 rfl rfl
theorem wd_1514 : (Cond.instanceMethod y_M_spellPower) ∈ ay_G := ay_t7 74 rfl rfl
theorem wd_1515 : (Cond.code y_M_spellPower prog_14_method_86_code 2 none) ∈ ay_G := ay_t7 75 rfl rfl
theorem wd_1516 : (Cond.methodLink "TriSplitsModel" 277 y_M_spellNumber) ∈ ay_G := ay_t7 76 rfl rfl
theorem wd_1518 : (Cond.instanceMethod y_M_spellNumber) ∈ ay_G := ay_t7 78 rfl rfl
theorem wd_1519 : (Cond.code y_M_spellNumber prog_14_method_85_code 2 none) ∈ ay_G := ay_t7 79 rfl rfl
theorem wd_1520 : (Cond.methodLink "TriSplitsModel" 293 y_M_told) ∈ ay_G := ay_t7 80 rfl rfl
theorem wd_1522 : (Cond.instanceMethod y_M_told) ∈ ay_G := ay_t7 82 rfl rfl
theorem wd_1523 : (Cond.code y_M_told prog_14_method_88_code 2 (some FieldType.int)) ∈ ay_G := ay_t7 83 rfl rfl
theorem wd_1524 : (Cond.methodLink "TriSplitsLaw" 200 y_M_spell) ∈ ay_G := ay_t7 84 rfl rfl
theorem wd_1525 : (Cond.instanceMethod y_M_spell) ∈ ay_G := ay_t7 85 rfl rfl
theorem wd_1526 : (Cond.selects "TriSplitsModel" y_M_spell y_M_spell) ∈ ay_G := ay_t7 86 rfl rfl
theorem wd_1527 : (Cond.code y_M_spell prog_14_method_90_code 5 (some FieldType.int)) ∈ ay_G := ay_t7 87 rfl rfl
theorem wd_1528 : (Cond.methodLink "TriSplitsLaw" 224 y_M_count) ∈ ay_G := ay_t7 88 rfl rfl
theorem wd_1529 : (Cond.instanceMethod y_M_count) ∈ ay_G := ay_t7 89 rfl rfl
theorem wd_1530 : (Cond.selects "TriSplitsModel" y_M_count y_M_count) ∈ ay_G := ay_t7 90 rfl rfl
theorem wd_1531 : (Cond.code y_M_count prog_14_method_93_code 2 (some FieldType.int)) ∈ ay_G := ay_t7 91 rfl rfl
theorem wd_1532 : (Cond.methodLink "TriSplitsModel" 296 y_M_placesThat) ∈ ay_G := ay_t7 92 rfl rfl
theorem wd_1534 : (Cond.instanceMethod y_M_placesThat) ∈ ay_G := ay_t7 94 rfl rfl
theorem wd_1535 : (Cond.code y_M_placesThat prog_14_method_91_code 4 (some FieldType.int)) ∈ ay_G := ay_t7 95 rfl rfl
theorem wd_1536 : (Cond.methodLink "TriSplitsModel" 303 y_M_allWeights) ∈ ay_G := ay_t7 96 rfl rfl
theorem wd_1538 : (Cond.instanceMethod y_M_allWeights) ∈ ay_G := ay_t7 98 rfl rfl
theorem wd_1539 : (Cond.code y_M_allWeights prog_14_method_92_code 3 (some FieldType.int)) ∈ ay_G := ay_t7 99 rfl rfl
theorem wd_1540 : (Cond.methodLink "TriSplitsLaw" 17 y_M_feed) ∈ ay_G := ay_t7 100 rfl rfl
theorem wd_1541 : (Cond.instanceMethod y_M_feed) ∈ ay_G := ay_t7 101 rfl rfl
theorem wd_1542 : (Cond.selects "TriSplitsModel" y_M_feed y_M_feed) ∈ ay_G := ay_t7 102 rfl rfl
theorem wd_1543 : (Cond.code y_M_feed prog_14_method_95_code 6 (some FieldType.int)) ∈ ay_G := ay_t7 103 rfl rfl
theorem wd_1544 : (Cond.methodLink "TriSplitsModel" 306 y_M_lays) ∈ ay_G := ay_t7 104 rfl rfl
theorem wd_1546 : (Cond.instanceMethod y_M_lays) ∈ ay_G := ay_t7 106 rfl rfl
theorem wd_1547 : (Cond.code y_M_lays prog_14_method_94_code 3 none) ∈ ay_G := ay_t7 107 rfl rfl
theorem wd_1548 : (Cond.methodLink "TriSplitsLaw" 22 y_M_end) ∈ ay_G := ay_t7 108 rfl rfl
theorem wd_1549 : (Cond.instanceMethod y_M_end) ∈ ay_G := ay_t7 109 rfl rfl
theorem wd_1550 : (Cond.selects "TriSplitsModel" y_M_end y_M_end) ∈ ay_G := ay_t7 110 rfl rfl
theorem wd_1551 : (Cond.code y_M_end prog_14_method_96_code 2 (some FieldType.int)) ∈ ay_G := ay_t7 111 rfl rfl
theorem wd_1552 : (Cond.methodLink "TriSplitsLaw" 27 y_M_run) ∈ ay_G := ay_t7 112 rfl rfl
theorem wd_1553 : (Cond.instanceMethod y_M_run) ∈ ay_G := ay_t7 113 rfl rfl
theorem wd_1554 : (Cond.selects "TriSplitsModel" y_M_run y_M_run) ∈ ay_G := ay_t7 114 rfl rfl
theorem wd_1555 : (Cond.code y_M_run prog_14_method_117_code 3 (some FieldType.int)) ∈ ay_G := ay_t7 115 rfl rfl
theorem wd_1556 : (Cond.methodLink "TriSplitsModel" 420 y_M_readsAll) ∈ ay_G := ay_t7 116 rfl rfl
theorem wd_1558 : (Cond.instanceMethod y_M_readsAll) ∈ ay_G := ay_t7 118 rfl rfl
theorem wd_1559 : (Cond.code y_M_readsAll prog_14_method_116_code 2 (some FieldType.boolean)) ∈ ay_G := ay_t7 119 rfl rfl
theorem wd_1560 : (Cond.methodLink "TriSplitsModel" 417 y_M_readsStatement) ∈ ay_G := ay_t7 120 rfl rfl
theorem wd_1562 : (Cond.instanceMethod y_M_readsStatement) ∈ ay_G := ay_t7 122 rfl rfl
theorem wd_1563 : (Cond.code y_M_readsStatement prog_14_method_115_code 2 (some FieldType.boolean)) ∈ ay_G := ay_t7 123 rfl rfl
theorem wd_1564 : (Cond.methodLink "TriSplitsModel" 366 y_M_readsNumber) ∈ ay_G := ay_t7 124 rfl rfl
theorem wd_1566 : (Cond.instanceMethod y_M_readsNumber) ∈ ay_G := ay_t7 126 rfl rfl
theorem wd_1567 : (Cond.code y_M_readsNumber prog_14_method_105_code 3 (some FieldType.boolean)) ∈ ay_G := ay_t7 127 rfl rfl
theorem wd_1568 : (Cond.methodLink "TriSplitsModel" 351 y_M_isDigitNext) ∈ ay_G := ay_t7 128 rfl rfl
theorem wd_1570 : (Cond.instanceMethod y_M_isDigitNext) ∈ ay_G := ay_t7 130 rfl rfl
theorem wd_1571 : (Cond.code y_M_isDigitNext prog_14_method_104_code 1 (some FieldType.boolean)) ∈ ay_G := ay_t7 131 rfl rfl
theorem wd_1572 : (Cond.methodLink "TriSplitsModel" 321 y_M_nextByte) ∈ ay_G := ay_t7 132 rfl rfl
theorem wd_1574 : (Cond.instanceMethod y_M_nextByte) ∈ ay_G := ay_t7 134 rfl rfl
theorem wd_1575 : (Cond.code y_M_nextByte prog_14_method_98_code 1 (some FieldType.int)) ∈ ay_G := ay_t7 135 rfl rfl
theorem wd_1576 : (Cond.methodLink "TriSplitsModel" 312 y_M_byteAt) ∈ ay_G := ay_t7 136 rfl rfl
theorem wd_1578 : (Cond.instanceMethod y_M_byteAt) ∈ ay_G := ay_t7 138 rfl rfl
theorem wd_1579 : (Cond.code y_M_byteAt prog_14_method_97_code 2 (some FieldType.int)) ∈ ay_G := ay_t7 139 rfl rfl
theorem wd_1580 : (Cond.constantLong "TriSplitsModel" 347 48) ∈ ay_G := ay_t7 140 rfl rfl
theorem wd_1581 : (Cond.constantLong "TriSplitsModel" 349 57) ∈ ay_G := ay_t7 141 rfl rfl
theorem wd_1582 : (Cond.methodLink "TriSplitsModel" 344 y_M_fails) ∈ ay_G := ay_t7 142 rfl rfl
theorem wd_1584 : (Cond.instanceMethod y_M_fails) ∈ ay_G := ay_t7 144 rfl rfl
theorem wd_1585 : (Cond.code y_M_fails prog_14_method_99_code 3 (some FieldType.boolean)) ∈ ay_G := ay_t7 145 rfl rfl
theorem wd_1586 : (Cond.methodLink "TriSplitsModel" 363 y_M_mustSign) ∈ ay_G := ay_t7 146 rfl rfl
theorem wd_1588 : (Cond.instanceMethod y_M_mustSign) ∈ ay_G := ay_t7 148 rfl rfl
theorem wd_1589 : (Cond.code y_M_mustSign prog_14_method_103_code 2 (some FieldType.boolean)) ∈ ay_G := ay_t7 149 rfl rfl
theorem wd_1590 : (Cond.methodLink "TriSplitsModel" 341 y_M_takesSign) ∈ ay_G := ay_t7 150 rfl rfl
theorem wd_1592 : (Cond.instanceMethod y_M_takesSign) ∈ ay_G := ay_t7 152 rfl rfl
theorem wd_1593 : (Cond.code y_M_takesSign prog_14_method_102_code 3 (some FieldType.boolean)) ∈ ay_G := ay_t7 153 rfl rfl
theorem wd_1594 : (Cond.methodLink "TriSplitsModel" 360 y_M_readsSum) ∈ ay_G := ay_t7 154 rfl rfl
theorem wd_1596 : (Cond.instanceMethod y_M_readsSum) ∈ ay_G := ay_t7 156 rfl rfl
theorem wd_1597 : (Cond.code y_M_readsSum prog_14_method_114_code 3 (some FieldType.boolean)) ∈ ay_G := ay_t7 157 rfl rfl
theorem wd_1598 : (Cond.methodLink "TriSplitsModel" 411 y_M_readsProduct) ∈ ay_G := ay_t7 158 rfl rfl
theorem wd_1600 : (Cond.instanceMethod y_M_readsProduct) ∈ ay_G := ay_t7 160 rfl rfl
theorem wd_1601 : (Cond.code y_M_readsProduct prog_14_method_113_code 5 (some FieldType.boolean)) ∈ ay_G := ay_t7 161 rfl rfl
theorem wd_1602 : (Cond.methodLink "TriSplitsModel" 405 y_M_readsPower) ∈ ay_G := ay_t7 162 rfl rfl
theorem wd_1604 : (Cond.instanceMethod y_M_readsPower) ∈ ay_G := ay_t7 164 rfl rfl
theorem wd_1605 : (Cond.code y_M_readsPower prog_14_method_111_code 6 (some FieldType.boolean)) ∈ ay_G := ay_t7 165 rfl rfl
theorem wd_1606 : (Cond.methodLink "TriSplitsModel" 402 y_M_readsOne) ∈ ay_G := ay_t7 166 rfl rfl
theorem wd_1608 : (Cond.instanceMethod y_M_readsOne) ∈ ay_G := ay_t7 168 rfl rfl
theorem wd_1609 : (Cond.code y_M_readsOne prog_14_method_110_code 2 (some FieldType.boolean)) ∈ ay_G := ay_t7 169 rfl rfl
theorem wd_1610 : (Cond.stringRef "TriSplitsModel" 381 "x") ∈ lw_tbl := ay_u7 170 rfl
theorem wd_1611 : (Cond.methodLink "TriSplitsModel" 383 y_M_takesWord) ∈ ay_G := ay_t7 171 rfl rfl
theorem wd_1613 : (Cond.instanceMethod y_M_takesWord) ∈ ay_G := ay_t7 173 rfl rfl
theorem wd_1614 : (Cond.code y_M_takesWord prog_14_method_101_code 3 (some FieldType.boolean)) ∈ ay_G := ay_t7 174 rfl rfl
theorem wd_1615 : (Cond.methodLink "TriSplitsModel" 337 y_M_isWord) ∈ ay_G := ay_t7 175 rfl rfl
theorem wd_1617 : (Cond.instanceMethod y_M_isWord) ∈ ay_G := ay_t7 177 rfl rfl
theorem wd_1618 : (Cond.code y_M_isWord prog_14_method_100_code 4 (some FieldType.boolean)) ∈ ay_G := ay_t7 178 rfl rfl
theorem wd_1619 : (Cond.methodLink "TriSplitsModel" 324 y_String_length) ∈ ay_G := ay_t7 179 rfl rfl
theorem wd_1620 : (Cond.methodLink "TriSplitsModel" 329 y_String_charAt) ∈ ay_G := ay_t7 180 rfl rfl
theorem wd_1621 : (Cond.constantLong "TriSplitsModel" 333 97) ∈ ay_G := ay_t7 181 rfl rfl
theorem wd_1622 : (Cond.constantLong "TriSplitsModel" 335 122) ∈ ay_G := ay_t7 182 rfl rfl
theorem wd_1623 : (Cond.stringRef "TriSplitsModel" 386 "p") ∈ lw_tbl := ay_u7 183 rfl
theorem wd_1624 : (Cond.stringRef "TriSplitsModel" 388 "tri") ∈ lw_tbl := ay_u7 184 rfl
theorem wd_1625 : (Cond.methodLink "TriSplitsModel" 389 y_M_readsTri) ∈ ay_G := ay_t7 185 rfl rfl
theorem wd_1627 : (Cond.instanceMethod y_M_readsTri) ∈ ay_G := ay_t7 187 rfl rfl
theorem wd_1628 : (Cond.code y_M_readsTri prog_14_method_107_code 2 (some FieldType.boolean)) ∈ ay_G := ay_t7 188 rfl rfl
theorem wd_1629 : (Cond.stringRef "TriSplitsModel" 392 "rev") ∈ lw_tbl := ay_u7 189 rfl
theorem wd_1630 : (Cond.methodLink "TriSplitsModel" 394 y_M_readsRev) ∈ ay_G := ay_t7 190 rfl rfl
theorem wd_1632 : (Cond.instanceMethod y_M_readsRev) ∈ ay_G := ay_t7 192 rfl rfl
theorem wd_1633 : (Cond.code y_M_readsRev prog_14_method_108_code 1 (some FieldType.boolean)) ∈ ay_G := ay_t7 193 rfl rfl
theorem wd_1634 : (Cond.methodLink "TriSplitsModel" 372 y_M_readsWithin) ∈ ay_G := ay_t7 194 rfl rfl
theorem wd_1636 : (Cond.instanceMethod y_M_readsWithin) ∈ ay_G := ay_t7 196 rfl rfl
theorem wd_1637 : (Cond.code y_M_readsWithin prog_14_method_106_code 1 (some FieldType.boolean)) ∈ ay_G := ay_t7 197 rfl rfl
theorem wd_1638 : (Cond.methodLink "TriSplitsModel" 375 y_M_reversed) ∈ ay_G := ay_t7 198 rfl rfl
theorem wd_1639 : (Cond.static y_M_reversed) ∈ ay_G := ay_t7 199 rfl rfl
theorem wd_1640 : (Cond.code y_M_reversed prog_14_method_16_code 6 (some FieldType.long)) ∈ ay_G := ay_t7 200 rfl rfl
theorem wd_1641 : (Cond.stringRef "TriSplitsModel" 397 "der") ∈ lw_tbl := ay_u7 201 rfl
theorem wd_1642 : (Cond.methodLink "TriSplitsModel" 399 y_M_readsDer) ∈ ay_G := ay_t7 202 rfl rfl
theorem wd_1644 : (Cond.instanceMethod y_M_readsDer) ∈ ay_G := ay_t7 204 rfl rfl
theorem wd_1645 : (Cond.code y_M_readsDer prog_14_method_109_code 1 (some FieldType.boolean)) ∈ ay_G := ay_t7 205 rfl rfl
theorem wd_1646 : (Cond.methodLink "TriSplitsModel" 378 y_M_derived) ∈ ay_G := ay_t7 206 rfl rfl
theorem wd_1647 : (Cond.static y_M_derived) ∈ ay_G := ay_t7 207 rfl rfl
theorem wd_1648 : (Cond.code y_M_derived prog_14_method_17_code 5 (some FieldType.long)) ∈ ay_G := ay_t7 208 rfl rfl
theorem wd_1649 : (Cond.methodLink "TriSplitsModel" 408 y_M_isOneNext) ∈ ay_G := ay_t7 209 rfl rfl
theorem wd_1651 : (Cond.instanceMethod y_M_isOneNext) ∈ ay_G := ay_t7 211 rfl rfl
theorem wd_1652 : (Cond.code y_M_isOneNext prog_14_method_112_code 2 (some FieldType.boolean)) ∈ ay_G := ay_t7 212 rfl rfl
theorem wd_1653 : (Cond.methodLink "TriSplitsLaw" 31 y_M_fault) ∈ ay_G := ay_t7 213 rfl rfl
theorem wd_1654 : (Cond.instanceMethod y_M_fault) ∈ ay_G := ay_t7 214 rfl rfl
theorem wd_1655 : (Cond.selects "TriSplitsModel" y_M_fault y_M_fault) ∈ ay_G := ay_t7 215 rfl rfl
theorem wd_1656 : (Cond.code y_M_fault prog_14_method_118_code 2 (some FieldType.int)) ∈ ay_G := ay_t7 216 rfl rfl
theorem wd_1657 : (Cond.methodLink "TriSplitsLaw" 204 y_M_next) ∈ ay_G := ay_t7 217 rfl rfl
theorem wd_1658 : (Cond.instanceMethod y_M_next) ∈ ay_G := ay_t7 218 rfl rfl
theorem wd_1659 : (Cond.selects "TriSplitsModel" y_M_next y_M_next) ∈ ay_G := ay_t7 219 rfl rfl
theorem wd_1660 : (Cond.code y_M_next prog_14_method_119_code 5 (some FieldType.long)) ∈ ay_G := ay_t7 220 rfl rfl
theorem wd_1661 : (Cond.methodLink "TriSplitsLaw" 208 y_M_divisor) ∈ ay_G := ay_t7 221 rfl rfl
theorem wd_1662 : (Cond.instanceMethod y_M_divisor) ∈ ay_G := ay_t7 222 rfl rfl
theorem wd_1663 : (Cond.selects "TriSplitsModel" y_M_divisor y_M_divisor) ∈ ay_G := ay_t7 223 rfl rfl
theorem wd_1664 : (Cond.code y_M_divisor prog_14_method_122_code 3 (some FieldType.long)) ∈ ay_G := ay_t7 224 rfl rfl
theorem wd_1665 : (Cond.methodLink "TriSplitsModel" 429 y_M_goesOn) ∈ ay_G := ay_t7 225 rfl rfl
theorem wd_1667 : (Cond.instanceMethod y_M_goesOn) ∈ ay_G := ay_t7 227 rfl rfl
theorem wd_1668 : (Cond.code y_M_goesOn prog_14_method_121_code 8 none) ∈ ay_G := ay_t7 228 rfl rfl
theorem wd_1669 : (Cond.methodLink "TriSplitsModel" 426 y_M_comes) ∈ ay_G := ay_t7 229 rfl rfl
theorem wd_1671 : (Cond.instanceMethod y_M_comes) ∈ ay_G := ay_t7 231 rfl rfl
theorem wd_1672 : (Cond.code y_M_comes prog_14_method_120_code 4 none) ∈ ay_G := ay_t7 232 rfl rfl
theorem wd_1673 : (Cond.methodLink "TriSplitsLaw" 212 y_M_couples) ∈ ay_G := ay_t7 233 rfl rfl
theorem wd_1674 : (Cond.instanceMethod y_M_couples) ∈ ay_G := ay_t7 234 rfl rfl
theorem wd_1675 : (Cond.selects "TriSplitsModel" y_M_couples y_M_couples) ∈ ay_G := ay_t7 235 rfl rfl
theorem wd_1676 : (Cond.code y_M_couples prog_14_method_123_code 3 (some FieldType.int)) ∈ ay_G := ay_t7 236 rfl rfl
theorem wd_1677 : (Cond.methodLink "TriSplitsLaw" 216 y_M_mirror) ∈ ay_G := ay_t7 237 rfl rfl
theorem wd_1678 : (Cond.instanceMethod y_M_mirror) ∈ ay_G := ay_t7 238 rfl rfl
theorem wd_1679 : (Cond.selects "TriSplitsModel" y_M_mirror y_M_mirror) ∈ ay_G := ay_t7 239 rfl rfl
theorem wd_1680 : (Cond.code y_M_mirror prog_14_method_124_code 5 (some FieldType.int)) ∈ ay_G := ay_t8 0 rfl rfl
theorem wd_1681 : (Cond.constantLong "TriSplitsLaw" 32 4294967295) ∈ ay_G := ay_t8 1 rfl rfl
theorem wd_1682 : (Cond.fieldLink "java/lang/String" 9 "java/lang/String" "value" "[B") ∈ ay_G := ay_t8 2 rfl rfl
theorem wd_1683 : (Cond.fieldLink "java/lang/String" 15 "java/lang/String" "coder" "B") ∈ ay_G := ay_t8 3 rfl rfl
theorem ws_Reader_readStatement : Cond.selects y_Reader_readStatement.cls y_Reader_readStatement y_Reader_readStatement ∈ ay_G := ay_ts 0 rfl rfl
theorem ws_Reader_readNumber : Cond.selects y_Reader_readNumber.cls y_Reader_readNumber y_Reader_readNumber ∈ ay_G := ay_ts 1 rfl rfl
theorem ws_Reader_peek : Cond.selects y_Reader_peek.cls y_Reader_peek y_Reader_peek ∈ ay_G := ay_ts 2 rfl rfl
theorem ws_Reader_fail : Cond.selects y_Reader_fail.cls y_Reader_fail y_Reader_fail ∈ ay_G := ay_ts 3 rfl rfl
theorem ws_Reader_readSign : Cond.selects y_Reader_readSign.cls y_Reader_readSign y_Reader_readSign ∈ ay_G := ay_ts 4 rfl rfl
theorem ws_Reader_readSum : Cond.selects y_Reader_readSum.cls y_Reader_readSum y_Reader_readSum ∈ ay_G := ay_ts 5 rfl rfl
theorem ws_Reader_readProduct : Cond.selects y_Reader_readProduct.cls y_Reader_readProduct y_Reader_readProduct ∈ ay_G := ay_ts 6 rfl rfl
theorem ws_Reader_readPower : Cond.selects y_Reader_readPower.cls y_Reader_readPower y_Reader_readPower ∈ ay_G := ay_ts 7 rfl rfl
theorem ws_Reader_readOne : Cond.selects y_Reader_readOne.cls y_Reader_readOne y_Reader_readOne ∈ ay_G := ay_ts 8 rfl rfl
theorem ws_Reader_readNested : Cond.selects y_Reader_readNested.cls y_Reader_readNested y_Reader_readNested ∈ ay_G := ay_ts 9 rfl rfl
theorem ws_Reader_readLetters : Cond.selects y_Reader_readLetters.cls y_Reader_readLetters y_Reader_readLetters ∈ ay_G := ay_ts 10 rfl rfl
theorem ws_Reader_isWord : Cond.selects y_Reader_isWord.cls y_Reader_isWord y_Reader_isWord ∈ ay_G := ay_ts 11 rfl rfl
theorem ws_Reader_readTri : Cond.selects y_Reader_readTri.cls y_Reader_readTri y_Reader_readTri ∈ ay_G := ay_ts 12 rfl rfl
theorem ws_Reader_isPowerAhead : Cond.selects y_Reader_isPowerAhead.cls y_Reader_isPowerAhead y_Reader_isPowerAhead ∈ ay_G := ay_ts 13 rfl rfl
theorem ws_T_place : Cond.selects y_T_place.cls y_T_place y_T_place ∈ ay_G := ay_ts 14 rfl rfl
theorem ws_T_isModulus : Cond.selects y_T_isModulus.cls y_T_isModulus y_T_isModulus ∈ ay_G := ay_ts 15 rfl rfl
theorem ws_Orders_findPrimes : Cond.selects y_Orders_findPrimes.cls y_Orders_findPrimes y_Orders_findPrimes ∈ ay_G := ay_ts 16 rfl rfl
theorem ws_Orders_notePrime : Cond.selects y_Orders_notePrime.cls y_Orders_notePrime y_Orders_notePrime ∈ ay_G := ay_ts 17 rfl rfl
theorem ws_Factors_partInto : Cond.selects y_Factors_partInto.cls y_Factors_partInto y_Factors_partInto ∈ ay_G := ay_ts 18 rfl rfl
theorem ws_Factors_cutParts : Cond.selects y_Factors_cutParts.cls y_Factors_cutParts y_Factors_cutParts ∈ ay_G := ay_ts 19 rfl rfl
theorem ws_Factors_sortParts : Cond.selects y_Factors_sortParts.cls y_Factors_sortParts y_Factors_sortParts ∈ ay_G := ay_ts 20 rfl rfl
theorem ws_Factors_takeOut : Cond.selects y_Factors_takeOut.cls y_Factors_takeOut y_Factors_takeOut ∈ ay_G := ay_ts 21 rfl rfl
theorem ws_Factors_note : Cond.selects y_Factors_note.cls y_Factors_note y_Factors_note ∈ ay_G := ay_ts 22 rfl rfl
theorem ws_T_howSplit : Cond.selects y_T_howSplit.cls y_T_howSplit y_T_howSplit ∈ ay_G := ay_ts 23 rfl rfl
theorem ws_T_orderOf : Cond.selects y_T_orderOf.cls y_T_orderOf y_T_orderOf ∈ ay_G := ay_ts 24 rfl rfl
theorem ws_Rows_append : Cond.selects y_Rows_append.cls y_Rows_append y_Rows_append ∈ ay_G := ay_ts 25 rfl rfl
theorem ws_Rows_countAlike : Cond.selects y_Rows_countAlike.cls y_Rows_countAlike y_Rows_countAlike ∈ ay_G := ay_ts 26 rfl rfl
theorem ws_Letters_write : Cond.selects y_Letters_write.cls y_Letters_write y_Letters_write ∈ ay_G := ay_ts 27 rfl rfl
theorem ws_Letters_writePowerOfX : Cond.selects y_Letters_writePowerOfX.cls y_Letters_writePowerOfX y_Letters_writePowerOfX ∈ ay_G := ay_ts 28 rfl rfl
theorem ws_Letters_writeNumber : Cond.selects y_Letters_writeNumber.cls y_Letters_writeNumber y_Letters_writeNumber ∈ ay_G := ay_ts 29 rfl rfl
theorem ws_T_letterAt : Cond.selects y_T_letterAt.cls y_T_letterAt y_T_letterAt ∈ ay_G := ay_ts 30 rfl rfl
theorem ws_Families_leastOfWeight : Cond.selects y_Families_leastOfWeight.cls y_Families_leastOfWeight y_Families_leastOfWeight ∈ ay_G := ay_ts 31 rfl rfl
theorem ws_T_isElement : Cond.selects y_T_isElement.cls y_T_isElement y_T_isElement ∈ ay_G := ay_ts 32 rfl rfl
theorem ws_Field_findPower : Cond.selects y_Field_findPower.cls y_Field_findPower y_Field_findPower ∈ ay_G := ay_ts 33 rfl rfl
theorem ws_M_laysFactors : Cond.selects y_M_laysFactors.cls y_M_laysFactors y_M_laysFactors ∈ ay_G := ay_ts 34 rfl rfl
theorem ws_M_oftenest : Cond.selects y_M_oftenest.cls y_M_oftenest y_M_oftenest ∈ ay_G := ay_ts 35 rfl rfl
theorem ws_M_isPrimitive : Cond.selects y_M_isPrimitive.cls y_M_isPrimitive y_M_isPrimitive ∈ ay_G := ay_ts 36 rfl rfl
theorem ws_M_isIrreducible : Cond.selects y_M_isIrreducible.cls y_M_isIrreducible y_M_isIrreducible ∈ ay_G := ay_ts 37 rfl rfl
theorem ws_M_orderOf : Cond.selects y_M_orderOf.cls y_M_orderOf y_M_orderOf ∈ ay_G := ay_ts 38 rfl rfl
theorem ws_M_laysPrimes : Cond.selects y_M_laysPrimes.cls y_M_laysPrimes y_M_laysPrimes ∈ ay_G := ay_ts 39 rfl rfl
theorem ws_M_unlikeFactors : Cond.selects y_M_unlikeFactors.cls y_M_unlikeFactors y_M_unlikeFactors ∈ ay_G := ay_ts 40 rfl rfl
theorem ws_M_radical : Cond.selects y_M_radical.cls y_M_radical y_M_radical ∈ ay_G := ay_ts 41 rfl rfl
theorem ws_M_isGood : Cond.selects y_M_isGood.cls y_M_isGood y_M_isGood ∈ ay_G := ay_ts 42 rfl rfl
theorem ws_M_coprimes : Cond.selects y_M_coprimes.cls y_M_coprimes y_M_coprimes ∈ ay_G := ay_ts 43 rfl rfl
theorem ws_M_moebius : Cond.selects y_M_moebius.cls y_M_moebius y_M_moebius ∈ ay_G := ay_ts 44 rfl rfl
theorem ws_M_isIn : Cond.selects y_M_isIn.cls y_M_isIn y_M_isIn ∈ ay_G := ay_ts 45 rfl rfl
theorem ws_M_isRule : Cond.selects y_M_isRule.cls y_M_isRule y_M_isRule ∈ ay_G := ay_ts 46 rfl rfl
theorem ws_M_isRegister : Cond.selects y_M_isRegister.cls y_M_isRegister y_M_isRegister ∈ ay_G := ay_ts 47 rfl rfl
theorem ws_M_period : Cond.selects y_M_period.cls y_M_period y_M_period ∈ ay_G := ay_ts 48 rfl rfl
theorem ws_M_steppedOn : Cond.selects y_M_steppedOn.cls y_M_steppedOn y_M_steppedOn ∈ ay_G := ay_ts 49 rfl rfl
theorem ws_M_stepped : Cond.selects y_M_stepped.cls y_M_stepped y_M_stepped ∈ ay_G := ay_ts 50 rfl rfl
theorem ws_M_done : Cond.selects y_M_done.cls y_M_done y_M_done ∈ ay_G := ay_ts 51 rfl rfl
theorem ws_M_keepsAct : Cond.selects y_M_keepsAct.cls y_M_keepsAct y_M_keepsAct ∈ ay_G := ay_ts 52 rfl rfl
theorem ws_M_gets : Cond.selects y_M_gets.cls y_M_gets y_M_gets ∈ ay_G := ay_ts 53 rfl rfl
theorem ws_M_begins : Cond.selects y_M_begins.cls y_M_begins y_M_begins ∈ ay_G := ay_ts 54 rfl rfl
theorem ws_M_spellPoly : Cond.selects y_M_spellPoly.cls y_M_spellPoly y_M_spellPoly ∈ ay_G := ay_ts 55 rfl rfl
theorem ws_M_spellByte : Cond.selects y_M_spellByte.cls y_M_spellByte y_M_spellByte ∈ ay_G := ay_ts 56 rfl rfl
theorem ws_M_spellPower : Cond.selects y_M_spellPower.cls y_M_spellPower y_M_spellPower ∈ ay_G := ay_ts 57 rfl rfl
theorem ws_M_spellNumber : Cond.selects y_M_spellNumber.cls y_M_spellNumber y_M_spellNumber ∈ ay_G := ay_ts 58 rfl rfl
theorem ws_M_told : Cond.selects y_M_told.cls y_M_told y_M_told ∈ ay_G := ay_ts 59 rfl rfl
theorem ws_M_placesThat : Cond.selects y_M_placesThat.cls y_M_placesThat y_M_placesThat ∈ ay_G := ay_ts 60 rfl rfl
theorem ws_M_allWeights : Cond.selects y_M_allWeights.cls y_M_allWeights y_M_allWeights ∈ ay_G := ay_ts 61 rfl rfl
theorem ws_M_lays : Cond.selects y_M_lays.cls y_M_lays y_M_lays ∈ ay_G := ay_ts 62 rfl rfl
theorem ws_M_readsAll : Cond.selects y_M_readsAll.cls y_M_readsAll y_M_readsAll ∈ ay_G := ay_ts 63 rfl rfl
theorem ws_M_readsStatement : Cond.selects y_M_readsStatement.cls y_M_readsStatement y_M_readsStatement ∈ ay_G := ay_ts 64 rfl rfl
theorem ws_M_readsNumber : Cond.selects y_M_readsNumber.cls y_M_readsNumber y_M_readsNumber ∈ ay_G := ay_ts 65 rfl rfl
theorem ws_M_isDigitNext : Cond.selects y_M_isDigitNext.cls y_M_isDigitNext y_M_isDigitNext ∈ ay_G := ay_ts 66 rfl rfl
theorem ws_M_nextByte : Cond.selects y_M_nextByte.cls y_M_nextByte y_M_nextByte ∈ ay_G := ay_ts 67 rfl rfl
theorem ws_M_byteAt : Cond.selects y_M_byteAt.cls y_M_byteAt y_M_byteAt ∈ ay_G := ay_ts 68 rfl rfl
theorem ws_M_fails : Cond.selects y_M_fails.cls y_M_fails y_M_fails ∈ ay_G := ay_ts 69 rfl rfl
theorem ws_M_mustSign : Cond.selects y_M_mustSign.cls y_M_mustSign y_M_mustSign ∈ ay_G := ay_ts 70 rfl rfl
theorem ws_M_takesSign : Cond.selects y_M_takesSign.cls y_M_takesSign y_M_takesSign ∈ ay_G := ay_ts 71 rfl rfl
theorem ws_M_readsSum : Cond.selects y_M_readsSum.cls y_M_readsSum y_M_readsSum ∈ ay_G := ay_ts 72 rfl rfl
theorem ws_M_readsProduct : Cond.selects y_M_readsProduct.cls y_M_readsProduct y_M_readsProduct ∈ ay_G := ay_ts 73 rfl rfl
theorem ws_M_readsPower : Cond.selects y_M_readsPower.cls y_M_readsPower y_M_readsPower ∈ ay_G := ay_ts 74 rfl rfl
theorem ws_M_readsOne : Cond.selects y_M_readsOne.cls y_M_readsOne y_M_readsOne ∈ ay_G := ay_ts 75 rfl rfl
theorem ws_M_takesWord : Cond.selects y_M_takesWord.cls y_M_takesWord y_M_takesWord ∈ ay_G := ay_ts 76 rfl rfl
theorem ws_M_isWord : Cond.selects y_M_isWord.cls y_M_isWord y_M_isWord ∈ ay_G := ay_ts 77 rfl rfl
theorem ws_M_readsTri : Cond.selects y_M_readsTri.cls y_M_readsTri y_M_readsTri ∈ ay_G := ay_ts 78 rfl rfl
theorem ws_M_readsRev : Cond.selects y_M_readsRev.cls y_M_readsRev y_M_readsRev ∈ ay_G := ay_ts 79 rfl rfl
theorem ws_M_readsWithin : Cond.selects y_M_readsWithin.cls y_M_readsWithin y_M_readsWithin ∈ ay_G := ay_ts 80 rfl rfl
theorem ws_M_readsDer : Cond.selects y_M_readsDer.cls y_M_readsDer y_M_readsDer ∈ ay_G := ay_ts 81 rfl rfl
theorem ws_M_isOneNext : Cond.selects y_M_isOneNext.cls y_M_isOneNext y_M_isOneNext ∈ ay_G := ay_ts 82 rfl rfl
theorem ws_M_goesOn : Cond.selects y_M_goesOn.cls y_M_goesOn y_M_goesOn ∈ ay_G := ay_ts 83 rfl rfl
theorem ws_M_comes : Cond.selects y_M_comes.cls y_M_comes y_M_comes ∈ ay_G := ay_ts 84 rfl rfl
end
section
-- the classes, the cells and what they hold (written by wip/whole/gen/world.py)
def R_T : String := "TriSplits"
def F_T : u_T := fun k => match k with
  | 0 => ("TriSplits", "reader", "LTriSplits$Reader;", true)
  | 1 => ("TriSplits", "store", "LTriSplits$Store;", true)
  | 2 => ("TriSplits", "factors", "LTriSplits$Factors;", true)
  | 3 => ("TriSplits", "others", "LTriSplits$Factors;", true)
  | 4 => ("TriSplits", "orders", "LTriSplits$Orders;", true)
  | 5 => ("TriSplits", "families", "LTriSplits$Families;", true)
  | 6 => ("TriSplits", "field", "LTriSplits$Field;", true)
  | 7 => ("TriSplits", "rows", "LTriSplits$Rows;", true)
  | _ => ("TriSplits", "letters", "LTriSplits$Letters;", true)
def G_T : Nat → FieldType := fun k => match k with
  | 0 => .object "TriSplits$Reader"
  | 1 => .object "TriSplits$Store"
  | 2 => .object "TriSplits$Factors"
  | 3 => .object "TriSplits$Factors"
  | 4 => .object "TriSplits$Orders"
  | 5 => .object "TriSplits$Families"
  | 6 => .object "TriSplits$Field"
  | 7 => .object "TriSplits$Rows"
  | _ => .object "TriSplits$Letters"
theorem n_T : ∀ a, a < 9 → ∀ b, b < 9 → a ≠ b → (F_T a).2.1 ≠ (F_T b).2.1 := by decide +kernel
theorem ty_T : ∀ k, k < 9 → parseFieldDescriptor (F_T k).2.2.1 = some (G_T k) := by decide +kernel
theorem ci_T : ∀ k, k < 9 → u_lay R_T F_T k ∈ ay_G
  | 0, _ => wd_203
  | 1, _ => wd_205
  | 2, _ => wd_207
  | 3, _ => wd_209
  | 4, _ => wd_211
  | 5, _ => wd_213
  | 6, _ => wd_215
  | 7, _ => wd_217
  | 8, _ => wd_219
  | k + 9, h => absurd h (by omega)
theorem i_T : ∀ w ∈ u_ws R_T F_T 9, w ∈ ay_G := fun w h => by
  obtain ⟨k, hk, rfl⟩ := List.mem_map.mp h
  exact ci_T k (List.mem_range.mp hk)
def R_Reader : String := "TriSplits$Reader"
def F_Reader : u_T := fun k => match k with
  | 0 => ("TriSplits$Reader", "tape", "LTriSplits$Tape;", true)
  | 1 => ("TriSplits$Reader", "polys", "[J", true)
  | 2 => ("TriSplits$Reader", "opened", "[I", true)
  | 3 => ("TriSplits$Reader", "at", "I", false)
  | 4 => ("TriSplits$Reader", "open", "I", false)
  | 5 => ("TriSplits$Reader", "fault", "I", false)
  | 6 => ("TriSplits$Reader", "within", "I", false)
  | _ => ("TriSplits$Reader", "innermost", "I", false)
def G_Reader : Nat → FieldType := fun k => match k with
  | 0 => .object "TriSplits$Tape"
  | 1 => .array .long
  | 2 => .array .int
  | 3 => .int
  | 4 => .int
  | 5 => .int
  | 6 => .int
  | _ => .int
theorem n_Reader : ∀ a, a < 8 → ∀ b, b < 8 → a ≠ b → (F_Reader a).2.1 ≠ (F_Reader b).2.1 := by decide +kernel
theorem ty_Reader : ∀ k, k < 8 → parseFieldDescriptor (F_Reader k).2.2.1 = some (G_Reader k) := by decide +kernel
theorem ci_Reader : ∀ k, k < 8 → u_lay R_Reader F_Reader k ∈ ay_G
  | 0, _ => wd_58
  | 1, _ => wd_60
  | 2, _ => wd_62
  | 3, _ => wd_64
  | 4, _ => wd_66
  | 5, _ => wd_68
  | 6, _ => wd_70
  | 7, _ => wd_72
  | k + 8, h => absurd h (by omega)
theorem i_Reader : ∀ w ∈ u_ws R_Reader F_Reader 8, w ∈ ay_G := fun w h => by
  obtain ⟨k, hk, rfl⟩ := List.mem_map.mp h
  exact ci_Reader k (List.mem_range.mp hk)
def R_Tape : String := "TriSplits$Tape"
def F_Tape : u_T := fun k => match k with
  | 0 => ("TriSplits$Tape", "bytes", "[B", true)
  | _ => ("TriSplits$Tape", "size", "I", false)
def G_Tape : Nat → FieldType := fun k => match k with
  | 0 => .array .byte
  | _ => .int
theorem n_Tape : ∀ a, a < 2 → ∀ b, b < 2 → a ≠ b → (F_Tape a).2.1 ≠ (F_Tape b).2.1 := by decide +kernel
theorem ty_Tape : ∀ k, k < 2 → parseFieldDescriptor (F_Tape k).2.2.1 = some (G_Tape k) := by decide +kernel
theorem ci_Tape : ∀ k, k < 2 → u_lay R_Tape F_Tape k ∈ ay_G
  | 0, _ => wd_44
  | 1, _ => wd_46
  | k + 2, h => absurd h (by omega)
theorem i_Tape : ∀ w ∈ u_ws R_Tape F_Tape 2, w ∈ ay_G := fun w h => by
  obtain ⟨k, hk, rfl⟩ := List.mem_map.mp h
  exact ci_Tape k (List.mem_range.mp hk)
def R_Store : String := "TriSplits$Store"
def F_Store : u_T := fun k => match k with
  | 0 => ("TriSplits$Store", "now", "[J", true)
  | 1 => ("TriSplits$Store", "past", "[J", true)
  | 2 => ("TriSplits$Store", "shelves", "[J", true)
  | 3 => ("TriSplits$Store", "undoable", "I", false)
  | 4 => ("TriSplits$Store", "slot", "I", false)
  | _ => ("TriSplits$Store", "kept", "I", false)
def G_Store : Nat → FieldType := fun k => match k with
  | 0 => .array .long
  | 1 => .array .long
  | 2 => .array .long
  | 3 => .int
  | 4 => .int
  | _ => .int
theorem n_Store : ∀ a, a < 6 → ∀ b, b < 6 → a ≠ b → (F_Store a).2.1 ≠ (F_Store b).2.1 := by decide +kernel
theorem ty_Store : ∀ k, k < 6 → parseFieldDescriptor (F_Store k).2.2.1 = some (G_Store k) := by decide +kernel
theorem ci_Store : ∀ k, k < 6 → u_lay R_Store F_Store k ∈ ay_G
  | 0, _ => wd_89
  | 1, _ => wd_91
  | 2, _ => wd_93
  | 3, _ => wd_95
  | 4, _ => wd_97
  | 5, _ => wd_99
  | k + 6, h => absurd h (by omega)
theorem i_Store : ∀ w ∈ u_ws R_Store F_Store 6, w ∈ ay_G := fun w h => by
  obtain ⟨k, hk, rfl⟩ := List.mem_map.mp h
  exact ci_Store k (List.mem_range.mp hk)
def R_Factors : String := "TriSplits$Factors"
def F_Factors : u_T := fun k => match k with
  | 0 => ("TriSplits$Factors", "bases", "[J", true)
  | 1 => ("TriSplits$Factors", "times", "[I", true)
  | 2 => ("TriSplits$Factors", "parts", "[J", true)
  | 3 => ("TriSplits$Factors", "unlike", "I", false)
  | _ => ("TriSplits$Factors", "all", "I", false)
def G_Factors : Nat → FieldType := fun k => match k with
  | 0 => .array .long
  | 1 => .array .int
  | 2 => .array .long
  | 3 => .int
  | _ => .int
theorem n_Factors : ∀ a, a < 5 → ∀ b, b < 5 → a ≠ b → (F_Factors a).2.1 ≠ (F_Factors b).2.1 := by decide +kernel
theorem ty_Factors : ∀ k, k < 5 → parseFieldDescriptor (F_Factors k).2.2.1 = some (G_Factors k) := by decide +kernel
theorem ci_Factors : ∀ k, k < 5 → u_lay R_Factors F_Factors k ∈ ay_G
  | 0, _ => wd_113
  | 1, _ => wd_115
  | 2, _ => wd_117
  | 3, _ => wd_119
  | 4, _ => wd_121
  | k + 5, h => absurd h (by omega)
theorem i_Factors : ∀ w ∈ u_ws R_Factors F_Factors 5, w ∈ ay_G := fun w h => by
  obtain ⟨k, hk, rfl⟩ := List.mem_map.mp h
  exact ci_Factors k (List.mem_range.mp hk)
def R_Orders : String := "TriSplits$Orders"
def F_Orders : u_T := fun k => match k with
  | 0 => ("TriSplits$Orders", "primes", "[J", true)
  | _ => ("TriSplits$Orders", "many", "I", false)
def G_Orders : Nat → FieldType := fun k => match k with
  | 0 => .array .long
  | _ => .int
theorem n_Orders : ∀ a, a < 2 → ∀ b, b < 2 → a ≠ b → (F_Orders a).2.1 ≠ (F_Orders b).2.1 := by decide +kernel
theorem ty_Orders : ∀ k, k < 2 → parseFieldDescriptor (F_Orders k).2.2.1 = some (G_Orders k) := by decide +kernel
theorem ci_Orders : ∀ k, k < 2 → u_lay R_Orders F_Orders k ∈ ay_G
  | 0, _ => wd_132
  | 1, _ => wd_134
  | k + 2, h => absurd h (by omega)
theorem i_Orders : ∀ w ∈ u_ws R_Orders F_Orders 2, w ∈ ay_G := fun w h => by
  obtain ⟨k, hk, rfl⟩ := List.mem_map.mp h
  exact ci_Orders k (List.mem_range.mp hk)
def R_Families : String := "TriSplits$Families"
def F_Families : u_T := fun k => match k with
  | _ => ("TriSplits$Families", "orders", "LTriSplits$Orders;", true)
def G_Families : Nat → FieldType := fun k => match k with
  | _ => .object "TriSplits$Orders"
theorem n_Families : ∀ a, a < 1 → ∀ b, b < 1 → a ≠ b → (F_Families a).2.1 ≠ (F_Families b).2.1 := by decide +kernel
theorem ty_Families : ∀ k, k < 1 → parseFieldDescriptor (F_Families k).2.2.1 = some (G_Families k) := by decide +kernel
theorem ci_Families : ∀ k, k < 1 → u_lay R_Families F_Families k ∈ ay_G
  | 0, _ => wd_146
  | k + 1, h => absurd h (by omega)
theorem i_Families : ∀ w ∈ u_ws R_Families F_Families 1, w ∈ ay_G := fun w h => by
  obtain ⟨k, hk, rfl⟩ := List.mem_map.mp h
  exact ci_Families k (List.mem_range.mp hk)
def R_Field : String := "TriSplits$Field"
def F_Field : u_T := fun k => match k with
  | 0 => ("TriSplits$Field", "coefficients", "[J", true)
  | _ => ("TriSplits$Field", "powers", "[J", true)
def G_Field : Nat → FieldType := fun k => match k with
  | 0 => .array .long
  | _ => .array .long
theorem n_Field : ∀ a, a < 2 → ∀ b, b < 2 → a ≠ b → (F_Field a).2.1 ≠ (F_Field b).2.1 := by decide +kernel
theorem ty_Field : ∀ k, k < 2 → parseFieldDescriptor (F_Field k).2.2.1 = some (G_Field k) := by decide +kernel
theorem ci_Field : ∀ k, k < 2 → u_lay R_Field F_Field k ∈ ay_G
  | 0, _ => wd_157
  | 1, _ => wd_159
  | k + 2, h => absurd h (by omega)
theorem i_Field : ∀ w ∈ u_ws R_Field F_Field 2, w ∈ ay_G := fun w h => by
  obtain ⟨k, hk, rfl⟩ := List.mem_map.mp h
  exact ci_Field k (List.mem_range.mp hk)
def R_Rows : String := "TriSplits$Rows"
def F_Rows : u_T := fun k => match k with
  | 0 => ("TriSplits$Rows", "row", "[J", true)
  | 1 => ("TriSplits$Rows", "many", "I", false)
  | 2 => ("TriSplits$Rows", "multipleN", "I", false)
  | _ => ("TriSplits$Rows", "multipleK", "I", false)
def G_Rows : Nat → FieldType := fun k => match k with
  | 0 => .array .long
  | 1 => .int
  | 2 => .int
  | _ => .int
theorem n_Rows : ∀ a, a < 4 → ∀ b, b < 4 → a ≠ b → (F_Rows a).2.1 ≠ (F_Rows b).2.1 := by decide +kernel
theorem ty_Rows : ∀ k, k < 4 → parseFieldDescriptor (F_Rows k).2.2.1 = some (G_Rows k) := by decide +kernel
theorem ci_Rows : ∀ k, k < 4 → u_lay R_Rows F_Rows k ∈ ay_G
  | 0, _ => wd_172
  | 1, _ => wd_174
  | 2, _ => wd_176
  | 3, _ => wd_178
  | k + 4, h => absurd h (by omega)
theorem i_Rows : ∀ w ∈ u_ws R_Rows F_Rows 4, w ∈ ay_G := fun w h => by
  obtain ⟨k, hk, rfl⟩ := List.mem_map.mp h
  exact ci_Rows k (List.mem_range.mp hk)
def R_Letters : String := "TriSplits$Letters"
def F_Letters : u_T := fun k => match k with
  | 0 => ("TriSplits$Letters", "bytes", "[B", true)
  | _ => ("TriSplits$Letters", "size", "I", false)
def G_Letters : Nat → FieldType := fun k => match k with
  | 0 => .array .byte
  | _ => .int
theorem n_Letters : ∀ a, a < 2 → ∀ b, b < 2 → a ≠ b → (F_Letters a).2.1 ≠ (F_Letters b).2.1 := by decide +kernel
theorem ty_Letters : ∀ k, k < 2 → parseFieldDescriptor (F_Letters k).2.2.1 = some (G_Letters k) := by decide +kernel
theorem ci_Letters : ∀ k, k < 2 → u_lay R_Letters F_Letters k ∈ ay_G
  | 0, _ => wd_189
  | 1, _ => wd_191
  | k + 2, h => absurd h (by omega)
theorem i_Letters : ∀ w ∈ u_ws R_Letters F_Letters 2, w ∈ ay_G := fun w h => by
  obtain ⟨k, hk, rfl⟩ := List.mem_map.mp h
  exact ci_Letters k (List.mem_range.mp hk)
def R_M : String := "TriSplitsModel"
def F_M : u_T := fun k => match k with
  | 0 => ("TriSplitsModel", "now", "[J", true)
  | 1 => ("TriSplitsModel", "was", "[J", true)
  | 2 => ("TriSplitsModel", "undone", "I", false)
  | 3 => ("TriSplitsModel", "kept", "[J", true)
  | 4 => ("TriSplitsModel", "isKept", "[Z", true)
  | 5 => ("TriSplitsModel", "factor", "[J", true)
  | 6 => ("TriSplitsModel", "factors", "I", false)
  | 7 => ("TriSplitsModel", "factored", "J", false)
  | 8 => ("TriSplitsModel", "prime", "[J", true)
  | 9 => ("TriSplitsModel", "primes", "I", false)
  | 10 => ("TriSplitsModel", "powers", "[J", true)
  | 11 => ("TriSplitsModel", "rows", "[J", true)
  | 12 => ("TriSplitsModel", "whiches", "[J", true)
  | 13 => ("TriSplitsModel", "solution", "J", false)
  | 14 => ("TriSplitsModel", "leads", "[I", true)
  | 15 => ("TriSplitsModel", "doing", "[J", true)
  | 16 => ("TriSplitsModel", "twice", "[J", true)
  | 17 => ("TriSplitsModel", "spelt", "I", false)
  | 18 => ("TriSplitsModel", "wanted", "I", false)
  | 19 => ("TriSplitsModel", "found", "I", false)
  | 20 => ("TriSplitsModel", "tape", "[B", true)
  | 21 => ("TriSplitsModel", "taped", "I", false)
  | 22 => ("TriSplitsModel", "spot", "I", false)
  | 23 => ("TriSplitsModel", "wrong", "I", false)
  | 24 => ("TriSplitsModel", "wrongOpen", "I", false)
  | 25 => ("TriSplitsModel", "wrongAt", "I", false)
  | 26 => ("TriSplitsModel", "number", "I", false)
  | 27 => ("TriSplitsModel", "numberAt", "I", false)
  | 28 => ("TriSplitsModel", "open", "I", false)
  | 29 => ("TriSplitsModel", "openAt", "[I", true)
  | 30 => ("TriSplitsModel", "value", "J", false)
  | 31 => ("TriSplitsModel", "read", "[J", true)
  | 32 => ("TriSplitsModel", "statements", "I", false)
  | 33 => ("TriSplitsModel", "divisors", "[J", true)
  | _ => ("TriSplitsModel", "divisorMany", "I", false)
def G_M : Nat → FieldType := fun k => match k with
  | 0 => .array .long
  | 1 => .array .long
  | 2 => .int
  | 3 => .array .long
  | 4 => .array .boolean
  | 5 => .array .long
  | 6 => .int
  | 7 => .long
  | 8 => .array .long
  | 9 => .int
  | 10 => .array .long
  | 11 => .array .long
  | 12 => .array .long
  | 13 => .long
  | 14 => .array .int
  | 15 => .array .long
  | 16 => .array .long
  | 17 => .int
  | 18 => .int
  | 19 => .int
  | 20 => .array .byte
  | 21 => .int
  | 22 => .int
  | 23 => .int
  | 24 => .int
  | 25 => .int
  | 26 => .int
  | 27 => .int
  | 28 => .int
  | 29 => .array .int
  | 30 => .long
  | 31 => .array .long
  | 32 => .int
  | 33 => .array .long
  | _ => .int
theorem n_M : ∀ a, a < 35 → ∀ b, b < 35 → a ≠ b → (F_M a).2.1 ≠ (F_M b).2.1 := by decide +kernel
theorem ty_M : ∀ k, k < 35 → parseFieldDescriptor (F_M k).2.2.1 = some (G_M k) := by decide +kernel
theorem ci_M : ∀ k, k < 35 → u_lay R_M F_M k ∈ ay_G
  | 0, _ => wd_1112
  | 1, _ => wd_1114
  | 2, _ => wd_1116
  | 3, _ => wd_1118
  | 4, _ => wd_1120
  | 5, _ => wd_1122
  | 6, _ => wd_1124
  | 7, _ => wd_1126
  | 8, _ => wd_1128
  | 9, _ => wd_1130
  | 10, _ => wd_1132
  | 11, _ => wd_1134
  | 12, _ => wd_1136
  | 13, _ => wd_1138
  | 14, _ => wd_1140
  | 15, _ => wd_1142
  | 16, _ => wd_1144
  | 17, _ => wd_1146
  | 18, _ => wd_1148
  | 19, _ => wd_1150
  | 20, _ => wd_1152
  | 21, _ => wd_1154
  | 22, _ => wd_1156
  | 23, _ => wd_1158
  | 24, _ => wd_1160
  | 25, _ => wd_1162
  | 26, _ => wd_1164
  | 27, _ => wd_1166
  | 28, _ => wd_1168
  | 29, _ => wd_1170
  | 30, _ => wd_1172
  | 31, _ => wd_1174
  | 32, _ => wd_1176
  | 33, _ => wd_1178
  | 34, _ => wd_1180
  | k + 35, h => absurd h (by omega)
theorem i_M : ∀ w ∈ u_ws R_M F_M 35, w ∈ ay_G := fun w h => by
  obtain ⟨k, hk, rfl⟩ := List.mem_map.mp h
  exact ci_M k (List.mem_range.mp hk)
abbrev ay_cl : List vw_C := [(R_T, F_T, 9), (R_Reader, F_Reader, 8), (R_Tape, F_Tape, 2), (R_Store, F_Store, 6), (R_Factors, F_Factors, 5), (R_Orders, F_Orders, 2), (R_Families, F_Families, 1), (R_Field, F_Field, 2), (R_Rows, F_Rows, 4), (R_Letters, F_Letters, 2), (R_M, F_M, 35)]
abbrev Wd : Type := (Nat → Nat → Int32) × (Nat → Nat → Int64)
/-- the base, the tables' numbers of the classes, of the four kinds of arrays, where the String constants and their rows of bytes lie -/
abbrev ayG : Type := Nat × va_G × (Nat → ClassId) × (Nat → Nat) × (Nat → Nat)
def ay_A (g : ayG) : Nat → Prop := fun q => g.1 ≤ q
abbrev ay_tys (g : ayG) : List (ClassId × FieldType) := [(g.2.2.1 0, .long), (g.2.2.1 1, .int), (g.2.2.1 2, .byte), (g.2.2.1 3, .boolean)]
/-- each cell: 0 a row of longs, 1 of ints, 2 of bytes, 3 of booleans, with its length; 10 and on: an object of a class -/
def ay_shL : List (Nat × Nat) := [(10, 0), (11, 0), (12, 0), (2, 300), (0, 10), (1, 6), (13, 0), (0, 13), (0, 130), (0, 26), (14, 0), (0, 31), (1, 31), (0, 31), (14, 0), (0, 31), (1, 31), (0, 31), (15, 0), (0, 16), (16, 0), (15, 0), (0, 16), (17, 0), (0, 32), (0, 256), (18, 0), (0, 2880), (19, 0), (2, 400), (20, 0), (0, 14), (0, 140), (0, 28), (3, 2), (0, 32), (0, 20), (0, 301), (0, 64), (0, 64), (1, 64), (0, 31), (0, 31), (2, 300), (1, 6), (0, 10), (0, 8192)]
def ay_sh (c : Nat) : Nat × Nat := ay_shL.getD c (99, 0)
theorem ay_shlt {c k n : Nat} (h : ay_sh c = (k, n)) (hk : k ≠ 99) : c < 47 := by
  rcases Nat.lt_or_ge c 47 with q | q
  · exact q
  · exfalso
    have h1 : ay_shL[c]? = none := List.getElem?_eq_none (by simpa [ay_shL] using q)
    unfold ay_sh at h
    rw [List.getD_eq_getElem?_getD, h1] at h
    exact hk (Prod.mk.inj h).1.symm
def ob_T (g : ayG) (w : Wd) (c : Nat) : List Value := [.ref (g.1 + (c + 1)), .ref (g.1 + (c + 6)), .ref (g.1 + (c + 10)), .ref (g.1 + (c + 14)), .ref (g.1 + (c + 18)), .ref (g.1 + (c + 20)), .ref (g.1 + (c + 23)), .ref (g.1 + (c + 26)), .ref (g.1 + (c + 28))]
def ob_Reader (g : ayG) (w : Wd) (c : Nat) : List Value := [.ref (g.1 + (c + 1)), .ref (g.1 + (c + 3)), .ref (g.1 + (c + 4)), .int (w.1 c 3), .int (w.1 c 4), .int (w.1 c 5), .int (w.1 c 6), .int (w.1 c 7)]
def ob_Tape (g : ayG) (w : Wd) (c : Nat) : List Value := [.ref (g.1 + (c + 1)), .int (w.1 c 1)]
def ob_Store (g : ayG) (w : Wd) (c : Nat) : List Value := [.ref (g.1 + (c + 1)), .ref (g.1 + (c + 2)), .ref (g.1 + (c + 3)), .int (w.1 c 3), .int (w.1 c 4), .int (w.1 c 5)]
def ob_Factors (g : ayG) (w : Wd) (c : Nat) : List Value := [.ref (g.1 + (c + 1)), .ref (g.1 + (c + 2)), .ref (g.1 + (c + 3)), .int (w.1 c 3), .int (w.1 c 4)]
def ob_Orders (g : ayG) (w : Wd) (c : Nat) : List Value := [.ref (g.1 + (c + 1)), .int (w.1 c 1)]
def ob_Families (g : ayG) (w : Wd) (c : Nat) : List Value := [.ref (g.1 + (c + 1))]
def ob_Field (g : ayG) (w : Wd) (c : Nat) : List Value := [.ref (g.1 + (c + 1)), .ref (g.1 + (c + 2))]
def ob_Rows (g : ayG) (w : Wd) (c : Nat) : List Value := [.ref (g.1 + (c + 1)), .int (w.1 c 1), .int (w.1 c 2), .int (w.1 c 3)]
def ob_Letters (g : ayG) (w : Wd) (c : Nat) : List Value := [.ref (g.1 + (c + 1)), .int (w.1 c 1)]
def ob_M (g : ayG) (w : Wd) (c : Nat) : List Value := [.ref (g.1 + (c + 1)), .ref (g.1 + (c + 2)), .int (w.1 c 2), .ref (g.1 + (c + 3)), .ref (g.1 + (c + 4)), .ref (g.1 + (c + 5)), .int (w.1 c 6), .long (w.2 c 7), .ref (g.1 + (c + 6)), .int (w.1 c 9), .ref (g.1 + (c + 7)), .ref (g.1 + (c + 8)), .ref (g.1 + (c + 9)), .long (w.2 c 13), .ref (g.1 + (c + 10)), .ref (g.1 + (c + 11)), .ref (g.1 + (c + 12)), .int (w.1 c 17), .int (w.1 c 18), .int (w.1 c 19), .ref (g.1 + (c + 13)), .int (w.1 c 21), .int (w.1 c 22), .int (w.1 c 23), .int (w.1 c 24), .int (w.1 c 25), .int (w.1 c 26), .int (w.1 c 27), .int (w.1 c 28), .ref (g.1 + (c + 14)), .long (w.2 c 30), .ref (g.1 + (c + 15)), .int (w.1 c 32), .ref (g.1 + (c + 16)), .int (w.1 c 34)]
def ay_ob (g : ayG) (w : Wd) (c : Nat) : Nat → Nat × List Value
  | 10 => (0, ob_T g w c)
  | 11 => (1, ob_Reader g w c)
  | 12 => (2, ob_Tape g w c)
  | 13 => (3, ob_Store g w c)
  | 14 => (4, ob_Factors g w c)
  | 15 => (5, ob_Orders g w c)
  | 16 => (6, ob_Families g w c)
  | 17 => (7, ob_Field g w c)
  | 18 => (8, ob_Rows g w c)
  | 19 => (9, ob_Letters g w c)
  | 20 => (10, ob_M g w c)
  | _ => (99, [])
def ay_el (g : ayG) (w : Wd) (c : Nat) : va_E :=
  if (ay_sh c).1 = 0 then .inl (g.2.2.1 0, (ay_sh c).2, .inr (.inl (w.2 c)))
  else if (ay_sh c).1 = 1 then .inl (g.2.2.1 1, (ay_sh c).2, .inl (w.1 c))
  else if (ay_sh c).1 = 2 then .inl (g.2.2.1 2, (ay_sh c).2, .inl (w.1 c))
  else if (ay_sh c).1 = 3 then .inl (g.2.2.1 3, (ay_sh c).2, .inl (w.1 c))
  else .inr (ay_ob g w c (ay_sh c).1)
def ay_W (g : ayG) (w : Wd) : va_W := (List.range 47).map fun c => (g.1 + c, ay_el g w c)
theorem el_J {g : ayG} {w : Wd} {c n : Nat} (h : ay_sh c = (0, n)) : ay_el g w c = .inl (g.2.2.1 0, n, .inr (.inl (w.2 c))) := by simp [ay_el, h]
theorem el_I {g : ayG} {w : Wd} {c n : Nat} (h : ay_sh c = (1, n)) : ay_el g w c = .inl (g.2.2.1 1, n, .inl (w.1 c)) := by simp [ay_el, h]
theorem el_B {g : ayG} {w : Wd} {c n : Nat} (h : ay_sh c = (2, n)) : ay_el g w c = .inl (g.2.2.1 2, n, .inl (w.1 c)) := by simp [ay_el, h]
theorem el_Z {g : ayG} {w : Wd} {c n : Nat} (h : ay_sh c = (3, n)) : ay_el g w c = .inl (g.2.2.1 3, n, .inl (w.1 c)) := by simp [ay_el, h]
theorem el_T {g : ayG} {w : Wd} {c : Nat} (h : ay_sh c = (10, 0)) : ay_el g w c = .inr (0, ob_T g w c) := by simp [ay_el, h, ay_ob]
theorem el_Reader {g : ayG} {w : Wd} {c : Nat} (h : ay_sh c = (11, 0)) : ay_el g w c = .inr (1, ob_Reader g w c) := by simp [ay_el, h, ay_ob]
theorem el_Tape {g : ayG} {w : Wd} {c : Nat} (h : ay_sh c = (12, 0)) : ay_el g w c = .inr (2, ob_Tape g w c) := by simp [ay_el, h, ay_ob]
theorem el_Store {g : ayG} {w : Wd} {c : Nat} (h : ay_sh c = (13, 0)) : ay_el g w c = .inr (3, ob_Store g w c) := by simp [ay_el, h, ay_ob]
theorem el_Factors {g : ayG} {w : Wd} {c : Nat} (h : ay_sh c = (14, 0)) : ay_el g w c = .inr (4, ob_Factors g w c) := by simp [ay_el, h, ay_ob]
theorem el_Orders {g : ayG} {w : Wd} {c : Nat} (h : ay_sh c = (15, 0)) : ay_el g w c = .inr (5, ob_Orders g w c) := by simp [ay_el, h, ay_ob]
theorem el_Families {g : ayG} {w : Wd} {c : Nat} (h : ay_sh c = (16, 0)) : ay_el g w c = .inr (6, ob_Families g w c) := by simp [ay_el, h, ay_ob]
theorem el_Field {g : ayG} {w : Wd} {c : Nat} (h : ay_sh c = (17, 0)) : ay_el g w c = .inr (7, ob_Field g w c) := by simp [ay_el, h, ay_ob]
theorem el_Rows {g : ayG} {w : Wd} {c : Nat} (h : ay_sh c = (18, 0)) : ay_el g w c = .inr (8, ob_Rows g w c) := by simp [ay_el, h, ay_ob]
theorem el_Letters {g : ayG} {w : Wd} {c : Nat} (h : ay_sh c = (19, 0)) : ay_el g w c = .inr (9, ob_Letters g w c) := by simp [ay_el, h, ay_ob]
theorem el_M {g : ayG} {w : Wd} {c : Nat} (h : ay_sh c = (20, 0)) : ay_el g w c = .inr (10, ob_M g w c) := by simp [ay_el, h, ay_ob]
theorem ay_Wat {g : ayG} {w : Wd} {c : Nat} (h : c < 47) : (ay_W g w)[c]? = some (g.1 + c, ay_el g w c) := by simp [ay_W, h]
theorem ay_Wat' {g : ayG} {w : Wd} {c : Nat} {q : Nat × va_E} (h : (ay_W g w)[c]? = some q) : c < 47 ∧ q = (g.1 + c, ay_el g w c) := by
  have h1 := (List.getElem?_eq_some_iff.mp h).1
  have h2 : c < 47 := by simpa [ay_W] using h1
  rw [ay_Wat h2] at h
  exact ⟨h2, (Option.some.inj h).symm⟩
theorem ay_WD {g : ayG} {w : Wd} : va_D (ay_A g) (ay_W g w) := by
  refine ⟨fun i j p q hp hq hpq => ?_, fun k q hq => ?_⟩
  · obtain ⟨-, rfl⟩ := ay_Wat' hp
    obtain ⟨-, rfl⟩ := ay_Wat' hq
    exact Nat.add_left_cancel hpq
  · obtain ⟨-, rfl⟩ := ay_Wat' hq
    exact Nat.le_add_right _ _
theorem ay_elc {g : ayG} {w w' : Wd} {c : Nat} (h1 : w'.1 c = w.1 c) (h2 : w'.2 c = w.2 c) : ay_el g w' c = ay_el g w c := by
  have hob : ∀ k, ay_ob g w' c k = ay_ob g w c k := by
    intro k
    unfold ay_ob
    split <;> simp only [ob_T, ob_Reader, ob_Tape, ob_Store, ob_Factors, ob_Orders, ob_Families, ob_Field, ob_Rows, ob_Letters, ob_M, h1, h2]
  simp only [ay_el, h1, h2, hob]
theorem ay_Wset {g : ayG} {w w' : Wd} {c : Nat} (hc : c < 47) (h : ∀ k, k ≠ c → w'.1 k = w.1 k ∧ w'.2 k = w.2 k) : (ay_W g w).set c (g.1 + c, ay_el g w' c) = ay_W g w' := by
  apply List.ext_getElem?
  intro i
  by_cases hi : i = c
  · subst hi
    rw [List.getElem?_set_self (by simpa [ay_W] using hc), ay_Wat hc]
  · rw [List.getElem?_set_ne (Ne.symm hi)]
    by_cases h2 : i < 47
    · rw [ay_Wat h2, ay_Wat h2, ay_elc (h i hi).1 (h i hi).2]
    · rw [List.getElem?_eq_none (by simpa [ay_W] using h2), List.getElem?_eq_none (by simpa [ay_W] using h2)]
def wI (w : Wd) (c j : Nat) (x : Int32) : Wd := (fun k => if k = c then upd (w.1 c) j x else w.1 k, w.2)
def wL (w : Wd) (c j : Nat) (x : Int64) : Wd := (w.1, fun k => if k = c then vp_updL (w.2 c) j x else w.2 k)
/-- a whole row of longs comes anew -/
def wR (w : Wd) (c : Nat) (f : Nat → Int64) : Wd := (w.1, fun k => if k = c then f else w.2 k)
theorem wI_1 (w : Wd) (c j k i : Nat) (x : Int32) : (wI w c j x).1 k i = if k = c ∧ i = j then x else w.1 k i := by
  simp only [wI]
  by_cases h : k = c
  · subst h; by_cases h2 : i = j <;> simp [upd, h2]
  · simp [h]
theorem wI_2 (w : Wd) (c j : Nat) (x : Int32) : (wI w c j x).2 = w.2 := rfl
theorem wL_2 (w : Wd) (c j k i : Nat) (x : Int64) : (wL w c j x).2 k i = if k = c ∧ i = j then x else w.2 k i := by
  simp only [wL]
  by_cases h : k = c
  · subst h; by_cases h2 : i = j <;> simp [vp_updL, h2]
  · simp [h]
theorem wL_1 (w : Wd) (c j : Nat) (x : Int64) : (wL w c j x).1 = w.1 := rfl
theorem wR_1 (w : Wd) (c : Nat) (f : Nat → Int64) : (wR w c f).1 = w.1 := rfl
theorem wR_2 (w : Wd) (c k i : Nat) (f : Nat → Int64) : (wR w c f).2 k i = if k = c then f i else w.2 k i := by
  simp only [wR]
  by_cases h : k = c <;> simp [h]
theorem wI_o {w : Wd} {c j : Nat} {x : Int32} (k : Nat) (h : k ≠ c) : (wI w c j x).1 k = w.1 k ∧ (wI w c j x).2 k = w.2 k := ⟨by simp [wI, h], rfl⟩
theorem wL_o {w : Wd} {c j : Nat} {x : Int64} (k : Nat) (h : k ≠ c) : (wL w c j x).1 k = w.1 k ∧ (wL w c j x).2 k = w.2 k := ⟨rfl, by simp [wL, h]⟩
theorem wR_o {w : Wd} {c : Nat} {f : Nat → Int64} (k : Nat) (h : k ≠ c) : (wR w c f).1 k = w.1 k ∧ (wR w c f).2 k = w.2 k := ⟨rfl, by simp [wR, h]⟩
theorem pf_Reader_at {g : ayG} {w : Wd} {c : Nat} {x : Int32} : ob_Reader g (wI w c 3 x) c = (ob_Reader g w c).set 3 (.int x) := by simp [ob_Reader, wI, upd]
theorem pf_Reader_open {g : ayG} {w : Wd} {c : Nat} {x : Int32} : ob_Reader g (wI w c 4 x) c = (ob_Reader g w c).set 4 (.int x) := by simp [ob_Reader, wI, upd]
theorem pf_Reader_fault {g : ayG} {w : Wd} {c : Nat} {x : Int32} : ob_Reader g (wI w c 5 x) c = (ob_Reader g w c).set 5 (.int x) := by simp [ob_Reader, wI, upd]
theorem pf_Reader_within {g : ayG} {w : Wd} {c : Nat} {x : Int32} : ob_Reader g (wI w c 6 x) c = (ob_Reader g w c).set 6 (.int x) := by simp [ob_Reader, wI, upd]
theorem pf_Reader_innermost {g : ayG} {w : Wd} {c : Nat} {x : Int32} : ob_Reader g (wI w c 7 x) c = (ob_Reader g w c).set 7 (.int x) := by simp [ob_Reader, wI, upd]
theorem pf_Tape_size {g : ayG} {w : Wd} {c : Nat} {x : Int32} : ob_Tape g (wI w c 1 x) c = (ob_Tape g w c).set 1 (.int x) := by simp [ob_Tape, wI, upd]
theorem pf_Store_undoable {g : ayG} {w : Wd} {c : Nat} {x : Int32} : ob_Store g (wI w c 3 x) c = (ob_Store g w c).set 3 (.int x) := by simp [ob_Store, wI, upd]
theorem pf_Store_slot {g : ayG} {w : Wd} {c : Nat} {x : Int32} : ob_Store g (wI w c 4 x) c = (ob_Store g w c).set 4 (.int x) := by simp [ob_Store, wI, upd]
theorem pf_Store_kept {g : ayG} {w : Wd} {c : Nat} {x : Int32} : ob_Store g (wI w c 5 x) c = (ob_Store g w c).set 5 (.int x) := by simp [ob_Store, wI, upd]
theorem pf_Factors_unlike {g : ayG} {w : Wd} {c : Nat} {x : Int32} : ob_Factors g (wI w c 3 x) c = (ob_Factors g w c).set 3 (.int x) := by simp [ob_Factors, wI, upd]
theorem pf_Factors_all {g : ayG} {w : Wd} {c : Nat} {x : Int32} : ob_Factors g (wI w c 4 x) c = (ob_Factors g w c).set 4 (.int x) := by simp [ob_Factors, wI, upd]
theorem pf_Orders_many {g : ayG} {w : Wd} {c : Nat} {x : Int32} : ob_Orders g (wI w c 1 x) c = (ob_Orders g w c).set 1 (.int x) := by simp [ob_Orders, wI, upd]
theorem pf_Rows_many {g : ayG} {w : Wd} {c : Nat} {x : Int32} : ob_Rows g (wI w c 1 x) c = (ob_Rows g w c).set 1 (.int x) := by simp [ob_Rows, wI, upd]
theorem pf_Rows_multipleN {g : ayG} {w : Wd} {c : Nat} {x : Int32} : ob_Rows g (wI w c 2 x) c = (ob_Rows g w c).set 2 (.int x) := by simp [ob_Rows, wI, upd]
theorem pf_Rows_multipleK {g : ayG} {w : Wd} {c : Nat} {x : Int32} : ob_Rows g (wI w c 3 x) c = (ob_Rows g w c).set 3 (.int x) := by simp [ob_Rows, wI, upd]
theorem pf_Letters_size {g : ayG} {w : Wd} {c : Nat} {x : Int32} : ob_Letters g (wI w c 1 x) c = (ob_Letters g w c).set 1 (.int x) := by simp [ob_Letters, wI, upd]
theorem pf_M_undone {g : ayG} {w : Wd} {c : Nat} {x : Int32} : ob_M g (wI w c 2 x) c = (ob_M g w c).set 2 (.int x) := by simp [ob_M, wI, upd]
theorem pf_M_factors {g : ayG} {w : Wd} {c : Nat} {x : Int32} : ob_M g (wI w c 6 x) c = (ob_M g w c).set 6 (.int x) := by simp [ob_M, wI, upd]
theorem pf_M_factored {g : ayG} {w : Wd} {c : Nat} {x : Int64} : ob_M g (wL w c 7 x) c = (ob_M g w c).set 7 (.long x) := by simp [ob_M, wL, vp_updL]
theorem pf_M_primes {g : ayG} {w : Wd} {c : Nat} {x : Int32} : ob_M g (wI w c 9 x) c = (ob_M g w c).set 9 (.int x) := by simp [ob_M, wI, upd]
theorem pf_M_solution {g : ayG} {w : Wd} {c : Nat} {x : Int64} : ob_M g (wL w c 13 x) c = (ob_M g w c).set 13 (.long x) := by simp [ob_M, wL, vp_updL]
theorem pf_M_spelt {g : ayG} {w : Wd} {c : Nat} {x : Int32} : ob_M g (wI w c 17 x) c = (ob_M g w c).set 17 (.int x) := by simp [ob_M, wI, upd]
theorem pf_M_wanted {g : ayG} {w : Wd} {c : Nat} {x : Int32} : ob_M g (wI w c 18 x) c = (ob_M g w c).set 18 (.int x) := by simp [ob_M, wI, upd]
theorem pf_M_found {g : ayG} {w : Wd} {c : Nat} {x : Int32} : ob_M g (wI w c 19 x) c = (ob_M g w c).set 19 (.int x) := by simp [ob_M, wI, upd]
theorem pf_M_taped {g : ayG} {w : Wd} {c : Nat} {x : Int32} : ob_M g (wI w c 21 x) c = (ob_M g w c).set 21 (.int x) := by simp [ob_M, wI, upd]
theorem pf_M_spot {g : ayG} {w : Wd} {c : Nat} {x : Int32} : ob_M g (wI w c 22 x) c = (ob_M g w c).set 22 (.int x) := by simp [ob_M, wI, upd]
theorem pf_M_wrong {g : ayG} {w : Wd} {c : Nat} {x : Int32} : ob_M g (wI w c 23 x) c = (ob_M g w c).set 23 (.int x) := by simp [ob_M, wI, upd]
theorem pf_M_wrongOpen {g : ayG} {w : Wd} {c : Nat} {x : Int32} : ob_M g (wI w c 24 x) c = (ob_M g w c).set 24 (.int x) := by simp [ob_M, wI, upd]
theorem pf_M_wrongAt {g : ayG} {w : Wd} {c : Nat} {x : Int32} : ob_M g (wI w c 25 x) c = (ob_M g w c).set 25 (.int x) := by simp [ob_M, wI, upd]
theorem pf_M_number {g : ayG} {w : Wd} {c : Nat} {x : Int32} : ob_M g (wI w c 26 x) c = (ob_M g w c).set 26 (.int x) := by simp [ob_M, wI, upd]
theorem pf_M_numberAt {g : ayG} {w : Wd} {c : Nat} {x : Int32} : ob_M g (wI w c 27 x) c = (ob_M g w c).set 27 (.int x) := by simp [ob_M, wI, upd]
theorem pf_M_open {g : ayG} {w : Wd} {c : Nat} {x : Int32} : ob_M g (wI w c 28 x) c = (ob_M g w c).set 28 (.int x) := by simp [ob_M, wI, upd]
theorem pf_M_value {g : ayG} {w : Wd} {c : Nat} {x : Int64} : ob_M g (wL w c 30 x) c = (ob_M g w c).set 30 (.long x) := by simp [ob_M, wL, vp_updL]
theorem pf_M_statements {g : ayG} {w : Wd} {c : Nat} {x : Int32} : ob_M g (wI w c 32 x) c = (ob_M g w c).set 32 (.int x) := by simp [ob_M, wI, upd]
theorem pf_M_divisorMany {g : ayG} {w : Wd} {c : Nat} {x : Int32} : ob_M g (wI w c 34 x) c = (ob_M g w c).set 34 (.int x) := by simp [ob_M, wI, upd]
def ay_slen : List Nat := [1, 1, 3, 3, 3]
def ay_sbyt : List (List Int32) := [[120], [112], [116, 114, 105], [114, 101, 118], [100, 101, 114]]
def ay_strs : List (String × Nat × String × Nat) := [("TriSplits$Reader", 119, "x", 0), ("TriSplits$Reader", 127, "p", 1), ("TriSplits$Reader", 129, "tri", 2), ("TriSplits$Reader", 134, "rev", 3), ("TriSplits$Reader", 140, "der", 4), ("TriSplitsModel", 381, "x", 0), ("TriSplitsModel", 386, "p", 1), ("TriSplitsModel", 388, "tri", 2), ("TriSplitsModel", 392, "rev", 3), ("TriSplitsModel", 397, "der", 4)]
end
section
/-- what stays of the start: classes, String constants, statics -/
def ay_Kn (g : ayG) (U : State) (H : Heap) : Prop := va_K g.2.1 ay_cl (ay_tys g) U ∧ vk_S 5 ay_slen ay_sbyt g.2.2.2.1 g.2.2.2.2 (ay_A g) U H ∧ va_Z "java/lang/String" "COMPACT_STRINGS" "Z" (.int 1) (ay_A g) U H ∧ va_Zq "jdk/internal/util/Preconditions" "SIOOBE_FORMATTER" "Ljava/util/function/BiFunction;" (ay_A g) U H ∧ (∀ q ∈ ay_strs, vk_R q.1 q.2.1 q.2.2.1 (g.2.2.2.1 q.2.2.2) U) ∧ g.1 ≤ H.size
theorem ay_Kn.go {g : ayG} {s U : State} {H : Heap} (h : ay_Kn g s s.heap) (hW : s.WarmedH U.vm) (hq : ∀ a : Nat, a < s.heap.size → ¬ ay_A g a → H[a]? = s.heap[a]?) (hz : s.heap.size ≤ H.size) : ay_Kn g U H := by
  obtain ⟨h1, h2, h3, h4, h5, h6⟩ := h
  exact ⟨va_K.moved hW.alike h1, vk_S.moved hW.alike (h2.kept hq), va_Z.moved hW.alike (h3.kept hq), va_Zq.moved hW.alike (h4.kept hq), fun q h => (h5 q h).warm hW, Nat.le_trans h6 hz⟩
theorem ay_Kn.call {g : ayG} {U V : State} (hv : V.vm = U.vm) (hh : V.heap = U.heap) (h : ay_Kn g U U.heap) : ay_Kn g V V.heap := by
  obtain ⟨h1, h2, h3, h4, h5, h6⟩ := h
  have ha : U.vm.Alike V.vm := by rw [hv]; exact Vm.Alike.refl U.vm
  rw [hh]
  exact ⟨va_K.moved ha h1, vk_S.moved ha h2, va_Z.moved ha h3, va_Zq.moved ha h4, fun q h => (h5 q h).same hv, h6⟩
def ay_rm (d : Nat) : Room := { frames := d, cells := 0, slots := 0, locals := 45 * d }
def ay_Cx (g : ayG) (X : State → Prop) (y : MethodName) (cc : ByteArray) (nL d : Nat) (p : Program) (R : Room) (s : State) (m : MethodId) (args : Array Value) (c : Code) (cells slots : Nat) : Prop :=
  p.tables.exec = Jvm.exec ∧ c.code = cc ∧ c.maxLocals = nL ∧ s.vm.findClass y.cls = some m.cls ∧ (∀ w ∈ ay_G, w.before args s = true) ∧ ay_Kn g s s.heap ∧ d ≤ R.frames ∧ 45 * d ≤ R.locals ∧ cells ≤ R.cells ∧ slots ≤ R.slots ∧ X s
def ay_Rt (cc : ByteArray) (ret : Option FieldType) (r : Option Value) (pc : Nat) : Prop :=
  (∃ (x : Int32) (ty : FieldType), r = some (.int x) ∧ ret = some ty ∧ narrow ty (.int x) = .int x ∧ decode cc pc = .ok (.ireturn, 1)) ∨ (∃ x : Int64, r = some (.long x) ∧ ret = some .long ∧ decode cc pc = .ok (.lreturn, 1)) ∨ (∃ (a : Nat) (n : String), r = some (.ref a) ∧ ret = some (.object n) ∧ decode cc pc = .ok (.areturn, 1)) ∨ (r = none ∧ ret = none ∧ decode cc pc = .ok (.return_, 1))
def ay_Fin (g : ayG) (cc : ByteArray) (ret : Option FieldType) (p : Program) (l : Launch) (e : Env) (R : Room) (s : State) (m : MethodId) (args : Array Value) (below : List Frame) (meth : Method) (c : Code) (cells slots : Nat) (Z : State → Prop) (Q : Option Value → Wd → Prop) : Prop :=
  ∀ (r : Option Value) (w : Wd) (H : Heap) (locs : List Loc) (pc : Nat) (ls : Array Slot), Q r w → ay_Rt cc ret r pc → va_P g.2.1 ay_cl (ay_W g w) H → va_S (ay_A g) s.heap H locs → W p l e R s m args below meth c H locs cells slots Z (F0 m pc ls r.toList)
/-- a place of a method: from here on it comes to its end with Q of its answer and of the world -/
def wp (g : ayG) (X : State → Prop) (y : MethodName) (cc : ByteArray) (nL : Nat) (ret : Option FieldType) (d pc : Nat) (l : List (Nat × Value)) (st : List Value) (w : Wd) (Q : Option Value → Wd → Prop) : Prop :=
  ∀ (p : Program) (lc : Launch) (e : Env) (R : Room) (s : State) (m : MethodId) (args : Array Value) (below : List Frame) (meth : Method) (c : Code) (H : Heap) (locs : List Loc) (cells slots : Nat) (Z : State → Prop) (ls : Array Slot),
    ay_Cx g X y cc nL d p R s m args c cells slots → va_P g.2.1 ay_cl (ay_W g w) H → va_S (ay_A g) s.heap H locs → lv_has ls nL l → ay_Fin g cc ret p lc e R s m args below meth c cells slots Z Q →
    W p lc e R s m args below meth c H locs cells slots Z (F0 m pc ls st)
def ay_Pre (g : ayG) (w : Wd) (U : State) : Prop := va_P g.2.1 ay_cl (ay_W g w) U.heap ∧ ay_Kn g U U.heap
def ay_Post (g : ayG) (Q : Option Value → Wd → Prop) : Array Value → State → Outcome → State → Prop := fun _ st oc t => (∃ (r : Option Value) (w : Wd), oc = .returned r ∧ Q r w ∧ va_P g.2.1 ay_cl (ay_W g w) t.heap) ∧ va_F (ay_A g) st t
/-- a call: the method, with d frames beside its own -/
def Call (g : ayG) (y : MethodName) (cc : ByteArray) (nL : Nat) (ret : Option FieldType) (d : Nat) (As : List Value) (w : Wd) (Q : Option Value → Wd → Prop) : Prop :=
  ∀ l : Launch, Met l y (Cond.code y cc nL ret :: ay_G) (ay_rm d) (va_Pc As (ay_Pre g w)) (ay_Post g Q) 0 0 (ay_A g)
section AM
variable {g : ayG} {X : State → Prop} {y : MethodName} {cc : ByteArray} {nL : Nat} {ret : Option FieldType} {d pc : Nat} {l : List (Nat × Value)} {st rest : List Value} {w : Wd} {Q : Option Value → Wd → Prop}
theorem am_post {Q' : Option Value → Wd → Prop} (h : ∀ r w, Q r w → Q' r w) (k : wp g X y cc nL ret d pc l st w Q) : wp g X y cc nL ret d pc l st w Q' :=
  fun p lc e R s m args below meth c H locs cells slots Z ls hc hP hS hl hf => k p lc e R s m args below meth c H locs cells slots Z ls hc hP hS hl (fun r w H locs pc ls hQ => hf r w H locs pc ls (h r w hQ))
theorem am_sub {l' : List (Nat × Value)} (ks : List Nat) (h : lv_pick l ks = l') (k : wp g X y cc nL ret d pc l' st w Q) : wp g X y cc nL ret d pc l st w Q :=
  fun p lc e R s m args below meth c H locs cells slots Z ls hc hP hS hl hf => k p lc e R s m args below meth c H locs cells slots Z ls hc hP hS (lv_sub hl ks h) hf
theorem am_iconst {n : Int} {v : Int32} (hd : decode cc pc = .ok (.iconst n, 1)) (hv : Int32.ofInt n = v) (k : wp g X y cc nL ret d (pc + 1) l (.int v :: st) w Q) : wp g X y cc nL ret d pc l (st) w Q := fun p lc e R s m args below meth c H locs cells slots Z ls hc hP hS hl hf => lv_iconst hc.1 hc.2.1 hd hv (k p lc e R s m args below meth c H locs cells slots Z ls hc hP hS hl hf)
theorem am_bipush {n : Int} {v : Int32} (hd : decode cc pc = .ok (.bipush n, 2)) (hv : (Int8.ofInt n).toInt32 = v) (k : wp g X y cc nL ret d (pc + 2) l (.int v :: st) w Q) : wp g X y cc nL ret d pc l (st) w Q := fun p lc e R s m args below meth c H locs cells slots Z ls hc hP hS hl hf => lv_bipush hc.1 hc.2.1 hd hv (k p lc e R s m args below meth c H locs cells slots Z ls hc hP hS hl hf)
theorem am_sipush {n : Int} {v : Int32} (hd : decode cc pc = .ok (.sipush n, 3)) (hv : (Int16.ofInt n).toInt32 = v) (k : wp g X y cc nL ret d (pc + 3) l (.int v :: st) w Q) : wp g X y cc nL ret d pc l (st) w Q := fun p lc e R s m args below meth c H locs cells slots Z ls hc hP hS hl hf => lv_sipush hc.1 hc.2.1 hd hv (k p lc e R s m args below meth c H locs cells slots Z ls hc hP hS hl hf)
theorem am_lconst {n : Fin 2} {v : Int64} (hd : decode cc pc = .ok (.lconst n, 1)) (hv : Int64.ofNat (n : Nat) = v) (k : wp g X y cc nL ret d (pc + 1) l (.long v :: st) w Q) : wp g X y cc nL ret d pc l (st) w Q := fun p lc e R s m args below meth c H locs cells slots Z ls hc hP hS hl hf => lv_lconst hc.1 hc.2.1 hd hv (k p lc e R s m args below meth c H locs cells slots Z ls hc hP hS hl hf)
theorem am_iload_n {k : Fin 4} {x : Int32} (hd : decode cc pc = .ok (.iload_n k, 1)) (j : Nat) (hj : l[j]? = some ((k : Nat), .int x)) (kk : wp g X y cc nL ret d (pc + 1) l (.int x :: st) w Q) : wp g X y cc nL ret d pc l (st) w Q := fun p lc e R s m args below meth c H locs cells slots Z ls hc hP hS hl hf => lv_iload_n hc.1 hc.2.1 hd rfl (lv_at hl j hj) (kk p lc e R s m args below meth c H locs cells slots Z ls hc hP hS hl hf)
theorem am_iload {i : Nat} {x : Int32} (hd : decode cc pc = .ok (.iload i, 2)) (j : Nat) (hj : l[j]? = some (i, .int x)) (kk : wp g X y cc nL ret d (pc + 2) l (.int x :: st) w Q) : wp g X y cc nL ret d pc l (st) w Q := fun p lc e R s m args below meth c H locs cells slots Z ls hc hP hS hl hf => lv_iload hc.1 hc.2.1 hd (lv_at hl j hj) (kk p lc e R s m args below meth c H locs cells slots Z ls hc hP hS hl hf)
theorem am_istore_n {k : Fin 4} {x : Int32} {l' : List (Nat × Value)} (hd : decode cc pc = .ok (.istore_n k, 1)) (hn : (k : Nat) < nL) (hl' : ((k : Nat), Value.int x) :: l.filter (fun q => !(q.1 == (k : Nat)) && !(q.1 + 1 == (k : Nat) && q.2.category == 2)) = l') (kk : wp g X y cc nL ret d (pc + 1) l' (st) w Q) : wp g X y cc nL ret d pc l (.int x :: st) w Q := fun p lc e R s m args below meth c H locs cells slots Z ls hc hP hS hl hf => lv_istore_n hc.1 hc.2.1 hd rfl hl hn hl' (fun ls hl => kk p lc e R s m args below meth c H locs cells slots Z ls hc hP hS hl hf)
theorem am_istore {i : Nat} {x : Int32} {l' : List (Nat × Value)} (hd : decode cc pc = .ok (.istore i, 2)) (hn : i < nL) (hl' : (i, Value.int x) :: l.filter (fun q => !(q.1 == i) && !(q.1 + 1 == i && q.2.category == 2)) = l') (kk : wp g X y cc nL ret d (pc + 2) l' (st) w Q) : wp g X y cc nL ret d pc l (.int x :: st) w Q := fun p lc e R s m args below meth c H locs cells slots Z ls hc hP hS hl hf => lv_istore hc.1 hc.2.1 hd hl hn hl' (fun ls hl => kk p lc e R s m args below meth c H locs cells slots Z ls hc hP hS hl hf)
theorem am_lload_n {k : Fin 4} {x : Int64} (hd : decode cc pc = .ok (.lload_n k, 1)) (j : Nat) (hj : l[j]? = some ((k : Nat), .long x)) (kk : wp g X y cc nL ret d (pc + 1) l (.long x :: st) w Q) : wp g X y cc nL ret d pc l (st) w Q := fun p lc e R s m args below meth c H locs cells slots Z ls hc hP hS hl hf => lv_lload_n hc.1 hc.2.1 hd rfl (lv_at hl j hj) (kk p lc e R s m args below meth c H locs cells slots Z ls hc hP hS hl hf)
theorem am_lload {i : Nat} {x : Int64} (hd : decode cc pc = .ok (.lload i, 2)) (j : Nat) (hj : l[j]? = some (i, .long x)) (kk : wp g X y cc nL ret d (pc + 2) l (.long x :: st) w Q) : wp g X y cc nL ret d pc l (st) w Q := fun p lc e R s m args below meth c H locs cells slots Z ls hc hP hS hl hf => lv_lload hc.1 hc.2.1 hd (lv_at hl j hj) (kk p lc e R s m args below meth c H locs cells slots Z ls hc hP hS hl hf)
theorem am_lstore_n {k : Fin 4} {x : Int64} {l' : List (Nat × Value)} (hd : decode cc pc = .ok (.lstore_n k, 1)) (hn : (k : Nat) + 1 < nL) (hl' : ((k : Nat), Value.long x) :: l.filter (fun q => !(q.1 == (k : Nat)) && (!(q.1 == (k : Nat) + 1) && !(q.1 + 1 == (k : Nat) && q.2.category == 2))) = l') (kk : wp g X y cc nL ret d (pc + 1) l' (st) w Q) : wp g X y cc nL ret d pc l (.long x :: st) w Q := fun p lc e R s m args below meth c H locs cells slots Z ls hc hP hS hl hf => lv_lstore_n hc.1 hc.2.1 hd rfl hl hn hl' (fun ls hl => kk p lc e R s m args below meth c H locs cells slots Z ls hc hP hS hl hf)
theorem am_lstore {i : Nat} {x : Int64} {l' : List (Nat × Value)} (hd : decode cc pc = .ok (.lstore i, 2)) (hn : i + 1 < nL) (hl' : (i, Value.long x) :: l.filter (fun q => !(q.1 == i) && (!(q.1 == i + 1) && !(q.1 + 1 == i && q.2.category == 2))) = l') (kk : wp g X y cc nL ret d (pc + 2) l' (st) w Q) : wp g X y cc nL ret d pc l (.long x :: st) w Q := fun p lc e R s m args below meth c H locs cells slots Z ls hc hP hS hl hf => lv_lstore hc.1 hc.2.1 hd hl hn hl' (fun ls hl => kk p lc e R s m args below meth c H locs cells slots Z ls hc hP hS hl hf)
theorem am_aload_n {k : Fin 4} {x : Nat} (hd : decode cc pc = .ok (.aload_n k, 1)) (j : Nat) (hj : l[j]? = some ((k : Nat), .ref x)) (kk : wp g X y cc nL ret d (pc + 1) l (.ref x :: st) w Q) : wp g X y cc nL ret d pc l (st) w Q := fun p lc e R s m args below meth c H locs cells slots Z ls hc hP hS hl hf => lv_aload_n hc.1 hc.2.1 hd rfl (lv_at hl j hj) (kk p lc e R s m args below meth c H locs cells slots Z ls hc hP hS hl hf)
theorem am_aload {i : Nat} {x : Nat} (hd : decode cc pc = .ok (.aload i, 2)) (j : Nat) (hj : l[j]? = some (i, .ref x)) (kk : wp g X y cc nL ret d (pc + 2) l (.ref x :: st) w Q) : wp g X y cc nL ret d pc l (st) w Q := fun p lc e R s m args below meth c H locs cells slots Z ls hc hP hS hl hf => lv_aload hc.1 hc.2.1 hd (lv_at hl j hj) (kk p lc e R s m args below meth c H locs cells slots Z ls hc hP hS hl hf)
theorem am_astore_n {k : Fin 4} {x : Nat} {l' : List (Nat × Value)} (hd : decode cc pc = .ok (.astore_n k, 1)) (hn : (k : Nat) < nL) (hl' : ((k : Nat), Value.ref x) :: l.filter (fun q => !(q.1 == (k : Nat)) && !(q.1 + 1 == (k : Nat) && q.2.category == 2)) = l') (kk : wp g X y cc nL ret d (pc + 1) l' (st) w Q) : wp g X y cc nL ret d pc l (.ref x :: st) w Q := fun p lc e R s m args below meth c H locs cells slots Z ls hc hP hS hl hf => lv_astore_n hc.1 hc.2.1 hd rfl hl hn hl' (fun ls hl => kk p lc e R s m args below meth c H locs cells slots Z ls hc hP hS hl hf)
theorem am_astore {i : Nat} {x : Nat} {l' : List (Nat × Value)} (hd : decode cc pc = .ok (.astore i, 2)) (hn : i < nL) (hl' : (i, Value.ref x) :: l.filter (fun q => !(q.1 == i) && !(q.1 + 1 == i && q.2.category == 2)) = l') (kk : wp g X y cc nL ret d (pc + 2) l' (st) w Q) : wp g X y cc nL ret d pc l (.ref x :: st) w Q := fun p lc e R s m args below meth c H locs cells slots Z ls hc hP hS hl hf => lv_astore hc.1 hc.2.1 hd hl hn hl' (fun ls hl => kk p lc e R s m args below meth c H locs cells slots Z ls hc hP hS hl hf)
theorem am_iinc {i : Nat} {n : Int} {x v : Int32} {l' : List (Nat × Value)} (hd : decode cc pc = .ok (.iinc i n, 3)) (j : Nat) (hj : l[j]? = some (i, .int x)) (hv : x + Int32.ofInt n = v) (hn : i < nL) (hl' : (i, Value.int v) :: l.filter (fun q => !(q.1 == i) && !(q.1 + 1 == i && q.2.category == 2)) = l') (kk : wp g X y cc nL ret d (pc + 3) l' (st) w Q) : wp g X y cc nL ret d pc l (st) w Q := fun p lc e R s m args below meth c H locs cells slots Z ls hc hP hS hl hf => lv_iinc hc.1 hc.2.1 hd hl hj hv hn hl' (fun ls hl => kk p lc e R s m args below meth c H locs cells slots Z ls hc hP hS hl hf)
theorem am_iadd {a b : Int32} (hd : decode cc pc = .ok (.iadd, 1)) (k : wp g X y cc nL ret d (pc + 1) l (.int (a + b) :: st) w Q) : wp g X y cc nL ret d pc l (.int b :: .int a :: st) w Q := fun p lc e R s m args below meth c H locs cells slots Z ls hc hP hS hl hf => lv_iadd hc.1 hc.2.1 hd (k p lc e R s m args below meth c H locs cells slots Z ls hc hP hS hl hf)
theorem am_isub {a b : Int32} (hd : decode cc pc = .ok (.isub, 1)) (k : wp g X y cc nL ret d (pc + 1) l (.int (a - b) :: st) w Q) : wp g X y cc nL ret d pc l (.int b :: .int a :: st) w Q := fun p lc e R s m args below meth c H locs cells slots Z ls hc hP hS hl hf => lv_isub hc.1 hc.2.1 hd (k p lc e R s m args below meth c H locs cells slots Z ls hc hP hS hl hf)
theorem am_imul {a b : Int32} (hd : decode cc pc = .ok (.imul, 1)) (k : wp g X y cc nL ret d (pc + 1) l (.int (a * b) :: st) w Q) : wp g X y cc nL ret d pc l (.int b :: .int a :: st) w Q := fun p lc e R s m args below meth c H locs cells slots Z ls hc hP hS hl hf => lv_imul hc.1 hc.2.1 hd (k p lc e R s m args below meth c H locs cells slots Z ls hc hP hS hl hf)
theorem am_iand {a b : Int32} (hd : decode cc pc = .ok (.iand, 1)) (k : wp g X y cc nL ret d (pc + 1) l (.int (a &&& b) :: st) w Q) : wp g X y cc nL ret d pc l (.int b :: .int a :: st) w Q := fun p lc e R s m args below meth c H locs cells slots Z ls hc hP hS hl hf => lv_iand hc.1 hc.2.1 hd (k p lc e R s m args below meth c H locs cells slots Z ls hc hP hS hl hf)
theorem am_ior {a b : Int32} (hd : decode cc pc = .ok (.ior, 1)) (k : wp g X y cc nL ret d (pc + 1) l (.int (a ||| b) :: st) w Q) : wp g X y cc nL ret d pc l (.int b :: .int a :: st) w Q := fun p lc e R s m args below meth c H locs cells slots Z ls hc hP hS hl hf => lv_ior hc.1 hc.2.1 hd (k p lc e R s m args below meth c H locs cells slots Z ls hc hP hS hl hf)
theorem am_ixor {a b : Int32} (hd : decode cc pc = .ok (.ixor, 1)) (k : wp g X y cc nL ret d (pc + 1) l (.int (a ^^^ b) :: st) w Q) : wp g X y cc nL ret d pc l (.int b :: .int a :: st) w Q := fun p lc e R s m args below meth c H locs cells slots Z ls hc hP hS hl hf => lv_ixor hc.1 hc.2.1 hd (k p lc e R s m args below meth c H locs cells slots Z ls hc hP hS hl hf)
theorem am_ladd {a b : Int64} (hd : decode cc pc = .ok (.ladd, 1)) (k : wp g X y cc nL ret d (pc + 1) l (.long (a + b) :: st) w Q) : wp g X y cc nL ret d pc l (.long b :: .long a :: st) w Q := fun p lc e R s m args below meth c H locs cells slots Z ls hc hP hS hl hf => lv_ladd hc.1 hc.2.1 hd (k p lc e R s m args below meth c H locs cells slots Z ls hc hP hS hl hf)
theorem am_lsub {a b : Int64} (hd : decode cc pc = .ok (.lsub, 1)) (k : wp g X y cc nL ret d (pc + 1) l (.long (a - b) :: st) w Q) : wp g X y cc nL ret d pc l (.long b :: .long a :: st) w Q := fun p lc e R s m args below meth c H locs cells slots Z ls hc hP hS hl hf => lv_lsub hc.1 hc.2.1 hd (k p lc e R s m args below meth c H locs cells slots Z ls hc hP hS hl hf)
theorem am_lmul {a b : Int64} (hd : decode cc pc = .ok (.lmul, 1)) (k : wp g X y cc nL ret d (pc + 1) l (.long (a * b) :: st) w Q) : wp g X y cc nL ret d pc l (.long b :: .long a :: st) w Q := fun p lc e R s m args below meth c H locs cells slots Z ls hc hP hS hl hf => lv_lmul hc.1 hc.2.1 hd (k p lc e R s m args below meth c H locs cells slots Z ls hc hP hS hl hf)
theorem am_land {a b : Int64} (hd : decode cc pc = .ok (.land, 1)) (k : wp g X y cc nL ret d (pc + 1) l (.long (a &&& b) :: st) w Q) : wp g X y cc nL ret d pc l (.long b :: .long a :: st) w Q := fun p lc e R s m args below meth c H locs cells slots Z ls hc hP hS hl hf => lv_land hc.1 hc.2.1 hd (k p lc e R s m args below meth c H locs cells slots Z ls hc hP hS hl hf)
theorem am_lor {a b : Int64} (hd : decode cc pc = .ok (.lor, 1)) (k : wp g X y cc nL ret d (pc + 1) l (.long (a ||| b) :: st) w Q) : wp g X y cc nL ret d pc l (.long b :: .long a :: st) w Q := fun p lc e R s m args below meth c H locs cells slots Z ls hc hP hS hl hf => lv_lor hc.1 hc.2.1 hd (k p lc e R s m args below meth c H locs cells slots Z ls hc hP hS hl hf)
theorem am_lxor {a b : Int64} (hd : decode cc pc = .ok (.lxor, 1)) (k : wp g X y cc nL ret d (pc + 1) l (.long (a ^^^ b) :: st) w Q) : wp g X y cc nL ret d pc l (.long b :: .long a :: st) w Q := fun p lc e R s m args below meth c H locs cells slots Z ls hc hP hS hl hf => lv_lxor hc.1 hc.2.1 hd (k p lc e R s m args below meth c H locs cells slots Z ls hc hP hS hl hf)
def irem (a b : Int32) : Int32 := a - a / b * b
def lrem (a b : Int64) : Int64 := a - a / b * b
theorem am_idiv {a b : Int32} (hd : decode cc pc = .ok (.idiv, 1)) (hz : ¬ b = 0) (k : wp g X y cc nL ret d (pc + 1) l (.int (a / b) :: st) w Q) : wp g X y cc nL ret d pc l (.int b :: .int a :: st) w Q := fun p lc e R s m args below meth c H locs cells slots Z ls hc hP hS hl hf => lv_idiv hc.1 hc.2.1 hd hz (k p lc e R s m args below meth c H locs cells slots Z ls hc hP hS hl hf)
theorem am_irem {a b : Int32} (hd : decode cc pc = .ok (.irem, 1)) (hz : ¬ b = 0) (k : wp g X y cc nL ret d (pc + 1) l (.int (irem a b) :: st) w Q) : wp g X y cc nL ret d pc l (.int b :: .int a :: st) w Q := fun p lc e R s m args below meth c H locs cells slots Z ls hc hP hS hl hf => lv_irem hc.1 hc.2.1 hd hz (k p lc e R s m args below meth c H locs cells slots Z ls hc hP hS hl hf)
theorem am_ldiv {a b : Int64} (hd : decode cc pc = .ok (.ldiv, 1)) (hz : ¬ b = 0) (k : wp g X y cc nL ret d (pc + 1) l (.long (a / b) :: st) w Q) : wp g X y cc nL ret d pc l (.long b :: .long a :: st) w Q := fun p lc e R s m args below meth c H locs cells slots Z ls hc hP hS hl hf => lv_ldiv hc.1 hc.2.1 hd hz (k p lc e R s m args below meth c H locs cells slots Z ls hc hP hS hl hf)
theorem am_lrem {a b : Int64} (hd : decode cc pc = .ok (.lrem, 1)) (hz : ¬ b = 0) (k : wp g X y cc nL ret d (pc + 1) l (.long (lrem a b) :: st) w Q) : wp g X y cc nL ret d pc l (.long b :: .long a :: st) w Q := fun p lc e R s m args below meth c H locs cells slots Z ls hc hP hS hl hf => lv_lrem hc.1 hc.2.1 hd hz (k p lc e R s m args below meth c H locs cells slots Z ls hc hP hS hl hf)
theorem am_ineg {a : Int32} (hd : decode cc pc = .ok (.ineg, 1)) (k : wp g X y cc nL ret d (pc + 1) l (.int (-a) :: st) w Q) : wp g X y cc nL ret d pc l (.int a :: st) w Q := fun p lc e R s m args below meth c H locs cells slots Z ls hc hP hS hl hf => lv_ineg hc.1 hc.2.1 hd (k p lc e R s m args below meth c H locs cells slots Z ls hc hP hS hl hf)
theorem am_lneg {a : Int64} (hd : decode cc pc = .ok (.lneg, 1)) (k : wp g X y cc nL ret d (pc + 1) l (.long (-a) :: st) w Q) : wp g X y cc nL ret d pc l (.long a :: st) w Q := fun p lc e R s m args below meth c H locs cells slots Z ls hc hP hS hl hf => lv_lneg hc.1 hc.2.1 hd (k p lc e R s m args below meth c H locs cells slots Z ls hc hP hS hl hf)
def ishl (a b : Int32) : Int32 := a <<< (b &&& 31)
def ishr (a b : Int32) : Int32 := a >>> (b &&& 31)
theorem am_ishl {a b : Int32} (hd : decode cc pc = .ok (.ishl, 1)) (k : wp g X y cc nL ret d (pc + 1) l (.int (ishl a b) :: st) w Q) : wp g X y cc nL ret d pc l (.int b :: .int a :: st) w Q := fun p lc e R s m args below meth c H locs cells slots Z ls hc hP hS hl hf => lv_ishl hc.1 hc.2.1 hd (k p lc e R s m args below meth c H locs cells slots Z ls hc hP hS hl hf)
theorem am_ishr {a b : Int32} (hd : decode cc pc = .ok (.ishr, 1)) (k : wp g X y cc nL ret d (pc + 1) l (.int (ishr a b) :: st) w Q) : wp g X y cc nL ret d pc l (.int b :: .int a :: st) w Q := fun p lc e R s m args below meth c H locs cells slots Z ls hc hP hS hl hf => lv_ishr hc.1 hc.2.1 hd (k p lc e R s m args below meth c H locs cells slots Z ls hc hP hS hl hf)
def iushr (a b : Int32) : Int32 := (a.toUInt32 >>> (b.toUInt32 &&& Int32.toUInt32 31)).toInt32
def lushr (a : Int64) (b : Int32) : Int64 := (a.toUInt64 >>> (b.toInt64.toUInt64 &&& Int64.toUInt64 63)).toInt64
def lshl (a : Int64) (b : Int32) : Int64 := a <<< (b.toInt64 &&& 63)
def lshr (a : Int64) (b : Int32) : Int64 := a >>> (b.toInt64 &&& 63)
theorem am_iushr {a b : Int32} (hd : decode cc pc = .ok (.iushr, 1)) (k : wp g X y cc nL ret d (pc + 1) l (.int (iushr a b) :: st) w Q) : wp g X y cc nL ret d pc l (.int b :: .int a :: st) w Q := fun p lc e R s m args below meth c H locs cells slots Z ls hc hP hS hl hf => lv_iushr hc.1 hc.2.1 hd rfl (k p lc e R s m args below meth c H locs cells slots Z ls hc hP hS hl hf)
theorem am_lushr {a : Int64} {b : Int32} (hd : decode cc pc = .ok (.lushr, 1)) (k : wp g X y cc nL ret d (pc + 1) l (.long (lushr a b) :: st) w Q) : wp g X y cc nL ret d pc l (.int b :: .long a :: st) w Q := fun p lc e R s m args below meth c H locs cells slots Z ls hc hP hS hl hf => lv_lushr hc.1 hc.2.1 hd rfl (k p lc e R s m args below meth c H locs cells slots Z ls hc hP hS hl hf)
theorem am_lshl {a : Int64} {b : Int32} (hd : decode cc pc = .ok (.lshl, 1)) (k : wp g X y cc nL ret d (pc + 1) l (.long (lshl a b) :: st) w Q) : wp g X y cc nL ret d pc l (.int b :: .long a :: st) w Q := fun p lc e R s m args below meth c H locs cells slots Z ls hc hP hS hl hf => lv_lshl hc.1 hc.2.1 hd rfl (k p lc e R s m args below meth c H locs cells slots Z ls hc hP hS hl hf)
theorem am_lshr {a : Int64} {b : Int32} (hd : decode cc pc = .ok (.lshr, 1)) (k : wp g X y cc nL ret d (pc + 1) l (.long (lshr a b) :: st) w Q) : wp g X y cc nL ret d pc l (.int b :: .long a :: st) w Q := fun p lc e R s m args below meth c H locs cells slots Z ls hc hP hS hl hf => lv_lshr hc.1 hc.2.1 hd rfl (k p lc e R s m args below meth c H locs cells slots Z ls hc hP hS hl hf)
theorem am_i2l {a : Int32} (hd : decode cc pc = .ok (.i2l, 1)) (k : wp g X y cc nL ret d (pc + 1) l (.long a.toInt64 :: st) w Q) : wp g X y cc nL ret d pc l (.int a :: st) w Q := fun p lc e R s m args below meth c H locs cells slots Z ls hc hP hS hl hf => lv_i2l hc.1 hc.2.1 hd rfl (k p lc e R s m args below meth c H locs cells slots Z ls hc hP hS hl hf)
theorem am_l2i {a : Int64} (hd : decode cc pc = .ok (.l2i, 1)) (k : wp g X y cc nL ret d (pc + 1) l (.int a.toInt32 :: st) w Q) : wp g X y cc nL ret d pc l (.long a :: st) w Q := fun p lc e R s m args below meth c H locs cells slots Z ls hc hP hS hl hf => lv_l2i hc.1 hc.2.1 hd rfl (k p lc e R s m args below meth c H locs cells slots Z ls hc hP hS hl hf)
theorem am_i2b {a : Int32} (hd : decode cc pc = .ok (.i2b, 1)) (k : wp g X y cc nL ret d (pc + 1) l (.int a.toInt8.toInt32 :: st) w Q) : wp g X y cc nL ret d pc l (.int a :: st) w Q := fun p lc e R s m args below meth c H locs cells slots Z ls hc hP hS hl hf => lv_i2b hc.1 hc.2.1 hd rfl (k p lc e R s m args below meth c H locs cells slots Z ls hc hP hS hl hf)
theorem am_i2c {a : Int32} (hd : decode cc pc = .ok (.i2c, 1)) (k : wp g X y cc nL ret d (pc + 1) l (.int (a.toUInt32 % 65536).toInt32 :: st) w Q) : wp g X y cc nL ret d pc l (.int a :: st) w Q := fun p lc e R s m args below meth c H locs cells slots Z ls hc hP hS hl hf => lv_i2c hc.1 hc.2.1 hd rfl (k p lc e R s m args below meth c H locs cells slots Z ls hc hP hS hl hf)
theorem am_dup {v : Value} (hd : decode cc pc = .ok (.dup, 1)) (hv : v.category = 1) (k : wp g X y cc nL ret d (pc + 1) l (v :: v :: st) w Q) : wp g X y cc nL ret d pc l (v :: st) w Q := fun p lc e R s m args below meth c H locs cells slots Z ls hc hP hS hl hf => lv_dup hc.1 hc.2.1 hd hv (k p lc e R s m args below meth c H locs cells slots Z ls hc hP hS hl hf)
theorem am_pop {v : Value} (hd : decode cc pc = .ok (.pop, 1)) (hv : v.category = 1) (k : wp g X y cc nL ret d (pc + 1) l (st) w Q) : wp g X y cc nL ret d pc l (v :: st) w Q := fun p lc e R s m args below meth c H locs cells slots Z ls hc hP hS hl hf => lv_pop hc.1 hc.2.1 hd hv (k p lc e R s m args below meth c H locs cells slots Z ls hc hP hS hl hf)
theorem am_dup2_2 {v : Value} (hd : decode cc pc = .ok (.dup2, 1)) (hv : v.category = 2) (k : wp g X y cc nL ret d (pc + 1) l (v :: v :: st) w Q) : wp g X y cc nL ret d pc l (v :: st) w Q := fun p lc e R s m args below meth c H locs cells slots Z ls hc hP hS hl hf => lv_dup2_2 hc.1 hc.2.1 hd hv (k p lc e R s m args below meth c H locs cells slots Z ls hc hP hS hl hf)
theorem am_dup2_11 {v u : Value} (hd : decode cc pc = .ok (.dup2, 1)) (hv : v.category = 1) (hu : u.category = 1) (k : wp g X y cc nL ret d (pc + 1) l (v :: u :: v :: u :: st) w Q) : wp g X y cc nL ret d pc l (v :: u :: st) w Q := fun p lc e R s m args below meth c H locs cells slots Z ls hc hP hS hl hf => lv_dup2_11 hc.1 hc.2.1 hd hv hu (k p lc e R s m args below meth c H locs cells slots Z ls hc hP hS hl hf)
theorem am_pop2_2 {v : Value} (hd : decode cc pc = .ok (.pop2, 1)) (hv : v.category = 2) (k : wp g X y cc nL ret d (pc + 1) l (st) w Q) : wp g X y cc nL ret d pc l (v :: st) w Q := fun p lc e R s m args below meth c H locs cells slots Z ls hc hP hS hl hf => lv_pop2_2 hc.1 hc.2.1 hd hv (k p lc e R s m args below meth c H locs cells slots Z ls hc hP hS hl hf)
theorem am_ldc2 {i : Nat} {v : Int64} (hd : decode cc pc = .ok (.ldc2_w i, 3)) (hw : Cond.constantLong y.cls i v ∈ ay_G) (k : wp g X y cc nL ret d (pc + 3) l (.long v :: st) w Q) : wp g X y cc nL ret d pc l (st) w Q := fun p lc e R s m args below meth c H locs cells slots Z ls hc hP hS hl hf => lv_ldc2 hc.1 hc.2.1 hc.2.2.2.1 (hc.2.2.2.2.1 _ hw) hd (k p lc e R s m args below meth c H locs cells slots Z ls hc hP hS hl hf)
theorem am_ldc {i : Nat} {v : Int32} (hd : decode cc pc = .ok (.ldc i, 2)) (hw : Cond.constant y.cls i v ∈ ay_G) (k : wp g X y cc nL ret d (pc + 2) l (.int v :: st) w Q) : wp g X y cc nL ret d pc l (st) w Q := fun p lc e R s m args below meth c H locs cells slots Z ls hc hP hS hl hf => lv_ldc hc.1 hc.2.1 hc.2.2.2.1 (hc.2.2.2.2.1 _ hw) hd (k p lc e R s m args below meth c H locs cells slots Z ls hc hP hS hl hf)
theorem am_ldcw {i : Nat} {v : Int32} (hd : decode cc pc = .ok (.ldc_w i, 3)) (hw : Cond.constant y.cls i v ∈ ay_G) (k : wp g X y cc nL ret d (pc + 3) l (.int v :: st) w Q) : wp g X y cc nL ret d pc l (st) w Q := fun p lc e R s m args below meth c H locs cells slots Z ls hc hP hS hl hf => lv_ldcw hc.1 hc.2.1 hc.2.2.2.1 (hc.2.2.2.2.1 _ hw) hd (k p lc e R s m args below meth c H locs cells slots Z ls hc hP hS hl hf)
theorem am_lcmp {a b : Int64} (hd : decode cc pc = .ok (.lcmp, 1)) (k : wp g X y cc nL ret d (pc + 1) l (.int (lg_cmp a b) :: st) w Q) : wp g X y cc nL ret d pc l (.long b :: .long a :: st) w Q := fun p lc e R s m args below meth c H locs cells slots Z ls hc hP hS hl hf => W.lcmp hc.1 hc.2.1 hd (k p lc e R s m args below meth c H locs cells slots Z ls hc hP hS hl hf)
theorem am_if_eq {a : Int32} {off : Int} {tgt : Nat} (hd : decode cc pc = .ok (.ifCond .eq off, 3)) (ht : (pc : Int) + off = (tgt : Int)) (kt : a = 0 → wp g X y cc nL ret d tgt l (st) w Q) (kf : ¬ a = 0 → wp g X y cc nL ret d (pc + 3) l (st) w Q) : wp g X y cc nL ret d pc l (.int a :: st) w Q := fun p lc e R s m args below meth c H locs cells slots Z ls hc hP hS hl hf => lv_if_eq hc.1 hc.2.1 hd ht (fun h => kt h p lc e R s m args below meth c H locs cells slots Z ls hc hP hS hl hf) (fun h => kf h p lc e R s m args below meth c H locs cells slots Z ls hc hP hS hl hf)
theorem am_lif_eq {a b : Int64} {off : Int} {tgt : Nat} (hd : decode cc pc = .ok (.lcmp, 1)) (hd2 : decode cc (pc + 1) = .ok (.ifCond .eq off, 3)) (ht : ((pc + 1 : Nat) : Int) + off = (tgt : Int)) (kt : a = b → wp g X y cc nL ret d tgt l (st) w Q) (kf : ¬ a = b → wp g X y cc nL ret d (pc + 1 + 3) l (st) w Q) : wp g X y cc nL ret d pc l (.long b :: .long a :: st) w Q := by
  refine am_lcmp hd (am_if_eq hd2 ht (fun h => kt ?_) (fun h => kf ?_))
  · first | exact (lg_cmp_eq a b).mp h | exact fun z => h ((lg_cmp_eq a b).mpr z) | (simpa [lg_cmp_eq] using h)
  · first | exact (lg_cmp_eq a b).mp h | exact fun z => h ((lg_cmp_eq a b).mpr z) | (simpa [lg_cmp_eq] using h)
theorem am_icmp_eq {a b : Int32} {off : Int} {tgt : Nat} (hd : decode cc pc = .ok (.if_icmp .eq off, 3)) (ht : (pc : Int) + off = (tgt : Int)) (kt : a = b → wp g X y cc nL ret d tgt l (st) w Q) (kf : ¬ a = b → wp g X y cc nL ret d (pc + 3) l (st) w Q) : wp g X y cc nL ret d pc l (.int b :: .int a :: st) w Q := fun p lc e R s m args below meth c H locs cells slots Z ls hc hP hS hl hf => lv_icmp_eq hc.1 hc.2.1 hd ht (fun h => kt h p lc e R s m args below meth c H locs cells slots Z ls hc hP hS hl hf) (fun h => kf h p lc e R s m args below meth c H locs cells slots Z ls hc hP hS hl hf)
theorem am_if_ne {a : Int32} {off : Int} {tgt : Nat} (hd : decode cc pc = .ok (.ifCond .ne off, 3)) (ht : (pc : Int) + off = (tgt : Int)) (kt : ¬ a = 0 → wp g X y cc nL ret d tgt l (st) w Q) (kf : a = 0 → wp g X y cc nL ret d (pc + 3) l (st) w Q) : wp g X y cc nL ret d pc l (.int a :: st) w Q := fun p lc e R s m args below meth c H locs cells slots Z ls hc hP hS hl hf => lv_if_ne hc.1 hc.2.1 hd ht (fun h => kt h p lc e R s m args below meth c H locs cells slots Z ls hc hP hS hl hf) (fun h => kf h p lc e R s m args below meth c H locs cells slots Z ls hc hP hS hl hf)
theorem am_lif_ne {a b : Int64} {off : Int} {tgt : Nat} (hd : decode cc pc = .ok (.lcmp, 1)) (hd2 : decode cc (pc + 1) = .ok (.ifCond .ne off, 3)) (ht : ((pc + 1 : Nat) : Int) + off = (tgt : Int)) (kt : ¬ a = b → wp g X y cc nL ret d tgt l (st) w Q) (kf : a = b → wp g X y cc nL ret d (pc + 1 + 3) l (st) w Q) : wp g X y cc nL ret d pc l (.long b :: .long a :: st) w Q := by
  refine am_lcmp hd (am_if_ne hd2 ht (fun h => kt ?_) (fun h => kf ?_))
  · first | exact (lg_cmp_eq a b).mp h | exact fun z => h ((lg_cmp_eq a b).mpr z) | (simpa [lg_cmp_eq] using h)
  · first | exact (lg_cmp_eq a b).mp h | exact fun z => h ((lg_cmp_eq a b).mpr z) | (simpa [lg_cmp_eq] using h)
theorem am_icmp_ne {a b : Int32} {off : Int} {tgt : Nat} (hd : decode cc pc = .ok (.if_icmp .ne off, 3)) (ht : (pc : Int) + off = (tgt : Int)) (kt : ¬ a = b → wp g X y cc nL ret d tgt l (st) w Q) (kf : a = b → wp g X y cc nL ret d (pc + 3) l (st) w Q) : wp g X y cc nL ret d pc l (.int b :: .int a :: st) w Q := fun p lc e R s m args below meth c H locs cells slots Z ls hc hP hS hl hf => lv_icmp_ne hc.1 hc.2.1 hd ht (fun h => kt h p lc e R s m args below meth c H locs cells slots Z ls hc hP hS hl hf) (fun h => kf h p lc e R s m args below meth c H locs cells slots Z ls hc hP hS hl hf)
theorem am_if_lt {a : Int32} {off : Int} {tgt : Nat} (hd : decode cc pc = .ok (.ifCond .lt off, 3)) (ht : (pc : Int) + off = (tgt : Int)) (kt : a < 0 → wp g X y cc nL ret d tgt l (st) w Q) (kf : ¬ a < 0 → wp g X y cc nL ret d (pc + 3) l (st) w Q) : wp g X y cc nL ret d pc l (.int a :: st) w Q := fun p lc e R s m args below meth c H locs cells slots Z ls hc hP hS hl hf => lv_if_lt hc.1 hc.2.1 hd ht (fun h => kt h p lc e R s m args below meth c H locs cells slots Z ls hc hP hS hl hf) (fun h => kf h p lc e R s m args below meth c H locs cells slots Z ls hc hP hS hl hf)
theorem am_lif_lt {a b : Int64} {off : Int} {tgt : Nat} (hd : decode cc pc = .ok (.lcmp, 1)) (hd2 : decode cc (pc + 1) = .ok (.ifCond .lt off, 3)) (ht : ((pc + 1 : Nat) : Int) + off = (tgt : Int)) (kt : a < b → wp g X y cc nL ret d tgt l (st) w Q) (kf : ¬ a < b → wp g X y cc nL ret d (pc + 1 + 3) l (st) w Q) : wp g X y cc nL ret d pc l (.long b :: .long a :: st) w Q := by
  refine am_lcmp hd (am_if_lt hd2 ht (fun h => kt ?_) (fun h => kf ?_))
  · first | exact (lg_cmp_lt a b).mp h | exact fun z => h ((lg_cmp_lt a b).mpr z) | (simpa [lg_cmp_lt] using h)
  · first | exact (lg_cmp_lt a b).mp h | exact fun z => h ((lg_cmp_lt a b).mpr z) | (simpa [lg_cmp_lt] using h)
theorem am_icmp_lt {a b : Int32} {off : Int} {tgt : Nat} (hd : decode cc pc = .ok (.if_icmp .lt off, 3)) (ht : (pc : Int) + off = (tgt : Int)) (kt : a < b → wp g X y cc nL ret d tgt l (st) w Q) (kf : ¬ a < b → wp g X y cc nL ret d (pc + 3) l (st) w Q) : wp g X y cc nL ret d pc l (.int b :: .int a :: st) w Q := fun p lc e R s m args below meth c H locs cells slots Z ls hc hP hS hl hf => lv_icmp_lt hc.1 hc.2.1 hd ht (fun h => kt h p lc e R s m args below meth c H locs cells slots Z ls hc hP hS hl hf) (fun h => kf h p lc e R s m args below meth c H locs cells slots Z ls hc hP hS hl hf)
theorem am_if_ge {a : Int32} {off : Int} {tgt : Nat} (hd : decode cc pc = .ok (.ifCond .ge off, 3)) (ht : (pc : Int) + off = (tgt : Int)) (kt : 0 ≤ a → wp g X y cc nL ret d tgt l (st) w Q) (kf : ¬ 0 ≤ a → wp g X y cc nL ret d (pc + 3) l (st) w Q) : wp g X y cc nL ret d pc l (.int a :: st) w Q := fun p lc e R s m args below meth c H locs cells slots Z ls hc hP hS hl hf => lv_if_ge hc.1 hc.2.1 hd ht (fun h => kt h p lc e R s m args below meth c H locs cells slots Z ls hc hP hS hl hf) (fun h => kf h p lc e R s m args below meth c H locs cells slots Z ls hc hP hS hl hf)
theorem am_lif_ge {a b : Int64} {off : Int} {tgt : Nat} (hd : decode cc pc = .ok (.lcmp, 1)) (hd2 : decode cc (pc + 1) = .ok (.ifCond .ge off, 3)) (ht : ((pc + 1 : Nat) : Int) + off = (tgt : Int)) (kt : b ≤ a → wp g X y cc nL ret d tgt l (st) w Q) (kf : ¬ b ≤ a → wp g X y cc nL ret d (pc + 1 + 3) l (st) w Q) : wp g X y cc nL ret d pc l (.long b :: .long a :: st) w Q := by
  refine am_lcmp hd (am_if_ge hd2 ht (fun h => kt ?_) (fun h => kf ?_))
  · first | exact (lg_cmp_ge a b).mp h | exact fun z => h ((lg_cmp_ge a b).mpr z) | (simpa [lg_cmp_ge] using h)
  · first | exact (lg_cmp_ge a b).mp h | exact fun z => h ((lg_cmp_ge a b).mpr z) | (simpa [lg_cmp_ge] using h)
theorem am_icmp_ge {a b : Int32} {off : Int} {tgt : Nat} (hd : decode cc pc = .ok (.if_icmp .ge off, 3)) (ht : (pc : Int) + off = (tgt : Int)) (kt : b ≤ a → wp g X y cc nL ret d tgt l (st) w Q) (kf : ¬ b ≤ a → wp g X y cc nL ret d (pc + 3) l (st) w Q) : wp g X y cc nL ret d pc l (.int b :: .int a :: st) w Q := fun p lc e R s m args below meth c H locs cells slots Z ls hc hP hS hl hf => lv_icmp_ge hc.1 hc.2.1 hd ht (fun h => kt h p lc e R s m args below meth c H locs cells slots Z ls hc hP hS hl hf) (fun h => kf h p lc e R s m args below meth c H locs cells slots Z ls hc hP hS hl hf)
theorem am_if_gt {a : Int32} {off : Int} {tgt : Nat} (hd : decode cc pc = .ok (.ifCond .gt off, 3)) (ht : (pc : Int) + off = (tgt : Int)) (kt : 0 < a → wp g X y cc nL ret d tgt l (st) w Q) (kf : ¬ 0 < a → wp g X y cc nL ret d (pc + 3) l (st) w Q) : wp g X y cc nL ret d pc l (.int a :: st) w Q := fun p lc e R s m args below meth c H locs cells slots Z ls hc hP hS hl hf => lv_if_gt hc.1 hc.2.1 hd ht (fun h => kt h p lc e R s m args below meth c H locs cells slots Z ls hc hP hS hl hf) (fun h => kf h p lc e R s m args below meth c H locs cells slots Z ls hc hP hS hl hf)
theorem am_lif_gt {a b : Int64} {off : Int} {tgt : Nat} (hd : decode cc pc = .ok (.lcmp, 1)) (hd2 : decode cc (pc + 1) = .ok (.ifCond .gt off, 3)) (ht : ((pc + 1 : Nat) : Int) + off = (tgt : Int)) (kt : b < a → wp g X y cc nL ret d tgt l (st) w Q) (kf : ¬ b < a → wp g X y cc nL ret d (pc + 1 + 3) l (st) w Q) : wp g X y cc nL ret d pc l (.long b :: .long a :: st) w Q := by
  refine am_lcmp hd (am_if_gt hd2 ht (fun h => kt ?_) (fun h => kf ?_))
  · first | exact (lg_cmp_gt a b).mp h | exact fun z => h ((lg_cmp_gt a b).mpr z) | (simpa [lg_cmp_gt] using h)
  · first | exact (lg_cmp_gt a b).mp h | exact fun z => h ((lg_cmp_gt a b).mpr z) | (simpa [lg_cmp_gt] using h)
theorem am_icmp_gt {a b : Int32} {off : Int} {tgt : Nat} (hd : decode cc pc = .ok (.if_icmp .gt off, 3)) (ht : (pc : Int) + off = (tgt : Int)) (kt : b < a → wp g X y cc nL ret d tgt l (st) w Q) (kf : ¬ b < a → wp g X y cc nL ret d (pc + 3) l (st) w Q) : wp g X y cc nL ret d pc l (.int b :: .int a :: st) w Q := fun p lc e R s m args below meth c H locs cells slots Z ls hc hP hS hl hf => lv_icmp_gt hc.1 hc.2.1 hd ht (fun h => kt h p lc e R s m args below meth c H locs cells slots Z ls hc hP hS hl hf) (fun h => kf h p lc e R s m args below meth c H locs cells slots Z ls hc hP hS hl hf)
theorem am_if_le {a : Int32} {off : Int} {tgt : Nat} (hd : decode cc pc = .ok (.ifCond .le off, 3)) (ht : (pc : Int) + off = (tgt : Int)) (kt : a ≤ 0 → wp g X y cc nL ret d tgt l (st) w Q) (kf : ¬ a ≤ 0 → wp g X y cc nL ret d (pc + 3) l (st) w Q) : wp g X y cc nL ret d pc l (.int a :: st) w Q := fun p lc e R s m args below meth c H locs cells slots Z ls hc hP hS hl hf => lv_if_le hc.1 hc.2.1 hd ht (fun h => kt h p lc e R s m args below meth c H locs cells slots Z ls hc hP hS hl hf) (fun h => kf h p lc e R s m args below meth c H locs cells slots Z ls hc hP hS hl hf)
theorem am_lif_le {a b : Int64} {off : Int} {tgt : Nat} (hd : decode cc pc = .ok (.lcmp, 1)) (hd2 : decode cc (pc + 1) = .ok (.ifCond .le off, 3)) (ht : ((pc + 1 : Nat) : Int) + off = (tgt : Int)) (kt : a ≤ b → wp g X y cc nL ret d tgt l (st) w Q) (kf : ¬ a ≤ b → wp g X y cc nL ret d (pc + 1 + 3) l (st) w Q) : wp g X y cc nL ret d pc l (.long b :: .long a :: st) w Q := by
  refine am_lcmp hd (am_if_le hd2 ht (fun h => kt ?_) (fun h => kf ?_))
  · first | exact (lg_cmp_le a b).mp h | exact fun z => h ((lg_cmp_le a b).mpr z) | (simpa [lg_cmp_le] using h)
  · first | exact (lg_cmp_le a b).mp h | exact fun z => h ((lg_cmp_le a b).mpr z) | (simpa [lg_cmp_le] using h)
theorem am_icmp_le {a b : Int32} {off : Int} {tgt : Nat} (hd : decode cc pc = .ok (.if_icmp .le off, 3)) (ht : (pc : Int) + off = (tgt : Int)) (kt : a ≤ b → wp g X y cc nL ret d tgt l (st) w Q) (kf : ¬ a ≤ b → wp g X y cc nL ret d (pc + 3) l (st) w Q) : wp g X y cc nL ret d pc l (.int b :: .int a :: st) w Q := fun p lc e R s m args below meth c H locs cells slots Z ls hc hP hS hl hf => lv_icmp_le hc.1 hc.2.1 hd ht (fun h => kt h p lc e R s m args below meth c H locs cells slots Z ls hc hP hS hl hf) (fun h => kf h p lc e R s m args below meth c H locs cells slots Z ls hc hP hS hl hf)
theorem am_goto {off : Int} {tgt : Nat} (hd : decode cc pc = .ok (.goto off, 3)) (ht : (pc : Int) + off = (tgt : Int)) (k : wp g X y cc nL ret d tgt l (st) w Q) : wp g X y cc nL ret d pc l (st) w Q := fun p lc e R s m args below meth c H locs cells slots Z ls hc hP hS hl hf => lv_goto hc.1 hc.2.1 hd ht (k p lc e R s m args below meth c H locs cells slots Z ls hc hP hS hl hf)
theorem am_ifnull {off : Int} {a : Nat} (hd : decode cc pc = .ok (.ifnull off, 3)) (k : wp g X y cc nL ret d (pc + 3) l (st) w Q) : wp g X y cc nL ret d pc l (.ref a :: st) w Q := fun p lc e R s m args below meth c H locs cells slots Z ls hc hP hS hl hf => lv_ifnull hc.1 hc.2.1 hd (k p lc e R s m args below meth c H locs cells slots Z ls hc hP hS hl hf)
theorem am_switch {dflt lo hi : Int} {offs : Array Int} {len : Nat} {x : Int32} (hd : decode cc pc = .ok (.tableswitch dflt lo hi offs, len)) (hn : offs.size = (hi - lo + 1).toNat)
    (kd : ∀ tgt : Nat, (pc : Int) + dflt = (tgt : Int) → (x.toInt < lo ∨ hi < x.toInt) → wp g X y cc nL ret d tgt l (st) w Q) (hdf : ∃ tgt : Nat, (pc : Int) + dflt = (tgt : Int))
    (kc : ∀ (i : Nat) (off : Int), offs[i]? = some off → x.toInt = lo + i → ∃ tgt : Nat, (pc : Int) + off = (tgt : Int) ∧ wp g X y cc nL ret d tgt l (st) w Q) : wp g X y cc nL ret d pc l (.int x :: st) w Q := by
  intro p lc e R s m args below meth c H locs cells slots Z ls hc hP hS hl hf
  by_cases h : x.toInt < lo ∨ hi < x.toInt
  · obtain ⟨tgt, ht⟩ := hdf
    exact lv_tableOut hc.1 hc.2.1 hd h ht (kd tgt ht h p lc e R s m args below meth c H locs cells slots Z ls hc hP hS hl hf)
  · have h1 : ¬ x.toInt < lo := fun z => h (Or.inl z)
    have h2 : ¬ hi < x.toInt := fun z => h (Or.inr z)
    have h3 : (x.toInt - lo).toNat < offs.size := by omega
    obtain ⟨tgt, ht, k⟩ := kc (x.toInt - lo).toNat offs[(x.toInt - lo).toNat] (Array.getElem?_eq_getElem h3) (by omega)
    exact lv_tableIn hc.1 hc.2.1 hd h1 h2 (Array.getElem?_eq_getElem h3) ht (k p lc e R s m args below meth c H locs cells slots Z ls hc hP hS hl hf)
theorem am_getf {ref C : String} {T : u_T} {N ci a i : Nat} {fs : List Value} {v : Value} (k : Nat) (hd : decode cc pc = .ok (.getfield i, 3)) (hw : Cond.fieldLink y.cls i ref (T k).2.1 (T k).2.2.1 ∈ ay_G) (hr : ref = (T k).1) (ha : a < 47) (he : ay_el g w a = .inr (ci, fs)) (hci : ay_cl[ci]? = some (C, T, N)) (hin : ∀ w ∈ u_ws C T N, w ∈ ay_G) (hk : k < N) (hv : fs[k]? = some v) (kk : wp g X y cc nL ret d (pc + 3) l (v :: st) w Q) : wp g X y cc nL ret d pc l (.ref (g.1 + a) :: st) w Q := by
  subst hr
  intro p lc e R s m args below meth c H locs cells slots Z ls hc hP hS hl hf
  exact va_get (Ts := ay_G) (ref := (T k).1) hc.1 hc.2.1 hc.2.2.2.2.1 hin hc.2.2.2.1 hc.2.2.2.2.2.1.1 hP a ((ay_Wat ha).trans (by rw [he])) hci k hk (hc.2.2.2.2.1 _ hw) (fun _ h => h) hv hd (kk p lc e R s m args below meth c H locs cells slots Z ls hc hP hS hl hf)
theorem am_putf {ref C : String} {T : u_T} {N ci a i : Nat} {fs : List Value} {v : Value} {w' : Wd} {ty : FieldType} (k : Nat) (hd : decode cc pc = .ok (.putfield i, 3)) (hw : Cond.fieldLink y.cls i ref (T k).2.1 (T k).2.2.1 ∈ ay_G) (hr : ref = (T k).1) (ha : a < 47) (he : ay_el g w a = .inr (ci, fs)) (hci : ay_cl[ci]? = some (C, T, N)) (hin : ∀ w ∈ u_ws C T N, w ∈ ay_G) (hk : k < N) (ty0 : Nat → FieldType) (hty : ∀ k, k < N → parseFieldDescriptor (T k).2.2.1 = some (ty0 k)) (hnm : ∀ a, a < N → ∀ b, b < N → a ≠ b → (T a).2.1 ≠ (T b).2.1) (hfin : (T k).2.2.2 = false) (hpd : parseFieldDescriptor (T k).2.2.1 = some ty) (hnr : narrow ty v = v) (hft : fits ty v = true) (hlt : k < fs.length) (he2 : ay_el g w' a = .inr (ci, fs.set k v)) (ho : ∀ k, k ≠ a → w'.1 k = w.1 k ∧ w'.2 k = w.2 k) (kk : wp g X y cc nL ret d (pc + 3) l (st) w' Q) : wp g X y cc nL ret d pc l (v :: .ref (g.1 + a) :: st) w Q := by
  subst hr
  intro p lc e R s m args below meth c H locs cells slots Z ls hc hP hS hl hf
  refine va_put (Ts := ay_G) (ref := (T k).1) (D := g.2.1) (cl := ay_cl) (tys := ay_tys g) (A := ay_A g) hc.1 hc.2.1 hc.2.2.2.2.1 hin ty0 hty hnm hc.2.2.2.1 hc.2.2.2.2.2.1.1 hP ay_WD hS a ((ay_Wat ha).trans (by rw [he])) hci k hk (hc.2.2.2.2.1 _ hw) (fun _ h => h) hfin hpd hnr hft hlt hd (fun H1 locs1 hP1 hD1 hS1 => ?_)
  rw [← he2, ay_Wset ha ho] at hP1
  exact kk p lc e R s m args below meth c H1 locs1 cells slots Z ls hc hP1 hS1 hl hf
theorem am_laload {a n : Nat} {i : Int32} (hd : decode cc pc = .ok (.laload, 1)) (hs : ay_sh a = (0, n)) (hi : vp_in i n) (k : wp g X y cc nL ret d (pc + 1) l (.long (w.2 a i.toNatClampNeg) :: st) w Q) : wp g X y cc nL ret d pc l (.int i :: .ref (g.1 + a) :: st) w Q := fun p lc e R s m args below meth c H locs cells slots Z ls hc hP hS hl hf => va_lald hc.1 hc.2.1 hc.2.2.2.2.2.1.1 hP a 0 ((ay_Wat (ay_shlt hs (by decide))).trans (by rw [el_J hs])) rfl hi hd (k p lc e R s m args below meth c H locs cells slots Z ls hc hP hS hl hf)
theorem am_iaload {a n : Nat} {i : Int32} (hd : decode cc pc = .ok (.iaload, 1)) (hs : ay_sh a = (1, n)) (hi : vp_in i n) (k : wp g X y cc nL ret d (pc + 1) l (.int (w.1 a i.toNatClampNeg) :: st) w Q) : wp g X y cc nL ret d pc l (.int i :: .ref (g.1 + a) :: st) w Q := fun p lc e R s m args below meth c H locs cells slots Z ls hc hP hS hl hf => va_iald hc.1 hc.2.1 hc.2.2.2.2.2.1.1 hP a 1 ((ay_Wat (ay_shlt hs (by decide))).trans (by rw [el_I hs])) rfl hi hd (k p lc e R s m args below meth c H locs cells slots Z ls hc hP hS hl hf)
theorem am_baload {a n : Nat} {i : Int32} (hd : decode cc pc = .ok (.baload, 1)) (hs : ay_sh a = (2, n)) (hi : vp_in i n) (k : wp g X y cc nL ret d (pc + 1) l (.int (w.1 a i.toNatClampNeg) :: st) w Q) : wp g X y cc nL ret d pc l (.int i :: .ref (g.1 + a) :: st) w Q := fun p lc e R s m args below meth c H locs cells slots Z ls hc hP hS hl hf => va_bald hc.1 hc.2.1 hc.2.2.2.2.2.1.1 hP a 2 ((ay_Wat (ay_shlt hs (by decide))).trans (by rw [el_B hs])) rfl hi hd (k p lc e R s m args below meth c H locs cells slots Z ls hc hP hS hl hf)
theorem am_zaload {a n : Nat} {i : Int32} (hd : decode cc pc = .ok (.baload, 1)) (hs : ay_sh a = (3, n)) (hi : vp_in i n) (k : wp g X y cc nL ret d (pc + 1) l (.int (w.1 a i.toNatClampNeg) :: st) w Q) : wp g X y cc nL ret d pc l (.int i :: .ref (g.1 + a) :: st) w Q := fun p lc e R s m args below meth c H locs cells slots Z ls hc hP hS hl hf => va_zald hc.1 hc.2.1 hc.2.2.2.2.2.1.1 hP a 3 ((ay_Wat (ay_shlt hs (by decide))).trans (by rw [el_Z hs])) rfl hi hd (k p lc e R s m args below meth c H locs cells slots Z ls hc hP hS hl hf)
theorem am_lastore {a n : Nat} {i : Int32} {x : Int64} (hd : decode cc pc = .ok (.lastore, 1)) (hs : ay_sh a = (0, n)) (hi : vp_in i n) (k : wp g X y cc nL ret d (pc + 1) l (st) (wL w a i.toNatClampNeg x) Q) : wp g X y cc nL ret d pc l (.long x :: .int i :: .ref (g.1 + a) :: st) w Q := by
  intro p lc e R s m args below meth c H locs cells slots Z ls hc hP hS hl hf
  have ha := ay_shlt hs (by decide)
  refine va_last (D := g.2.1) (cl := ay_cl) (tys := ay_tys g) (A := ay_A g) hc.1 hc.2.1 hc.2.2.2.2.2.1.1 hP ay_WD hS a 0 ((ay_Wat ha).trans (by rw [el_J hs])) rfl hi hd (fun H1 locs1 hP1 hD1 hS1 => ?_)
  have he2 : ay_el g (wL w a i.toNatClampNeg x) a = .inl (g.2.2.1 0, n, .inr (.inl (vp_updL (w.2 a) i.toNatClampNeg x))) := by
    rw [el_J hs]
    simp [wL, vp_updL]
  skip
  rw [← he2, ay_Wset ha wL_o] at hP1
  exact k p lc e R s m args below meth c H1 locs1 cells slots Z ls hc hP1 hS1 hl hf
theorem am_iastore {a n : Nat} {i : Int32} {x : Int32} (hd : decode cc pc = .ok (.iastore, 1)) (hs : ay_sh a = (1, n)) (hi : vp_in i n) (k : wp g X y cc nL ret d (pc + 1) l (st) (wI w a i.toNatClampNeg x) Q) : wp g X y cc nL ret d pc l (.int x :: .int i :: .ref (g.1 + a) :: st) w Q := by
  intro p lc e R s m args below meth c H locs cells slots Z ls hc hP hS hl hf
  have ha := ay_shlt hs (by decide)
  refine va_iast (D := g.2.1) (cl := ay_cl) (tys := ay_tys g) (A := ay_A g) hc.1 hc.2.1 hc.2.2.2.2.2.1.1 hP ay_WD hS a 1 ((ay_Wat ha).trans (by rw [el_I hs])) rfl hi hd (fun H1 locs1 hP1 hD1 hS1 => ?_)
  have he2 : ay_el g (wI w a i.toNatClampNeg x) a = .inl (g.2.2.1 1, n, .inl (upd (w.1 a) i.toNatClampNeg x)) := by
    rw [el_I hs]
    simp [wI, upd]
  skip
  rw [← he2, ay_Wset ha wI_o] at hP1
  exact k p lc e R s m args below meth c H1 locs1 cells slots Z ls hc hP1 hS1 hl hf
theorem am_bastore {a n : Nat} {i : Int32} {x : Int32} (hd : decode cc pc = .ok (.bastore, 1)) (hs : ay_sh a = (2, n)) (hi : vp_in i n) (k : wp g X y cc nL ret d (pc + 1) l (st) (wI w a i.toNatClampNeg x.toInt8.toInt32) Q) : wp g X y cc nL ret d pc l (.int x :: .int i :: .ref (g.1 + a) :: st) w Q := by
  intro p lc e R s m args below meth c H locs cells slots Z ls hc hP hS hl hf
  have ha := ay_shlt hs (by decide)
  refine va_bast (D := g.2.1) (cl := ay_cl) (tys := ay_tys g) (A := ay_A g) hc.1 hc.2.1 hc.2.2.2.2.2.1.1 hP ay_WD hS a 2 ((ay_Wat ha).trans (by rw [el_B hs])) rfl hi hd (fun H1 locs1 hP1 hD1 hS1 => ?_)
  have he2 : ay_el g (wI w a i.toNatClampNeg x.toInt8.toInt32) a = .inl (g.2.2.1 2, n, .inl (upd (w.1 a) i.toNatClampNeg x.toInt8.toInt32)) := by
    rw [el_B hs]
    simp [wI, upd]
  simp only [vp_nar_byte] at hP1
  rw [← he2, ay_Wset ha wI_o] at hP1
  exact k p lc e R s m args below meth c H1 locs1 cells slots Z ls hc hP1 hS1 hl hf
theorem am_zastore {a n : Nat} {i : Int32} {x : Int32} (hd : decode cc pc = .ok (.bastore, 1)) (hs : ay_sh a = (3, n)) (hi : vp_in i n) (k : wp g X y cc nL ret d (pc + 1) l (st) (wI w a i.toNatClampNeg (vp_nar .boolean x)) Q) : wp g X y cc nL ret d pc l (.int x :: .int i :: .ref (g.1 + a) :: st) w Q := by
  intro p lc e R s m args below meth c H locs cells slots Z ls hc hP hS hl hf
  have ha := ay_shlt hs (by decide)
  refine va_zast (D := g.2.1) (cl := ay_cl) (tys := ay_tys g) (A := ay_A g) hc.1 hc.2.1 hc.2.2.2.2.2.1.1 hP ay_WD hS a 3 ((ay_Wat ha).trans (by rw [el_Z hs])) rfl hi hd (fun H1 locs1 hP1 hD1 hS1 => ?_)
  have he2 : ay_el g (wI w a i.toNatClampNeg (vp_nar .boolean x)) a = .inl (g.2.2.1 3, n, .inl (upd (w.1 a) i.toNatClampNeg (vp_nar .boolean x))) := by
    rw [el_Z hs]
    simp [wI, upd]
  skip
  rw [← he2, ay_Wset ha wI_o] at hP1
  exact k p lc e R s m args below meth c H1 locs1 cells slots Z ls hc hP1 hS1 hl hf
theorem am_alen {a n : Nat} {k : Nat} {v : Int32} (hd : decode cc pc = .ok (.arraylength, 1)) (hs : ay_sh a = (k, n)) (hk : k < 4) (hv : Int32.ofNat n = v) (kk : wp g X y cc nL ret d (pc + 1) l (.int v :: st) w Q) : wp g X y cc nL ret d pc l (.ref (g.1 + a) :: st) w Q := by
  intro p lc e R s m args below meth c H locs cells slots Z ls hc hP hS hl hf
  have ha := ay_shlt hs (by omega)
  have hk2 : k = 0 ∨ k = 1 ∨ k = 2 ∨ k = 3 := by omega
  rcases hk2 with rfl | rfl | rfl | rfl
  · exact va_alen (D := g.2.1) (cl := ay_cl) (tys := ay_tys g) hc.1 hc.2.1 hc.2.2.2.2.2.1.1 hP a 0 ((ay_Wat ha).trans (by rw [el_J hs])) rfl hv hd (kk p lc e R s m args below meth c H locs cells slots Z ls hc hP hS hl hf)
  · exact va_alen (D := g.2.1) (cl := ay_cl) (tys := ay_tys g) hc.1 hc.2.1 hc.2.2.2.2.2.1.1 hP a 1 ((ay_Wat ha).trans (by rw [el_I hs])) rfl hv hd (kk p lc e R s m args below meth c H locs cells slots Z ls hc hP hS hl hf)
  · exact va_alen (D := g.2.1) (cl := ay_cl) (tys := ay_tys g) hc.1 hc.2.1 hc.2.2.2.2.2.1.1 hP a 2 ((ay_Wat ha).trans (by rw [el_B hs])) rfl hv hd (kk p lc e R s m args below meth c H locs cells slots Z ls hc hP hS hl hf)
  · exact va_alen (D := g.2.1) (cl := ay_cl) (tys := ay_tys g) hc.1 hc.2.1 hc.2.2.2.2.2.1.1 hP a 3 ((ay_Wat ha).trans (by rw [el_Z hs])) rfl hv hd (kk p lc e R s m args below meth c H locs cells slots Z ls hc hP hS hl hf)
theorem am_ireturn {x : Int32} {ty : FieldType} (hd : decode cc pc = .ok (.ireturn, 1)) (hr : ret = some ty) (hn : narrow ty (.int x) = .int x) (h : Q (some (.int x)) w) : wp g X y cc nL ret d pc l ([.int x]) w Q := fun p lc e R s m args below meth c H locs cells slots Z ls hc hP hS hl hf => hf _ _ H locs pc ls h (Or.inl ⟨x, ty, rfl, hr, hn, hd⟩) hP hS
theorem am_lreturn {x : Int64} (hd : decode cc pc = .ok (.lreturn, 1)) (hr : ret = some .long) (h : Q (some (.long x)) w) : wp g X y cc nL ret d pc l ([.long x]) w Q := fun p lc e R s m args below meth c H locs cells slots Z ls hc hP hS hl hf => hf _ _ H locs pc ls h (Or.inr (Or.inl ⟨x, rfl, hr, hd⟩)) hP hS
theorem am_areturn {a : Nat} {n : String} (hd : decode cc pc = .ok (.areturn, 1)) (hr : ret = some (.object n)) (h : Q (some (.ref a)) w) : wp g X y cc nL ret d pc l ([.ref a]) w Q := fun p lc e R s m args below meth c H locs cells slots Z ls hc hP hS hl hf => hf _ _ H locs pc ls h (Or.inr (Or.inr (Or.inl ⟨a, n, rfl, hr, hd⟩))) hP hS
theorem am_return (hd : decode cc pc = .ok (.return_, 1)) (hr : ret = none) (h : Q none w) : wp g X y cc nL ret d pc l ([]) w Q := fun p lc e R s m args below meth c H locs cells slots Z ls hc hP hS hl hf => hf _ _ H locs pc ls h (Or.inr (Or.inr (Or.inr ⟨rfl, hr, hd⟩))) hP hS
end AM
end
section
/-- what the tables say of a method: its code, its class, how many arguments -/
def ay_MI (y : MethodName) (cc : ByteArray) (nL : Nat) (ret : Option FieldType) (n : Nat) : Prop :=
  Cond.code y cc nL ret ∈ ay_G ∧ Cond.initialized y.cls ∈ ay_G ∧ (y.cls ≠ "java/lang/invoke/MethodHandle" ∧ y.cls ≠ "java/lang/invoke/VarHandle" ∧ (parseMethodDescriptor y.desc).map (fun d => d.parameters.length) = some n) ∧ plainName y.cls = true ∧ nL ≤ 26
theorem ay_blind {g : ayG} {As : List Value} {w : Wd} : FrameBlind (va_Pc As (ay_Pre g w)) := fun _ _ _ _ h => ⟨h.1, h.2.1, ay_Kn.call rfl rfl h.2.2⟩
section CALLS
variable {g : ayG} {X : State → Prop} {y : MethodName} {cc : ByteArray} {nL : Nat} {ret : Option FieldType} {d pc : Nat} {l : List (Nat × Value)} {st rest : List Value} {w : Wd} {Q : Option Value → Wd → Prop}
theorem ay_cb {p : Program} {R : Room} {s : State} {m : MethodId} {args : Array Value} {c : Code} {cells slots : Nat} {y2 : MethodName} {cc2 : ByteArray} {nL2 : Nat} {ret2 : Option FieldType} {n d2 i : Nat} (hc : ay_Cx g X y cc nL d p R s m args c cells slots) (hm : ay_MI y2 cc2 nL2 ret2 n) (hl : Cond.methodLink y.cls i y2 ∈ ay_G) (hd2 : d2 < d) :
    CallB R s args y.cls i y2 cc2 nL2 ret2 (Cond.code y2 cc2 nL2 ret2 :: ay_G) (ay_rm d2) 0 0 n := by
  obtain ⟨-, -, -, -, hts, -, hf, hlo, -, -, -⟩ := hc
  obtain ⟨m1, m2, m3, -, m5⟩ := hm
  refine ⟨rfl, rfl, ?_, ?_, ?_, List.mem_cons_self, hts _ m1, hts _ m2, ⟨m3.1, m3.2.1⟩, ?_, hts _ hl⟩
  · show d2 + 1 ≤ R.frames
    omega
  · show 8 + (nL2 + 11) + 45 * d2 ≤ R.locals
    omega
  · intro w hw a' U hW
    rcases List.mem_cons.mp hw with rfl | hw
    · exact word_at hW (ay_good m1) (hts _ m1)
    · exact word_at hW (ay_good hw) (hts _ hw)
  · intro sig h
    have h2 := m3.2.2
    rw [h] at h2
    exact (Option.some.inj h2).symm
theorem ay_room {st : List Value} {m : MethodId} {ls : Array Slot} {st0 : List Value} (h : (st.map fun v => v.category).sum ≤ 8) : 2 * (F0 m pc ls st0).monitorRoom + (st.map fun v => v.category).sum ≤ 8 := by
  show 2 * 0 + _ ≤ 8
  omega
/-- behind a call -/
theorem ay_back {p : Program} {lc : Launch} {e : Env} {R : Room} {s : State} {m : MethodId} {args : Array Value} {below : List Frame} {meth : Method} {c : Code} {H : Heap} {locs : List Loc} {cells slots : Nat} {Z : State → Prop} {ls : Array Slot} {st0 : List Value} {a : Array Value}
    (hc : ay_Cx g X y cc nL d p R s m args c cells slots) (hS : va_S (ay_A g) s.heap H locs) (hl : lv_has ls nL l) (hf : ay_Fin g cc ret p lc e R s m args below meth c cells slots Z Q)
    (hr : va_Run p lc e R s m args below meth c H locs cells slots 0 0 (F0 m pc ls st0) rest (ay_Post g (fun r w => wp g X y cc nL ret d (pc + 3) l (r.toList ++ rest) w Q) a) (ay_A g)) : W p lc e R s m args below meth c H locs cells slots Z (F0 m pc ls st0) := by
  intro T hT X
  obtain ⟨v, st₀, t, T', L, h0, X', hL, e1, e2, ⟨⟨r, w', hv, hQ, hP'⟩, hz, hk⟩, stp⟩ := hr T hT X
  cases hv
  rw [h0] at hz hk
  obtain ⟨t2, a1, b1⟩ := hQ p lc e R s m args below meth c T'.heap (locs ++ L) cells slots Z ls hc (by rw [e1]; exact hP') ⟨Nat.le_trans hS.1 (by rw [e1]; exact hz), fun q h1 h2 => by rw [e1, hk q (Nat.lt_of_lt_of_le h1 hS.1) h2]; exact hS.2.1 q h1 h2, fun q hq => (List.mem_append.mp hq).elim (hS.2.2 q) (hL q)⟩ hl hf T' rfl X'
  exact ⟨t2, stp t2 a1, b1⟩
theorem ay_pre {s : State} {H : Heap} {locs : List Loc} (hK : ay_Kn g s s.heap) (hP : va_P g.2.1 ay_cl (ay_W g w) H) (hS : va_S (ay_A g) s.heap H locs) (As : List Value) : ∀ U : State, U.heap = H → s.WarmedH U.vm → va_Pc As (ay_Pre g w) As.toArray U :=
  fun U hU hW => ⟨rfl, by rw [hU]; exact hP, ay_Kn.go hK hW (by rw [hU]; exact hS.2.1) (by rw [hU]; exact hS.1)⟩
theorem am_callS {y2 : MethodName} {cc2 : ByteArray} {nL2 : Nat} {ret2 : Option FieldType} {d2 i n : Nat} (As : List Value) (hd : decode cc pc = .ok (.invokestatic i, 3)) (hm : ay_MI y2 cc2 nL2 ret2 n) (hl : Cond.methodLink y.cls i y2 ∈ ay_G) (hst : Cond.static y2 ∈ ay_G) (hd2 : d2 < d) (hn : As.length = n) (hs : st = As.reverse ++ rest) (hr : (rest.map fun v => v.category).sum ≤ 8)
    (k : Call g y2 cc2 nL2 ret2 d2 As w (fun r w => wp g X y cc nL ret d (pc + 3) l (r.toList ++ rest) w Q)) : wp g X y cc nL ret d pc l st w Q := by
  intro p lc e R s m args below meth c H locs cells slots Z ls hc hP hS hl2 hf
  refine ay_back hc hS hl2 hf (va_runS (nL := nL) (Ts := ay_G) (rest := rest) ⟨hc.1, hc.2.1, hc.2.2.1, hc.2.2.2.1, hc.2.2.2.2.1⟩ (k lc) ⟨ay_cb hc hm hl hd2, hc.2.2.2.2.1 _ hst⟩ ⟨ay_blind, ay_pre hc.2.2.2.2.2.1 hP hS As⟩ rfl hn hl2.1 hs (ay_room hr) hd ⟨hc.2.2.2.2.2.2.2.2.1, hc.2.2.2.2.2.2.2.2.2.1⟩)
theorem am_callV {C : String} {y2 : MethodName} {cc2 : ByteArray} {nL2 : Nat} {ret2 : Option FieldType} {d2 i n a ci : Nat} {q : vw_C} {fs : List Value} (As : List Value) (hd : decode cc pc = .ok (.invokevirtual i, 3)) (hm : ay_MI y2 cc2 nL2 ret2 n) (hl : Cond.methodLink y.cls i y2 ∈ ay_G) (hin : Cond.instanceMethod y2 ∈ ay_G) (hse : Cond.selects C y2 y2 ∈ ay_G) (ha : a < 47) (he : ay_el g w a = .inr (ci, fs)) (hci : ay_cl[ci]? = some q) (hqC : q.1 = C) (hd2 : d2 < d) (hn : As.length = n) (hs : st = As.reverse ++ .ref (g.1 + a) :: rest) (hr : (rest.map fun v => v.category).sum ≤ 8)
    (k : Call g y2 cc2 nL2 ret2 d2 (.ref (g.1 + a) :: As) w (fun r w => wp g X y cc nL ret d (pc + 3) l (r.toList ++ rest) w Q)) : wp g X y cc nL ret d pc l st w Q := by
  intro p lc e R s m args below meth c H locs cells slots Z ls hc hP hS hl2 hf
  subst hqC
  refine ay_back hc hS hl2 hf (va_runV (C := q.1) (nL := nL) (Ts := ay_G) (rest := rest) ⟨hc.1, hc.2.1, hc.2.2.1, hc.2.2.2.1, hc.2.2.2.2.1⟩ (k lc) ⟨ay_cb hc hm hl hd2, hc.2.2.2.2.1 _ hin, hc.2.2.2.2.1 _ hse⟩ ⟨ay_blind, va_recv hc.2.2.2.2.2.1.1 hP hci ((ay_Wat ha).trans (by rw [he])), ay_pre hc.2.2.2.2.2.1 hP hS _⟩ rfl hn hl2.1 hs (ay_room hr) hd ⟨hc.2.2.2.2.2.2.2.2.1, hc.2.2.2.2.2.2.2.2.2.1⟩)
/-- a method, from its entry -/
theorem am_enter {n : Nat} {As : List Value} (hm : ay_MI y cc nL ret n) (hlen : (lg_sl As).length ≤ nL) (k : wp g (fun _ => True) y cc nL ret d 0 (lv_args 0 As) [] w Q) : Call g y cc nL ret d As w Q := by
  intro lc
  refine Met.ofW (cc := cc) (maxL := nL) (ret := ret) hm.2.2.2.1 rfl ?_
  intro p e s m args below meth c s₁ B hml hv
  obtain ⟨rfl, hP, hK⟩ := hv
  have hx := B.exec
  have hb := B.bytes
  have hr := B.returns
  have hts := atoms_spec (ws := Cond.code y cc nL ret :: ay_G) B.pre
  have hown : s.vm.findClass y.cls = some m.cls := findClass_of_methodNamed B.named
  have hlocks := B.notSynchronized
  rw [lg_entry_eq]
  have hl := lv_entry As (n := nL) hlen
  refine k p lc e _ s m _ below meth c s.heap [] 0 0 _ _ ⟨hx, hb, hml, hown, fun w hw => hts w (List.mem_cons_of_mem _ hw), hK, Nat.le_refl _, Nat.le_refl _, Nat.zero_le _, Nat.zero_le _, trivial⟩ hP va_S.rf hl ?_
  intro r w' H' locs' pc' ls' hQ hret hP' hS'
  rcases hret with ⟨x, ty, rfl, hty, hn, hd⟩ | ⟨x, rfl, hty, hd⟩ | ⟨a, n, rfl, hty, hd⟩ | ⟨rfl, hty, hd⟩
  · exact W.zret hx hb (hr.trans hty) hn (fun t ht hW => ⟨⟨_, w', rfl, hQ, by rw [ht]; exact hP'⟩, hS'.F ht⟩) hS'.2.2 hd hlocks
  · exact W.lret hx hb (hr.trans hty) (fun t ht hW => ⟨⟨_, w', rfl, hQ, by rw [ht]; exact hP'⟩, hS'.F ht⟩) hS'.2.2 hd hlocks
  · exact W.aret hx hb (hr.trans hty) (Or.inl ⟨n, rfl⟩) (Or.inr ⟨a, rfl⟩) (fun t ht hW => ⟨⟨_, w', rfl, hQ, by rw [ht]; exact hP'⟩, hS'.F ht⟩) hS'.2.2 hd hlocks
  · exact W.vret hx hb (hr.trans hty) (fun t ht hW => ⟨⟨_, w', rfl, hQ, by rw [ht]; exact hP'⟩, hS'.F ht⟩) hS'.2.2 hd hlocks
end CALLS
end
section
section MORE
variable {g : ayG} {X : State → Prop} {y : MethodName} {cc : ByteArray} {nL : Nat} {ret : Option FieldType} {d pc : Nat} {l : List (Nat × Value)} {st rest : List Value} {w : Wd} {Q : Option Value → Wd → Prop}
theorem am_topi {e : Int32} (k : ∀ x, x = e → wp g X y cc nL ret d pc l (.int x :: st) w Q) : wp g X y cc nL ret d pc l (.int e :: st) w Q := k e rfl
theorem am_topl {e : Int64} (k : ∀ x, x = e → wp g X y cc nL ret d pc l (.long x :: st) w Q) : wp g X y cc nL ret d pc l (.long e :: st) w Q := k e rfl
theorem ay_nb {x : Int32} (h : x = 0 ∨ x = 1) : narrow .boolean (.int x) = .int x := by rcases h with rfl | rfl <;> rfl
theorem Call.post {y : MethodName} {As : List Value} {Q' : Option Value → Wd → Prop} (h : ∀ r w, Q r w → Q' r w) (k : Call g y cc nL ret d As w Q) : Call g y cc nL ret d As w Q' := by
  intro lc p e h1 h2 h3 s m args below h4 h5 h6 h7
  obtain ⟨n, o, k1, k2, k3, ⟨⟨r, w', k4, k5, k6⟩, k7⟩, k8⟩ := k lc p e h1 h2 h3 s m args below h4 h5 h6 h7
  exact ⟨n, o, k1, k2, k3, ⟨⟨r, w', k4, h _ _ k5, k6⟩, k7⟩, k8⟩
theorem am_copyL {a0 a1 n0 n1 i : Nat} {sp dp n : Int32} (hd : decode cc pc = .ok (.invokestatic i, 3)) (hl : Cond.methodLink y.cls i arraycopyName ∈ ay_G) (hs0 : ay_sh a0 = (0, n0)) (hs1 : ay_sh a1 = (0, n1)) (hz : ¬ sp < 0 ∧ ¬ dp < 0 ∧ ¬ n < 0 ∧ sp.toNatClampNeg + n.toNatClampNeg ≤ n0 ∧ dp.toNatClampNeg + n.toNatClampNeg ≤ n1) (hd1 : 1 ≤ d) (hr : (st.map fun v => v.category).sum ≤ 8)
    (k : wp g X y cc nL ret d (pc + 3) l st (wR w a1 (va_cpy (w.2 a0) (w.2 a1) sp.toNatClampNeg dp.toNatClampNeg n.toNatClampNeg)) Q) : wp g X y cc nL ret d pc l (.int n :: .int dp :: .ref (g.1 + a1) :: .int sp :: .ref (g.1 + a0) :: st) w Q := by
  intro p lc e R s m args below meth c H locs cells slots Z ls hc hP hS hl2 hf
  have ha0 := ay_shlt hs0 (by decide)
  have ha1 := ay_shlt hs1 (by decide)
  have hw : nativeFrameWords "java/lang/System" "arraycopy" 5 + 11 ≤ 30 := by decide
  refine va_copyl (D := g.2.1) (cl := ay_cl) (tys := ay_tys g) (A := ay_A g) (H0 := s.heap) hc.1 hc.2.1 (hc.2.2.1.trans hl2.1.symm) hc.2.2.2.1 (hc.2.2.2.2.1 _ hl) (hc.2.2.2.2.1 (Cond.native arraycopyName) ?_) (hc.2.2.2.2.1 (Cond.static arraycopyName) ?_) (hc.2.2.2.2.1 (Cond.initialized "java/lang/System") ?_) hc.2.2.2.2.2.1.1 hP ay_WD hS a0 a1 0 0 ((ay_Wat ha0).trans (by rw [el_J hs0])) ((ay_Wat ha1).trans (by rw [el_J hs1])) rfl rfl rfl hz.1 hz.2.1 hz.2.2.1 hz.2.2.2.1 hz.2.2.2.2 (fun _ _ => rfl) ?_ ?_ hd (fun H1 locs1 hP1 hD1 hS1 => ?_)
  · exact wd_427
  · exact wd_426
  · exact wd_20
  · have := hc.2.2.2.2.2.2.1
    omega
  · have := hc.2.2.2.2.2.2.2.1
    omega
  · have he2 : ay_el g (wR w a1 (va_cpy (w.2 a0) (w.2 a1) sp.toNatClampNeg dp.toNatClampNeg n.toNatClampNeg)) a1 = .inl (g.2.2.1 0, n1, .inr (.inl (va_cpy (w.2 a0) (w.2 a1) sp.toNatClampNeg dp.toNatClampNeg n.toNatClampNeg))) := by
      rw [el_J hs1]
      simp [wR]
    rw [← he2, ay_Wset ha1 wR_o] at hP1
    exact k p lc e R s m args below meth c H1 locs1 cells slots Z ls hc hP1 hS1 hl2 hf
def imin (a b : Int32) : Int32 := if b < a then b else a
def imax (a b : Int32) : Int32 := if a < b then b else a
theorem am_mmin {a b : Int32} {i : Nat} (hd : decode cc pc = .ok (.invokestatic i, 3)) (hl : Cond.methodLink y.cls i y_Math_min ∈ ay_G) (hd1 : 1 ≤ d) (hr : (st.map fun v => v.category).sum ≤ 8) (k : wp g X y cc nL ret d (pc + 3) l (.int (imin a b) :: st) w Q) : wp g X y cc nL ret d pc l (.int b :: .int a :: st) w Q := by
  intro p lc e R s m args below meth c H locs cells slots Z ls hc hP hS hl2 hf
  refine va_mmin hc.1 hc.2.1 (hc.2.2.1.trans hl2.1.symm) hc.2.2.2.1 (hc.2.2.2.2.1 _ hl) (hc.2.2.2.2.1 (Cond.static y_Math_min) wd_290) (hc.2.2.2.2.1 _ wd_12) (hc.2.2.2.2.1 _ wd_291) ?_ ?_ hc.2.2.2.2.2.2.2.2.1 hc.2.2.2.2.2.2.2.2.2.1 hd (k p lc e R s m args below meth c H locs cells slots Z ls hc hP hS hl2 hf)
  · have := hc.2.2.2.2.2.2.1
    omega
  · have := hc.2.2.2.2.2.2.2.1
    omega
theorem am_mmax {a b : Int32} {i : Nat} (hd : decode cc pc = .ok (.invokestatic i, 3)) (hl : Cond.methodLink y.cls i y_Math_max ∈ ay_G) (hd1 : 1 ≤ d) (hr : (st.map fun v => v.category).sum ≤ 8) (k : wp g X y cc nL ret d (pc + 3) l (.int (imax a b) :: st) w Q) : wp g X y cc nL ret d pc l (.int b :: .int a :: st) w Q := by
  intro p lc e R s m args below meth c H locs cells slots Z ls hc hP hS hl2 hf
  refine va_mmax hc.1 hc.2.1 (hc.2.2.1.trans hl2.1.symm) hc.2.2.2.1 (hc.2.2.2.2.1 _ hl) (hc.2.2.2.2.1 (Cond.static y_Math_max) wd_764) (hc.2.2.2.2.1 _ wd_12) (hc.2.2.2.2.1 _ wd_765) ?_ ?_ hc.2.2.2.2.2.2.2.2.1 hc.2.2.2.2.2.2.2.2.2.1 hd (k p lc e R s m args below meth c H locs cells slots Z ls hc hP hS hl2 hf)
  · have := hc.2.2.2.2.2.2.1
    omega
  · have := hc.2.2.2.2.2.2.2.1
    omega
end MORE
theorem sh_F1 {c : Nat} (h : ay_sh c = (14, 0)) : ay_sh (c + 1) = (0, 31) := (show ∀ c, c < 47 → ay_sh c = (14, 0) → ay_sh (c + 1) = (0, 31) by decide) c (ay_shlt h (by decide)) h
theorem sh_F2 {c : Nat} (h : ay_sh c = (14, 0)) : ay_sh (c + 2) = (1, 31) := (show ∀ c, c < 47 → ay_sh c = (14, 0) → ay_sh (c + 2) = (1, 31) by decide) c (ay_shlt h (by decide)) h
theorem sh_F3 {c : Nat} (h : ay_sh c = (14, 0)) : ay_sh (c + 3) = (0, 31) := (show ∀ c, c < 47 → ay_sh c = (14, 0) → ay_sh (c + 3) = (0, 31) by decide) c (ay_shlt h (by decide)) h
theorem sh_O1 {c : Nat} (h : ay_sh c = (15, 0)) : ay_sh (c + 1) = (0, 16) := (show ∀ c, c < 47 → ay_sh c = (15, 0) → ay_sh (c + 1) = (0, 16) by decide) c (ay_shlt h (by decide)) h
end
section
-- the String members that are reached, over the claim's constants
theorem d_String_length_0 : decode prog_18_method_54_code 0 = .ok (.aload_n 0, 1) := by decide +kernel
theorem d_String_length_1 : decode prog_18_method_54_code 1 = .ok (.getfield 9, 3) := by decide +kernel
theorem d_String_length_4 : decode prog_18_method_54_code 4 = .ok (.arraylength, 1) := by decide +kernel
theorem d_String_length_5 : decode prog_18_method_54_code 5 = .ok (.aload_n 0, 1) := by decide +kernel
theorem d_String_length_6 : decode prog_18_method_54_code 6 = .ok (.invokevirtual 335, 3) := by decide +kernel
theorem d_String_length_9 : decode prog_18_method_54_code 9 = .ok (.ishr, 1) := by decide +kernel
theorem d_String_length_10 : decode prog_18_method_54_code 10 = .ok (.ireturn, 1) := by decide +kernel
theorem mi_String_length : ay_MI y_String_length prog_18_method_54_code 1 (some FieldType.int) 0 := ⟨wd_331, wd_13, by decide +kernel, by decide +kernel, by decide⟩
theorem d_String_coder_0 : decode prog_18_method_152_code 0 = .ok (.getstatic 38, 3) := by decide +kernel
theorem d_String_coder_3 : decode prog_18_method_152_code 3 = .ok (.ifCond .eq 10, 3) := by decide +kernel
theorem d_String_coder_6 : decode prog_18_method_152_code 6 = .ok (.aload_n 0, 1) := by decide +kernel
theorem d_String_coder_7 : decode prog_18_method_152_code 7 = .ok (.getfield 15, 3) := by decide +kernel
theorem d_String_coder_10 : decode prog_18_method_152_code 10 = .ok (.goto 4, 3) := by decide +kernel
theorem d_String_coder_13 : decode prog_18_method_152_code 13 = .ok (.iconst 1, 1) := by decide +kernel
theorem d_String_coder_14 : decode prog_18_method_152_code 14 = .ok (.ireturn, 1) := by decide +kernel
theorem mi_String_coder : ay_MI y_String_coder prog_18_method_152_code 1 (some FieldType.byte) 0 := ⟨wd_335, wd_13, by decide +kernel, by decide +kernel, by decide⟩
theorem d_String_isLatin1_0 : decode prog_18_method_154_code 0 = .ok (.getstatic 38, 3) := by decide +kernel
theorem d_String_isLatin1_3 : decode prog_18_method_154_code 3 = .ok (.ifCond .eq 14, 3) := by decide +kernel
theorem d_String_isLatin1_6 : decode prog_18_method_154_code 6 = .ok (.aload_n 0, 1) := by decide +kernel
theorem d_String_isLatin1_7 : decode prog_18_method_154_code 7 = .ok (.getfield 15, 3) := by decide +kernel
theorem d_String_isLatin1_10 : decode prog_18_method_154_code 10 = .ok (.ifCond .ne 7, 3) := by decide +kernel
theorem d_String_isLatin1_13 : decode prog_18_method_154_code 13 = .ok (.iconst 1, 1) := by decide +kernel
theorem d_String_isLatin1_14 : decode prog_18_method_154_code 14 = .ok (.goto 4, 3) := by decide +kernel
theorem d_String_isLatin1_17 : decode prog_18_method_154_code 17 = .ok (.iconst 0, 1) := by decide +kernel
theorem d_String_isLatin1_18 : decode prog_18_method_154_code 18 = .ok (.ireturn, 1) := by decide +kernel
theorem mi_String_isLatin1 : ay_MI y_String_isLatin1 prog_18_method_154_code 1 (some FieldType.boolean) 0 := ⟨wd_345, wd_13, by decide +kernel, by decide +kernel, by decide⟩
theorem d_String_checkIndex_0 : decode prog_18_method_155_code 0 = .ok (.iload_n 0, 1) := by decide +kernel
theorem d_String_checkIndex_1 : decode prog_18_method_155_code 1 = .ok (.iload_n 1, 1) := by decide +kernel
theorem d_String_checkIndex_2 : decode prog_18_method_155_code 2 = .ok (.getstatic 1053, 3) := by decide +kernel
theorem d_String_checkIndex_5 : decode prog_18_method_155_code 5 = .ok (.invokestatic 1059, 3) := by decide +kernel
theorem d_String_checkIndex_8 : decode prog_18_method_155_code 8 = .ok (.pop, 1) := by decide +kernel
theorem d_String_checkIndex_9 : decode prog_18_method_155_code 9 = .ok (.return_, 1) := by decide +kernel
theorem mi_String_checkIndex : ay_MI y_String_checkIndex prog_18_method_155_code 2 none 2 := ⟨wd_351, wd_13, by decide +kernel, by decide +kernel, by decide⟩
theorem d_String_charAt_0 : decode prog_18_method_56_code 0 = .ok (.aload_n 0, 1) := by decide +kernel
theorem d_String_charAt_1 : decode prog_18_method_56_code 1 = .ok (.invokevirtual 492, 3) := by decide +kernel
theorem d_String_charAt_4 : decode prog_18_method_56_code 4 = .ok (.ifCond .eq 12, 3) := by decide +kernel
theorem d_String_charAt_7 : decode prog_18_method_56_code 7 = .ok (.aload_n 0, 1) := by decide +kernel
theorem d_String_charAt_8 : decode prog_18_method_56_code 8 = .ok (.getfield 9, 3) := by decide +kernel
theorem d_String_charAt_11 : decode prog_18_method_56_code 11 = .ok (.iload_n 1, 1) := by decide +kernel
theorem d_String_charAt_12 : decode prog_18_method_56_code 12 = .ok (.invokestatic 495, 3) := by decide +kernel
theorem d_String_charAt_15 : decode prog_18_method_56_code 15 = .ok (.ireturn, 1) := by decide +kernel
theorem d_String_charAt_16 : decode prog_18_method_56_code 16 = .ok (.aload_n 0, 1) := by decide +kernel
theorem d_String_charAt_17 : decode prog_18_method_56_code 17 = .ok (.getfield 9, 3) := by decide +kernel
theorem d_String_charAt_20 : decode prog_18_method_56_code 20 = .ok (.iload_n 1, 1) := by decide +kernel
theorem d_String_charAt_21 : decode prog_18_method_56_code 21 = .ok (.invokestatic 498, 3) := by decide +kernel
theorem d_String_charAt_24 : decode prog_18_method_56_code 24 = .ok (.ireturn, 1) := by decide +kernel
theorem mi_String_charAt : ay_MI y_String_charAt prog_18_method_56_code 2 (some FieldType.char) 1 := ⟨wd_341, wd_13, by decide +kernel, by decide +kernel, by decide⟩
theorem d_StringLatin1_charAt_0 : decode prog_19_method_2_code 0 = .ok (.iload_n 1, 1) := by decide +kernel
theorem d_StringLatin1_charAt_1 : decode prog_19_method_2_code 1 = .ok (.aload_n 0, 1) := by decide +kernel
theorem d_StringLatin1_charAt_2 : decode prog_19_method_2_code 2 = .ok (.arraylength, 1) := by decide +kernel
theorem d_StringLatin1_charAt_3 : decode prog_19_method_2_code 3 = .ok (.invokestatic 9, 3) := by decide +kernel
theorem d_StringLatin1_charAt_6 : decode prog_19_method_2_code 6 = .ok (.aload_n 0, 1) := by decide +kernel
theorem d_StringLatin1_charAt_7 : decode prog_19_method_2_code 7 = .ok (.iload_n 1, 1) := by decide +kernel
theorem d_StringLatin1_charAt_8 : decode prog_19_method_2_code 8 = .ok (.baload, 1) := by decide +kernel
theorem d_StringLatin1_charAt_9 : decode prog_19_method_2_code 9 = .ok (.sipush 255, 3) := by decide +kernel
theorem d_StringLatin1_charAt_12 : decode prog_19_method_2_code 12 = .ok (.iand, 1) := by decide +kernel
theorem d_StringLatin1_charAt_13 : decode prog_19_method_2_code 13 = .ok (.i2c, 1) := by decide +kernel
theorem d_StringLatin1_charAt_14 : decode prog_19_method_2_code 14 = .ok (.ireturn, 1) := by decide +kernel
theorem mi_StringLatin1_charAt : ay_MI y_StringLatin1_charAt prog_19_method_2_code 2 (some FieldType.char) 2 := ⟨wd_348, wd_14, by decide +kernel, by decide +kernel, by decide⟩
theorem d_Preconditions_checkIndex_0 : decode prog_22_method_11_code 0 = .ok (.iload_n 0, 1) := by decide +kernel
theorem d_Preconditions_checkIndex_1 : decode prog_22_method_11_code 1 = .ok (.ifCond .lt 8, 3) := by decide +kernel
theorem d_Preconditions_checkIndex_4 : decode prog_22_method_11_code 4 = .ok (.iload_n 0, 1) := by decide +kernel
theorem d_Preconditions_checkIndex_5 : decode prog_22_method_11_code 5 = .ok (.iload_n 1, 1) := by decide +kernel
theorem d_Preconditions_checkIndex_6 : decode prog_22_method_11_code 6 = .ok (.if_icmp .lt 10, 3) := by decide +kernel
theorem d_Preconditions_checkIndex_9 : decode prog_22_method_11_code 9 = .ok (.aload_n 2, 1) := by decide +kernel
theorem d_Preconditions_checkIndex_10 : decode prog_22_method_11_code 10 = .ok (.iload_n 0, 1) := by decide +kernel
theorem d_Preconditions_checkIndex_11 : decode prog_22_method_11_code 11 = .ok (.iload_n 1, 1) := by decide +kernel
theorem d_Preconditions_checkIndex_12 : decode prog_22_method_11_code 12 = .ok (.invokestatic 95, 3) := by decide +kernel
theorem d_Preconditions_checkIndex_15 : decode prog_22_method_11_code 15 = .ok (.athrow, 1) := by decide +kernel
theorem d_Preconditions_checkIndex_16 : decode prog_22_method_11_code 16 = .ok (.iload_n 0, 1) := by decide +kernel
theorem d_Preconditions_checkIndex_17 : decode prog_22_method_11_code 17 = .ok (.ireturn, 1) := by decide +kernel
theorem mi_Preconditions_checkIndex : ay_MI y_Preconditions_checkIndex prog_22_method_11_code 3 (some FieldType.int) 3 := ⟨wd_356, wd_15, by decide +kernel, by decide +kernel, by decide⟩
section STR
variable {g : ayG} {X : State → Prop} {y : MethodName} {cc : ByteArray} {nL : Nat} {ret : Option FieldType} {d pc : Nat} {l : List (Nat × Value)} {st rest : List Value} {w : Wd} {Q : Option Value → Wd → Prop}
theorem am_ldcS {own tx : String} {ix i : Nat} (j : Nat) (hj : ay_strs[j]? = some (own, ix, tx, i)) (ho : own = y.cls) (hd : decode cc pc = .ok (.ldc ix, 2)) (k : wp g X y cc nL ret d (pc + 2) l (.ref (g.2.2.2.1 i) :: st) w Q) : wp g X y cc nL ret d pc l st w Q := by
  subst ho
  exact fun p lc e R s m args below meth c H locs cells slots Z ls hc hP hS hl hf => va_ldcS hc.1 hc.2.1 hc.2.2.2.1 (hc.2.2.2.2.2.1.2.2.2.2.1 _ (List.mem_of_getElem? hj)) hd (k p lc e R s m args below meth c H locs cells slots Z ls hc hP hS hl hf)
theorem ay_ldcwS {p : Program} {lc : Launch} {e : Env} {R : Room} {s : State} {m : MethodId} {args : Array Value} {below : List Frame} {meth : Method} {c : Code} {T : State} {locs : List Loc} {cells slots : Nat}
    (X : Stand p lc e R s m args below meth c T locs cells slots) (hexec : p.tables.exec = Jvm.exec) {own text : String} {index : Nat} {a : Addr} (hown : s.vm.findClass own = some m.cls)
    (hconst : (Cond.stringRef own index text).before #[] s = true) (hev : (Term.string own index).eval #[] s none [] s = some (.ref a)) {g : JFrame} (hg : g.method = m) (hdg : decode c.code g.pc = .ok (.ldc_w index, 3)) :
    ∀ target, Steps p.tables e below (T.setTop { g with pc := g.pc + 3, stack := .ref a :: g.stack }) target → Steps p.tables e below (T.setTop g) target := by
  obtain ⟨k, cf, i, a', hk, hcf, hcp, -, hr, hev'⟩ := Cond.stringRef_spec hown hconst
  cases hev.symm.trans hev'
  obtain ⟨k', hk', he⟩ := X.warmed.alike.2.2 _ _ hk
  have hr' : k'.resolved[index]? = some (some (.string a)) := by
    rcases X.warmed.entry hk hk' index with h | ⟨h, -⟩
    · rw [h]; exact hr
    · rw [hr] at h; cases h
  intro target hrest
  subst hg
  jvm_step X.here [hexec, hdg, ldc_w.wp_string (e := e) (s := T) (f := g) X.here.top hk' (by rw [he]; exact hcf) hcp hr']
  exact hrest
theorem am_ldcSw {own tx : String} {ix i : Nat} (j : Nat) (hj : ay_strs[j]? = some (own, ix, tx, i)) (ho : own = y.cls) (hd : decode cc pc = .ok (.ldc_w ix, 3)) (k : wp g X y cc nL ret d (pc + 3) l (.ref (g.2.2.2.1 i) :: st) w Q) : wp g X y cc nL ret d pc l st w Q := by
  subst ho
  intro p lc e R s m args below meth c H locs cells slots Z ls hc hP hS hl hf T hT X
  obtain ⟨t, a1, b1⟩ := k p lc e R s m args below meth c H locs cells slots Z ls hc hP hS hl hf T hT X
  have hz := hc.2.2.2.2.2.1.2.2.2.2.1 _ (List.mem_of_getElem? hj)
  exact ⟨t, ay_ldcwS X hc.1 hc.2.2.2.1 hz.1 hz.2 (g := F0 m pc ls st) rfl (by rw [hc.2.1]; exact hd) t a1, b1⟩
theorem am_strval {i ix : Nat} (hi : i < 5) (hd : decode cc pc = .ok (.getfield ix, 3)) (hl : Cond.fieldLink y.cls ix "java/lang/String" "value" "[B" ∈ ay_G) (k : wp g X y cc nL ret d (pc + 3) l (.ref (g.2.2.2.2 i) :: st) w Q) : wp g X y cc nL ret d pc l (.ref (g.2.2.2.1 i) :: st) w Q :=
  fun p lc e R s m args below meth c H locs cells slots Z ls hc hP hS hl2 hf => vk_getf hc.1 hc.2.1 (hc.2.2.2.2.2.1.2.1.1 i hi).2.2.1 hS hc.2.2.2.1 (hc.2.2.2.2.1 _ hl) (fun _ h => h) hd (k p lc e R s m args below meth c H locs cells slots Z ls hc hP hS hl2 hf)
theorem am_strcod {i ix : Nat} (hi : i < 5) (hd : decode cc pc = .ok (.getfield ix, 3)) (hl : Cond.fieldLink y.cls ix "java/lang/String" "coder" "B" ∈ ay_G) (k : wp g X y cc nL ret d (pc + 3) l (.int 0 :: st) w Q) : wp g X y cc nL ret d pc l (.ref (g.2.2.2.1 i) :: st) w Q :=
  fun p lc e R s m args below meth c H locs cells slots Z ls hc hP hS hl2 hf => vk_getf hc.1 hc.2.1 (hc.2.2.2.2.2.1.2.1.1 i hi).2.1 hS hc.2.2.2.1 (hc.2.2.2.2.1 _ hl) (fun _ h => h) hd (k p lc e R s m args below meth c H locs cells slots Z ls hc hP hS hl2 hf)
theorem am_strlen {i : Nat} {v : Int32} (hi : i < 5) (hd : decode cc pc = .ok (.arraylength, 1)) (hv : Int32.ofNat (ay_slen.getD i 0) = v) (k : wp g X y cc nL ret d (pc + 1) l (.int v :: st) w Q) : wp g X y cc nL ret d pc l (.ref (g.2.2.2.2 i) :: st) w Q :=
  fun p lc e R s m args below meth c H locs cells slots Z ls hc hP hS hl2 hf => va_tlen hc.1 hc.2.1 (hc.2.2.2.2.2.1.2.1.1 i hi).2.2.2 hS hv hd (k p lc e R s m args below meth c H locs cells slots Z ls hc hP hS hl2 hf)
theorem am_strb {i : Nat} {j : Int32} (hi : i < 5) (hd : decode cc pc = .ok (.baload, 1)) (hj : vp_in j (ay_slen.getD i 0)) (k : wp g X y cc nL ret d (pc + 1) l (.int ((ay_sbyt.getD i []).getD j.toNatClampNeg 0) :: st) w Q) : wp g X y cc nL ret d pc l (.int j :: .ref (g.2.2.2.2 i) :: st) w Q :=
  fun p lc e R s m args below meth c H locs cells slots Z ls hc hP hS hl2 hf => va_tb hc.1 hc.2.1 (hc.2.2.2.2.2.1.2.1.1 i hi).2.2.2 hS hj rfl hd (k p lc e R s m args below meth c H locs cells slots Z ls hc hP hS hl2 hf)
theorem am_getsC {ix : Nat} (hd : decode cc pc = .ok (.getstatic ix, 3)) (hl : Cond.fieldLink y.cls ix "java/lang/String" "COMPACT_STRINGS" "Z" ∈ ay_G) (k : wp g X y cc nL ret d (pc + 3) l (.int 1 :: st) w Q) : wp g X y cc nL ret d pc l st w Q :=
  fun p lc e R s m args below meth c H locs cells slots Z ls hc hP hS hl2 hf => va_gets hc.1 hc.2.1 hc.2.2.2.2.2.1.2.2.1 hS hc.2.2.2.1 (hc.2.2.2.2.1 _ hl) (fun _ h => h) hd (k p lc e R s m args below meth c H locs cells slots Z ls hc hP hS hl2 hf)
theorem am_getsF {ix : Nat} (hd : decode cc pc = .ok (.getstatic ix, 3)) (hl : Cond.fieldLink y.cls ix "jdk/internal/util/Preconditions" "SIOOBE_FORMATTER" "Ljava/util/function/BiFunction;" ∈ ay_G) (k1 : wp g X y cc nL ret d (pc + 3) l (.null :: st) w Q) (k2 : ∀ t, wp g X y cc nL ret d (pc + 3) l (.ref t :: st) w Q) : wp g X y cc nL ret d pc l st w Q := by
  intro p lc e R s m args below meth c H locs cells slots Z ls hc hP hS hl2 hf
  rcases hc.2.2.2.2.2.1.2.2.2.1 with h | ⟨t, h⟩
  · exact va_gets hc.1 hc.2.1 h hS hc.2.2.2.1 (hc.2.2.2.2.1 _ hl) (fun _ h => h) hd (k1 p lc e R s m args below meth c H locs cells slots Z ls hc hP hS hl2 hf)
  · exact va_gets hc.1 hc.2.1 h hS hc.2.2.2.1 (hc.2.2.2.2.1 _ hl) (fun _ h => h) hd (k2 t p lc e R s m args below meth c H locs cells slots Z ls hc hP hS hl2 hf)
theorem am_callX {y2 : MethodName} {cc2 : ByteArray} {nL2 : Nat} {ret2 : Option FieldType} {d2 ix n i : Nat} (hi : i < 5) (As : List Value) (hd : decode cc pc = .ok (.invokevirtual ix, 3)) (hm : ay_MI y2 cc2 nL2 ret2 n) (hl : Cond.methodLink y.cls ix y2 ∈ ay_G) (hin : Cond.instanceMethod y2 ∈ ay_G) (hse : Cond.selects "java/lang/String" y2 y2 ∈ ay_G) (hd2 : d2 < d) (hn : As.length = n) (hs : st = As.reverse ++ .ref (g.2.2.2.1 i) :: rest) (hr : (rest.map fun v => v.category).sum ≤ 8)
    (k : Call g y2 cc2 nL2 ret2 d2 (.ref (g.2.2.2.1 i) :: As) w (fun r w => wp g X y cc nL ret d (pc + 3) l (r.toList ++ rest) w Q)) : wp g X y cc nL ret d pc l st w Q := by
  intro p lc e R s m args below meth c H locs cells slots Z ls hc hP hS hl2 hf
  exact ay_back hc hS hl2 hf (va_runV (C := "java/lang/String") (nL := nL) (Ts := ay_G) (rest := rest) ⟨hc.1, hc.2.1, hc.2.2.1, hc.2.2.2.1, hc.2.2.2.2.1⟩ (k lc) ⟨ay_cb hc hm hl hd2, hc.2.2.2.2.1 _ hin, hc.2.2.2.2.1 _ hse⟩ ⟨ay_blind, vk_recv hc.2.2.2.2.2.1.2.1 hi hS, ay_pre hc.2.2.2.2.2.1 hP hS _⟩ rfl hn hl2.1 hs (ay_room hr) hd ⟨hc.2.2.2.2.2.2.2.2.1, hc.2.2.2.2.2.2.2.2.2.1⟩)
end STR
theorem ck_coder {g : ayG} {d i : Nat} (hi : i < 5) (w : Wd) (Q : Option Value → Wd → Prop) (h : Q (some (.int 0)) w) : Call g y_String_coder prog_18_method_152_code 1 (some FieldType.byte) d [.ref (g.2.2.2.1 i)] w Q := by
  refine am_enter mi_String_coder (Nat.le_of_ble_eq_true rfl) ?_
  show wp g (fun _ => True) y_String_coder prog_18_method_152_code 1 (some FieldType.byte) d 0 [(0, .ref (g.2.2.2.1 i))] [] w Q
  refine am_getsC d_String_coder_0 wd_336 ?_
  refine am_if_eq (tgt := 13) d_String_coder_3 (by decide) (fun c => absurd c (by decide)) (fun c => ?_)
  refine am_aload_n d_String_coder_6 0 rfl ?_
  refine am_strcod hi d_String_coder_7 wd_1683 ?_
  refine am_goto (tgt := 14) d_String_coder_10 (by decide) ?_
  exact am_ireturn d_String_coder_14 rfl rfl h
theorem ck_isLatin1 {g : ayG} {d i : Nat} (hi : i < 5) (w : Wd) (Q : Option Value → Wd → Prop) (h : Q (some (.int 1)) w) : Call g y_String_isLatin1 prog_18_method_154_code 1 (some FieldType.boolean) d [.ref (g.2.2.2.1 i)] w Q := by
  refine am_enter mi_String_isLatin1 (Nat.le_of_ble_eq_true rfl) ?_
  show wp g (fun _ => True) y_String_isLatin1 prog_18_method_154_code 1 (some FieldType.boolean) d 0 [(0, .ref (g.2.2.2.1 i))] [] w Q
  refine am_getsC d_String_isLatin1_0 wd_336 ?_
  refine am_if_eq (tgt := 17) d_String_isLatin1_3 (by decide) (fun c => absurd c (by decide)) (fun c => ?_)
  refine am_aload_n d_String_isLatin1_6 0 rfl ?_
  refine am_strcod hi d_String_isLatin1_7 wd_1683 ?_
  refine am_if_ne (tgt := 17) d_String_isLatin1_10 (by decide) (fun c => absurd rfl c) (fun c => ?_)
  refine am_iconst (v := 1) d_String_isLatin1_13 rfl ?_
  refine am_goto (tgt := 18) d_String_isLatin1_14 (by decide) ?_
  exact am_ireturn d_String_isLatin1_18 rfl rfl h
theorem ck_pre {g : ayG} {d : Nat} {a b : Int32} {v : Value} (hv : v = .null ∨ ∃ t, v = .ref t) (h1 : 0 ≤ a) (h2 : a < b) (w : Wd) (Q : Option Value → Wd → Prop) (h : Q (some (.int a)) w) : Call g y_Preconditions_checkIndex prog_22_method_11_code 3 (some FieldType.int) d [.int a, .int b, v] w Q := by
  have key : ∀ v : Value, v.category = 1 → wp g (fun _ => True) y_Preconditions_checkIndex prog_22_method_11_code 3 (some FieldType.int) d 0 [(0, .int a), (1, .int b), (2, v)] [] w Q := by
    intro v hv
    refine am_iload_n d_Preconditions_checkIndex_0 0 rfl ?_
    refine am_if_lt (tgt := 9) d_Preconditions_checkIndex_1 (by decide) (fun c => absurd h1 (Int32.not_le.mpr c)) (fun c => ?_)
    refine am_iload_n d_Preconditions_checkIndex_4 0 rfl ?_
    refine am_iload_n d_Preconditions_checkIndex_5 1 rfl ?_
    refine am_icmp_lt (tgt := 16) d_Preconditions_checkIndex_6 (by decide) (fun c => ?_) (fun c => absurd h2 c)
    refine am_iload_n d_Preconditions_checkIndex_16 0 rfl ?_
    exact am_ireturn d_Preconditions_checkIndex_17 rfl rfl h
  rcases hv with rfl | ⟨t, rfl⟩
  · exact am_enter mi_Preconditions_checkIndex (Nat.le_of_ble_eq_true rfl) (key _ rfl)
  · exact am_enter mi_Preconditions_checkIndex (Nat.le_of_ble_eq_true rfl) (key _ rfl)
theorem ck_check {g : ayG} {d : Nat} (hd : 1 ≤ d) {a b : Int32} (h1 : 0 ≤ a) (h2 : a < b) (w : Wd) (Q : Option Value → Wd → Prop) (h : Q none w) : Call g y_String_checkIndex prog_18_method_155_code 2 none d [.int a, .int b] w Q := by
  refine am_enter mi_String_checkIndex (Nat.le_of_ble_eq_true rfl) ?_
  show wp g (fun _ => True) y_String_checkIndex prog_18_method_155_code 2 none d 0 [(0, .int a), (1, .int b)] [] w Q
  refine am_iload_n d_String_checkIndex_0 0 rfl ?_
  refine am_iload_n d_String_checkIndex_1 1 rfl ?_
  refine am_getsF d_String_checkIndex_2 wd_352 ?_ (fun t => ?_)
  · refine am_callS (d2 := d - 1) [.int a, .int b, .null] d_String_checkIndex_5 mi_Preconditions_checkIndex wd_354 wd_355 (by omega) rfl rfl (Nat.le_of_ble_eq_true rfl) (ck_pre (Or.inl rfl) h1 h2 w _ ?_)
    show wp g (fun _ => True) y_String_checkIndex prog_18_method_155_code 2 none d 8 [(0, .int a), (1, .int b)] [.int a] w Q
    refine am_pop d_String_checkIndex_8 rfl ?_
    exact am_return d_String_checkIndex_9 rfl h
  · refine am_callS (d2 := d - 1) [.int a, .int b, .ref t] d_String_checkIndex_5 mi_Preconditions_checkIndex wd_354 wd_355 (by omega) rfl rfl (Nat.le_of_ble_eq_true rfl) (ck_pre (Or.inr ⟨t, rfl⟩) h1 h2 w _ ?_)
    show wp g (fun _ => True) y_String_checkIndex prog_18_method_155_code 2 none d 8 [(0, .int a), (1, .int b)] [.int a] w Q
    refine am_pop d_String_checkIndex_8 rfl ?_
    exact am_return d_String_checkIndex_9 rfl h
def ck_chr (i : Nat) (k : Int32) : Int32 := (ay_sbyt.getD i []).getD k.toNatClampNeg 0
theorem ck_lat {g : ayG} {d i : Nat} (hd : 2 ≤ d) (hi : i < 5) {k : Int32} (hk : vp_in k (ay_slen.getD i 0)) (w : Wd) (Q : Option Value → Wd → Prop) (h : Q (some (.int (ck_chr i k))) w) : Call g y_StringLatin1_charAt prog_19_method_2_code 2 (some FieldType.char) d [.ref (g.2.2.2.2 i), .int k] w Q := by
  refine am_enter mi_StringLatin1_charAt (Nat.le_of_ble_eq_true rfl) ?_
  show wp g (fun _ => True) y_StringLatin1_charAt prog_19_method_2_code 2 (some FieldType.char) d 0 [(0, .ref (g.2.2.2.2 i)), (1, .int k)] [] w Q
  have hlen : ay_slen.getD i 0 < 2 ^ 31 := (show ∀ i, i < 5 → ay_slen.getD i 0 < 2 ^ 31 by decide) i hi
  obtain ⟨j, hj, hkj⟩ := vp_in_of hk hlen
  have e1 : 0 ≤ k := by rw [hkj]; exact nI_pos' (by omega)
  have e2 : k < Int32.ofNat (ay_slen.getD i 0) := by rw [hkj]; exact nI_lt hj hlen
  have e3 : (ck_chr i k &&& 255).toUInt32 % 65536 = (ck_chr i k).toUInt32 ∧ narrow .char (.int (ck_chr i k)) = .int (ck_chr i k) := by
    unfold ck_chr
    rw [hkj, nI_clamp (by omega)]
    exact (show ∀ i, i < 5 → ∀ j, j < ay_slen.getD i 0 → ((((ay_sbyt.getD i []).getD j 0) &&& 255).toUInt32 % 65536 = ((ay_sbyt.getD i []).getD j 0).toUInt32 ∧ narrow .char (.int ((ay_sbyt.getD i []).getD j 0)) = .int ((ay_sbyt.getD i []).getD j 0)) by decide +kernel) i hi j hj
  refine am_iload_n d_StringLatin1_charAt_0 1 rfl ?_
  refine am_aload_n d_StringLatin1_charAt_1 0 rfl ?_
  refine am_strlen hi d_StringLatin1_charAt_2 rfl ?_
  refine am_callS (d2 := d - 1) [.int k, .int (Int32.ofNat (ay_slen.getD i 0))] d_StringLatin1_charAt_3 mi_String_checkIndex wd_349 wd_350 (by omega) rfl rfl (Nat.le_of_ble_eq_true rfl) (ck_check (by omega) e1 e2 w _ ?_)
  show wp g (fun _ => True) y_StringLatin1_charAt prog_19_method_2_code 2 (some FieldType.char) d 6 [(0, .ref (g.2.2.2.2 i)), (1, .int k)] [] w Q
  refine am_aload_n d_StringLatin1_charAt_6 0 rfl ?_
  refine am_iload_n d_StringLatin1_charAt_7 1 rfl ?_
  refine am_strb hi d_StringLatin1_charAt_8 hk ?_
  refine am_sipush (v := 255) d_StringLatin1_charAt_9 rfl ?_
  refine am_iand d_StringLatin1_charAt_12 ?_
  refine am_i2c d_StringLatin1_charAt_13 ?_
  have e4 : ((((ay_sbyt.getD i []).getD k.toNatClampNeg 0) &&& 255).toUInt32 % 65536).toInt32 = ck_chr i k := by
    show ((ck_chr i k &&& 255).toUInt32 % 65536).toInt32 = ck_chr i k
    rw [e3.1]
    rfl
  rw [e4]
  exact am_ireturn d_StringLatin1_charAt_14 rfl e3.2 h
def cf_String_length (i : Nat) (P : Int32 → Prop) : Prop := P (Int32.ofNat (ay_slen.getD i 0))
def cf_String_charAt (i : Nat) (k : Int32) (P : Int32 → Prop) : Prop := vp_in k (ay_slen.getD i 0) ∧ P (ck_chr i k)
theorem ck_length {g : ayG} {d i : Nat} (hd : 1 ≤ d) (hi : i < 5) (w : Wd) (Q : Option Value → Wd → Prop) (h : Q (some (.int (Int32.ofNat (ay_slen.getD i 0)))) w) : Call g y_String_length prog_18_method_54_code 1 (some FieldType.int) d [.ref (g.2.2.2.1 i)] w Q := by
  refine am_enter mi_String_length (Nat.le_of_ble_eq_true rfl) ?_
  show wp g (fun _ => True) y_String_length prog_18_method_54_code 1 (some FieldType.int) d 0 [(0, .ref (g.2.2.2.1 i))] [] w Q
  refine am_aload_n d_String_length_0 0 rfl ?_
  refine am_strval hi d_String_length_1 wd_1682 ?_
  refine am_strlen hi d_String_length_4 rfl ?_
  refine am_aload_n d_String_length_5 0 rfl ?_
  refine am_callX hi (d2 := d - 1) [] d_String_length_6 mi_String_coder wd_332 wd_333 wd_334 (by omega) rfl rfl (Nat.le_of_ble_eq_true rfl) (ck_coder hi w _ ?_)
  show wp g (fun _ => True) y_String_length prog_18_method_54_code 1 (some FieldType.int) d 9 [(0, .ref (g.2.2.2.1 i))] [.int 0, .int (Int32.ofNat (ay_slen.getD i 0))] w Q
  refine am_ishr d_String_length_9 ?_
  have e : ishr (Int32.ofNat (ay_slen.getD i 0)) 0 = Int32.ofNat (ay_slen.getD i 0) := (show ∀ i, i < 5 → ishr (Int32.ofNat (ay_slen.getD i 0)) 0 = Int32.ofNat (ay_slen.getD i 0) by decide +kernel) i hi
  rw [e]
  exact am_ireturn d_String_length_10 rfl rfl h
theorem ck_charAt {g : ayG} {d i : Nat} (hd : 3 ≤ d) (hi : i < 5) {k : Int32} (hk : vp_in k (ay_slen.getD i 0)) (w : Wd) (Q : Option Value → Wd → Prop) (h : Q (some (.int (ck_chr i k))) w) : Call g y_String_charAt prog_18_method_56_code 2 (some FieldType.char) d [.ref (g.2.2.2.1 i), .int k] w Q := by
  have hlen : ay_slen.getD i 0 < 2 ^ 31 := (show ∀ i, i < 5 → ay_slen.getD i 0 < 2 ^ 31 by decide) i hi
  obtain ⟨j, hj, hkj⟩ := vp_in_of hk hlen
  have e3 : narrow .char (.int (ck_chr i k)) = .int (ck_chr i k) := by
    unfold ck_chr
    rw [hkj, nI_clamp (by omega)]
    exact (show ∀ i, i < 5 → ∀ j, j < ay_slen.getD i 0 → narrow .char (.int ((ay_sbyt.getD i []).getD j 0)) = .int ((ay_sbyt.getD i []).getD j 0) by decide +kernel) i hi j hj
  refine am_enter mi_String_charAt (Nat.le_of_ble_eq_true rfl) ?_
  show wp g (fun _ => True) y_String_charAt prog_18_method_56_code 2 (some FieldType.char) d 0 [(0, .ref (g.2.2.2.1 i)), (1, .int k)] [] w Q
  refine am_aload_n d_String_charAt_0 0 rfl ?_
  refine am_callX hi (d2 := d - 1) [] d_String_charAt_1 mi_String_isLatin1 wd_342 wd_343 wd_344 (by omega) rfl rfl (Nat.le_of_ble_eq_true rfl) (ck_isLatin1 hi w _ ?_)
  show wp g (fun _ => True) y_String_charAt prog_18_method_56_code 2 (some FieldType.char) d 4 [(0, .ref (g.2.2.2.1 i)), (1, .int k)] [.int 1] w Q
  refine am_if_eq (tgt := 16) d_String_charAt_4 (by decide) (fun c => absurd c (by decide)) (fun c => ?_)
  refine am_aload_n d_String_charAt_7 0 rfl ?_
  refine am_strval hi d_String_charAt_8 wd_1682 ?_
  refine am_iload_n d_String_charAt_11 1 rfl ?_
  refine am_callS (d2 := d - 1) [.ref (g.2.2.2.2 i), .int k] d_String_charAt_12 mi_StringLatin1_charAt wd_346 wd_347 (by omega) rfl rfl (Nat.le_of_ble_eq_true rfl) (ck_lat (by omega) hi hk w _ ?_)
  show wp g (fun _ => True) y_String_charAt prog_18_method_56_code 2 (some FieldType.char) d 15 [(0, .ref (g.2.2.2.1 i)), (1, .int k)] [.int (ck_chr i k)] w Q
  exact am_ireturn d_String_charAt_15 rfl e3 h
section STR2
variable {g : ayG} {X : State → Prop} {y : MethodName} {cc : ByteArray} {nL : Nat} {ret : Option FieldType} {d pc : Nat} {l : List (Nat × Value)} {st rest : List Value} {w : Wd} {Q : Option Value → Wd → Prop}
theorem am_String_length {i ix : Nat} {P : Int32 → Prop} (hd0 : 6 < d) (hd : decode cc pc = .ok (.invokevirtual ix, 3)) (hl : Cond.methodLink y.cls ix y_String_length ∈ ay_G) (hi : i < 5) (hs : st = .ref (g.2.2.2.1 i) :: rest) (hr : (rest.map fun v => v.category).sum ≤ 8) (h : cf_String_length i P) (k : ∀ r, P r → wp g X y cc nL ret d (pc + 3) l (.int r :: rest) w Q) : wp g X y cc nL ret d pc l st w Q :=
  am_callX hi (d2 := d - 1) [] hd mi_String_length hl wd_329 wd_330 (by omega) rfl hs hr (ck_length (by omega) hi w _ (k _ h))
theorem am_String_charAt {i ix : Nat} {c : Int32} {P : Int32 → Prop} (hd0 : 6 < d) (hd : decode cc pc = .ok (.invokevirtual ix, 3)) (hl : Cond.methodLink y.cls ix y_String_charAt ∈ ay_G) (hi : i < 5) (hs : st = .int c :: .ref (g.2.2.2.1 i) :: rest) (hr : (rest.map fun v => v.category).sum ≤ 8) (h : cf_String_charAt i c P) (k : ∀ r, P r → wp g X y cc nL ret d (pc + 3) l (.int r :: rest) w Q) : wp g X y cc nL ret d pc l st w Q :=
  am_callX hi (d2 := d - 1) [.int c] hd mi_String_charAt hl wd_339 wd_340 (by omega) rfl hs hr (ck_charAt (by omega) hi h.1 w _ (k _ h.2))
end STR2
end
