-- ===== PART A: goes FIRST, ahead of the names: the tables' words, and 'selects' of the private methods out of them =====
/-- a private method of a class that the tables say can be made, by its rows of tables_1 -/
def lw_okq (q : MethodName × Nat) : Prop := (q.1.cls ≠ "java/lang/invoke/MethodHandle" ∧ q.1.cls ≠ "java/lang/invoke/VarHandle") ∧ Cond.instantiable q.1.cls q.2 ∈ tables_1 ∧ Cond.privateMethod q.1 ∈ tables_1 ∧ Cond.instanceMethod q.1 ∈ tables_1
theorem lw_p0 : lw_okq (⟨"FewProducts$Scheme", "addOnes", "(III)V"⟩, 6) := ⟨⟨by decide +kernel, by decide +kernel⟩, List.mem_of_getElem? (i := 77) (by decide +kernel), List.mem_of_getElem? (i := 243) (by decide +kernel), List.mem_of_getElem? (i := 244) (by decide +kernel)⟩
theorem lw_p1 : lw_okq (⟨"FewProducts$Text", "takeProduct", "(LFewProducts$Scheme;)Z"⟩, 4) := ⟨⟨by decide +kernel, by decide +kernel⟩, List.mem_of_getElem? (i := 30) (by decide +kernel), List.mem_of_getElem? (i := 336) (by decide +kernel), List.mem_of_getElem? (i := 337) (by decide +kernel)⟩
theorem lw_p2 : lw_okq (⟨"FewProducts$Text", "take", "(C)Z"⟩, 4) := ⟨⟨by decide +kernel, by decide +kernel⟩, List.mem_of_getElem? (i := 30) (by decide +kernel), List.mem_of_getElem? (i := 341) (by decide +kernel), List.mem_of_getElem? (i := 342) (by decide +kernel)⟩
theorem lw_p3 : lw_okq (⟨"FewProducts$Text", "peek", "()I"⟩, 4) := ⟨⟨by decide +kernel, by decide +kernel⟩, List.mem_of_getElem? (i := 30) (by decide +kernel), List.mem_of_getElem? (i := 345) (by decide +kernel), List.mem_of_getElem? (i := 346) (by decide +kernel)⟩
theorem lw_p4 : lw_okq (⟨"FewProducts$Text", "takeForm", "(LFewProducts$Scheme;I)Z"⟩, 4) := ⟨⟨by decide +kernel, by decide +kernel⟩, List.mem_of_getElem? (i := 30) (by decide +kernel), List.mem_of_getElem? (i := 353) (by decide +kernel), List.mem_of_getElem? (i := 354) (by decide +kernel)⟩
theorem lw_p5 : lw_okq (⟨"FewProducts$Text", "takeTerm", "(LFewProducts$Scheme;II)Z"⟩, 4) := ⟨⟨by decide +kernel, by decide +kernel⟩, List.mem_of_getElem? (i := 30) (by decide +kernel), List.mem_of_getElem? (i := 357) (by decide +kernel), List.mem_of_getElem? (i := 358) (by decide +kernel)⟩
theorem lw_p6 : lw_okq (⟨"FewProducts$Text", "restFault", "()I"⟩, 4) := ⟨⟨by decide +kernel, by decide +kernel⟩, List.mem_of_getElem? (i := 30) (by decide +kernel), List.mem_of_getElem? (i := 378) (by decide +kernel), List.mem_of_getElem? (i := 379) (by decide +kernel)⟩
theorem lw_p7 : lw_okq (⟨"FewProducts", "tellFirst", "(IIII)V"⟩, 11) := ⟨⟨by decide +kernel, by decide +kernel⟩, List.mem_of_getElem? (i := 22) (by decide +kernel), List.mem_of_getElem? (i := 481) (by decide +kernel), List.mem_of_getElem? (i := 482) (by decide +kernel)⟩
theorem lw_p8 : lw_okq (⟨"FewProducts", "tellThree", "(III)V"⟩, 11) := ⟨⟨by decide +kernel, by decide +kernel⟩, List.mem_of_getElem? (i := 22) (by decide +kernel), List.mem_of_getElem? (i := 485) (by decide +kernel), List.mem_of_getElem? (i := 486) (by decide +kernel)⟩
theorem lw_p9 : lw_okq (⟨"FewProducts$Factors", "weigh", "(III)I"⟩, 1) := ⟨⟨by decide +kernel, by decide +kernel⟩, List.mem_of_getElem? (i := 125) (by decide +kernel), List.mem_of_getElem? (i := 516) (by decide +kernel), List.mem_of_getElem? (i := 517) (by decide +kernel)⟩
theorem lw_p10 : lw_okq (⟨"FewProducts$Shedder", "isSumOfAhead", "(LFewProducts$Scheme;III)Z"⟩, 3) := ⟨⟨by decide +kernel, by decide +kernel⟩, List.mem_of_getElem? (i := 153) (by decide +kernel), List.mem_of_getElem? (i := 631) (by decide +kernel), List.mem_of_getElem? (i := 632) (by decide +kernel)⟩
theorem lw_p11 : lw_okq (⟨"FewProducts$Basis", "reduce", "(I)V"⟩, 7) := ⟨⟨by decide +kernel, by decide +kernel⟩, List.mem_of_getElem? (i := 159) (by decide +kernel), List.mem_of_getElem? (i := 646) (by decide +kernel), List.mem_of_getElem? (i := 647) (by decide +kernel)⟩
theorem lw_p12 : lw_okq (⟨"FewProducts$Shedder", "share", "(LFewProducts$Scheme;II)V"⟩, 3) := ⟨⟨by decide +kernel, by decide +kernel⟩, List.mem_of_getElem? (i := 153) (by decide +kernel), List.mem_of_getElem? (i := 665) (by decide +kernel), List.mem_of_getElem? (i := 666) (by decide +kernel)⟩
theorem lw_p13 : lw_okq (⟨"FewProducts", "isFactor", "(I)Z"⟩, 11) := ⟨⟨by decide +kernel, by decide +kernel⟩, List.mem_of_getElem? (i := 22) (by decide +kernel), List.mem_of_getElem? (i := 695) (by decide +kernel), List.mem_of_getElem? (i := 696) (by decide +kernel)⟩
theorem lw_p14 : lw_okq (⟨"FewProducts", "isLine", "(II)Z"⟩, 11) := ⟨⟨by decide +kernel, by decide +kernel⟩, List.mem_of_getElem? (i := 22) (by decide +kernel), List.mem_of_getElem? (i := 708) (by decide +kernel), List.mem_of_getElem? (i := 709) (by decide +kernel)⟩
theorem lw_p15 : lw_okq (⟨"FewProducts", "asSpare", "()I"⟩, 11) := ⟨⟨by decide +kernel, by decide +kernel⟩, List.mem_of_getElem? (i := 22) (by decide +kernel), List.mem_of_getElem? (i := 816) (by decide +kernel), List.mem_of_getElem? (i := 817) (by decide +kernel)⟩
def lw_privs_1 : List (MethodName × Nat) := [(⟨"FewProducts$Scheme", "addOnes", "(III)V"⟩, 6), (⟨"FewProducts$Text", "takeProduct", "(LFewProducts$Scheme;)Z"⟩, 4), (⟨"FewProducts$Text", "take", "(C)Z"⟩, 4), (⟨"FewProducts$Text", "peek", "()I"⟩, 4), (⟨"FewProducts$Text", "takeForm", "(LFewProducts$Scheme;I)Z"⟩, 4), (⟨"FewProducts$Text", "takeTerm", "(LFewProducts$Scheme;II)Z"⟩, 4), (⟨"FewProducts$Text", "restFault", "()I"⟩, 4), (⟨"FewProducts", "tellFirst", "(IIII)V"⟩, 11), (⟨"FewProducts", "tellThree", "(III)V"⟩, 11), (⟨"FewProducts$Factors", "weigh", "(III)I"⟩, 1), (⟨"FewProducts$Shedder", "isSumOfAhead", "(LFewProducts$Scheme;III)Z"⟩, 3), (⟨"FewProducts$Basis", "reduce", "(I)V"⟩, 7), (⟨"FewProducts$Shedder", "share", "(LFewProducts$Scheme;II)V"⟩, 3), (⟨"FewProducts", "isFactor", "(I)Z"⟩, 11), (⟨"FewProducts", "isLine", "(II)Z"⟩, 11), (⟨"FewProducts", "asSpare", "()I"⟩, 11)]
theorem lw_r1 : ∀ q ∈ lw_privs_1, lw_okq q := List.forall_mem_cons.mpr ⟨lw_p0, List.forall_mem_cons.mpr ⟨lw_p1, List.forall_mem_cons.mpr ⟨lw_p2, List.forall_mem_cons.mpr ⟨lw_p3, List.forall_mem_cons.mpr ⟨lw_p4, List.forall_mem_cons.mpr ⟨lw_p5, List.forall_mem_cons.mpr ⟨lw_p6, List.forall_mem_cons.mpr ⟨lw_p7, List.forall_mem_cons.mpr ⟨lw_p8, List.forall_mem_cons.mpr ⟨lw_p9, List.forall_mem_cons.mpr ⟨lw_p10, List.forall_mem_cons.mpr ⟨lw_p11, List.forall_mem_cons.mpr ⟨lw_p12, List.forall_mem_cons.mpr ⟨lw_p13, List.forall_mem_cons.mpr ⟨lw_p14, List.forall_mem_cons.mpr ⟨lw_p15, fun _ h => absurd h List.not_mem_nil⟩⟩⟩⟩⟩⟩⟩⟩⟩⟩⟩⟩⟩⟩⟩⟩
theorem lw_p16 : lw_okq (⟨"FewProducts$Lifting", "start", "(LFewProducts$Scheme;)V"⟩, 6) := ⟨⟨by decide +kernel, by decide +kernel⟩, List.mem_of_getElem? (i := 207) (by decide +kernel), List.mem_of_getElem? (i := 888) (by decide +kernel), List.mem_of_getElem? (i := 889) (by decide +kernel)⟩
theorem lw_p17 : lw_okq (⟨"FewProducts$Lifting", "setUnknown", "(LFewProducts$Scheme;III)V"⟩, 6) := ⟨⟨by decide +kernel, by decide +kernel⟩, List.mem_of_getElem? (i := 207) (by decide +kernel), List.mem_of_getElem? (i := 895) (by decide +kernel), List.mem_of_getElem? (i := 896) (by decide +kernel)⟩
theorem lw_p18 : lw_okq (⟨"FewProducts$Lifting", "clearColumn", "()V"⟩, 6) := ⟨⟨by decide +kernel, by decide +kernel⟩, List.mem_of_getElem? (i := 207) (by decide +kernel), List.mem_of_getElem? (i := 899) (by decide +kernel), List.mem_of_getElem? (i := 900) (by decide +kernel)⟩
theorem lw_p19 : lw_okq (⟨"FewProducts$Lifting", "setBit", "(I)V"⟩, 6) := ⟨⟨by decide +kernel, by decide +kernel⟩, List.mem_of_getElem? (i := 207) (by decide +kernel), List.mem_of_getElem? (i := 907) (by decide +kernel), List.mem_of_getElem? (i := 908) (by decide +kernel)⟩
theorem lw_p20 : lw_okq (⟨"FewProducts$Lifting", "takeColumn", "()V"⟩, 6) := ⟨⟨by decide +kernel, by decide +kernel⟩, List.mem_of_getElem? (i := 207) (by decide +kernel), List.mem_of_getElem? (i := 912) (by decide +kernel), List.mem_of_getElem? (i := 913) (by decide +kernel)⟩
theorem lw_p21 : lw_okq (⟨"FewProducts$Lifting", "reduce", "()I"⟩, 6) := ⟨⟨by decide +kernel, by decide +kernel⟩, List.mem_of_getElem? (i := 207) (by decide +kernel), List.mem_of_getElem? (i := 916) (by decide +kernel), List.mem_of_getElem? (i := 917) (by decide +kernel)⟩
theorem lw_p22 : lw_okq (⟨"FewProducts$Lifting", "hasBit", "(I)Z"⟩, 6) := ⟨⟨by decide +kernel, by decide +kernel⟩, List.mem_of_getElem? (i := 207) (by decide +kernel), List.mem_of_getElem? (i := 920) (by decide +kernel), List.mem_of_getElem? (i := 921) (by decide +kernel)⟩
theorem lw_p23 : lw_okq (⟨"FewProducts$Lifting", "lessPivot", "(I)V"⟩, 6) := ⟨⟨by decide +kernel, by decide +kernel⟩, List.mem_of_getElem? (i := 207) (by decide +kernel), List.mem_of_getElem? (i := 924) (by decide +kernel), List.mem_of_getElem? (i := 925) (by decide +kernel)⟩
theorem lw_p24 : lw_okq (⟨"FewProducts$Lifting", "setRightSides", "(LFewProducts$Scheme;)V"⟩, 6) := ⟨⟨by decide +kernel, by decide +kernel⟩, List.mem_of_getElem? (i := 207) (by decide +kernel), List.mem_of_getElem? (i := 928) (by decide +kernel), List.mem_of_getElem? (i := 929) (by decide +kernel)⟩
theorem lw_p25 : lw_okq (⟨"java/lang/Throwable", "fillInStackTrace", "(I)Ljava/lang/Throwable;"⟩, 6) := ⟨⟨by decide +kernel, by decide +kernel⟩, List.mem_of_getElem? (i := 995) (by decide +kernel), List.mem_of_getElem? (i := 993) (by decide +kernel), List.mem_of_getElem? (i := 994) (by decide +kernel)⟩
theorem lw_p26 : lw_okq (⟨"FewProductsModel", "laysPlain", "()V"⟩, 33) := ⟨⟨by decide +kernel, by decide +kernel⟩, List.mem_of_getElem? (i := 1024) (by decide +kernel), List.mem_of_getElem? (i := 1030) (by decide +kernel), List.mem_of_getElem? (i := 1031) (by decide +kernel)⟩
theorem lw_p27 : lw_okq (⟨"FewProductsModel", "addsPlain", "(III)V"⟩, 33) := ⟨⟨by decide +kernel, by decide +kernel⟩, List.mem_of_getElem? (i := 1024) (by decide +kernel), List.mem_of_getElem? (i := 1034) (by decide +kernel), List.mem_of_getElem? (i := 1035) (by decide +kernel)⟩
theorem lw_p28 : lw_okq (⟨"FewProductsModel", "clears", "(I)V"⟩, 33) := ⟨⟨by decide +kernel, by decide +kernel⟩, List.mem_of_getElem? (i := 1024) (by decide +kernel), List.mem_of_getElem? (i := 1038) (by decide +kernel), List.mem_of_getElem? (i := 1039) (by decide +kernel)⟩
theorem lw_p29 : lw_okq (⟨"FewProductsModel", "begin", "()V"⟩, 33) := ⟨⟨by decide +kernel, by decide +kernel⟩, List.mem_of_getElem? (i := 1024) (by decide +kernel), List.mem_of_getElem? (i := 1172) (by decide +kernel), List.mem_of_getElem? (i := 1173) (by decide +kernel)⟩
theorem lw_p30 : lw_okq (⟨"FewProductsModel", "readProduct", "()V"⟩, 33) := ⟨⟨by decide +kernel, by decide +kernel⟩, List.mem_of_getElem? (i := 1024) (by decide +kernel), List.mem_of_getElem? (i := 1176) (by decide +kernel), List.mem_of_getElem? (i := 1177) (by decide +kernel)⟩
theorem lw_p31 : lw_okq (⟨"FewProductsModel", "expect", "(C)V"⟩, 33) := ⟨⟨by decide +kernel, by decide +kernel⟩, List.mem_of_getElem? (i := 1024) (by decide +kernel), List.mem_of_getElem? (i := 1180) (by decide +kernel), List.mem_of_getElem? (i := 1181) (by decide +kernel)⟩
def lw_privs_2 : List (MethodName × Nat) := [(⟨"FewProducts$Lifting", "start", "(LFewProducts$Scheme;)V"⟩, 6), (⟨"FewProducts$Lifting", "setUnknown", "(LFewProducts$Scheme;III)V"⟩, 6), (⟨"FewProducts$Lifting", "clearColumn", "()V"⟩, 6), (⟨"FewProducts$Lifting", "setBit", "(I)V"⟩, 6), (⟨"FewProducts$Lifting", "takeColumn", "()V"⟩, 6), (⟨"FewProducts$Lifting", "reduce", "()I"⟩, 6), (⟨"FewProducts$Lifting", "hasBit", "(I)Z"⟩, 6), (⟨"FewProducts$Lifting", "lessPivot", "(I)V"⟩, 6), (⟨"FewProducts$Lifting", "setRightSides", "(LFewProducts$Scheme;)V"⟩, 6), (⟨"java/lang/Throwable", "fillInStackTrace", "(I)Ljava/lang/Throwable;"⟩, 6), (⟨"FewProductsModel", "laysPlain", "()V"⟩, 33), (⟨"FewProductsModel", "addsPlain", "(III)V"⟩, 33), (⟨"FewProductsModel", "clears", "(I)V"⟩, 33), (⟨"FewProductsModel", "begin", "()V"⟩, 33), (⟨"FewProductsModel", "readProduct", "()V"⟩, 33), (⟨"FewProductsModel", "expect", "(C)V"⟩, 33)]
theorem lw_r2 : ∀ q ∈ lw_privs_2, lw_okq q := List.forall_mem_cons.mpr ⟨lw_p16, List.forall_mem_cons.mpr ⟨lw_p17, List.forall_mem_cons.mpr ⟨lw_p18, List.forall_mem_cons.mpr ⟨lw_p19, List.forall_mem_cons.mpr ⟨lw_p20, List.forall_mem_cons.mpr ⟨lw_p21, List.forall_mem_cons.mpr ⟨lw_p22, List.forall_mem_cons.mpr ⟨lw_p23, List.forall_mem_cons.mpr ⟨lw_p24, List.forall_mem_cons.mpr ⟨lw_p25, List.forall_mem_cons.mpr ⟨lw_p26, List.forall_mem_cons.mpr ⟨lw_p27, List.forall_mem_cons.mpr ⟨lw_p28, List.forall_mem_cons.mpr ⟨lw_p29, List.forall_mem_cons.mpr ⟨lw_p30, List.forall_mem_cons.mpr ⟨lw_p31, fun _ h => absurd h List.not_mem_nil⟩⟩⟩⟩⟩⟩⟩⟩⟩⟩⟩⟩⟩⟩⟩⟩
theorem lw_p32 : lw_okq (⟨"FewProductsModel", "passes", "(C)Z"⟩, 33) := ⟨⟨by decide +kernel, by decide +kernel⟩, List.mem_of_getElem? (i := 1024) (by decide +kernel), List.mem_of_getElem? (i := 1184) (by decide +kernel), List.mem_of_getElem? (i := 1185) (by decide +kernel)⟩
theorem lw_p33 : lw_okq (⟨"FewProductsModel", "sees", "()I"⟩, 33) := ⟨⟨by decide +kernel, by decide +kernel⟩, List.mem_of_getElem? (i := 1024) (by decide +kernel), List.mem_of_getElem? (i := 1188) (by decide +kernel), List.mem_of_getElem? (i := 1189) (by decide +kernel)⟩
theorem lw_p34 : lw_okq (⟨"FewProductsModel", "fault", "(I)V"⟩, 33) := ⟨⟨by decide +kernel, by decide +kernel⟩, List.mem_of_getElem? (i := 1024) (by decide +kernel), List.mem_of_getElem? (i := 1192) (by decide +kernel), List.mem_of_getElem? (i := 1193) (by decide +kernel)⟩
theorem lw_p35 : lw_okq (⟨"FewProductsModel", "readForm", "(II)V"⟩, 33) := ⟨⟨by decide +kernel, by decide +kernel⟩, List.mem_of_getElem? (i := 1024) (by decide +kernel), List.mem_of_getElem? (i := 1196) (by decide +kernel), List.mem_of_getElem? (i := 1197) (by decide +kernel)⟩
theorem lw_p36 : lw_okq (⟨"FewProductsModel", "readTerm", "(IIZ)V"⟩, 33) := ⟨⟨by decide +kernel, by decide +kernel⟩, List.mem_of_getElem? (i := 1024) (by decide +kernel), List.mem_of_getElem? (i := 1200) (by decide +kernel), List.mem_of_getElem? (i := 1201) (by decide +kernel)⟩
theorem lw_p37 : lw_okq (⟨"FewProductsModel", "rowsOf", "(I)I"⟩, 33) := ⟨⟨by decide +kernel, by decide +kernel⟩, List.mem_of_getElem? (i := 1024) (by decide +kernel), List.mem_of_getElem? (i := 1204) (by decide +kernel), List.mem_of_getElem? (i := 1205) (by decide +kernel)⟩
theorem lw_p38 : lw_okq (⟨"FewProductsModel", "readSide", "(I)I"⟩, 33) := ⟨⟨by decide +kernel, by decide +kernel⟩, List.mem_of_getElem? (i := 1024) (by decide +kernel), List.mem_of_getElem? (i := 1208) (by decide +kernel), List.mem_of_getElem? (i := 1209) (by decide +kernel)⟩
theorem lw_p39 : lw_okq (⟨"FewProductsModel", "columnsOf", "(I)I"⟩, 33) := ⟨⟨by decide +kernel, by decide +kernel⟩, List.mem_of_getElem? (i := 1024) (by decide +kernel), List.mem_of_getElem? (i := 1212) (by decide +kernel), List.mem_of_getElem? (i := 1213) (by decide +kernel)⟩
theorem lw_p40 : lw_okq (⟨"FewProductsModel", "ends", "()V"⟩, 33) := ⟨⟨by decide +kernel, by decide +kernel⟩, List.mem_of_getElem? (i := 1024) (by decide +kernel), List.mem_of_getElem? (i := 1216) (by decide +kernel), List.mem_of_getElem? (i := 1217) (by decide +kernel)⟩
theorem lw_p41 : lw_okq (⟨"FewProductsModel", "told", "()I"⟩, 33) := ⟨⟨by decide +kernel, by decide +kernel⟩, List.mem_of_getElem? (i := 1024) (by decide +kernel), List.mem_of_getElem? (i := 1220) (by decide +kernel), List.mem_of_getElem? (i := 1221) (by decide +kernel)⟩
theorem lw_p42 : lw_okq (⟨"FewProductsModel", "isProduct", "(I)Z"⟩, 33) := ⟨⟨by decide +kernel, by decide +kernel⟩, List.mem_of_getElem? (i := 1024) (by decide +kernel), List.mem_of_getElem? (i := 1232) (by decide +kernel), List.mem_of_getElem? (i := 1233) (by decide +kernel)⟩
theorem lw_p43 : lw_okq (⟨"FewProductsModel", "goes", "(I)V"⟩, 33) := ⟨⟨by decide +kernel, by decide +kernel⟩, List.mem_of_getElem? (i := 1024) (by decide +kernel), List.mem_of_getElem? (i := 1236) (by decide +kernel), List.mem_of_getElem? (i := 1237) (by decide +kernel)⟩
theorem lw_p44 : lw_okq (⟨"FewProductsModel", "isPlace", "(II)Z"⟩, 33) := ⟨⟨by decide +kernel, by decide +kernel⟩, List.mem_of_getElem? (i := 1024) (by decide +kernel), List.mem_of_getElem? (i := 1251) (by decide +kernel), List.mem_of_getElem? (i := 1252) (by decide +kernel)⟩
theorem lw_p45 : lw_okq (⟨"FewProductsModel", "placesOf", "(I)I"⟩, 33) := ⟨⟨by decide +kernel, by decide +kernel⟩, List.mem_of_getElem? (i := 1024) (by decide +kernel), List.mem_of_getElem? (i := 1255) (by decide +kernel), List.mem_of_getElem? (i := 1256) (by decide +kernel)⟩
theorem lw_p46 : lw_okq (⟨"FewProductsModel", "looks", "()V"⟩, 33) := ⟨⟨by decide +kernel, by decide +kernel⟩, List.mem_of_getElem? (i := 1024) (by decide +kernel), List.mem_of_getElem? (i := 1263) (by decide +kernel), List.mem_of_getElem? (i := 1264) (by decide +kernel)⟩
theorem lw_p47 : lw_okq (⟨"FewProductsModel", "wholeGiven", "(III)I"⟩, 33) := ⟨⟨by decide +kernel, by decide +kernel⟩, List.mem_of_getElem? (i := 1024) (by decide +kernel), List.mem_of_getElem? (i := 1267) (by decide +kernel), List.mem_of_getElem? (i := 1268) (by decide +kernel)⟩
def lw_privs_3 : List (MethodName × Nat) := [(⟨"FewProductsModel", "passes", "(C)Z"⟩, 33), (⟨"FewProductsModel", "sees", "()I"⟩, 33), (⟨"FewProductsModel", "fault", "(I)V"⟩, 33), (⟨"FewProductsModel", "readForm", "(II)V"⟩, 33), (⟨"FewProductsModel", "readTerm", "(IIZ)V"⟩, 33), (⟨"FewProductsModel", "rowsOf", "(I)I"⟩, 33), (⟨"FewProductsModel", "readSide", "(I)I"⟩, 33), (⟨"FewProductsModel", "columnsOf", "(I)I"⟩, 33), (⟨"FewProductsModel", "ends", "()V"⟩, 33), (⟨"FewProductsModel", "told", "()I"⟩, 33), (⟨"FewProductsModel", "isProduct", "(I)Z"⟩, 33), (⟨"FewProductsModel", "goes", "(I)V"⟩, 33), (⟨"FewProductsModel", "isPlace", "(II)Z"⟩, 33), (⟨"FewProductsModel", "placesOf", "(I)I"⟩, 33), (⟨"FewProductsModel", "looks", "()V"⟩, 33), (⟨"FewProductsModel", "wholeGiven", "(III)I"⟩, 33)]
theorem lw_r3 : ∀ q ∈ lw_privs_3, lw_okq q := List.forall_mem_cons.mpr ⟨lw_p32, List.forall_mem_cons.mpr ⟨lw_p33, List.forall_mem_cons.mpr ⟨lw_p34, List.forall_mem_cons.mpr ⟨lw_p35, List.forall_mem_cons.mpr ⟨lw_p36, List.forall_mem_cons.mpr ⟨lw_p37, List.forall_mem_cons.mpr ⟨lw_p38, List.forall_mem_cons.mpr ⟨lw_p39, List.forall_mem_cons.mpr ⟨lw_p40, List.forall_mem_cons.mpr ⟨lw_p41, List.forall_mem_cons.mpr ⟨lw_p42, List.forall_mem_cons.mpr ⟨lw_p43, List.forall_mem_cons.mpr ⟨lw_p44, List.forall_mem_cons.mpr ⟨lw_p45, List.forall_mem_cons.mpr ⟨lw_p46, List.forall_mem_cons.mpr ⟨lw_p47, fun _ h => absurd h List.not_mem_nil⟩⟩⟩⟩⟩⟩⟩⟩⟩⟩⟩⟩⟩⟩⟩⟩
theorem lw_p48 : lw_okq (⟨"FewProductsModel", "needed", "(III)I"⟩, 33) := ⟨⟨by decide +kernel, by decide +kernel⟩, List.mem_of_getElem? (i := 1024) (by decide +kernel), List.mem_of_getElem? (i := 1271) (by decide +kernel), List.mem_of_getElem? (i := 1272) (by decide +kernel)⟩
theorem lw_p49 : lw_okq (⟨"FewProductsModel", "tell", "(J)V"⟩, 33) := ⟨⟨by decide +kernel, by decide +kernel⟩, List.mem_of_getElem? (i := 1024) (by decide +kernel), List.mem_of_getElem? (i := 1275) (by decide +kernel), List.mem_of_getElem? (i := 1276) (by decide +kernel)⟩
theorem lw_p50 : lw_okq (⟨"FewProductsModel", "readTables", "(I)V"⟩, 33) := ⟨⟨by decide +kernel, by decide +kernel⟩, List.mem_of_getElem? (i := 1024) (by decide +kernel), List.mem_of_getElem? (i := 1287) (by decide +kernel), List.mem_of_getElem? (i := 1288) (by decide +kernel)⟩
theorem lw_p51 : lw_okq (⟨"FewProductsModel", "madeOf", "(III)I"⟩, 33) := ⟨⟨by decide +kernel, by decide +kernel⟩, List.mem_of_getElem? (i := 1024) (by decide +kernel), List.mem_of_getElem? (i := 1291) (by decide +kernel), List.mem_of_getElem? (i := 1292) (by decide +kernel)⟩
theorem lw_p52 : lw_okq (⟨"FewProductsModel", "fullOf", "(II)I"⟩, 33) := ⟨⟨by decide +kernel, by decide +kernel⟩, List.mem_of_getElem? (i := 1024) (by decide +kernel), List.mem_of_getElem? (i := 1299) (by decide +kernel), List.mem_of_getElem? (i := 1300) (by decide +kernel)⟩
theorem lw_p53 : lw_okq (⟨"FewProductsModel", "likeAt", "(III)I"⟩, 33) := ⟨⟨by decide +kernel, by decide +kernel⟩, List.mem_of_getElem? (i := 1024) (by decide +kernel), List.mem_of_getElem? (i := 1310) (by decide +kernel), List.mem_of_getElem? (i := 1311) (by decide +kernel)⟩
theorem lw_p54 : lw_okq (⟨"FewProductsModel", "likeOf", "([II[II)I"⟩, 33) := ⟨⟨by decide +kernel, by decide +kernel⟩, List.mem_of_getElem? (i := 1024) (by decide +kernel), List.mem_of_getElem? (i := 1314) (by decide +kernel), List.mem_of_getElem? (i := 1315) (by decide +kernel)⟩
theorem lw_p55 : lw_okq (⟨"FewProductsModel", "flipsAt", "(I)I"⟩, 33) := ⟨⟨by decide +kernel, by decide +kernel⟩, List.mem_of_getElem? (i := 1024) (by decide +kernel), List.mem_of_getElem? (i := 1325) (by decide +kernel), List.mem_of_getElem? (i := 1326) (by decide +kernel)⟩
theorem lw_p56 : lw_okq (⟨"FewProductsModel", "goFlip", "(III)V"⟩, 33) := ⟨⟨by decide +kernel, by decide +kernel⟩, List.mem_of_getElem? (i := 1024) (by decide +kernel), List.mem_of_getElem? (i := 1333) (by decide +kernel), List.mem_of_getElem? (i := 1334) (by decide +kernel)⟩
theorem lw_p57 : lw_okq (⟨"FewProductsModel", "mod", "(I)I"⟩, 33) := ⟨⟨by decide +kernel, by decide +kernel⟩, List.mem_of_getElem? (i := 1024) (by decide +kernel), List.mem_of_getElem? (i := 1337) (by decide +kernel), List.mem_of_getElem? (i := 1338) (by decide +kernel)⟩
theorem lw_p58 : lw_okq (⟨"FewProductsModel", "zeroMany", "()I"⟩, 33) := ⟨⟨by decide +kernel, by decide +kernel⟩, List.mem_of_getElem? (i := 1024) (by decide +kernel), List.mem_of_getElem? (i := 1341) (by decide +kernel), List.mem_of_getElem? (i := 1342) (by decide +kernel)⟩
theorem lw_p59 : lw_okq (⟨"FewProductsModel", "hasZero", "(I)Z"⟩, 33) := ⟨⟨by decide +kernel, by decide +kernel⟩, List.mem_of_getElem? (i := 1024) (by decide +kernel), List.mem_of_getElem? (i := 1345) (by decide +kernel), List.mem_of_getElem? (i := 1346) (by decide +kernel)⟩
theorem lw_p60 : lw_okq (⟨"FewProductsModel", "joinsAll", "()V"⟩, 33) := ⟨⟨by decide +kernel, by decide +kernel⟩, List.mem_of_getElem? (i := 1024) (by decide +kernel), List.mem_of_getElem? (i := 1353) (by decide +kernel), List.mem_of_getElem? (i := 1354) (by decide +kernel)⟩
theorem lw_p61 : lw_okq (⟨"FewProductsModel", "firstZero", "()I"⟩, 33) := ⟨⟨by decide +kernel, by decide +kernel⟩, List.mem_of_getElem? (i := 1024) (by decide +kernel), List.mem_of_getElem? (i := 1357) (by decide +kernel), List.mem_of_getElem? (i := 1358) (by decide +kernel)⟩
theorem lw_p62 : lw_okq (⟨"FewProductsModel", "joinsTwo", "()Z"⟩, 33) := ⟨⟨by decide +kernel, by decide +kernel⟩, List.mem_of_getElem? (i := 1024) (by decide +kernel), List.mem_of_getElem? (i := 1361) (by decide +kernel), List.mem_of_getElem? (i := 1362) (by decide +kernel)⟩
theorem lw_p63 : lw_okq (⟨"FewProductsModel", "shedsOne", "()I"⟩, 33) := ⟨⟨by decide +kernel, by decide +kernel⟩, List.mem_of_getElem? (i := 1024) (by decide +kernel), List.mem_of_getElem? (i := 1369) (by decide +kernel), List.mem_of_getElem? (i := 1370) (by decide +kernel)⟩
def lw_privs_4 : List (MethodName × Nat) := [(⟨"FewProductsModel", "needed", "(III)I"⟩, 33), (⟨"FewProductsModel", "tell", "(J)V"⟩, 33), (⟨"FewProductsModel", "readTables", "(I)V"⟩, 33), (⟨"FewProductsModel", "madeOf", "(III)I"⟩, 33), (⟨"FewProductsModel", "fullOf", "(II)I"⟩, 33), (⟨"FewProductsModel", "likeAt", "(III)I"⟩, 33), (⟨"FewProductsModel", "likeOf", "([II[II)I"⟩, 33), (⟨"FewProductsModel", "flipsAt", "(I)I"⟩, 33), (⟨"FewProductsModel", "goFlip", "(III)V"⟩, 33), (⟨"FewProductsModel", "mod", "(I)I"⟩, 33), (⟨"FewProductsModel", "zeroMany", "()I"⟩, 33), (⟨"FewProductsModel", "hasZero", "(I)Z"⟩, 33), (⟨"FewProductsModel", "joinsAll", "()V"⟩, 33), (⟨"FewProductsModel", "firstZero", "()I"⟩, 33), (⟨"FewProductsModel", "joinsTwo", "()Z"⟩, 33), (⟨"FewProductsModel", "shedsOne", "()I"⟩, 33)]
theorem lw_r4 : ∀ q ∈ lw_privs_4, lw_okq q := List.forall_mem_cons.mpr ⟨lw_p48, List.forall_mem_cons.mpr ⟨lw_p49, List.forall_mem_cons.mpr ⟨lw_p50, List.forall_mem_cons.mpr ⟨lw_p51, List.forall_mem_cons.mpr ⟨lw_p52, List.forall_mem_cons.mpr ⟨lw_p53, List.forall_mem_cons.mpr ⟨lw_p54, List.forall_mem_cons.mpr ⟨lw_p55, List.forall_mem_cons.mpr ⟨lw_p56, List.forall_mem_cons.mpr ⟨lw_p57, List.forall_mem_cons.mpr ⟨lw_p58, List.forall_mem_cons.mpr ⟨lw_p59, List.forall_mem_cons.mpr ⟨lw_p60, List.forall_mem_cons.mpr ⟨lw_p61, List.forall_mem_cons.mpr ⟨lw_p62, List.forall_mem_cons.mpr ⟨lw_p63, fun _ h => absurd h List.not_mem_nil⟩⟩⟩⟩⟩⟩⟩⟩⟩⟩⟩⟩⟩⟩⟩⟩
theorem lw_p64 : lw_okq (⟨"FewProductsModel", "isShed", "(IIII)Z"⟩, 33) := ⟨⟨by decide +kernel, by decide +kernel⟩, List.mem_of_getElem? (i := 1024) (by decide +kernel), List.mem_of_getElem? (i := 1373) (by decide +kernel), List.mem_of_getElem? (i := 1374) (by decide +kernel)⟩
theorem lw_p65 : lw_okq (⟨"FewProductsModel", "laysBehind", "(III)V"⟩, 33) := ⟨⟨by decide +kernel, by decide +kernel⟩, List.mem_of_getElem? (i := 1024) (by decide +kernel), List.mem_of_getElem? (i := 1377) (by decide +kernel), List.mem_of_getElem? (i := 1378) (by decide +kernel)⟩
theorem lw_p66 : lw_okq (⟨"FewProductsModel", "isSum", "()Z"⟩, 33) := ⟨⟨by decide +kernel, by decide +kernel⟩, List.mem_of_getElem? (i := 1024) (by decide +kernel), List.mem_of_getElem? (i := 1381) (by decide +kernel), List.mem_of_getElem? (i := 1382) (by decide +kernel)⟩
theorem lw_p67 : lw_okq (⟨"FewProductsModel", "takenLead", "(I)I"⟩, 33) := ⟨⟨by decide +kernel, by decide +kernel⟩, List.mem_of_getElem? (i := 1024) (by decide +kernel), List.mem_of_getElem? (i := 1385) (by decide +kernel), List.mem_of_getElem? (i := 1386) (by decide +kernel)⟩
theorem lw_p68 : lw_okq (⟨"FewProductsModel", "takes", "(I)V"⟩, 33) := ⟨⟨by decide +kernel, by decide +kernel⟩, List.mem_of_getElem? (i := 1024) (by decide +kernel), List.mem_of_getElem? (i := 1389) (by decide +kernel), List.mem_of_getElem? (i := 1390) (by decide +kernel)⟩
theorem lw_p69 : lw_okq (⟨"FewProductsModel", "areLike", "([II[II)Z"⟩, 33) := ⟨⟨by decide +kernel, by decide +kernel⟩, List.mem_of_getElem? (i := 1024) (by decide +kernel), List.mem_of_getElem? (i := 1405) (by decide +kernel), List.mem_of_getElem? (i := 1406) (by decide +kernel)⟩
theorem lw_p70 : lw_okq (⟨"FewProductsModel", "resizes", "(III)V"⟩, 33) := ⟨⟨by decide +kernel, by decide +kernel⟩, List.mem_of_getElem? (i := 1024) (by decide +kernel), List.mem_of_getElem? (i := 1413) (by decide +kernel), List.mem_of_getElem? (i := 1414) (by decide +kernel)⟩
theorem lw_p71 : lw_okq (⟨"FewProductsModel", "goNumbered", "(I)V"⟩, 33) := ⟨⟨by decide +kernel, by decide +kernel⟩, List.mem_of_getElem? (i := 1024) (by decide +kernel), List.mem_of_getElem? (i := 1432) (by decide +kernel), List.mem_of_getElem? (i := 1433) (by decide +kernel)⟩
theorem lw_p72 : lw_okq (⟨"FewProductsModel", "laysTurned", "()V"⟩, 33) := ⟨⟨by decide +kernel, by decide +kernel⟩, List.mem_of_getElem? (i := 1024) (by decide +kernel), List.mem_of_getElem? (i := 1440) (by decide +kernel), List.mem_of_getElem? (i := 1441) (by decide +kernel)⟩
theorem lw_p73 : lw_okq (⟨"FewProductsModel", "takesBeside", "(III)V"⟩, 33) := ⟨⟨by decide +kernel, by decide +kernel⟩, List.mem_of_getElem? (i := 1024) (by decide +kernel), List.mem_of_getElem? (i := 1444) (by decide +kernel), List.mem_of_getElem? (i := 1445) (by decide +kernel)⟩
theorem lw_p74 : lw_okq (⟨"FewProductsModel", "laysMirrored", "()V"⟩, 33) := ⟨⟨by decide +kernel, by decide +kernel⟩, List.mem_of_getElem? (i := 1024) (by decide +kernel), List.mem_of_getElem? (i := 1452) (by decide +kernel), List.mem_of_getElem? (i := 1453) (by decide +kernel)⟩
theorem lw_p75 : lw_okq (⟨"FewProductsModel", "othersThan", "()I"⟩, 33) := ⟨⟨by decide +kernel, by decide +kernel⟩, List.mem_of_getElem? (i := 1024) (by decide +kernel), List.mem_of_getElem? (i := 1463) (by decide +kernel), List.mem_of_getElem? (i := 1464) (by decide +kernel)⟩
theorem lw_p76 : lw_okq (⟨"FewProductsModel", "usesOf", "(III)I"⟩, 33) := ⟨⟨by decide +kernel, by decide +kernel⟩, List.mem_of_getElem? (i := 1024) (by decide +kernel), List.mem_of_getElem? (i := 1471) (by decide +kernel), List.mem_of_getElem? (i := 1472) (by decide +kernel)⟩
theorem lw_p77 : lw_okq (⟨"FewProductsModel", "shearsRows", "(IIIII)V"⟩, 33) := ⟨⟨by decide +kernel, by decide +kernel⟩, List.mem_of_getElem? (i := 1024) (by decide +kernel), List.mem_of_getElem? (i := 1479) (by decide +kernel), List.mem_of_getElem? (i := 1480) (by decide +kernel)⟩
theorem lw_p78 : lw_okq (⟨"FewProductsModel", "shearsColumns", "(IIIII)V"⟩, 33) := ⟨⟨by decide +kernel, by decide +kernel⟩, List.mem_of_getElem? (i := 1024) (by decide +kernel), List.mem_of_getElem? (i := 1483) (by decide +kernel), List.mem_of_getElem? (i := 1484) (by decide +kernel)⟩
theorem lw_p79 : lw_okq (⟨"FewProductsModel", "asBeside", "()I"⟩, 33) := ⟨⟨by decide +kernel, by decide +kernel⟩, List.mem_of_getElem? (i := 1024) (by decide +kernel), List.mem_of_getElem? (i := 1491) (by decide +kernel), List.mem_of_getElem? (i := 1492) (by decide +kernel)⟩
def lw_privs_5 : List (MethodName × Nat) := [(⟨"FewProductsModel", "isShed", "(IIII)Z"⟩, 33), (⟨"FewProductsModel", "laysBehind", "(III)V"⟩, 33), (⟨"FewProductsModel", "isSum", "()Z"⟩, 33), (⟨"FewProductsModel", "takenLead", "(I)I"⟩, 33), (⟨"FewProductsModel", "takes", "(I)V"⟩, 33), (⟨"FewProductsModel", "areLike", "([II[II)Z"⟩, 33), (⟨"FewProductsModel", "resizes", "(III)V"⟩, 33), (⟨"FewProductsModel", "goNumbered", "(I)V"⟩, 33), (⟨"FewProductsModel", "laysTurned", "()V"⟩, 33), (⟨"FewProductsModel", "takesBeside", "(III)V"⟩, 33), (⟨"FewProductsModel", "laysMirrored", "()V"⟩, 33), (⟨"FewProductsModel", "othersThan", "()I"⟩, 33), (⟨"FewProductsModel", "usesOf", "(III)I"⟩, 33), (⟨"FewProductsModel", "shearsRows", "(IIIII)V"⟩, 33), (⟨"FewProductsModel", "shearsColumns", "(IIIII)V"⟩, 33), (⟨"FewProductsModel", "asBeside", "()I"⟩, 33)]
theorem lw_r5 : ∀ q ∈ lw_privs_5, lw_okq q := List.forall_mem_cons.mpr ⟨lw_p64, List.forall_mem_cons.mpr ⟨lw_p65, List.forall_mem_cons.mpr ⟨lw_p66, List.forall_mem_cons.mpr ⟨lw_p67, List.forall_mem_cons.mpr ⟨lw_p68, List.forall_mem_cons.mpr ⟨lw_p69, List.forall_mem_cons.mpr ⟨lw_p70, List.forall_mem_cons.mpr ⟨lw_p71, List.forall_mem_cons.mpr ⟨lw_p72, List.forall_mem_cons.mpr ⟨lw_p73, List.forall_mem_cons.mpr ⟨lw_p74, List.forall_mem_cons.mpr ⟨lw_p75, List.forall_mem_cons.mpr ⟨lw_p76, List.forall_mem_cons.mpr ⟨lw_p77, List.forall_mem_cons.mpr ⟨lw_p78, List.forall_mem_cons.mpr ⟨lw_p79, fun _ h => absurd h List.not_mem_nil⟩⟩⟩⟩⟩⟩⟩⟩⟩⟩⟩⟩⟩⟩⟩⟩
theorem lw_p80 : lw_okq (⟨"FewProductsModel", "without", "([II[II)I"⟩, 33) := ⟨⟨by decide +kernel, by decide +kernel⟩, List.mem_of_getElem? (i := 1024) (by decide +kernel), List.mem_of_getElem? (i := 1495) (by decide +kernel), List.mem_of_getElem? (i := 1496) (by decide +kernel)⟩
theorem lw_p81 : lw_okq (⟨"FewProductsModel", "groupOf", "(II)J"⟩, 33) := ⟨⟨by decide +kernel, by decide +kernel⟩, List.mem_of_getElem? (i := 1024) (by decide +kernel), List.mem_of_getElem? (i := 1507) (by decide +kernel), List.mem_of_getElem? (i := 1508) (by decide +kernel)⟩
theorem lw_p82 : lw_okq (⟨"FewProductsModel", "frees", "(II)Z"⟩, 33) := ⟨⟨by decide +kernel, by decide +kernel⟩, List.mem_of_getElem? (i := 1024) (by decide +kernel), List.mem_of_getElem? (i := 1518) (by decide +kernel), List.mem_of_getElem? (i := 1519) (by decide +kernel)⟩
theorem lw_p83 : lw_okq (⟨"FewProductsModel", "leadOf", "(I)I"⟩, 33) := ⟨⟨by decide +kernel, by decide +kernel⟩, List.mem_of_getElem? (i := 1024) (by decide +kernel), List.mem_of_getElem? (i := 1522) (by decide +kernel), List.mem_of_getElem? (i := 1523) (by decide +kernel)⟩
theorem lw_p84 : lw_okq (⟨"FewProductsModel", "isKeptSo", "()Z"⟩, 33) := ⟨⟨by decide +kernel, by decide +kernel⟩, List.mem_of_getElem? (i := 1024) (by decide +kernel), List.mem_of_getElem? (i := 1534) (by decide +kernel), List.mem_of_getElem? (i := 1535) (by decide +kernel)⟩
theorem lw_p85 : lw_okq (⟨"FewProductsModel", "keptGiven", "(III)I"⟩, 33) := ⟨⟨by decide +kernel, by decide +kernel⟩, List.mem_of_getElem? (i := 1024) (by decide +kernel), List.mem_of_getElem? (i := 1542) (by decide +kernel), List.mem_of_getElem? (i := 1543) (by decide +kernel)⟩
theorem lw_p86 : lw_okq (⟨"FewProductsModel", "equation", "(III)Z"⟩, 33) := ⟨⟨by decide +kernel, by decide +kernel⟩, List.mem_of_getElem? (i := 1024) (by decide +kernel), List.mem_of_getElem? (i := 1554) (by decide +kernel), List.mem_of_getElem? (i := 1555) (by decide +kernel)⟩
theorem lw_p87 : lw_okq (⟨"FewProductsModel", "unknowns", "()I"⟩, 33) := ⟨⟨by decide +kernel, by decide +kernel⟩, List.mem_of_getElem? (i := 1024) (by decide +kernel), List.mem_of_getElem? (i := 1558) (by decide +kernel), List.mem_of_getElem? (i := 1559) (by decide +kernel)⟩
theorem lw_p88 : lw_okq (⟨"FewProductsModel", "unknownOf", "(III)I"⟩, 33) := ⟨⟨by decide +kernel, by decide +kernel⟩, List.mem_of_getElem? (i := 1024) (by decide +kernel), List.mem_of_getElem? (i := 1562) (by decide +kernel), List.mem_of_getElem? (i := 1563) (by decide +kernel)⟩
theorem lw_p89 : lw_okq (⟨"FewProductsModel", "turnsBit", "(II)V"⟩, 33) := ⟨⟨by decide +kernel, by decide +kernel⟩, List.mem_of_getElem? (i := 1024) (by decide +kernel), List.mem_of_getElem? (i := 1566) (by decide +kernel), List.mem_of_getElem? (i := 1567) (by decide +kernel)⟩
theorem lw_p90 : lw_okq (⟨"FewProductsModel", "isBit", "(II)Z"⟩, 33) := ⟨⟨by decide +kernel, by decide +kernel⟩, List.mem_of_getElem? (i := 1024) (by decide +kernel), List.mem_of_getElem? (i := 1570) (by decide +kernel), List.mem_of_getElem? (i := 1571) (by decide +kernel)⟩
theorem lw_p91 : lw_okq (⟨"FewProductsModel", "fullAll", "()I"⟩, 33) := ⟨⟨by decide +kernel, by decide +kernel⟩, List.mem_of_getElem? (i := 1024) (by decide +kernel), List.mem_of_getElem? (i := 1578) (by decide +kernel), List.mem_of_getElem? (i := 1579) (by decide +kernel)⟩
theorem lw_p92 : lw_okq (⟨"FewProductsModel", "unlikeAt", "(I)I"⟩, 33) := ⟨⟨by decide +kernel, by decide +kernel⟩, List.mem_of_getElem? (i := 1024) (by decide +kernel), List.mem_of_getElem? (i := 1582) (by decide +kernel), List.mem_of_getElem? (i := 1583) (by decide +kernel)⟩
theorem lw_p93 : lw_okq (⟨"FewProductsModel", "singleMany", "()I"⟩, 33) := ⟨⟨by decide +kernel, by decide +kernel⟩, List.mem_of_getElem? (i := 1024) (by decide +kernel), List.mem_of_getElem? (i := 1586) (by decide +kernel), List.mem_of_getElem? (i := 1587) (by decide +kernel)⟩
theorem lw_p94 : lw_okq (⟨"FewProductsModel", "lost", "()I"⟩, 33) := ⟨⟨by decide +kernel, by decide +kernel⟩, List.mem_of_getElem? (i := 1024) (by decide +kernel), List.mem_of_getElem? (i := 1594) (by decide +kernel), List.mem_of_getElem? (i := 1595) (by decide +kernel)⟩
def lw_privs_6 : List (MethodName × Nat) := [(⟨"FewProductsModel", "without", "([II[II)I"⟩, 33), (⟨"FewProductsModel", "groupOf", "(II)J"⟩, 33), (⟨"FewProductsModel", "frees", "(II)Z"⟩, 33), (⟨"FewProductsModel", "leadOf", "(I)I"⟩, 33), (⟨"FewProductsModel", "isKeptSo", "()Z"⟩, 33), (⟨"FewProductsModel", "keptGiven", "(III)I"⟩, 33), (⟨"FewProductsModel", "equation", "(III)Z"⟩, 33), (⟨"FewProductsModel", "unknowns", "()I"⟩, 33), (⟨"FewProductsModel", "unknownOf", "(III)I"⟩, 33), (⟨"FewProductsModel", "turnsBit", "(II)V"⟩, 33), (⟨"FewProductsModel", "isBit", "(II)Z"⟩, 33), (⟨"FewProductsModel", "fullAll", "()I"⟩, 33), (⟨"FewProductsModel", "unlikeAt", "(I)I"⟩, 33), (⟨"FewProductsModel", "singleMany", "()I"⟩, 33), (⟨"FewProductsModel", "lost", "()I"⟩, 33)]
theorem lw_r6 : ∀ q ∈ lw_privs_6, lw_okq q := List.forall_mem_cons.mpr ⟨lw_p80, List.forall_mem_cons.mpr ⟨lw_p81, List.forall_mem_cons.mpr ⟨lw_p82, List.forall_mem_cons.mpr ⟨lw_p83, List.forall_mem_cons.mpr ⟨lw_p84, List.forall_mem_cons.mpr ⟨lw_p85, List.forall_mem_cons.mpr ⟨lw_p86, List.forall_mem_cons.mpr ⟨lw_p87, List.forall_mem_cons.mpr ⟨lw_p88, List.forall_mem_cons.mpr ⟨lw_p89, List.forall_mem_cons.mpr ⟨lw_p90, List.forall_mem_cons.mpr ⟨lw_p91, List.forall_mem_cons.mpr ⟨lw_p92, List.forall_mem_cons.mpr ⟨lw_p93, List.forall_mem_cons.mpr ⟨lw_p94, fun _ h => absurd h List.not_mem_nil⟩⟩⟩⟩⟩⟩⟩⟩⟩⟩⟩⟩⟩⟩⟩
def lw_privs : List (MethodName × Nat) := lw_privs_1 ++ (lw_privs_2 ++ (lw_privs_3 ++ (lw_privs_4 ++ (lw_privs_5 ++ (lw_privs_6)))))
def lw_tbl : List Cond := k2_sels lw_privs ++ tables_1
theorem lw_privs_ok : ∀ q ∈ lw_privs, lw_okq q := by
  show ∀ q ∈ lw_privs_1 ++ (lw_privs_2 ++ (lw_privs_3 ++ (lw_privs_4 ++ (lw_privs_5 ++ (lw_privs_6))))), lw_okq q
  exact List.forall_mem_append.mpr ⟨lw_r1, List.forall_mem_append.mpr ⟨lw_r2, List.forall_mem_append.mpr ⟨lw_r3, List.forall_mem_append.mpr ⟨lw_r4, List.forall_mem_append.mpr ⟨lw_r5, lw_r6⟩⟩⟩⟩⟩
def RX0 : String := "FewProducts$Basis"
def TX0 : u_T := fun k => match k with
  | 0 => ("FewProducts$Basis", "reduced", "LFewProducts$Ints;", true)
  | 1 => ("FewProducts$Basis", "made", "LFewProducts$Ints;", true)
  | 2 => ("FewProducts$Basis", "pivots", "LFewProducts$Ints;", true)
  | 3 => ("FewProducts$Basis", "q", "I", false)
  | 4 => ("FewProducts$Basis", "size", "I", false)
  | 5 => ("FewProducts$Basis", "rest", "I", false)
  | _ => ("FewProducts$Basis", "parts", "I", false)
def tyX0 : Nat → FieldType := fun k => match k with
  | 0 => .object "FewProducts$Ints"
  | 1 => .object "FewProducts$Ints"
  | 2 => .object "FewProducts$Ints"
  | 3 => .int
  | 4 => .int
  | 5 => .int
  | _ => .int
theorem nmX0 : ∀ a, a < 7 → ∀ b, b < 7 → a ≠ b → (TX0 a).2.1 ≠ (TX0 b).2.1 := by decide +kernel
theorem tyX0_ok : ∀ k, k < 7 → parseFieldDescriptor (TX0 k).2.2.1 = some (tyX0 k) := by decide +kernel
abbrev cX0_init : ByteArray := prog_2_method_1_code
def yX0_init : MethodName := ⟨RX0, "<init>", "()V"⟩
abbrev cX0_start : ByteArray := prog_2_method_2_code
def yX0_start : MethodName := ⟨RX0, "start", "(I)V"⟩
abbrev cX0_take : ByteArray := prog_2_method_3_code
def yX0_take : MethodName := ⟨RX0, "take", "(I)Z"⟩
abbrev cX0_isSum : ByteArray := prog_2_method_4_code
def yX0_isSum : MethodName := ⟨RX0, "isSum", "(I)Z"⟩
abbrev cX0_reduce : ByteArray := prog_2_method_5_code
def yX0_reduce : MethodName := ⟨RX0, "reduce", "(I)V"⟩
abbrev cX0_firstPlace : ByteArray := prog_2_method_6_code
def yX0_firstPlace : MethodName := ⟨RX0, "firstPlace", "(I)I"⟩
def RX1 : String := "FewProducts$Factors"
def TX1 : u_T := fun k => match k with
  | _ => ("FewProducts$Factors", "numbers", "LFewProducts$Ints;", true)
def tyX1 : Nat → FieldType := fun k => match k with
  | _ => .object "FewProducts$Ints"
theorem nmX1 : ∀ a, a < 1 → ∀ b, b < 1 → a ≠ b → (TX1 a).2.1 ≠ (TX1 b).2.1 := by decide +kernel
theorem tyX1_ok : ∀ k, k < 1 → parseFieldDescriptor (TX1 k).2.2.1 = some (tyX1 k) := by decide +kernel
abbrev cX1_init : ByteArray := prog_3_method_1_code
def yX1_init : MethodName := ⟨RX1, "<init>", "()V"⟩
abbrev cX1_comesAt : ByteArray := prog_3_method_2_code
def yX1_comesAt : MethodName := ⟨RX1, "comesAt", "(LFewProducts$Scheme;I)I"⟩
abbrev cX1_weigh : ByteArray := prog_3_method_3_code
def yX1_weigh : MethodName := ⟨RX1, "weigh", "(III)I"⟩
abbrev cX1_dueAt : ByteArray := prog_3_method_4_code
def yX1_dueAt : MethodName := ⟨RX1, "dueAt", "(LFewProducts$Scheme;I)I"⟩
def RX2 : String := "FewProducts$Forms"
def TX2 : u_T := fun k => match k with
  | _ => ("", "", "", false)
def tyX2 : Nat → FieldType := fun k => match k with
  | _ => .int
theorem nmX2 : ∀ a, a < 0 → ∀ b, b < 0 → a ≠ b → (TX2 a).2.1 ≠ (TX2 b).2.1 := by decide +kernel
theorem tyX2_ok : ∀ k, k < 0 → parseFieldDescriptor (TX2 k).2.2.1 = some (tyX2 k) := by decide +kernel
abbrev cX2_mod : ByteArray := prog_4_method_2_code
def yX2_mod : MethodName := ⟨RX2, "mod", "(II)I"⟩
abbrev cX2_numberAt : ByteArray := prog_4_method_3_code
def yX2_numberAt : MethodName := ⟨RX2, "numberAt", "(II)I"⟩
abbrev cX2_with : ByteArray := prog_4_method_4_code
def yX2_with : MethodName := ⟨RX2, "with", "(III)I"⟩
abbrev cX2_sum : ByteArray := prog_4_method_5_code
def yX2_sum : MethodName := ⟨RX2, "sum", "(III)I"⟩
abbrev cX2_times : ByteArray := prog_4_method_6_code
def yX2_times : MethodName := ⟨RX2, "times", "(II)I"⟩
abbrev cX2_less : ByteArray := prog_4_method_7_code
def yX2_less : MethodName := ⟨RX2, "less", "(III)I"⟩
abbrev cX2_likeBy : ByteArray := prog_4_method_8_code
def yX2_likeBy : MethodName := ⟨RX2, "likeBy", "(III)I"⟩
abbrev cX2_code : ByteArray := prog_4_method_9_code
def yX2_code : MethodName := ⟨RX2, "code", "(II)I"⟩
abbrev cX2_placesOf : ByteArray := prog_4_method_10_code
def yX2_placesOf : MethodName := ⟨RX2, "placesOf", "(I)I"⟩
def RX3 : String := "FewProducts$Ints"
def TX3 : u_T := fun k => match k with
  | _ => ("FewProducts$Ints", "cells", "[I", true)
def tyX3 : Nat → FieldType := fun k => match k with
  | _ => .array .int
theorem nmX3 : ∀ a, a < 1 → ∀ b, b < 1 → a ≠ b → (TX3 a).2.1 ≠ (TX3 b).2.1 := by decide +kernel
theorem tyX3_ok : ∀ k, k < 1 → parseFieldDescriptor (TX3 k).2.2.1 = some (tyX3 k) := by decide +kernel
abbrev cX3_init : ByteArray := prog_5_method_1_code
def yX3_init : MethodName := ⟨RX3, "<init>", "(I)V"⟩
abbrev cX3_at : ByteArray := prog_5_method_2_code
def yX3_at : MethodName := ⟨RX3, "at", "(I)I"⟩
abbrev cX3_put : ByteArray := prog_5_method_3_code
def yX3_put : MethodName := ⟨RX3, "put", "(II)V"⟩
abbrev cX3_clear : ByteArray := prog_5_method_4_code
def yX3_clear : MethodName := ⟨RX3, "clear", "()V"⟩
def RX4 : String := "FewProducts$Joiner"
def TX4 : u_T := fun k => match k with
  | 0 => ("FewProducts$Joiner", "byZero", "I", false)
  | _ => ("FewProducts$Joiner", "byLike", "I", false)
def tyX4 : Nat → FieldType := fun k => match k with
  | 0 => .int
  | _ => .int
theorem nmX4 : ∀ a, a < 2 → ∀ b, b < 2 → a ≠ b → (TX4 a).2.1 ≠ (TX4 b).2.1 := by decide +kernel
theorem tyX4_ok : ∀ k, k < 2 → parseFieldDescriptor (TX4 k).2.2.1 = some (tyX4 k) := by decide +kernel
abbrev cX4_init : ByteArray := prog_6_method_1_code
def yX4_init : MethodName := ⟨RX4, "<init>", "()V"⟩
abbrev cX4_join : ByteArray := prog_6_method_2_code
def yX4_join : MethodName := ⟨RX4, "join", "(LFewProducts$Scheme;)V"⟩
abbrev cX4_joinFirst : ByteArray := prog_6_method_3_code
def yX4_joinFirst : MethodName := ⟨RX4, "joinFirst", "(LFewProducts$Scheme;)Z"⟩
abbrev cX4_joinTwo : ByteArray := prog_6_method_4_code
def yX4_joinTwo : MethodName := ⟨RX4, "joinTwo", "(LFewProducts$Scheme;III)Z"⟩
abbrev cX4_flipDrawn : ByteArray := prog_6_method_5_code
def yX4_flipDrawn : MethodName := ⟨RX4, "flipDrawn", "(LFewProducts$Scheme;J)Z"⟩
abbrev cX4_flipAt : ByteArray := prog_6_method_6_code
def yX4_flipAt : MethodName := ⟨RX4, "flipAt", "(LFewProducts$Scheme;II)V"⟩
def RX5 : String := "FewProducts$Lifting"
def TX5 : u_T := fun k => match k with
  | 0 => ("FewProducts$Lifting", "reduced", "[J", true)
  | 1 => ("FewProducts$Lifting", "isPivot", "LFewProducts$Ints;", true)
  | 2 => ("FewProducts$Lifting", "column", "[J", true)
  | 3 => ("FewProducts$Lifting", "strides", "LFewProducts$Ints;", true)
  | 4 => ("FewProducts$Lifting", "equations", "I", false)
  | _ => ("FewProducts$Lifting", "rank", "I", false)
def tyX5 : Nat → FieldType := fun k => match k with
  | 0 => .array .long
  | 1 => .object "FewProducts$Ints"
  | 2 => .array .long
  | 3 => .object "FewProducts$Ints"
  | 4 => .int
  | _ => .int
theorem nmX5 : ∀ a, a < 6 → ∀ b, b < 6 → a ≠ b → (TX5 a).2.1 ≠ (TX5 b).2.1 := by decide +kernel
theorem tyX5_ok : ∀ k, k < 6 → parseFieldDescriptor (TX5 k).2.2.1 = some (tyX5 k) := by decide +kernel
abbrev cX5_init : ByteArray := prog_7_method_1_code
def yX5_init : MethodName := ⟨RX5, "<init>", "()V"⟩
abbrev cX5_solve : ByteArray := prog_7_method_2_code
def yX5_solve : MethodName := ⟨RX5, "solve", "(LFewProducts$Scheme;)Z"⟩
abbrev cX5_start : ByteArray := prog_7_method_3_code
def yX5_start : MethodName := ⟨RX5, "start", "(LFewProducts$Scheme;)V"⟩
abbrev cX5_clearColumn : ByteArray := prog_7_method_4_code
def yX5_clearColumn : MethodName := ⟨RX5, "clearColumn", "()V"⟩
abbrev cX5_setBit : ByteArray := prog_7_method_5_code
def yX5_setBit : MethodName := ⟨RX5, "setBit", "(I)V"⟩
abbrev cX5_hasBit : ByteArray := prog_7_method_6_code
def yX5_hasBit : MethodName := ⟨RX5, "hasBit", "(I)Z"⟩
abbrev cX5_setUnknown : ByteArray := prog_7_method_7_code
def yX5_setUnknown : MethodName := ⟨RX5, "setUnknown", "(LFewProducts$Scheme;III)V"⟩
abbrev cX5_setRightSides : ByteArray := prog_7_method_8_code
def yX5_setRightSides : MethodName := ⟨RX5, "setRightSides", "(LFewProducts$Scheme;)V"⟩
abbrev cX5_takeColumn : ByteArray := prog_7_method_9_code
def yX5_takeColumn : MethodName := ⟨RX5, "takeColumn", "()V"⟩
abbrev cX5_reduce : ByteArray := prog_7_method_10_code
def yX5_reduce : MethodName := ⟨RX5, "reduce", "()I"⟩
abbrev cX5_lessPivot : ByteArray := prog_7_method_11_code
def yX5_lessPivot : MethodName := ⟨RX5, "lessPivot", "(I)V"⟩
def RX6 : String := "FewProducts$Scheme"
def TX6 : u_T := fun k => match k with
  | 0 => ("FewProducts$Scheme", "forms", "LFewProducts$Ints;", true)
  | 1 => ("FewProducts$Scheme", "n", "I", false)
  | 2 => ("FewProducts$Scheme", "m", "I", false)
  | 3 => ("FewProducts$Scheme", "p", "I", false)
  | 4 => ("FewProducts$Scheme", "q", "I", false)
  | _ => ("FewProducts$Scheme", "size", "I", false)
def tyX6 : Nat → FieldType := fun k => match k with
  | 0 => .object "FewProducts$Ints"
  | 1 => .int
  | 2 => .int
  | 3 => .int
  | 4 => .int
  | _ => .int
theorem nmX6 : ∀ a, a < 6 → ∀ b, b < 6 → a ≠ b → (TX6 a).2.1 ≠ (TX6 b).2.1 := by decide +kernel
theorem tyX6_ok : ∀ k, k < 6 → parseFieldDescriptor (TX6 k).2.2.1 = some (tyX6 k) := by decide +kernel
abbrev cX6_init : ByteArray := prog_8_method_1_code
def yX6_init : MethodName := ⟨RX6, "<init>", "()V"⟩
abbrev cX6_makePlain : ByteArray := prog_8_method_2_code
def yX6_makePlain : MethodName := ⟨RX6, "makePlain", "(IIII)V"⟩
abbrev cX6_addPlain : ByteArray := prog_8_method_3_code
def yX6_addPlain : MethodName := ⟨RX6, "addPlain", "(I)V"⟩
abbrev cX6_addOnes : ByteArray := prog_8_method_4_code
def yX6_addOnes : MethodName := ⟨RX6, "addOnes", "(III)V"⟩
abbrev cX6_addZero : ByteArray := prog_8_method_5_code
def yX6_addZero : MethodName := ⟨RX6, "addZero", "()Z"⟩
abbrev cX6_addFrom : ByteArray := prog_8_method_6_code
def yX6_addFrom : MethodName := ⟨RX6, "addFrom", "(LFewProducts$Scheme;I)V"⟩
abbrev cX6_remove : ByteArray := prog_8_method_7_code
def yX6_remove : MethodName := ⟨RX6, "remove", "(I)V"⟩
abbrev cX6_takeShape : ByteArray := prog_8_method_8_code
def yX6_takeShape : MethodName := ⟨RX6, "takeShape", "(LFewProducts$Scheme;)V"⟩
abbrev cX6_takeAll : ByteArray := prog_8_method_9_code
def yX6_takeAll : MethodName := ⟨RX6, "takeAll", "(LFewProducts$Scheme;)V"⟩
abbrev cX6_hasShapeOf : ByteArray := prog_8_method_10_code
def yX6_hasShapeOf : MethodName := ⟨RX6, "hasShapeOf", "(LFewProducts$Scheme;)Z"⟩
abbrev cX6_isFull : ByteArray := prog_8_method_11_code
def yX6_isFull : MethodName := ⟨RX6, "isFull", "()Z"⟩
abbrev cX6_isProduct : ByteArray := prog_8_method_12_code
def yX6_isProduct : MethodName := ⟨RX6, "isProduct", "(I)Z"⟩
abbrev cX6_isPlace : ByteArray := prog_8_method_13_code
def yX6_isPlace : MethodName := ⟨RX6, "isPlace", "(II)Z"⟩
abbrev cX6_rows : ByteArray := prog_8_method_14_code
def yX6_rows : MethodName := ⟨RX6, "rows", "(I)I"⟩
abbrev cX6_columns : ByteArray := prog_8_method_15_code
def yX6_columns : MethodName := ⟨RX6, "columns", "(I)I"⟩
abbrev cX6_places : ByteArray := prog_8_method_16_code
def yX6_places : MethodName := ⟨RX6, "places", "(I)I"⟩
abbrev cX6_rowOf : ByteArray := prog_8_method_17_code
def yX6_rowOf : MethodName := ⟨RX6, "rowOf", "(II)I"⟩
abbrev cX6_columnOf : ByteArray := prog_8_method_18_code
def yX6_columnOf : MethodName := ⟨RX6, "columnOf", "(II)I"⟩
abbrev cX6_formAt : ByteArray := prog_8_method_19_code
def yX6_formAt : MethodName := ⟨RX6, "formAt", "(II)I"⟩
abbrev cX6_setForm : ByteArray := prog_8_method_20_code
def yX6_setForm : MethodName := ⟨RX6, "setForm", "(III)V"⟩
abbrev cX6_givenAt : ByteArray := prog_8_method_21_code
def yX6_givenAt : MethodName := ⟨RX6, "givenAt", "(III)I"⟩
abbrev cX6_meetAt : ByteArray := prog_8_method_22_code
def yX6_meetAt : MethodName := ⟨RX6, "meetAt", "(III)I"⟩
abbrev cX6_neededAt : ByteArray := prog_8_method_23_code
def yX6_neededAt : MethodName := ⟨RX6, "neededAt", "(III)I"⟩
abbrev cX6_isRight : ByteArray := prog_8_method_24_code
def yX6_isRight : MethodName := ⟨RX6, "isRight", "()Z"⟩
abbrev cX6_hasZero : ByteArray := prog_8_method_25_code
def yX6_hasZero : MethodName := ⟨RX6, "hasZero", "(I)Z"⟩
abbrev cX6_firstZero : ByteArray := prog_8_method_26_code
def yX6_firstZero : MethodName := ⟨RX6, "firstZero", "()I"⟩
abbrev cX6_zeros : ByteArray := prog_8_method_27_code
def yX6_zeros : MethodName := ⟨RX6, "zeros", "()I"⟩
abbrev cX6_notZero : ByteArray := prog_8_method_28_code
def yX6_notZero : MethodName := ⟨RX6, "notZero", "()I"⟩
abbrev cX6_singles : ByteArray := prog_8_method_29_code
def yX6_singles : MethodName := ⟨RX6, "singles", "()I"⟩
abbrev cX6_usersOf : ByteArray := prog_8_method_30_code
def yX6_usersOf : MethodName := ⟨RX6, "usersOf", "(III)I"⟩
abbrev cX6_unused : ByteArray := prog_8_method_31_code
def yX6_unused : MethodName := ⟨RX6, "unused", "(I)I"⟩
abbrev cX6_likeBy : ByteArray := prog_8_method_32_code
def yX6_likeBy : MethodName := ⟨RX6, "likeBy", "(III)I"⟩
abbrev cX6_isLike : ByteArray := prog_8_method_33_code
def yX6_isLike : MethodName := ⟨RX6, "isLike", "(ILFewProducts$Scheme;I)Z"⟩
abbrev cX6_matches : ByteArray := prog_8_method_34_code
def yX6_matches : MethodName := ⟨RX6, "matches", "(LFewProducts$Scheme;)I"⟩
abbrev cX6_othersThan : ByteArray := prog_8_method_35_code
def yX6_othersThan : MethodName := ⟨RX6, "othersThan", "(LFewProducts$Scheme;)I"⟩
abbrev cX6_groupOf : ByteArray := prog_8_method_36_code
def yX6_groupOf : MethodName := ⟨RX6, "groupOf", "(II)J"⟩
abbrev cX6_unlikeForms : ByteArray := prog_8_method_37_code
def yX6_unlikeForms : MethodName := ⟨RX6, "unlikeForms", "(I)I"⟩
abbrev cX6_flipsAt : ByteArray := prog_8_method_38_code
def yX6_flipsAt : MethodName := ⟨RX6, "flipsAt", "(I)I"⟩
abbrev cX6_turnFlip : ByteArray := prog_8_method_39_code
def yX6_turnFlip : MethodName := ⟨RX6, "turnFlip", "(III)V"⟩
def RX7 : String := "FewProducts$Shedder"
def TX7 : u_T := fun k => match k with
  | 0 => ("FewProducts$Shedder", "basis", "LFewProducts$Basis;", true)
  | 1 => ("FewProducts$Shedder", "taken", "LFewProducts$Ints;", true)
  | _ => ("FewProducts$Shedder", "went", "LFewProducts$Ints;", true)
def tyX7 : Nat → FieldType := fun k => match k with
  | 0 => .object "FewProducts$Basis"
  | 1 => .object "FewProducts$Ints"
  | _ => .object "FewProducts$Ints"
theorem nmX7 : ∀ a, a < 3 → ∀ b, b < 3 → a ≠ b → (TX7 a).2.1 ≠ (TX7 b).2.1 := by decide +kernel
theorem tyX7_ok : ∀ k, k < 3 → parseFieldDescriptor (TX7 k).2.2.1 = some (tyX7 k) := by decide +kernel
abbrev cX7_init : ByteArray := prog_9_method_1_code
def yX7_init : MethodName := ⟨RX7, "<init>", "()V"⟩
abbrev cX7_shedFirst : ByteArray := prog_9_method_2_code
def yX7_shedFirst : MethodName := ⟨RX7, "shedFirst", "(LFewProducts$Scheme;)Z"⟩
abbrev cX7_isSumOfAhead : ByteArray := prog_9_method_3_code
def yX7_isSumOfAhead : MethodName := ⟨RX7, "isSumOfAhead", "(LFewProducts$Scheme;III)Z"⟩
abbrev cX7_share : ByteArray := prog_9_method_4_code
def yX7_share : MethodName := ⟨RX7, "share", "(LFewProducts$Scheme;II)V"⟩
def RX8 : String := "FewProducts$Text"
def TX8 : u_T := fun k => match k with
  | 0 => ("FewProducts$Text", "signs", "LFewProducts$Ints;", true)
  | 1 => ("FewProducts$Text", "length", "I", false)
  | 2 => ("FewProducts$Text", "at", "I", false)
  | _ => ("FewProducts$Text", "form", "I", false)
def tyX8 : Nat → FieldType := fun k => match k with
  | 0 => .object "FewProducts$Ints"
  | 1 => .int
  | 2 => .int
  | _ => .int
theorem nmX8 : ∀ a, a < 4 → ∀ b, b < 4 → a ≠ b → (TX8 a).2.1 ≠ (TX8 b).2.1 := by decide +kernel
theorem tyX8_ok : ∀ k, k < 4 → parseFieldDescriptor (TX8 k).2.2.1 = some (tyX8 k) := by decide +kernel
abbrev cX8_init : ByteArray := prog_10_method_1_code
def yX8_init : MethodName := ⟨RX8, "<init>", "()V"⟩
abbrev cX8_addFour : ByteArray := prog_10_method_2_code
def yX8_addFour : MethodName := ⟨RX8, "addFour", "(I)Z"⟩
abbrev cX8_cut : ByteArray := prog_10_method_3_code
def yX8_cut : MethodName := ⟨RX8, "cut", "(I)Z"⟩
abbrev cX8_empty : ByteArray := prog_10_method_4_code
def yX8_empty : MethodName := ⟨RX8, "empty", "()V"⟩
abbrev cX8_readScheme : ByteArray := prog_10_method_5_code
def yX8_readScheme : MethodName := ⟨RX8, "readScheme", "(LFewProducts$Scheme;)I"⟩
abbrev cX8_readProduct : ByteArray := prog_10_method_6_code
def yX8_readProduct : MethodName := ⟨RX8, "readProduct", "(LFewProducts$Scheme;)I"⟩
abbrev cX8_readForm : ByteArray := prog_10_method_7_code
def yX8_readForm : MethodName := ⟨RX8, "readForm", "(LFewProducts$Scheme;I)I"⟩
abbrev cX8_readNumbers : ByteArray := prog_10_method_8_code
def yX8_readNumbers : MethodName := ⟨RX8, "readNumbers", "(LFewProducts$Ints;II)I"⟩
abbrev cX8_restFault : ByteArray := prog_10_method_9_code
def yX8_restFault : MethodName := ⟨RX8, "restFault", "()I"⟩
abbrev cX8_peek : ByteArray := prog_10_method_10_code
def yX8_peek : MethodName := ⟨RX8, "peek", "()I"⟩
abbrev cX8_take : ByteArray := prog_10_method_11_code
def yX8_take : MethodName := ⟨RX8, "take", "(C)Z"⟩
abbrev cX8_takeProduct : ByteArray := prog_10_method_12_code
def yX8_takeProduct : MethodName := ⟨RX8, "takeProduct", "(LFewProducts$Scheme;)Z"⟩
abbrev cX8_takeForm : ByteArray := prog_10_method_13_code
def yX8_takeForm : MethodName := ⟨RX8, "takeForm", "(LFewProducts$Scheme;I)Z"⟩
abbrev cX8_takeTerm : ByteArray := prog_10_method_14_code
def yX8_takeTerm : MethodName := ⟨RX8, "takeTerm", "(LFewProducts$Scheme;II)Z"⟩
def RX9 : String := "FewProducts$Told"
def TX9 : u_T := fun k => match k with
  | 0 => ("FewProducts$Told", "numbers", "[J", true)
  | _ => ("FewProducts$Told", "size", "I", false)
def tyX9 : Nat → FieldType := fun k => match k with
  | 0 => .array .long
  | _ => .int
theorem nmX9 : ∀ a, a < 2 → ∀ b, b < 2 → a ≠ b → (TX9 a).2.1 ≠ (TX9 b).2.1 := by decide +kernel
theorem tyX9_ok : ∀ k, k < 2 → parseFieldDescriptor (TX9 k).2.2.1 = some (tyX9 k) := by decide +kernel
abbrev cX9_init : ByteArray := prog_11_method_1_code
def yX9_init : MethodName := ⟨RX9, "<init>", "()V"⟩
abbrev cX9_clear : ByteArray := prog_11_method_2_code
def yX9_clear : MethodName := ⟨RX9, "clear", "()V"⟩
abbrev cX9_add : ByteArray := prog_11_method_3_code
def yX9_add : MethodName := ⟨RX9, "add", "(J)V"⟩
abbrev cX9_at : ByteArray := prog_11_method_4_code
def yX9_at : MethodName := ⟨RX9, "at", "(I)J"⟩
def RX10 : String := "FewProducts$Turns"
def TX10 : u_T := fun k => match k with
  | _ => ("", "", "", false)
def tyX10 : Nat → FieldType := fun k => match k with
  | _ => .int
theorem nmX10 : ∀ a, a < 0 → ∀ b, b < 0 → a ≠ b → (TX10 a).2.1 ≠ (TX10 b).2.1 := by decide +kernel
theorem tyX10_ok : ∀ k, k < 0 → parseFieldDescriptor (TX10 k).2.2.1 = some (tyX10 k) := by decide +kernel
abbrev cX10_roll : ByteArray := prog_12_method_2_code
def yX10_roll : MethodName := ⟨RX10, "roll", "(LFewProducts$Scheme;)V"⟩
abbrev cX10_mirror : ByteArray := prog_12_method_3_code
def yX10_mirror : MethodName := ⟨RX10, "mirror", "(LFewProducts$Scheme;)V"⟩
abbrev cX10_transposed : ByteArray := prog_12_method_4_code
def yX10_transposed : MethodName := ⟨RX10, "transposed", "(III)I"⟩
abbrev cX10_shear : ByteArray := prog_12_method_5_code
def yX10_shear : MethodName := ⟨RX10, "shear", "(LFewProducts$Scheme;IIII)V"⟩
abbrev cX10_addTimes : ByteArray := prog_12_method_6_code
def yX10_addTimes : MethodName := ⟨RX10, "addTimes", "(IIIII)I"⟩
abbrev cX10_swap : ByteArray := prog_12_method_7_code
def yX10_swap : MethodName := ⟨RX10, "swap", "(LFewProducts$Scheme;III)V"⟩
abbrev cX10_exchanged : ByteArray := prog_12_method_8_code
def yX10_exchanged : MethodName := ⟨RX10, "exchanged", "(III)I"⟩
abbrev cX10_narrow : ByteArray := prog_12_method_9_code
def yX10_narrow : MethodName := ⟨RX10, "narrow", "(LFewProducts$Scheme;II)V"⟩
abbrev cX10_withoutRow : ByteArray := prog_12_method_10_code
def yX10_withoutRow : MethodName := ⟨RX10, "withoutRow", "(III)I"⟩
abbrev cX10_withoutColumn : ByteArray := prog_12_method_11_code
def yX10_withoutColumn : MethodName := ⟨RX10, "withoutColumn", "(IIII)I"⟩
abbrev cX10_widen : ByteArray := prog_12_method_12_code
def yX10_widen : MethodName := ⟨RX10, "widen", "(LFewProducts$Scheme;I)V"⟩
abbrev cX10_stretch : ByteArray := prog_12_method_13_code
def yX10_stretch : MethodName := ⟨RX10, "stretch", "(LFewProducts$Scheme;II)V"⟩
def RX11 : String := "FewProducts"
def TX11 : u_T := fun k => match k with
  | 0 => ("FewProducts", "text", "LFewProducts$Text;", true)
  | 1 => ("FewProducts", "told", "LFewProducts$Told;", true)
  | 2 => ("FewProducts", "now", "LFewProducts$Scheme;", true)
  | 3 => ("FewProducts", "kept", "LFewProducts$Scheme;", true)
  | 4 => ("FewProducts", "spare", "LFewProducts$Scheme;", true)
  | 5 => ("FewProducts", "factors", "LFewProducts$Factors;", true)
  | 6 => ("FewProducts", "joiner", "LFewProducts$Joiner;", true)
  | 7 => ("FewProducts", "shedder", "LFewProducts$Shedder;", true)
  | 8 => ("FewProducts", "basis", "LFewProducts$Basis;", true)
  | 9 => ("FewProducts", "lifting", "LFewProducts$Lifting;", true)
  | _ => ("FewProducts", "isKept", "Z", false)
def tyX11 : Nat → FieldType := fun k => match k with
  | 0 => .object "FewProducts$Text"
  | 1 => .object "FewProducts$Told"
  | 2 => .object "FewProducts$Scheme"
  | 3 => .object "FewProducts$Scheme"
  | 4 => .object "FewProducts$Scheme"
  | 5 => .object "FewProducts$Factors"
  | 6 => .object "FewProducts$Joiner"
  | 7 => .object "FewProducts$Shedder"
  | 8 => .object "FewProducts$Basis"
  | 9 => .object "FewProducts$Lifting"
  | _ => .boolean
theorem nmX11 : ∀ a, a < 11 → ∀ b, b < 11 → a ≠ b → (TX11 a).2.1 ≠ (TX11 b).2.1 := by decide +kernel
theorem tyX11_ok : ∀ k, k < 11 → parseFieldDescriptor (TX11 k).2.2.1 = some (tyX11 k) := by decide +kernel
abbrev cX11_init : ByteArray := prog_1_method_1_code
def yX11_init : MethodName := ⟨RX11, "<init>", "()V"⟩
abbrev cX11_format : ByteArray := prog_1_method_2_code
def yX11_format : MethodName := ⟨RX11, "format", "(IIII)I"⟩
abbrev cX11_sign : ByteArray := prog_1_method_3_code
def yX11_sign : MethodName := ⟨RX11, "sign", "(I)I"⟩
abbrev cX11_end : ByteArray := prog_1_method_4_code
def yX11_end : MethodName := ⟨RX11, "end", "(I)Z"⟩
abbrev cX11_scheme : ByteArray := prog_1_method_5_code
def yX11_scheme : MethodName := ⟨RX11, "scheme", "()I"⟩
abbrev cX11_adds : ByteArray := prog_1_method_6_code
def yX11_adds : MethodName := ⟨RX11, "adds", "()I"⟩
abbrev cX11_drops : ByteArray := prog_1_method_7_code
def yX11_drops : MethodName := ⟨RX11, "drops", "(I)I"⟩
abbrev cX11_form : ByteArray := prog_1_method_8_code
def yX11_form : MethodName := ⟨RX11, "form", "(II)I"⟩
abbrev cX11_number : ByteArray := prog_1_method_9_code
def yX11_number : MethodName := ⟨RX11, "number", "(III)I"⟩
abbrev cX11_checks : ByteArray := prog_1_method_10_code
def yX11_checks : MethodName := ⟨RX11, "checks", "()I"⟩
abbrev cX11_given : ByteArray := prog_1_method_11_code
def yX11_given : MethodName := ⟨RX11, "given", "(III)I"⟩
abbrev cX11_multiplies : ByteArray := prog_1_method_12_code
def yX11_multiplies : MethodName := ⟨RX11, "multiplies", "()I"⟩
abbrev cX11_sums : ByteArray := prog_1_method_13_code
def yX11_sums : MethodName := ⟨RX11, "sums", "()I"⟩
abbrev cX11_like : ByteArray := prog_1_method_14_code
def yX11_like : MethodName := ⟨RX11, "like", "(III)I"⟩
abbrev cX11_flips : ByteArray := prog_1_method_15_code
def yX11_flips : MethodName := ⟨RX11, "flips", "()I"⟩
abbrev cX11_flip : ByteArray := prog_1_method_16_code
def yX11_flip : MethodName := ⟨RX11, "flip", "(III)I"⟩
abbrev cX11_joins : ByteArray := prog_1_method_17_code
def yX11_joins : MethodName := ⟨RX11, "joins", "()I"⟩
abbrev cX11_sheds : ByteArray := prog_1_method_18_code
def yX11_sheds : MethodName := ⟨RX11, "sheds", "()I"⟩
abbrev cX11_splits : ByteArray := prog_1_method_19_code
def yX11_splits : MethodName := ⟨RX11, "splits", "(II)I"⟩
abbrev cX11_plus : ByteArray := prog_1_method_20_code
def yX11_plus : MethodName := ⟨RX11, "plus", "(III)I"⟩
abbrev cX11_scales : ByteArray := prog_1_method_21_code
def yX11_scales : MethodName := ⟨RX11, "scales", "(III)I"⟩
abbrev cX11_narrows : ByteArray := prog_1_method_22_code
def yX11_narrows : MethodName := ⟨RX11, "narrows", "(II)I"⟩
abbrev cX11_widens : ByteArray := prog_1_method_23_code
def yX11_widens : MethodName := ⟨RX11, "widens", "(I)I"⟩
abbrev cX11_walks : ByteArray := prog_1_method_24_code
def yX11_walks : MethodName := ⟨RX11, "walks", "(II)I"⟩
abbrev cX11_rolls : ByteArray := prog_1_method_25_code
def yX11_rolls : MethodName := ⟨RX11, "rolls", "()I"⟩
abbrev cX11_mirrors : ByteArray := prog_1_method_26_code
def yX11_mirrors : MethodName := ⟨RX11, "mirrors", "()I"⟩
abbrev cX11_shears : ByteArray := prog_1_method_27_code
def yX11_shears : MethodName := ⟨RX11, "shears", "(IIII)I"⟩
abbrev cX11_swaps : ByteArray := prog_1_method_28_code
def yX11_swaps : MethodName := ⟨RX11, "swaps", "(III)I"⟩
abbrev cX11_uses : ByteArray := prog_1_method_29_code
def yX11_uses : MethodName := ⟨RX11, "uses", "(II)I"⟩
abbrev cX11_round : ByteArray := prog_1_method_30_code
def yX11_round : MethodName := ⟨RX11, "round", "()I"⟩
abbrev cX11_mirrored : ByteArray := prog_1_method_31_code
def yX11_mirrored : MethodName := ⟨RX11, "mirrored", "()I"⟩
abbrev cX11_groups : ByteArray := prog_1_method_32_code
def yX11_groups : MethodName := ⟨RX11, "groups", "(I)I"⟩
abbrev cX11_spans : ByteArray := prog_1_method_33_code
def yX11_spans : MethodName := ⟨RX11, "spans", "(I)I"⟩
abbrev cX11_keeps : ByteArray := prog_1_method_34_code
def yX11_keeps : MethodName := ⟨RX11, "keeps", "()I"⟩
abbrev cX11_others : ByteArray := prog_1_method_35_code
def yX11_others : MethodName := ⟨RX11, "others", "()I"⟩
abbrev cX11_unlikes : ByteArray := prog_1_method_36_code
def yX11_unlikes : MethodName := ⟨RX11, "unlikes", "()I"⟩
abbrev cX11_back : ByteArray := prog_1_method_37_code
def yX11_back : MethodName := ⟨RX11, "back", "()I"⟩
abbrev cX11_lifts : ByteArray := prog_1_method_38_code
def yX11_lifts : MethodName := ⟨RX11, "lifts", "()I"⟩
abbrev cX11_count : ByteArray := prog_1_method_39_code
def yX11_count : MethodName := ⟨RX11, "count", "(I)I"⟩
abbrev cX11_row : ByteArray := prog_1_method_40_code
def yX11_row : MethodName := ⟨RX11, "row", "(I)J"⟩
abbrev cX11_isSize : ByteArray := prog_1_method_41_code
def yX11_isSize : MethodName := ⟨RX11, "isSize", "(I)Z"⟩
abbrev cX11_isTable : ByteArray := prog_1_method_42_code
def yX11_isTable : MethodName := ⟨RX11, "isTable", "(I)Z"⟩
abbrev cX11_isLine : ByteArray := prog_1_method_43_code
def yX11_isLine : MethodName := ⟨RX11, "isLine", "(II)Z"⟩
abbrev cX11_isFactor : ByteArray := prog_1_method_44_code
def yX11_isFactor : MethodName := ⟨RX11, "isFactor", "(I)Z"⟩
abbrev cX11_behind : ByteArray := prog_1_method_45_code
def yX11_behind : MethodName := ⟨RX11, "behind", "(I)I"⟩
abbrev cX11_ahead : ByteArray := prog_1_method_46_code
def yX11_ahead : MethodName := ⟨RX11, "ahead", "(I)I"⟩
abbrev cX11_bit : ByteArray := prog_1_method_47_code
def yX11_bit : MethodName := ⟨RX11, "bit", "(I)J"⟩
abbrev cX11_lessOne : ByteArray := prog_1_method_48_code
def yX11_lessOne : MethodName := ⟨RX11, "lessOne", "(I)I"⟩
abbrev cX11_tellFirst : ByteArray := prog_1_method_49_code
def yX11_tellFirst : MethodName := ⟨RX11, "tellFirst", "(IIII)V"⟩
abbrev cX11_tellThree : ByteArray := prog_1_method_50_code
def yX11_tellThree : MethodName := ⟨RX11, "tellThree", "(III)V"⟩
abbrev cX11_asSpare : ByteArray := prog_1_method_51_code
def yX11_asSpare : MethodName := ⟨RX11, "asSpare", "()I"⟩
def RX12 : String := "FewProductsModel"
def TX12 : u_T := fun k => match k with
  | 0 => ("FewProductsModel", "sides", "[I", true)
  | 1 => ("FewProductsModel", "q", "I", false)
  | 2 => ("FewProductsModel", "many", "I", false)
  | 3 => ("FewProductsModel", "numbers", "[I", true)
  | 4 => ("FewProductsModel", "keptMany", "I", false)
  | 5 => ("FewProductsModel", "keptSides", "[I", true)
  | 6 => ("FewProductsModel", "kept", "[I", true)
  | 7 => ("FewProductsModel", "text", "[B", true)
  | 8 => ("FewProductsModel", "typed", "I", false)
  | 9 => ("FewProductsModel", "row", "[J", true)
  | 10 => ("FewProductsModel", "rowMany", "I", false)
  | 11 => ("FewProductsModel", "thrown", "I", false)
  | 12 => ("FewProductsModel", "length", "I", false)
  | 13 => ("FewProductsModel", "here", "I", false)
  | 14 => ("FewProductsModel", "wrong", "I", false)
  | 15 => ("FewProductsModel", "readNumbers", "[I", true)
  | 16 => ("FewProductsModel", "readMany", "I", false)
  | 17 => ("FewProductsModel", "wrongMany", "I", false)
  | 18 => ("FewProductsModel", "firstWrong", "I", false)
  | 19 => ("FewProductsModel", "tables", "[I", true)
  | 20 => ("FewProductsModel", "joinedZero", "I", false)
  | 21 => ("FewProductsModel", "joinedTwo", "I", false)
  | 22 => ("FewProductsModel", "taken", "[I", true)
  | 23 => ("FewProductsModel", "takenOf", "[I", true)
  | 24 => ("FewProductsModel", "takenMany", "I", false)
  | 25 => ("FewProductsModel", "shed", "[I", true)
  | 26 => ("FewProductsModel", "beside", "[I", true)
  | 27 => ("FewProductsModel", "isTaken", "[Z", true)
  | 28 => ("FewProductsModel", "free", "[I", true)
  | 29 => ("FewProductsModel", "freeMany", "I", false)
  | 30 => ("FewProductsModel", "equations", "[J", true)
  | 31 => ("FewProductsModel", "leads", "[I", true)
  | _ => ("FewProductsModel", "rank", "I", false)
def tyX12 : Nat → FieldType := fun k => match k with
  | 0 => .array .int
  | 1 => .int
  | 2 => .int
  | 3 => .array .int
  | 4 => .int
  | 5 => .array .int
  | 6 => .array .int
  | 7 => .array .byte
  | 8 => .int
  | 9 => .array .long
  | 10 => .int
  | 11 => .int
  | 12 => .int
  | 13 => .int
  | 14 => .int
  | 15 => .array .int
  | 16 => .int
  | 17 => .int
  | 18 => .int
  | 19 => .array .int
  | 20 => .int
  | 21 => .int
  | 22 => .array .int
  | 23 => .array .int
  | 24 => .int
  | 25 => .array .int
  | 26 => .array .int
  | 27 => .array .boolean
  | 28 => .array .int
  | 29 => .int
  | 30 => .array .long
  | 31 => .array .int
  | _ => .int
theorem nmX12 : ∀ a, a < 33 → ∀ b, b < 33 → a ≠ b → (TX12 a).2.1 ≠ (TX12 b).2.1 := by decide +kernel
theorem tyX12_ok : ∀ k, k < 33 → parseFieldDescriptor (TX12 k).2.2.1 = some (tyX12 k) := by decide +kernel
abbrev cX12_init : ByteArray := prog_14_method_1_code
def yX12_init : MethodName := ⟨RX12, "<init>", "()V"⟩
abbrev cX12_thrown : ByteArray := prog_14_method_2_code
def yX12_thrown : MethodName := ⟨RX12, "thrown", "()I"⟩
abbrev cX12_in : ByteArray := prog_14_method_3_code
def yX12_in : MethodName := ⟨RX12, "in", "(JJJ)Z"⟩
abbrev cX12_lost : ByteArray := prog_14_method_4_code
def yX12_lost : MethodName := ⟨RX12, "lost", "()I"⟩
abbrev cX12_tell : ByteArray := prog_14_method_5_code
def yX12_tell : MethodName := ⟨RX12, "tell", "(J)V"⟩
abbrev cX12_sign : ByteArray := prog_14_method_6_code
def yX12_sign : MethodName := ⟨RX12, "sign", "(I)I"⟩
abbrev cX12_end : ByteArray := prog_14_method_7_code
def yX12_end : MethodName := ⟨RX12, "end", "(I)Z"⟩
abbrev cX12_rowsOf : ByteArray := prog_14_method_8_code
def yX12_rowsOf : MethodName := ⟨RX12, "rowsOf", "(I)I"⟩
abbrev cX12_columnsOf : ByteArray := prog_14_method_9_code
def yX12_columnsOf : MethodName := ⟨RX12, "columnsOf", "(I)I"⟩
abbrev cX12_placesOf : ByteArray := prog_14_method_10_code
def yX12_placesOf : MethodName := ⟨RX12, "placesOf", "(I)I"⟩
abbrev cX12_at : ByteArray := prog_14_method_11_code
def yX12_at : MethodName := ⟨RX12, "at", "(III)I"⟩
abbrev cX12_isProduct : ByteArray := prog_14_method_12_code
def yX12_isProduct : MethodName := ⟨RX12, "isProduct", "(I)Z"⟩
abbrev cX12_isTable : ByteArray := prog_14_method_13_code
def yX12_isTable : MethodName := ⟨RX12, "isTable", "(I)Z"⟩
abbrev cX12_isPlace : ByteArray := prog_14_method_14_code
def yX12_isPlace : MethodName := ⟨RX12, "isPlace", "(II)Z"⟩
abbrev cX12_mod : ByteArray := prog_14_method_15_code
def yX12_mod : MethodName := ⟨RX12, "mod", "(I)I"⟩
abbrev cX12_clears : ByteArray := prog_14_method_16_code
def yX12_clears : MethodName := ⟨RX12, "clears", "(I)V"⟩
abbrev cX12_laysPlain : ByteArray := prog_14_method_17_code
def yX12_laysPlain : MethodName := ⟨RX12, "laysPlain", "()V"⟩
abbrev cX12_addsPlain : ByteArray := prog_14_method_18_code
def yX12_addsPlain : MethodName := ⟨RX12, "addsPlain", "(III)V"⟩
abbrev cX12_format : ByteArray := prog_14_method_19_code
def yX12_format : MethodName := ⟨RX12, "format", "(IIII)I"⟩
abbrev cX12_begin : ByteArray := prog_14_method_20_code
def yX12_begin : MethodName := ⟨RX12, "begin", "()V"⟩
abbrev cX12_sees : ByteArray := prog_14_method_21_code
def yX12_sees : MethodName := ⟨RX12, "sees", "()I"⟩
abbrev cX12_fault : ByteArray := prog_14_method_22_code
def yX12_fault : MethodName := ⟨RX12, "fault", "(I)V"⟩
abbrev cX12_passes : ByteArray := prog_14_method_23_code
def yX12_passes : MethodName := ⟨RX12, "passes", "(C)Z"⟩
abbrev cX12_expect : ByteArray := prog_14_method_24_code
def yX12_expect : MethodName := ⟨RX12, "expect", "(C)V"⟩
abbrev cX12_ends : ByteArray := prog_14_method_25_code
def yX12_ends : MethodName := ⟨RX12, "ends", "()V"⟩
abbrev cX12_told : ByteArray := prog_14_method_26_code
def yX12_told : MethodName := ⟨RX12, "told", "()I"⟩
abbrev cX12_readSide : ByteArray := prog_14_method_27_code
def yX12_readSide : MethodName := ⟨RX12, "readSide", "(I)I"⟩
abbrev cX12_readTerm : ByteArray := prog_14_method_28_code
def yX12_readTerm : MethodName := ⟨RX12, "readTerm", "(IIZ)V"⟩
abbrev cX12_readForm : ByteArray := prog_14_method_29_code
def yX12_readForm : MethodName := ⟨RX12, "readForm", "(II)V"⟩
abbrev cX12_readProduct : ByteArray := prog_14_method_30_code
def yX12_readProduct : MethodName := ⟨RX12, "readProduct", "()V"⟩
abbrev cX12_scheme : ByteArray := prog_14_method_31_code
def yX12_scheme : MethodName := ⟨RX12, "scheme", "()I"⟩
abbrev cX12_adds : ByteArray := prog_14_method_32_code
def yX12_adds : MethodName := ⟨RX12, "adds", "()I"⟩
abbrev cX12_goes : ByteArray := prog_14_method_33_code
def yX12_goes : MethodName := ⟨RX12, "goes", "(I)V"⟩
abbrev cX12_drops : ByteArray := prog_14_method_34_code
def yX12_drops : MethodName := ⟨RX12, "drops", "(I)I"⟩
abbrev cX12_form : ByteArray := prog_14_method_35_code
def yX12_form : MethodName := ⟨RX12, "form", "(II)I"⟩
abbrev cX12_number : ByteArray := prog_14_method_36_code
def yX12_number : MethodName := ⟨RX12, "number", "(III)I"⟩
abbrev cX12_wholeGiven : ByteArray := prog_14_method_37_code
def yX12_wholeGiven : MethodName := ⟨RX12, "wholeGiven", "(III)I"⟩
abbrev cX12_needed : ByteArray := prog_14_method_38_code
def yX12_needed : MethodName := ⟨RX12, "needed", "(III)I"⟩
abbrev cX12_looks : ByteArray := prog_14_method_39_code
def yX12_looks : MethodName := ⟨RX12, "looks", "()V"⟩
abbrev cX12_checks : ByteArray := prog_14_method_40_code
def yX12_checks : MethodName := ⟨RX12, "checks", "()I"⟩
abbrev cX12_given : ByteArray := prog_14_method_41_code
def yX12_given : MethodName := ⟨RX12, "given", "(III)I"⟩
abbrev cX12_readTables : ByteArray := prog_14_method_42_code
def yX12_readTables : MethodName := ⟨RX12, "readTables", "(I)V"⟩
abbrev cX12_madeOf : ByteArray := prog_14_method_43_code
def yX12_madeOf : MethodName := ⟨RX12, "madeOf", "(III)I"⟩
abbrev cX12_multiplies : ByteArray := prog_14_method_44_code
def yX12_multiplies : MethodName := ⟨RX12, "multiplies", "()I"⟩
abbrev cX12_fullOf : ByteArray := prog_14_method_45_code
def yX12_fullOf : MethodName := ⟨RX12, "fullOf", "(II)I"⟩
abbrev cX12_lessOne : ByteArray := prog_14_method_46_code
def yX12_lessOne : MethodName := ⟨RX12, "lessOne", "(I)I"⟩
abbrev cX12_sums : ByteArray := prog_14_method_47_code
def yX12_sums : MethodName := ⟨RX12, "sums", "()I"⟩
abbrev cX12_isZero : ByteArray := prog_14_method_48_code
def yX12_isZero : MethodName := ⟨RX12, "isZero", "([II)Z"⟩
abbrev cX12_likeOf : ByteArray := prog_14_method_49_code
def yX12_likeOf : MethodName := ⟨RX12, "likeOf", "([II[II)I"⟩
abbrev cX12_likeAt : ByteArray := prog_14_method_50_code
def yX12_likeAt : MethodName := ⟨RX12, "likeAt", "(III)I"⟩
abbrev cX12_like : ByteArray := prog_14_method_51_code
def yX12_like : MethodName := ⟨RX12, "like", "(III)I"⟩
abbrev cX12_areLike : ByteArray := prog_14_method_52_code
def yX12_areLike : MethodName := ⟨RX12, "areLike", "([II[II)Z"⟩
abbrev cX12_flipsAt : ByteArray := prog_14_method_53_code
def yX12_flipsAt : MethodName := ⟨RX12, "flipsAt", "(I)I"⟩
abbrev cX12_flips : ByteArray := prog_14_method_54_code
def yX12_flips : MethodName := ⟨RX12, "flips", "()I"⟩
abbrev cX12_goFlip : ByteArray := prog_14_method_55_code
def yX12_goFlip : MethodName := ⟨RX12, "goFlip", "(III)V"⟩
abbrev cX12_hasZero : ByteArray := prog_14_method_56_code
def yX12_hasZero : MethodName := ⟨RX12, "hasZero", "(I)Z"⟩
abbrev cX12_zeroMany : ByteArray := prog_14_method_57_code
def yX12_zeroMany : MethodName := ⟨RX12, "zeroMany", "()I"⟩
abbrev cX12_flip : ByteArray := prog_14_method_58_code
def yX12_flip : MethodName := ⟨RX12, "flip", "(III)I"⟩
abbrev cX12_firstZero : ByteArray := prog_14_method_59_code
def yX12_firstZero : MethodName := ⟨RX12, "firstZero", "()I"⟩
abbrev cX12_joinsTwo : ByteArray := prog_14_method_60_code
def yX12_joinsTwo : MethodName := ⟨RX12, "joinsTwo", "()Z"⟩
abbrev cX12_joinsAll : ByteArray := prog_14_method_61_code
def yX12_joinsAll : MethodName := ⟨RX12, "joinsAll", "()V"⟩
abbrev cX12_joins : ByteArray := prog_14_method_62_code
def yX12_joins : MethodName := ⟨RX12, "joins", "()I"⟩
abbrev cX12_takenLead : ByteArray := prog_14_method_63_code
def yX12_takenLead : MethodName := ⟨RX12, "takenLead", "(I)I"⟩
abbrev cX12_isSum : ByteArray := prog_14_method_64_code
def yX12_isSum : MethodName := ⟨RX12, "isSum", "()Z"⟩
abbrev cX12_laysBehind : ByteArray := prog_14_method_65_code
def yX12_laysBehind : MethodName := ⟨RX12, "laysBehind", "(III)V"⟩
abbrev cX12_takes : ByteArray := prog_14_method_66_code
def yX12_takes : MethodName := ⟨RX12, "takes", "(I)V"⟩
abbrev cX12_isShed : ByteArray := prog_14_method_67_code
def yX12_isShed : MethodName := ⟨RX12, "isShed", "(IIII)Z"⟩
abbrev cX12_shedsOne : ByteArray := prog_14_method_68_code
def yX12_shedsOne : MethodName := ⟨RX12, "shedsOne", "()I"⟩
abbrev cX12_sheds : ByteArray := prog_14_method_69_code
def yX12_sheds : MethodName := ⟨RX12, "sheds", "()I"⟩
abbrev cX12_splits : ByteArray := prog_14_method_70_code
def yX12_splits : MethodName := ⟨RX12, "splits", "(II)I"⟩
abbrev cX12_plus : ByteArray := prog_14_method_71_code
def yX12_plus : MethodName := ⟨RX12, "plus", "(III)I"⟩
abbrev cX12_scales : ByteArray := prog_14_method_72_code
def yX12_scales : MethodName := ⟨RX12, "scales", "(III)I"⟩
abbrev cX12_wasAt : ByteArray := prog_14_method_73_code
def yX12_wasAt : MethodName := ⟨RX12, "wasAt", "(III)I"⟩
abbrev cX12_resizes : ByteArray := prog_14_method_74_code
def yX12_resizes : MethodName := ⟨RX12, "resizes", "(III)V"⟩
abbrev cX12_narrows : ByteArray := prog_14_method_75_code
def yX12_narrows : MethodName := ⟨RX12, "narrows", "(II)I"⟩
abbrev cX12_widens : ByteArray := prog_14_method_76_code
def yX12_widens : MethodName := ⟨RX12, "widens", "(I)I"⟩
abbrev cX12_goNumbered : ByteArray := prog_14_method_77_code
def yX12_goNumbered : MethodName := ⟨RX12, "goNumbered", "(I)V"⟩
abbrev cX12_walks : ByteArray := prog_14_method_78_code
def yX12_walks : MethodName := ⟨RX12, "walks", "(II)I"⟩
abbrev cX12_laysTurned : ByteArray := prog_14_method_79_code
def yX12_laysTurned : MethodName := ⟨RX12, "laysTurned", "()V"⟩
abbrev cX12_laysMirrored : ByteArray := prog_14_method_80_code
def yX12_laysMirrored : MethodName := ⟨RX12, "laysMirrored", "()V"⟩
abbrev cX12_takesBeside : ByteArray := prog_14_method_81_code
def yX12_takesBeside : MethodName := ⟨RX12, "takesBeside", "(III)V"⟩
abbrev cX12_rolls : ByteArray := prog_14_method_82_code
def yX12_rolls : MethodName := ⟨RX12, "rolls", "()I"⟩
abbrev cX12_mirrors : ByteArray := prog_14_method_83_code
def yX12_mirrors : MethodName := ⟨RX12, "mirrors", "()I"⟩
abbrev cX12_shearsRows : ByteArray := prog_14_method_84_code
def yX12_shearsRows : MethodName := ⟨RX12, "shearsRows", "(IIIII)V"⟩
abbrev cX12_shearsColumns : ByteArray := prog_14_method_85_code
def yX12_shearsColumns : MethodName := ⟨RX12, "shearsColumns", "(IIIII)V"⟩
abbrev cX12_othersThan : ByteArray := prog_14_method_86_code
def yX12_othersThan : MethodName := ⟨RX12, "othersThan", "()I"⟩
abbrev cX12_exchanged : ByteArray := prog_14_method_87_code
def yX12_exchanged : MethodName := ⟨RX12, "exchanged", "(III)I"⟩
abbrev cX12_swaps : ByteArray := prog_14_method_88_code
def yX12_swaps : MethodName := ⟨RX12, "swaps", "(III)I"⟩
abbrev cX12_usesOf : ByteArray := prog_14_method_89_code
def yX12_usesOf : MethodName := ⟨RX12, "usesOf", "(III)I"⟩
abbrev cX12_uses : ByteArray := prog_14_method_90_code
def yX12_uses : MethodName := ⟨RX12, "uses", "(II)I"⟩
abbrev cX12_shears : ByteArray := prog_14_method_91_code
def yX12_shears : MethodName := ⟨RX12, "shears", "(IIII)I"⟩
abbrev cX12_without : ByteArray := prog_14_method_92_code
def yX12_without : MethodName := ⟨RX12, "without", "([II[II)I"⟩
abbrev cX12_asBeside : ByteArray := prog_14_method_93_code
def yX12_asBeside : MethodName := ⟨RX12, "asBeside", "()I"⟩
abbrev cX12_round : ByteArray := prog_14_method_94_code
def yX12_round : MethodName := ⟨RX12, "round", "()I"⟩
abbrev cX12_mirrored : ByteArray := prog_14_method_95_code
def yX12_mirrored : MethodName := ⟨RX12, "mirrored", "()I"⟩
abbrev cX12_groupOf : ByteArray := prog_14_method_96_code
def yX12_groupOf : MethodName := ⟨RX12, "groupOf", "(II)J"⟩
abbrev cX12_ones : ByteArray := prog_14_method_97_code
def yX12_ones : MethodName := ⟨RX12, "ones", "(J)I"⟩
abbrev cX12_groups : ByteArray := prog_14_method_98_code
def yX12_groups : MethodName := ⟨RX12, "groups", "(I)I"⟩
abbrev cX12_frees : ByteArray := prog_14_method_99_code
def yX12_frees : MethodName := ⟨RX12, "frees", "(II)Z"⟩
abbrev cX12_leadOf : ByteArray := prog_14_method_100_code
def yX12_leadOf : MethodName := ⟨RX12, "leadOf", "(I)I"⟩
abbrev cX12_spans : ByteArray := prog_14_method_101_code
def yX12_spans : MethodName := ⟨RX12, "spans", "(I)I"⟩
abbrev cX12_keeps : ByteArray := prog_14_method_102_code
def yX12_keeps : MethodName := ⟨RX12, "keeps", "()I"⟩
abbrev cX12_isKeptSo : ByteArray := prog_14_method_103_code
def yX12_isKeptSo : MethodName := ⟨RX12, "isKeptSo", "()Z"⟩
abbrev cX12_others : ByteArray := prog_14_method_104_code
def yX12_others : MethodName := ⟨RX12, "others", "()I"⟩
abbrev cX12_keptGiven : ByteArray := prog_14_method_105_code
def yX12_keptGiven : MethodName := ⟨RX12, "keptGiven", "(III)I"⟩
abbrev cX12_unlikes : ByteArray := prog_14_method_106_code
def yX12_unlikes : MethodName := ⟨RX12, "unlikes", "()I"⟩
abbrev cX12_back : ByteArray := prog_14_method_107_code
def yX12_back : MethodName := ⟨RX12, "back", "()I"⟩
abbrev cX12_unknowns : ByteArray := prog_14_method_108_code
def yX12_unknowns : MethodName := ⟨RX12, "unknowns", "()I"⟩
abbrev cX12_unknownOf : ByteArray := prog_14_method_109_code
def yX12_unknownOf : MethodName := ⟨RX12, "unknownOf", "(III)I"⟩
abbrev cX12_turnsBit : ByteArray := prog_14_method_110_code
def yX12_turnsBit : MethodName := ⟨RX12, "turnsBit", "(II)V"⟩
abbrev cX12_isBit : ByteArray := prog_14_method_111_code
def yX12_isBit : MethodName := ⟨RX12, "isBit", "(II)Z"⟩
abbrev cX12_equation : ByteArray := prog_14_method_112_code
def yX12_equation : MethodName := ⟨RX12, "equation", "(III)Z"⟩
abbrev cX12_lifts : ByteArray := prog_14_method_113_code
def yX12_lifts : MethodName := ⟨RX12, "lifts", "()I"⟩
abbrev cX12_unlikeAt : ByteArray := prog_14_method_114_code
def yX12_unlikeAt : MethodName := ⟨RX12, "unlikeAt", "(I)I"⟩
abbrev cX12_fullAll : ByteArray := prog_14_method_115_code
def yX12_fullAll : MethodName := ⟨RX12, "fullAll", "()I"⟩
abbrev cX12_singleMany : ByteArray := prog_14_method_116_code
def yX12_singleMany : MethodName := ⟨RX12, "singleMany", "()I"⟩
abbrev cX12_count : ByteArray := prog_14_method_117_code
def yX12_count : MethodName := ⟨RX12, "count", "(I)I"⟩
abbrev cX12_row : ByteArray := prog_14_method_118_code
def yX12_row : MethodName := ⟨RX12, "row", "(I)J"⟩
def RJx145de : String := "java/io/Serializable"
def RJ6 : String := "java/lang/Integer"
abbrev cJ6_bitCount_0f7a4 : ByteArray := prog_17_method_49_code
def yJ6_bitCount_0f7a4 : MethodName := ⟨RJ6, "bitCount", "(I)I"⟩
def RJ13 : String := "java/lang/Long"
abbrev cJ13_bitCount_95d88 : ByteArray := prog_18_method_50_code
def yJ13_bitCount_95d88 : MethodName := ⟨RJ13, "bitCount", "(J)I"⟩
def RJ9 : String := "java/lang/Math"
abbrev cJ9_floorMod_7cf53 : ByteArray := prog_19_method_50_code
def yJ9_floorMod_7cf53 : MethodName := ⟨RJ9, "floorMod", "(II)I"⟩
def RL : String := "FewProductsLaw"
abbrev cL_row : ByteArray := method_3_code
def yL_row : MethodName := ⟨RL, "row", "(LFewProducts;I[J)I"⟩
abbrev cL_law : ByteArray := code
def yL_law : MethodName := ⟨RL, "law", "([I)Z"⟩
abbrev vwCl : List vw_C := [(RX0, TX0, 7), (RX1, TX1, 1), (RX3, TX3, 1), (RX4, TX4, 2), (RX5, TX5, 6), (RX6, TX6, 6), (RX7, TX7, 3), (RX8, TX8, 4), (RX9, TX9, 2), (RX11, TX11, 11), (RX12, TX12, 33)]
/-- the words on private members of nest mates -/
def zNW : List Cond := [.methodLinkNest "FewProducts" 9 ⟨"FewProducts$Text", "<init>", "()V"⟩ "FewProducts", .fieldLinkNest "FewProducts" 90 "FewProducts$Text" "length" "I" "FewProducts", .fieldLinkNest "FewProducts" 242 "FewProducts$Text" "form" "I" "FewProducts", .methodLinkNest "FewProducts" 18 ⟨"FewProducts$Told", "<init>", "()V"⟩ "FewProducts", .fieldLinkNest "FewProducts" 361 "FewProducts$Told" "size" "I" "FewProducts", .methodLinkNest "FewProducts" 25 ⟨"FewProducts$Scheme", "<init>", "()V"⟩ "FewProducts", .fieldLinkNest "FewProducts$Turns" 23 "FewProducts$Scheme" "n" "I" "FewProducts", .fieldLinkNest "FewProducts" 314 "FewProducts$Scheme" "n" "I" "FewProducts", .fieldLinkNest "FewProducts$Turns" 26 "FewProducts$Scheme" "m" "I" "FewProducts", .fieldLinkNest "FewProducts$Factors" 58 "FewProducts$Scheme" "m" "I" "FewProducts", .fieldLinkNest "FewProducts" 317 "FewProducts$Scheme" "m" "I" "FewProducts", .fieldLinkNest "FewProducts$Turns" 29 "FewProducts$Scheme" "p" "I" "FewProducts", .fieldLinkNest "FewProducts$Factors" 61 "FewProducts$Scheme" "p" "I" "FewProducts", .fieldLinkNest "FewProducts" 320 "FewProducts$Scheme" "p" "I" "FewProducts", .fieldLinkNest "FewProducts$Factors" 43 "FewProducts$Scheme" "q" "I" "FewProducts", .fieldLinkNest "FewProducts$Shedder" 62 "FewProducts$Scheme" "q" "I" "FewProducts", .fieldLinkNest "FewProducts$Joiner" 56 "FewProducts$Scheme" "q" "I" "FewProducts", .fieldLinkNest "FewProducts$Turns" 56 "FewProducts$Scheme" "q" "I" "FewProducts", .fieldLinkNest "FewProducts" 135 "FewProducts$Scheme" "q" "I" "FewProducts", .fieldLinkNest "FewProducts$Text" 69 "FewProducts$Scheme" "q" "I" "FewProducts", .fieldLinkNest "FewProducts$Turns" 9 "FewProducts$Scheme" "size" "I" "FewProducts", .fieldLinkNest "FewProducts$Factors" 20 "FewProducts$Scheme" "size" "I" "FewProducts", .fieldLinkNest "FewProducts$Lifting" 34 "FewProducts$Scheme" "size" "I" "FewProducts", .fieldLinkNest "FewProducts$Shedder" 34 "FewProducts$Scheme" "size" "I" "FewProducts", .fieldLinkNest "FewProducts" 83 "FewProducts$Scheme" "size" "I" "FewProducts", .fieldLinkNest "FewProducts$Joiner" 32 "FewProducts$Scheme" "size" "I" "FewProducts", .fieldLinkNest "FewProducts$Text" 59 "FewProducts$Scheme" "size" "I" "FewProducts", .methodLinkNest "FewProducts" 38 ⟨"FewProducts$Factors", "<init>", "()V"⟩ "FewProducts", .fieldLinkNest "FewProducts" 174 "FewProducts$Factors" "numbers" "LFewProducts$Ints;" "FewProducts", .methodLinkNest "FewProducts" 45 ⟨"FewProducts$Joiner", "<init>", "()V"⟩ "FewProducts", .fieldLinkNest "FewProducts" 220 "FewProducts$Joiner" "byZero" "I" "FewProducts", .fieldLinkNest "FewProducts" 223 "FewProducts$Joiner" "byLike" "I" "FewProducts", .methodLinkNest "FewProducts" 52 ⟨"FewProducts$Shedder", "<init>", "()V"⟩ "FewProducts", .methodLinkNest "FewProducts$Shedder" 11 ⟨"FewProducts$Basis", "<init>", "()V"⟩ "FewProducts", .fieldLinkNest "FewProducts$Shedder" 84 "FewProducts$Basis" "size" "I" "FewProducts", .fieldLinkNest "FewProducts" 345 "FewProducts$Basis" "size" "I" "FewProducts", .fieldLinkNest "FewProducts$Shedder" 88 "FewProducts$Basis" "parts" "I" "FewProducts", .fieldLinkNest "FewProducts" 226 "FewProducts$Shedder" "went" "LFewProducts$Ints;" "FewProducts", .methodLinkNest "FewProducts" 59 ⟨"FewProducts$Basis", "<init>", "()V"⟩ "FewProducts", .methodLinkNest "FewProducts" 66 ⟨"FewProducts$Lifting", "<init>", "()V"⟩ "FewProducts", .fieldLinkNest "FewProducts" 358 "FewProducts$Lifting" "rank" "I" "FewProducts", .methodLinkNest "FewProducts$Scheme" 85 ⟨"FewProducts", "behind", "(I)I"⟩ "FewProducts", .methodLinkNest "FewProducts$Scheme" 79 ⟨"FewProducts", "isTable", "(I)Z"⟩ "FewProducts", .methodLinkNest "FewProducts$Joiner" 39 ⟨"FewProducts", "behind", "(I)I"⟩ "FewProducts", .methodLinkNest "FewProducts$Shedder" 30 ⟨"FewProducts", "behind", "(I)I"⟩ "FewProducts", .methodLinkNest "FewProducts$Turns" 46 ⟨"FewProducts", "ahead", "(I)I"⟩ "FewProducts", .methodLinkNest "FewProducts$Scheme" 126 ⟨"FewProducts", "bit", "(I)J"⟩ "FewProducts", .methodLinkNest "FewProducts$Lifting" 78 ⟨"FewProducts", "behind", "(I)I"⟩ "FewProducts", .methodLinkNest "FewProducts$Lifting" 71 ⟨"FewProducts", "bit", "(I)J"⟩ "FewProducts"]
def zTT : List Cond := lw_tbl.filter goodWord
theorem zTT_good {w : Cond} (h : w ∈ zTT) : goodWord w = true := (List.mem_filter.mp h).2
theorem zTT_tbl {w : Cond} (h : w ∈ zTT) : w ∈ lw_tbl := (List.mem_filter.mp h).1
theorem zTT_of {w : Cond} (i : Nat) (h : lw_tbl[i]? = some w) (g : goodWord w = true) : w ∈ zTT := List.mem_filter.mpr ⟨List.mem_of_getElem? h, g⟩
