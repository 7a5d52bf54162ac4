section
-- ===== PART A: goes FIRST, ahead of the names: the tables' words, and 'selects' of the private methods out of them =====
/-- a private method of a class that the tables say can be made, by its rows of tables_1 -/
def lw_okq (q : MethodName × Nat) : Prop := (q.1.cls ≠ "java/lang/invoke/MethodHandle" ∧ q.1.cls ≠ "java/lang/invoke/VarHandle") ∧ Cond.instantiable q.1.cls q.2 ∈ tables_1 ∧ Cond.privateMethod q.1 ∈ tables_1 ∧ Cond.instanceMethod q.1 ∈ tables_1
theorem lw_p0 : lw_okq (⟨"FewProducts$Scheme", "addOnes", "(III)V"⟩, 6) := ⟨⟨by decide +kernel, by decide +kernel⟩, List.mem_of_getElem? (i := 77) (by decide +kernel), List.mem_of_getElem? (i := 243) (by decide +kernel), List.mem_of_getElem? (i := 244) (by decide +kernel)⟩
theorem lw_p1 : lw_okq (⟨"FewProducts$Text", "takeProduct", "(LFewProducts$Scheme;)Z"⟩, 4) := ⟨⟨by decide +kernel, by decide +kernel⟩, List.mem_of_getElem? (i := 30) (by decide +kernel), List.mem_of_getElem? (i := 336) (by decide +kernel), List.mem_of_getElem? (i := 337) (by decide +kernel)⟩
theorem lw_p2 : lw_okq (⟨"FewProducts$Text", "take", "(C)Z"⟩, 4) := ⟨⟨by decide +kernel, by decide +kernel⟩, List.mem_of_getElem? (i := 30) (by decide +kernel), List.mem_of_getElem? (i := 341) (by decide +kernel), List.mem_of_getElem? (i := 342) (by decide +kernel)⟩
theorem lw_p3 : lw_okq (⟨"FewProducts$Text", "peek", "()I"⟩, 4) := ⟨⟨by decide +kernel, by decide +kernel⟩, List.mem_of_getElem? (i := 30) (by decide +kernel), List.mem_of_getElem? (i := 345) (by decide +kernel), List.mem_of_getElem? (i := 346) (by decide +kernel)⟩
theorem lw_p4 : lw_okq (⟨"FewProducts$Text", "takeForm", "(LFewProducts$Scheme;I)Z"⟩, 4) := ⟨⟨by decide +kernel, by decide +kernel⟩, List.mem_of_getElem? (i := 30) (by decide +kernel), List.mem_of_getElem? (i := 353) (by decide +kernel), List.mem_of_getElem? (i := 354) (by decide +kernel)⟩
theorem lw_p5 : lw_okq (⟨"FewProducts$Text", "takeTerm", "(LFewProducts$Scheme;II)Z"⟩, 4) := ⟨⟨by decide +kernel, by decide +kernel⟩, List.mem_of_getElem? (i := 30) (by decide +kernel), List.mem_of_getElem? (i := 357) (by decide +kernel), List.mem_of_getElem? (i := 358) (by decide +kernel)⟩
theorem lw_p6 : lw_okq (⟨"FewProducts$Text", "restFault", "()I"⟩, 4) := ⟨⟨by decide +kernel, by decide +kernel⟩, List.mem_of_getElem? (i := 30) (by decide +kernel), List.mem_of_getElem? (i := 378) (by decide +kernel), List.mem_of_getElem? (i := 379) (by decide +kernel)⟩
theorem lw_p7 : lw_okq (⟨"FewProducts", "tellFirst", "(IIII)V"⟩, 11) := ⟨⟨by decide +kernel, by decide +kernel⟩, List.mem_of_getElem? (i := 22) (by decide +kernel), List.mem_of_getElem? (i := 481) (by decide +kernel), List.mem_of_getElem? (i := 482) (by decide +kernel)⟩
theorem lw_p8 : lw_okq (⟨"FewProducts", "tellThree", "(III)V"⟩, 11) := ⟨⟨by decide +kernel, by decide +kernel⟩, List.mem_of_getElem? (i := 22) (by decide +kernel), List.mem_of_getElem? (i := 485) (by decide +kernel), List.mem_of_getElem? (i := 486) (by decide +kernel)⟩
theorem lw_p9 : lw_okq (⟨"FewProducts$Factors", "weigh", "(III)I"⟩, 1) := ⟨⟨by decide +kernel, by decide +kernel⟩, List.mem_of_getElem? (i := 125) (by decide +kernel), List.mem_of_getElem? (i := 516) (by decide +kernel), List.mem_of_getElem? (i := 517) (by decide +kernel)⟩
theorem lw_p10 : lw_okq (⟨"FewProducts$Shedder", "isSumOfAhead", "(LFewProducts$Scheme;III)Z"⟩, 3) := ⟨⟨by decide +kernel, by decide +kernel⟩, List.mem_of_getElem? (i := 153) (by decide +kernel), List.mem_of_getElem? (i := 631) (by decide +kernel), List.mem_of_getElem? (i := 632) (by decide +kernel)⟩
theorem lw_p11 : lw_okq (⟨"FewProducts$Basis", "reduce", "(I)V"⟩, 7) := ⟨⟨by decide +kernel, by decide +kernel⟩, List.mem_of_getElem? (i := 159) (by decide +kernel), List.mem_of_getElem? (i := 646) (by decide +kernel), List.mem_of_getElem? (i := 647) (by decide +kernel)⟩
theorem lw_p12 : lw_okq (⟨"FewProducts$Shedder", "share", "(LFewProducts$Scheme;II)V"⟩, 3) := ⟨⟨by decide +kernel, by decide +kernel⟩, List.mem_of_getElem? (i := 153) (by decide +kernel), List.mem_of_getElem? (i := 665) (by decide +kernel), List.mem_of_getElem? (i := 666) (by decide +kernel)⟩
theorem lw_p13 : lw_okq (⟨"FewProducts", "isFactor", "(I)Z"⟩, 11) := ⟨⟨by decide +kernel, by decide +kernel⟩, List.mem_of_getElem? (i := 22) (by decide +kernel), List.mem_of_getElem? (i := 695) (by decide +kernel), List.mem_of_getElem? (i := 696) (by decide +kernel)⟩
theorem lw_p14 : lw_okq (⟨"FewProducts", "isLine", "(II)Z"⟩, 11) := ⟨⟨by decide +kernel, by decide +kernel⟩, List.mem_of_getElem? (i := 22) (by decide +kernel), List.mem_of_getElem? (i := 708) (by decide +kernel), List.mem_of_getElem? (i := 709) (by decide +kernel)⟩
theorem lw_p15 : lw_okq (⟨"FewProducts", "asSpare", "()I"⟩, 11) := ⟨⟨by decide +kernel, by decide +kernel⟩, List.mem_of_getElem? (i := 22) (by decide +kernel), List.mem_of_getElem? (i := 816) (by decide +kernel), List.mem_of_getElem? (i := 817) (by decide +kernel)⟩
def lw_privs_1 : List (MethodName × Nat) := [(⟨"FewProducts$Scheme", "addOnes", "(III)V"⟩, 6), (⟨"FewProducts$Text", "takeProduct", "(LFewProducts$Scheme;)Z"⟩, 4), (⟨"FewProducts$Text", "take", "(C)Z"⟩, 4), (⟨"FewProducts$Text", "peek", "()I"⟩, 4), (⟨"FewProducts$Text", "takeForm", "(LFewProducts$Scheme;I)Z"⟩, 4), (⟨"FewProducts$Text", "takeTerm", "(LFewProducts$Scheme;II)Z"⟩, 4), (⟨"FewProducts$Text", "restFault", "()I"⟩, 4), (⟨"FewProducts", "tellFirst", "(IIII)V"⟩, 11), (⟨"FewProducts", "tellThree", "(III)V"⟩, 11), (⟨"FewProducts$Factors", "weigh", "(III)I"⟩, 1), (⟨"FewProducts$Shedder", "isSumOfAhead", "(LFewProducts$Scheme;III)Z"⟩, 3), (⟨"FewProducts$Basis", "reduce", "(I)V"⟩, 7), (⟨"FewProducts$Shedder", "share", "(LFewProducts$Scheme;II)V"⟩, 3), (⟨"FewProducts", "isFactor", "(I)Z"⟩, 11), (⟨"FewProducts", "isLine", "(II)Z"⟩, 11), (⟨"FewProducts", "asSpare", "()I"⟩, 11)]
theorem lw_r1 : ∀ q ∈ lw_privs_1, lw_okq q := List.forall_mem_cons.mpr ⟨lw_p0, List.forall_mem_cons.mpr ⟨lw_p1, List.forall_mem_cons.mpr ⟨lw_p2, List.forall_mem_cons.mpr ⟨lw_p3, List.forall_mem_cons.mpr ⟨lw_p4, List.forall_mem_cons.mpr ⟨lw_p5, List.forall_mem_cons.mpr ⟨lw_p6, List.forall_mem_cons.mpr ⟨lw_p7, List.forall_mem_cons.mpr ⟨lw_p8, List.forall_mem_cons.mpr ⟨lw_p9, List.forall_mem_cons.mpr ⟨lw_p10, List.forall_mem_cons.mpr ⟨lw_p11, List.forall_mem_cons.mpr ⟨lw_p12, List.forall_mem_cons.mpr ⟨lw_p13, List.forall_mem_cons.mpr ⟨lw_p14, List.forall_mem_cons.mpr ⟨lw_p15, fun _ h => absurd h List.not_mem_nil⟩⟩⟩⟩⟩⟩⟩⟩⟩⟩⟩⟩⟩⟩⟩⟩
theorem lw_p16 : lw_okq (⟨"FewProducts$Lifting", "start", "(LFewProducts$Scheme;)V"⟩, 6) := ⟨⟨by decide +kernel, by decide +kernel⟩, List.mem_of_getElem? (i := 207) (by decide +kernel), List.mem_of_getElem? (i := 888) (by decide +kernel), List.mem_of_getElem? (i := 889) (by decide +kernel)⟩
theorem lw_p17 : lw_okq (⟨"FewProducts$Lifting", "setUnknown", "(LFewProducts$Scheme;III)V"⟩, 6) := ⟨⟨by decide +kernel, by decide +kernel⟩, List.mem_of_getElem? (i := 207) (by decide +kernel), List.mem_of_getElem? (i := 895) (by decide +kernel), List.mem_of_getElem? (i := 896) (by decide +kernel)⟩
theorem lw_p18 : lw_okq (⟨"FewProducts$Lifting", "clearColumn", "()V"⟩, 6) := ⟨⟨by decide +kernel, by decide +kernel⟩, List.mem_of_getElem? (i := 207) (by decide +kernel), List.mem_of_getElem? (i := 899) (by decide +kernel), List.mem_of_getElem? (i := 900) (by decide +kernel)⟩
theorem lw_p19 : lw_okq (⟨"FewProducts$Lifting", "setBit", "(I)V"⟩, 6) := ⟨⟨by decide +kernel, by decide +kernel⟩, List.mem_of_getElem? (i := 207) (by decide +kernel), List.mem_of_getElem? (i := 907) (by decide +kernel), List.mem_of_getElem? (i := 908) (by decide +kernel)⟩
theorem lw_p20 : lw_okq (⟨"FewProducts$Lifting", "takeColumn", "()V"⟩, 6) := ⟨⟨by decide +kernel, by decide +kernel⟩, List.mem_of_getElem? (i := 207) (by decide +kernel), List.mem_of_getElem? (i := 912) (by decide +kernel), List.mem_of_getElem? (i := 913) (by decide +kernel)⟩
theorem lw_p21 : lw_okq (⟨"FewProducts$Lifting", "reduce", "()I"⟩, 6) := ⟨⟨by decide +kernel, by decide +kernel⟩, List.mem_of_getElem? (i := 207) (by decide +kernel), List.mem_of_getElem? (i := 916) (by decide +kernel), List.mem_of_getElem? (i := 917) (by decide +kernel)⟩
theorem lw_p22 : lw_okq (⟨"FewProducts$Lifting", "hasBit", "(I)Z"⟩, 6) := ⟨⟨by decide +kernel, by decide +kernel⟩, List.mem_of_getElem? (i := 207) (by decide +kernel), List.mem_of_getElem? (i := 920) (by decide +kernel), List.mem_of_getElem? (i := 921) (by decide +kernel)⟩
theorem lw_p23 : lw_okq (⟨"FewProducts$Lifting", "lessPivot", "(I)V"⟩, 6) := ⟨⟨by decide +kernel, by decide +kernel⟩, List.mem_of_getElem? (i := 207) (by decide +kernel), List.mem_of_getElem? (i := 924) (by decide +kernel), List.mem_of_getElem? (i := 925) (by decide +kernel)⟩
theorem lw_p24 : lw_okq (⟨"FewProducts$Lifting", "setRightSides", "(LFewProducts$Scheme;)V"⟩, 6) := ⟨⟨by decide +kernel, by decide +kernel⟩, List.mem_of_getElem? (i := 207) (by decide +kernel), List.mem_of_getElem? (i := 928) (by decide +kernel), List.mem_of_getElem? (i := 929) (by decide +kernel)⟩
theorem lw_p25 : lw_okq (⟨"java/lang/Throwable", "fillInStackTrace", "(I)Ljava/lang/Throwable;"⟩, 6) := ⟨⟨by decide +kernel, by decide +kernel⟩, List.mem_of_getElem? (i := 995) (by decide +kernel), List.mem_of_getElem? (i := 993) (by decide +kernel), List.mem_of_getElem? (i := 994) (by decide +kernel)⟩
theorem lw_p26 : lw_okq (⟨"FewProductsModel", "laysPlain", "()V"⟩, 33) := ⟨⟨by decide +kernel, by decide +kernel⟩, List.mem_of_getElem? (i := 1024) (by decide +kernel), List.mem_of_getElem? (i := 1030) (by decide +kernel), List.mem_of_getElem? (i := 1031) (by decide +kernel)⟩
theorem lw_p27 : lw_okq (⟨"FewProductsModel", "addsPlain", "(III)V"⟩, 33) := ⟨⟨by decide +kernel, by decide +kernel⟩, List.mem_of_getElem? (i := 1024) (by decide +kernel), List.mem_of_getElem? (i := 1034) (by decide +kernel), List.mem_of_getElem? (i := 1035) (by decide +kernel)⟩
theorem lw_p28 : lw_okq (⟨"FewProductsModel", "clears", "(I)V"⟩, 33) := ⟨⟨by decide +kernel, by decide +kernel⟩, List.mem_of_getElem? (i := 1024) (by decide +kernel), List.mem_of_getElem? (i := 1038) (by decide +kernel), List.mem_of_getElem? (i := 1039) (by decide +kernel)⟩
theorem lw_p29 : lw_okq (⟨"FewProductsModel", "begin", "()V"⟩, 33) := ⟨⟨by decide +kernel, by decide +kernel⟩, List.mem_of_getElem? (i := 1024) (by decide +kernel), List.mem_of_getElem? (i := 1172) (by decide +kernel), List.mem_of_getElem? (i := 1173) (by decide +kernel)⟩
theorem lw_p30 : lw_okq (⟨"FewProductsModel", "readProduct", "()V"⟩, 33) := ⟨⟨by decide +kernel, by decide +kernel⟩, List.mem_of_getElem? (i := 1024) (by decide +kernel), List.mem_of_getElem? (i := 1176) (by decide +kernel), List.mem_of_getElem? (i := 1177) (by decide +kernel)⟩
theorem lw_p31 : lw_okq (⟨"FewProductsModel", "expect", "(C)V"⟩, 33) := ⟨⟨by decide +kernel, by decide +kernel⟩, List.mem_of_getElem? (i := 1024) (by decide +kernel), List.mem_of_getElem? (i := 1180) (by decide +kernel), List.mem_of_getElem? (i := 1181) (by decide +kernel)⟩
def lw_privs_2 : List (MethodName × Nat) := [(⟨"FewProducts$Lifting", "start", "(LFewProducts$Scheme;)V"⟩, 6), (⟨"FewProducts$Lifting", "setUnknown", "(LFewProducts$Scheme;III)V"⟩, 6), (⟨"FewProducts$Lifting", "clearColumn", "()V"⟩, 6), (⟨"FewProducts$Lifting", "setBit", "(I)V"⟩, 6), (⟨"FewProducts$Lifting", "takeColumn", "()V"⟩, 6), (⟨"FewProducts$Lifting", "reduce", "()I"⟩, 6), (⟨"FewProducts$Lifting", "hasBit", "(I)Z"⟩, 6), (⟨"FewProducts$Lifting", "lessPivot", "(I)V"⟩, 6), (⟨"FewProducts$Lifting", "setRightSides", "(LFewProducts$Scheme;)V"⟩, 6), (⟨"java/lang/Throwable", "fillInStackTrace", "(I)Ljava/lang/Throwable;"⟩, 6), (⟨"FewProductsModel", "laysPlain", "()V"⟩, 33), (⟨"FewProductsModel", "addsPlain", "(III)V"⟩, 33), (⟨"FewProductsModel", "clears", "(I)V"⟩, 33), (⟨"FewProductsModel", "begin", "()V"⟩, 33), (⟨"FewProductsModel", "readProduct", "()V"⟩, 33), (⟨"FewProductsModel", "expect", "(C)V"⟩, 33)]
theorem lw_r2 : ∀ q ∈ lw_privs_2, lw_okq q := List.forall_mem_cons.mpr ⟨lw_p16, List.forall_mem_cons.mpr ⟨lw_p17, List.forall_mem_cons.mpr ⟨lw_p18, List.forall_mem_cons.mpr ⟨lw_p19, List.forall_mem_cons.mpr ⟨lw_p20, List.forall_mem_cons.mpr ⟨lw_p21, List.forall_mem_cons.mpr ⟨lw_p22, List.forall_mem_cons.mpr ⟨lw_p23, List.forall_mem_cons.mpr ⟨lw_p24, List.forall_mem_cons.mpr ⟨lw_p25, List.forall_mem_cons.mpr ⟨lw_p26, List.forall_mem_cons.mpr ⟨lw_p27, List.forall_mem_cons.mpr ⟨lw_p28, List.forall_mem_cons.mpr ⟨lw_p29, List.forall_mem_cons.mpr ⟨lw_p30, List.forall_mem_cons.mpr ⟨lw_p31, fun _ h => absurd h List.not_mem_nil⟩⟩⟩⟩⟩⟩⟩⟩⟩⟩⟩⟩⟩⟩⟩⟩
theorem lw_p32 : lw_okq (⟨"FewProductsModel", "passes", "(C)Z"⟩, 33) := ⟨⟨by decide +kernel, by decide +kernel⟩, List.mem_of_getElem? (i := 1024) (by decide +kernel), List.mem_of_getElem? (i := 1184) (by decide +kernel), List.mem_of_getElem? (i := 1185) (by decide +kernel)⟩
theorem lw_p33 : lw_okq (⟨"FewProductsModel", "sees", "()I"⟩, 33) := ⟨⟨by decide +kernel, by decide +kernel⟩, List.mem_of_getElem? (i := 1024) (by decide +kernel), List.mem_of_getElem? (i := 1188) (by decide +kernel), List.mem_of_getElem? (i := 1189) (by decide +kernel)⟩
theorem lw_p34 : lw_okq (⟨"FewProductsModel", "fault", "(I)V"⟩, 33) := ⟨⟨by decide +kernel, by decide +kernel⟩, List.mem_of_getElem? (i := 1024) (by decide +kernel), List.mem_of_getElem? (i := 1192) (by decide +kernel), List.mem_of_getElem? (i := 1193) (by decide +kernel)⟩
theorem lw_p35 : lw_okq (⟨"FewProductsModel", "readForm", "(II)V"⟩, 33) := ⟨⟨by decide +kernel, by decide +kernel⟩, List.mem_of_getElem? (i := 1024) (by decide +kernel), List.mem_of_getElem? (i := 1196) (by decide +kernel), List.mem_of_getElem? (i := 1197) (by decide +kernel)⟩
theorem lw_p36 : lw_okq (⟨"FewProductsModel", "readTerm", "(IIZ)V"⟩, 33) := ⟨⟨by decide +kernel, by decide +kernel⟩, List.mem_of_getElem? (i := 1024) (by decide +kernel), List.mem_of_getElem? (i := 1200) (by decide +kernel), List.mem_of_getElem? (i := 1201) (by decide +kernel)⟩
theorem lw_p37 : lw_okq (⟨"FewProductsModel", "rowsOf", "(I)I"⟩, 33) := ⟨⟨by decide +kernel, by decide +kernel⟩, List.mem_of_getElem? (i := 1024) (by decide +kernel), List.mem_of_getElem? (i := 1204) (by decide +kernel), List.mem_of_getElem? (i := 1205) (by decide +kernel)⟩
theorem lw_p38 : lw_okq (⟨"FewProductsModel", "readSide", "(I)I"⟩, 33) := ⟨⟨by decide +kernel, by decide +kernel⟩, List.mem_of_getElem? (i := 1024) (by decide +kernel), List.mem_of_getElem? (i := 1208) (by decide +kernel), List.mem_of_getElem? (i := 1209) (by decide +kernel)⟩
theorem lw_p39 : lw_okq (⟨"FewProductsModel", "columnsOf", "(I)I"⟩, 33) := ⟨⟨by decide +kernel, by decide +kernel⟩, List.mem_of_getElem? (i := 1024) (by decide +kernel), List.mem_of_getElem? (i := 1212) (by decide +kernel), List.mem_of_getElem? (i := 1213) (by decide +kernel)⟩
theorem lw_p40 : lw_okq (⟨"FewProductsModel", "ends", "()V"⟩, 33) := ⟨⟨by decide +kernel, by decide +kernel⟩, List.mem_of_getElem? (i := 1024) (by decide +kernel), List.mem_of_getElem? (i := 1216) (by decide +kernel), List.mem_of_getElem? (i := 1217) (by decide +kernel)⟩
theorem lw_p41 : lw_okq (⟨"FewProductsModel", "told", "()I"⟩, 33) := ⟨⟨by decide +kernel, by decide +kernel⟩, List.mem_of_getElem? (i := 1024) (by decide +kernel), List.mem_of_getElem? (i := 1220) (by decide +kernel), List.mem_of_getElem? (i := 1221) (by decide +kernel)⟩
theorem lw_p42 : lw_okq (⟨"FewProductsModel", "isProduct", "(I)Z"⟩, 33) := ⟨⟨by decide +kernel, by decide +kernel⟩, List.mem_of_getElem? (i := 1024) (by decide +kernel), List.mem_of_getElem? (i := 1232) (by decide +kernel), List.mem_of_getElem? (i := 1233) (by decide +kernel)⟩
theorem lw_p43 : lw_okq (⟨"FewProductsModel", "goes", "(I)V"⟩, 33) := ⟨⟨by decide +kernel, by decide +kernel⟩, List.mem_of_getElem? (i := 1024) (by decide +kernel), List.mem_of_getElem? (i := 1236) (by decide +kernel), List.mem_of_getElem? (i := 1237) (by decide +kernel)⟩
theorem lw_p44 : lw_okq (⟨"FewProductsModel", "isPlace", "(II)Z"⟩, 33) := ⟨⟨by decide +kernel, by decide +kernel⟩, List.mem_of_getElem? (i := 1024) (by decide +kernel), List.mem_of_getElem? (i := 1251) (by decide +kernel), List.mem_of_getElem? (i := 1252) (by decide +kernel)⟩
theorem lw_p45 : lw_okq (⟨"FewProductsModel", "placesOf", "(I)I"⟩, 33) := ⟨⟨by decide +kernel, by decide +kernel⟩, List.mem_of_getElem? (i := 1024) (by decide +kernel), List.mem_of_getElem? (i := 1255) (by decide +kernel), List.mem_of_getElem? (i := 1256) (by decide +kernel)⟩
theorem lw_p46 : lw_okq (⟨"FewProductsModel", "looks", "()V"⟩, 33) := ⟨⟨by decide +kernel, by decide +kernel⟩, List.mem_of_getElem? (i := 1024) (by decide +kernel), List.mem_of_getElem? (i := 1263) (by decide +kernel), List.mem_of_getElem? (i := 1264) (by decide +kernel)⟩
theorem lw_p47 : lw_okq (⟨"FewProductsModel", "wholeGiven", "(III)I"⟩, 33) := ⟨⟨by decide +kernel, by decide +kernel⟩, List.mem_of_getElem? (i := 1024) (by decide +kernel), List.mem_of_getElem? (i := 1267) (by decide +kernel), List.mem_of_getElem? (i := 1268) (by decide +kernel)⟩
def lw_privs_3 : List (MethodName × Nat) := [(⟨"FewProductsModel", "passes", "(C)Z"⟩, 33), (⟨"FewProductsModel", "sees", "()I"⟩, 33), (⟨"FewProductsModel", "fault", "(I)V"⟩, 33), (⟨"FewProductsModel", "readForm", "(II)V"⟩, 33), (⟨"FewProductsModel", "readTerm", "(IIZ)V"⟩, 33), (⟨"FewProductsModel", "rowsOf", "(I)I"⟩, 33), (⟨"FewProductsModel", "readSide", "(I)I"⟩, 33), (⟨"FewProductsModel", "columnsOf", "(I)I"⟩, 33), (⟨"FewProductsModel", "ends", "()V"⟩, 33), (⟨"FewProductsModel", "told", "()I"⟩, 33), (⟨"FewProductsModel", "isProduct", "(I)Z"⟩, 33), (⟨"FewProductsModel", "goes", "(I)V"⟩, 33), (⟨"FewProductsModel", "isPlace", "(II)Z"⟩, 33), (⟨"FewProductsModel", "placesOf", "(I)I"⟩, 33), (⟨"FewProductsModel", "looks", "()V"⟩, 33), (⟨"FewProductsModel", "wholeGiven", "(III)I"⟩, 33)]
theorem lw_r3 : ∀ q ∈ lw_privs_3, lw_okq q := List.forall_mem_cons.mpr ⟨lw_p32, List.forall_mem_cons.mpr ⟨lw_p33, List.forall_mem_cons.mpr ⟨lw_p34, List.forall_mem_cons.mpr ⟨lw_p35, List.forall_mem_cons.mpr ⟨lw_p36, List.forall_mem_cons.mpr ⟨lw_p37, List.forall_mem_cons.mpr ⟨lw_p38, List.forall_mem_cons.mpr ⟨lw_p39, List.forall_mem_cons.mpr ⟨lw_p40, List.forall_mem_cons.mpr ⟨lw_p41, List.forall_mem_cons.mpr ⟨lw_p42, List.forall_mem_cons.mpr ⟨lw_p43, List.forall_mem_cons.mpr ⟨lw_p44, List.forall_mem_cons.mpr ⟨lw_p45, List.forall_mem_cons.mpr ⟨lw_p46, List.forall_mem_cons.mpr ⟨lw_p47, fun _ h => absurd h List.not_mem_nil⟩⟩⟩⟩⟩⟩⟩⟩⟩⟩⟩⟩⟩⟩⟩⟩
theorem lw_p48 : lw_okq (⟨"FewProductsModel", "needed", "(III)I"⟩, 33) := ⟨⟨by decide +kernel, by decide +kernel⟩, List.mem_of_getElem? (i := 1024) (by decide +kernel), List.mem_of_getElem? (i := 1271) (by decide +kernel), List.mem_of_getElem? (i := 1272) (by decide +kernel)⟩
theorem lw_p49 : lw_okq (⟨"FewProductsModel", "tell", "(J)V"⟩, 33) := ⟨⟨by decide +kernel, by decide +kernel⟩, List.mem_of_getElem? (i := 1024) (by decide +kernel), List.mem_of_getElem? (i := 1275) (by decide +kernel), List.mem_of_getElem? (i := 1276) (by decide +kernel)⟩
theorem lw_p50 : lw_okq (⟨"FewProductsModel", "readTables", "(I)V"⟩, 33) := ⟨⟨by decide +kernel, by decide +kernel⟩, List.mem_of_getElem? (i := 1024) (by decide +kernel), List.mem_of_getElem? (i := 1287) (by decide +kernel), List.mem_of_getElem? (i := 1288) (by decide +kernel)⟩
theorem lw_p51 : lw_okq (⟨"FewProductsModel", "madeOf", "(III)I"⟩, 33) := ⟨⟨by decide +kernel, by decide +kernel⟩, List.mem_of_getElem? (i := 1024) (by decide +kernel), List.mem_of_getElem? (i := 1291) (by decide +kernel), List.mem_of_getElem? (i := 1292) (by decide +kernel)⟩
theorem lw_p52 : lw_okq (⟨"FewProductsModel", "fullOf", "(II)I"⟩, 33) := ⟨⟨by decide +kernel, by decide +kernel⟩, List.mem_of_getElem? (i := 1024) (by decide +kernel), List.mem_of_getElem? (i := 1299) (by decide +kernel), List.mem_of_getElem? (i := 1300) (by decide +kernel)⟩
theorem lw_p53 : lw_okq (⟨"FewProductsModel", "likeAt", "(III)I"⟩, 33) := ⟨⟨by decide +kernel, by decide +kernel⟩, List.mem_of_getElem? (i := 1024) (by decide +kernel), List.mem_of_getElem? (i := 1310) (by decide +kernel), List.mem_of_getElem? (i := 1311) (by decide +kernel)⟩
theorem lw_p54 : lw_okq (⟨"FewProductsModel", "likeOf", "([II[II)I"⟩, 33) := ⟨⟨by decide +kernel, by decide +kernel⟩, List.mem_of_getElem? (i := 1024) (by decide +kernel), List.mem_of_getElem? (i := 1314) (by decide +kernel), List.mem_of_getElem? (i := 1315) (by decide +kernel)⟩
theorem lw_p55 : lw_okq (⟨"FewProductsModel", "flipsAt", "(I)I"⟩, 33) := ⟨⟨by decide +kernel, by decide +kernel⟩, List.mem_of_getElem? (i := 1024) (by decide +kernel), List.mem_of_getElem? (i := 1325) (by decide +kernel), List.mem_of_getElem? (i := 1326) (by decide +kernel)⟩
theorem lw_p56 : lw_okq (⟨"FewProductsModel", "goFlip", "(III)V"⟩, 33) := ⟨⟨by decide +kernel, by decide +kernel⟩, List.mem_of_getElem? (i := 1024) (by decide +kernel), List.mem_of_getElem? (i := 1333) (by decide +kernel), List.mem_of_getElem? (i := 1334) (by decide +kernel)⟩
theorem lw_p57 : lw_okq (⟨"FewProductsModel", "mod", "(I)I"⟩, 33) := ⟨⟨by decide +kernel, by decide +kernel⟩, List.mem_of_getElem? (i := 1024) (by decide +kernel), List.mem_of_getElem? (i := 1337) (by decide +kernel), List.mem_of_getElem? (i := 1338) (by decide +kernel)⟩
theorem lw_p58 : lw_okq (⟨"FewProductsModel", "zeroMany", "()I"⟩, 33) := ⟨⟨by decide +kernel, by decide +kernel⟩, List.mem_of_getElem? (i := 1024) (by decide +kernel), List.mem_of_getElem? (i := 1341) (by decide +kernel), List.mem_of_getElem? (i := 1342) (by decide +kernel)⟩
theorem lw_p59 : lw_okq (⟨"FewProductsModel", "hasZero", "(I)Z"⟩, 33) := ⟨⟨by decide +kernel, by decide +kernel⟩, List.mem_of_getElem? (i := 1024) (by decide +kernel), List.mem_of_getElem? (i := 1345) (by decide +kernel), List.mem_of_getElem? (i := 1346) (by decide +kernel)⟩
theorem lw_p60 : lw_okq (⟨"FewProductsModel", "joinsAll", "()V"⟩, 33) := ⟨⟨by decide +kernel, by decide +kernel⟩, List.mem_of_getElem? (i := 1024) (by decide +kernel), List.mem_of_getElem? (i := 1353) (by decide +kernel), List.mem_of_getElem? (i := 1354) (by decide +kernel)⟩
theorem lw_p61 : lw_okq (⟨"FewProductsModel", "firstZero", "()I"⟩, 33) := ⟨⟨by decide +kernel, by decide +kernel⟩, List.mem_of_getElem? (i := 1024) (by decide +kernel), List.mem_of_getElem? (i := 1357) (by decide +kernel), List.mem_of_getElem? (i := 1358) (by decide +kernel)⟩
theorem lw_p62 : lw_okq (⟨"FewProductsModel", "joinsTwo", "()Z"⟩, 33) := ⟨⟨by decide +kernel, by decide +kernel⟩, List.mem_of_getElem? (i := 1024) (by decide +kernel), List.mem_of_getElem? (i := 1361) (by decide +kernel), List.mem_of_getElem? (i := 1362) (by decide +kernel)⟩
theorem lw_p63 : lw_okq (⟨"FewProductsModel", "shedsOne", "()I"⟩, 33) := ⟨⟨by decide +kernel, by decide +kernel⟩, List.mem_of_getElem? (i := 1024) (by decide +kernel), List.mem_of_getElem? (i := 1369) (by decide +kernel), List.mem_of_getElem? (i := 1370) (by decide +kernel)⟩
def lw_privs_4 : List (MethodName × Nat) := [(⟨"FewProductsModel", "needed", "(III)I"⟩, 33), (⟨"FewProductsModel", "tell", "(J)V"⟩, 33), (⟨"FewProductsModel", "readTables", "(I)V"⟩, 33), (⟨"FewProductsModel", "madeOf", "(III)I"⟩, 33), (⟨"FewProductsModel", "fullOf", "(II)I"⟩, 33), (⟨"FewProductsModel", "likeAt", "(III)I"⟩, 33), (⟨"FewProductsModel", "likeOf", "([II[II)I"⟩, 33), (⟨"FewProductsModel", "flipsAt", "(I)I"⟩, 33), (⟨"FewProductsModel", "goFlip", "(III)V"⟩, 33), (⟨"FewProductsModel", "mod", "(I)I"⟩, 33), (⟨"FewProductsModel", "zeroMany", "()I"⟩, 33), (⟨"FewProductsModel", "hasZero", "(I)Z"⟩, 33), (⟨"FewProductsModel", "joinsAll", "()V"⟩, 33), (⟨"FewProductsModel", "firstZero", "()I"⟩, 33), (⟨"FewProductsModel", "joinsTwo", "()Z"⟩, 33), (⟨"FewProductsModel", "shedsOne", "()I"⟩, 33)]
theorem lw_r4 : ∀ q ∈ lw_privs_4, lw_okq q := List.forall_mem_cons.mpr ⟨lw_p48, List.forall_mem_cons.mpr ⟨lw_p49, List.forall_mem_cons.mpr ⟨lw_p50, List.forall_mem_cons.mpr ⟨lw_p51, List.forall_mem_cons.mpr ⟨lw_p52, List.forall_mem_cons.mpr ⟨lw_p53, List.forall_mem_cons.mpr ⟨lw_p54, List.forall_mem_cons.mpr ⟨lw_p55, List.forall_mem_cons.mpr ⟨lw_p56, List.forall_mem_cons.mpr ⟨lw_p57, List.forall_mem_cons.mpr ⟨lw_p58, List.forall_mem_cons.mpr ⟨lw_p59, List.forall_mem_cons.mpr ⟨lw_p60, List.forall_mem_cons.mpr ⟨lw_p61, List.forall_mem_cons.mpr ⟨lw_p62, List.forall_mem_cons.mpr ⟨lw_p63, fun _ h => absurd h List.not_mem_nil⟩⟩⟩⟩⟩⟩⟩⟩⟩⟩⟩⟩⟩⟩⟩⟩
theorem lw_p64 : lw_okq (⟨"FewProductsModel", "isShed", "(IIII)Z"⟩, 33) := ⟨⟨by decide +kernel, by decide +kernel⟩, List.mem_of_getElem? (i := 1024) (by decide +kernel), List.mem_of_getElem? (i := 1373) (by decide +kernel), List.mem_of_getElem? (i := 1374) (by decide +kernel)⟩
theorem lw_p65 : lw_okq (⟨"FewProductsModel", "laysBehind", "(III)V"⟩, 33) := ⟨⟨by decide +kernel, by decide +kernel⟩, List.mem_of_getElem? (i := 1024) (by decide +kernel), List.mem_of_getElem? (i := 1377) (by decide +kernel), List.mem_of_getElem? (i := 1378) (by decide +kernel)⟩
theorem lw_p66 : lw_okq (⟨"FewProductsModel", "isSum", "()Z"⟩, 33) := ⟨⟨by decide +kernel, by decide +kernel⟩, List.mem_of_getElem? (i := 1024) (by decide +kernel), List.mem_of_getElem? (i := 1381) (by decide +kernel), List.mem_of_getElem? (i := 1382) (by decide +kernel)⟩
theorem lw_p67 : lw_okq (⟨"FewProductsModel", "takenLead", "(I)I"⟩, 33) := ⟨⟨by decide +kernel, by decide +kernel⟩, List.mem_of_getElem? (i := 1024) (by decide +kernel), List.mem_of_getElem? (i := 1385) (by decide +kernel), List.mem_of_getElem? (i := 1386) (by decide +kernel)⟩
theorem lw_p68 : lw_okq (⟨"FewProductsModel", "takes", "(I)V"⟩, 33) := ⟨⟨by decide +kernel, by decide +kernel⟩, List.mem_of_getElem? (i := 1024) (by decide +kernel), List.mem_of_getElem? (i := 1389) (by decide +kernel), List.mem_of_getElem? (i := 1390) (by decide +kernel)⟩
theorem lw_p69 : lw_okq (⟨"FewProductsModel", "areLike", "([II[II)Z"⟩, 33) := ⟨⟨by decide +kernel, by decide +kernel⟩, List.mem_of_getElem? (i := 1024) (by decide +kernel), List.mem_of_getElem? (i := 1405) (by decide +kernel), List.mem_of_getElem? (i := 1406) (by decide +kernel)⟩
theorem lw_p70 : lw_okq (⟨"FewProductsModel", "resizes", "(III)V"⟩, 33) := ⟨⟨by decide +kernel, by decide +kernel⟩, List.mem_of_getElem? (i := 1024) (by decide +kernel), List.mem_of_getElem? (i := 1413) (by decide +kernel), List.mem_of_getElem? (i := 1414) (by decide +kernel)⟩
theorem lw_p71 : lw_okq (⟨"FewProductsModel", "goNumbered", "(I)V"⟩, 33) := ⟨⟨by decide +kernel, by decide +kernel⟩, List.mem_of_getElem? (i := 1024) (by decide +kernel), List.mem_of_getElem? (i := 1432) (by decide +kernel), List.mem_of_getElem? (i := 1433) (by decide +kernel)⟩
theorem lw_p72 : lw_okq (⟨"FewProductsModel", "laysTurned", "()V"⟩, 33) := ⟨⟨by decide +kernel, by decide +kernel⟩, List.mem_of_getElem? (i := 1024) (by decide +kernel), List.mem_of_getElem? (i := 1440) (by decide +kernel), List.mem_of_getElem? (i := 1441) (by decide +kernel)⟩
theorem lw_p73 : lw_okq (⟨"FewProductsModel", "takesBeside", "(III)V"⟩, 33) := ⟨⟨by decide +kernel, by decide +kernel⟩, List.mem_of_getElem? (i := 1024) (by decide +kernel), List.mem_of_getElem? (i := 1444) (by decide +kernel), List.mem_of_getElem? (i := 1445) (by decide +kernel)⟩
theorem lw_p74 : lw_okq (⟨"FewProductsModel", "laysMirrored", "()V"⟩, 33) := ⟨⟨by decide +kernel, by decide +kernel⟩, List.mem_of_getElem? (i := 1024) (by decide +kernel), List.mem_of_getElem? (i := 1452) (by decide +kernel), List.mem_of_getElem? (i := 1453) (by decide +kernel)⟩
theorem lw_p75 : lw_okq (⟨"FewProductsModel", "othersThan", "()I"⟩, 33) := ⟨⟨by decide +kernel, by decide +kernel⟩, List.mem_of_getElem? (i := 1024) (by decide +kernel), List.mem_of_getElem? (i := 1463) (by decide +kernel), List.mem_of_getElem? (i := 1464) (by decide +kernel)⟩
theorem lw_p76 : lw_okq (⟨"FewProductsModel", "usesOf", "(III)I"⟩, 33) := ⟨⟨by decide +kernel, by decide +kernel⟩, List.mem_of_getElem? (i := 1024) (by decide +kernel), List.mem_of_getElem? (i := 1471) (by decide +kernel), List.mem_of_getElem? (i := 1472) (by decide +kernel)⟩
theorem lw_p77 : lw_okq (⟨"FewProductsModel", "shearsRows", "(IIIII)V"⟩, 33) := ⟨⟨by decide +kernel, by decide +kernel⟩, List.mem_of_getElem? (i := 1024) (by decide +kernel), List.mem_of_getElem? (i := 1479) (by decide +kernel), List.mem_of_getElem? (i := 1480) (by decide +kernel)⟩
theorem lw_p78 : lw_okq (⟨"FewProductsModel", "shearsColumns", "(IIIII)V"⟩, 33) := ⟨⟨by decide +kernel, by decide +kernel⟩, List.mem_of_getElem? (i := 1024) (by decide +kernel), List.mem_of_getElem? (i := 1483) (by decide +kernel), List.mem_of_getElem? (i := 1484) (by decide +kernel)⟩
theorem lw_p79 : lw_okq (⟨"FewProductsModel", "asBeside", "()I"⟩, 33) := ⟨⟨by decide +kernel, by decide +kernel⟩, List.mem_of_getElem? (i := 1024) (by decide +kernel), List.mem_of_getElem? (i := 1491) (by decide +kernel), List.mem_of_getElem? (i := 1492) (by decide +kernel)⟩
def lw_privs_5 : List (MethodName × Nat) := [(⟨"FewProductsModel", "isShed", "(IIII)Z"⟩, 33), (⟨"FewProductsModel", "laysBehind", "(III)V"⟩, 33), (⟨"FewProductsModel", "isSum", "()Z"⟩, 33), (⟨"FewProductsModel", "takenLead", "(I)I"⟩, 33), (⟨"FewProductsModel", "takes", "(I)V"⟩, 33), (⟨"FewProductsModel", "areLike", "([II[II)Z"⟩, 33), (⟨"FewProductsModel", "resizes", "(III)V"⟩, 33), (⟨"FewProductsModel", "goNumbered", "(I)V"⟩, 33), (⟨"FewProductsModel", "laysTurned", "()V"⟩, 33), (⟨"FewProductsModel", "takesBeside", "(III)V"⟩, 33), (⟨"FewProductsModel", "laysMirrored", "()V"⟩, 33), (⟨"FewProductsModel", "othersThan", "()I"⟩, 33), (⟨"FewProductsModel", "usesOf", "(III)I"⟩, 33), (⟨"FewProductsModel", "shearsRows", "(IIIII)V"⟩, 33), (⟨"FewProductsModel", "shearsColumns", "(IIIII)V"⟩, 33), (⟨"FewProductsModel", "asBeside", "()I"⟩, 33)]
theorem lw_r5 : ∀ q ∈ lw_privs_5, lw_okq q := List.forall_mem_cons.mpr ⟨lw_p64, List.forall_mem_cons.mpr ⟨lw_p65, List.forall_mem_cons.mpr ⟨lw_p66, List.forall_mem_cons.mpr ⟨lw_p67, List.forall_mem_cons.mpr ⟨lw_p68, List.forall_mem_cons.mpr ⟨lw_p69, List.forall_mem_cons.mpr ⟨lw_p70, List.forall_mem_cons.mpr ⟨lw_p71, List.forall_mem_cons.mpr ⟨lw_p72, List.forall_mem_cons.mpr ⟨lw_p73, List.forall_mem_cons.mpr ⟨lw_p74, List.forall_mem_cons.mpr ⟨lw_p75, List.forall_mem_cons.mpr ⟨lw_p76, List.forall_mem_cons.mpr ⟨lw_p77, List.forall_mem_cons.mpr ⟨lw_p78, List.forall_mem_cons.mpr ⟨lw_p79, fun _ h => absurd h List.not_mem_nil⟩⟩⟩⟩⟩⟩⟩⟩⟩⟩⟩⟩⟩⟩⟩⟩
theorem lw_p80 : lw_okq (⟨"FewProductsModel", "without", "([II[II)I"⟩, 33) := ⟨⟨by decide +kernel, by decide +kernel⟩, List.mem_of_getElem? (i := 1024) (by decide +kernel), List.mem_of_getElem? (i := 1495) (by decide +kernel), List.mem_of_getElem? (i := 1496) (by decide +kernel)⟩
theorem lw_p81 : lw_okq (⟨"FewProductsModel", "groupOf", "(II)J"⟩, 33) := ⟨⟨by decide +kernel, by decide +kernel⟩, List.mem_of_getElem? (i := 1024) (by decide +kernel), List.mem_of_getElem? (i := 1507) (by decide +kernel), List.mem_of_getElem? (i := 1508) (by decide +kernel)⟩
theorem lw_p82 : lw_okq (⟨"FewProductsModel", "frees", "(II)Z"⟩, 33) := ⟨⟨by decide +kernel, by decide +kernel⟩, List.mem_of_getElem? (i := 1024) (by decide +kernel), List.mem_of_getElem? (i := 1518) (by decide +kernel), List.mem_of_getElem? (i := 1519) (by decide +kernel)⟩
theorem lw_p83 : lw_okq (⟨"FewProductsModel", "leadOf", "(I)I"⟩, 33) := ⟨⟨by decide +kernel, by decide +kernel⟩, List.mem_of_getElem? (i := 1024) (by decide +kernel), List.mem_of_getElem? (i := 1522) (by decide +kernel), List.mem_of_getElem? (i := 1523) (by decide +kernel)⟩
theorem lw_p84 : lw_okq (⟨"FewProductsModel", "isKeptSo", "()Z"⟩, 33) := ⟨⟨by decide +kernel, by decide +kernel⟩, List.mem_of_getElem? (i := 1024) (by decide +kernel), List.mem_of_getElem? (i := 1534) (by decide +kernel), List.mem_of_getElem? (i := 1535) (by decide +kernel)⟩
theorem lw_p85 : lw_okq (⟨"FewProductsModel", "keptGiven", "(III)I"⟩, 33) := ⟨⟨by decide +kernel, by decide +kernel⟩, List.mem_of_getElem? (i := 1024) (by decide +kernel), List.mem_of_getElem? (i := 1542) (by decide +kernel), List.mem_of_getElem? (i := 1543) (by decide +kernel)⟩
theorem lw_p86 : lw_okq (⟨"FewProductsModel", "equation", "(III)Z"⟩, 33) := ⟨⟨by decide +kernel, by decide +kernel⟩, List.mem_of_getElem? (i := 1024) (by decide +kernel), List.mem_of_getElem? (i := 1554) (by decide +kernel), List.mem_of_getElem? (i := 1555) (by decide +kernel)⟩
theorem lw_p87 : lw_okq (⟨"FewProductsModel", "unknowns", "()I"⟩, 33) := ⟨⟨by decide +kernel, by decide +kernel⟩, List.mem_of_getElem? (i := 1024) (by decide +kernel), List.mem_of_getElem? (i := 1558) (by decide +kernel), List.mem_of_getElem? (i := 1559) (by decide +kernel)⟩
theorem lw_p88 : lw_okq (⟨"FewProductsModel", "unknownOf", "(III)I"⟩, 33) := ⟨⟨by decide +kernel, by decide +kernel⟩, List.mem_of_getElem? (i := 1024) (by decide +kernel), List.mem_of_getElem? (i := 1562) (by decide +kernel), List.mem_of_getElem? (i := 1563) (by decide +kernel)⟩
theorem lw_p89 : lw_okq (⟨"FewProductsModel", "turnsBit", "(II)V"⟩, 33) := ⟨⟨by decide +kernel, by decide +kernel⟩, List.mem_of_getElem? (i := 1024) (by decide +kernel), List.mem_of_getElem? (i := 1566) (by decide +kernel), List.mem_of_getElem? (i := 1567) (by decide +kernel)⟩
theorem lw_p90 : lw_okq (⟨"FewProductsModel", "isBit", "(II)Z"⟩, 33) := ⟨⟨by decide +kernel, by decide +kernel⟩, List.mem_of_getElem? (i := 1024) (by decide +kernel), List.mem_of_getElem? (i := 1570) (by decide +kernel), List.mem_of_getElem? (i := 1571) (by decide +kernel)⟩
theorem lw_p91 : lw_okq (⟨"FewProductsModel", "fullAll", "()I"⟩, 33) := ⟨⟨by decide +kernel, by decide +kernel⟩, List.mem_of_getElem? (i := 1024) (by decide +kernel), List.mem_of_getElem? (i := 1578) (by decide +kernel), List.mem_of_getElem? (i := 1579) (by decide +kernel)⟩
theorem lw_p92 : lw_okq (⟨"FewProductsModel", "unlikeAt", "(I)I"⟩, 33) := ⟨⟨by decide +kernel, by decide +kernel⟩, List.mem_of_getElem? (i := 1024) (by decide +kernel), List.mem_of_getElem? (i := 1582) (by decide +kernel), List.mem_of_getElem? (i := 1583) (by decide +kernel)⟩
theorem lw_p93 : lw_okq (⟨"FewProductsModel", "singleMany", "()I"⟩, 33) := ⟨⟨by decide +kernel, by decide +kernel⟩, List.mem_of_getElem? (i := 1024) (by decide +kernel), List.mem_of_getElem? (i := 1586) (by decide +kernel), List.mem_of_getElem? (i := 1587) (by decide +kernel)⟩
theorem lw_p94 : lw_okq (⟨"FewProductsModel", "lost", "()I"⟩, 33) := ⟨⟨by decide +kernel, by decide +kernel⟩, List.mem_of_getElem? (i := 1024) (by decide +kernel), List.mem_of_getElem? (i := 1594) (by decide +kernel), List.mem_of_getElem? (i := 1595) (by decide +kernel)⟩
def lw_privs_6 : List (MethodName × Nat) := [(⟨"FewProductsModel", "without", "([II[II)I"⟩, 33), (⟨"FewProductsModel", "groupOf", "(II)J"⟩, 33), (⟨"FewProductsModel", "frees", "(II)Z"⟩, 33), (⟨"FewProductsModel", "leadOf", "(I)I"⟩, 33), (⟨"FewProductsModel", "isKeptSo", "()Z"⟩, 33), (⟨"FewProductsModel", "keptGiven", "(III)I"⟩, 33), (⟨"FewProductsModel", "equation", "(III)Z"⟩, 33), (⟨"FewProductsModel", "unknowns", "()I"⟩, 33), (⟨"FewProductsModel", "unknownOf", "(III)I"⟩, 33), (⟨"FewProductsModel", "turnsBit", "(II)V"⟩, 33), (⟨"FewProductsModel", "isBit", "(II)Z"⟩, 33), (⟨"FewProductsModel", "fullAll", "()I"⟩, 33), (⟨"FewProductsModel", "unlikeAt", "(I)I"⟩, 33), (⟨"FewProductsModel", "singleMany", "()I"⟩, 33), (⟨"FewProductsModel", "lost", "()I"⟩, 33)]
theorem lw_r6 : ∀ q ∈ lw_privs_6, lw_okq q := List.forall_mem_cons.mpr ⟨lw_p80, List.forall_mem_cons.mpr ⟨lw_p81, List.forall_mem_cons.mpr ⟨lw_p82, List.forall_mem_cons.mpr ⟨lw_p83, List.forall_mem_cons.mpr ⟨lw_p84, List.forall_mem_cons.mpr ⟨lw_p85, List.forall_mem_cons.mpr ⟨lw_p86, List.forall_mem_cons.mpr ⟨lw_p87, List.forall_mem_cons.mpr ⟨lw_p88, List.forall_mem_cons.mpr ⟨lw_p89, List.forall_mem_cons.mpr ⟨lw_p90, List.forall_mem_cons.mpr ⟨lw_p91, List.forall_mem_cons.mpr ⟨lw_p92, List.forall_mem_cons.mpr ⟨lw_p93, List.forall_mem_cons.mpr ⟨lw_p94, fun _ h => absurd h List.not_mem_nil⟩⟩⟩⟩⟩⟩⟩⟩⟩⟩⟩⟩⟩⟩⟩
def lw_privs : List (MethodName × Nat) := lw_privs_1 ++ (lw_privs_2 ++ (lw_privs_3 ++ (lw_privs_4 ++ (lw_privs_5 ++ (lw_privs_6)))))
def lw_tbl : List Cond := k2_sels lw_privs ++ tables_1
theorem lw_privs_ok : ∀ q ∈ lw_privs, lw_okq q := by
  show ∀ q ∈ lw_privs_1 ++ (lw_privs_2 ++ (lw_privs_3 ++ (lw_privs_4 ++ (lw_privs_5 ++ (lw_privs_6))))), lw_okq q
  exact List.forall_mem_append.mpr ⟨lw_r1, List.forall_mem_append.mpr ⟨lw_r2, List.forall_mem_append.mpr ⟨lw_r3, List.forall_mem_append.mpr ⟨lw_r4, List.forall_mem_append.mpr ⟨lw_r5, lw_r6⟩⟩⟩⟩⟩
def RX0 : String := "FewProducts$Basis"
def TX0 : u_T := fun k => match k with
  | 0 => ("FewProducts$Basis", "reduced", "LFewProducts$Ints;", true)
  | 1 => ("FewProducts$Basis", "made", "LFewProducts$Ints;", true)
  | 2 => ("FewProducts$Basis", "pivots", "LFewProducts$Ints;", true)
  | 3 => ("FewProducts$Basis", "q", "I", false)
  | 4 => ("FewProducts$Basis", "size", "I", false)
  | 5 => ("FewProducts$Basis", "rest", "I", false)
  | _ => ("FewProducts$Basis", "parts", "I", false)
def tyX0 : Nat → FieldType := fun k => match k with
  | 0 => .object "FewProducts$Ints"
  | 1 => .object "FewProducts$Ints"
  | 2 => .object "FewProducts$Ints"
  | 3 => .int
  | 4 => .int
  | 5 => .int
  | _ => .int
theorem nmX0 : ∀ a, a < 7 → ∀ b, b < 7 → a ≠ b → (TX0 a).2.1 ≠ (TX0 b).2.1 := by decide +kernel
theorem tyX0_ok : ∀ k, k < 7 → parseFieldDescriptor (TX0 k).2.2.1 = some (tyX0 k) := by decide +kernel
abbrev cX0_init : ByteArray := prog_2_method_1_code
def yX0_init : MethodName := ⟨RX0, "<init>", "()V"⟩
abbrev cX0_start : ByteArray := prog_2_method_2_code
def yX0_start : MethodName := ⟨RX0, "start", "(I)V"⟩
abbrev cX0_take : ByteArray := prog_2_method_3_code
def yX0_take : MethodName := ⟨RX0, "take", "(I)Z"⟩
abbrev cX0_isSum : ByteArray := prog_2_method_4_code
def yX0_isSum : MethodName := ⟨RX0, "isSum", "(I)Z"⟩
abbrev cX0_reduce : ByteArray := prog_2_method_5_code
def yX0_reduce : MethodName := ⟨RX0, "reduce", "(I)V"⟩
abbrev cX0_firstPlace : ByteArray := prog_2_method_6_code
def yX0_firstPlace : MethodName := ⟨RX0, "firstPlace", "(I)I"⟩
def RX1 : String := "FewProducts$Factors"
def TX1 : u_T := fun k => match k with
  | _ => ("FewProducts$Factors", "numbers", "LFewProducts$Ints;", true)
def tyX1 : Nat → FieldType := fun k => match k with
  | _ => .object "FewProducts$Ints"
theorem nmX1 : ∀ a, a < 1 → ∀ b, b < 1 → a ≠ b → (TX1 a).2.1 ≠ (TX1 b).2.1 := by decide +kernel
theorem tyX1_ok : ∀ k, k < 1 → parseFieldDescriptor (TX1 k).2.2.1 = some (tyX1 k) := by decide +kernel
abbrev cX1_init : ByteArray := prog_3_method_1_code
def yX1_init : MethodName := ⟨RX1, "<init>", "()V"⟩
abbrev cX1_comesAt : ByteArray := prog_3_method_2_code
def yX1_comesAt : MethodName := ⟨RX1, "comesAt", "(LFewProducts$Scheme;I)I"⟩
abbrev cX1_weigh : ByteArray := prog_3_method_3_code
def yX1_weigh : MethodName := ⟨RX1, "weigh", "(III)I"⟩
abbrev cX1_dueAt : ByteArray := prog_3_method_4_code
def yX1_dueAt : MethodName := ⟨RX1, "dueAt", "(LFewProducts$Scheme;I)I"⟩
def RX2 : String := "FewProducts$Forms"
def TX2 : u_T := fun k => match k with
  | _ => ("", "", "", false)
def tyX2 : Nat → FieldType := fun k => match k with
  | _ => .int
theorem nmX2 : ∀ a, a < 0 → ∀ b, b < 0 → a ≠ b → (TX2 a).2.1 ≠ (TX2 b).2.1 := by decide +kernel
theorem tyX2_ok : ∀ k, k < 0 → parseFieldDescriptor (TX2 k).2.2.1 = some (tyX2 k) := by decide +kernel
abbrev cX2_mod : ByteArray := prog_4_method_2_code
def yX2_mod : MethodName := ⟨RX2, "mod", "(II)I"⟩
abbrev cX2_numberAt : ByteArray := prog_4_method_3_code
def yX2_numberAt : MethodName := ⟨RX2, "numberAt", "(II)I"⟩
abbrev cX2_with : ByteArray := prog_4_method_4_code
def yX2_with : MethodName := ⟨RX2, "with", "(III)I"⟩
abbrev cX2_sum : ByteArray := prog_4_method_5_code
def yX2_sum : MethodName := ⟨RX2, "sum", "(III)I"⟩
abbrev cX2_times : ByteArray := prog_4_method_6_code
def yX2_times : MethodName := ⟨RX2, "times", "(II)I"⟩
abbrev cX2_less : ByteArray := prog_4_method_7_code
def yX2_less : MethodName := ⟨RX2, "less", "(III)I"⟩
abbrev cX2_likeBy : ByteArray := prog_4_method_8_code
def yX2_likeBy : MethodName := ⟨RX2, "likeBy", "(III)I"⟩
abbrev cX2_code : ByteArray := prog_4_method_9_code
def yX2_code : MethodName := ⟨RX2, "code", "(II)I"⟩
abbrev cX2_placesOf : ByteArray := prog_4_method_10_code
def yX2_placesOf : MethodName := ⟨RX2, "placesOf", "(I)I"⟩
def RX3 : String := "FewProducts$Ints"
def TX3 : u_T := fun k => match k with
  | _ => ("FewProducts$Ints", "cells", "[I", true)
def tyX3 : Nat → FieldType := fun k => match k with
  | _ => .array .int
theorem nmX3 : ∀ a, a < 1 → ∀ b, b < 1 → a ≠ b → (TX3 a).2.1 ≠ (TX3 b).2.1 := by decide +kernel
theorem tyX3_ok : ∀ k, k < 1 → parseFieldDescriptor (TX3 k).2.2.1 = some (tyX3 k) := by decide +kernel
abbrev cX3_init : ByteArray := prog_5_method_1_code
def yX3_init : MethodName := ⟨RX3, "<init>", "(I)V"⟩
abbrev cX3_at : ByteArray := prog_5_method_2_code
def yX3_at : MethodName := ⟨RX3, "at", "(I)I"⟩
abbrev cX3_put : ByteArray := prog_5_method_3_code
def yX3_put : MethodName := ⟨RX3, "put", "(II)V"⟩
abbrev cX3_clear : ByteArray := prog_5_method_4_code
def yX3_clear : MethodName := ⟨RX3, "clear", "()V"⟩
def RX4 : String := "FewProducts$Joiner"
def TX4 : u_T := fun k => match k with
  | 0 => ("FewProducts$Joiner", "byZero", "I", false)
  | _ => ("FewProducts$Joiner", "byLike", "I", false)
def tyX4 : Nat → FieldType := fun k => match k with
  | 0 => .int
  | _ => .int
theorem nmX4 : ∀ a, a < 2 → ∀ b, b < 2 → a ≠ b → (TX4 a).2.1 ≠ (TX4 b).2.1 := by decide +kernel
theorem tyX4_ok : ∀ k, k < 2 → parseFieldDescriptor (TX4 k).2.2.1 = some (tyX4 k) := by decide +kernel
abbrev cX4_init : ByteArray := prog_6_method_1_code
def yX4_init : MethodName := ⟨RX4, "<init>", "()V"⟩
abbrev cX4_join : ByteArray := prog_6_method_2_code
def yX4_join : MethodName := ⟨RX4, "join", "(LFewProducts$Scheme;)V"⟩
abbrev cX4_joinFirst : ByteArray := prog_6_method_3_code
def yX4_joinFirst : MethodName := ⟨RX4, "joinFirst", "(LFewProducts$Scheme;)Z"⟩
abbrev cX4_joinTwo : ByteArray := prog_6_method_4_code
def yX4_joinTwo : MethodName := ⟨RX4, "joinTwo", "(LFewProducts$Scheme;III)Z"⟩
abbrev cX4_flipDrawn : ByteArray := prog_6_method_5_code
def yX4_flipDrawn : MethodName := ⟨RX4, "flipDrawn", "(LFewProducts$Scheme;J)Z"⟩
abbrev cX4_flipAt : ByteArray := prog_6_method_6_code
def yX4_flipAt : MethodName := ⟨RX4, "flipAt", "(LFewProducts$Scheme;II)V"⟩
def RX5 : String := "FewProducts$Lifting"
def TX5 : u_T := fun k => match k with
  | 0 => ("FewProducts$Lifting", "reduced", "[J", true)
  | 1 => ("FewProducts$Lifting", "isPivot", "LFewProducts$Ints;", true)
  | 2 => ("FewProducts$Lifting", "column", "[J", true)
  | 3 => ("FewProducts$Lifting", "strides", "LFewProducts$Ints;", true)
  | 4 => ("FewProducts$Lifting", "equations", "I", false)
  | _ => ("FewProducts$Lifting", "rank", "I", false)
def tyX5 : Nat → FieldType := fun k => match k with
  | 0 => .array .long
  | 1 => .object "FewProducts$Ints"
  | 2 => .array .long
  | 3 => .object "FewProducts$Ints"
  | 4 => .int
  | _ => .int
theorem nmX5 : ∀ a, a < 6 → ∀ b, b < 6 → a ≠ b → (TX5 a).2.1 ≠ (TX5 b).2.1 := by decide +kernel
theorem tyX5_ok : ∀ k, k < 6 → parseFieldDescriptor (TX5 k).2.2.1 = some (tyX5 k) := by decide +kernel
abbrev cX5_init : ByteArray := prog_7_method_1_code
def yX5_init : MethodName := ⟨RX5, "<init>", "()V"⟩
abbrev cX5_solve : ByteArray := prog_7_method_2_code
def yX5_solve : MethodName := ⟨RX5, "solve", "(LFewProducts$Scheme;)Z"⟩
abbrev cX5_start : ByteArray := prog_7_method_3_code
def yX5_start : MethodName := ⟨RX5, "start", "(LFewProducts$Scheme;)V"⟩
abbrev cX5_clearColumn : ByteArray := prog_7_method_4_code
def yX5_clearColumn : MethodName := ⟨RX5, "clearColumn", "()V"⟩
abbrev cX5_setBit : ByteArray := prog_7_method_5_code
def yX5_setBit : MethodName := ⟨RX5, "setBit", "(I)V"⟩
abbrev cX5_hasBit : ByteArray := prog_7_method_6_code
def yX5_hasBit : MethodName := ⟨RX5, "hasBit", "(I)Z"⟩
abbrev cX5_setUnknown : ByteArray := prog_7_method_7_code
def yX5_setUnknown : MethodName := ⟨RX5, "setUnknown", "(LFewProducts$Scheme;III)V"⟩
abbrev cX5_setRightSides : ByteArray := prog_7_method_8_code
def yX5_setRightSides : MethodName := ⟨RX5, "setRightSides", "(LFewProducts$Scheme;)V"⟩
abbrev cX5_takeColumn : ByteArray := prog_7_method_9_code
def yX5_takeColumn : MethodName := ⟨RX5, "takeColumn", "()V"⟩
abbrev cX5_reduce : ByteArray := prog_7_method_10_code
def yX5_reduce : MethodName := ⟨RX5, "reduce", "()I"⟩
abbrev cX5_lessPivot : ByteArray := prog_7_method_11_code
def yX5_lessPivot : MethodName := ⟨RX5, "lessPivot", "(I)V"⟩
def RX6 : String := "FewProducts$Scheme"
def TX6 : u_T := fun k => match k with
  | 0 => ("FewProducts$Scheme", "forms", "LFewProducts$Ints;", true)
  | 1 => ("FewProducts$Scheme", "n", "I", false)
  | 2 => ("FewProducts$Scheme", "m", "I", false)
  | 3 => ("FewProducts$Scheme", "p", "I", false)
  | 4 => ("FewProducts$Scheme", "q", "I", false)
  | _ => ("FewProducts$Scheme", "size", "I", false)
def tyX6 : Nat → FieldType := fun k => match k with
  | 0 => .object "FewProducts$Ints"
  | 1 => .int
  | 2 => .int
  | 3 => .int
  | 4 => .int
  | _ => .int
theorem nmX6 : ∀ a, a < 6 → ∀ b, b < 6 → a ≠ b → (TX6 a).2.1 ≠ (TX6 b).2.1 := by decide +kernel
theorem tyX6_ok : ∀ k, k < 6 → parseFieldDescriptor (TX6 k).2.2.1 = some (tyX6 k) := by decide +kernel
abbrev cX6_init : ByteArray := prog_8_method_1_code
def yX6_init : MethodName := ⟨RX6, "<init>", "()V"⟩
abbrev cX6_makePlain : ByteArray := prog_8_method_2_code
def yX6_makePlain : MethodName := ⟨RX6, "makePlain", "(IIII)V"⟩
abbrev cX6_addPlain : ByteArray := prog_8_method_3_code
def yX6_addPlain : MethodName := ⟨RX6, "addPlain", "(I)V"⟩
abbrev cX6_addOnes : ByteArray := prog_8_method_4_code
def yX6_addOnes : MethodName := ⟨RX6, "addOnes", "(III)V"⟩
abbrev cX6_addZero : ByteArray := prog_8_method_5_code
def yX6_addZero : MethodName := ⟨RX6, "addZero", "()Z"⟩
abbrev cX6_addFrom : ByteArray := prog_8_method_6_code
def yX6_addFrom : MethodName := ⟨RX6, "addFrom", "(LFewProducts$Scheme;I)V"⟩
abbrev cX6_remove : ByteArray := prog_8_method_7_code
def yX6_remove : MethodName := ⟨RX6, "remove", "(I)V"⟩
abbrev cX6_takeShape : ByteArray := prog_8_method_8_code
def yX6_takeShape : MethodName := ⟨RX6, "takeShape", "(LFewProducts$Scheme;)V"⟩
abbrev cX6_takeAll : ByteArray := prog_8_method_9_code
def yX6_takeAll : MethodName := ⟨RX6, "takeAll", "(LFewProducts$Scheme;)V"⟩
abbrev cX6_hasShapeOf : ByteArray := prog_8_method_10_code
def yX6_hasShapeOf : MethodName := ⟨RX6, "hasShapeOf", "(LFewProducts$Scheme;)Z"⟩
abbrev cX6_isFull : ByteArray := prog_8_method_11_code
def yX6_isFull : MethodName := ⟨RX6, "isFull", "()Z"⟩
abbrev cX6_isProduct : ByteArray := prog_8_method_12_code
def yX6_isProduct : MethodName := ⟨RX6, "isProduct", "(I)Z"⟩
abbrev cX6_isPlace : ByteArray := prog_8_method_13_code
def yX6_isPlace : MethodName := ⟨RX6, "isPlace", "(II)Z"⟩
abbrev cX6_rows : ByteArray := prog_8_method_14_code
def yX6_rows : MethodName := ⟨RX6, "rows", "(I)I"⟩
abbrev cX6_columns : ByteArray := prog_8_method_15_code
def yX6_columns : MethodName := ⟨RX6, "columns", "(I)I"⟩
abbrev cX6_places : ByteArray := prog_8_method_16_code
def yX6_places : MethodName := ⟨RX6, "places", "(I)I"⟩
abbrev cX6_rowOf : ByteArray := prog_8_method_17_code
def yX6_rowOf : MethodName := ⟨RX6, "rowOf", "(II)I"⟩
abbrev cX6_columnOf : ByteArray := prog_8_method_18_code
def yX6_columnOf : MethodName := ⟨RX6, "columnOf", "(II)I"⟩
abbrev cX6_formAt : ByteArray := prog_8_method_19_code
def yX6_formAt : MethodName := ⟨RX6, "formAt", "(II)I"⟩
abbrev cX6_setForm : ByteArray := prog_8_method_20_code
def yX6_setForm : MethodName := ⟨RX6, "setForm", "(III)V"⟩
abbrev cX6_givenAt : ByteArray := prog_8_method_21_code
def yX6_givenAt : MethodName := ⟨RX6, "givenAt", "(III)I"⟩
abbrev cX6_meetAt : ByteArray := prog_8_method_22_code
def yX6_meetAt : MethodName := ⟨RX6, "meetAt", "(III)I"⟩
abbrev cX6_neededAt : ByteArray := prog_8_method_23_code
def yX6_neededAt : MethodName := ⟨RX6, "neededAt", "(III)I"⟩
abbrev cX6_isRight : ByteArray := prog_8_method_24_code
def yX6_isRight : MethodName := ⟨RX6, "isRight", "()Z"⟩
abbrev cX6_hasZero : ByteArray := prog_8_method_25_code
def yX6_hasZero : MethodName := ⟨RX6, "hasZero", "(I)Z"⟩
abbrev cX6_firstZero : ByteArray := prog_8_method_26_code
def yX6_firstZero : MethodName := ⟨RX6, "firstZero", "()I"⟩
abbrev cX6_zeros : ByteArray := prog_8_method_27_code
def yX6_zeros : MethodName := ⟨RX6, "zeros", "()I"⟩
abbrev cX6_notZero : ByteArray := prog_8_method_28_code
def yX6_notZero : MethodName := ⟨RX6, "notZero", "()I"⟩
abbrev cX6_singles : ByteArray := prog_8_method_29_code
def yX6_singles : MethodName := ⟨RX6, "singles", "()I"⟩
abbrev cX6_usersOf : ByteArray := prog_8_method_30_code
def yX6_usersOf : MethodName := ⟨RX6, "usersOf", "(III)I"⟩
abbrev cX6_unused : ByteArray := prog_8_method_31_code
def yX6_unused : MethodName := ⟨RX6, "unused", "(I)I"⟩
abbrev cX6_likeBy : ByteArray := prog_8_method_32_code
def yX6_likeBy : MethodName := ⟨RX6, "likeBy", "(III)I"⟩
abbrev cX6_isLike : ByteArray := prog_8_method_33_code
def yX6_isLike : MethodName := ⟨RX6, "isLike", "(ILFewProducts$Scheme;I)Z"⟩
abbrev cX6_matches : ByteArray := prog_8_method_34_code
def yX6_matches : MethodName := ⟨RX6, "matches", "(LFewProducts$Scheme;)I"⟩
abbrev cX6_othersThan : ByteArray := prog_8_method_35_code
def yX6_othersThan : MethodName := ⟨RX6, "othersThan", "(LFewProducts$Scheme;)I"⟩
abbrev cX6_groupOf : ByteArray := prog_8_method_36_code
def yX6_groupOf : MethodName := ⟨RX6, "groupOf", "(II)J"⟩
abbrev cX6_unlikeForms : ByteArray := prog_8_method_37_code
def yX6_unlikeForms : MethodName := ⟨RX6, "unlikeForms", "(I)I"⟩
abbrev cX6_flipsAt : ByteArray := prog_8_method_38_code
def yX6_flipsAt : MethodName := ⟨RX6, "flipsAt", "(I)I"⟩
abbrev cX6_turnFlip : ByteArray := prog_8_method_39_code
def yX6_turnFlip : MethodName := ⟨RX6, "turnFlip", "(III)V"⟩
def RX7 : String := "FewProducts$Shedder"
def TX7 : u_T := fun k => match k with
  | 0 => ("FewProducts$Shedder", "basis", "LFewProducts$Basis;", true)
  | 1 => ("FewProducts$Shedder", "taken", "LFewProducts$Ints;", true)
  | _ => ("FewProducts$Shedder", "went", "LFewProducts$Ints;", true)
def tyX7 : Nat → FieldType := fun k => match k with
  | 0 => .object "FewProducts$Basis"
  | 1 => .object "FewProducts$Ints"
  | _ => .object "FewProducts$Ints"
theorem nmX7 : ∀ a, a < 3 → ∀ b, b < 3 → a ≠ b → (TX7 a).2.1 ≠ (TX7 b).2.1 := by decide +kernel
theorem tyX7_ok : ∀ k, k < 3 → parseFieldDescriptor (TX7 k).2.2.1 = some (tyX7 k) := by decide +kernel
abbrev cX7_init : ByteArray := prog_9_method_1_code
def yX7_init : MethodName := ⟨RX7, "<init>", "()V"⟩
abbrev cX7_shedFirst : ByteArray := prog_9_method_2_code
def yX7_shedFirst : MethodName := ⟨RX7, "shedFirst", "(LFewProducts$Scheme;)Z"⟩
abbrev cX7_isSumOfAhead : ByteArray := prog_9_method_3_code
def yX7_isSumOfAhead : MethodName := ⟨RX7, "isSumOfAhead", "(LFewProducts$Scheme;III)Z"⟩
abbrev cX7_share : ByteArray := prog_9_method_4_code
def yX7_share : MethodName := ⟨RX7, "share", "(LFewProducts$Scheme;II)V"⟩
def RX8 : String := "FewProducts$Text"
def TX8 : u_T := fun k => match k with
  | 0 => ("FewProducts$Text", "signs", "LFewProducts$Ints;", true)
  | 1 => ("FewProducts$Text", "length", "I", false)
  | 2 => ("FewProducts$Text", "at", "I", false)
  | _ => ("FewProducts$Text", "form", "I", false)
def tyX8 : Nat → FieldType := fun k => match k with
  | 0 => .object "FewProducts$Ints"
  | 1 => .int
  | 2 => .int
  | _ => .int
theorem nmX8 : ∀ a, a < 4 → ∀ b, b < 4 → a ≠ b → (TX8 a).2.1 ≠ (TX8 b).2.1 := by decide +kernel
theorem tyX8_ok : ∀ k, k < 4 → parseFieldDescriptor (TX8 k).2.2.1 = some (tyX8 k) := by decide +kernel
abbrev cX8_init : ByteArray := prog_10_method_1_code
def yX8_init : MethodName := ⟨RX8, "<init>", "()V"⟩
abbrev cX8_addFour : ByteArray := prog_10_method_2_code
def yX8_addFour : MethodName := ⟨RX8, "addFour", "(I)Z"⟩
abbrev cX8_cut : ByteArray := prog_10_method_3_code
def yX8_cut : MethodName := ⟨RX8, "cut", "(I)Z"⟩
abbrev cX8_empty : ByteArray := prog_10_method_4_code
def yX8_empty : MethodName := ⟨RX8, "empty", "()V"⟩
abbrev cX8_readScheme : ByteArray := prog_10_method_5_code
def yX8_readScheme : MethodName := ⟨RX8, "readScheme", "(LFewProducts$Scheme;)I"⟩
abbrev cX8_readProduct : ByteArray := prog_10_method_6_code
def yX8_readProduct : MethodName := ⟨RX8, "readProduct", "(LFewProducts$Scheme;)I"⟩
abbrev cX8_readForm : ByteArray := prog_10_method_7_code
def yX8_readForm : MethodName := ⟨RX8, "readForm", "(LFewProducts$Scheme;I)I"⟩
abbrev cX8_readNumbers : ByteArray := prog_10_method_8_code
def yX8_readNumbers : MethodName := ⟨RX8, "readNumbers", "(LFewProducts$Ints;II)I"⟩
abbrev cX8_restFault : ByteArray := prog_10_method_9_code
def yX8_restFault : MethodName := ⟨RX8, "restFault", "()I"⟩
abbrev cX8_peek : ByteArray := prog_10_method_10_code
def yX8_peek : MethodName := ⟨RX8, "peek", "()I"⟩
abbrev cX8_take : ByteArray := prog_10_method_11_code
def yX8_take : MethodName := ⟨RX8, "take", "(C)Z"⟩
abbrev cX8_takeProduct : ByteArray := prog_10_method_12_code
def yX8_takeProduct : MethodName := ⟨RX8, "takeProduct", "(LFewProducts$Scheme;)Z"⟩
abbrev cX8_takeForm : ByteArray := prog_10_method_13_code
def yX8_takeForm : MethodName := ⟨RX8, "takeForm", "(LFewProducts$Scheme;I)Z"⟩
abbrev cX8_takeTerm : ByteArray := prog_10_method_14_code
def yX8_takeTerm : MethodName := ⟨RX8, "takeTerm", "(LFewProducts$Scheme;II)Z"⟩
def RX9 : String := "FewProducts$Told"
def TX9 : u_T := fun k => match k with
  | 0 => ("FewProducts$Told", "numbers", "[J", true)
  | _ => ("FewProducts$Told", "size", "I", false)
def tyX9 : Nat → FieldType := fun k => match k with
  | 0 => .array .long
  | _ => .int
theorem nmX9 : ∀ a, a < 2 → ∀ b, b < 2 → a ≠ b → (TX9 a).2.1 ≠ (TX9 b).2.1 := by decide +kernel
theorem tyX9_ok : ∀ k, k < 2 → parseFieldDescriptor (TX9 k).2.2.1 = some (tyX9 k) := by decide +kernel
abbrev cX9_init : ByteArray := prog_11_method_1_code
def yX9_init : MethodName := ⟨RX9, "<init>", "()V"⟩
abbrev cX9_clear : ByteArray := prog_11_method_2_code
def yX9_clear : MethodName := ⟨RX9, "clear", "()V"⟩
abbrev cX9_add : ByteArray := prog_11_method_3_code
def yX9_add : MethodName := ⟨RX9, "add", "(J)V"⟩
abbrev cX9_at : ByteArray := prog_11_method_4_code
def yX9_at : MethodName := ⟨RX9, "at", "(I)J"⟩
def RX10 : String := "FewProducts$Turns"
def TX10 : u_T := fun k => match k with
  | _ => ("", "", "", false)
def tyX10 : Nat → FieldType := fun k => match k with
  | _ => .int
theorem nmX10 : ∀ a, a < 0 → ∀ b, b < 0 → a ≠ b → (TX10 a).2.1 ≠ (TX10 b).2.1 := by decide +kernel
theorem tyX10_ok : ∀ k, k < 0 → parseFieldDescriptor (TX10 k).2.2.1 = some (tyX10 k) := by decide +kernel
abbrev cX10_roll : ByteArray := prog_12_method_2_code
def yX10_roll : MethodName := ⟨RX10, "roll", "(LFewProducts$Scheme;)V"⟩
abbrev cX10_mirror : ByteArray := prog_12_method_3_code
def yX10_mirror : MethodName := ⟨RX10, "mirror", "(LFewProducts$Scheme;)V"⟩
abbrev cX10_transposed : ByteArray := prog_12_method_4_code
def yX10_transposed : MethodName := ⟨RX10, "transposed", "(III)I"⟩
abbrev cX10_shear : ByteArray := prog_12_method_5_code
def yX10_shear : MethodName := ⟨RX10, "shear", "(LFewProducts$Scheme;IIII)V"⟩
abbrev cX10_addTimes : ByteArray := prog_12_method_6_code
def yX10_addTimes : MethodName := ⟨RX10, "addTimes", "(IIIII)I"⟩
abbrev cX10_swap : ByteArray := prog_12_method_7_code
def yX10_swap : MethodName := ⟨RX10, "swap", "(LFewProducts$Scheme;III)V"⟩
abbrev cX10_exchanged : ByteArray := prog_12_method_8_code
def yX10_exchanged : MethodName := ⟨RX10, "exchanged", "(III)I"⟩
abbrev cX10_narrow : ByteArray := prog_12_method_9_code
def yX10_narrow : MethodName := ⟨RX10, "narrow", "(LFewProducts$Scheme;II)V"⟩
abbrev cX10_withoutRow : ByteArray := prog_12_method_10_code
def yX10_withoutRow : MethodName := ⟨RX10, "withoutRow", "(III)I"⟩
abbrev cX10_withoutColumn : ByteArray := prog_12_method_11_code
def yX10_withoutColumn : MethodName := ⟨RX10, "withoutColumn", "(IIII)I"⟩
abbrev cX10_widen : ByteArray := prog_12_method_12_code
def yX10_widen : MethodName := ⟨RX10, "widen", "(LFewProducts$Scheme;I)V"⟩
abbrev cX10_stretch : ByteArray := prog_12_method_13_code
def yX10_stretch : MethodName := ⟨RX10, "stretch", "(LFewProducts$Scheme;II)V"⟩
def RX11 : String := "FewProducts"
def TX11 : u_T := fun k => match k with
  | 0 => ("FewProducts", "text", "LFewProducts$Text;", true)
  | 1 => ("FewProducts", "told", "LFewProducts$Told;", true)
  | 2 => ("FewProducts", "now", "LFewProducts$Scheme;", true)
  | 3 => ("FewProducts", "kept", "LFewProducts$Scheme;", true)
  | 4 => ("FewProducts", "spare", "LFewProducts$Scheme;", true)
  | 5 => ("FewProducts", "factors", "LFewProducts$Factors;", true)
  | 6 => ("FewProducts", "joiner", "LFewProducts$Joiner;", true)
  | 7 => ("FewProducts", "shedder", "LFewProducts$Shedder;", true)
  | 8 => ("FewProducts", "basis", "LFewProducts$Basis;", true)
  | 9 => ("FewProducts", "lifting", "LFewProducts$Lifting;", true)
  | _ => ("FewProducts", "isKept", "Z", false)
def tyX11 : Nat → FieldType := fun k => match k with
  | 0 => .object "FewProducts$Text"
  | 1 => .object "FewProducts$Told"
  | 2 => .object "FewProducts$Scheme"
  | 3 => .object "FewProducts$Scheme"
  | 4 => .object "FewProducts$Scheme"
  | 5 => .object "FewProducts$Factors"
  | 6 => .object "FewProducts$Joiner"
  | 7 => .object "FewProducts$Shedder"
  | 8 => .object "FewProducts$Basis"
  | 9 => .object "FewProducts$Lifting"
  | _ => .boolean
theorem nmX11 : ∀ a, a < 11 → ∀ b, b < 11 → a ≠ b → (TX11 a).2.1 ≠ (TX11 b).2.1 := by decide +kernel
theorem tyX11_ok : ∀ k, k < 11 → parseFieldDescriptor (TX11 k).2.2.1 = some (tyX11 k) := by decide +kernel
abbrev cX11_init : ByteArray := prog_1_method_1_code
def yX11_init : MethodName := ⟨RX11, "<init>", "()V"⟩
abbrev cX11_format : ByteArray := prog_1_method_2_code
def yX11_format : MethodName := ⟨RX11, "format", "(IIII)I"⟩
abbrev cX11_sign : ByteArray := prog_1_method_3_code
def yX11_sign : MethodName := ⟨RX11, "sign", "(I)I"⟩
abbrev cX11_end : ByteArray := prog_1_method_4_code
def yX11_end : MethodName := ⟨RX11, "end", "(I)Z"⟩
abbrev cX11_scheme : ByteArray := prog_1_method_5_code
def yX11_scheme : MethodName := ⟨RX11, "scheme", "()I"⟩
abbrev cX11_adds : ByteArray := prog_1_method_6_code
def yX11_adds : MethodName := ⟨RX11, "adds", "()I"⟩
abbrev cX11_drops : ByteArray := prog_1_method_7_code
def yX11_drops : MethodName := ⟨RX11, "drops", "(I)I"⟩
abbrev cX11_form : ByteArray := prog_1_method_8_code
def yX11_form : MethodName := ⟨RX11, "form", "(II)I"⟩
abbrev cX11_number : ByteArray := prog_1_method_9_code
def yX11_number : MethodName := ⟨RX11, "number", "(III)I"⟩
abbrev cX11_checks : ByteArray := prog_1_method_10_code
def yX11_checks : MethodName := ⟨RX11, "checks", "()I"⟩
abbrev cX11_given : ByteArray := prog_1_method_11_code
def yX11_given : MethodName := ⟨RX11, "given", "(III)I"⟩
abbrev cX11_multiplies : ByteArray := prog_1_method_12_code
def yX11_multiplies : MethodName := ⟨RX11, "multiplies", "()I"⟩
abbrev cX11_sums : ByteArray := prog_1_method_13_code
def yX11_sums : MethodName := ⟨RX11, "sums", "()I"⟩
abbrev cX11_like : ByteArray := prog_1_method_14_code
def yX11_like : MethodName := ⟨RX11, "like", "(III)I"⟩
abbrev cX11_flips : ByteArray := prog_1_method_15_code
def yX11_flips : MethodName := ⟨RX11, "flips", "()I"⟩
abbrev cX11_flip : ByteArray := prog_1_method_16_code
def yX11_flip : MethodName := ⟨RX11, "flip", "(III)I"⟩
abbrev cX11_joins : ByteArray := prog_1_method_17_code
def yX11_joins : MethodName := ⟨RX11, "joins", "()I"⟩
abbrev cX11_sheds : ByteArray := prog_1_method_18_code
def yX11_sheds : MethodName := ⟨RX11, "sheds", "()I"⟩
abbrev cX11_splits : ByteArray := prog_1_method_19_code
def yX11_splits : MethodName := ⟨RX11, "splits", "(II)I"⟩
abbrev cX11_plus : ByteArray := prog_1_method_20_code
def yX11_plus : MethodName := ⟨RX11, "plus", "(III)I"⟩
abbrev cX11_scales : ByteArray := prog_1_method_21_code
def yX11_scales : MethodName := ⟨RX11, "scales", "(III)I"⟩
abbrev cX11_narrows : ByteArray := prog_1_method_22_code
def yX11_narrows : MethodName := ⟨RX11, "narrows", "(II)I"⟩
abbrev cX11_widens : ByteArray := prog_1_method_23_code
def yX11_widens : MethodName := ⟨RX11, "widens", "(I)I"⟩
abbrev cX11_walks : ByteArray := prog_1_method_24_code
def yX11_walks : MethodName := ⟨RX11, "walks", "(II)I"⟩
abbrev cX11_rolls : ByteArray := prog_1_method_25_code
def yX11_rolls : MethodName := ⟨RX11, "rolls", "()I"⟩
abbrev cX11_mirrors : ByteArray := prog_1_method_26_code
def yX11_mirrors : MethodName := ⟨RX11, "mirrors", "()I"⟩
abbrev cX11_shears : ByteArray := prog_1_method_27_code
def yX11_shears : MethodName := ⟨RX11, "shears", "(IIII)I"⟩
abbrev cX11_swaps : ByteArray := prog_1_method_28_code
def yX11_swaps : MethodName := ⟨RX11, "swaps", "(III)I"⟩
abbrev cX11_uses : ByteArray := prog_1_method_29_code
def yX11_uses : MethodName := ⟨RX11, "uses", "(II)I"⟩
abbrev cX11_round : ByteArray := prog_1_method_30_code
def yX11_round : MethodName := ⟨RX11, "round", "()I"⟩
abbrev cX11_mirrored : ByteArray := prog_1_method_31_code
def yX11_mirrored : MethodName := ⟨RX11, "mirrored", "()I"⟩
abbrev cX11_groups : ByteArray := prog_1_method_32_code
def yX11_groups : MethodName := ⟨RX11, "groups", "(I)I"⟩
abbrev cX11_spans : ByteArray := prog_1_method_33_code
def yX11_spans : MethodName := ⟨RX11, "spans", "(I)I"⟩
abbrev cX11_keeps : ByteArray := prog_1_method_34_code
def yX11_keeps : MethodName := ⟨RX11, "keeps", "()I"⟩
abbrev cX11_others : ByteArray := prog_1_method_35_code
def yX11_others : MethodName := ⟨RX11, "others", "()I"⟩
abbrev cX11_unlikes : ByteArray := prog_1_method_36_code
def yX11_unlikes : MethodName := ⟨RX11, "unlikes", "()I"⟩
abbrev cX11_back : ByteArray := prog_1_method_37_code
def yX11_back : MethodName := ⟨RX11, "back", "()I"⟩
abbrev cX11_lifts : ByteArray := prog_1_method_38_code
def yX11_lifts : MethodName := ⟨RX11, "lifts", "()I"⟩
abbrev cX11_count : ByteArray := prog_1_method_39_code
def yX11_count : MethodName := ⟨RX11, "count", "(I)I"⟩
abbrev cX11_row : ByteArray := prog_1_method_40_code
def yX11_row : MethodName := ⟨RX11, "row", "(I)J"⟩
abbrev cX11_isSize : ByteArray := prog_1_method_41_code
def yX11_isSize : MethodName := ⟨RX11, "isSize", "(I)Z"⟩
abbrev cX11_isTable : ByteArray := prog_1_method_42_code
def yX11_isTable : MethodName := ⟨RX11, "isTable", "(I)Z"⟩
abbrev cX11_isLine : ByteArray := prog_1_method_43_code
def yX11_isLine : MethodName := ⟨RX11, "isLine", "(II)Z"⟩
abbrev cX11_isFactor : ByteArray := prog_1_method_44_code
def yX11_isFactor : MethodName := ⟨RX11, "isFactor", "(I)Z"⟩
abbrev cX11_behind : ByteArray := prog_1_method_45_code
def yX11_behind : MethodName := ⟨RX11, "behind", "(I)I"⟩
abbrev cX11_ahead : ByteArray := prog_1_method_46_code
def yX11_ahead : MethodName := ⟨RX11, "ahead", "(I)I"⟩
abbrev cX11_bit : ByteArray := prog_1_method_47_code
def yX11_bit : MethodName := ⟨RX11, "bit", "(I)J"⟩
abbrev cX11_lessOne : ByteArray := prog_1_method_48_code
def yX11_lessOne : MethodName := ⟨RX11, "lessOne", "(I)I"⟩
abbrev cX11_tellFirst : ByteArray := prog_1_method_49_code
def yX11_tellFirst : MethodName := ⟨RX11, "tellFirst", "(IIII)V"⟩
abbrev cX11_tellThree : ByteArray := prog_1_method_50_code
def yX11_tellThree : MethodName := ⟨RX11, "tellThree", "(III)V"⟩
abbrev cX11_asSpare : ByteArray := prog_1_method_51_code
def yX11_asSpare : MethodName := ⟨RX11, "asSpare", "()I"⟩
def RX12 : String := "FewProductsModel"
def TX12 : u_T := fun k => match k with
  | 0 => ("FewProductsModel", "sides", "[I", true)
  | 1 => ("FewProductsModel", "q", "I", false)
  | 2 => ("FewProductsModel", "many", "I", false)
  | 3 => ("FewProductsModel", "numbers", "[I", true)
  | 4 => ("FewProductsModel", "keptMany", "I", false)
  | 5 => ("FewProductsModel", "keptSides", "[I", true)
  | 6 => ("FewProductsModel", "kept", "[I", true)
  | 7 => ("FewProductsModel", "text", "[B", true)
  | 8 => ("FewProductsModel", "typed", "I", false)
  | 9 => ("FewProductsModel", "row", "[J", true)
  | 10 => ("FewProductsModel", "rowMany", "I", false)
  | 11 => ("FewProductsModel", "thrown", "I", false)
  | 12 => ("FewProductsModel", "length", "I", false)
  | 13 => ("FewProductsModel", "here", "I", false)
  | 14 => ("FewProductsModel", "wrong", "I", false)
  | 15 => ("FewProductsModel", "readNumbers", "[I", true)
  | 16 => ("FewProductsModel", "readMany", "I", false)
  | 17 => ("FewProductsModel", "wrongMany", "I", false)
  | 18 => ("FewProductsModel", "firstWrong", "I", false)
  | 19 => ("FewProductsModel", "tables", "[I", true)
  | 20 => ("FewProductsModel", "joinedZero", "I", false)
  | 21 => ("FewProductsModel", "joinedTwo", "I", false)
  | 22 => ("FewProductsModel", "taken", "[I", true)
  | 23 => ("FewProductsModel", "takenOf", "[I", true)
  | 24 => ("FewProductsModel", "takenMany", "I", false)
  | 25 => ("FewProductsModel", "shed", "[I", true)
  | 26 => ("FewProductsModel", "beside", "[I", true)
  | 27 => ("FewProductsModel", "isTaken", "[Z", true)
  | 28 => ("FewProductsModel", "free", "[I", true)
  | 29 => ("FewProductsModel", "freeMany", "I", false)
  | 30 => ("FewProductsModel", "equations", "[J", true)
  | 31 => ("FewProductsModel", "leads", "[I", true)
  | _ => ("FewProductsModel", "rank", "I", false)
def tyX12 : Nat → FieldType := fun k => match k with
  | 0 => .array .int
  | 1 => .int
  | 2 => .int
  | 3 => .array .int
  | 4 => .int
  | 5 => .array .int
  | 6 => .array .int
  | 7 => .array .byte
  | 8 => .int
  | 9 => .array .long
  | 10 => .int
  | 11 => .int
  | 12 => .int
  | 13 => .int
  | 14 => .int
  | 15 => .array .int
  | 16 => .int
  | 17 => .int
  | 18 => .int
  | 19 => .array .int
  | 20 => .int
  | 21 => .int
  | 22 => .array .int
  | 23 => .array .int
  | 24 => .int
  | 25 => .array .int
  | 26 => .array .int
  | 27 => .array .boolean
  | 28 => .array .int
  | 29 => .int
  | 30 => .array .long
  | 31 => .array .int
  | _ => .int
theorem nmX12 : ∀ a, a < 33 → ∀ b, b < 33 → a ≠ b → (TX12 a).2.1 ≠ (TX12 b).2.1 := by decide +kernel
theorem tyX12_ok : ∀ k, k < 33 → parseFieldDescriptor (TX12 k).2.2.1 = some (tyX12 k) := by decide +kernel
abbrev cX12_init : ByteArray := prog_14_method_1_code
def yX12_init : MethodName := ⟨RX12, "<init>", "()V"⟩
abbrev cX12_thrown : ByteArray := prog_14_method_2_code
def yX12_thrown : MethodName := ⟨RX12, "thrown", "()I"⟩
abbrev cX12_in : ByteArray := prog_14_method_3_code
def yX12_in : MethodName := ⟨RX12, "in", "(JJJ)Z"⟩
abbrev cX12_lost : ByteArray := prog_14_method_4_code
def yX12_lost : MethodName := ⟨RX12, "lost", "()I"⟩
abbrev cX12_tell : ByteArray := prog_14_method_5_code
def yX12_tell : MethodName := ⟨RX12, "tell", "(J)V"⟩
abbrev cX12_sign : ByteArray := prog_14_method_6_code
def yX12_sign : MethodName := ⟨RX12, "sign", "(I)I"⟩
abbrev cX12_end : ByteArray := prog_14_method_7_code
def yX12_end : MethodName := ⟨RX12, "end", "(I)Z"⟩
abbrev cX12_rowsOf : ByteArray := prog_14_method_8_code
def yX12_rowsOf : MethodName := ⟨RX12, "rowsOf", "(I)I"⟩
abbrev cX12_columnsOf : ByteArray := prog_14_method_9_code
def yX12_columnsOf : MethodName := ⟨RX12, "columnsOf", "(I)I"⟩
abbrev cX12_placesOf : ByteArray := prog_14_method_10_code
def yX12_placesOf : MethodName := ⟨RX12, "placesOf", "(I)I"⟩
abbrev cX12_at : ByteArray := prog_14_method_11_code
def yX12_at : MethodName := ⟨RX12, "at", "(III)I"⟩
abbrev cX12_isProduct : ByteArray := prog_14_method_12_code
def yX12_isProduct : MethodName := ⟨RX12, "isProduct", "(I)Z"⟩
abbrev cX12_isTable : ByteArray := prog_14_method_13_code
def yX12_isTable : MethodName := ⟨RX12, "isTable", "(I)Z"⟩
abbrev cX12_isPlace : ByteArray := prog_14_method_14_code
def yX12_isPlace : MethodName := ⟨RX12, "isPlace", "(II)Z"⟩
abbrev cX12_mod : ByteArray := prog_14_method_15_code
def yX12_mod : MethodName := ⟨RX12, "mod", "(I)I"⟩
abbrev cX12_clears : ByteArray := prog_14_method_16_code
def yX12_clears : MethodName := ⟨RX12, "clears", "(I)V"⟩
abbrev cX12_laysPlain : ByteArray := prog_14_method_17_code
def yX12_laysPlain : MethodName := ⟨RX12, "laysPlain", "()V"⟩
abbrev cX12_addsPlain : ByteArray := prog_14_method_18_code
def yX12_addsPlain : MethodName := ⟨RX12, "addsPlain", "(III)V"⟩
abbrev cX12_format : ByteArray := prog_14_method_19_code
def yX12_format : MethodName := ⟨RX12, "format", "(IIII)I"⟩
abbrev cX12_begin : ByteArray := prog_14_method_20_code
def yX12_begin : MethodName := ⟨RX12, "begin", "()V"⟩
abbrev cX12_sees : ByteArray := prog_14_method_21_code
def yX12_sees : MethodName := ⟨RX12, "sees", "()I"⟩
abbrev cX12_fault : ByteArray := prog_14_method_22_code
def yX12_fault : MethodName := ⟨RX12, "fault", "(I)V"⟩
abbrev cX12_passes : ByteArray := prog_14_method_23_code
def yX12_passes : MethodName := ⟨RX12, "passes", "(C)Z"⟩
abbrev cX12_expect : ByteArray := prog_14_method_24_code
def yX12_expect : MethodName := ⟨RX12, "expect", "(C)V"⟩
abbrev cX12_ends : ByteArray := prog_14_method_25_code
def yX12_ends : MethodName := ⟨RX12, "ends", "()V"⟩
abbrev cX12_told : ByteArray := prog_14_method_26_code
def yX12_told : MethodName := ⟨RX12, "told", "()I"⟩
abbrev cX12_readSide : ByteArray := prog_14_method_27_code
def yX12_readSide : MethodName := ⟨RX12, "readSide", "(I)I"⟩
abbrev cX12_readTerm : ByteArray := prog_14_method_28_code
def yX12_readTerm : MethodName := ⟨RX12, "readTerm", "(IIZ)V"⟩
abbrev cX12_readForm : ByteArray := prog_14_method_29_code
def yX12_readForm : MethodName := ⟨RX12, "readForm", "(II)V"⟩
abbrev cX12_readProduct : ByteArray := prog_14_method_30_code
def yX12_readProduct : MethodName := ⟨RX12, "readProduct", "()V"⟩
abbrev cX12_scheme : ByteArray := prog_14_method_31_code
def yX12_scheme : MethodName := ⟨RX12, "scheme", "()I"⟩
abbrev cX12_adds : ByteArray := prog_14_method_32_code
def yX12_adds : MethodName := ⟨RX12, "adds", "()I"⟩
abbrev cX12_goes : ByteArray := prog_14_method_33_code
def yX12_goes : MethodName := ⟨RX12, "goes", "(I)V"⟩
abbrev cX12_drops : ByteArray := prog_14_method_34_code
def yX12_drops : MethodName := ⟨RX12, "drops", "(I)I"⟩
abbrev cX12_form : ByteArray := prog_14_method_35_code
def yX12_form : MethodName := ⟨RX12, "form", "(II)I"⟩
abbrev cX12_number : ByteArray := prog_14_method_36_code
def yX12_number : MethodName := ⟨RX12, "number", "(III)I"⟩
abbrev cX12_wholeGiven : ByteArray := prog_14_method_37_code
def yX12_wholeGiven : MethodName := ⟨RX12, "wholeGiven", "(III)I"⟩
abbrev cX12_needed : ByteArray := prog_14_method_38_code
def yX12_needed : MethodName := ⟨RX12, "needed", "(III)I"⟩
abbrev cX12_looks : ByteArray := prog_14_method_39_code
def yX12_looks : MethodName := ⟨RX12, "looks", "()V"⟩
abbrev cX12_checks : ByteArray := prog_14_method_40_code
def yX12_checks : MethodName := ⟨RX12, "checks", "()I"⟩
abbrev cX12_given : ByteArray := prog_14_method_41_code
def yX12_given : MethodName := ⟨RX12, "given", "(III)I"⟩
abbrev cX12_readTables : ByteArray := prog_14_method_42_code
def yX12_readTables : MethodName := ⟨RX12, "readTables", "(I)V"⟩
abbrev cX12_madeOf : ByteArray := prog_14_method_43_code
def yX12_madeOf : MethodName := ⟨RX12, "madeOf", "(III)I"⟩
abbrev cX12_multiplies : ByteArray := prog_14_method_44_code
def yX12_multiplies : MethodName := ⟨RX12, "multiplies", "()I"⟩
abbrev cX12_fullOf : ByteArray := prog_14_method_45_code
def yX12_fullOf : MethodName := ⟨RX12, "fullOf", "(II)I"⟩
abbrev cX12_lessOne : ByteArray := prog_14_method_46_code
def yX12_lessOne : MethodName := ⟨RX12, "lessOne", "(I)I"⟩
abbrev cX12_sums : ByteArray := prog_14_method_47_code
def yX12_sums : MethodName := ⟨RX12, "sums", "()I"⟩
abbrev cX12_isZero : ByteArray := prog_14_method_48_code
def yX12_isZero : MethodName := ⟨RX12, "isZero", "([II)Z"⟩
abbrev cX12_likeOf : ByteArray := prog_14_method_49_code
def yX12_likeOf : MethodName := ⟨RX12, "likeOf", "([II[II)I"⟩
abbrev cX12_likeAt : ByteArray := prog_14_method_50_code
def yX12_likeAt : MethodName := ⟨RX12, "likeAt", "(III)I"⟩
abbrev cX12_like : ByteArray := prog_14_method_51_code
def yX12_like : MethodName := ⟨RX12, "like", "(III)I"⟩
abbrev cX12_areLike : ByteArray := prog_14_method_52_code
def yX12_areLike : MethodName := ⟨RX12, "areLike", "([II[II)Z"⟩
abbrev cX12_flipsAt : ByteArray := prog_14_method_53_code
def yX12_flipsAt : MethodName := ⟨RX12, "flipsAt", "(I)I"⟩
abbrev cX12_flips : ByteArray := prog_14_method_54_code
def yX12_flips : MethodName := ⟨RX12, "flips", "()I"⟩
abbrev cX12_goFlip : ByteArray := prog_14_method_55_code
def yX12_goFlip : MethodName := ⟨RX12, "goFlip", "(III)V"⟩
abbrev cX12_hasZero : ByteArray := prog_14_method_56_code
def yX12_hasZero : MethodName := ⟨RX12, "hasZero", "(I)Z"⟩
abbrev cX12_zeroMany : ByteArray := prog_14_method_57_code
def yX12_zeroMany : MethodName := ⟨RX12, "zeroMany", "()I"⟩
abbrev cX12_flip : ByteArray := prog_14_method_58_code
def yX12_flip : MethodName := ⟨RX12, "flip", "(III)I"⟩
abbrev cX12_firstZero : ByteArray := prog_14_method_59_code
def yX12_firstZero : MethodName := ⟨RX12, "firstZero", "()I"⟩
abbrev cX12_joinsTwo : ByteArray := prog_14_method_60_code
def yX12_joinsTwo : MethodName := ⟨RX12, "joinsTwo", "()Z"⟩
abbrev cX12_joinsAll : ByteArray := prog_14_method_61_code
def yX12_joinsAll : MethodName := ⟨RX12, "joinsAll", "()V"⟩
abbrev cX12_joins : ByteArray := prog_14_method_62_code
def yX12_joins : MethodName := ⟨RX12, "joins", "()I"⟩
abbrev cX12_takenLead : ByteArray := prog_14_method_63_code
def yX12_takenLead : MethodName := ⟨RX12, "takenLead", "(I)I"⟩
abbrev cX12_isSum : ByteArray := prog_14_method_64_code
def yX12_isSum : MethodName := ⟨RX12, "isSum", "()Z"⟩
abbrev cX12_laysBehind : ByteArray := prog_14_method_65_code
def yX12_laysBehind : MethodName := ⟨RX12, "laysBehind", "(III)V"⟩
abbrev cX12_takes : ByteArray := prog_14_method_66_code
def yX12_takes : MethodName := ⟨RX12, "takes", "(I)V"⟩
abbrev cX12_isShed : ByteArray := prog_14_method_67_code
def yX12_isShed : MethodName := ⟨RX12, "isShed", "(IIII)Z"⟩
abbrev cX12_shedsOne : ByteArray := prog_14_method_68_code
def yX12_shedsOne : MethodName := ⟨RX12, "shedsOne", "()I"⟩
abbrev cX12_sheds : ByteArray := prog_14_method_69_code
def yX12_sheds : MethodName := ⟨RX12, "sheds", "()I"⟩
abbrev cX12_splits : ByteArray := prog_14_method_70_code
def yX12_splits : MethodName := ⟨RX12, "splits", "(II)I"⟩
abbrev cX12_plus : ByteArray := prog_14_method_71_code
def yX12_plus : MethodName := ⟨RX12, "plus", "(III)I"⟩
abbrev cX12_scales : ByteArray := prog_14_method_72_code
def yX12_scales : MethodName := ⟨RX12, "scales", "(III)I"⟩
abbrev cX12_wasAt : ByteArray := prog_14_method_73_code
def yX12_wasAt : MethodName := ⟨RX12, "wasAt", "(III)I"⟩
abbrev cX12_resizes : ByteArray := prog_14_method_74_code
def yX12_resizes : MethodName := ⟨RX12, "resizes", "(III)V"⟩
abbrev cX12_narrows : ByteArray := prog_14_method_75_code
def yX12_narrows : MethodName := ⟨RX12, "narrows", "(II)I"⟩
abbrev cX12_widens : ByteArray := prog_14_method_76_code
def yX12_widens : MethodName := ⟨RX12, "widens", "(I)I"⟩
abbrev cX12_goNumbered : ByteArray := prog_14_method_77_code
def yX12_goNumbered : MethodName := ⟨RX12, "goNumbered", "(I)V"⟩
abbrev cX12_walks : ByteArray := prog_14_method_78_code
def yX12_walks : MethodName := ⟨RX12, "walks", "(II)I"⟩
abbrev cX12_laysTurned : ByteArray := prog_14_method_79_code
def yX12_laysTurned : MethodName := ⟨RX12, "laysTurned", "()V"⟩
abbrev cX12_laysMirrored : ByteArray := prog_14_method_80_code
def yX12_laysMirrored : MethodName := ⟨RX12, "laysMirrored", "()V"⟩
abbrev cX12_takesBeside : ByteArray := prog_14_method_81_code
def yX12_takesBeside : MethodName := ⟨RX12, "takesBeside", "(III)V"⟩
abbrev cX12_rolls : ByteArray := prog_14_method_82_code
def yX12_rolls : MethodName := ⟨RX12, "rolls", "()I"⟩
abbrev cX12_mirrors : ByteArray := prog_14_method_83_code
def yX12_mirrors : MethodName := ⟨RX12, "mirrors", "()I"⟩
abbrev cX12_shearsRows : ByteArray := prog_14_method_84_code
def yX12_shearsRows : MethodName := ⟨RX12, "shearsRows", "(IIIII)V"⟩
abbrev cX12_shearsColumns : ByteArray := prog_14_method_85_code
def yX12_shearsColumns : MethodName := ⟨RX12, "shearsColumns", "(IIIII)V"⟩
abbrev cX12_othersThan : ByteArray := prog_14_method_86_code
def yX12_othersThan : MethodName := ⟨RX12, "othersThan", "()I"⟩
abbrev cX12_exchanged : ByteArray := prog_14_method_87_code
def yX12_exchanged : MethodName := ⟨RX12, "exchanged", "(III)I"⟩
abbrev cX12_swaps : ByteArray := prog_14_method_88_code
def yX12_swaps : MethodName := ⟨RX12, "swaps", "(III)I"⟩
abbrev cX12_usesOf : ByteArray := prog_14_method_89_code
def yX12_usesOf : MethodName := ⟨RX12, "usesOf", "(III)I"⟩
abbrev cX12_uses : ByteArray := prog_14_method_90_code
def yX12_uses : MethodName := ⟨RX12, "uses", "(II)I"⟩
abbrev cX12_shears : ByteArray := prog_14_method_91_code
def yX12_shears : MethodName := ⟨RX12, "shears", "(IIII)I"⟩
abbrev cX12_without : ByteArray := prog_14_method_92_code
def yX12_without : MethodName := ⟨RX12, "without", "([II[II)I"⟩
abbrev cX12_asBeside : ByteArray := prog_14_method_93_code
def yX12_asBeside : MethodName := ⟨RX12, "asBeside", "()I"⟩
abbrev cX12_round : ByteArray := prog_14_method_94_code
def yX12_round : MethodName := ⟨RX12, "round", "()I"⟩
abbrev cX12_mirrored : ByteArray := prog_14_method_95_code
def yX12_mirrored : MethodName := ⟨RX12, "mirrored", "()I"⟩
abbrev cX12_groupOf : ByteArray := prog_14_method_96_code
def yX12_groupOf : MethodName := ⟨RX12, "groupOf", "(II)J"⟩
abbrev cX12_ones : ByteArray := prog_14_method_97_code
def yX12_ones : MethodName := ⟨RX12, "ones", "(J)I"⟩
abbrev cX12_groups : ByteArray := prog_14_method_98_code
def yX12_groups : MethodName := ⟨RX12, "groups", "(I)I"⟩
abbrev cX12_frees : ByteArray := prog_14_method_99_code
def yX12_frees : MethodName := ⟨RX12, "frees", "(II)Z"⟩
abbrev cX12_leadOf : ByteArray := prog_14_method_100_code
def yX12_leadOf : MethodName := ⟨RX12, "leadOf", "(I)I"⟩
abbrev cX12_spans : ByteArray := prog_14_method_101_code
def yX12_spans : MethodName := ⟨RX12, "spans", "(I)I"⟩
abbrev cX12_keeps : ByteArray := prog_14_method_102_code
def yX12_keeps : MethodName := ⟨RX12, "keeps", "()I"⟩
abbrev cX12_isKeptSo : ByteArray := prog_14_method_103_code
def yX12_isKeptSo : MethodName := ⟨RX12, "isKeptSo", "()Z"⟩
abbrev cX12_others : ByteArray := prog_14_method_104_code
def yX12_others : MethodName := ⟨RX12, "others", "()I"⟩
abbrev cX12_keptGiven : ByteArray := prog_14_method_105_code
def yX12_keptGiven : MethodName := ⟨RX12, "keptGiven", "(III)I"⟩
abbrev cX12_unlikes : ByteArray := prog_14_method_106_code
def yX12_unlikes : MethodName := ⟨RX12, "unlikes", "()I"⟩
abbrev cX12_back : ByteArray := prog_14_method_107_code
def yX12_back : MethodName := ⟨RX12, "back", "()I"⟩
abbrev cX12_unknowns : ByteArray := prog_14_method_108_code
def yX12_unknowns : MethodName := ⟨RX12, "unknowns", "()I"⟩
abbrev cX12_unknownOf : ByteArray := prog_14_method_109_code
def yX12_unknownOf : MethodName := ⟨RX12, "unknownOf", "(III)I"⟩
abbrev cX12_turnsBit : ByteArray := prog_14_method_110_code
def yX12_turnsBit : MethodName := ⟨RX12, "turnsBit", "(II)V"⟩
abbrev cX12_isBit : ByteArray := prog_14_method_111_code
def yX12_isBit : MethodName := ⟨RX12, "isBit", "(II)Z"⟩
abbrev cX12_equation : ByteArray := prog_14_method_112_code
def yX12_equation : MethodName := ⟨RX12, "equation", "(III)Z"⟩
abbrev cX12_lifts : ByteArray := prog_14_method_113_code
def yX12_lifts : MethodName := ⟨RX12, "lifts", "()I"⟩
abbrev cX12_unlikeAt : ByteArray := prog_14_method_114_code
def yX12_unlikeAt : MethodName := ⟨RX12, "unlikeAt", "(I)I"⟩
abbrev cX12_fullAll : ByteArray := prog_14_method_115_code
def yX12_fullAll : MethodName := ⟨RX12, "fullAll", "()I"⟩
abbrev cX12_singleMany : ByteArray := prog_14_method_116_code
def yX12_singleMany : MethodName := ⟨RX12, "singleMany", "()I"⟩
abbrev cX12_count : ByteArray := prog_14_method_117_code
def yX12_count : MethodName := ⟨RX12, "count", "(I)I"⟩
abbrev cX12_row : ByteArray := prog_14_method_118_code
def yX12_row : MethodName := ⟨RX12, "row", "(I)J"⟩
def RJx145de : String := "java/io/Serializable"
def RJ6 : String := "java/lang/Integer"
abbrev cJ6_bitCount_0f7a4 : ByteArray := prog_17_method_49_code
def yJ6_bitCount_0f7a4 : MethodName := ⟨RJ6, "bitCount", "(I)I"⟩
def RJ13 : String := "java/lang/Long"
abbrev cJ13_bitCount_95d88 : ByteArray := prog_18_method_50_code
def yJ13_bitCount_95d88 : MethodName := ⟨RJ13, "bitCount", "(J)I"⟩
def RJ9 : String := "java/lang/Math"
abbrev cJ9_floorMod_7cf53 : ByteArray := prog_19_method_50_code
def yJ9_floorMod_7cf53 : MethodName := ⟨RJ9, "floorMod", "(II)I"⟩
def RL : String := "FewProductsLaw"
abbrev cL_row : ByteArray := method_3_code
def yL_row : MethodName := ⟨RL, "row", "(LFewProducts;I[J)I"⟩
abbrev cL_law : ByteArray := code
def yL_law : MethodName := ⟨RL, "law", "([I)Z"⟩
abbrev vwCl : List vw_C := [(RX0, TX0, 7), (RX1, TX1, 1), (RX3, TX3, 1), (RX4, TX4, 2), (RX5, TX5, 6), (RX6, TX6, 6), (RX7, TX7, 3), (RX8, TX8, 4), (RX9, TX9, 2), (RX11, TX11, 11), (RX12, TX12, 33)]
/-- the words on private members of nest mates -/
def zNW : List Cond := [.methodLinkNest "FewProducts" 9 ⟨"FewProducts$Text", "<init>", "()V"⟩ "FewProducts", .fieldLinkNest "FewProducts" 90 "FewProducts$Text" "length" "I" "FewProducts", .fieldLinkNest "FewProducts" 242 "FewProducts$Text" "form" "I" "FewProducts", .methodLinkNest "FewProducts" 18 ⟨"FewProducts$Told", "<init>", "()V"⟩ "FewProducts", .fieldLinkNest "FewProducts" 361 "FewProducts$Told" "size" "I" "FewProducts", .methodLinkNest "FewProducts" 25 ⟨"FewProducts$Scheme", "<init>", "()V"⟩ "FewProducts", .fieldLinkNest "FewProducts$Turns" 23 "FewProducts$Scheme" "n" "I" "FewProducts", .fieldLinkNest "FewProducts" 314 "FewProducts$Scheme" "n" "I" "FewProducts", .fieldLinkNest "FewProducts$Turns" 26 "FewProducts$Scheme" "m" "I" "FewProducts", .fieldLinkNest "FewProducts$Factors" 58 "FewProducts$Scheme" "m" "I" "FewProducts", .fieldLinkNest "FewProducts" 317 "FewProducts$Scheme" "m" "I" "FewProducts", .fieldLinkNest "FewProducts$Turns" 29 "FewProducts$Scheme" "p" "I" "FewProducts", .fieldLinkNest "FewProducts$Factors" 61 "FewProducts$Scheme" "p" "I" "FewProducts", .fieldLinkNest "FewProducts" 320 "FewProducts$Scheme" "p" "I" "FewProducts", .fieldLinkNest "FewProducts$Factors" 43 "FewProducts$Scheme" "q" "I" "FewProducts", .fieldLinkNest "FewProducts$Shedder" 62 "FewProducts$Scheme" "q" "I" "FewProducts", .fieldLinkNest "FewProducts$Joiner" 56 "FewProducts$Scheme" "q" "I" "FewProducts", .fieldLinkNest "FewProducts$Turns" 56 "FewProducts$Scheme" "q" "I" "FewProducts", .fieldLinkNest "FewProducts" 135 "FewProducts$Scheme" "q" "I" "FewProducts", .fieldLinkNest "FewProducts$Text" 69 "FewProducts$Scheme" "q" "I" "FewProducts", .fieldLinkNest "FewProducts$Turns" 9 "FewProducts$Scheme" "size" "I" "FewProducts", .fieldLinkNest "FewProducts$Factors" 20 "FewProducts$Scheme" "size" "I" "FewProducts", .fieldLinkNest "FewProducts$Lifting" 34 "FewProducts$Scheme" "size" "I" "FewProducts", .fieldLinkNest "FewProducts$Shedder" 34 "FewProducts$Scheme" "size" "I" "FewProducts", .fieldLinkNest "FewProducts" 83 "FewProducts$Scheme" "size" "I" "FewProducts", .fieldLinkNest "FewProducts$Joiner" 32 "FewProducts$Scheme" "size" "I" "FewProducts", .fieldLinkNest "FewProducts$Text" 59 "FewProducts$Scheme" "size" "I" "FewProducts", .methodLinkNest "FewProducts" 38 ⟨"FewProducts$Factors", "<init>", "()V"⟩ "FewProducts", .fieldLinkNest "FewProducts" 174 "FewProducts$Factors" "numbers" "LFewProducts$Ints;" "FewProducts", .methodLinkNest "FewProducts" 45 ⟨"FewProducts$Joiner", "<init>", "()V"⟩ "FewProducts", .fieldLinkNest "FewProducts" 220 "FewProducts$Joiner" "byZero" "I" "FewProducts", .fieldLinkNest "FewProducts" 223 "FewProducts$Joiner" "byLike" "I" "FewProducts", .methodLinkNest "FewProducts" 52 ⟨"FewProducts$Shedder", "<init>", "()V"⟩ "FewProducts", .methodLinkNest "FewProducts$Shedder" 11 ⟨"FewProducts$Basis", "<init>", "()V"⟩ "FewProducts", .fieldLinkNest "FewProducts$Shedder" 84 "FewProducts$Basis" "size" "I" "FewProducts", .fieldLinkNest "FewProducts" 345 "FewProducts$Basis" "size" "I" "FewProducts", .fieldLinkNest "FewProducts$Shedder" 88 "FewProducts$Basis" "parts" "I" "FewProducts", .fieldLinkNest "FewProducts" 226 "FewProducts$Shedder" "went" "LFewProducts$Ints;" "FewProducts", .methodLinkNest "FewProducts" 59 ⟨"FewProducts$Basis", "<init>", "()V"⟩ "FewProducts", .methodLinkNest "FewProducts" 66 ⟨"FewProducts$Lifting", "<init>", "()V"⟩ "FewProducts", .fieldLinkNest "FewProducts" 358 "FewProducts$Lifting" "rank" "I" "FewProducts", .methodLinkNest "FewProducts$Scheme" 85 ⟨"FewProducts", "behind", "(I)I"⟩ "FewProducts", .methodLinkNest "FewProducts$Scheme" 79 ⟨"FewProducts", "isTable", "(I)Z"⟩ "FewProducts", .methodLinkNest "FewProducts$Joiner" 39 ⟨"FewProducts", "behind", "(I)I"⟩ "FewProducts", .methodLinkNest "FewProducts$Shedder" 30 ⟨"FewProducts", "behind", "(I)I"⟩ "FewProducts", .methodLinkNest "FewProducts$Turns" 46 ⟨"FewProducts", "ahead", "(I)I"⟩ "FewProducts", .methodLinkNest "FewProducts$Scheme" 126 ⟨"FewProducts", "bit", "(I)J"⟩ "FewProducts", .methodLinkNest "FewProducts$Lifting" 78 ⟨"FewProducts", "behind", "(I)I"⟩ "FewProducts", .methodLinkNest "FewProducts$Lifting" 71 ⟨"FewProducts", "bit", "(I)J"⟩ "FewProducts"]
def zTT : List Cond := lw_tbl.filter goodWord
theorem zTT_good {w : Cond} (h : w ∈ zTT) : goodWord w = true := (List.mem_filter.mp h).2
theorem zTT_tbl {w : Cond} (h : w ∈ zTT) : w ∈ lw_tbl := (List.mem_filter.mp h).1
theorem zTT_of {w : Cond} (i : Nat) (h : lw_tbl[i]? = some w) (g : goodWord w = true) : w ∈ zTT := List.mem_filter.mpr ⟨List.mem_of_getElem? h, g⟩
end
section

/-! ===== the walker: a method walked by computation over abstract worlds ===== -/
/-- shapes of the cells: an object (its class's number in vwCl, for each field none: a number, some r: a reference), or an array (0 int, 1 long, 2 byte, 3 boolean; its length) -/
abbrev zSh : Type := (Nat × List (Option (Option Nat))) ⊕ (Nat × Nat)
/-- a world: shapes, the numbers of 32 bits by cell and slot, those of 64 bits -/
abbrev zW : Type := List zSh × (Nat → Nat → Int32) × (Nat → Nat → Int64)
abbrev zX : Type := va_G × ClassId × ClassId × ClassId × ClassId
abbrev zAL : Type := List (Option Value)
abbrev zI : Type := Nat × Nat × Nat × Instr
abbrev zSp : Type := List Value → zW → (Option Value → zW → Prop) → Prop
abbrev zCall : Type := Nat × Nat × Nat × Nat × Nat × Nat × zSp
abbrev zJ : Type := Nat → zAL → List Value → zW → Nat → Nat → Prop
abbrev zM : Type := List zI × List (Nat × Nat × Nat × Nat × Bool) × List zCall × (List (Nat × Int32) × List (Nat × Int64) × List (Nat × Nat × List (Option (Option Nat)))) × List (Nat × Int × Nat × List Nat) × List (Nat × List Bool) × Nat × Bool × (Bool × Nat × (Nat → Int32)) × (Nat × Nat)
def z_tys (x : zX) : List (ClassId × FieldType) := [(x.2.1, .int), (x.2.2.1, .long), (x.2.2.2.1, .byte), (x.2.2.2.2, .boolean)]
def z_up {α : Type} (f : Nat → Nat → α) (o i : Nat) (v : α) : Nat → Nat → α := fun o' i' => if o' = o ∧ i' = i then v else f o' i'
def z_row {α : Type} (f : Nat → Nat → α) (o : Nat) (g : Nat → α) : Nat → Nat → α := fun o' i' => if o' = o then g i' else f o' i'
def z_fv (ad : Nat → Nat) (wi : Nat → Int32) (k : Nat) (f : Option (Option Nat)) : Value := match f with
  | none => .int (wi k)
  | some none => .null
  | some (some r) => .ref (ad r)
def z_ce (x : zX) (ad : Nat → Nat) (wi : Nat → Int32) (wl : Nat → Int64) (sh : zSh) : va_E := match sh with
  | .inl (ci, fs) => .inr (ci, fs.mapIdx (fun k f => z_fv ad wi k f))
  | .inr (0, n) => .inl (x.2.1, n, .inl wi)
  | .inr (1, n) => .inl (x.2.2.1, n, .inr (.inl wl))
  | .inr (2, n) => .inl (x.2.2.2.1, n, .inl wi)
  | .inr (_, n) => .inl (x.2.2.2.2, n, .inl wi)
def z_ws (x : zX) (ad : Nat → Nat) (w : zW) : va_W := w.1.mapIdx (fun o sh => (ad o, z_ce x ad (w.2.1 o) (w.2.2 o) sh))
theorem z_ws_at {x : zX} {ad : Nat → Nat} {w : zW} {o : Nat} {sh : zSh} (h : w.1[o]? = some sh) : (z_ws x ad w)[o]? = some (ad o, z_ce x ad (w.2.1 o) (w.2.2 o) sh) := by
  simp [z_ws, List.getElem?_mapIdx, h]
theorem z_ws_set {x : zX} {ad : Nat → Nat} {G G' : List zSh} {wi wi' : Nat → Nat → Int32} {wl wl' : Nat → Nat → Int64} {o : Nat} {sh' : zSh} {E : va_E} (h : o < G.length) (hG : G' = G.set o sh') (hi : ∀ o', o' ≠ o → wi' o' = wi o') (hl : ∀ o', o' ≠ o → wl' o' = wl o') (he : z_ce x ad (wi' o) (wl' o) sh' = E) : (z_ws x ad (G, wi, wl)).set o (ad o, E) = z_ws x ad (G', wi', wl') := by
  subst hG
  apply List.ext_getElem?
  intro k
  by_cases hk : k = o
  · subst hk
    rw [List.getElem?_set_self (by simpa [z_ws] using h), ← he, z_ws_at (sh := sh') (by show (G.set k sh')[k]? = _; rw [List.getElem?_set_self h])]
  · rw [List.getElem?_set_ne (fun q => hk q.symm)]
    simp only [z_ws, List.getElem?_mapIdx, List.getElem?_set_ne (fun q : o = k => hk q.symm), hi k hk, hl k hk]
theorem z_set_same {G : List zSh} {o : Nat} {sh : zSh} (h : G[o]? = some sh) : G = G.set o sh := by
  apply List.ext_getElem?
  intro k
  by_cases hk : k = o
  · subst hk
    rw [List.getElem?_set_self (List.getElem?_eq_some_iff.mp h).1, h]
  · rw [List.getElem?_set_ne (fun q => hk q.symm)]
/-- a number of 32 bits is written: into a field of numbers, or an array of ints -/
theorem z_ws_upi {x : zX} {ad : Nat → Nat} {G : List zSh} {wi : Nat → Nat → Int32} {wl : Nat → Nat → Int64} {o i : Nat} {v : Int32} {sh : zSh} {E : va_E} (h : G[o]? = some sh) (he : z_ce x ad (upd (wi o) i v) (wl o) sh = E) : (z_ws x ad (G, wi, wl)).set o (ad o, E) = z_ws x ad (G, z_up wi o i v, wl) := by
  refine z_ws_set (List.getElem?_eq_some_iff.mp h).1 (z_set_same h) (fun o' ho => ?_) (fun o' _ => rfl) ?_
  · funext j; simp [z_up, ho]
  · rw [← he]
    congr 1
    funext j; simp [z_up, upd]
theorem z_ws_upl {x : zX} {ad : Nat → Nat} {G : List zSh} {wi : Nat → Nat → Int32} {wl : Nat → Nat → Int64} {o i : Nat} {v : Int64} {sh : zSh} {E : va_E} (h : G[o]? = some sh) (he : z_ce x ad (wi o) (vp_updL (wl o) i v) sh = E) : (z_ws x ad (G, wi, wl)).set o (ad o, E) = z_ws x ad (G, wi, z_up wl o i v) := by
  refine z_ws_set (List.getElem?_eq_some_iff.mp h).1 (z_set_same h) (fun o' _ => rfl) (fun o' ho => ?_) ?_
  · funext j; simp [z_up, ho]
  · rw [← he]
    congr 1
    funext j; simp [z_up, vp_updL]
theorem z_fv_upd {ad : Nat → Nat} {wi : Nat → Int32} {fs : List (Option (Option Nat))} {k : Nat} {v : Int32} (h : fs[k]? = some none) : fs.mapIdx (fun j f => z_fv ad (upd wi k v) j f) = (fs.mapIdx (fun j f => z_fv ad wi j f)).set k (.int v) := by
  apply List.ext_getElem?
  intro j
  by_cases hj : j = k
  · subst hj
    rw [List.getElem?_set_self (by simpa using (List.getElem?_eq_some_iff.mp h).1)]
    simp [List.getElem?_mapIdx, h, z_fv, upd]
  · rw [List.getElem?_set_ne (fun q => hj q.symm)]
    simp only [List.getElem?_mapIdx]
    cases fs[j]? with
    | none => rfl
    | some f => cases f with
      | none => simp [z_fv, upd, hj]
      | some r => cases r <;> rfl
theorem z_fv_ref {ad : Nat → Nat} {wi : Nat → Int32} {fs : List (Option (Option Nat))} {k r : Nat} (h : k < fs.length) : (fs.set k (some (some r))).mapIdx (fun j f => z_fv ad wi j f) = (fs.mapIdx (fun j f => z_fv ad wi j f)).set k (.ref (ad r)) := by
  apply List.ext_getElem?
  intro j
  by_cases hj : j = k
  · subst hj
    rw [List.getElem?_set_self (by simpa using h), List.getElem?_mapIdx, List.getElem?_set_self h]
    rfl
  · rw [List.getElem?_set_ne (fun q => hj q.symm)]
    simp only [List.getElem?_mapIdx, List.getElem?_set_ne (fun q : k = j => hj q.symm)]
/-! values and locals -/
def z_cv (b : Nat) (ad : Nat → Nat) (v : Value) : Value := match v with
  | .ref k => .ref (ad k)
  | .float _ => .ref b
  | v => v
theorem z_cv_cat (b : Nat) (ad : Nat → Nat) (v : Value) : (z_cv b ad v).category = v.category := by cases v <;> rfl
def z_nth {α : Type} : List α → Nat → Option α
  | [], _ => none
  | a :: _, 0 => some a
  | _ :: l, n + 1 => z_nth l n
theorem z_nth_eq {α : Type} : ∀ (l : List α) (i : Nat), z_nth l i = l[i]?
  | [], _ => by simp [z_nth]
  | _ :: _, 0 => by simp [z_nth]
  | _ :: l, n + 1 => by simpa [z_nth] using z_nth_eq l n
def z_look {α : Type} : List (Nat × α) → Nat → Option α
  | [], _ => none
  | (k, a) :: l, i => match Nat.beq k i with
    | true => some a
    | false => z_look l i
theorem z_look_mem {α : Type} : ∀ {l : List (Nat × α)} {i : Nat} {a : α}, z_look l i = some a → (i, a) ∈ l
  | [], _, _, h => by cases h
  | (k, a') :: l, i, a, h => by
    unfold z_look at h
    split at h
    · rename_i e
      have := Nat.eq_of_beq_eq_true e
      subst this
      cases h
      exact List.mem_cons_self
    · exact List.mem_cons_of_mem _ (z_look_mem h)
def z_set : zAL → Nat → Option Value → zAL
  | [], _, _ => []
  | _ :: l, 0, v => v :: l
  | a :: l, n + 1, v => a :: z_set l n v
theorem z_set_eq : ∀ (l : zAL) (i : Nat) (v : Option Value), z_set l i v = l.set i v
  | [], _, _ => by simp [z_set]
  | _ :: _, 0, _ => by simp [z_set]
  | a :: l, n + 1, v => by simpa [z_set] using z_set_eq l n v
def z_setk : zAL → Nat → Option Value → (zAL → Prop) → Prop
  | [], _, _, k => k []
  | _ :: l, 0, v, k => k (v :: l)
  | a :: l, n + 1, v, k => z_setk l n v (fun l' => k (a :: l'))
theorem z_setk_eq : ∀ (l : zAL) (i : Nat) (v : Option Value) (k : zAL → Prop), z_setk l i v k = k (z_set l i v)
  | [], _, _, _ => rfl
  | _ :: _, 0, _, _ => rfl
  | a :: l, n + 1, v, k => by rw [z_setk, z_setk_eq l n v]; rfl
def z_c2 (o : Option (Option Value)) : Bool := match o with
  | some (some (.long _)) => true
  | some (some (.double _)) => true
  | _ => false
def z_kill (al : zAL) (i : Nat) : zAL := match i with
  | 0 => al
  | j + 1 => match z_c2 (z_nth al j) with
    | true => z_set al j none
    | false => al
def z_killk (al : zAL) (i : Nat) (k : zAL → Prop) : Prop := match i with
  | 0 => k al
  | j + 1 => match z_c2 (z_nth al j) with
    | true => z_setk al j none k
    | false => k al
theorem z_killk_eq (al : zAL) (i : Nat) (k : zAL → Prop) : z_killk al i k = k (z_kill al i) := by
  cases i with
  | zero => rfl
  | succ j =>
    unfold z_killk z_kill
    dsimp only
    generalize z_c2 (z_nth al j) = q
    cases q with
    | true => exact z_setk_eq al j none k
    | false => rfl
/-- a value of one slot, of two slots, is stored -/
def z_st1 (al : zAL) (i : Nat) (v : Value) (k : zAL → Prop) : Prop := match z_nth al i with
  | some _ => z_killk al i (fun al1 => z_setk al1 i (some v) k)
  | none => False
def z_st2 (al : zAL) (i : Nat) (v : Value) (k : zAL → Prop) : Prop := match z_nth al (i + 1) with
  | some _ => z_killk al i (fun al1 => z_setk al1 i (some v) (fun al2 => z_setk al2 (i + 1) none k))
  | none => False
def z_LH (b : Nat) (ad : Nat → Nat) (ls : Array Slot) (nL : Nat) (al : zAL) : Prop := ls.size = nL ∧ lv_wf ls ∧ al.length ≤ nL ∧ ∀ (i : Nat) (v : Value), al[i]? = some (some v) → ls[i]? = some (Slot.val (z_cv b ad v))
def z_ll (b : Nat) (ad : Nat → Nat) : Nat → zAL → List (Nat × Value)
  | _, [] => []
  | i, none :: l => z_ll b ad (i + 1) l
  | i, some v :: l => (i, z_cv b ad v) :: z_ll b ad (i + 1) l
theorem z_ll_mem {b : Nat} {ad : Nat → Nat} : ∀ (al : zAL) (i j : Nat) (u : Value), (j, u) ∈ z_ll b ad i al ↔ ∃ k v, j = i + k ∧ al[k]? = some (some v) ∧ u = z_cv b ad v
  | [], i, j, u => by simp [z_ll]
  | none :: l, i, j, u => by
    rw [z_ll, z_ll_mem l]
    constructor
    · rintro ⟨k, v, h1, h2, h3⟩
      exact ⟨k + 1, v, by omega, by simpa using h2, h3⟩
    · rintro ⟨k, v, h1, h2, h3⟩
      cases k with
      | zero => simp at h2
      | succ k => exact ⟨k, v, by omega, by simpa using h2, h3⟩
  | some v0 :: l, i, j, u => by
    rw [z_ll, List.mem_cons, z_ll_mem l]
    constructor
    · rintro (h | ⟨k, v, h1, h2, h3⟩)
      · cases h
        exact ⟨0, v0, by omega, by simp, rfl⟩
      · exact ⟨k + 1, v, by omega, by simpa using h2, h3⟩
    · rintro ⟨k, v, h1, h2, h3⟩
      cases k with
      | zero =>
        simp only [List.getElem?_cons_zero, Option.some.injEq] at h2
        subst h2
        exact Or.inl (by rw [h3]; simp [h1])
      | succ k => exact Or.inr ⟨k, v, by omega, by simpa using h2, h3⟩
theorem z_LH.has {b : Nat} {ad : Nat → Nat} {ls : Array Slot} {nL : Nat} {al : zAL} (h : z_LH b ad ls nL al) : lv_has ls nL (z_ll b ad 0 al) := by
  refine ⟨h.1, h.2.1, ?_⟩
  rintro ⟨j, u⟩ hq
  obtain ⟨k, v, rfl, h2, rfl⟩ := (z_ll_mem al 0 j u).mp hq
  simpa using h.2.2.2 k v h2
theorem z_LH.at {b : Nat} {ad : Nat → Nat} {ls : Array Slot} {nL : Nat} {al : zAL} (h : z_LH b ad ls nL al) {i : Nat} {v : Value} (hv : z_nth al i = some (some v)) : ls[i]? = some (.val (z_cv b ad v)) := h.2.2.2 i v (by rw [← z_nth_eq]; exact hv)
theorem z_kill_at {al : zAL} {i k : Nat} {u : Value} (h : (z_kill al i)[k]? = some (some u)) : al[k]? = some (some u) ∧ ¬ (k + 1 = i ∧ u.category = 2) := by
  unfold z_kill at h
  split at h
  · exact ⟨h, fun q => by omega⟩
  · rename_i j
    split at h
    · rw [z_set_eq] at h
      by_cases hk : k = j
      · subst hk
        rw [List.getElem?_set] at h
        simp at h
      · rw [List.getElem?_set_ne (fun q => hk q.symm)] at h
        exact ⟨h, fun q => hk (by omega)⟩
    · rename_i e
      refine ⟨h, fun q => ?_⟩
      have hj : k = j := by omega
      subst hj
      rw [z_nth_eq, h] at e
      cases u <;> simp [z_c2, Value.category] at e q
theorem z_kill_len (al : zAL) (i : Nat) : (z_kill al i).length = al.length := by
  unfold z_kill
  split
  · rfl
  · split <;> simp [z_set_eq]
theorem z_LH.st1 {b : Nat} {ad : Nat → Nat} {ls ls' : Array Slot} {nL : Nat} {al : zAL} (h : z_LH b ad ls nL al) {i : Nat} {v : Value} (h' : lv_has ls' nL ((i, z_cv b ad v) :: (z_ll b ad 0 al).filter (fun q => !(q.1 == i) && !(q.1 + 1 == i && q.2.category == 2)))) : z_LH b ad ls' nL (z_set (z_kill al i) i (some v)) := by
  refine ⟨h'.1, h'.2.1, by rw [z_set_eq, List.length_set, z_kill_len]; exact h.2.2.1, fun k u hu => ?_⟩
  rw [z_set_eq] at hu
  by_cases hk : k = i
  · subst hk
    have hlt : k < (z_kill al k).length := by
      have := (List.getElem?_eq_some_iff.mp hu).1
      simpa using this
    rw [List.getElem?_set_self hlt] at hu
    cases hu
    exact h'.2.2 (k, z_cv b ad v) List.mem_cons_self
  · rw [List.getElem?_set_ne (fun q => hk q.symm)] at hu
    obtain ⟨h1, h2⟩ := z_kill_at hu
    refine h'.2.2 (k, z_cv b ad u) (List.mem_cons_of_mem _ (List.mem_filter.mpr ⟨(z_ll_mem al 0 k _).mpr ⟨k, u, by omega, h1, rfl⟩, ?_⟩))
    simp only [z_cv_cat, Bool.and_eq_true, Bool.not_eq_true', beq_eq_false_iff_ne, ne_eq, Bool.and_eq_false_iff]
    exact ⟨hk, by by_cases e : k + 1 = i; exact Or.inr (fun q => h2 ⟨e, q⟩); exact Or.inl e⟩
theorem z_LH.st2 {b : Nat} {ad : Nat → Nat} {ls ls' : Array Slot} {nL : Nat} {al : zAL} (h : z_LH b ad ls nL al) {i : Nat} {v : Value} (h' : lv_has ls' nL ((i, z_cv b ad v) :: (z_ll b ad 0 al).filter (fun q => !(q.1 == i) && (!(q.1 == i + 1) && !(q.1 + 1 == i && q.2.category == 2))))) : z_LH b ad ls' nL (z_set (z_set (z_kill al i) i (some v)) (i + 1) none) := by
  refine ⟨h'.1, h'.2.1, by rw [z_set_eq, z_set_eq, List.length_set, List.length_set, z_kill_len]; exact h.2.2.1, fun k u hu => ?_⟩
  rw [z_set_eq, z_set_eq] at hu
  by_cases hk1 : k = i + 1
  · subst hk1
    rw [List.getElem?_set] at hu
    simp at hu
  rw [List.getElem?_set_ne (fun q => hk1 q.symm)] at hu
  by_cases hk : k = i
  · subst hk
    have hlt : k < (z_kill al k).length := by
      have := (List.getElem?_eq_some_iff.mp hu).1
      simpa using this
    rw [List.getElem?_set_self hlt] at hu
    cases hu
    exact h'.2.2 (k, z_cv b ad v) List.mem_cons_self
  · rw [List.getElem?_set_ne (fun q => hk q.symm)] at hu
    obtain ⟨h1, h2⟩ := z_kill_at hu
    refine h'.2.2 (k, z_cv b ad u) (List.mem_cons_of_mem _ (List.mem_filter.mpr ⟨(z_ll_mem al 0 k _).mpr ⟨k, u, by omega, h1, rfl⟩, ?_⟩))
    simp only [z_cv_cat, Bool.and_eq_true, Bool.not_eq_true', beq_eq_false_iff_ne, ne_eq, Bool.and_eq_false_iff]
    exact ⟨hk, hk1, by by_cases e : k + 1 = i; exact Or.inr (fun q => h2 ⟨e, q⟩); exact Or.inl e⟩
def z_msk : List Bool → zAL → (zAL → Prop) → Prop
  | true :: ms, a :: l, k => z_msk ms l (fun l' => k (a :: l'))
  | false :: ms, _ :: l, k => z_msk ms l (fun l' => k (none :: l'))
  | _, l, k => k l
theorem z_msk_ok : ∀ (ms : List Bool) (l : zAL) (k : zAL → Prop), z_msk ms l k → ∃ l' : zAL, k l' ∧ l'.length = l.length ∧ ∀ (i : Nat) (v : Value), l'[i]? = some (some v) → l[i]? = some (some v)
  | [], l, k, h => ⟨l, by cases l <;> exact h, rfl, fun _ _ q => q⟩
  | true :: ms, [], k, h => ⟨[], h, rfl, fun _ _ q => q⟩
  | false :: ms, [], k, h => ⟨[], h, rfl, fun _ _ q => q⟩
  | true :: ms, a :: l, k, h => by
    obtain ⟨l', h1, h2, h3⟩ := z_msk_ok ms l _ h
    refine ⟨a :: l', h1, by simp [h2], fun i v q => ?_⟩
    cases i with
    | zero => simpa using q
    | succ i => simpa using h3 i v (by simpa using q)
  | false :: ms, a :: l, k, h => by
    obtain ⟨l', h1, h2, h3⟩ := z_msk_ok ms l _ h
    refine ⟨none :: l', h1, by simp [h2], fun i v q => ?_⟩
    cases i with
    | zero => simp at q
    | succ i => simpa using h3 i v (by simpa using q)
theorem z_LH.weaken {b : Nat} {ad : Nat → Nat} {ls : Array Slot} {nL : Nat} {al al' : zAL} (h : z_LH b ad ls nL al) (hl : al'.length = al.length) (hs : ∀ (i : Nat) (v : Value), al'[i]? = some (some v) → al[i]? = some (some v)) : z_LH b ad ls nL al' := ⟨h.1, h.2.1, by rw [hl]; exact h.2.2.1, fun i v q => h.2.2.2 i v (hs i v q)⟩
/-! the step -/
def mI (n : Nat) : Int32 := -(nI n)
def z_rem (x y : Int32) : Int32 := x - x / y * y
def z_lrem (x y : Int64) : Int64 := x - x / y * y
def z_shl (x y : Int32) : Int32 := x <<< (y &&& 31)
def z_sar (x y : Int32) : Int32 := x >>> (y &&& 31)
def z_shr (x y : Int32) : Int32 := (x.toUInt32 >>> (y.toUInt32 &&& Int32.toUInt32 31)).toInt32
def z_lshl (x : Int64) (y : Int32) : Int64 := x <<< (y.toInt64 &&& 63)
def z_lsar (x : Int64) (y : Int32) : Int64 := x >>> (y.toInt64 &&& 63)
def z_lshr (x : Int64) (y : Int32) : Int64 := (x.toUInt64 >>> (y.toInt64.toUInt64 &&& Int64.toUInt64 63)).toInt64
def z_i1 (st : List Value) (k : Int32 → List Value → Prop) : Prop := match st with
  | .int a :: r => k a r
  | _ => False
def z_l1 (st : List Value) (k : Int64 → List Value → Prop) : Prop := match st with
  | .long a :: r => k a r
  | _ => False
def z_i2 (st : List Value) (k : Int32 → Int32 → List Value → Prop) : Prop := match st with
  | .int y :: .int a :: r => k a y r
  | _ => False
def z_l2 (st : List Value) (k : Int64 → Int64 → List Value → Prop) : Prop := match st with
  | .long y :: .long a :: r => k a y r
  | _ => False
def z_li (st : List Value) (k : Int64 → Int32 → List Value → Prop) : Prop := match st with
  | .int y :: .long a :: r => k a y r
  | _ => False
def z_ldi (al : zAL) (i : Nat) (k : Int32 → Prop) : Prop := match z_nth al i with
  | some (some (.int a)) => k a
  | _ => False
def z_ldl (al : zAL) (i : Nat) (k : Int64 → Prop) : Prop := match z_nth al i with
  | some (some (.long a)) => k a
  | _ => False
def z_lda (al : zAL) (i : Nat) (k : Value → Prop) : Prop := match z_nth al i with
  | some (some (.ref a)) => k (.ref a)
  | some (some (.float a)) => k (.float a)
  | _ => False
def z_sti (al : zAL) (i : Nat) (st : List Value) (k : zAL → List Value → Prop) : Prop := match st with
  | .int a :: r => z_st1 al i (.int a) (fun al' => k al' r)
  | _ => False
def z_stl (al : zAL) (i : Nat) (st : List Value) (k : zAL → List Value → Prop) : Prop := match st with
  | .long a :: r => z_st2 al i (.long a) (fun al' => k al' r)
  | _ => False
def z_sta (al : zAL) (i : Nat) (st : List Value) (k : zAL → List Value → Prop) : Prop := match st with
  | .ref a :: r => z_st1 al i (.ref a) (fun al' => k al' r)
  | _ => False
def z_one (v : Value) (k : Prop) : Prop := match v with
  | .int _ => k
  | .ref _ => k
  | .float _ => k
  | .null => k
  | _ => False
def z_pop : Nat → List Value → List Value → (List Value → List Value → Prop) → Prop
  | 0, st, acc, k => k acc st
  | n + 1, v :: st, acc, k => z_pop n st (v :: acc) k
  | _ + 1, [], _, _ => False
def z_cats (st : List Value) : Nat := match st with
  | [] => 0
  | v :: r => v.category + z_cats r
def z_rlt (n : Nat) (v : Value) : Bool := match v with
  | .ref k => Nat.blt k n
  | _ => true
def z_wfl (n : Nat) (al : zAL) : Bool := al.all (fun o => match o with
  | none => true
  | some v => z_rlt n v)
def z_wfs (n : Nat) (st : List Value) : Bool := st.all (z_rlt n)
def z_wfg (n : Nat) (G : List zSh) : Bool := G.all (fun s => match s with
  | .inl (_, fs) => fs.all (fun f => match f with
    | some (some r) => Nat.blt r n
    | _ => true)
  | _ => true)
def z_psh : List zSh → zSh → Nat → (List zSh → Nat → Prop) → Prop
  | [], s, n, k => k [s] n
  | a :: l, s, n, k => z_psh l s (n + 1) (fun l' m => k (a :: l') m)
def z_fld (M : zM) (i : Nat) (w : zW) (o : Nat) (k : Nat → Nat → List (Option (Option Nat)) → Nat → Option (Option Nat) → Prop) : Prop := match z_look M.2.1 i with
  | some (ci, j, tc, _) => match z_nth w.1 o with
    | some (.inl (ci', fs)) => match Nat.beq ci' ci with
      | true => match z_nth fs j with
        | some f => k tc ci fs j f
        | none => False
      | false => False
    | _ => False
  | none => False
def z_arr (w : zW) (o : Nat) (k : Nat → Nat → Prop) : Prop := match z_nth w.1 o with
  | some (.inr (t, n)) => k t n
  | _ => False
def z_gset : List zSh → Nat → Nat → Nat → Nat → (List zSh → Prop) → Prop
  | .inl (ci, fs) :: l, 0, j, r, _, k => k (.inl (ci, fs.set j (some (some r))) :: l)
  | a :: l, n + 1, j, r, q, k => z_gset l n j r q (fun l' => k (a :: l'))
  | _, _, _, _, _, _ => False
def z_sw (pc : Nat) (a : Int32) (st : List Value) (J : Nat → Prop) : Int → List Nat → Prop
  | _, [] => True
  | lo, t :: ts => (a = Int32.ofInt lo → J t) ∧ z_sw pc a st J (lo + 1) ts
def z_ret (rc : Nat) (a : Int32) : Prop := match rc with
  | 1 => True
  | 2 => a = nI 0 ∨ a = nI 1
  | _ => False
/-- how a call is told: 0 static, 1 a constructor, 2 static of a nest mate, 3 a constructor of a nest mate, 4 virtual, 5 virtual of a nest mate, 6 Object's constructor -/
def z_kk (ik kd : Nat) : Bool := match ik, kd with
  | 0, 0 => true
  | 0, 2 => true
  | 1, 4 => true
  | 1, 5 => true
  | 2, 1 => true
  | 2, 3 => true
  | 2, 6 => true
  | _, _ => false
def z_hdo (ci : Nat) (av : List Value) (w : zW) : Bool := match av with
  | .ref o :: _ => match z_nth w.1 o with
    | some (.inl (c', _)) => Nat.beq c' ci
    | _ => false
  | _ => false
def z_hdr (av : List Value) : Bool := match av with
  | .ref _ :: _ => true
  | _ => false
def z_rcv (kd ci : Nat) (av : List Value) (w : zW) : Bool := match kd with
  | 0 => true
  | 2 => true
  | 4 => z_hdo ci av w
  | 5 => z_hdo ci av w
  | _ => z_hdr av
def z_bk (J : zJ) (nx : Nat) (al : zAL) (r : List Value) (c1 c2 : Nat) (v : Option Value) (w' : zW) : Prop := match v with
  | none => J nx al r w' c1 c2
  | some v => J nx al (v :: r) w' c1 c2
def z_cgo (M : zM) (J : zJ) (nx : Nat) (al : zAL) (r : List Value) (w : zW) (c1 c2 mc ms : Nat) (sp : zSp) (av : List Value) : Prop := match mc with
  | 0 => match ms with
    | 0 => sp av w (fun v w' => z_bk J nx al r c1 c2 v w')
    | _ => False
  | mc' + 1 => (c1 + (mc' + 1) ≤ M.2.2.2.2.2.2.2.2.2.1 ∧ c2 + ms ≤ M.2.2.2.2.2.2.2.2.2.2) ∧ match z_wfl w.1.length al && z_wfs w.1.length r with
    | true => sp av w (fun v w' => z_bk J nx al r (c1 + (mc' + 1)) (c2 + ms) v w')
    | false => False
def z_call (M : zM) (J : zJ) (ik i nx : Nat) (al : zAL) (st : List Value) (w : zW) (c1 c2 : Nat) : Prop := match z_look M.2.2.1 i with
  | some (kd, ci, na, mc, ms, sp) => z_pop na st [] (fun av r => match z_kk ik kd && (Nat.ble (z_cats r) 8 && z_rcv kd ci av w) with
    | true => match kd with
      | 6 => J nx al r w c1 c2
      | _ => z_cgo M J nx al r w c1 c2 mc ms sp av
    | false => False)
  | none => False
def z_step (M : zM) (post : Option Value → zW → Prop) (J : zJ) (e : zI) (al : zAL) (st : List Value) (w : zW) (c1 c2 : Nat) : Prop := match e with
  | (pc, nx, tg, ins) => match ins with
    | .aload i => z_lda al i (fun v => J nx al (v :: st) w c1 c2)
    | .aload_n i => z_lda al i.val (fun v => J nx al (v :: st) w c1 c2)
    | .iload i => z_ldi al i (fun a => J nx al (.int a :: st) w c1 c2)
    | .iload_n i => z_ldi al i.val (fun a => J nx al (.int a :: st) w c1 c2)
    | .lload i => z_ldl al i (fun a => J nx al (.long a :: st) w c1 c2)
    | .lload_n i => z_ldl al i.val (fun a => J nx al (.long a :: st) w c1 c2)
    | .istore i => z_sti al i st (fun al' r => J nx al' r w c1 c2)
    | .istore_n i => z_sti al i.val st (fun al' r => J nx al' r w c1 c2)
    | .lstore i => z_stl al i st (fun al' r => J nx al' r w c1 c2)
    | .lstore_n i => z_stl al i.val st (fun al' r => J nx al' r w c1 c2)
    | .astore i => z_sta al i st (fun al' r => J nx al' r w c1 c2)
    | .astore_n i => z_sta al i.val st (fun al' r => J nx al' r w c1 c2)
    | .iinc i n => z_ldi al i (fun a => match n with
      | .ofNat _ => z_st1 al i (.int (a + nI tg)) (fun al' => J nx al' st w c1 c2)
      | .negSucc _ => z_st1 al i (.int (a - nI tg)) (fun al' => J nx al' st w c1 c2))
    | .iconst n => match n with
      | .ofNat _ => J nx al (.int (nI tg) :: st) w c1 c2
      | .negSucc _ => J nx al (.int (mI tg) :: st) w c1 c2
    | .bipush n => match n with
      | .ofNat _ => J nx al (.int (nI tg) :: st) w c1 c2
      | .negSucc _ => J nx al (.int (mI tg) :: st) w c1 c2
    | .sipush n => match n with
      | .ofNat _ => J nx al (.int (nI tg) :: st) w c1 c2
      | .negSucc _ => J nx al (.int (mI tg) :: st) w c1 c2
    | .lconst _ => J nx al (.long (lN tg) :: st) w c1 c2
    | .ldc_w i => match z_look M.2.2.2.1.1 i with
      | some a => J nx al (.int a :: st) w c1 c2
      | none => False
    | .ldc2_w i => match z_look M.2.2.2.1.2.1 i with
      | some a => J nx al (.long a :: st) w c1 c2
      | none => False
    | .iadd => z_i2 st (fun a y r => J nx al (.int (a + y) :: r) w c1 c2)
    | .isub => z_i2 st (fun a y r => J nx al (.int (a - y) :: r) w c1 c2)
    | .imul => z_i2 st (fun a y r => J nx al (.int (a * y) :: r) w c1 c2)
    | .iand => z_i2 st (fun a y r => J nx al (.int (a &&& y) :: r) w c1 c2)
    | .ior => z_i2 st (fun a y r => J nx al (.int (a ||| y) :: r) w c1 c2)
    | .ixor => z_i2 st (fun a y r => J nx al (.int (a ^^^ y) :: r) w c1 c2)
    | .ishl => z_i2 st (fun a y r => J nx al (.int (z_shl a y) :: r) w c1 c2)
    | .ishr => z_i2 st (fun a y r => J nx al (.int (z_sar a y) :: r) w c1 c2)
    | .iushr => z_i2 st (fun a y r => J nx al (.int (z_shr a y) :: r) w c1 c2)
    | .idiv => z_i2 st (fun a y r => ¬ y = 0 ∧ J nx al (.int (a / y) :: r) w c1 c2)
    | .irem => z_i2 st (fun a y r => ¬ y = 0 ∧ J nx al (.int (z_rem a y) :: r) w c1 c2)
    | .ineg => z_i1 st (fun a r => J nx al (.int (-a) :: r) w c1 c2)
    | .i2l => z_i1 st (fun a r => J nx al (.long a.toInt64 :: r) w c1 c2)
    | .i2b => z_i1 st (fun a r => J nx al (.int a.toInt8.toInt32 :: r) w c1 c2)
    | .i2c => z_i1 st (fun a r => J nx al (.int (a.toUInt32 % 65536).toInt32 :: r) w c1 c2)
    | .l2i => z_l1 st (fun a r => J nx al (.int a.toInt32 :: r) w c1 c2)
    | .ladd => z_l2 st (fun a y r => J nx al (.long (a + y) :: r) w c1 c2)
    | .lsub => z_l2 st (fun a y r => J nx al (.long (a - y) :: r) w c1 c2)
    | .lmul => z_l2 st (fun a y r => J nx al (.long (a * y) :: r) w c1 c2)
    | .land => z_l2 st (fun a y r => J nx al (.long (a &&& y) :: r) w c1 c2)
    | .lor => z_l2 st (fun a y r => J nx al (.long (a ||| y) :: r) w c1 c2)
    | .lxor => z_l2 st (fun a y r => J nx al (.long (a ^^^ y) :: r) w c1 c2)
    | .lrem => z_l2 st (fun a y r => ¬ y = 0 ∧ J nx al (.long (z_lrem a y) :: r) w c1 c2)
    | .lcmp => z_l2 st (fun a y r => J nx al (.int (lg_cmp a y) :: r) w c1 c2)
    | .lshl => z_li st (fun a y r => J nx al (.long (z_lshl a y) :: r) w c1 c2)
    | .lshr => z_li st (fun a y r => J nx al (.long (z_lsar a y) :: r) w c1 c2)
    | .lushr => z_li st (fun a y r => J nx al (.long (z_lshr a y) :: r) w c1 c2)
    | .dup => match st with
      | v :: r => z_one v (J nx al (v :: v :: r) w c1 c2)
      | _ => False
    | .pop => match st with
      | v :: r => z_one v (J nx al r w c1 c2)
      | _ => False
    | .dup_x1 => match st with
      | v :: u :: r => z_one v (z_one u (J nx al (v :: u :: v :: r) w c1 c2))
      | _ => False
    | .dup2 => match st with
      | v :: u :: r => z_one v (z_one u (J nx al (v :: u :: v :: u :: r) w c1 c2))
      | _ => False
    | .goto _ => J tg al st w c1 c2
    | .ifCond .eq _ => z_i1 st (fun a r => (a = nI 0 → J tg al r w c1 c2) ∧ (¬ a = nI 0 → J nx al r w c1 c2))
    | .ifCond .ne _ => z_i1 st (fun a r => (¬ a = nI 0 → J tg al r w c1 c2) ∧ (a = nI 0 → J nx al r w c1 c2))
    | .ifCond .lt _ => z_i1 st (fun a r => (a < nI 0 → J tg al r w c1 c2) ∧ (¬ a < nI 0 → J nx al r w c1 c2))
    | .ifCond .ge _ => z_i1 st (fun a r => (¬ a < nI 0 → J tg al r w c1 c2) ∧ (a < nI 0 → J nx al r w c1 c2))
    | .ifCond .gt _ => z_i1 st (fun a r => (nI 0 < a → J tg al r w c1 c2) ∧ (¬ nI 0 < a → J nx al r w c1 c2))
    | .ifCond .le _ => z_i1 st (fun a r => (¬ nI 0 < a → J tg al r w c1 c2) ∧ (nI 0 < a → J nx al r w c1 c2))
    | .if_icmp .eq _ => z_i2 st (fun a y r => (a = y → J tg al r w c1 c2) ∧ (¬ a = y → J nx al r w c1 c2))
    | .if_icmp .ne _ => z_i2 st (fun a y r => (¬ a = y → J tg al r w c1 c2) ∧ (a = y → J nx al r w c1 c2))
    | .if_icmp .lt _ => z_i2 st (fun a y r => (a < y → J tg al r w c1 c2) ∧ (¬ a < y → J nx al r w c1 c2))
    | .if_icmp .ge _ => z_i2 st (fun a y r => (¬ a < y → J tg al r w c1 c2) ∧ (a < y → J nx al r w c1 c2))
    | .if_icmp .gt _ => z_i2 st (fun a y r => (y < a → J tg al r w c1 c2) ∧ (¬ y < a → J nx al r w c1 c2))
    | .if_icmp .le _ => z_i2 st (fun a y r => (¬ y < a → J tg al r w c1 c2) ∧ (y < a → J nx al r w c1 c2))
    | .getfield i => match st with
      | .ref o :: r => z_fld M i w o (fun _ _ _ j f => match f with
        | none => J nx al (.int (w.2.1 o j) :: r) w c1 c2
        | some (some q) => J nx al (.ref q :: r) w c1 c2
        | some none => False)
      | _ => False
    | .putfield i => match st with
      | .int a :: .ref o :: r => z_fld M i w o (fun tc _ _ j f => match f with
        | none => match tc with
          | 0 => J nx al r (w.1, z_up w.2.1 o j a, w.2.2) c1 c2
          | 1 => (a = nI 0 ∨ a = nI 1) ∧ J nx al r (w.1, z_up w.2.1 o j a, w.2.2) c1 c2
          | _ => False
        | _ => False)
      | .ref q :: .ref o :: r => match M.2.2.2.2.2.2.2.1 with
        | true => z_fld M i w o (fun tc _ _ j f => match tc with
          | 2 => match f with
            | some _ => z_gset w.1 o j q 0 (fun G' => J nx al r (G', w.2.1, w.2.2) c1 c2)
            | none => False
          | _ => False)
        | false => False
      | _ => False
    | .iaload => match st with
      | .int i :: .ref o :: r => z_arr w o (fun t n => match t with
        | 0 => vp_in i n ∧ J nx al (.int (w.2.1 o i.toNatClampNeg) :: r) w c1 c2
        | _ => False)
      | .int i :: .float _ :: r => match M.2.2.2.2.2.2.2.2.1.1 with
        | true => vp_in i M.2.2.2.2.2.2.2.2.1.2.1 ∧ J nx al (.int (M.2.2.2.2.2.2.2.2.1.2.2 i.toNatClampNeg) :: r) w c1 c2
        | false => False
      | _ => False
    | .baload => match st with
      | .int i :: .ref o :: r => z_arr w o (fun t n => match t with
        | 2 => vp_in i n ∧ J nx al (.int (w.2.1 o i.toNatClampNeg) :: r) w c1 c2
        | 3 => vp_in i n ∧ J nx al (.int (w.2.1 o i.toNatClampNeg) :: r) w c1 c2
        | _ => False)
      | _ => False
    | .laload => match st with
      | .int i :: .ref o :: r => z_arr w o (fun t n => match t with
        | 1 => vp_in i n ∧ J nx al (.long (w.2.2 o i.toNatClampNeg) :: r) w c1 c2
        | _ => False)
      | _ => False
    | .iastore => match st with
      | .int a :: .int i :: .ref o :: r => z_arr w o (fun t n => match t with
        | 0 => vp_in i n ∧ J nx al r (w.1, z_up w.2.1 o i.toNatClampNeg a, w.2.2) c1 c2
        | _ => False)
      | _ => False
    | .bastore => match st with
      | .int a :: .int i :: .ref o :: r => z_arr w o (fun t n => match t with
        | 2 => vp_in i n ∧ J nx al r (w.1, z_up w.2.1 o i.toNatClampNeg (vp_nar .byte a), w.2.2) c1 c2
        | 3 => vp_in i n ∧ J nx al r (w.1, z_up w.2.1 o i.toNatClampNeg (vp_nar .boolean a), w.2.2) c1 c2
        | _ => False)
      | _ => False
    | .lastore => match st with
      | .long a :: .int i :: .ref o :: r => z_arr w o (fun t n => match t with
        | 1 => vp_in i n ∧ J nx al r (w.1, w.2.1, z_up w.2.2 o i.toNatClampNeg a) c1 c2
        | _ => False)
      | _ => False
    | .arraylength => match st with
      | .ref o :: r => z_arr w o (fun _ n => J nx al (.int (nI n) :: r) w c1 c2)
      | .float _ :: r => match M.2.2.2.2.2.2.2.2.1.1 with
        | true => J nx al (.int (nI M.2.2.2.2.2.2.2.2.1.2.1) :: r) w c1 c2
        | false => False
      | _ => False
    | .new i => match z_look M.2.2.2.1.2.2 i with
      | some (ci, fs) => (c1 + 1 ≤ M.2.2.2.2.2.2.2.2.2.1 ∧ c2 + fs.length ≤ M.2.2.2.2.2.2.2.2.2.2) ∧ match z_wfl w.1.length al && (z_wfs w.1.length st && z_wfg w.1.length w.1) with
        | true => z_psh w.1 (.inl (ci, fs)) 0 (fun G' n => J nx al (.ref n :: st) (G', z_row w.2.1 n (fun _ => 0), w.2.2) (c1 + 1) (c2 + fs.length))
        | false => False
      | none => False
    | .newarray t => z_i1 st (fun a r => ∃ N : Nat, a = nI N ∧ N ≤ 100000 ∧ (c1 + 1 ≤ M.2.2.2.2.2.2.2.2.2.1 ∧ c2 + N ≤ M.2.2.2.2.2.2.2.2.2.2) ∧ match z_wfl w.1.length al && (z_wfs w.1.length r && z_wfg w.1.length w.1) with
      | true => match t with
        | .int => z_psh w.1 (.inr (0, N)) 0 (fun G' n => J nx al (.ref n :: r) (G', z_row w.2.1 n (fun _ => 0), w.2.2) (c1 + 1) (c2 + N))
        | .long => z_psh w.1 (.inr (1, N)) 0 (fun G' n => J nx al (.ref n :: r) (G', w.2.1, z_row w.2.2 n (fun _ => 0)) (c1 + 1) (c2 + N))
        | .byte => z_psh w.1 (.inr (2, N)) 0 (fun G' n => J nx al (.ref n :: r) (G', z_row w.2.1 n (fun _ => 0), w.2.2) (c1 + 1) (c2 + N))
        | .boolean => z_psh w.1 (.inr (3, N)) 0 (fun G' n => J nx al (.ref n :: r) (G', z_row w.2.1 n (fun _ => 0), w.2.2) (c1 + 1) (c2 + N))
        | _ => False
      | false => False)
    | .invokestatic i => z_call M J 0 i nx al st w c1 c2
    | .invokevirtual i => z_call M J 1 i nx al st w c1 c2
    | .invokespecial i => z_call M J 2 i nx al st w c1 c2
    | .tableswitch _ _ _ _ => match z_look M.2.2.2.2.1 pc with
      | some (lo, d, ts) => z_i1 st (fun a r => z_sw pc a r (fun t => J t al r w c1 c2) lo ts ∧ ((a.toInt < lo ∨ lo + ts.length ≤ a.toInt) → J d al r w c1 c2))
      | none => False
    | .ireturn => match st with
      | [.int a] => z_ret M.2.2.2.2.2.2.1 a ∧ post (some (.int a)) w
      | _ => False
    | .lreturn => match st with
      | [.long a] => match M.2.2.2.2.2.2.1 with
        | 3 => post (some (.long a)) w
        | _ => False
      | _ => False
    | .return_ => match st with
      | [] => match M.2.2.2.2.2.2.1 with
        | 0 => post none w
        | _ => False
      | _ => False
    | _ => False
def z_from : List zI → Nat → List zI
  | [], _ => []
  | e :: l, pc => match Nat.beq e.1 pc with
    | true => e :: l
    | false => z_from l pc
def z_nxt (M : zM) (Jm : zJ) (go : List zI → zAL → List Value → zW → Nat → Nat → Prop) (l : List zI) (pc' : Nat) (al' : zAL) (st' : List Value) (w' : zW) (c1' c2' : Nat) : Prop := match z_look M.2.2.2.2.2.1 pc' with
  | some ms => z_msk ms al' (fun al2 => Jm pc' al2 st' w' c1' c2')
  | none => match l with
    | e' :: _ => match Nat.beq e'.1 pc' with
      | true => go l al' st' w' c1' c2'
      | false => go (z_from M.1 pc') al' st' w' c1' c2'
    | [] => go (z_from M.1 pc') al' st' w' c1' c2'
def z_wp (M : zM) (post : Option Value → zW → Prop) (Jm : zJ) : Nat → List zI → zAL → List Value → zW → Nat → Nat → Prop
  | 0, _, _, _, _, _, _ => False
  | _ + 1, [], _, _, _, _, _ => False
  | n + 1, e :: l, al, st, w, c1, c2 => z_step M post (fun pc' al' st' w' c1' c2' => z_nxt M Jm (z_wp M post Jm n) l pc' al' st' w' c1' c2') e al st w c1 c2
end
section
/-! the contract, and that the step is right -/
def z_isN (w : Cond) : Bool := match w with
  | .fieldLinkNest _ _ _ _ _ _ => true
  | .methodLinkNest _ _ _ _ => true
  | _ => false
theorem zNW_isN : ∀ w ∈ zNW, z_isN w = true := by
  have h : zNW.all z_isN = true := by decide +kernel
  exact fun w hw => List.all_eq_true.mp h w hw
def z_KK (x : zX) (U : State) : Prop := va_K x.1 vwCl (z_tys x) U ∧ ∀ w ∈ zNW, va_Nw w U
theorem z_KK.moved {x : zX} {s U : State} (h : z_KK x s) (hW : s.WarmedH U.vm) : z_KK x U := by
  refine ⟨va_K.moved hW.alike h.1, fun w hw => ?_⟩
  have h1 := zNW_isN w hw
  have h2 := h.2 w hw
  cases w <;> first | exact va_Nw.warmF hW h2 | exact va_Nw.warmM hW h2 | exact absurd h1 (by simp [z_isN])
theorem z_KK.same {x : zX} {u U : State} (h : z_KK x u) (hvm : u.vm = U.vm) : z_KK x U := by
  refine ⟨va_K.moved (by rw [hvm]; exact Vm.Alike.refl _) h.1, fun w hw => ?_⟩
  have h1 := zNW_isN w hw
  have h2 := h.2 w hw
  cases w <;> first | exact va_Nw.same rfl hvm h2 | exact absurd h1 (by simp [z_isN])
def z_AG (ad0 ad : Nat → Nat) (n0 mc : Nat) : Prop := (∀ k, k < n0 → ad k = ad0 k) ∧ (mc = 0 → ad = ad0)
def z_A (x : zX) (ad : Nat → Nat) (w : zW) (sz : Nat) : Nat → Prop := va_A (z_ws x ad w) sz
def z_Pc (x : zX) (b : Nat) (ad : Nat → Nat) (av : List Value) (w : zW) (sz : Nat) : Array Value → State → Prop := va_Pc (av.map (z_cv b ad)) (fun U => U.heap.size = sz ∧ va_P x.1 vwCl (z_ws x ad w) U.heap ∧ z_KK x U ∧ va_D (fun _ => True) (z_ws x ad w))
def z_Qc (x : zX) (b : Nat) (ad : Nat → Nat) (w : zW) (K : Option Value → zW → Prop) (sz mc : Nat) : Array Value → State → Outcome → State → Prop := fun _ st oc t => (∃ (r : Option Value) (w' : zW) (ad' : Nat → Nat), oc = .returned (r.map (z_cv b ad')) ∧ K r w' ∧ w.1.length ≤ w'.1.length ∧ z_AG ad ad' w.1.length mc ∧ va_P x.1 vwCl (z_ws x ad' w') t.heap ∧ va_D (z_A x ad w sz) (z_ws x ad' w')) ∧ va_F (z_A x ad w sz) st t
/-- the contract of a method: from each world of which sp says so, it ends in a world and with an answer of which K holds -/
def z_CS (l : Launch) (y : MethodName) (cc : ByteArray) (maxL : Nat) (ret : Option FieldType) (rm : Room) (sp : zSp) : Prop :=
  ∀ (x : zX) (b : Nat) (ad : Nat → Nat) (av : List Value) (w : zW) (K : Option Value → zW → Prop) (sz : Nat), sp av w K → Met l y (.code y cc maxL ret :: zTT) rm (z_Pc x b ad av w sz) (z_Qc x b ad w K sz rm.cells) rm.cells rm.slots (z_A x ad w sz)
def z_len (i : Instr) : Nat := match i with
  | .bipush _ => 2
  | .iload _ => 2
  | .lload _ => 2
  | .aload _ => 2
  | .istore _ => 2
  | .lstore _ => 2
  | .astore _ => 2
  | .newarray _ => 2
  | .sipush _ => 3
  | .iinc _ _ => 3
  | .getfield _ => 3
  | .putfield _ => 3
  | .goto _ => 3
  | .ifCond _ _ => 3
  | .if_icmp _ _ => 3
  | .invokestatic _ => 3
  | .invokevirtual _ => 3
  | .invokespecial _ => 3
  | .ldc_w _ => 3
  | .ldc2_w _ => 3
  | .new _ => 3
  | _ => 1
def z_isw (i : Instr) : Bool := match i with
  | .tableswitch _ _ _ _ => true
  | _ => false
def z_cst (n : Int) (v : Int32) (tg : Nat) : Bool := match n with
  | .ofNat _ => decide (v = nI tg)
  | .negSucc _ => decide (v = mI tg)
def z_tb (pc tg : Nat) (i : Instr) : Bool := match i with
  | .goto o => decide ((pc : Int) + o = (tg : Int))
  | .ifCond _ o => decide ((pc : Int) + o = (tg : Int))
  | .if_icmp _ o => decide ((pc : Int) + o = (tg : Int))
  | .iconst n => z_cst n (Int32.ofInt n) tg
  | .bipush n => z_cst n (Int8.ofInt n).toInt32 tg
  | .sipush n => z_cst n (Int16.ofInt n).toInt32 tg
  | .lconst k => decide (Int64.ofNat (k : Nat) = lN tg)
  | .iinc _ n => z_cst n (Int32.ofInt n) tg
  | _ => true
def z_okb (cc : ByteArray) (e : zI) : Bool := match decode cc e.1 with
  | .ok (i, len) => decide (i = e.2.2.2) && (z_tb e.1 e.2.2.1 e.2.2.2 && (z_isw e.2.2.2 || (Nat.beq len (z_len e.2.2.2) && Nat.beq e.2.1 (e.1 + len))))
  | .error _ => false
theorem z_dec {cc : ByteArray} {pc nx tg : Nat} {ins : Instr} (h : z_okb cc (pc, nx, tg, ins) = true) (hw : z_isw ins = false) : decode cc pc = .ok (ins, z_len ins) ∧ nx = pc + z_len ins ∧ z_tb pc tg ins = true := by
  unfold z_okb at h
  dsimp only at h
  split at h
  · rename_i i len e
    rw [hw] at h
    simp only [Bool.and_eq_true, decide_eq_true_eq, Bool.false_or] at h
    obtain ⟨rfl, h2, h3, h4⟩ := h
    have e3 := Nat.eq_of_beq_eq_true h3
    have e4 := Nat.eq_of_beq_eq_true h4
    subst e3
    exact ⟨e, e4, h2⟩
  · cases h
theorem z_decw {cc : ByteArray} {pc nx tg : Nat} {ins : Instr} (h : z_okb cc (pc, nx, tg, ins) = true) : ∃ len, decode cc pc = .ok (ins, len) := by
  unfold z_okb at h
  dsimp only at h
  split at h
  · rename_i i len e
    simp only [Bool.and_eq_true, decide_eq_true_eq] at h
    obtain ⟨rfl, -⟩ := h
    exact ⟨len, e⟩
  · cases h
theorem z_cst_n {n : Nat} {v : Int32} {tg : Nat} (h : z_cst (.ofNat n) v tg = true) : v = nI tg := by simpa [z_cst] using h
theorem z_cst_m {n : Nat} {v : Int32} {tg : Nat} (h : z_cst (.negSucc n) v tg = true) : v = mI tg := by simpa [z_cst] using h
/-- what a table of fields must say -/
def z_fok (own : String) (q : Nat × Nat × Nat × Nat × Bool) : Prop := ∃ (C : String) (T : u_T) (N : Nat) (ty : Nat → FieldType), vwCl[q.2.1]? = some (C, T, N) ∧ q.2.2.1 < N ∧ (∀ w ∈ u_ws C T N, w ∈ zTT) ∧ (∀ k, k < N → parseFieldDescriptor (T k).2.2.1 = some (ty k)) ∧ (∀ a, a < N → ∀ b, b < N → a ≠ b → (T a).2.1 ≠ (T b).2.1) ∧
  ((q.2.2.2.2 = false ∧ Cond.fieldLink own q.1 (T q.2.2.1).1 (T q.2.2.1).2.1 (T q.2.2.1).2.2.1 ∈ zTT) ∨ (q.2.2.2.2 = true ∧ ∃ host, Cond.fieldLinkNest own q.1 (T q.2.2.1).1 (T q.2.2.1).2.1 (T q.2.2.1).2.2.1 host ∈ zNW)) ∧
  (q.2.2.2.1 = 0 → ty q.2.2.1 = .int ∧ (T q.2.2.1).2.2.2 = false) ∧ (q.2.2.2.1 = 1 → ty q.2.2.1 = .boolean ∧ (T q.2.2.1).2.2.2 = false) ∧ (q.2.2.2.1 = 2 → ((∃ n, ty q.2.2.1 = .object n) ∨ ∃ t, ty q.2.2.1 = .array t) ∧ (T q.2.2.1).2.2.2 = true ∧ (T q.2.2.1).1 = own ∧ q.2.2.2.2 = false)
def z_cok (l : Launch) (own : String) (R : Room) (q : zCall) : Prop :=
  (q.2.1 = 6 ∧ Cond.methodLink own q.1 objectInit ∈ zTT ∧ Cond.instanceMethod objectInit ∈ zTT ∧ Cond.code objectInit ⟨#[0xb1]⟩ 1 none ∈ zTT ∧ 1 ≤ R.frames ∧ 20 ≤ R.locals ∧ q.2.2.2.1 = 1) ∨
  (q.2.1 ≠ 6 ∧ ∃ (y : MethodName) (bytes : ByteArray) (maxL n : Nat) (ret : Option FieldType) (rm : Room), z_CS l y bytes maxL ret rm q.2.2.2.2.2.2 ∧ rm.cells = q.2.2.2.2.1 ∧ rm.slots = q.2.2.2.2.2.1 ∧ (rm.frames + 1 ≤ R.frames ∧ 8 + (maxL + 11) + rm.locals ≤ R.locals) ∧
    Cond.code y bytes maxL ret ∈ zTT ∧ Cond.initialized y.cls ∈ zTT ∧ (y.cls ≠ "java/lang/invoke/MethodHandle" ∧ y.cls ≠ "java/lang/invoke/VarHandle" ∧ (parseMethodDescriptor y.desc).map (fun d => d.parameters.length) = some n) ∧
    ((q.2.1 = 0 ∧ q.2.2.2.1 = n ∧ Cond.methodLink own q.1 y ∈ zTT ∧ Cond.static y ∈ zTT) ∨
     (q.2.1 = 2 ∧ q.2.2.2.1 = n ∧ (∃ host, Cond.methodLinkNest own q.1 y host ∈ zNW) ∧ Cond.static y ∈ zTT) ∨
     (q.2.1 = 1 ∧ q.2.2.2.1 = n + 1 ∧ y.name = "<init>" ∧ ret = none ∧ Cond.methodLink own q.1 y ∈ zTT ∧ Cond.instanceMethod y ∈ zTT) ∨
     (q.2.1 = 3 ∧ q.2.2.2.1 = n + 1 ∧ y.name = "<init>" ∧ ret = none ∧ (∃ host, Cond.methodLinkNest own q.1 y host ∈ zNW) ∧ Cond.instanceMethod y ∈ zTT) ∨
     (q.2.1 = 4 ∧ q.2.2.2.1 = n + 1 ∧ (∃ v, vwCl[q.2.2.1]? = some v ∧ v.1 = y.cls) ∧ Cond.methodLink own q.1 y ∈ zTT ∧ Cond.instanceMethod y ∈ zTT ∧ Cond.selects y.cls y y ∈ zTT) ∨
     (q.2.1 = 5 ∧ q.2.2.2.1 = n + 1 ∧ (∃ v, vwCl[q.2.2.1]? = some v ∧ v.1 = y.cls) ∧ (∃ host, Cond.methodLinkNest own q.1 y host ∈ zNW) ∧ Cond.instanceMethod y ∈ zTT ∧ Cond.selects y.cls y y ∈ zTT)))
def z_nok (own : String) (q : Nat × Nat × List (Option (Option Nat))) : Prop := ∃ (C : String) (T : u_T) (N : Nat) (ty : Nat → FieldType), vwCl[q.2.1]? = some (C, T, N) ∧ (∀ w ∈ u_ws C T N, w ∈ zTT) ∧ (∀ k, k < N → parseFieldDescriptor (T k).2.2.1 = some (ty k)) ∧ Cond.classLink own q.1 C ∈ zTT ∧ Cond.instantiable C N ∈ zTT ∧ Cond.initialized C ∈ zTT ∧ q.2.2.length = N ∧
  ∀ k, k < N → (q.2.2[k]? = some none ∧ (ty k = .int ∨ ty k = .boolean)) ∨ (q.2.2[k]? = some (some none) ∧ ((∃ n, ty k = .object n) ∨ ∃ t, ty k = .array t))
def z_sokb (cc : ByteArray) (q : Nat × Int × Nat × List Nat) : Bool := match decode cc q.1 with
  | .ok (.tableswitch d lo hi offs, _) => decide (lo = q.2.1) && (decide (hi + 1 = lo + (q.2.2.2.length : Int)) && (decide ((q.1 : Int) + d = (q.2.2.1 : Int)) && decide (offs.toList.map (fun o => (q.1 : Int) + o) = q.2.2.2.map Int.ofNat)))
  | _ => false
def z_OK (l : Launch) (own : String) (cc : ByteArray) (R : Room) (M : zM) : Prop := (∀ e ∈ M.1, z_okb cc e = true) ∧ (∀ q ∈ M.2.1, z_fok own q) ∧ (∀ q ∈ M.2.2.1, z_cok l own R q) ∧ (∀ q ∈ M.2.2.2.1.1, Cond.constant own q.1 q.2 ∈ zTT) ∧ (∀ q ∈ M.2.2.2.1.2.1, Cond.constantLong own q.1 q.2 ∈ zTT) ∧ (∀ q ∈ M.2.2.2.1.2.2, z_nok own q) ∧ (∀ q ∈ M.2.2.2.2.1, z_sokb cc q = true) ∧ M.2.2.2.2.2.2.2.2.2.1 = R.cells ∧ M.2.2.2.2.2.2.2.2.2.2 = R.slots
/-! what the forms of the step give -/
theorem z_i1_ok {st : List Value} {k : Int32 → List Value → Prop} (h : z_i1 st k) : ∃ a r, st = .int a :: r ∧ k a r := by
  unfold z_i1 at h
  split at h
  · exact ⟨_, _, rfl, h⟩
  · exact h.elim
theorem z_l1_ok {st : List Value} {k : Int64 → List Value → Prop} (h : z_l1 st k) : ∃ a r, st = .long a :: r ∧ k a r := by
  unfold z_l1 at h
  split at h
  · exact ⟨_, _, rfl, h⟩
  · exact h.elim
theorem z_i2_ok {st : List Value} {k : Int32 → Int32 → List Value → Prop} (h : z_i2 st k) : ∃ a y r, st = .int y :: .int a :: r ∧ k a y r := by
  unfold z_i2 at h
  split at h
  · exact ⟨_, _, _, rfl, h⟩
  · exact h.elim
theorem z_l2_ok {st : List Value} {k : Int64 → Int64 → List Value → Prop} (h : z_l2 st k) : ∃ a y r, st = .long y :: .long a :: r ∧ k a y r := by
  unfold z_l2 at h
  split at h
  · exact ⟨_, _, _, rfl, h⟩
  · exact h.elim
theorem z_li_ok {st : List Value} {k : Int64 → Int32 → List Value → Prop} (h : z_li st k) : ∃ a y r, st = .int y :: .long a :: r ∧ k a y r := by
  unfold z_li at h
  split at h
  · exact ⟨_, _, _, rfl, h⟩
  · exact h.elim
theorem z_ldi_ok {al : zAL} {i : Nat} {k : Int32 → Prop} (h : z_ldi al i k) : ∃ a, z_nth al i = some (some (.int a)) ∧ k a := by
  unfold z_ldi at h
  split at h
  · rename_i e; exact ⟨_, e, h⟩
  · exact h.elim
theorem z_ldl_ok {al : zAL} {i : Nat} {k : Int64 → Prop} (h : z_ldl al i k) : ∃ a, z_nth al i = some (some (.long a)) ∧ k a := by
  unfold z_ldl at h
  split at h
  · rename_i e; exact ⟨_, e, h⟩
  · exact h.elim
theorem z_lda_ok {b : Nat} {ad : Nat → Nat} {al : zAL} {i : Nat} {k : Value → Prop} (h : z_lda al i k) : ∃ v q, z_nth al i = some (some v) ∧ z_cv b ad v = .ref q ∧ k v := by
  unfold z_lda at h
  split at h
  · rename_i e; exact ⟨_, _, e, rfl, h⟩
  · rename_i e; exact ⟨_, _, e, rfl, h⟩
  · exact h.elim
theorem z_st1_ok {al : zAL} {i : Nat} {v : Value} {k : zAL → Prop} (h : z_st1 al i v k) : i < al.length ∧ k (z_set (z_kill al i) i (some v)) := by
  unfold z_st1 at h
  split at h
  · rename_i e
    rw [z_killk_eq, z_setk_eq] at h
    rw [z_nth_eq] at e
    exact ⟨(List.getElem?_eq_some_iff.mp e).1, h⟩
  · exact h.elim
theorem z_st2_ok {al : zAL} {i : Nat} {v : Value} {k : zAL → Prop} (h : z_st2 al i v k) : i + 1 < al.length ∧ k (z_set (z_set (z_kill al i) i (some v)) (i + 1) none) := by
  unfold z_st2 at h
  split at h
  · rename_i e
    rw [z_killk_eq, z_setk_eq, z_setk_eq] at h
    rw [z_nth_eq] at e
    exact ⟨(List.getElem?_eq_some_iff.mp e).1, h⟩
  · exact h.elim
theorem z_sti_ok {al : zAL} {i : Nat} {st : List Value} {k : zAL → List Value → Prop} (h : z_sti al i st k) : ∃ a r, st = .int a :: r ∧ i < al.length ∧ k (z_set (z_kill al i) i (some (.int a))) r := by
  unfold z_sti at h
  split at h
  · exact ⟨_, _, rfl, z_st1_ok h⟩
  · exact h.elim
theorem z_stl_ok {al : zAL} {i : Nat} {st : List Value} {k : zAL → List Value → Prop} (h : z_stl al i st k) : ∃ a r, st = .long a :: r ∧ i + 1 < al.length ∧ k (z_set (z_set (z_kill al i) i (some (.long a))) (i + 1) none) r := by
  unfold z_stl at h
  split at h
  · exact ⟨_, _, rfl, z_st2_ok h⟩
  · exact h.elim
theorem z_sta_ok {al : zAL} {i : Nat} {st : List Value} {k : zAL → List Value → Prop} (h : z_sta al i st k) : ∃ a r, st = .ref a :: r ∧ i < al.length ∧ k (z_set (z_kill al i) i (some (.ref a))) r := by
  unfold z_sta at h
  split at h
  · exact ⟨_, _, rfl, z_st1_ok h⟩
  · exact h.elim
theorem z_one_ok {v : Value} {k : Prop} (h : z_one v k) : v.category = 1 ∧ k := by
  unfold z_one at h
  split at h <;> first | exact ⟨rfl, h⟩ | exact h.elim
theorem z_fld_ok {M : zM} {i : Nat} {w : zW} {o : Nat} {k : Nat → Nat → List (Option (Option Nat)) → Nat → Option (Option Nat) → Prop} (h : z_fld M i w o k) : ∃ ci j tc nest fs f, (i, ci, j, tc, nest) ∈ M.2.1 ∧ w.1[o]? = some (.inl (ci, fs)) ∧ fs[j]? = some f ∧ k tc ci fs j f := by
  unfold z_fld at h
  split at h
  · rename_i ci j tc nest e1
    split at h
    · rename_i ci' fs e2
      split at h
      · rename_i e3
        split at h
        · rename_i f e4
          have := Nat.eq_of_beq_eq_true e3
          subst this
          exact ⟨_, j, tc, nest, fs, f, z_look_mem e1, by rw [← z_nth_eq]; exact e2, by rw [← z_nth_eq]; exact e4, h⟩
        · exact h.elim
      · exact h.elim
    · exact h.elim
  · exact h.elim
theorem z_arr_ok {w : zW} {o : Nat} {k : Nat → Nat → Prop} (h : z_arr w o k) : ∃ t n, w.1[o]? = some (.inr (t, n)) ∧ k t n := by
  unfold z_arr at h
  split at h
  · rename_i t n e; exact ⟨t, n, by rw [← z_nth_eq]; exact e, h⟩
  · exact h.elim
theorem z_gset_ok : ∀ {G : List zSh} {o j r q : Nat} {k : List zSh → Prop}, z_gset G o j r q k → ∃ ci fs, G[o]? = some (.inl (ci, fs)) ∧ k (G.set o (.inl (ci, fs.set j (some (some r)))))
  | .inl (ci, fs) :: l, 0, j, r, q, k, h => ⟨ci, fs, by simp, by simpa [z_gset] using h⟩
  | .inr y :: l, 0, j, r, q, k, h => by simp [z_gset] at h
  | a :: l, n + 1, j, r, q, k, h => by
    have h' : z_gset l n j r q (fun l' => k (a :: l')) := by
      cases a with
      | inl y => simpa [z_gset] using h
      | inr y => simpa [z_gset] using h
    obtain ⟨ci, fs, h1, h2⟩ := z_gset_ok h'
    exact ⟨ci, fs, by simpa using h1, by simpa using h2⟩
  | [], o, j, r, q, k, h => by cases o <;> simp [z_gset] at h
theorem z_psh_ok : ∀ {G : List zSh} {sh : zSh} {n : Nat} {k : List zSh → Nat → Prop}, z_psh G sh n k → k (G ++ [sh]) (n + G.length)
  | [], sh, n, k, h => h
  | a :: l, sh, n, k, h => by
    have := z_psh_ok (G := l) (n := n + 1) (k := fun l' m => k (a :: l') m) h
    rw [List.length_cons, show n + (l.length + 1) = n + 1 + l.length by omega]
    exact this
theorem z_pop_ok : ∀ {n : Nat} {st acc : List Value} {k : List Value → List Value → Prop}, z_pop n st acc k → ∃ av r, st = av.reverse ++ r ∧ av.length = n ∧ k (av ++ acc) r
  | 0, st, acc, k, h => ⟨[], st, rfl, rfl, h⟩
  | n + 1, v :: st, acc, k, h => by
    obtain ⟨av, r, h1, h2, h3⟩ := z_pop_ok (n := n) (st := st) (acc := v :: acc) h
    refine ⟨av ++ [v], r, by simp [h1], by simp [h2], by simpa using h3⟩
  | _ + 1, [], _, _, h => h.elim
theorem z_cats_eq (b : Nat) (ad : Nat → Nat) : ∀ (st : List Value), ((st.map (z_cv b ad)).map fun v => v.category).sum = z_cats st
  | [] => rfl
  | v :: r => by
    rw [List.map_cons, List.map_cons, List.sum_cons, z_cats_eq b ad r, z_cv_cat]
    rfl
theorem z_cv_agree {b n : Nat} {ad ad' : Nat → Nat} (h : ∀ k, k < n → ad' k = ad k) {v : Value} (hv : z_rlt n v = true) : z_cv b ad' v = z_cv b ad v := by
  cases v <;> first | rfl | skip
  rename_i a
  show Value.ref (ad' a) = Value.ref (ad a)
  rw [h a (by simpa [z_rlt, Nat.blt_eq] using hv)]
theorem z_cvs_agree {b n : Nat} {ad ad' : Nat → Nat} (h : ∀ k, k < n → ad' k = ad k) {st : List Value} (hv : z_wfs n st = true) : st.map (z_cv b ad') = st.map (z_cv b ad) :=
  List.map_congr_left fun v hm => z_cv_agree h (List.all_eq_true.mp hv v hm)
theorem z_LH.agree {b n : Nat} {ad ad' : Nat → Nat} (h : ∀ k, k < n → ad' k = ad k) {ls : Array Slot} {nL : Nat} {al : zAL} (hl : z_LH b ad ls nL al) (hv : z_wfl n al = true) : z_LH b ad' ls nL al := by
  refine ⟨hl.1, hl.2.1, hl.2.2.1, fun i v q => ?_⟩
  rw [z_cv_agree h (by have := List.all_eq_true.mp hv (some v) (List.mem_of_getElem? q); simpa using this)]
  exact hl.2.2.2 i v q
theorem z_fv_agree {n : Nat} {ad ad' : Nat → Nat} (h : ∀ k, k < n → ad' k = ad k) {wi : Nat → Int32} {fs : List (Option (Option Nat))} (hf : fs.all (fun f => match f with
    | some (some r) => Nat.blt r n
    | _ => true) = true) : fs.mapIdx (fun k f => z_fv ad' wi k f) = fs.mapIdx (fun k f => z_fv ad wi k f) := by
  apply List.ext_getElem?
  intro j
  rw [List.getElem?_mapIdx, List.getElem?_mapIdx]
  cases hj : fs[j]? with
  | none => rfl
  | some f =>
    have h1 := List.all_eq_true.mp hf f (List.mem_of_getElem? hj)
    cases f with
    | none => rfl
    | some r => cases r with
      | none => rfl
      | some r =>
        show some (Value.ref (ad' r)) = some (Value.ref (ad r))
        rw [h r (by simpa [Nat.blt_eq] using h1)]
theorem z_ws_push {x : zX} {ad ad' : Nat → Nat} {G : List zSh} {wi wi' : Nat → Nat → Int32} {wl wl' : Nat → Nat → Int64} {q : Nat} {sh : zSh} {E : va_E} (hg : z_wfg G.length G = true) (ha : ∀ k, k < G.length → ad' k = ad k) (hq : ad' G.length = q) (hi : ∀ o, o < G.length → wi' o = wi o) (hl : ∀ o, o < G.length → wl' o = wl o) (he : z_ce x ad' (wi' G.length) (wl' G.length) sh = E) : z_ws x ad (G, wi, wl) ++ [(q, E)] = z_ws x ad' (G ++ [sh], wi', wl') := by
  apply List.ext_getElem?
  intro k
  have hlen : (z_ws x ad (G, wi, wl)).length = G.length := by simp [z_ws]
  by_cases hk : k < G.length
  · rw [List.getElem?_append_left (by rw [hlen]; exact hk)]
    have hs : G[k]? = some G[k] := List.getElem?_eq_getElem hk
    rw [z_ws_at (w := (G, wi, wl)) hs, z_ws_at (w := (G ++ [sh], wi', wl')) (sh := G[k]) (by show (G ++ [sh])[k]? = _; rw [List.getElem?_append_left hk]; exact hs)]
    dsimp only
    rw [ha k hk, hi k hk, hl k hk]
    have h1 := List.all_eq_true.mp hg G[k] (List.getElem_mem hk)
    congr 2
    revert h1
    cases G[k] with
    | inl y =>
      intro h1
      show Sum.inr (y.1, _) = Sum.inr (y.1, _)
      rw [z_fv_agree ha h1]
    | inr y =>
      intro _
      obtain ⟨t, n⟩ := y
      match t with
      | 0 => rfl
      | 1 => rfl
      | 2 => rfl
      | _ + 3 => rfl
  · by_cases hk2 : k = G.length
    · subst hk2
      rw [List.getElem?_append_right (by rw [hlen]; exact Nat.le_refl _), hlen, Nat.sub_self, z_ws_at (w := (G ++ [sh], wi', wl')) (sh := sh) (by show (G ++ [sh])[G.length]? = _; simp)]
      dsimp only
      rw [hq, he]
      rfl
    · rw [List.getElem?_eq_none (by simp [hlen]; omega), List.getElem?_eq_none (by simp [z_ws]; omega)]
theorem z_nIz {a : Int32} : a = nI 0 ↔ a = 0 := by rw [nI_0]
theorem z_ge {a y : Int32} (h : y ≤ a) : ¬ a < y := Int32.not_lt.mpr h
theorem z_nge {a y : Int32} (h : ¬ y ≤ a) : a < y := Int32.not_le.mp h
end
section
theorem z_sw_at {pc : Nat} {a : Int32} {st : List Value} {J : Nat → Prop} : ∀ (ts : List Nat) (lo : Int) (j : Nat), z_sw pc a st J lo ts → ∀ (hj : j < ts.length), a = Int32.ofInt (lo + (j : Int)) → J (ts[j]'hj)
  | t :: ts, lo, 0, h, _, e => h.1 (by rw [e, Int.natCast_zero, Int.add_zero])
  | t :: ts, lo, j + 1, h, hj, e => z_sw_at ts (lo + 1) j h.2 (by simpa using hj) (by rw [e]; congr 1; omega)
theorem zTT_int : Cond.arrayClass .int ∈ zTT := List.mem_filter.mpr ⟨by decide +kernel, rfl⟩
theorem zTT_long : Cond.arrayClass .long ∈ zTT := List.mem_filter.mpr ⟨by decide +kernel, rfl⟩
theorem zTT_byte : Cond.arrayClass .byte ∈ zTT := List.mem_filter.mpr ⟨by decide +kernel, rfl⟩
theorem zTT_boolean : Cond.arrayClass .boolean ∈ zTT := List.mem_filter.mpr ⟨by decide +kernel, rfl⟩
/-! the step is right -/
section ZS
variable {p : Program} {l : Launch} {e : Env} {R : Room} {s : State} {m : MethodId} {args : Array Value} {below : List Frame} {meth : Method} {c : Code} {Q : State → Prop} {cc : ByteArray} {own : String} {Ts : List Cond} {x : zX} {b : Nat} {A0 : Nat → Prop} {ad0 : Nat → Nat} {n0 nL : Nat} {M : zM} {post : Option Value → zW → Prop}
/-- the machine, now at pc with these locals, this stack, this world, comes to a state with Q -/
def z_JJ (p : Program) (l : Launch) (e : Env) (R : Room) (s : State) (m : MethodId) (args : Array Value) (below : List Frame) (meth : Method) (c : Code) (Q : State → Prop) (x : zX) (b : Nat) (A0 : Nat → Prop) (ad0 : Nat → Nat) (n0 nL : Nat) : zJ := fun pc al st w c1 c2 =>
  c1 ≤ R.cells → c2 ≤ R.slots → n0 ≤ w.1.length → ∀ (ad : Nat → Nat) (H : Heap) (locs : List Loc) (ls : Array Slot), z_LH b ad ls nL al → va_P x.1 vwCl (z_ws x ad w) H → va_D A0 (z_ws x ad w) → va_S A0 s.heap H locs → z_AG ad0 ad n0 R.cells → W p l e R s m args below meth c H locs c1 c2 Q (F0 m pc ls (st.map (z_cv b ad)))
/-- what holds of the machine from a method's entry on -/
def z_En (p : Program) (s : State) (m : MethodId) (args : Array Value) (meth : Method) (c : Code) (cc : ByteArray) (nL : Nat) (own : String) (Ts : List Cond) (x : zX) (b : Nat) (A0 : Nat → Prop) (M : zM) : Prop :=
  CallFix p m c cc nL s args Ts own ∧ (∀ w ∈ zTT, w ∈ Ts) ∧ z_KK x s ∧ (∀ q : Nat, s.heap.size ≤ q → A0 q) ∧ (M.2.2.2.2.2.2.2.1 = true → meth.name = "<init>") ∧
  (M.2.2.2.2.2.2.2.2.1.1 = true → va_X b M.2.2.2.2.2.2.2.2.1.2.1 M.2.2.2.2.2.2.2.2.1.2.2 s s.heap ∧ b < s.heap.size ∧ ¬ A0 b)
/-- where a method ends as its post says, the machine comes to Q -/
def z_Rt (p : Program) (l : Launch) (e : Env) (R : Room) (s : State) (m : MethodId) (args : Array Value) (below : List Frame) (meth : Method) (c : Code) (Q : State → Prop) (x : zX) (b : Nat) (A0 : Nat → Prop) (ad0 : Nat → Nat) (n0 : Nat) (cc : ByteArray) (M : zM) (post : Option Value → zW → Prop) : Prop :=
  ∀ (r : Option Value) (w : zW), post r w → ∀ (ad : Nat → Nat) (H : Heap) (locs : List Loc) (ls : Array Slot) (pc c1 c2 : Nat), c1 ≤ R.cells → c2 ≤ R.slots → n0 ≤ w.1.length → va_P x.1 vwCl (z_ws x ad w) H → va_D A0 (z_ws x ad w) → va_S A0 s.heap H locs → z_AG ad0 ad n0 R.cells →
    ((∃ a, r = some (.int a) ∧ decode cc pc = .ok (.ireturn, 1) ∧ z_ret M.2.2.2.2.2.2.1 a) ∨ (∃ a, r = some (.long a) ∧ decode cc pc = .ok (.lreturn, 1) ∧ M.2.2.2.2.2.2.1 = 3) ∨ (r = none ∧ decode cc pc = .ok (.return_, 1) ∧ M.2.2.2.2.2.2.1 = 0)) →
    W p l e R s m args below meth c H locs c1 c2 Q (F0 m pc ls (r.toList.map (z_cv b ad)))
set_option maxHeartbeats 4000000 in
set_option maxRecDepth 20000 in
theorem z_step_ok (E : z_En p s m args meth c cc nL own Ts x b A0 M) (O : z_OK l own cc R M) (hR : z_Rt p l e R s m args below meth c Q x b A0 ad0 n0 cc M post) (hcall : ∀ (J : zJ), (∀ pc al st w c1 c2, J pc al st w c1 c2 → z_JJ p l e R s m args below meth c Q x b A0 ad0 n0 nL pc al st w c1 c2) → ∀ (ik i pc : Nat) (al : zAL) (st : List Value) (w : zW) (c1 c2 : Nat), z_call M J ik i (pc + 3) al st w c1 c2 → ((ik = 0 ∧ decode cc pc = .ok (.invokestatic i, 3)) ∨ (ik = 1 ∧ decode cc pc = .ok (.invokevirtual i, 3)) ∨ (ik = 2 ∧ decode cc pc = .ok (.invokespecial i, 3))) → z_JJ p l e R s m args below meth c Q x b A0 ad0 n0 nL pc al st w c1 c2) {J : zJ} (hJ : ∀ pc al st w c1 c2, J pc al st w c1 c2 → z_JJ p l e R s m args below meth c Q x b A0 ad0 n0 nL pc al st w c1 c2) {pc nx tg : Nat} {ins : Instr} (hok : z_okb cc (pc, nx, tg, ins) = true) {al : zAL} {st : List Value} {w : zW} {c1 c2 : Nat} (h : z_step M post J (pc, nx, tg, ins) al st w c1 c2) : z_JJ p l e R s m args below meth c Q x b A0 ad0 n0 nL pc al st w c1 c2 := by
  intro h1 h2 h3 ad H locs ls hl hP hD hS hG
  obtain ⟨⟨hx, hb, hml, hown, hts⟩, hTT, hK, hA, hI, hX⟩ := id E
  have hlen : al.length ≤ nL := hl.2.2.1
  have go : ∀ {pc' : Nat} {al' : zAL} {st' : List Value} {ls' : Array Slot}, z_LH b ad ls' nL al' → J pc' al' st' w c1 c2 → W p l e R s m args below meth c H locs c1 c2 Q (F0 m pc' ls' (st'.map (z_cv b ad))) := fun hl' q => hJ _ _ _ _ _ _ q h1 h2 h3 ad H locs _ hl' hP hD hS hG
  have gi : ∀ {pc' : Nat} {al' : zAL} {st' : List Value} {ls' : Array Slot} {o i : Nat} {v : Int32} {H1 : Heap} {locs1 : List Loc}, z_LH b ad ls' nL al' → J pc' al' st' (w.1, z_up w.2.1 o i v, w.2.2) c1 c2 → va_P x.1 vwCl (z_ws x ad (w.1, z_up w.2.1 o i v, w.2.2)) H1 → va_D A0 (z_ws x ad (w.1, z_up w.2.1 o i v, w.2.2)) → va_S A0 s.heap H1 locs1 → W p l e R s m args below meth c H1 locs1 c1 c2 Q (F0 m pc' ls' (st'.map (z_cv b ad))) := fun hl' q a1 a2 a3 => hJ _ _ _ _ _ _ q h1 h2 h3 ad _ _ _ hl' a1 a2 a3 hG
  cases ins
  case iload i =>
    obtain ⟨hd, rfl, ht⟩ := z_dec hok rfl
    obtain ⟨a, e1, q⟩ := z_ldi_ok h
    exact lv_iload hx hb hd (hl.at e1) (go hl q)
  case iload_n i =>
    obtain ⟨hd, rfl, ht⟩ := z_dec hok rfl
    obtain ⟨a, e1, q⟩ := z_ldi_ok h
    exact lv_iload_n hx hb hd rfl (hl.at e1) (go hl q)
  case lload i =>
    obtain ⟨hd, rfl, ht⟩ := z_dec hok rfl
    obtain ⟨a, e1, q⟩ := z_ldl_ok h
    exact lv_lload hx hb hd (hl.at e1) (go hl q)
  case lload_n i =>
    obtain ⟨hd, rfl, ht⟩ := z_dec hok rfl
    obtain ⟨a, e1, q⟩ := z_ldl_ok h
    exact lv_lload_n hx hb hd rfl (hl.at e1) (go hl q)
  case aload i =>
    obtain ⟨hd, rfl, ht⟩ := z_dec hok rfl
    have h' : z_lda al i (fun v => J (pc + 2) al (v :: st) w c1 c2) := h
    obtain ⟨v, a, e1, e2, q⟩ := z_lda_ok (b := b) (ad := ad) h'
    have := go hl q
    rw [List.map_cons, e2] at this
    exact lv_aload hx hb hd (by rw [hl.at e1, e2]) this
  case aload_n i =>
    obtain ⟨hd, rfl, ht⟩ := z_dec hok rfl
    have h' : z_lda al i.val (fun v => J (pc + 1) al (v :: st) w c1 c2) := h
    obtain ⟨v, a, e1, e2, q⟩ := z_lda_ok (b := b) (ad := ad) h'
    have := go hl q
    rw [List.map_cons, e2] at this
    exact lv_aload_n hx hb hd rfl (by rw [hl.at e1, e2]) this
  case istore i =>
    obtain ⟨hd, rfl, ht⟩ := z_dec hok rfl
    obtain ⟨a, r, rfl, hi, q⟩ := z_sti_ok h
    exact lv_istore hx hb hd hl.has (by omega) rfl (fun ls1 hl1 => go (hl.st1 (v := .int a) hl1) q)
  case istore_n i =>
    obtain ⟨hd, rfl, ht⟩ := z_dec hok rfl
    obtain ⟨a, r, rfl, hi, q⟩ := z_sti_ok h
    exact lv_istore_n hx hb hd rfl hl.has (by omega) rfl (fun ls1 hl1 => go (hl.st1 (v := .int a) hl1) q)
  case lstore i =>
    obtain ⟨hd, rfl, ht⟩ := z_dec hok rfl
    obtain ⟨a, r, rfl, hi, q⟩ := z_stl_ok h
    exact lv_lstore hx hb hd hl.has (by omega) rfl (fun ls1 hl1 => go (hl.st2 (v := .long a) hl1) q)
  case lstore_n i =>
    obtain ⟨hd, rfl, ht⟩ := z_dec hok rfl
    obtain ⟨a, r, rfl, hi, q⟩ := z_stl_ok h
    exact lv_lstore_n hx hb hd rfl hl.has (by omega) rfl (fun ls1 hl1 => go (hl.st2 (v := .long a) hl1) q)
  case astore i =>
    obtain ⟨hd, rfl, ht⟩ := z_dec hok rfl
    obtain ⟨a, r, rfl, hi, q⟩ := z_sta_ok h
    exact lv_astore hx hb hd hl.has (by omega) rfl (fun ls1 hl1 => go (hl.st1 (v := .ref a) hl1) q)
  case astore_n i =>
    obtain ⟨hd, rfl, ht⟩ := z_dec hok rfl
    obtain ⟨a, r, rfl, hi, q⟩ := z_sta_ok h
    exact lv_astore_n hx hb hd rfl hl.has (by omega) rfl (fun ls1 hl1 => go (hl.st1 (v := .ref a) hl1) q)
  case iinc i n =>
    obtain ⟨hd, rfl, ht⟩ := z_dec hok rfl
    obtain ⟨a, e1, q⟩ := z_ldi_ok h
    have hm := (z_ll_mem (b := b) (ad := ad) al 0 i (.int a)).mpr ⟨i, .int a, by omega, by rw [← z_nth_eq]; exact e1, rfl⟩
    obtain ⟨k, hk⟩ := List.getElem?_of_mem hm
    cases n with
    | ofNat n =>
      obtain ⟨hi, q⟩ := z_st1_ok q
      have hc : Int32.ofInt (Int.ofNat n) = nI tg := z_cst_n (n := n) ht
      exact lv_iinc hx hb hd hl.has hk (by rw [hc]) (by omega) rfl (fun ls1 hl1 => go (hl.st1 (v := .int (a + nI tg)) hl1) q)
    | negSucc n =>
      obtain ⟨hi, q⟩ := z_st1_ok q
      have hc : Int32.ofInt (Int.negSucc n) = mI tg := z_cst_m (n := n) ht
      exact lv_iinc hx hb hd hl.has hk (by rw [hc, mI, ← Int32.sub_eq_add_neg]) (by omega) rfl (fun ls1 hl1 => go (hl.st1 (v := .int (a - nI tg)) hl1) q)
  case iconst n =>
    obtain ⟨hd, rfl, ht⟩ := z_dec hok rfl
    cases n with
    | ofNat n =>
      have hc : Int32.ofInt (Int.ofNat n) = nI tg := z_cst_n (n := n) ht
      exact lv_iconst hx hb hd hc (go hl h)
    | negSucc n =>
      have hc : Int32.ofInt (Int.negSucc n) = mI tg := z_cst_m (n := n) ht
      exact lv_iconst hx hb hd hc (go hl h)
  case bipush n =>
    obtain ⟨hd, rfl, ht⟩ := z_dec hok rfl
    cases n with
    | ofNat n =>
      have hc : (Int8.ofInt (Int.ofNat n)).toInt32 = nI tg := z_cst_n (n := n) ht
      exact lv_bipush hx hb hd hc (go hl h)
    | negSucc n =>
      have hc : (Int8.ofInt (Int.negSucc n)).toInt32 = mI tg := z_cst_m (n := n) ht
      exact lv_bipush hx hb hd hc (go hl h)
  case sipush n =>
    obtain ⟨hd, rfl, ht⟩ := z_dec hok rfl
    cases n with
    | ofNat n =>
      have hc : (Int16.ofInt (Int.ofNat n)).toInt32 = nI tg := z_cst_n (n := n) ht
      exact lv_sipush hx hb hd hc (go hl h)
    | negSucc n =>
      have hc : (Int16.ofInt (Int.negSucc n)).toInt32 = mI tg := z_cst_m (n := n) ht
      exact lv_sipush hx hb hd hc (go hl h)
  case lconst k =>
    obtain ⟨hd, rfl, ht⟩ := z_dec hok rfl
    exact lv_lconst hx hb hd (by simpa [z_tb] using ht) (go hl h)
  case ldc_w i =>
    obtain ⟨hd, rfl, ht⟩ := z_dec hok rfl
    have h' : match z_look M.2.2.2.1.1 i with
      | some a => J (pc + 3) al (.int a :: st) w c1 c2
      | none => False := h
    split at h'
    · rename_i a e1
      exact lv_ldcw hx hb hown (hts _ (hTT _ (O.2.2.2.1 _ (z_look_mem e1)))) hd (go hl h')
    · exact h'.elim
  case ldc2_w i =>
    obtain ⟨hd, rfl, ht⟩ := z_dec hok rfl
    have h' : match z_look M.2.2.2.1.2.1 i with
      | some a => J (pc + 3) al (.long a :: st) w c1 c2
      | none => False := h
    split at h'
    · rename_i a e1
      exact lv_ldc2 hx hb hown (hts _ (hTT _ (O.2.2.2.2.1 _ (z_look_mem e1)))) hd (go hl h')
    · exact h'.elim
  case iadd =>
    obtain ⟨hd, rfl, ht⟩ := z_dec hok rfl
    obtain ⟨a, y, r, rfl, q⟩ := z_i2_ok h
    exact lv_iadd hx hb hd (go hl q)
  case isub =>
    obtain ⟨hd, rfl, ht⟩ := z_dec hok rfl
    obtain ⟨a, y, r, rfl, q⟩ := z_i2_ok h
    exact lv_isub hx hb hd (go hl q)
  case imul =>
    obtain ⟨hd, rfl, ht⟩ := z_dec hok rfl
    obtain ⟨a, y, r, rfl, q⟩ := z_i2_ok h
    exact lv_imul hx hb hd (go hl q)
  case iand =>
    obtain ⟨hd, rfl, ht⟩ := z_dec hok rfl
    obtain ⟨a, y, r, rfl, q⟩ := z_i2_ok h
    exact lv_iand hx hb hd (go hl q)
  case ior =>
    obtain ⟨hd, rfl, ht⟩ := z_dec hok rfl
    obtain ⟨a, y, r, rfl, q⟩ := z_i2_ok h
    exact lv_ior hx hb hd (go hl q)
  case ixor =>
    obtain ⟨hd, rfl, ht⟩ := z_dec hok rfl
    obtain ⟨a, y, r, rfl, q⟩ := z_i2_ok h
    exact lv_ixor hx hb hd (go hl q)
  case ishl =>
    obtain ⟨hd, rfl, ht⟩ := z_dec hok rfl
    obtain ⟨a, y, r, rfl, q⟩ := z_i2_ok h
    exact lv_ishl hx hb hd (go hl q)
  case ishr =>
    obtain ⟨hd, rfl, ht⟩ := z_dec hok rfl
    obtain ⟨a, y, r, rfl, q⟩ := z_i2_ok h
    exact lv_ishr hx hb hd (go hl q)
  case iushr =>
    obtain ⟨hd, rfl, ht⟩ := z_dec hok rfl
    obtain ⟨a, y, r, rfl, q⟩ := z_i2_ok h
    exact lv_iushr hx hb hd rfl (go hl q)
  case idiv =>
    obtain ⟨hd, rfl, ht⟩ := z_dec hok rfl
    obtain ⟨a, y, r, rfl, hne, q⟩ := z_i2_ok h
    exact lv_idiv hx hb hd hne (go hl q)
  case irem =>
    obtain ⟨hd, rfl, ht⟩ := z_dec hok rfl
    obtain ⟨a, y, r, rfl, hne, q⟩ := z_i2_ok h
    exact lv_irem hx hb hd hne (go hl q)
  case ineg =>
    obtain ⟨hd, rfl, ht⟩ := z_dec hok rfl
    obtain ⟨a, r, rfl, q⟩ := z_i1_ok h
    exact lv_ineg hx hb hd (go hl q)
  case i2l =>
    obtain ⟨hd, rfl, ht⟩ := z_dec hok rfl
    obtain ⟨a, r, rfl, q⟩ := z_i1_ok h
    exact lv_i2l hx hb hd rfl (go hl q)
  case i2b =>
    obtain ⟨hd, rfl, ht⟩ := z_dec hok rfl
    obtain ⟨a, r, rfl, q⟩ := z_i1_ok h
    exact lv_i2b hx hb hd rfl (go hl q)
  case i2c =>
    obtain ⟨hd, rfl, ht⟩ := z_dec hok rfl
    obtain ⟨a, r, rfl, q⟩ := z_i1_ok h
    exact lv_i2c hx hb hd rfl (go hl q)
  case l2i =>
    obtain ⟨hd, rfl, ht⟩ := z_dec hok rfl
    obtain ⟨a, r, rfl, q⟩ := z_l1_ok h
    exact lv_l2i hx hb hd rfl (go hl q)
  case ladd =>
    obtain ⟨hd, rfl, ht⟩ := z_dec hok rfl
    obtain ⟨a, y, r, rfl, q⟩ := z_l2_ok h
    exact lv_ladd hx hb hd (go hl q)
  case lsub =>
    obtain ⟨hd, rfl, ht⟩ := z_dec hok rfl
    obtain ⟨a, y, r, rfl, q⟩ := z_l2_ok h
    exact lv_lsub hx hb hd (go hl q)
  case lmul =>
    obtain ⟨hd, rfl, ht⟩ := z_dec hok rfl
    obtain ⟨a, y, r, rfl, q⟩ := z_l2_ok h
    exact lv_lmul hx hb hd (go hl q)
  case land =>
    obtain ⟨hd, rfl, ht⟩ := z_dec hok rfl
    obtain ⟨a, y, r, rfl, q⟩ := z_l2_ok h
    exact lv_land hx hb hd (go hl q)
  case lor =>
    obtain ⟨hd, rfl, ht⟩ := z_dec hok rfl
    obtain ⟨a, y, r, rfl, q⟩ := z_l2_ok h
    exact lv_lor hx hb hd (go hl q)
  case lxor =>
    obtain ⟨hd, rfl, ht⟩ := z_dec hok rfl
    obtain ⟨a, y, r, rfl, q⟩ := z_l2_ok h
    exact lv_lxor hx hb hd (go hl q)
  case lrem =>
    obtain ⟨hd, rfl, ht⟩ := z_dec hok rfl
    obtain ⟨a, y, r, rfl, hne, q⟩ := z_l2_ok h
    exact lv_lrem hx hb hd hne (go hl q)
  case lcmp =>
    obtain ⟨hd, rfl, ht⟩ := z_dec hok rfl
    obtain ⟨a, y, r, rfl, q⟩ := z_l2_ok h
    exact W.lcmp hx hb hd (go hl q)
  case lshl =>
    obtain ⟨hd, rfl, ht⟩ := z_dec hok rfl
    obtain ⟨a, y, r, rfl, q⟩ := z_li_ok h
    exact lv_lshl hx hb hd rfl (go hl q)
  case lshr =>
    obtain ⟨hd, rfl, ht⟩ := z_dec hok rfl
    obtain ⟨a, y, r, rfl, q⟩ := z_li_ok h
    exact lv_lshr hx hb hd rfl (go hl q)
  case lushr =>
    obtain ⟨hd, rfl, ht⟩ := z_dec hok rfl
    obtain ⟨a, y, r, rfl, q⟩ := z_li_ok h
    exact lv_lushr hx hb hd rfl (go hl q)
  case dup =>
    obtain ⟨hd, rfl, ht⟩ := z_dec hok rfl
    match st, h with
    | v :: r, h =>
      obtain ⟨hc, q⟩ := z_one_ok h
      exact lv_dup hx hb hd (by rw [z_cv_cat]; exact hc) (go hl q)
    | [], h => exact h.elim
  case pop =>
    obtain ⟨hd, rfl, ht⟩ := z_dec hok rfl
    match st, h with
    | v :: r, h =>
      obtain ⟨hc, q⟩ := z_one_ok h
      exact lv_pop hx hb hd (by rw [z_cv_cat]; exact hc) (go hl q)
    | [], h => exact h.elim
  case dup_x1 =>
    obtain ⟨hd, rfl, ht⟩ := z_dec hok rfl
    match st, h with
    | v :: u :: r, h =>
      obtain ⟨hc, q⟩ := z_one_ok h
      obtain ⟨hc2, q⟩ := z_one_ok q
      exact lv_dup_x1 hx hb hd (by rw [z_cv_cat]; exact hc) (by rw [z_cv_cat]; exact hc2) (go hl q)
    | [], h => exact h.elim
    | [_], h => exact h.elim
  case dup2 =>
    obtain ⟨hd, rfl, ht⟩ := z_dec hok rfl
    match st, h with
    | v :: u :: r, h =>
      obtain ⟨hc, q⟩ := z_one_ok h
      obtain ⟨hc2, q⟩ := z_one_ok q
      exact lv_dup2_11 hx hb hd (by rw [z_cv_cat]; exact hc) (by rw [z_cv_cat]; exact hc2) (go hl q)
    | [], h => exact h.elim
    | [_], h => exact h.elim
  case goto o =>
    obtain ⟨hd, rfl, ht⟩ := z_dec hok rfl
    exact lv_goto hx hb hd (by simpa [z_tb] using ht) (go hl h)
  case ifCond cd o =>
    obtain ⟨hd, rfl, ht⟩ := z_dec hok rfl
    have hto : (pc : Int) + o = (tg : Int) := by simpa [z_tb] using ht
    cases cd
    · obtain ⟨a, r, rfl, q1, q2⟩ := z_i1_ok h
      exact lv_if_eq hx hb hd hto (fun z => go hl (q1 (z_nIz.mpr z))) (fun z => go hl (q2 (fun y => z (z_nIz.mp y))))
    · obtain ⟨a, r, rfl, q1, q2⟩ := z_i1_ok h
      exact lv_if_ne hx hb hd hto (fun z => go hl (q1 (fun y => z (z_nIz.mp y)))) (fun z => go hl (q2 (z_nIz.mpr z)))
    · obtain ⟨a, r, rfl, q1, q2⟩ := z_i1_ok h
      rw [nI_0] at q1 q2
      exact lv_if_lt hx hb hd hto (fun z => go hl (q1 z)) (fun z => go hl (q2 z))
    · obtain ⟨a, r, rfl, q1, q2⟩ := z_i1_ok h
      rw [nI_0] at q1 q2
      exact lv_if_ge hx hb hd hto (fun z => go hl (q1 (z_ge z))) (fun z => go hl (q2 (z_nge z)))
    · obtain ⟨a, r, rfl, q1, q2⟩ := z_i1_ok h
      rw [nI_0] at q1 q2
      exact lv_if_gt hx hb hd hto (fun z => go hl (q1 z)) (fun z => go hl (q2 z))
    · obtain ⟨a, r, rfl, q1, q2⟩ := z_i1_ok h
      rw [nI_0] at q1 q2
      exact lv_if_le hx hb hd hto (fun z => go hl (q1 (z_ge z))) (fun z => go hl (q2 (z_nge z)))
  case if_icmp cd o =>
    obtain ⟨hd, rfl, ht⟩ := z_dec hok rfl
    have hto : (pc : Int) + o = (tg : Int) := by simpa [z_tb] using ht
    cases cd
    · obtain ⟨a, y, r, rfl, q1, q2⟩ := z_i2_ok h
      exact lv_icmp_eq hx hb hd hto (fun z => go hl (q1 z)) (fun z => go hl (q2 z))
    · obtain ⟨a, y, r, rfl, q1, q2⟩ := z_i2_ok h
      exact lv_icmp_ne hx hb hd hto (fun z => go hl (q1 z)) (fun z => go hl (q2 z))
    · obtain ⟨a, y, r, rfl, q1, q2⟩ := z_i2_ok h
      exact lv_icmp_lt hx hb hd hto (fun z => go hl (q1 z)) (fun z => go hl (q2 z))
    · obtain ⟨a, y, r, rfl, q1, q2⟩ := z_i2_ok h
      exact lv_icmp_ge hx hb hd hto (fun z => go hl (q1 (z_ge z))) (fun z => go hl (q2 (z_nge z)))
    · obtain ⟨a, y, r, rfl, q1, q2⟩ := z_i2_ok h
      exact lv_icmp_gt hx hb hd hto (fun z => go hl (q1 z)) (fun z => go hl (q2 z))
    · obtain ⟨a, y, r, rfl, q1, q2⟩ := z_i2_ok h
      exact lv_icmp_le hx hb hd hto (fun z => go hl (q1 (z_ge z))) (fun z => go hl (q2 (z_nge z)))
  case getfield i =>
    obtain ⟨hd, rfl, ht⟩ := z_dec hok rfl
    match st, h with
    | .ref o :: r, h =>
      obtain ⟨ci, j, tc, nest, fs, f, hm, hG1, hf, q⟩ := z_fld_ok h
      obtain ⟨C, T, N, ty, g1, g2, g3, g4, g5, g6, -⟩ := O.2.1 _ hm
      have hin : ∀ w ∈ u_ws C T N, w ∈ Ts := fun w hw => hTT _ (g3 w hw)
      have he := z_ws_at (x := x) (ad := ad) hG1
      have key : ∀ {v : Value}, z_fv ad (w.2.1 o) j f = v → W p l e R s m args below meth c H locs c1 c2 Q (F0 m (pc + 3) ls (v :: r.map (z_cv b ad))) → W p l e R s m args below meth c H locs c1 c2 Q (F0 m pc ls (.ref (ad o) :: r.map (z_cv b ad))) := by
        intro v hv k
        have hfv : (fs.mapIdx (fun k f => z_fv ad (w.2.1 o) k f))[j]? = some v := by rw [List.getElem?_mapIdx, hf]; exact congrArg some hv
        rcases g6 with ⟨-, g6⟩ | ⟨-, host, g6⟩
        · exact va_get hx hb hts hin hown hK.1 hP o he g1 j g2 (hts _ (hTT _ g6)) (fun _ z => z) hfv hd k
        · exact va_getN hx hb hts hin hown hK.1 hP o he g1 j g2 (va_Nw.use rfl (hK.2 _ g6)) (fun _ z => z) hfv hd k
      match f, q with
      | none, q => exact key rfl (go hl q)
      | some (some a), q => exact key rfl (go hl q)
      | some none, q => exact q.elim
    | [], h => exact h.elim
    | .int _ :: _, h => exact h.elim
    | .long _ :: _, h => exact h.elim
    | .float _ :: _, h => exact h.elim
    | .double _ :: _, h => exact h.elim
    | .null :: _, h => exact h.elim
    | .retAddr _ :: _, h => exact h.elim
  case putfield i =>
    obtain ⟨hd, rfl, ht⟩ := z_dec hok rfl
    have hput : ∀ (a : Int32) (o : Nat) (r : List Value), st = .int a :: .ref o :: r → z_fld M i w o (fun tc _ _ j f => match f with
            | none => match tc with
              | 0 => J (pc + 3) al r (w.1, z_up w.2.1 o j a, w.2.2) c1 c2
              | 1 => (a = nI 0 ∨ a = nI 1) ∧ J (pc + 3) al r (w.1, z_up w.2.1 o j a, w.2.2) c1 c2
              | _ => False
            | _ => False) → W p l e R s m args below meth c H locs c1 c2 Q (F0 m pc ls (st.map (z_cv b ad))) := by
      intro a o r hst h
      subst hst
      obtain ⟨ci, j, tc, nest, fs, f, hm, hG1, hf, q⟩ := z_fld_ok h
      obtain ⟨C, T, N, ty, g1, g2, g3, g4, g5, g6, g7, g8, -⟩ := O.2.1 _ hm
      have hin : ∀ w ∈ u_ws C T N, w ∈ Ts := fun w hw => hTT _ (g3 w hw)
      have he := z_ws_at (x := x) (ad := ad) hG1
      match f, q, hf with
      | some _, q, _ => exact q.elim
      | none, q, hf =>
        have hset : (z_ws x ad w).set o (ad o, .inr (ci, (fs.mapIdx (fun k f => z_fv ad (w.2.1 o) k f)).set j (.int a))) = z_ws x ad (w.1, z_up w.2.1 o j a, w.2.2) := z_ws_upi hG1 (by show Sum.inr (ci, _) = Sum.inr (ci, _); rw [z_fv_upd hf])
        have hjl : j < (fs.mapIdx (fun k f => z_fv ad (w.2.1 o) k f)).length := by simpa using (List.getElem?_eq_some_iff.mp hf).1
        have key : ∀ (t : FieldType), ty j = t → (T j).2.2.2 = false → narrow t (.int a) = .int a → fits t (.int a) = true → J (pc + 3) al r (w.1, z_up w.2.1 o j a, w.2.2) c1 c2 → W p l e R s m args below meth c H locs c1 c2 Q (F0 m pc ls (.int a :: .ref (ad o) :: r.map (z_cv b ad))) := by
          intro t ht hfin hn hft q
          rcases g6 with ⟨-, g6⟩ | ⟨-, host, g6⟩
          · exact va_put hx hb hts hin ty g4 g5 hown hK.1 hP hD hS o he g1 j g2 (hts _ (hTT _ g6)) (fun _ z => z) hfin (by rw [g4 j g2, ht]) hn hft hjl hd (fun H1 locs1 a1 a2 a3 => by rw [hset] at a1 a2; exact gi hl q a1 a2 a3)
          · exact va_putN hx hb hts hin ty g4 g5 hown hK.1 hP hD hS o he g1 j g2 (va_Nw.use rfl (hK.2 _ g6)) (fun _ z => z) hfin (by rw [g4 j g2, ht]) hn hft hjl hd (fun H1 locs1 a1 a2 a3 => by rw [hset] at a1 a2; exact gi hl q a1 a2 a3)
        match tc, q, g7, g8 with
        | 0, q, g7, g8 => exact key .int (g7 rfl).1 (g7 rfl).2 rfl rfl q
        | 1, q, g7, g8 =>
          obtain ⟨hz, q⟩ := q
          exact key .boolean (g8 rfl).1 (g8 rfl).2 (by rcases hz with rfl | rfl <;> rfl) (by rcases hz with rfl | rfl <;> rfl) q
        | _ + 2, q, _, _ => exact q.elim
    match st, h with
    | .int a :: .ref o :: r, h => exact hput a o r rfl h
    | .ref q :: .ref o :: r, h =>
      have h' : match M.2.2.2.2.2.2.2.1 with
        | true => z_fld M i w o (fun tc _ _ j f => match tc with
          | 2 => match f with
            | some _ => z_gset w.1 o j q 0 (fun G' => J (pc + 3) al r (G', w.2.1, w.2.2) c1 c2)
            | none => False
          | _ => False)
        | false => False := h
      split at h'
      · rename_i hini
        obtain ⟨ci, j, tc, nest, fs, f, hm, hG1, hf, k⟩ := z_fld_ok h'
        obtain ⟨C, T, N, ty, g1, g2, g3, g4, g5, g6, g7, g8, g9⟩ := O.2.1 _ hm
        have hin : ∀ w ∈ u_ws C T N, w ∈ Ts := fun w hw => hTT _ (g3 w hw)
        have he := z_ws_at (x := x) (ad := ad) hG1
        match tc, k, g9 with
        | 0, k, _ => exact k.elim
        | 1, k, _ => exact k.elim
        | 2, k, g9 =>
          match f, k, hf with
          | none, k, _ => exact k.elim
          | some _, k, hf =>
            obtain ⟨ci2, fs2, e1, k⟩ := z_gset_ok k
            rw [hG1] at e1
            cases e1
            obtain ⟨g9a, g9b, g9c, g9d⟩ := g9 rfl
            have hset : (z_ws x ad w).set o (ad o, .inr (ci, (fs.mapIdx (fun k f => z_fv ad (w.2.1 o) k f)).set j (.ref (ad q)))) = z_ws x ad (w.1.set o (.inl (ci, fs.set j (some (some q)))), w.2.1, w.2.2) := z_ws_set (List.getElem?_eq_some_iff.mp hG1).1 rfl (fun _ _ => rfl) (fun _ _ => rfl) (by show Sum.inr (ci, _) = Sum.inr (ci, _); rw [z_fv_ref (List.getElem?_eq_some_iff.mp hf).1])
            have hjl : j < (fs.mapIdx (fun k f => z_fv ad (w.2.1 o) k f)).length := by simpa using (List.getElem?_eq_some_iff.mp hf).1
            show W p l e R s m args below meth c H locs c1 c2 Q (F0 m pc ls (.ref (ad q) :: .ref (ad o) :: r.map (z_cv b ad)))
            rcases g6 with ⟨-, g6⟩ | ⟨g6, -⟩
            · refine va_putF (ty := ty j) (v := .ref (ad q)) hx hb hts hin ty g4 g5 hown hK.1 hP hD hS o he g1 j g2 (hts _ (hTT _ g6)) (fun _ z => z) g9b (hI hini) g9c (g4 j g2) ?_ ?_ hjl hd (fun H1 locs1 a1 a2 a3 => by rw [hset] at a1 a2; exact hJ _ _ _ _ _ _ k h1 h2 (by rw [List.length_set]; exact h3) ad _ _ _ hl a1 a2 a3 hG)
              · rcases g9a with ⟨n, g⟩ | ⟨n, g⟩ <;> rw [g] <;> rfl
              · rcases g9a with ⟨n, g⟩ | ⟨n, g⟩ <;> rw [g] <;> rfl
            · rw [g9d] at g6; cases g6
        | _ + 3, k, _ => exact k.elim
      · exact h'.elim
    | [], h => exact h.elim
    | [.int _], h => exact h.elim
    | .int _ :: .int _ :: _, h => exact h.elim
    | .int _ :: .long _ :: _, h => exact h.elim
    | .int _ :: .float _ :: _, h => exact h.elim
    | .int _ :: .double _ :: _, h => exact h.elim
    | .int _ :: .null :: _, h => exact h.elim
    | .int _ :: .retAddr _ :: _, h => exact h.elim
    | [.ref _], h => exact h.elim
    | .ref _ :: .int _ :: _, h => exact h.elim
    | .ref _ :: .long _ :: _, h => exact h.elim
    | .ref _ :: .float _ :: _, h => exact h.elim
    | .ref _ :: .double _ :: _, h => exact h.elim
    | .ref _ :: .null :: _, h => exact h.elim
    | .ref _ :: .retAddr _ :: _, h => exact h.elim
    | .long _ :: _, h => exact h.elim
    | .float _ :: _, h => exact h.elim
    | .double _ :: _, h => exact h.elim
    | .null :: _, h => exact h.elim
    | .retAddr _ :: _, h => exact h.elim
  case iaload =>
    obtain ⟨hd, rfl, ht⟩ := z_dec hok rfl
    have key : ∀ (i : Int32) (o : Nat) (r : List Value), st = .int i :: .ref o :: r → z_arr w o (fun t n => match t with
            | 0 => vp_in i n ∧ J (pc + 1) al (.int (w.2.1 o i.toNatClampNeg) :: r) w c1 c2
            | _ => False) → W p l e R s m args below meth c H locs c1 c2 Q (F0 m pc ls (st.map (z_cv b ad))) := by
      intro i o r hst h
      subst hst
      obtain ⟨t, n, hG1, q⟩ := z_arr_ok h
      have he := z_ws_at (x := x) (ad := ad) hG1
      match t, q, he with
      | 0, q, he => exact va_iald hx hb hK.1 hP o 0 he rfl q.1 hd (go hl q.2)
      | 1, q, _ => exact q.elim
      | 2, q, _ => exact q.elim
      | 3, q, _ => exact q.elim
      | _ + 4, q, _ => exact q.elim
    match st, h with
    | .int i :: .ref o :: r, h => exact key i o r rfl h
    | .int i :: .float f :: r, h =>
      have h' : match M.2.2.2.2.2.2.2.2.1.1 with
        | true => vp_in i M.2.2.2.2.2.2.2.2.1.2.1 ∧ J (pc + 1) al (.int (M.2.2.2.2.2.2.2.2.1.2.2 i.toNatClampNeg) :: r) w c1 c2
        | false => False := h
      split at h'
      · rename_i e1
        obtain ⟨hX, hbl, hbA⟩ := hX e1
        exact va_sld hx hb hX hbl hbA hS h'.1 hd (go hl h'.2)
      · exact h'.elim
    | [], h => exact h.elim
    | [.int _], h => exact h.elim
    | .int _ :: .int _ :: _, h => exact h.elim
    | .int _ :: .long _ :: _, h => exact h.elim
    | .int _ :: .double _ :: _, h => exact h.elim
    | .int _ :: .null :: _, h => exact h.elim
    | .int _ :: .retAddr _ :: _, h => exact h.elim
    | .ref _ :: _, h => exact h.elim
    | .long _ :: _, h => exact h.elim
    | .float _ :: _, h => exact h.elim
    | .double _ :: _, h => exact h.elim
    | .null :: _, h => exact h.elim
    | .retAddr _ :: _, h => exact h.elim
  case baload =>
    obtain ⟨hd, rfl, ht⟩ := z_dec hok rfl
    have key : ∀ (i : Int32) (o : Nat) (r : List Value), st = .int i :: .ref o :: r → z_arr w o (fun t n => match t with
            | 2 => vp_in i n ∧ J (pc + 1) al (.int (w.2.1 o i.toNatClampNeg) :: r) w c1 c2
            | 3 => vp_in i n ∧ J (pc + 1) al (.int (w.2.1 o i.toNatClampNeg) :: r) w c1 c2
            | _ => False) → W p l e R s m args below meth c H locs c1 c2 Q (F0 m pc ls (st.map (z_cv b ad))) := by
      intro i o r hst h
      subst hst
      obtain ⟨t, n, hG1, q⟩ := z_arr_ok h
      have he := z_ws_at (x := x) (ad := ad) hG1
      match t, q, he with
      | 0, q, _ => exact q.elim
      | 1, q, _ => exact q.elim
      | 2, q, he => exact va_bald hx hb hK.1 hP o 2 he rfl q.1 hd (go hl q.2)
      | 3, q, he => exact va_zald hx hb hK.1 hP o 3 he rfl q.1 hd (go hl q.2)
      | _ + 4, q, _ => exact q.elim
    match st, h with
    | .int i :: .ref o :: r, h => exact key i o r rfl h
    | [], h => exact h.elim
    | [.int _], h => exact h.elim
    | .int _ :: .int _ :: _, h => exact h.elim
    | .int _ :: .long _ :: _, h => exact h.elim
    | .int _ :: .float _ :: _, h => exact h.elim
    | .int _ :: .double _ :: _, h => exact h.elim
    | .int _ :: .null :: _, h => exact h.elim
    | .int _ :: .retAddr _ :: _, h => exact h.elim
    | .ref _ :: _, h => exact h.elim
    | .long _ :: _, h => exact h.elim
    | .float _ :: _, h => exact h.elim
    | .double _ :: _, h => exact h.elim
    | .null :: _, h => exact h.elim
    | .retAddr _ :: _, h => exact h.elim
  case laload =>
    obtain ⟨hd, rfl, ht⟩ := z_dec hok rfl
    have key : ∀ (i : Int32) (o : Nat) (r : List Value), st = .int i :: .ref o :: r → z_arr w o (fun t n => match t with
            | 1 => vp_in i n ∧ J (pc + 1) al (.long (w.2.2 o i.toNatClampNeg) :: r) w c1 c2
            | _ => False) → W p l e R s m args below meth c H locs c1 c2 Q (F0 m pc ls (st.map (z_cv b ad))) := by
      intro i o r hst h
      subst hst
      obtain ⟨t, n, hG1, q⟩ := z_arr_ok h
      have he := z_ws_at (x := x) (ad := ad) hG1
      match t, q, he with
      | 0, q, _ => exact q.elim
      | 1, q, he => exact va_lald hx hb hK.1 hP o 1 he rfl q.1 hd (go hl q.2)
      | 2, q, _ => exact q.elim
      | 3, q, _ => exact q.elim
      | _ + 4, q, _ => exact q.elim
    match st, h with
    | .int i :: .ref o :: r, h => exact key i o r rfl h
    | [], h => exact h.elim
    | [.int _], h => exact h.elim
    | .int _ :: .int _ :: _, h => exact h.elim
    | .int _ :: .long _ :: _, h => exact h.elim
    | .int _ :: .float _ :: _, h => exact h.elim
    | .int _ :: .double _ :: _, h => exact h.elim
    | .int _ :: .null :: _, h => exact h.elim
    | .int _ :: .retAddr _ :: _, h => exact h.elim
    | .ref _ :: _, h => exact h.elim
    | .long _ :: _, h => exact h.elim
    | .float _ :: _, h => exact h.elim
    | .double _ :: _, h => exact h.elim
    | .null :: _, h => exact h.elim
    | .retAddr _ :: _, h => exact h.elim
  case iastore =>
    obtain ⟨hd, rfl, ht⟩ := z_dec hok rfl
    have key : ∀ (a : Int32) (i : Int32) (o : Nat) (r : List Value), st = .int a :: .int i :: .ref o :: r → z_arr w o (fun t n => match t with
            | 0 => vp_in i n ∧ J (pc + 1) al r (w.1, z_up w.2.1 o i.toNatClampNeg a, w.2.2) c1 c2
            | _ => False) → W p l e R s m args below meth c H locs c1 c2 Q (F0 m pc ls (st.map (z_cv b ad))) := by
      intro a i o r hst h
      subst hst
      obtain ⟨t, n, hG1, q⟩ := z_arr_ok h
      have he := z_ws_at (x := x) (ad := ad) hG1
      match t, q, he, hG1 with
      | 0, q, he, hG1 =>
        have hset := z_ws_upi (x := x) (ad := ad) (wi := w.2.1) (wl := w.2.2) (i := i.toNatClampNeg) (v := a) hG1 rfl
        exact va_iast hx hb hK.1 hP hD hS o 0 he rfl q.1 hd (fun H1 locs1 a1 a2 a3 => gi hl q.2 (by rw [← hset]; exact a1) (by rw [← hset]; exact a2) a3)
      | 1, q, _, _ => exact q.elim
      | 2, q, _, _ => exact q.elim
      | 3, q, _, _ => exact q.elim
      | _ + 4, q, _, _ => exact q.elim
    match st, h with
    | .int a :: .int i :: .ref o :: r, h => exact key a i o r rfl h
    | [], h => exact h.elim
    | [.int _], h => exact h.elim
    | [.int _, .int _], h => exact h.elim
    | .int _ :: .int _ :: .int _ :: _, h => exact h.elim
    | .int _ :: .int _ :: .long _ :: _, h => exact h.elim
    | .int _ :: .int _ :: .float _ :: _, h => exact h.elim
    | .int _ :: .int _ :: .double _ :: _, h => exact h.elim
    | .int _ :: .int _ :: .null :: _, h => exact h.elim
    | .int _ :: .int _ :: .retAddr _ :: _, h => exact h.elim
    | .int _ :: .long _ :: _, h => exact h.elim
    | .int _ :: .float _ :: _, h => exact h.elim
    | .int _ :: .double _ :: _, h => exact h.elim
    | .int _ :: .null :: _, h => exact h.elim
    | .int _ :: .ref _ :: _, h => exact h.elim
    | .int _ :: .retAddr _ :: _, h => exact h.elim
    | .long _ :: _, h => exact h.elim
    | .float _ :: _, h => exact h.elim
    | .double _ :: _, h => exact h.elim
    | .null :: _, h => exact h.elim
    | .ref _ :: _, h => exact h.elim
    | .retAddr _ :: _, h => exact h.elim
  case bastore =>
    obtain ⟨hd, rfl, ht⟩ := z_dec hok rfl
    have key : ∀ (a : Int32) (i : Int32) (o : Nat) (r : List Value), st = .int a :: .int i :: .ref o :: r → z_arr w o (fun t n => match t with
            | 2 => vp_in i n ∧ J (pc + 1) al r (w.1, z_up w.2.1 o i.toNatClampNeg (vp_nar .byte a), w.2.2) c1 c2
            | 3 => vp_in i n ∧ J (pc + 1) al r (w.1, z_up w.2.1 o i.toNatClampNeg (vp_nar .boolean a), w.2.2) c1 c2
            | _ => False) → W p l e R s m args below meth c H locs c1 c2 Q (F0 m pc ls (st.map (z_cv b ad))) := by
      intro a i o r hst h
      subst hst
      obtain ⟨t, n, hG1, q⟩ := z_arr_ok h
      have he := z_ws_at (x := x) (ad := ad) hG1
      match t, q, he, hG1 with
      | 0, q, _, _ => exact q.elim
      | 1, q, _, _ => exact q.elim
      | 2, q, he, hG1 =>
        have hset := z_ws_upi (x := x) (ad := ad) (wi := w.2.1) (wl := w.2.2) (i := i.toNatClampNeg) (v := (vp_nar .byte a)) hG1 rfl
        exact va_bast hx hb hK.1 hP hD hS o 2 he rfl q.1 hd (fun H1 locs1 a1 a2 a3 => gi hl q.2 (by rw [← hset]; exact a1) (by rw [← hset]; exact a2) a3)
      | 3, q, he, hG1 =>
        have hset := z_ws_upi (x := x) (ad := ad) (wi := w.2.1) (wl := w.2.2) (i := i.toNatClampNeg) (v := (vp_nar .boolean a)) hG1 rfl
        exact va_zast hx hb hK.1 hP hD hS o 3 he rfl q.1 hd (fun H1 locs1 a1 a2 a3 => gi hl q.2 (by rw [← hset]; exact a1) (by rw [← hset]; exact a2) a3)
      | _ + 4, q, _, _ => exact q.elim
    match st, h with
    | .int a :: .int i :: .ref o :: r, h => exact key a i o r rfl h
    | [], h => exact h.elim
    | [.int _], h => exact h.elim
    | [.int _, .int _], h => exact h.elim
    | .int _ :: .int _ :: .int _ :: _, h => exact h.elim
    | .int _ :: .int _ :: .long _ :: _, h => exact h.elim
    | .int _ :: .int _ :: .float _ :: _, h => exact h.elim
    | .int _ :: .int _ :: .double _ :: _, h => exact h.elim
    | .int _ :: .int _ :: .null :: _, h => exact h.elim
    | .int _ :: .int _ :: .retAddr _ :: _, h => exact h.elim
    | .int _ :: .long _ :: _, h => exact h.elim
    | .int _ :: .float _ :: _, h => exact h.elim
    | .int _ :: .double _ :: _, h => exact h.elim
    | .int _ :: .null :: _, h => exact h.elim
    | .int _ :: .ref _ :: _, h => exact h.elim
    | .int _ :: .retAddr _ :: _, h => exact h.elim
    | .long _ :: _, h => exact h.elim
    | .float _ :: _, h => exact h.elim
    | .double _ :: _, h => exact h.elim
    | .null :: _, h => exact h.elim
    | .ref _ :: _, h => exact h.elim
    | .retAddr _ :: _, h => exact h.elim
  case lastore =>
    obtain ⟨hd, rfl, ht⟩ := z_dec hok rfl
    have key : ∀ (a : Int64) (i : Int32) (o : Nat) (r : List Value), st = .long a :: .int i :: .ref o :: r → z_arr w o (fun t n => match t with
            | 1 => vp_in i n ∧ J (pc + 1) al r (w.1, w.2.1, z_up w.2.2 o i.toNatClampNeg a) c1 c2
            | _ => False) → W p l e R s m args below meth c H locs c1 c2 Q (F0 m pc ls (st.map (z_cv b ad))) := by
      intro a i o r hst h
      subst hst
      obtain ⟨t, n, hG1, q⟩ := z_arr_ok h
      have he := z_ws_at (x := x) (ad := ad) hG1
      match t, q, he, hG1 with
      | 0, q, _, _ => exact q.elim
      | 1, q, he, hG1 =>
        have hset := z_ws_upl (x := x) (ad := ad) (wi := w.2.1) (wl := w.2.2) (i := i.toNatClampNeg) (v := a) hG1 rfl
        exact va_last hx hb hK.1 hP hD hS o 1 he rfl q.1 hd (fun H1 locs1 a1 a2 a3 => hJ _ _ _ _ _ _ q.2 h1 h2 h3 ad _ _ _ hl (by rw [← hset]; exact a1) (by rw [← hset]; exact a2) a3 hG)
      | 2, q, _, _ => exact q.elim
      | 3, q, _, _ => exact q.elim
      | _ + 4, q, _, _ => exact q.elim
    match st, h with
    | .long a :: .int i :: .ref o :: r, h => exact key a i o r rfl h
    | [], h => exact h.elim
    | [.long _], h => exact h.elim
    | [.long _, .int _], h => exact h.elim
    | .long _ :: .int _ :: .int _ :: _, h => exact h.elim
    | .long _ :: .int _ :: .long _ :: _, h => exact h.elim
    | .long _ :: .int _ :: .float _ :: _, h => exact h.elim
    | .long _ :: .int _ :: .double _ :: _, h => exact h.elim
    | .long _ :: .int _ :: .null :: _, h => exact h.elim
    | .long _ :: .int _ :: .retAddr _ :: _, h => exact h.elim
    | .long _ :: .long _ :: _, h => exact h.elim
    | .long _ :: .float _ :: _, h => exact h.elim
    | .long _ :: .double _ :: _, h => exact h.elim
    | .long _ :: .null :: _, h => exact h.elim
    | .long _ :: .ref _ :: _, h => exact h.elim
    | .long _ :: .retAddr _ :: _, h => exact h.elim
    | .int _ :: _, h => exact h.elim
    | .float _ :: _, h => exact h.elim
    | .double _ :: _, h => exact h.elim
    | .null :: _, h => exact h.elim
    | .ref _ :: _, h => exact h.elim
    | .retAddr _ :: _, h => exact h.elim
  case arraylength =>
    obtain ⟨hd, rfl, ht⟩ := z_dec hok rfl
    match st, h with
    | .ref o :: r, h =>
      obtain ⟨t, n, hG1, q⟩ := z_arr_ok h
      have he := z_ws_at (x := x) (ad := ad) hG1
      match t, he with
      | 0, he => exact va_alen hx hb hK.1 hP o 0 he rfl rfl hd (go hl q)
      | 1, he => exact va_alen hx hb hK.1 hP o 1 he rfl rfl hd (go hl q)
      | 2, he => exact va_alen hx hb hK.1 hP o 2 he rfl rfl hd (go hl q)
      | _ + 3, he => exact va_alen hx hb hK.1 hP o 3 he rfl rfl hd (go hl q)
    | .float f :: r, h =>
      have h' : match M.2.2.2.2.2.2.2.2.1.1 with
        | true => J (pc + 1) al (.int (nI M.2.2.2.2.2.2.2.2.1.2.1) :: r) w c1 c2
        | false => False := h
      split at h'
      · rename_i e1
        obtain ⟨hX, hbl, hbA⟩ := hX e1
        exact va_slen hx hb hX hbl hbA hS hd (go hl h')
      · exact h'.elim
    | [], h => exact h.elim
    | .int _ :: _, h => exact h.elim
    | .long _ :: _, h => exact h.elim
    | .double _ :: _, h => exact h.elim
    | .null :: _, h => exact h.elim
    | .retAddr _ :: _, h => exact h.elim
  case tableswitch d0 lo0 hi0 offs =>
    obtain ⟨len, hd⟩ := z_decw hok
    have h' : match z_look M.2.2.2.2.1 pc with
      | some (lo, d, ts) => z_i1 st (fun a r => z_sw pc a r (fun t => J t al r w c1 c2) lo ts ∧ ((a.toInt < lo ∨ lo + ts.length ≤ a.toInt) → J d al r w c1 c2))
      | none => False := h
    split at h'
    · rename_i lo d ts e1
      have h4 := O.2.2.2.2.2.2.1 _ (z_look_mem e1)
      obtain ⟨a, r, rfl, q1, q2⟩ := z_i1_ok h'
      unfold z_sokb at h4
      dsimp only at h4
      rw [hd] at h4
      simp only [Bool.and_eq_true, decide_eq_true_eq] at h4
      obtain ⟨rfl, hhi, hdf, hof⟩ := h4
      by_cases hlo : a.toInt < lo0
      · exact lv_tableOut hx hb hd (Or.inl hlo) hdf (go hl (q2 (Or.inl hlo)))
      · by_cases hhi2 : hi0 < a.toInt
        · exact lv_tableOut hx hb hd (Or.inr hhi2) hdf (go hl (q2 (Or.inr (by omega))))
        · have hlen2 : offs.toList.length = ts.length := by have := congrArg List.length hof; simpa using this
          have hj : (a.toInt - lo0).toNat < offs.toList.length := by omega
          have ho : offs[(a.toInt - lo0).toNat]? = some (offs.toList[(a.toInt - lo0).toNat]'hj) := by rw [← Array.getElem?_toList, List.getElem?_eq_getElem hj]
          have ht2 : (pc : Int) + offs.toList[(a.toInt - lo0).toNat]'hj = ((ts[(a.toInt - lo0).toNat]'(by omega) : Nat) : Int) := by
            have h5 := congrArg (fun l => l[(a.toInt - lo0).toNat]?) hof
            simp only [List.getElem?_map] at h5
            rw [List.getElem?_eq_getElem hj, List.getElem?_eq_getElem (by omega)] at h5
            simpa using h5
          refine lv_tableIn hx hb hd hlo hhi2 ho ht2 (go hl (z_sw_at (a := a) (J := fun t => J t al r w c1 c2) ts lo0 _ q1 (by omega) ?_))
          rw [show lo0 + ((a.toInt - lo0).toNat : Int) = a.toInt by omega]
          exact (Int32.ofInt_toInt a).symm
    · exact h'.elim
  case ireturn =>
    obtain ⟨hd, rfl, ht⟩ := z_dec hok rfl
    match st, h with
    | [.int a], h => exact hR _ w h.2 ad H locs ls pc c1 c2 h1 h2 h3 hP hD hS hG (Or.inl ⟨a, rfl, hd, h.1⟩)
    | [], h => exact h.elim
    | .int _ :: _ :: _, h => exact h.elim
    | .long _ :: _, h => exact h.elim
    | .float _ :: _, h => exact h.elim
    | .double _ :: _, h => exact h.elim
    | .null :: _, h => exact h.elim
    | .ref _ :: _, h => exact h.elim
    | .retAddr _ :: _, h => exact h.elim
  case lreturn =>
    obtain ⟨hd, rfl, ht⟩ := z_dec hok rfl
    match st, h with
    | [.long a], h =>
      have h' : match M.2.2.2.2.2.2.1 with
        | 3 => post (some (.long a)) w
        | _ => False := h
      split at h'
      · rename_i e1
        exact hR _ w h' ad H locs ls pc c1 c2 h1 h2 h3 hP hD hS hG (Or.inr (Or.inl ⟨a, rfl, hd, e1⟩))
      · exact h'.elim
    | [], h => exact h.elim
    | .long _ :: _ :: _, h => exact h.elim
    | .int _ :: _, h => exact h.elim
    | .float _ :: _, h => exact h.elim
    | .double _ :: _, h => exact h.elim
    | .null :: _, h => exact h.elim
    | .ref _ :: _, h => exact h.elim
    | .retAddr _ :: _, h => exact h.elim
  case return_ =>
    obtain ⟨hd, rfl, ht⟩ := z_dec hok rfl
    match st, h with
    | [], h =>
      have h' : match M.2.2.2.2.2.2.1 with
        | 0 => post none w
        | _ => False := h
      split at h'
      · rename_i e1
        exact hR _ w h' ad H locs ls pc c1 c2 h1 h2 h3 hP hD hS hG (Or.inr (Or.inr ⟨rfl, hd, e1⟩))
      · exact h'.elim
    | _ :: _, h => exact h.elim
  case invokestatic i =>
    obtain ⟨hd, rfl, ht⟩ := z_dec hok rfl
    exact hcall J hJ 0 i pc al st w c1 c2 h (Or.inl ⟨rfl, hd⟩) h1 h2 h3 ad H locs ls hl hP hD hS hG
  case invokevirtual i =>
    obtain ⟨hd, rfl, ht⟩ := z_dec hok rfl
    exact hcall J hJ 1 i pc al st w c1 c2 h (Or.inr (Or.inl ⟨rfl, hd⟩)) h1 h2 h3 ad H locs ls hl hP hD hS hG
  case invokespecial i =>
    obtain ⟨hd, rfl, ht⟩ := z_dec hok rfl
    exact hcall J hJ 2 i pc al st w c1 c2 h (Or.inr (Or.inr ⟨rfl, hd⟩)) h1 h2 h3 ad H locs ls hl hP hD hS hG
  case new i =>
    obtain ⟨hd, rfl, ht⟩ := z_dec hok rfl
    have h' : match z_look M.2.2.2.1.2.2 i with
      | some (ci, fs) => (c1 + 1 ≤ M.2.2.2.2.2.2.2.2.2.1 ∧ c2 + fs.length ≤ M.2.2.2.2.2.2.2.2.2.2) ∧ match z_wfl w.1.length al && (z_wfs w.1.length st && z_wfg w.1.length w.1) with
        | true => z_psh w.1 (.inl (ci, fs)) 0 (fun G' n => J (pc + 3) al (.ref n :: st) (G', z_row w.2.1 n (fun _ => 0), w.2.2) (c1 + 1) (c2 + fs.length))
        | false => False
      | none => False := h
    split at h'
    · rename_i ci fs e1
      obtain ⟨C, T, N, ty, g1, g3, g4, g5, g6, g7, g8, g9⟩ := O.2.2.2.2.2.1 _ (z_look_mem e1)
      obtain ⟨⟨r1, r2⟩, q⟩ := h'
      rw [O.2.2.2.2.2.2.2.1] at r1
      rw [O.2.2.2.2.2.2.2.2] at r2
      split at q
      · rename_i hwf
        simp only [Bool.and_eq_true] at hwf
        obtain ⟨wf1, wf2, wf3⟩ := hwf
        have q := z_psh_ok q
        rw [Nat.zero_add] at q
        have hin : ∀ w ∈ u_ws C T N, w ∈ Ts := fun w hw => hTT _ (g3 w hw)
        dsimp only at g8
        have hdef : ∀ j, j < N → defaultValue (ty j) = vp_V (fs.mapIdx (fun k f => z_fv ad (fun _ => 0) k f)) j := by
          intro j hj
          have hz := g9 j hj
          dsimp only at hz
          rcases hz with ⟨z1, z2⟩ | ⟨z1, z2⟩
          · unfold vp_V
            rw [List.getD_eq_getElem?_getD, List.getElem?_mapIdx, z1]
            rcases z2 with z2 | z2 <;> rw [z2] <;> rfl
          · unfold vp_V
            rw [List.getD_eq_getElem?_getD, List.getElem?_mapIdx, z1]
            rcases z2 with ⟨n, z2⟩ | ⟨n, z2⟩ <;> rw [z2] <;> rfl
        refine va_new hx hb hts hin ty g4 hown (hts _ (hTT _ g5)) (hts _ (hTT _ g6)) (hts _ (hTT _ g7)) hK.1 hP hD hS hA g1 hdef r1 (by rw [← g8]; exact r2) hd (fun qn H1 a1 a2 a3 => ?_)
        have hag : ∀ k, k < w.1.length → (fun k => if k = w.1.length then qn else ad k) k = ad k := fun k hk => if_neg (by omega)
        have hfs : fs.mapIdx (fun k f => z_fv ad (fun _ => 0) k f) = fs.mapIdx (fun k f => z_fv (fun k => if k = w.1.length then qn else ad k) (fun _ => 0) k f) := by
          apply List.ext_getElem?
          intro j
          rw [List.getElem?_mapIdx, List.getElem?_mapIdx]
          by_cases hj : j < N
          · have hz := g9 j hj
            dsimp only at hz
            rcases hz with ⟨z1, -⟩ | ⟨z1, -⟩ <;> rw [z1] <;> rfl
          · rw [List.getElem?_eq_none (by omega)]; rfl
        have hz0 : z_row w.2.1 w.1.length (fun _ => (0 : Int32)) w.1.length = fun _ => 0 := by funext z; simp [z_row]
        have hpush := z_ws_push (x := x) (ad := ad) (ad' := fun k => if k = w.1.length then qn else ad k) (G := w.1) (wi := w.2.1) (wi' := z_row w.2.1 w.1.length (fun _ => 0)) (wl := w.2.2) (wl' := w.2.2) (q := qn) (sh := .inl (ci, fs)) (E := .inr (ci, fs.mapIdx (fun k f => z_fv ad (fun _ => 0) k f))) wf3 hag (if_pos rfl) (fun o ho => by funext i'; simp [z_row, Nat.ne_of_lt ho]) (fun _ _ => rfl) (by rw [hz0, hfs]; rfl)
        rw [hpush] at a1 a2
        have := hJ _ _ _ _ _ _ q r1 r2 (by show n0 ≤ (w.1 ++ [_]).length; rw [List.length_append]; omega) (fun k => if k = w.1.length then qn else ad k) H1 locs ls (hl.agree hag wf1) a1 a2 a3 ⟨fun k hk => (hag k (by omega)).trans (hG.1 k hk), fun hz => by omega⟩
        rw [List.map_cons, z_cvs_agree hag wf2] at this
        rw [← g8]
        have e9 : z_cv b (fun k => if k = w.1.length then qn else ad k) (Value.ref w.1.length) = Value.ref qn := by show Value.ref (if w.1.length = w.1.length then qn else ad w.1.length) = Value.ref qn; rw [if_pos rfl]
        rw [e9] at this
        exact this
      · exact q.elim
    · exact h'.elim
  case newarray t =>
    obtain ⟨hd, rfl, ht⟩ := z_dec hok rfl
    obtain ⟨a, r, rfl, N, rfl, hN, ⟨r1, r2⟩, q⟩ := z_i1_ok h
    rw [O.2.2.2.2.2.2.2.1] at r1
    rw [O.2.2.2.2.2.2.2.2] at r2
    split at q
    · rename_i hwf
      simp only [Bool.and_eq_true] at hwf
      obtain ⟨wf1, wf2, wf3⟩ := hwf
      have hn : ¬ nI N < 0 := nI_pos (by omega)
      have hcl : (nI N).toNatClampNeg = N := nI_clamp (by omega)
      match t, q with
      | .int, q =>
        have q := z_psh_ok q
        rw [Nat.zero_add] at q
        refine va_newa (atype := .int) (ty := .int) (a0 := (N, .inl (fun _ => 0))) hx hb (hts _ (hTT _ zTT_int)) rfl hK.1 hP hD hS hA (fun cA => rfl) hn hcl (Nat.le_trans (Nat.mul_le_mul_right _ hN) (by decide)) r1 r2 hd (fun qn cA H1 hK1 a1 a2 a3 => ?_)
        have hcA : cA = x.2.1 := by
          have k1 := (hK1.2 4 (cA, .int) rfl).2
          have k2 := (hK.1.2 0 (x.2.1, .int) rfl).2
          exact Option.some.inj (k1.symm.trans k2)
        subst hcA
        have hag : ∀ k, k < w.1.length → (fun k => if k = w.1.length then qn else ad k) k = ad k := fun k hk => if_neg (by omega)
        have hz0 : z_row w.2.1 w.1.length (fun _ => (0 : Int32)) w.1.length = fun _ => 0 := by funext z; simp [z_row]
        have hpush := z_ws_push (x := x) (ad := ad) (ad' := fun k => if k = w.1.length then qn else ad k) (G := w.1) (wi := w.2.1) (wi' := z_row w.2.1 w.1.length (fun _ => 0)) (wl := w.2.2) (wl' := w.2.2) (q := qn) (sh := .inr (0, N)) (E := .inl (x.2.1, N, .inl (fun _ => 0))) wf3 hag (if_pos rfl) (fun o ho => by funext i'; simp [z_row, Nat.ne_of_lt ho]) (fun _ _ => rfl) (by rw [hz0]; rfl)
        rw [hpush] at a1 a2
        have := hJ _ _ _ _ _ _ q r1 r2 (by show n0 ≤ (w.1 ++ [_]).length; rw [List.length_append]; omega) (fun k => if k = w.1.length then qn else ad k) H1 locs ls (hl.agree hag wf1) a1 a2 a3 ⟨fun k hk => (hag k (by omega)).trans (hG.1 k hk), fun hz => by omega⟩
        rw [List.map_cons, z_cvs_agree hag wf2] at this
        have e9 : z_cv b (fun k => if k = w.1.length then qn else ad k) (Value.ref w.1.length) = Value.ref qn := by show Value.ref (if w.1.length = w.1.length then qn else ad w.1.length) = Value.ref qn; rw [if_pos rfl]
        rw [e9] at this
        exact this
      | .long, q =>
        have q := z_psh_ok q
        rw [Nat.zero_add] at q
        refine va_newa (atype := .long) (ty := .long) (a0 := (N, .inr (.inl (fun _ => 0)))) hx hb (hts _ (hTT _ zTT_long)) rfl hK.1 hP hD hS hA (fun cA => rfl) hn hcl (Nat.le_trans (Nat.mul_le_mul_right _ hN) (by decide)) r1 r2 hd (fun qn cA H1 hK1 a1 a2 a3 => ?_)
        have hcA : cA = x.2.2.1 := by
          have k1 := (hK1.2 4 (cA, .long) rfl).2
          have k2 := (hK.1.2 1 (x.2.2.1, .long) rfl).2
          exact Option.some.inj (k1.symm.trans k2)
        subst hcA
        have hag : ∀ k, k < w.1.length → (fun k => if k = w.1.length then qn else ad k) k = ad k := fun k hk => if_neg (by omega)
        have hz0 : z_row w.2.2 w.1.length (fun _ => (0 : Int64)) w.1.length = fun _ => 0 := by funext z; simp [z_row]
        have hpush := z_ws_push (x := x) (ad := ad) (ad' := fun k => if k = w.1.length then qn else ad k) (G := w.1) (wi := w.2.1) (wi' := w.2.1) (wl := w.2.2) (wl' := z_row w.2.2 w.1.length (fun _ => 0)) (q := qn) (sh := .inr (1, N)) (E := .inl (x.2.2.1, N, .inr (.inl (fun _ => 0)))) wf3 hag (if_pos rfl) (fun _ _ => rfl) (fun o ho => by funext i'; simp [z_row, Nat.ne_of_lt ho]) (by rw [hz0]; rfl)
        rw [hpush] at a1 a2
        have := hJ _ _ _ _ _ _ q r1 r2 (by show n0 ≤ (w.1 ++ [_]).length; rw [List.length_append]; omega) (fun k => if k = w.1.length then qn else ad k) H1 locs ls (hl.agree hag wf1) a1 a2 a3 ⟨fun k hk => (hag k (by omega)).trans (hG.1 k hk), fun hz => by omega⟩
        rw [List.map_cons, z_cvs_agree hag wf2] at this
        have e9 : z_cv b (fun k => if k = w.1.length then qn else ad k) (Value.ref w.1.length) = Value.ref qn := by show Value.ref (if w.1.length = w.1.length then qn else ad w.1.length) = Value.ref qn; rw [if_pos rfl]
        rw [e9] at this
        exact this
      | .byte, q =>
        have q := z_psh_ok q
        rw [Nat.zero_add] at q
        refine va_newa (atype := .byte) (ty := .byte) (a0 := (N, .inl (fun _ => 0))) hx hb (hts _ (hTT _ zTT_byte)) rfl hK.1 hP hD hS hA (fun cA => rfl) hn hcl (Nat.le_trans (Nat.mul_le_mul_right _ hN) (by decide)) r1 r2 hd (fun qn cA H1 hK1 a1 a2 a3 => ?_)
        have hcA : cA = x.2.2.2.1 := by
          have k1 := (hK1.2 4 (cA, .byte) rfl).2
          have k2 := (hK.1.2 2 (x.2.2.2.1, .byte) rfl).2
          exact Option.some.inj (k1.symm.trans k2)
        subst hcA
        have hag : ∀ k, k < w.1.length → (fun k => if k = w.1.length then qn else ad k) k = ad k := fun k hk => if_neg (by omega)
        have hz0 : z_row w.2.1 w.1.length (fun _ => (0 : Int32)) w.1.length = fun _ => 0 := by funext z; simp [z_row]
        have hpush := z_ws_push (x := x) (ad := ad) (ad' := fun k => if k = w.1.length then qn else ad k) (G := w.1) (wi := w.2.1) (wi' := z_row w.2.1 w.1.length (fun _ => 0)) (wl := w.2.2) (wl' := w.2.2) (q := qn) (sh := .inr (2, N)) (E := .inl (x.2.2.2.1, N, .inl (fun _ => 0))) wf3 hag (if_pos rfl) (fun o ho => by funext i'; simp [z_row, Nat.ne_of_lt ho]) (fun _ _ => rfl) (by rw [hz0]; rfl)
        rw [hpush] at a1 a2
        have := hJ _ _ _ _ _ _ q r1 r2 (by show n0 ≤ (w.1 ++ [_]).length; rw [List.length_append]; omega) (fun k => if k = w.1.length then qn else ad k) H1 locs ls (hl.agree hag wf1) a1 a2 a3 ⟨fun k hk => (hag k (by omega)).trans (hG.1 k hk), fun hz => by omega⟩
        rw [List.map_cons, z_cvs_agree hag wf2] at this
        have e9 : z_cv b (fun k => if k = w.1.length then qn else ad k) (Value.ref w.1.length) = Value.ref qn := by show Value.ref (if w.1.length = w.1.length then qn else ad w.1.length) = Value.ref qn; rw [if_pos rfl]
        rw [e9] at this
        exact this
      | .boolean, q =>
        have q := z_psh_ok q
        rw [Nat.zero_add] at q
        refine va_newa (atype := .boolean) (ty := .boolean) (a0 := (N, .inl (fun _ => 0))) hx hb (hts _ (hTT _ zTT_boolean)) rfl hK.1 hP hD hS hA (fun cA => rfl) hn hcl (Nat.le_trans (Nat.mul_le_mul_right _ hN) (by decide)) r1 r2 hd (fun qn cA H1 hK1 a1 a2 a3 => ?_)
        have hcA : cA = x.2.2.2.2 := by
          have k1 := (hK1.2 4 (cA, .boolean) rfl).2
          have k2 := (hK.1.2 3 (x.2.2.2.2, .boolean) rfl).2
          exact Option.some.inj (k1.symm.trans k2)
        subst hcA
        have hag : ∀ k, k < w.1.length → (fun k => if k = w.1.length then qn else ad k) k = ad k := fun k hk => if_neg (by omega)
        have hz0 : z_row w.2.1 w.1.length (fun _ => (0 : Int32)) w.1.length = fun _ => 0 := by funext z; simp [z_row]
        have hpush := z_ws_push (x := x) (ad := ad) (ad' := fun k => if k = w.1.length then qn else ad k) (G := w.1) (wi := w.2.1) (wi' := z_row w.2.1 w.1.length (fun _ => 0)) (wl := w.2.2) (wl' := w.2.2) (q := qn) (sh := .inr (3, N)) (E := .inl (x.2.2.2.2, N, .inl (fun _ => 0))) wf3 hag (if_pos rfl) (fun o ho => by funext i'; simp [z_row, Nat.ne_of_lt ho]) (fun _ _ => rfl) (by rw [hz0]; rfl)
        rw [hpush] at a1 a2
        have := hJ _ _ _ _ _ _ q r1 r2 (by show n0 ≤ (w.1 ++ [_]).length; rw [List.length_append]; omega) (fun k => if k = w.1.length then qn else ad k) H1 locs ls (hl.agree hag wf1) a1 a2 a3 ⟨fun k hk => (hag k (by omega)).trans (hG.1 k hk), fun hz => by omega⟩
        rw [List.map_cons, z_cvs_agree hag wf2] at this
        have e9 : z_cv b (fun k => if k = w.1.length then qn else ad k) (Value.ref w.1.length) = Value.ref qn := by show Value.ref (if w.1.length = w.1.length then qn else ad w.1.length) = Value.ref qn; rw [if_pos rfl]
        rw [e9] at this
        exact this
      | .char, q => exact q.elim
      | .float, q => exact q.elim
      | .double, q => exact q.elim
      | .short, q => exact q.elim
    · exact q.elim
  all_goals exact (h : False).elim
end ZS
end
section
/-! calls, and the whole walk -/
theorem zTT_inTs {Ts : List Cond} (hTT : ∀ w ∈ zTT, w ∈ Ts) {w : Cond} (h : w ∈ zTT) : w ∈ Ts ∧ ((w.onTables && w.keeps) = true ∨ ∃ ty, w = .arrayClass ty) := ⟨hTT _ h, good_of_word (zTT_good h)⟩
theorem z_good_ws {Ts : List Cond} (hTT : ∀ w ∈ zTT, w ∈ Ts) {y : MethodName} {bytes : ByteArray} {maxL : Nat} {ret : Option FieldType} (hc : Cond.code y bytes maxL ret ∈ zTT) : GoodIn Ts (.code y bytes maxL ret :: zTT) := by
  intro w hw
  rcases List.mem_cons.mp hw with rfl | hw
  · exact zTT_inTs hTT hc
  · exact zTT_inTs hTT hw
theorem z_good_app {Ts a ws : List Cond} (hTT : ∀ w ∈ zTT, w ∈ Ts) (h1 : ∀ w ∈ a, w ∈ zTT) (h2 : GoodIn Ts ws) : GoodIn Ts (a ++ ws) := by
  intro w hw
  rcases List.mem_append.mp hw with hw | hw
  · exact zTT_inTs hTT (h1 w hw)
  · exact h2 w hw
theorem z_Pc_blind {x : zX} {b : Nat} {ad : Nat → Nat} {av : List Value} {w : zW} {sz : Nat} : FrameBlind (z_Pc x b ad av w sz) := by
  rintro a U g mk ⟨q1, q2, q3, q4, q5⟩
  exact ⟨q1, q2, q3, q4.same rfl, q5⟩
section ZC
variable {p : Program} {l : Launch} {e : Env} {R : Room} {s : State} {m : MethodId} {args : Array Value} {below : List Frame} {meth : Method} {c : Code} {Q : State → Prop} {cc : ByteArray} {own : String} {Ts : List Cond} {x : zX} {b : Nat} {A0 : Nat → Prop} {ad0 : Nat → Nat} {n0 nL : Nat} {M : zM} {post : Option Value → zW → Prop}
/-- behind a call -/
theorem z_after {H : Heap} {locs : List Loc} {c1 c2 mc ms pc : Nat} {ls : Array Slot} {st0 rest : List Value} {a : Array Value} {ad : Nat → Nat} {w : zW} {K : Option Value → zW → Prop}
    (hr : va_Run p l e R s m args below meth c H locs c1 c2 mc ms (F0 m pc ls st0) rest (z_Qc x b ad w K H.size mc a) (z_A x ad w H.size)) (hD : va_D A0 (z_ws x ad w)) (hS : va_S A0 s.heap H locs) (hA : ∀ q : Nat, s.heap.size ≤ q → A0 q)
    (kk : ∀ (r : Option Value) (w' : zW) (ad' : Nat → Nat) (H1 : Heap) (locs1 : List Loc), K r w' → w.1.length ≤ w'.1.length → z_AG ad ad' w.1.length mc → va_P x.1 vwCl (z_ws x ad' w') H1 → va_D A0 (z_ws x ad' w') → va_S A0 s.heap H1 locs1 → W p l e R s m args below meth c H1 locs1 (c1 + mc) (c2 + ms) Q (F0 m (pc + 3) ls ((r.map (z_cv b ad')).toList ++ rest))) : W p l e R s m args below meth c H locs c1 c2 Q (F0 m pc ls st0) := by
  intro T hT X
  obtain ⟨v, st₀, t, T', L, h0, X', hL, e1, e2, ⟨⟨r, w', ad', hv, hk, hlen, hag, hP', hD'⟩, hz, hkeep⟩, st⟩ := hr T hT X
  cases hv
  rw [h0] at hz hkeep
  have hAA : ∀ q, z_A x ad w H.size q → A0 q := by
    intro q hq
    rcases hq with ⟨k, e, hq⟩ | hq
    · exact hD.2 k (q, e) hq
    · exact hA q (Nat.le_trans hS.1 hq)
  obtain ⟨t2, a1, b1⟩ := kk r w' ad' T'.heap (locs ++ L) hk hlen hag (by rw [e1]; exact hP') (hD'.weaken (fun k q _ h => hAA q.1 h))
    ⟨Nat.le_trans hS.1 (by rw [e1]; exact hz), fun q h1 h2 => by rw [e1, hkeep q (Nat.lt_of_lt_of_le h1 hS.1) (fun z => h2 (hAA q z))]; exact hS.2.1 q h1 h2, fun q hq => by
      rcases List.mem_append.mp hq with h | h
      · exact hS.2.2 q h
      · exact hAA _ (hL q h)⟩ T' rfl X'
  exact ⟨t2, st t2 a1, b1⟩
theorem z_kk_spec {ik kd : Nat} (h : z_kk ik kd = true) : (ik = 0 ∧ (kd = 0 ∨ kd = 2)) ∨ (ik = 1 ∧ (kd = 4 ∨ kd = 5)) ∨ (ik = 2 ∧ (kd = 1 ∨ kd = 3 ∨ kd = 6)) := by
  unfold z_kk at h
  split at h <;> simp at h ⊢
theorem z_rcv_obj {kd ci : Nat} {av : List Value} {w : zW} (hk : kd = 4 ∨ kd = 5) (h : z_rcv kd ci av w = true) : ∃ o as fs, av = .ref o :: as ∧ w.1[o]? = some (.inl (ci, fs)) := by
  have h' : z_hdo ci av w = true := by rcases hk with rfl | rfl <;> exact h
  unfold z_hdo at h'
  split at h'
  · rename_i o as
    split at h'
    · rename_i c' fs e
      have := Nat.eq_of_beq_eq_true h'
      subst this
      exact ⟨o, as, fs, rfl, by rw [← z_nth_eq]; exact e⟩
    · cases h'
  · cases h'
theorem z_rcv_ref {kd ci : Nat} {av : List Value} {w : zW} (hk : kd = 1 ∨ kd = 3 ∨ kd = 6) (h : z_rcv kd ci av w = true) : ∃ o as, av = .ref o :: as := by
  have h' : z_hdr av = true := by rcases hk with rfl | rfl | rfl <;> exact h
  unfold z_hdr at h'
  split at h'
  · exact ⟨_, _, rfl⟩
  · cases h'
set_option maxHeartbeats 1000000 in
theorem z_call_ok (E : z_En p s m args meth c cc nL own Ts x b A0 M) (O : z_OK l own cc R M) (J : zJ) (hJ : ∀ pc al st w c1 c2, J pc al st w c1 c2 → z_JJ p l e R s m args below meth c Q x b A0 ad0 n0 nL pc al st w c1 c2) (ik i pc : Nat) (al : zAL) (st : List Value) (w : zW) (c1 c2 : Nat) (h : z_call M J ik i (pc + 3) al st w c1 c2) (hd : (ik = 0 ∧ decode cc pc = .ok (.invokestatic i, 3)) ∨ (ik = 1 ∧ decode cc pc = .ok (.invokevirtual i, 3)) ∨ (ik = 2 ∧ decode cc pc = .ok (.invokespecial i, 3))) : z_JJ p l e R s m args below meth c Q x b A0 ad0 n0 nL pc al st w c1 c2 := by
  intro h1 h2 h3 ad H locs ls hl hP hD hS hG
  obtain ⟨⟨hx, hb, hml, hown, hts⟩, hTT, hK, hA, hI, hX⟩ := id E
  unfold z_call at h
  split at h
  case h_2 => exact h.elim
  rename_i kd ci na mc ms sp e1
  obtain ⟨av, r, rfl, hna, h0⟩ := z_pop_ok h
  clear h
  rw [List.append_nil] at h0
  split at h0
  case h_2 => exact h0.elim
  rename_i hbo
  simp only [Bool.and_eq_true] at hbo
  obtain ⟨hkk, hcats, hrcv⟩ := hbo
  have hcats : z_cats r ≤ 8 := Nat.le_of_ble_eq_true hcats
  have hW8 : ((r.map (z_cv b ad)).map fun v => v.category).sum ≤ 8 := by rw [z_cats_eq]; exact hcats
  have hcok := O.2.2.1 _ (z_look_mem e1)
  rcases hcok with ⟨hkd, w1, w2, w3, w4, w5, w6⟩ | ⟨hkd, y, bytes, maxL, n, ret, rm, hCS, hmc, hms, hroom, hcode, hinit, hnames, hkind⟩
  · dsimp only at hkd w6
    subst hkd
    have hik := z_kk_spec hkk
    have hik2 : ik = 2 := by omega
    subst hik2
    obtain ⟨o, as, rfl⟩ := z_rcv_ref (Or.inr (Or.inr rfl)) hrcv
    have has : as = [] := by
      rw [w6] at hna
      simpa using hna
    subst has
    have hd2 : decode cc pc = .ok (.invokespecial i, 3) := by
      rcases hd with ⟨q, -⟩ | ⟨q, -⟩ | ⟨-, q⟩
      · omega
      · omega
      · exact q
    refine W.objInit (g := F0 m pc ls _) (a := ad o) (rest := r.map (z_cv b ad)) hx hb hown (hts _ (hTT _ w1)) (hts _ (hTT _ w2)) (hts _ (hTT _ w3)) rfl (by rw [hml]; exact hl.1) rfl hd2 w4 ?_ ?_
    · show 2 * 0 + _ + 12 ≤ _
      omega
    · exact hJ _ _ _ _ _ _ h0 h1 h2 h3 ad H locs ls hl hP hD hS hG
  · dsimp only at hkd hCS hmc hms hkind
    have h : z_cgo M J (pc + 3) al r w c1 c2 mc ms sp av := by
      match kd, hkd, h0 with
      | 0, _, h => exact h
      | 1, _, h => exact h
      | 2, _, h => exact h
      | 3, _, h => exact h
      | 4, _, h => exact h
      | 5, _, h => exact h
      | 6, hkd, _ => exact absurd rfl hkd
      | _ + 7, _, h => exact h
    unfold z_cgo at h
    -- what the call does, whatever its kind
    have hgo : ∃ K, sp av w K ∧ (c1 + mc ≤ R.cells ∧ c2 + ms ≤ R.slots) ∧ ∀ (r' : Option Value) (w' : zW) (ad' : Nat → Nat) (H1 : Heap) (locs1 : List Loc), K r' w' → w.1.length ≤ w'.1.length → z_AG ad ad' w.1.length mc → va_P x.1 vwCl (z_ws x ad' w') H1 → va_D A0 (z_ws x ad' w') → va_S A0 s.heap H1 locs1 → W p l e R s m args below meth c H1 locs1 (c1 + mc) (c2 + ms) Q (F0 m (pc + 3) ls ((r'.map (z_cv b ad')).toList ++ r.map (z_cv b ad))) := by
      match mc, h with
      | 0, h =>
        match ms, h with
        | _ + 1, h => exact h.elim
        | 0, h =>
          refine ⟨_, h, ⟨h1, h2⟩, fun r' w' ad' H1 locs1 hk hlen hag a1 a2 a3 => ?_⟩
          have := hag.2 rfl
          subst this
          match r', hk with
          | none, hk => exact hJ _ _ _ _ _ _ hk h1 h2 (by omega) _ H1 locs1 ls hl a1 a2 a3 hG
          | some v, hk => exact hJ _ _ _ _ _ _ hk h1 h2 (by omega) _ H1 locs1 ls hl a1 a2 a3 hG
      | mc' + 1, h =>
        obtain ⟨⟨r1, r2⟩, h⟩ := h
        rw [O.2.2.2.2.2.2.2.1] at r1
        rw [O.2.2.2.2.2.2.2.2] at r2
        split at h
        case h_2 => exact h.elim
        rename_i hwf
        simp only [Bool.and_eq_true] at hwf
        refine ⟨_, h, ⟨r1, r2⟩, fun r' w' ad' H1 locs1 hk hlen hag a1 a2 a3 => ?_⟩
        have hG' : z_AG ad0 ad' n0 R.cells := ⟨fun k hk => (hag.1 k (by omega)).trans (hG.1 k hk), fun hz => by omega⟩
        rw [← z_cvs_agree hag.1 hwf.2]
        match r', hk with
        | none, hk => exact hJ _ _ _ _ _ _ hk r1 r2 (by omega) ad' H1 locs1 ls (hl.agree hag.1 hwf.1) a1 a2 a3 hG'
        | some v, hk => exact hJ _ _ _ _ _ _ hk r1 r2 (by omega) ad' H1 locs1 ls (hl.agree hag.1 hwf.1) a1 a2 a3 hG'
    obtain ⟨K, hsp, hf, kk⟩ := hgo
    have hM := hCS x b ad av w K H.size hsp
    rw [hmc, hms] at hM
    have hfree : ∀ {a : Array Value} {st0 : List Value}, va_Run p l e R s m args below meth c H locs c1 c2 mc ms (F0 m pc ls st0) (r.map (z_cv b ad)) (z_Qc x b ad w K H.size mc a) (z_A x ad w H.size) → W p l e R s m args below meth c H locs c1 c2 Q (F0 m pc ls st0) := fun hr => z_after hr hD hS hA kk
    have S : CallFix p m c cc nL s args Ts own := E.1
    have hpre : ∀ U : State, U.heap = H → s.WarmedH U.vm → z_Pc x b ad av w H.size (av.map (z_cv b ad)).toArray U := fun U hU hWu => ⟨rfl, by rw [hU], by rw [hU]; exact hP, hK.moved hWu, hD.weaken (fun _ _ _ _ => trivial)⟩
    have hcats0 : 2 * (F0 m pc ls (((av.reverse ++ r)).map (z_cv b ad))).monitorRoom + ((r.map (z_cv b ad)).map fun v => v.category).sum ≤ 8 := lv_room hW8
    have hgw := z_good_ws (y := y) (bytes := bytes) (maxL := maxL) (ret := ret) hTT hcode
    have hst : ∀ {o : Nat} {as : List Value}, av = .ref o :: as → ((av.reverse ++ r).map (z_cv b ad)) = (as.map (z_cv b ad)).reverse ++ .ref (ad o) :: r.map (z_cv b ad) := by
      intro o as h
      subst h
      simp [z_cv]
    have hrecv : ∀ {o : Nat} {fs : List (Option (Option Nat))}, w.1[o]? = some (.inl (ci, fs)) → (∃ v, vwCl[ci]? = some v ∧ v.1 = y.cls) → ∃ cellB : Cell, H[ad o]? = some cellB ∧ cellB.vm.isStatics = false ∧ s.vm.findClass y.cls = some cellB.cls := by
      rintro o fs hw ⟨v, hv, hv2⟩
      have := va_recv hK.1 hP hv (z_ws_at (x := x) (ad := ad) hw)
      rw [hv2] at this
      exact this
    have hik := z_kk_spec hkk
    rcases hkind with ⟨k0, k1, k2, k3⟩ | ⟨k0, k1, ⟨host, k2⟩, k3⟩ | ⟨k0, k1, k4, k5, k2, k3⟩ | ⟨k0, k1, k4, k5, ⟨host, k2⟩, k3⟩ | ⟨k0, k1, k4, k2, k3, k5⟩ | ⟨k0, k1, k4, ⟨host, k2⟩, k3, k5⟩
    · have hd2 : decode cc pc = .ok (.invokestatic i, 3) := by rcases hd with ⟨-, q⟩ | ⟨q, -⟩ | ⟨q, -⟩ <;> first | exact q | omega
      refine hfree (va_runS (n := n) S hM (va_cwS n hts (z_good_app hTT (fun w hw => ?_) hgw) rfl hmc hms hnames hroom) ⟨z_Pc_blind, hpre⟩ rfl (by rw [List.length_map]; omega) hl.1 (by show (av.reverse ++ r).map (z_cv b ad) = _; simp) hcats0 hd2 hf)
      simp only [List.mem_cons, List.not_mem_nil, or_false] at hw
      rcases hw with rfl | rfl | rfl
      · exact k2
      · exact k3
      · exact hinit
    · have hd2 : decode cc pc = .ok (.invokestatic i, 3) := by rcases hd with ⟨-, q⟩ | ⟨q, -⟩ | ⟨q, -⟩ <;> first | exact q | omega
      exact hfree (va_runSN (n := n) S hM ⟨va_cnB n hts hgw rfl hmc hms (hK.2 _ k2) (hts _ (hTT _ hinit)) hnames hroom, hts _ (hTT _ k3), trivial⟩ ⟨z_Pc_blind, hpre⟩ rfl (by rw [List.length_map]; omega) hl.1 (by show (av.reverse ++ r).map (z_cv b ad) = _; simp) hcats0 hd2 hf)
    · have hd2 : decode cc pc = .ok (.invokespecial i, 3) := by rcases hd with ⟨q, -⟩ | ⟨q, -⟩ | ⟨-, q⟩ <;> first | exact q | omega
      obtain ⟨o, as, rfl⟩ := z_rcv_ref (Or.inl k0) hrcv
      subst k5
      exact hfree (va_runI (n := n) (As := as.map (z_cv b ad)) S hM (cwI n hts hgw rfl hmc hms (hts _ (hTT _ hinit)) (hts _ (hTT _ k2)) (hts _ (hTT _ k3)) k4 hnames hroom) ⟨z_Pc_blind, hpre⟩ rfl (by rw [List.length_map]; simp only [List.length_cons] at hna; omega) hl.1 (hst rfl) hcats0 hd2 hf)
    · have hd2 : decode cc pc = .ok (.invokespecial i, 3) := by rcases hd with ⟨q, -⟩ | ⟨q, -⟩ | ⟨-, q⟩ <;> first | exact q | omega
      obtain ⟨o, as, rfl⟩ := z_rcv_ref (Or.inr (Or.inl k0)) hrcv
      subst k5
      exact hfree (va_runIN (n := n) (As := as.map (z_cv b ad)) S hM ⟨va_cnB n hts hgw rfl hmc hms (hK.2 _ k2) (hts _ (hTT _ hinit)) hnames hroom, k4, hts _ (hTT _ k3)⟩ ⟨z_Pc_blind, hpre⟩ rfl (by rw [List.length_map]; simp only [List.length_cons] at hna; omega) hl.1 (hst rfl) hcats0 hd2 hf)
    · have hd2 : decode cc pc = .ok (.invokevirtual i, 3) := by rcases hd with ⟨q, -⟩ | ⟨-, q⟩ | ⟨q, -⟩ <;> first | exact q | omega
      obtain ⟨o, as, fs, rfl, hw⟩ := z_rcv_obj (Or.inl k0) hrcv
      refine hfree (va_runV (n := n) (C := y.cls) (As := as.map (z_cv b ad)) S hM (cwV n hts (z_good_app hTT (fun w hw => ?_) hgw) rfl hmc hms ⟨rfl, hnames⟩ hroom) ⟨z_Pc_blind, hrecv hw k4, hpre⟩ rfl (by rw [List.length_map]; simp only [List.length_cons] at hna; omega) hl.1 (hst rfl) hcats0 hd2 hf)
      simp only [List.mem_cons, List.not_mem_nil, or_false] at hw
      rcases hw with rfl | rfl | rfl | rfl
      · exact k2
      · exact k3
      · exact k5
      · exact hinit
    · have hd2 : decode cc pc = .ok (.invokevirtual i, 3) := by rcases hd with ⟨q, -⟩ | ⟨-, q⟩ | ⟨q, -⟩ <;> first | exact q | omega
      obtain ⟨o, as, fs, rfl, hw⟩ := z_rcv_obj (Or.inr k0) hrcv
      exact hfree (va_runVN (n := n) (C := y.cls) (As := as.map (z_cv b ad)) S hM ⟨va_cnB n hts hgw rfl hmc hms (hK.2 _ k2) (hts _ (hTT _ hinit)) hnames hroom, hts _ (hTT _ k3), hts _ (hTT _ k5)⟩ ⟨z_Pc_blind, hrecv hw k4, hpre⟩ rfl (by rw [List.length_map]; simp only [List.length_cons] at hna; omega) hl.1 (hst rfl) hcats0 hd2 hf)
/-- the walk from any row of the code on -/
theorem z_from_sub : ∀ (l : List zI) (pc : Nat), (∀ e ∈ z_from l pc, e ∈ l) ∧ ∀ e l', z_from l pc = e :: l' → e.1 = pc
  | [], pc => ⟨fun e h => h, fun e l' h => by cases h⟩
  | a :: l, pc => by
    obtain ⟨i1, i2⟩ := z_from_sub l pc
    unfold z_from
    cases h : Nat.beq a.1 pc with
    | true =>
      refine ⟨fun e he => he, fun e l' he => ?_⟩
      cases he
      exact Nat.eq_of_beq_eq_true h
    | false => exact ⟨fun e he => List.mem_cons_of_mem _ (i1 e he), i2⟩
theorem z_wp_ok (E : z_En p s m args meth c cc nL own Ts x b A0 M) (O : z_OK l own cc R M) (hR : z_Rt p l e R s m args below meth c Q x b A0 ad0 n0 cc M post) : ∀ (n : Nat) (cs : List zI) (pc : Nat) (al : zAL) (st : List Value) (w : zW) (c1 c2 : Nat), (∀ e ∈ cs, e ∈ M.1) → (∀ e l', cs = e :: l' → e.1 = pc) → z_wp M post (z_JJ p l e R s m args below meth c Q x b A0 ad0 n0 nL) n cs al st w c1 c2 → z_JJ p l e R s m args below meth c Q x b A0 ad0 n0 nL pc al st w c1 c2
  | 0, cs, pc, al, st, w, c1, c2, _, _, h => h.elim
  | n + 1, [], pc, al, st, w, c1, c2, _, _, h => h.elim
  | n + 1, (pc0, nx, tg, ins) :: cl, pc, al, st, w, c1, c2, hin, hpc, h => by
    have hpc0 : pc0 = pc := hpc _ _ rfl
    subst hpc0
    refine z_step_ok E O hR (z_call_ok E O) (J := fun pc' al' st' w' c1' c2' => z_nxt M (z_JJ p l e R s m args below meth c Q x b A0 ad0 n0 nL) (z_wp M post (z_JJ p l e R s m args below meth c Q x b A0 ad0 n0 nL) n) cl pc' al' st' w' c1' c2') (fun pc' al' st' w' c1' c2' hq => ?_) (O.1 _ (hin _ List.mem_cons_self)) h
    unfold z_nxt at hq
    have hfrom : z_wp M post (z_JJ p l e R s m args below meth c Q x b A0 ad0 n0 nL) n (z_from M.1 pc') al' st' w' c1' c2' → z_JJ p l e R s m args below meth c Q x b A0 ad0 n0 nL pc' al' st' w' c1' c2' := fun hq => z_wp_ok E O hR n _ pc' al' st' w' c1' c2' (z_from_sub M.1 pc').1 (z_from_sub M.1 pc').2 hq
    split at hq
    · obtain ⟨al2, q1, q2, q3⟩ := z_msk_ok _ _ _ hq
      intro g1 g2 g3 ad H locs ls hl
      exact q1 g1 g2 g3 ad H locs ls (hl.weaken q2 q3)
    · split at hq
      · rename_i e' l'
        split at hq
        · rename_i hbe
          refine z_wp_ok E O hR n _ pc' al' st' w' c1' c2' (fun e he => hin e (List.mem_cons_of_mem _ he)) (fun e l' he => ?_) hq
          cases he
          exact Nat.eq_of_beq_eq_true hbe
        · exact hfrom hq
      · exact hfrom hq
end ZC
/-! a method's contract out of its walk -/
def z_arl : List Value → Nat → zAL
  | [], n => List.replicate n none
  | .long a :: r, n => some (.long a) :: none :: z_arl r (n - 2)
  | .double a :: r, n => some (.double a) :: none :: z_arl r (n - 2)
  | v :: r, n => some v :: z_arl r (n - 1)
theorem z_arl_mem {b : Nat} {ad : Nat → Nat} : ∀ (vs : List Value) (n i k : Nat) (v : Value), (z_arl vs n)[k]? = some (some v) → (i + k, z_cv b ad v) ∈ lv_args i (vs.map (z_cv b ad))
  | [], n, i, k, v, h => by
    unfold z_arl at h
    rw [List.getElem?_replicate] at h
    split at h <;> simp at h
  | u :: r, n, i, k, v, h => by
    have two : ∀ (w1 : Value) (h2 : w1.category = 2), (some w1 :: none :: z_arl r (n - 2))[k]? = some (some v) → (i + k, z_cv b ad v) ∈ (i, z_cv b ad w1) :: lv_args (if (z_cv b ad w1).category = 2 then i + 2 else i + 1) (r.map (z_cv b ad)) := by
      intro w1 h2 h
      rw [z_cv_cat, if_pos h2]
      match k, h with
      | 0, h => simp only [List.getElem?_cons_zero, Option.some.injEq] at h; subst h; exact List.mem_cons_self
      | 1, h => simp at h
      | k + 2, h =>
        have := z_arl_mem (b := b) (ad := ad) r (n - 2) (i + 2) k v (by simpa using h)
        rw [show i + (k + 2) = i + 2 + k by omega]
        exact List.mem_cons_of_mem _ this
    have one : ∀ (w1 : Value) (h2 : w1.category = 1), (some w1 :: z_arl r (n - 1))[k]? = some (some v) → (i + k, z_cv b ad v) ∈ (i, z_cv b ad w1) :: lv_args (if (z_cv b ad w1).category = 2 then i + 2 else i + 1) (r.map (z_cv b ad)) := by
      intro w1 h2 h
      rw [z_cv_cat, if_neg (by omega)]
      match k, h with
      | 0, h => simp only [List.getElem?_cons_zero, Option.some.injEq] at h; subst h; exact List.mem_cons_self
      | k + 1, h =>
        have := z_arl_mem (b := b) (ad := ad) r (n - 1) (i + 1) k v (by simpa using h)
        rw [show i + (k + 1) = i + 1 + k by omega]
        exact List.mem_cons_of_mem _ this
    cases u with
    | long a => exact two _ rfl h
    | double a => exact two _ rfl h
    | int a => exact one _ rfl h
    | ref a => exact one _ rfl h
    | float a => exact one _ rfl h
    | null => exact one _ rfl h
    | retAddr a => exact one _ rfl h
def z_szs : List Value → Nat
  | [] => 0
  | v :: r => v.category + z_szs r
theorem z_szs_eq (b : Nat) (ad : Nat → Nat) : ∀ (vs : List Value), (lg_sl (vs.map (z_cv b ad))).length = z_szs vs
  | [] => rfl
  | v :: r => by
    have h := z_szs_eq b ad r
    have hc := z_cv_cat b ad v
    unfold lg_sl at h ⊢
    rw [List.map_cons, List.flatMap_cons, List.length_append, h]
    rcases lv_cat v with h1 | h1
    · rw [if_neg (by omega)]; show 1 + _ = v.category + _; omega
    · rw [if_pos (by omega)]; show 2 + _ = v.category + _; omega
theorem z_arl_len : ∀ (vs : List Value) (n : Nat), z_szs vs ≤ n → (z_arl vs n).length = n
  | [], n, _ => by simp [z_arl]
  | u :: r, n, h => by
    have two : 2 + z_szs r ≤ n → (z_arl r (n - 2)).length = n - 2 := fun h => z_arl_len r (n - 2) (by omega)
    have one : 1 + z_szs r ≤ n → (z_arl r (n - 1)).length = n - 1 := fun h => z_arl_len r (n - 1) (by omega)
    cases u with
    | long a => have := two h; show (_ :: _ :: z_arl r (n - 2)).length = n; simp only [List.length_cons]; have h' : 2 + z_szs r ≤ n := h; omega
    | double a => have := two h; show (_ :: _ :: z_arl r (n - 2)).length = n; simp only [List.length_cons]; have h' : 2 + z_szs r ≤ n := h; omega
    | int a => have := one h; show (_ :: z_arl r (n - 1)).length = n; simp only [List.length_cons]; have h' : 1 + z_szs r ≤ n := h; omega
    | ref a => have := one h; show (_ :: z_arl r (n - 1)).length = n; simp only [List.length_cons]; have h' : 1 + z_szs r ≤ n := h; omega
    | float a => have := one h; show (_ :: z_arl r (n - 1)).length = n; simp only [List.length_cons]; have h' : 1 + z_szs r ≤ n := h; omega
    | null => have := one h; show (_ :: z_arl r (n - 1)).length = n; simp only [List.length_cons]; have h' : 1 + z_szs r ≤ n := h; omega
    | retAddr a => have := one h; show (_ :: z_arl r (n - 1)).length = n; simp only [List.length_cons]; have h' : 1 + z_szs r ≤ n := h; omega
/-- what a method's walk must show: for any judgement at its cuts that the walk from there gives -/
def z_PO (M : zM) (nL : Nat) (post : Option Value → zW → Prop) (av : List Value) (w : zW) : Prop :=
  z_szs av ≤ nL ∧ ∀ Jm : zJ, (∀ (n pc : Nat) (al : zAL) (st : List Value) (w : zW) (c1 c2 : Nat), z_wp M post Jm n (z_from M.1 pc) al st w c1 c2 → Jm pc al st w c1 c2) → Jm 0 (z_arl av nL) [] w 0 0
def z_rcok (rc : Nat) (ret : Option FieldType) : Prop := (rc = 0 ∧ ret = none) ∨ (rc = 1 ∧ ret = some .int) ∨ (rc = 2 ∧ ret = some .boolean) ∨ (rc = 3 ∧ ret = some .long)
theorem z_meth {l : Launch} {y : MethodName} {cc : ByteArray} {nL : Nat} {ret : Option FieldType} {rm : Room} {sp : zSp} {M : zM} (hpl : plainName y.cls = true) (hrc : z_rcok M.2.2.2.2.2.2.1 ret) (hini : M.2.2.2.2.2.2.2.1 = true → y.name = "<init>") (hscr : M.2.2.2.2.2.2.2.2.1.1 = false) (O : z_OK l y.cls cc (headSpec (.code y cc nL ret :: zTT) rm).room M)
    (hPO : ∀ (av : List Value) (w : zW) (K : Option Value → zW → Prop), sp av w K → z_PO M nL K av w) : z_CS l y cc nL ret rm sp := by
  intro x b ad av w K sz hsp
  obtain ⟨hsz, hPO⟩ := hPO av w K hsp
  refine Met.ofW (cc := cc) (maxL := nL) (ret := ret) hpl rfl ?_
  intro p e s m args below meth c s₁ B hml hv
  obtain ⟨rfl, hsz2, hP, hK, hD0⟩ := hv
  have hx := B.exec
  have hb := B.bytes
  have hr := B.returns
  have hts := atoms_spec (ws := .code y cc nL ret :: zTT) B.pre
  have hown : s.vm.findClass y.cls = some m.cls := findClass_of_methodNamed B.named
  have hlocks := B.notSynchronized
  have hname : meth.name = y.name := (name_of_methodNamed B.named B.method).1
  subst hsz2
  have hD : va_D (z_A x ad w s.heap.size) (z_ws x ad w) := hD0.self (sz := s.heap.size)
  have hA : ∀ q : Nat, s.heap.size ≤ q → z_A x ad w s.heap.size q := fun q h => Or.inr h
  have E : z_En p s m (av.map (z_cv b ad)).toArray meth c cc nL y.cls (.code y cc nL ret :: zTT) x b (z_A x ad w s.heap.size) M := ⟨⟨hx, hb, hml, hown, hts⟩, fun w hw => List.mem_cons_of_mem _ hw, hK, hA, fun h => hname.trans (hini h), fun h => by rw [hscr] at h; cases h⟩
  have hl := lv_entry (av.map (z_cv b ad)) (n := nL) (by rw [z_szs_eq]; exact hsz)
  rw [lg_entry_eq]
  generalize (lg_sl (av.map (z_cv b ad)) ++ List.replicate (nL - (lg_sl (av.map (z_cv b ad))).length) Slot.unset).toArray = ls at hl ⊢
  have hLH : z_LH b ad ls nL (z_arl av nL) := ⟨hl.1, hl.2.1, Nat.le_of_eq (z_arl_len av nL hsz), fun i v q => by
    have := hl.2.2 _ (z_arl_mem (b := b) (ad := ad) av nL 0 i v q)
    simpa using this⟩
  have hR : z_Rt p l e (headSpec (.code y cc nL ret :: zTT) rm).room s m (av.map (z_cv b ad)).toArray below meth c (MQ below (z_Qc x b ad w K s.heap.size rm.cells) (av.map (z_cv b ad)).toArray s rm.cells rm.slots (z_A x ad w s.heap.size)) x b (z_A x ad w s.heap.size) ad w.1.length cc M K := by
    intro r w' hk ad' H locs ls' pc c1 c2 g1 g2 g3 hP' hD' hS' hG' hend
    have hq : ∀ t : State, t.heap = H → s.WarmedH t.vm → z_Qc x b ad w K s.heap.size rm.cells (av.map (z_cv b ad)).toArray s (.returned (r.map (z_cv b ad'))) t := fun t ht _ => ⟨⟨r, w', ad', rfl, hk, g3, hG', by rw [ht]; exact hP', hD'⟩, hS'.F ht⟩
    refine W.widen (k := rm.cells) (n := rm.slots) g1 g2 ?_
    rcases hend with ⟨a, rfl, hd, hz⟩ | ⟨a, rfl, hd, hz⟩ | ⟨rfl, hd, hz⟩
    · rcases hrc with ⟨q1, q2⟩ | ⟨q1, q2⟩ | ⟨q1, q2⟩ | ⟨q1, q2⟩
      · rw [q1] at hz; exact hz.elim
      · exact W.iret hx hb (hr.trans q2) hq hS'.2.2 hd
      · rw [q1] at hz
        exact W.zret hx hb (hr.trans q2) (by rcases hz with rfl | rfl <;> rfl) hq hS'.2.2 hd
      · rw [q1] at hz; exact hz.elim
    · rcases hrc with ⟨q1, q2⟩ | ⟨q1, q2⟩ | ⟨q1, q2⟩ | ⟨q1, q2⟩
      · omega
      · omega
      · omega
      · exact W.lret hx hb (hr.trans q2) hq hS'.2.2 hd
    · rcases hrc with ⟨q1, q2⟩ | ⟨q1, q2⟩ | ⟨q1, q2⟩ | ⟨q1, q2⟩
      · exact W.vret hx hb (hr.trans q2) hq hS'.2.2 hd
      · omega
      · omega
      · omega
  have key := hPO (z_JJ p l e (headSpec (.code y cc nL ret :: zTT) rm).room s m (av.map (z_cv b ad)).toArray below meth c (MQ below (z_Qc x b ad w K s.heap.size rm.cells) (av.map (z_cv b ad)).toArray s rm.cells rm.slots (z_A x ad w s.heap.size)) x b (z_A x ad w s.heap.size) ad w.1.length nL)
    (fun n pc al st w' c1 c2 h => z_wp_ok E O hR n _ pc al st w' c1 c2 (z_from_sub M.1 pc).1 (z_from_sub M.1 pc).2 h)
  exact key (Nat.zero_le _) (Nat.zero_le _) (Nat.le_refl _) ad s.heap [] ls hLH hP hD va_S.rf ⟨fun _ _ => rfl, fun _ => rfl⟩
end
section
/-- what the tables say of a method -/
def z_mb (y : MethodName) (bytes : ByteArray) (maxL : Nat) (ret : Option FieldType) (n : Nat) : Prop := Cond.code y bytes maxL ret ∈ zTT ∧ Cond.initialized y.cls ∈ zTT ∧ (y.cls ≠ "java/lang/invoke/MethodHandle" ∧ y.cls ≠ "java/lang/invoke/VarHandle" ∧ (parseMethodDescriptor y.desc).map (fun d => d.parameters.length) = some n)
section
variable {l : Launch} {own : String} {R rm : Room} {y : MethodName} {bytes : ByteArray} {maxL n i ci : Nat} {ret : Option FieldType} {sp : zSp}
theorem z_ca0 (h : z_CS l y bytes maxL ret rm sp) (mb : z_mb y bytes maxL ret n) (hl : Cond.methodLink own i y ∈ zTT) (hs : Cond.static y ∈ zTT) (hr : rm.frames + 1 ≤ R.frames ∧ 8 + (maxL + 11) + rm.locals ≤ R.locals) : z_cok l own R (i, 0, ci, n, rm.cells, rm.slots, sp) :=
  Or.inr ⟨fun h => absurd (show (0 : Nat) = 6 from h) (by decide), y, bytes, maxL, n, ret, rm, h, rfl, rfl, hr, mb.1, mb.2.1, mb.2.2, Or.inl ⟨rfl, rfl, hl, hs⟩⟩
theorem z_ca2 {host : String} (h : z_CS l y bytes maxL ret rm sp) (mb : z_mb y bytes maxL ret n) (hl : Cond.methodLinkNest own i y host ∈ zNW) (hs : Cond.static y ∈ zTT) (hr : rm.frames + 1 ≤ R.frames ∧ 8 + (maxL + 11) + rm.locals ≤ R.locals) : z_cok l own R (i, 2, ci, n, rm.cells, rm.slots, sp) :=
  Or.inr ⟨fun h => absurd (show (2 : Nat) = 6 from h) (by decide), y, bytes, maxL, n, ret, rm, h, rfl, rfl, hr, mb.1, mb.2.1, mb.2.2, Or.inr (Or.inl ⟨rfl, rfl, ⟨host, hl⟩, hs⟩)⟩
theorem z_ca1 (h : z_CS l y bytes maxL none rm sp) (mb : z_mb y bytes maxL none n) (hl : Cond.methodLink own i y ∈ zTT) (hs : Cond.instanceMethod y ∈ zTT) (hn : y.name = "<init>") (hr : rm.frames + 1 ≤ R.frames ∧ 8 + (maxL + 11) + rm.locals ≤ R.locals) : z_cok l own R (i, 1, ci, n + 1, rm.cells, rm.slots, sp) :=
  Or.inr ⟨fun h => absurd (show (1 : Nat) = 6 from h) (by decide), y, bytes, maxL, n, none, rm, h, rfl, rfl, hr, mb.1, mb.2.1, mb.2.2, Or.inr (Or.inr (Or.inl ⟨rfl, rfl, hn, rfl, hl, hs⟩))⟩
theorem z_ca3 {host : String} (h : z_CS l y bytes maxL none rm sp) (mb : z_mb y bytes maxL none n) (hl : Cond.methodLinkNest own i y host ∈ zNW) (hs : Cond.instanceMethod y ∈ zTT) (hn : y.name = "<init>") (hr : rm.frames + 1 ≤ R.frames ∧ 8 + (maxL + 11) + rm.locals ≤ R.locals) : z_cok l own R (i, 3, ci, n + 1, rm.cells, rm.slots, sp) :=
  Or.inr ⟨fun h => absurd (show (3 : Nat) = 6 from h) (by decide), y, bytes, maxL, n, none, rm, h, rfl, rfl, hr, mb.1, mb.2.1, mb.2.2, Or.inr (Or.inr (Or.inr (Or.inl ⟨rfl, rfl, hn, rfl, ⟨host, hl⟩, hs⟩)))⟩
theorem z_ca4 (h : z_CS l y bytes maxL ret rm sp) (mb : z_mb y bytes maxL ret n) (hv : ∃ v, vwCl[ci]? = some v ∧ v.1 = y.cls) (hl : Cond.methodLink own i y ∈ zTT) (hs : Cond.instanceMethod y ∈ zTT) (hq : Cond.selects y.cls y y ∈ zTT) (hr : rm.frames + 1 ≤ R.frames ∧ 8 + (maxL + 11) + rm.locals ≤ R.locals) : z_cok l own R (i, 4, ci, n + 1, rm.cells, rm.slots, sp) :=
  Or.inr ⟨fun h => absurd (show (4 : Nat) = 6 from h) (by decide), y, bytes, maxL, n, ret, rm, h, rfl, rfl, hr, mb.1, mb.2.1, mb.2.2, Or.inr (Or.inr (Or.inr (Or.inr (Or.inl ⟨rfl, rfl, hv, hl, hs, hq⟩))))⟩
theorem z_ca5 {host : String} (h : z_CS l y bytes maxL ret rm sp) (mb : z_mb y bytes maxL ret n) (hv : ∃ v, vwCl[ci]? = some v ∧ v.1 = y.cls) (hl : Cond.methodLinkNest own i y host ∈ zNW) (hs : Cond.instanceMethod y ∈ zTT) (hq : Cond.selects y.cls y y ∈ zTT) (hr : rm.frames + 1 ≤ R.frames ∧ 8 + (maxL + 11) + rm.locals ≤ R.locals) : z_cok l own R (i, 5, ci, n + 1, rm.cells, rm.slots, sp) :=
  Or.inr ⟨fun h => absurd (show (5 : Nat) = 6 from h) (by decide), y, bytes, maxL, n, ret, rm, h, rfl, rfl, hr, mb.1, mb.2.1, mb.2.2, Or.inr (Or.inr (Or.inr (Or.inr (Or.inr ⟨rfl, rfl, hv, ⟨host, hl⟩, hs, hq⟩))))⟩
theorem z_ca6 {mc ms : Nat} (hl : Cond.methodLink own i objectInit ∈ zTT) (h1 : Cond.instanceMethod objectInit ∈ zTT) (h2 : Cond.code objectInit ⟨#[0xb1]⟩ 1 none ∈ zTT) (hr : 1 ≤ R.frames ∧ 20 ≤ R.locals) : z_cok l own R (i, 6, ci, 1, mc, ms, sp) :=
  Or.inl ⟨rfl, hl, h1, h2, hr.1, hr.2, rfl⟩
end
def sp_none : zSp := fun _ _ _ => False
end
section
def k_J6_bitCount_0f7a4 : List zI := [(0, 1, 0, .iload_n 0), (1, 2, 0, .iload_n 0), (2, 3, 1, .iconst 1), (3, 4, 0, .iushr), (4, 7, 0, .ldc_w 265), (7, 8, 0, .iand), (8, 9, 0, .isub), (9, 10, 0, .istore_n 0), (10, 11, 0, .iload_n 0), (11, 14, 0, .ldc_w 266), (14, 15, 0, .iand), (15, 16, 0, .iload_n 0), (16, 17, 2, .iconst 2), (17, 18, 0, .iushr), (18, 21, 0, .ldc_w 266), (21, 22, 0, .iand), (22, 23, 0, .iadd), (23, 24, 0, .istore_n 0), (24, 25, 0, .iload_n 0), (25, 26, 0, .iload_n 0), (26, 27, 4, .iconst 4), (27, 28, 0, .iushr), (28, 29, 0, .iadd), (29, 32, 0, .ldc_w 267), (32, 33, 0, .iand), (33, 34, 0, .istore_n 0), (34, 35, 0, .iload_n 0), (35, 36, 0, .iload_n 0), (36, 38, 8, .bipush 8), (38, 39, 0, .iushr), (39, 40, 0, .iadd), (40, 41, 0, .istore_n 0), (41, 42, 0, .iload_n 0), (42, 43, 0, .iload_n 0), (43, 45, 16, .bipush 16), (45, 46, 0, .iushr), (46, 47, 0, .iadd), (47, 48, 0, .istore_n 0), (48, 49, 0, .iload_n 0), (49, 51, 63, .bipush 63), (51, 52, 0, .iand), (52, 53, 0, .ireturn)]
theorem ok_J6_bitCount_0f7a4 : ∀ e ∈ k_J6_bitCount_0f7a4, z_okb cJ6_bitCount_0f7a4 e = true := fun e h => List.all_eq_true.mp (by decide +kernel : k_J6_bitCount_0f7a4.all (z_okb cJ6_bitCount_0f7a4) = true) e h
def k_J9_floorMod_7cf53 : List zI := [(0, 1, 0, .iload_n 0), (1, 2, 0, .iload_n 1), (2, 3, 0, .irem), (3, 4, 0, .istore_n 2), (4, 5, 0, .iload_n 0), (5, 6, 0, .iload_n 1), (6, 7, 0, .ixor), (7, 10, 18, .ifCond .ge 11), (10, 11, 0, .iload_n 2), (11, 14, 18, .ifCond .eq 7), (14, 15, 0, .iload_n 2), (15, 16, 0, .iload_n 1), (16, 17, 0, .iadd), (17, 18, 0, .ireturn), (18, 19, 0, .iload_n 2), (19, 20, 0, .ireturn)]
theorem ok_J9_floorMod_7cf53 : ∀ e ∈ k_J9_floorMod_7cf53, z_okb cJ9_floorMod_7cf53 e = true := fun e h => List.all_eq_true.mp (by decide +kernel : k_J9_floorMod_7cf53.all (z_okb cJ9_floorMod_7cf53) = true) e h
def k_J13_bitCount_95d88 : List zI := [(0, 1, 0, .lload_n 0), (1, 2, 0, .lload_n 0), (2, 3, 1, .iconst 1), (3, 4, 0, .lushr), (4, 7, 0, .ldc2_w 314), (7, 8, 0, .land), (8, 9, 0, .lsub), (9, 10, 0, .lstore_n 0), (10, 11, 0, .lload_n 0), (11, 14, 0, .ldc2_w 316), (14, 15, 0, .land), (15, 16, 0, .lload_n 0), (16, 17, 2, .iconst 2), (17, 18, 0, .lushr), (18, 21, 0, .ldc2_w 316), (21, 22, 0, .land), (22, 23, 0, .ladd), (23, 24, 0, .lstore_n 0), (24, 25, 0, .lload_n 0), (25, 26, 0, .lload_n 0), (26, 27, 4, .iconst 4), (27, 28, 0, .lushr), (28, 29, 0, .ladd), (29, 32, 0, .ldc2_w 318), (32, 33, 0, .land), (33, 34, 0, .lstore_n 0), (34, 35, 0, .lload_n 0), (35, 36, 0, .lload_n 0), (36, 38, 8, .bipush 8), (38, 39, 0, .lushr), (39, 40, 0, .ladd), (40, 41, 0, .lstore_n 0), (41, 42, 0, .lload_n 0), (42, 43, 0, .lload_n 0), (43, 45, 16, .bipush 16), (45, 46, 0, .lushr), (46, 47, 0, .ladd), (47, 48, 0, .lstore_n 0), (48, 49, 0, .lload_n 0), (49, 50, 0, .lload_n 0), (50, 52, 32, .bipush 32), (52, 53, 0, .lushr), (53, 54, 0, .ladd), (54, 55, 0, .lstore_n 0), (55, 56, 0, .lload_n 0), (56, 57, 0, .l2i), (57, 59, 127, .bipush 127), (59, 60, 0, .iand), (60, 61, 0, .ireturn)]
theorem ok_J13_bitCount_95d88 : ∀ e ∈ k_J13_bitCount_95d88, z_okb cJ13_bitCount_95d88 e = true := fun e h => List.all_eq_true.mp (by decide +kernel : k_J13_bitCount_95d88.all (z_okb cJ13_bitCount_95d88) = true) e h
def k_X0_init : List zI := [(0, 1, 0, .aload_n 0), (1, 4, 0, .invokespecial 3), (4, 5, 0, .aload_n 0), (5, 8, 0, .new 9), (8, 9, 0, .dup), (9, 11, 9, .bipush 9), (11, 14, 0, .invokespecial 11), (14, 17, 0, .putfield 14), (17, 18, 0, .aload_n 0), (18, 21, 0, .new 9), (21, 22, 0, .dup), (22, 24, 9, .bipush 9), (24, 27, 0, .invokespecial 11), (27, 30, 0, .putfield 20), (30, 31, 0, .aload_n 0), (31, 34, 0, .new 9), (34, 35, 0, .dup), (35, 37, 9, .bipush 9), (37, 40, 0, .invokespecial 11), (40, 43, 0, .putfield 23), (43, 44, 0, .return_)]
theorem ok_X0_init : ∀ e ∈ k_X0_init, z_okb cX0_init e = true := fun e h => List.all_eq_true.mp (by decide +kernel : k_X0_init.all (z_okb cX0_init) = true) e h
def k_X0_start : List zI := [(0, 1, 0, .aload_n 0), (1, 2, 0, .iload_n 1), (2, 5, 0, .putfield 26), (5, 6, 0, .aload_n 0), (6, 7, 0, .iconst 0), (7, 10, 0, .putfield 30), (10, 11, 0, .return_)]
theorem ok_X0_start : ∀ e ∈ k_X0_start, z_okb cX0_start e = true := fun e h => List.all_eq_true.mp (by decide +kernel : k_X0_start.all (z_okb cX0_start) = true) e h
def k_X0_take_0 : List zI := [(0, 1, 0, .aload_n 0), (1, 2, 0, .iload_n 1), (2, 5, 0, .invokevirtual 33), (5, 6, 0, .aload_n 0), (6, 9, 0, .getfield 36), (9, 12, 21, .ifCond .eq 12), (12, 13, 0, .aload_n 0), (13, 16, 0, .getfield 30), (16, 18, 9, .bipush 9), (18, 21, 23, .if_icmp .lt 5), (21, 22, 0, .iconst 0), (22, 23, 0, .ireturn), (23, 24, 0, .aload_n 0), (24, 27, 0, .getfield 36), (27, 30, 0, .invokestatic 39), (30, 31, 0, .istore_n 2), (31, 32, 0, .aload_n 0), (32, 35, 0, .getfield 36), (35, 36, 0, .iload_n 2), (36, 39, 0, .invokestatic 43), (39, 40, 0, .istore_n 3), (40, 41, 0, .aload_n 0), (41, 44, 0, .getfield 14), (44, 45, 0, .aload_n 0), (45, 48, 0, .getfield 30), (48, 49, 0, .iload_n 3), (49, 50, 0, .aload_n 0), (50, 53, 0, .getfield 36), (53, 56, 0, .invokestatic 49), (56, 59, 0, .invokevirtual 52), (59, 60, 0, .aload_n 0), (60, 63, 0, .getfield 20), (63, 64, 0, .aload_n 0), (64, 67, 0, .getfield 30), (67, 68, 0, .iload_n 3), (68, 69, 0, .iconst 0), (69, 70, 0, .aload_n 0), (70, 73, 0, .getfield 30), (73, 74, 1, .iconst 1), (74, 77, 0, .invokestatic 56)]
theorem ok_X0_take_0 : ∀ e ∈ k_X0_take_0, z_okb cX0_take e = true := fun e h => List.all_eq_true.mp (by decide +kernel : k_X0_take_0.all (z_okb cX0_take) = true) e h
def k_X0_take_1 : List zI := [(77, 78, 0, .aload_n 0), (78, 81, 0, .getfield 60), (81, 82, 0, .aload_n 0), (82, 85, 0, .getfield 26), (85, 88, 0, .invokestatic 63), (88, 91, 0, .invokestatic 49), (91, 94, 0, .invokevirtual 52), (94, 95, 0, .aload_n 0), (95, 98, 0, .getfield 23), (98, 99, 0, .aload_n 0), (99, 102, 0, .getfield 30), (102, 103, 0, .iload_n 2), (103, 106, 0, .invokevirtual 52), (106, 107, 0, .aload_n 0), (107, 108, 0, .dup), (108, 111, 0, .getfield 30), (111, 112, 1, .iconst 1), (112, 113, 0, .iadd), (113, 116, 0, .putfield 30), (116, 117, 1, .iconst 1), (117, 118, 0, .ireturn)]
theorem ok_X0_take_1 : ∀ e ∈ k_X0_take_1, z_okb cX0_take e = true := fun e h => List.all_eq_true.mp (by decide +kernel : k_X0_take_1.all (z_okb cX0_take) = true) e h
def k_X0_take : List zI := k_X0_take_0 ++ (k_X0_take_1)
theorem ok_X0_take : ∀ e ∈ k_X0_take, z_okb cX0_take e = true := List.forall_mem_append.mpr ⟨ok_X0_take_0, ok_X0_take_1⟩
def k_X0_isSum : List zI := [(0, 1, 0, .aload_n 0), (1, 2, 0, .iload_n 1), (2, 5, 0, .invokevirtual 33), (5, 6, 0, .aload_n 0), (6, 9, 0, .getfield 36), (9, 12, 16, .ifCond .ne 7), (12, 13, 1, .iconst 1), (13, 16, 17, .goto 4), (16, 17, 0, .iconst 0), (17, 18, 0, .ireturn)]
theorem ok_X0_isSum : ∀ e ∈ k_X0_isSum, z_okb cX0_isSum e = true := fun e h => List.all_eq_true.mp (by decide +kernel : k_X0_isSum.all (z_okb cX0_isSum) = true) e h
def k_X0_reduce_0 : List zI := [(0, 1, 0, .aload_n 0), (1, 2, 0, .iload_n 1), (2, 5, 0, .putfield 36), (5, 6, 0, .aload_n 0), (6, 7, 0, .iconst 0), (7, 10, 0, .putfield 60), (10, 11, 0, .iconst 0), (11, 12, 0, .istore_n 2), (12, 13, 0, .iload_n 2), (13, 14, 0, .aload_n 0), (14, 17, 0, .getfield 30), (17, 20, 100, .if_icmp .ge 83), (20, 21, 0, .aload_n 0), (21, 24, 0, .getfield 36), (24, 25, 0, .aload_n 0), (25, 28, 0, .getfield 23), (28, 29, 0, .iload_n 2), (29, 32, 0, .invokevirtual 66), (32, 35, 0, .invokestatic 43), (35, 36, 0, .istore_n 3), (36, 37, 0, .iload_n 3), (37, 40, 94, .ifCond .eq 57), (40, 41, 0, .aload_n 0), (41, 42, 0, .aload_n 0), (42, 45, 0, .getfield 36), (45, 46, 0, .iload_n 3), (46, 47, 0, .aload_n 0), (47, 50, 0, .getfield 14), (50, 51, 0, .iload_n 2), (51, 54, 0, .invokevirtual 66), (54, 57, 0, .invokestatic 49), (57, 58, 0, .aload_n 0), (58, 61, 0, .getfield 26), (61, 64, 0, .invokestatic 63), (64, 67, 0, .putfield 36), (67, 68, 0, .aload_n 0), (68, 69, 0, .aload_n 0), (69, 72, 0, .getfield 60), (72, 73, 0, .iload_n 3), (73, 74, 0, .aload_n 0)]
theorem ok_X0_reduce_0 : ∀ e ∈ k_X0_reduce_0, z_okb cX0_reduce e = true := fun e h => List.all_eq_true.mp (by decide +kernel : k_X0_reduce_0.all (z_okb cX0_reduce) = true) e h
def k_X0_reduce_1 : List zI := [(74, 77, 0, .getfield 20), (77, 78, 0, .iload_n 2), (78, 81, 0, .invokevirtual 66), (81, 84, 0, .invokestatic 49), (84, 85, 0, .aload_n 0), (85, 88, 0, .getfield 26), (88, 91, 0, .invokestatic 69), (91, 94, 0, .putfield 60), (94, 97, 1, .iinc 2 1), (97, 100, 12, .goto (-85)), (100, 101, 0, .return_)]
theorem ok_X0_reduce_1 : ∀ e ∈ k_X0_reduce_1, z_okb cX0_reduce e = true := fun e h => List.all_eq_true.mp (by decide +kernel : k_X0_reduce_1.all (z_okb cX0_reduce) = true) e h
def k_X0_reduce : List zI := k_X0_reduce_0 ++ (k_X0_reduce_1)
theorem ok_X0_reduce : ∀ e ∈ k_X0_reduce, z_okb cX0_reduce e = true := List.forall_mem_append.mpr ⟨ok_X0_reduce_0, ok_X0_reduce_1⟩
def k_X0_firstPlace : List zI := [(0, 1, 0, .iconst 0), (1, 2, 0, .istore_n 1), (2, 3, 0, .iload_n 1), (3, 5, 9, .bipush 9), (5, 8, 24, .if_icmp .ge 19), (8, 9, 0, .iload_n 0), (9, 10, 0, .iload_n 1), (10, 13, 0, .invokestatic 43), (13, 16, 18, .ifCond .eq 5), (16, 17, 0, .iload_n 1), (17, 18, 0, .ireturn), (18, 21, 1, .iinc 1 1), (21, 24, 2, .goto (-19)), (24, 25, 0, .iconst 0), (25, 26, 0, .ireturn)]
theorem ok_X0_firstPlace : ∀ e ∈ k_X0_firstPlace, z_okb cX0_firstPlace e = true := fun e h => List.all_eq_true.mp (by decide +kernel : k_X0_firstPlace.all (z_okb cX0_firstPlace) = true) e h
def k_X1_init : List zI := [(0, 1, 0, .aload_n 0), (1, 4, 0, .invokespecial 3), (4, 5, 0, .aload_n 0), (5, 8, 0, .new 9), (8, 9, 0, .dup), (9, 11, 18, .bipush 18), (11, 14, 0, .invokespecial 11), (14, 17, 0, .putfield 14), (17, 18, 0, .return_)]
theorem ok_X1_init : ∀ e ∈ k_X1_init, z_okb cX1_init e = true := fun e h => List.all_eq_true.mp (by decide +kernel : k_X1_init.all (z_okb cX1_init) = true) e h
def k_X1_comesAt_0 : List zI := [(0, 1, 0, .iconst 0), (1, 2, 0, .istore_n 3), (2, 3, 0, .iconst 0), (3, 5, 0, .istore 4), (5, 7, 0, .iload 4), (7, 8, 0, .aload_n 1), (8, 11, 0, .getfield 20), (11, 14, 98, .if_icmp .ge 87), (14, 15, 0, .aload_n 1), (15, 17, 0, .iload 4), (17, 18, 2, .iconst 2), (18, 21, 0, .invokevirtual 26), (21, 22, 0, .iload_n 2), (22, 25, 0, .invokestatic 30), (25, 27, 0, .istore 5), (27, 29, 0, .iload 5), (29, 32, 92, .ifCond .eq 63), (32, 33, 0, .aload_n 0), (33, 34, 0, .aload_n 1), (34, 36, 0, .iload 4), (36, 37, 0, .iconst 0), (37, 40, 0, .invokevirtual 26), (40, 41, 0, .iconst 0), (41, 42, 0, .aload_n 1), (42, 43, 0, .iconst 0), (43, 46, 0, .invokevirtual 35), (46, 49, 0, .invokevirtual 39), (49, 51, 0, .istore 6), (51, 52, 0, .aload_n 0), (52, 53, 0, .aload_n 1), (53, 55, 0, .iload 4), (55, 56, 1, .iconst 1), (56, 59, 0, .invokevirtual 26), (59, 60, 0, .aload_n 1), (60, 61, 0, .iconst 0), (61, 64, 0, .invokevirtual 35), (64, 65, 0, .aload_n 1), (65, 66, 1, .iconst 1), (66, 69, 0, .invokevirtual 35), (69, 72, 0, .invokevirtual 39)]
theorem ok_X1_comesAt_0 : ∀ e ∈ k_X1_comesAt_0, z_okb cX1_comesAt e = true := fun e h => List.all_eq_true.mp (by decide +kernel : k_X1_comesAt_0.all (z_okb cX1_comesAt) = true) e h
def k_X1_comesAt_1 : List zI := [(72, 74, 0, .istore 7), (74, 75, 0, .iload_n 3), (75, 77, 0, .iload 6), (77, 79, 0, .iload 7), (79, 80, 0, .imul), (80, 81, 0, .aload_n 1), (81, 84, 0, .getfield 43), (84, 87, 0, .invokestatic 46), (87, 89, 0, .iload 5), (89, 90, 0, .imul), (90, 91, 0, .iadd), (91, 92, 0, .istore_n 3), (92, 95, 1, .iinc 4 1), (95, 98, 5, .goto (-90)), (98, 99, 0, .iload_n 3), (99, 100, 0, .aload_n 1), (100, 103, 0, .getfield 43), (103, 106, 0, .invokestatic 46), (106, 107, 0, .ireturn)]
theorem ok_X1_comesAt_1 : ∀ e ∈ k_X1_comesAt_1, z_okb cX1_comesAt e = true := fun e h => List.all_eq_true.mp (by decide +kernel : k_X1_comesAt_1.all (z_okb cX1_comesAt) = true) e h
def k_X1_comesAt : List zI := k_X1_comesAt_0 ++ (k_X1_comesAt_1)
theorem ok_X1_comesAt : ∀ e ∈ k_X1_comesAt, z_okb cX1_comesAt e = true := List.forall_mem_append.mpr ⟨ok_X1_comesAt_0, ok_X1_comesAt_1⟩
def k_X1_weigh : List zI := [(0, 1, 0, .iconst 0), (1, 3, 0, .istore 4), (3, 4, 0, .iconst 0), (4, 6, 0, .istore 5), (6, 8, 0, .iload 5), (8, 9, 0, .iload_n 3), (9, 12, 41, .if_icmp .ge 32), (12, 14, 0, .iload 4), (14, 15, 0, .iload_n 1), (15, 17, 0, .iload 5), (17, 20, 0, .invokestatic 30), (20, 21, 0, .aload_n 0), (21, 24, 0, .getfield 14), (24, 25, 0, .iload_n 2), (25, 27, 0, .iload 5), (27, 28, 0, .iadd), (28, 31, 0, .invokevirtual 49), (31, 32, 0, .imul), (32, 33, 0, .iadd), (33, 35, 0, .istore 4), (35, 38, 1, .iinc 5 1), (38, 41, 6, .goto (-32)), (41, 43, 0, .iload 4), (43, 44, 0, .ireturn)]
theorem ok_X1_weigh : ∀ e ∈ k_X1_weigh, z_okb cX1_weigh e = true := fun e h => List.all_eq_true.mp (by decide +kernel : k_X1_weigh.all (z_okb cX1_weigh) = true) e h
def k_X1_dueAt_0 : List zI := [(0, 1, 0, .aload_n 1), (1, 2, 2, .iconst 2), (2, 3, 0, .iload_n 2), (3, 6, 0, .invokevirtual 52), (6, 7, 0, .istore_n 3), (7, 8, 0, .aload_n 1), (8, 9, 2, .iconst 2), (9, 10, 0, .iload_n 2), (10, 13, 0, .invokevirtual 55), (13, 15, 0, .istore 4), (15, 16, 0, .iconst 0), (16, 18, 0, .istore 5), (18, 19, 0, .iconst 0), (19, 21, 0, .istore 6), (21, 23, 0, .iload 6), (23, 24, 0, .aload_n 1), (24, 27, 0, .getfield 58), (27, 30, 81, .if_icmp .ge 54), (30, 32, 0, .iload 5), (32, 33, 0, .aload_n 0), (33, 36, 0, .getfield 14), (36, 37, 0, .iload_n 3), (37, 38, 0, .aload_n 1), (38, 41, 0, .getfield 58), (41, 42, 0, .imul), (42, 44, 0, .iload 6), (44, 45, 0, .iadd), (45, 48, 0, .invokevirtual 49), (48, 49, 0, .aload_n 0), (49, 52, 0, .getfield 14), (52, 53, 0, .aload_n 1), (53, 54, 0, .iconst 0), (54, 57, 0, .invokevirtual 35), (57, 59, 0, .iload 6), (59, 60, 0, .aload_n 1), (60, 63, 0, .getfield 61), (63, 64, 0, .imul), (64, 65, 0, .iadd), (65, 67, 0, .iload 4), (67, 68, 0, .iadd)]
theorem ok_X1_dueAt_0 : ∀ e ∈ k_X1_dueAt_0, z_okb cX1_dueAt e = true := fun e h => List.all_eq_true.mp (by decide +kernel : k_X1_dueAt_0.all (z_okb cX1_dueAt) = true) e h
def k_X1_dueAt_1 : List zI := [(68, 71, 0, .invokevirtual 49), (71, 72, 0, .imul), (72, 73, 0, .iadd), (73, 75, 0, .istore 5), (75, 78, 1, .iinc 6 1), (78, 81, 21, .goto (-57)), (81, 83, 0, .iload 5), (83, 84, 0, .aload_n 1), (84, 87, 0, .getfield 43), (87, 90, 0, .invokestatic 46), (90, 91, 0, .ireturn)]
theorem ok_X1_dueAt_1 : ∀ e ∈ k_X1_dueAt_1, z_okb cX1_dueAt e = true := fun e h => List.all_eq_true.mp (by decide +kernel : k_X1_dueAt_1.all (z_okb cX1_dueAt) = true) e h
def k_X1_dueAt : List zI := k_X1_dueAt_0 ++ (k_X1_dueAt_1)
theorem ok_X1_dueAt : ∀ e ∈ k_X1_dueAt, z_okb cX1_dueAt e = true := List.forall_mem_append.mpr ⟨ok_X1_dueAt_0, ok_X1_dueAt_1⟩
def k_X2_mod : List zI := [(0, 1, 0, .iload_n 1), (1, 2, 3, .iconst 3), (2, 5, 13, .if_icmp .ne 11), (5, 6, 0, .iload_n 0), (6, 7, 3, .iconst 3), (7, 10, 0, .invokestatic 9), (10, 13, 16, .goto 6), (13, 14, 0, .iload_n 0), (14, 15, 1, .iconst 1), (15, 16, 0, .iand), (16, 17, 0, .ireturn)]
theorem ok_X2_mod : ∀ e ∈ k_X2_mod, z_okb cX2_mod e = true := fun e h => List.all_eq_true.mp (by decide +kernel : k_X2_mod.all (z_okb cX2_mod) = true) e h
def k_X2_numberAt : List zI := [(0, 1, 0, .iload_n 0), (1, 2, 0, .iload_n 1), (2, 3, 0, .ishr), (3, 4, 1, .iconst 1), (4, 5, 0, .iand), (5, 6, 2, .iconst 2), (6, 7, 0, .iload_n 0), (7, 8, 0, .iload_n 1), (8, 10, 9, .bipush 9), (10, 11, 0, .iadd), (11, 12, 0, .ishr), (12, 13, 1, .iconst 1), (13, 14, 0, .iand), (14, 15, 0, .imul), (15, 16, 0, .iadd), (16, 17, 0, .ireturn)]
theorem ok_X2_numberAt : ∀ e ∈ k_X2_numberAt, z_okb cX2_numberAt e = true := fun e h => List.all_eq_true.mp (by decide +kernel : k_X2_numberAt.all (z_okb cX2_numberAt) = true) e h
def k_X2_with : List zI := [(0, 1, 1, .iconst 1), (1, 2, 0, .iload_n 1), (2, 3, 0, .ishl), (3, 4, 0, .istore_n 3), (4, 5, 1, .iconst 1), (5, 6, 0, .iload_n 1), (6, 8, 9, .bipush 9), (8, 9, 0, .iadd), (9, 10, 0, .ishl), (10, 12, 0, .istore 4), (12, 13, 0, .iload_n 0), (13, 14, 0, .iload_n 3), (14, 16, 0, .iload 4), (16, 17, 0, .ior), (17, 18, 1, .iconst (-1)), (18, 19, 0, .ixor), (19, 20, 0, .iand), (20, 22, 0, .istore 5), (22, 23, 0, .iload_n 2), (23, 24, 1, .iconst 1), (24, 27, 32, .if_icmp .ne 8), (27, 29, 0, .iload 5), (29, 30, 0, .iload_n 3), (30, 31, 0, .ior), (31, 32, 0, .ireturn), (32, 33, 0, .iload_n 2), (33, 34, 2, .iconst 2), (34, 37, 45, .if_icmp .ne 11), (37, 39, 0, .iload 5), (39, 41, 0, .iload 4), (41, 42, 0, .ior), (42, 45, 47, .goto 5), (45, 47, 0, .iload 5), (47, 48, 0, .ireturn)]
theorem ok_X2_with : ∀ e ∈ k_X2_with, z_okb cX2_with e = true := fun e h => List.all_eq_true.mp (by decide +kernel : k_X2_with.all (z_okb cX2_with) = true) e h
def k_X2_sum_0 : List zI := [(0, 1, 0, .iload_n 2), (1, 2, 2, .iconst 2), (2, 5, 9, .if_icmp .ne 7), (5, 6, 0, .iload_n 0), (6, 7, 0, .iload_n 1), (7, 8, 0, .ixor), (8, 9, 0, .ireturn), (9, 10, 0, .iload_n 0), (10, 13, 511, .sipush 511), (13, 14, 0, .iand), (14, 15, 0, .istore_n 3), (15, 16, 0, .iload_n 0), (16, 18, 9, .bipush 9), (18, 19, 0, .ishr), (19, 21, 0, .istore 4), (21, 22, 0, .iload_n 1), (22, 25, 511, .sipush 511), (25, 26, 0, .iand), (26, 28, 0, .istore 5), (28, 29, 0, .iload_n 1), (29, 31, 9, .bipush 9), (31, 32, 0, .ishr), (32, 34, 0, .istore 6), (34, 35, 0, .iload_n 3), (35, 37, 0, .iload 5), (37, 39, 0, .iload 6), (39, 40, 0, .ior), (40, 41, 1, .iconst (-1)), (41, 42, 0, .ixor), (42, 43, 0, .iand), (43, 45, 0, .iload 5), (45, 46, 0, .iload_n 3), (46, 48, 0, .iload 4), (48, 49, 0, .ior), (49, 50, 1, .iconst (-1)), (50, 51, 0, .ixor), (51, 52, 0, .iand), (52, 53, 0, .ior), (53, 55, 0, .iload 4), (55, 57, 0, .iload 6)]
theorem ok_X2_sum_0 : ∀ e ∈ k_X2_sum_0, z_okb cX2_sum e = true := fun e h => List.all_eq_true.mp (by decide +kernel : k_X2_sum_0.all (z_okb cX2_sum) = true) e h
def k_X2_sum_1 : List zI := [(57, 58, 0, .iand), (58, 59, 0, .ior), (59, 61, 0, .istore 7), (61, 63, 0, .iload 4), (63, 65, 0, .iload 5), (65, 67, 0, .iload 6), (67, 68, 0, .ior), (68, 69, 1, .iconst (-1)), (69, 70, 0, .ixor), (70, 71, 0, .iand), (71, 73, 0, .iload 6), (73, 74, 0, .iload_n 3), (74, 76, 0, .iload 4), (76, 77, 0, .ior), (77, 78, 1, .iconst (-1)), (78, 79, 0, .ixor), (79, 80, 0, .iand), (80, 81, 0, .ior), (81, 82, 0, .iload_n 3), (82, 84, 0, .iload 5), (84, 85, 0, .iand), (85, 86, 0, .ior), (86, 88, 0, .istore 8), (88, 90, 0, .iload 7), (90, 92, 0, .iload 8), (92, 94, 9, .bipush 9), (94, 95, 0, .ishl), (95, 96, 0, .ior), (96, 97, 0, .ireturn)]
theorem ok_X2_sum_1 : ∀ e ∈ k_X2_sum_1, z_okb cX2_sum e = true := fun e h => List.all_eq_true.mp (by decide +kernel : k_X2_sum_1.all (z_okb cX2_sum) = true) e h
def k_X2_sum : List zI := k_X2_sum_0 ++ (k_X2_sum_1)
theorem ok_X2_sum : ∀ e ∈ k_X2_sum, z_okb cX2_sum e = true := List.forall_mem_append.mpr ⟨ok_X2_sum_0, ok_X2_sum_1⟩
def k_X2_times : List zI := [(0, 1, 0, .iload_n 0), (1, 2, 2, .iconst 2), (2, 5, 19, .if_icmp .ne 17), (5, 6, 0, .iload_n 1), (6, 8, 9, .bipush 9), (8, 9, 0, .ishr), (9, 10, 0, .iload_n 1), (10, 13, 511, .sipush 511), (13, 14, 0, .iand), (14, 16, 9, .bipush 9), (16, 17, 0, .ishl), (17, 18, 0, .ior), (18, 19, 0, .ireturn), (19, 20, 0, .iload_n 0), (20, 21, 1, .iconst 1), (21, 24, 28, .if_icmp .ne 7), (24, 25, 0, .iload_n 1), (25, 28, 29, .goto 4), (28, 29, 0, .iconst 0), (29, 30, 0, .ireturn)]
theorem ok_X2_times : ∀ e ∈ k_X2_times, z_okb cX2_times e = true := fun e h => List.all_eq_true.mp (by decide +kernel : k_X2_times.all (z_okb cX2_times) = true) e h
def k_X2_less : List zI := [(0, 1, 0, .iload_n 0), (1, 2, 0, .iload_n 2), (2, 3, 1, .iconst 1), (3, 4, 0, .isub), (4, 5, 0, .iload_n 1), (5, 8, 0, .invokestatic 17), (8, 9, 0, .iload_n 2), (9, 12, 0, .invokestatic 20), (12, 13, 0, .ireturn)]
theorem ok_X2_less : ∀ e ∈ k_X2_less, z_okb cX2_less e = true := fun e h => List.all_eq_true.mp (by decide +kernel : k_X2_less.all (z_okb cX2_less) = true) e h
def k_X2_likeBy : List zI := [(0, 1, 0, .iload_n 0), (1, 4, 8, .ifCond .eq 7), (4, 5, 0, .iload_n 1), (5, 8, 10, .ifCond .ne 5), (8, 9, 0, .iconst 0), (9, 10, 0, .ireturn), (10, 11, 0, .iload_n 0), (11, 12, 0, .iload_n 1), (12, 15, 17, .if_icmp .ne 5), (15, 16, 1, .iconst 1), (16, 17, 0, .ireturn), (17, 18, 0, .iload_n 2), (18, 19, 3, .iconst 3), (19, 22, 35, .if_icmp .ne 16), (22, 23, 2, .iconst 2), (23, 24, 0, .iload_n 0), (24, 27, 0, .invokestatic 17), (27, 28, 0, .iload_n 1), (28, 31, 35, .if_icmp .ne 7), (31, 32, 2, .iconst 2), (32, 35, 36, .goto 4), (35, 36, 0, .iconst 0), (36, 37, 0, .ireturn)]
theorem ok_X2_likeBy : ∀ e ∈ k_X2_likeBy, z_okb cX2_likeBy e = true := fun e h => List.all_eq_true.mp (by decide +kernel : k_X2_likeBy.all (z_okb cX2_likeBy) = true) e h
def k_X2_code : List zI := [(0, 1, 0, .iconst 0), (1, 2, 0, .istore_n 2), (2, 4, 8, .bipush 8), (4, 5, 0, .istore_n 3), (5, 6, 0, .iload_n 3), (6, 9, 25, .ifCond .lt 19), (9, 10, 0, .iload_n 2), (10, 11, 0, .iload_n 1), (11, 12, 0, .imul), (12, 13, 0, .iload_n 0), (13, 14, 0, .iload_n 3), (14, 17, 0, .invokestatic 24), (17, 18, 0, .iadd), (18, 19, 0, .istore_n 2), (19, 22, 1, .iinc 3 (-1)), (22, 25, 5, .goto (-17)), (25, 26, 0, .iload_n 2), (26, 27, 0, .ireturn)]
theorem ok_X2_code : ∀ e ∈ k_X2_code, z_okb cX2_code e = true := fun e h => List.all_eq_true.mp (by decide +kernel : k_X2_code.all (z_okb cX2_code) = true) e h
def k_X2_placesOf : List zI := [(0, 1, 0, .iload_n 0), (1, 2, 0, .iload_n 0), (2, 4, 9, .bipush 9), (4, 5, 0, .ishr), (5, 6, 0, .ior), (6, 9, 511, .sipush 511), (9, 10, 0, .iand), (10, 11, 0, .ireturn)]
theorem ok_X2_placesOf : ∀ e ∈ k_X2_placesOf, z_okb cX2_placesOf e = true := fun e h => List.all_eq_true.mp (by decide +kernel : k_X2_placesOf.all (z_okb cX2_placesOf) = true) e h
def k_X3_init : List zI := [(0, 1, 0, .aload_n 0), (1, 4, 0, .invokespecial 1), (4, 5, 0, .aload_n 0), (5, 6, 0, .iload_n 1), (6, 9, 13, .ifCond .le 7), (9, 10, 0, .iload_n 1), (10, 13, 14, .goto 4), (13, 14, 0, .iconst 0), (14, 16, 0, .newarray .int), (16, 19, 0, .putfield 7), (19, 20, 0, .return_)]
theorem ok_X3_init : ∀ e ∈ k_X3_init, z_okb cX3_init e = true := fun e h => List.all_eq_true.mp (by decide +kernel : k_X3_init.all (z_okb cX3_init) = true) e h
def k_X3_at : List zI := [(0, 1, 0, .iload_n 1), (1, 4, 22, .ifCond .lt 21), (4, 5, 0, .iload_n 1), (5, 6, 0, .aload_n 0), (6, 9, 0, .getfield 7), (9, 10, 0, .arraylength), (10, 13, 22, .if_icmp .ge 12), (13, 14, 0, .aload_n 0), (14, 17, 0, .getfield 7), (17, 18, 0, .iload_n 1), (18, 19, 0, .iaload), (19, 22, 23, .goto 4), (22, 23, 0, .iconst 0), (23, 24, 0, .ireturn)]
theorem ok_X3_at : ∀ e ∈ k_X3_at, z_okb cX3_at e = true := fun e h => List.all_eq_true.mp (by decide +kernel : k_X3_at.all (z_okb cX3_at) = true) e h
def k_X3_put : List zI := [(0, 1, 0, .iload_n 1), (1, 4, 20, .ifCond .lt 19), (4, 5, 0, .iload_n 1), (5, 6, 0, .aload_n 0), (6, 9, 0, .getfield 7), (9, 10, 0, .arraylength), (10, 13, 20, .if_icmp .ge 10), (13, 14, 0, .aload_n 0), (14, 17, 0, .getfield 7), (17, 18, 0, .iload_n 1), (18, 19, 0, .iload_n 2), (19, 20, 0, .iastore), (20, 21, 0, .return_)]
theorem ok_X3_put : ∀ e ∈ k_X3_put, z_okb cX3_put e = true := fun e h => List.all_eq_true.mp (by decide +kernel : k_X3_put.all (z_okb cX3_put) = true) e h
def k_X3_clear : List zI := [(0, 1, 0, .iconst 0), (1, 2, 0, .istore_n 1), (2, 3, 0, .iload_n 1), (3, 4, 0, .aload_n 0), (4, 7, 0, .getfield 7), (7, 8, 0, .arraylength), (8, 11, 24, .if_icmp .ge 16), (11, 12, 0, .aload_n 0), (12, 15, 0, .getfield 7), (15, 16, 0, .iload_n 1), (16, 17, 0, .iconst 0), (17, 18, 0, .iastore), (18, 21, 1, .iinc 1 1), (21, 24, 2, .goto (-19)), (24, 25, 0, .return_)]
theorem ok_X3_clear : ∀ e ∈ k_X3_clear, z_okb cX3_clear e = true := fun e h => List.all_eq_true.mp (by decide +kernel : k_X3_clear.all (z_okb cX3_clear) = true) e h
def k_X4_init : List zI := [(0, 1, 0, .aload_n 0), (1, 4, 0, .invokespecial 3), (4, 5, 0, .return_)]
theorem ok_X4_init : ∀ e ∈ k_X4_init, z_okb cX4_init e = true := fun e h => List.all_eq_true.mp (by decide +kernel : k_X4_init.all (z_okb cX4_init) = true) e h
def k_X4_join : List zI := [(0, 1, 0, .aload_n 0), (1, 2, 0, .iconst 0), (2, 5, 0, .putfield 9), (5, 6, 0, .aload_n 0), (6, 7, 0, .iconst 0), (7, 10, 0, .putfield 15), (10, 11, 0, .iconst 0), (11, 12, 0, .istore_n 2), (12, 13, 0, .iload_n 2), (13, 15, 40, .bipush 40), (15, 18, 72, .if_icmp .ge 57), (18, 19, 0, .aload_n 1), (19, 22, 0, .invokevirtual 18), (22, 23, 0, .istore_n 3), (23, 24, 0, .iload_n 3), (24, 27, 45, .ifCond .lt 21), (27, 28, 0, .aload_n 1), (28, 29, 0, .iload_n 3), (29, 32, 0, .invokevirtual 24), (32, 33, 0, .aload_n 0), (33, 34, 0, .dup), (34, 37, 0, .getfield 9), (37, 38, 1, .iconst 1), (38, 39, 0, .iadd), (39, 42, 0, .putfield 9), (42, 45, 66, .goto 24), (45, 46, 0, .aload_n 1), (46, 49, 0, .invokestatic 28), (49, 52, 65, .ifCond .eq 16), (52, 53, 0, .aload_n 0), (53, 54, 0, .dup), (54, 57, 0, .getfield 15), (57, 58, 1, .iconst 1), (58, 59, 0, .iadd), (59, 62, 0, .putfield 15), (62, 65, 66, .goto 4), (65, 66, 0, .return_), (66, 69, 1, .iinc 2 1), (69, 72, 12, .goto (-57)), (72, 73, 0, .return_)]
theorem ok_X4_join : ∀ e ∈ k_X4_join, z_okb cX4_join e = true := fun e h => List.all_eq_true.mp (by decide +kernel : k_X4_join.all (z_okb cX4_join) = true) e h
def k_X4_joinFirst : List zI := [(0, 1, 0, .iconst 0), (1, 2, 0, .istore_n 1), (2, 3, 0, .iload_n 1), (3, 4, 0, .aload_n 0), (4, 7, 0, .getfield 32), (7, 10, 59, .if_icmp .ge 52), (10, 11, 0, .iload_n 1), (11, 12, 1, .iconst 1), (12, 13, 0, .iadd), (13, 14, 0, .istore_n 2), (14, 15, 0, .iload_n 2), (15, 16, 0, .aload_n 0), (16, 19, 0, .getfield 32), (19, 22, 53, .if_icmp .ge 34), (22, 23, 0, .iconst 0), (23, 24, 0, .istore_n 3), (24, 25, 0, .iload_n 3), (25, 26, 3, .iconst 3), (26, 29, 47, .if_icmp .ge 21), (29, 30, 0, .aload_n 0), (30, 31, 0, .iload_n 1), (31, 32, 0, .iload_n 2), (32, 33, 0, .iload_n 3), (33, 36, 0, .invokestatic 35), (36, 39, 41, .ifCond .eq 5), (39, 40, 1, .iconst 1), (40, 41, 0, .ireturn), (41, 44, 1, .iinc 3 1), (44, 47, 24, .goto (-20)), (47, 50, 1, .iinc 2 1), (50, 53, 14, .goto (-36)), (53, 56, 1, .iinc 1 1), (56, 59, 2, .goto (-54)), (59, 60, 0, .iconst 0), (60, 61, 0, .ireturn)]
theorem ok_X4_joinFirst : ∀ e ∈ k_X4_joinFirst, z_okb cX4_joinFirst e = true := fun e h => List.all_eq_true.mp (by decide +kernel : k_X4_joinFirst.all (z_okb cX4_joinFirst) = true) e h
def k_X4_joinTwo_0 : List zI := [(0, 1, 0, .iload_n 3), (1, 4, 0, .invokestatic 39), (4, 6, 0, .istore 4), (6, 7, 0, .aload_n 0), (7, 8, 0, .iload_n 1), (8, 9, 0, .iload_n 2), (9, 11, 0, .iload 4), (11, 14, 0, .invokevirtual 43), (14, 16, 0, .istore 5), (16, 18, 0, .iload 5), (18, 21, 25, .ifCond .ne 7), (21, 22, 0, .iconst 0), (22, 25, 36, .goto 14), (25, 26, 0, .aload_n 0), (26, 27, 0, .iload_n 1), (27, 28, 0, .iload_n 2), (28, 30, 0, .iload 4), (30, 33, 0, .invokestatic 39), (33, 36, 0, .invokevirtual 43), (36, 38, 0, .istore 6), (38, 40, 0, .iload 6), (40, 43, 45, .ifCond .ne 5), (43, 44, 0, .iconst 0), (44, 45, 0, .ireturn), (45, 47, 0, .iload 5), (47, 49, 0, .iload 6), (49, 52, 56, .if_icmp .ne 7), (52, 53, 1, .iconst 1), (53, 56, 57, .goto 4), (56, 57, 2, .iconst 2), (57, 59, 0, .istore 7), (59, 60, 0, .aload_n 0), (60, 61, 0, .iload_n 1), (61, 62, 0, .iload_n 3), (62, 63, 0, .aload_n 0), (63, 64, 0, .iload_n 1), (64, 65, 0, .iload_n 3), (65, 68, 0, .invokevirtual 47), (68, 70, 0, .iload 7), (70, 71, 0, .aload_n 0)]
theorem ok_X4_joinTwo_0 : ∀ e ∈ k_X4_joinTwo_0, z_okb cX4_joinTwo e = true := fun e h => List.all_eq_true.mp (by decide +kernel : k_X4_joinTwo_0.all (z_okb cX4_joinTwo) = true) e h
def k_X4_joinTwo_1 : List zI := [(71, 72, 0, .iload_n 2), (72, 73, 0, .iload_n 3), (73, 76, 0, .invokevirtual 47), (76, 79, 0, .invokestatic 51), (79, 80, 0, .aload_n 0), (80, 83, 0, .getfield 56), (83, 86, 0, .invokestatic 59), (86, 89, 0, .invokevirtual 62), (89, 90, 0, .aload_n 0), (90, 91, 0, .iload_n 2), (91, 94, 0, .invokevirtual 24), (94, 95, 1, .iconst 1), (95, 96, 0, .ireturn)]
theorem ok_X4_joinTwo_1 : ∀ e ∈ k_X4_joinTwo_1, z_okb cX4_joinTwo e = true := fun e h => List.all_eq_true.mp (by decide +kernel : k_X4_joinTwo_1.all (z_okb cX4_joinTwo) = true) e h
def k_X4_joinTwo : List zI := k_X4_joinTwo_0 ++ (k_X4_joinTwo_1)
theorem ok_X4_joinTwo : ∀ e ∈ k_X4_joinTwo, z_okb cX4_joinTwo e = true := List.forall_mem_append.mpr ⟨ok_X4_joinTwo_0, ok_X4_joinTwo_1⟩
def k_X4_flipDrawn_0 : List zI := [(0, 1, 0, .aload_n 0), (1, 2, 0, .iconst 0), (2, 5, 0, .invokevirtual 66), (5, 6, 0, .istore_n 3), (6, 7, 0, .aload_n 0), (7, 8, 1, .iconst 1), (8, 11, 0, .invokevirtual 66), (11, 13, 0, .istore 4), (13, 14, 0, .iload_n 3), (14, 16, 0, .iload 4), (16, 17, 0, .iadd), (17, 18, 0, .aload_n 0), (18, 19, 2, .iconst 2), (19, 22, 0, .invokevirtual 66), (22, 23, 0, .iadd), (23, 25, 0, .istore 5), (25, 27, 0, .iload 5), (27, 30, 32, .ifCond .gt 5), (30, 31, 0, .iconst 0), (31, 32, 0, .ireturn), (32, 33, 0, .lload_n 1), (33, 35, 0, .iload 5), (35, 36, 0, .i2l), (36, 37, 0, .lrem), (37, 38, 0, .l2i), (38, 40, 0, .istore 6), (40, 42, 0, .iload 6), (42, 43, 0, .iload_n 3), (43, 46, 56, .if_icmp .ge 13), (46, 47, 0, .aload_n 0), (47, 48, 0, .iconst 0), (48, 50, 0, .iload 6), (50, 53, 0, .invokestatic 69), (53, 56, 89, .goto 36), (56, 58, 0, .iload 6), (58, 59, 0, .iload_n 3), (59, 61, 0, .iload 4), (61, 62, 0, .iadd), (62, 65, 77, .if_icmp .ge 15), (65, 66, 0, .aload_n 0)]
theorem ok_X4_flipDrawn_0 : ∀ e ∈ k_X4_flipDrawn_0, z_okb cX4_flipDrawn e = true := fun e h => List.all_eq_true.mp (by decide +kernel : k_X4_flipDrawn_0.all (z_okb cX4_flipDrawn) = true) e h
def k_X4_flipDrawn_1 : List zI := [(66, 67, 1, .iconst 1), (67, 69, 0, .iload 6), (69, 70, 0, .iload_n 3), (70, 71, 0, .isub), (71, 74, 0, .invokestatic 69), (74, 77, 89, .goto 15), (77, 78, 0, .aload_n 0), (78, 79, 2, .iconst 2), (79, 81, 0, .iload 6), (81, 82, 0, .iload_n 3), (82, 83, 0, .isub), (83, 85, 0, .iload 4), (85, 86, 0, .isub), (86, 89, 0, .invokestatic 69), (89, 90, 1, .iconst 1), (90, 91, 0, .ireturn)]
theorem ok_X4_flipDrawn_1 : ∀ e ∈ k_X4_flipDrawn_1, z_okb cX4_flipDrawn e = true := fun e h => List.all_eq_true.mp (by decide +kernel : k_X4_flipDrawn_1.all (z_okb cX4_flipDrawn) = true) e h
def k_X4_flipDrawn : List zI := k_X4_flipDrawn_0 ++ (k_X4_flipDrawn_1)
theorem ok_X4_flipDrawn : ∀ e ∈ k_X4_flipDrawn, z_okb cX4_flipDrawn e = true := List.forall_mem_append.mpr ⟨ok_X4_flipDrawn_0, ok_X4_flipDrawn_1⟩
def k_X4_flipAt : List zI := [(0, 1, 0, .iconst 0), (1, 2, 0, .istore_n 3), (2, 3, 0, .iconst 0), (3, 5, 0, .istore 4), (5, 7, 0, .iload 4), (7, 8, 0, .aload_n 0), (8, 11, 0, .getfield 32), (11, 14, 75, .if_icmp .ge 64), (14, 15, 0, .iconst 0), (15, 17, 0, .istore 5), (17, 19, 0, .iload 5), (19, 20, 0, .aload_n 0), (20, 23, 0, .getfield 32), (23, 26, 69, .if_icmp .ge 46), (26, 28, 0, .iload 4), (28, 30, 0, .iload 5), (30, 33, 63, .if_icmp .eq 33), (33, 34, 0, .aload_n 0), (34, 36, 0, .iload 4), (36, 38, 0, .iload 5), (38, 39, 0, .iload_n 1), (39, 42, 0, .invokevirtual 43), (42, 45, 63, .ifCond .le 21), (45, 46, 0, .iload_n 3), (46, 47, 0, .iload_n 2), (47, 50, 60, .if_icmp .ne 13), (50, 51, 0, .aload_n 0), (51, 53, 0, .iload 4), (53, 55, 0, .iload 5), (55, 56, 0, .iload_n 1), (56, 59, 0, .invokevirtual 73), (59, 60, 0, .return_), (60, 63, 1, .iinc 3 1), (63, 66, 1, .iinc 5 1), (66, 69, 17, .goto (-49)), (69, 72, 1, .iinc 4 1), (72, 75, 5, .goto (-67)), (75, 76, 0, .return_)]
theorem ok_X4_flipAt : ∀ e ∈ k_X4_flipAt, z_okb cX4_flipAt e = true := fun e h => List.all_eq_true.mp (by decide +kernel : k_X4_flipAt.all (z_okb cX4_flipAt) = true) e h
def k_X5_init : List zI := [(0, 1, 0, .aload_n 0), (1, 4, 0, .invokespecial 5), (4, 5, 0, .aload_n 0), (5, 8, 8748, .sipush 8748), (8, 10, 0, .newarray .long), (10, 13, 0, .putfield 11), (13, 14, 0, .aload_n 0), (14, 17, 0, .new 15), (17, 18, 0, .dup), (18, 21, 729, .sipush 729), (21, 24, 0, .invokespecial 17), (24, 27, 0, .putfield 20), (27, 28, 0, .aload_n 0), (28, 30, 12, .bipush 12), (30, 32, 0, .newarray .long), (32, 35, 0, .putfield 24), (35, 36, 0, .aload_n 0), (36, 39, 0, .new 15), (39, 40, 0, .dup), (40, 41, 3, .iconst 3), (41, 44, 0, .invokespecial 17), (44, 47, 0, .putfield 27), (47, 48, 0, .return_)]
theorem ok_X5_init : ∀ e ∈ k_X5_init, z_okb cX5_init e = true := fun e h => List.all_eq_true.mp (by decide +kernel : k_X5_init.all (z_okb cX5_init) = true) e h
def k_X5_solve : List zI := [(0, 1, 0, .aload_n 0), (1, 2, 0, .aload_n 1), (2, 5, 0, .invokevirtual 30), (5, 6, 0, .iconst 0), (6, 7, 0, .istore_n 2), (7, 8, 0, .iload_n 2), (8, 9, 0, .aload_n 1), (9, 12, 0, .getfield 34), (12, 15, 66, .if_icmp .ge 54), (15, 16, 0, .iconst 0), (16, 17, 0, .istore_n 3), (17, 18, 0, .iload_n 3), (18, 19, 3, .iconst 3), (19, 22, 60, .if_icmp .ge 41), (22, 23, 0, .iconst 0), (23, 25, 0, .istore 4), (25, 27, 0, .iload 4), (27, 28, 0, .aload_n 1), (28, 29, 0, .iload_n 3), (29, 32, 0, .invokevirtual 40), (32, 35, 54, .if_icmp .ge 22), (35, 36, 0, .aload_n 0), (36, 37, 0, .aload_n 1), (37, 38, 0, .iload_n 2), (38, 39, 0, .iload_n 3), (39, 41, 0, .iload 4), (41, 44, 0, .invokevirtual 44), (44, 45, 0, .aload_n 0), (45, 48, 0, .invokevirtual 48), (48, 51, 1, .iinc 4 1), (51, 54, 25, .goto (-26)), (54, 57, 1, .iinc 3 1), (57, 60, 17, .goto (-40)), (60, 63, 1, .iinc 2 1), (63, 66, 7, .goto (-56)), (66, 67, 0, .aload_n 0), (67, 68, 0, .aload_n 1), (68, 71, 0, .invokevirtual 51), (71, 72, 0, .aload_n 0), (72, 75, 0, .invokevirtual 54), (75, 78, 82, .ifCond .ge 7), (78, 79, 1, .iconst 1), (79, 82, 83, .goto 4), (82, 83, 0, .iconst 0), (83, 84, 0, .ireturn)]
theorem ok_X5_solve : ∀ e ∈ k_X5_solve, z_okb cX5_solve e = true := fun e h => List.all_eq_true.mp (by decide +kernel : k_X5_solve.all (z_okb cX5_solve) = true) e h
def k_X5_start : List zI := [(0, 1, 0, .aload_n 0), (1, 2, 0, .iconst 0), (2, 5, 0, .putfield 58), (5, 6, 0, .aload_n 0), (6, 7, 0, .aload_n 1), (7, 8, 0, .iconst 0), (8, 11, 0, .invokevirtual 40), (11, 12, 0, .aload_n 1), (12, 13, 1, .iconst 1), (13, 16, 0, .invokevirtual 40), (16, 17, 0, .imul), (17, 18, 0, .aload_n 1), (18, 19, 2, .iconst 2), (19, 22, 0, .invokevirtual 40), (22, 23, 0, .imul), (23, 26, 0, .putfield 61), (26, 27, 0, .aload_n 0), (27, 30, 0, .getfield 27), (30, 31, 0, .iconst 0), (31, 32, 0, .aload_n 1), (32, 33, 1, .iconst 1), (33, 36, 0, .invokevirtual 40), (36, 37, 0, .aload_n 1), (37, 38, 2, .iconst 2), (38, 41, 0, .invokevirtual 40), (41, 42, 0, .imul), (42, 45, 0, .invokevirtual 64), (45, 46, 0, .aload_n 0), (46, 49, 0, .getfield 27), (49, 50, 1, .iconst 1), (50, 51, 0, .aload_n 1), (51, 52, 2, .iconst 2), (52, 55, 0, .invokevirtual 40), (55, 58, 0, .invokevirtual 64), (58, 59, 0, .aload_n 0), (59, 62, 0, .getfield 27), (62, 63, 2, .iconst 2), (63, 64, 1, .iconst 1), (64, 67, 0, .invokevirtual 64), (67, 68, 0, .aload_n 0), (68, 71, 0, .getfield 20), (71, 74, 0, .invokevirtual 68), (74, 75, 0, .return_)]
theorem ok_X5_start : ∀ e ∈ k_X5_start, z_okb cX5_start e = true := fun e h => List.all_eq_true.mp (by decide +kernel : k_X5_start.all (z_okb cX5_start) = true) e h
def k_X5_clearColumn : List zI := [(0, 1, 0, .iconst 0), (1, 2, 0, .istore_n 1), (2, 3, 0, .iload_n 1), (3, 4, 0, .aload_n 0), (4, 7, 0, .getfield 24), (7, 8, 0, .arraylength), (8, 11, 24, .if_icmp .ge 16), (11, 12, 0, .aload_n 0), (12, 15, 0, .getfield 24), (15, 16, 0, .iload_n 1), (16, 17, 0, .lconst 0), (17, 18, 0, .lastore), (18, 21, 1, .iinc 1 1), (21, 24, 2, .goto (-19)), (24, 25, 0, .return_)]
theorem ok_X5_clearColumn : ∀ e ∈ k_X5_clearColumn, z_okb cX5_clearColumn e = true := fun e h => List.all_eq_true.mp (by decide +kernel : k_X5_clearColumn.all (z_okb cX5_clearColumn) = true) e h
def k_X5_setBit : List zI := [(0, 1, 0, .iload_n 1), (1, 3, 6, .bipush 6), (3, 4, 0, .ishr), (4, 5, 0, .istore_n 2), (5, 6, 0, .iload_n 2), (6, 9, 34, .ifCond .lt 28), (9, 10, 0, .iload_n 2), (10, 11, 0, .aload_n 0), (11, 14, 0, .getfield 24), (14, 15, 0, .arraylength), (15, 18, 34, .if_icmp .ge 19), (18, 19, 0, .aload_n 0), (19, 22, 0, .getfield 24), (22, 23, 0, .iload_n 2), (23, 24, 0, .dup2), (24, 25, 0, .laload), (25, 26, 0, .iload_n 1), (26, 28, 63, .bipush 63), (28, 29, 0, .iand), (29, 32, 0, .invokestatic 71), (32, 33, 0, .lor), (33, 34, 0, .lastore), (34, 35, 0, .return_)]
theorem ok_X5_setBit : ∀ e ∈ k_X5_setBit, z_okb cX5_setBit e = true := fun e h => List.all_eq_true.mp (by decide +kernel : k_X5_setBit.all (z_okb cX5_setBit) = true) e h
def k_X5_hasBit : List zI := [(0, 1, 0, .iload_n 1), (1, 3, 6, .bipush 6), (3, 4, 0, .ishr), (4, 5, 0, .istore_n 2), (5, 6, 0, .iload_n 2), (6, 9, 41, .ifCond .lt 35), (9, 10, 0, .iload_n 2), (10, 11, 0, .aload_n 0), (11, 14, 0, .getfield 24), (14, 15, 0, .arraylength), (15, 18, 41, .if_icmp .ge 26), (18, 19, 0, .aload_n 0), (19, 22, 0, .getfield 24), (22, 23, 0, .iload_n 2), (23, 24, 0, .laload), (24, 25, 0, .iload_n 1), (25, 27, 63, .bipush 63), (27, 28, 0, .iand), (28, 31, 0, .invokestatic 71), (31, 32, 0, .land), (32, 33, 0, .lconst 0), (33, 34, 0, .lcmp), (34, 37, 41, .ifCond .eq 7), (37, 38, 1, .iconst 1), (38, 41, 42, .goto 4), (41, 42, 0, .iconst 0), (42, 43, 0, .ireturn)]
theorem ok_X5_hasBit : ∀ e ∈ k_X5_hasBit, z_okb cX5_hasBit e = true := fun e h => List.all_eq_true.mp (by decide +kernel : k_X5_hasBit.all (z_okb cX5_hasBit) = true) e h
def k_X5_setUnknown_0 : List zI := [(0, 1, 0, .aload_n 0), (1, 4, 0, .invokevirtual 75), (4, 5, 0, .iload_n 3), (5, 8, 0, .invokestatic 78), (8, 10, 0, .istore 5), (10, 12, 0, .iload 5), (12, 15, 0, .invokestatic 78), (15, 17, 0, .istore 6), (17, 18, 0, .iconst 0), (18, 20, 0, .istore 7), (20, 22, 0, .iload 7), (22, 23, 0, .aload_n 1), (23, 25, 0, .iload 5), (25, 28, 0, .invokevirtual 40), (28, 31, 128, .if_icmp .ge 100), (31, 32, 0, .aload_n 1), (32, 33, 0, .iload_n 2), (33, 35, 0, .iload 5), (35, 38, 0, .invokevirtual 81), (38, 40, 0, .iload 7), (40, 43, 0, .invokestatic 85), (43, 46, 122, .ifCond .eq 79), (46, 47, 0, .iconst 0), (47, 49, 0, .istore 8), (49, 51, 0, .iload 8), (51, 52, 0, .aload_n 1), (52, 54, 0, .iload 6), (54, 57, 0, .invokevirtual 40), (57, 60, 122, .if_icmp .ge 65), (60, 61, 0, .aload_n 1), (61, 62, 0, .iload_n 2), (62, 64, 0, .iload 6), (64, 67, 0, .invokevirtual 81), (67, 69, 0, .iload 8), (69, 72, 0, .invokestatic 85), (72, 75, 116, .ifCond .eq 44), (75, 76, 0, .aload_n 0), (76, 78, 0, .iload 4), (78, 79, 0, .aload_n 0), (79, 82, 0, .getfield 27)]
theorem ok_X5_setUnknown_0 : ∀ e ∈ k_X5_setUnknown_0, z_okb cX5_setUnknown e = true := fun e h => List.all_eq_true.mp (by decide +kernel : k_X5_setUnknown_0.all (z_okb cX5_setUnknown) = true) e h
def k_X5_setUnknown_1 : List zI := [(82, 83, 0, .iload_n 3), (83, 86, 0, .invokevirtual 90), (86, 87, 0, .imul), (87, 89, 0, .iload 7), (89, 90, 0, .aload_n 0), (90, 93, 0, .getfield 27), (93, 95, 0, .iload 5), (95, 98, 0, .invokevirtual 90), (98, 99, 0, .imul), (99, 100, 0, .iadd), (100, 102, 0, .iload 8), (102, 103, 0, .aload_n 0), (103, 106, 0, .getfield 27), (106, 108, 0, .iload 6), (108, 111, 0, .invokevirtual 90), (111, 112, 0, .imul), (112, 113, 0, .iadd), (113, 116, 0, .invokevirtual 93), (116, 119, 1, .iinc 8 1), (119, 122, 49, .goto (-70)), (122, 125, 1, .iinc 7 1), (125, 128, 20, .goto (-105)), (128, 129, 0, .return_)]
theorem ok_X5_setUnknown_1 : ∀ e ∈ k_X5_setUnknown_1, z_okb cX5_setUnknown e = true := fun e h => List.all_eq_true.mp (by decide +kernel : k_X5_setUnknown_1.all (z_okb cX5_setUnknown) = true) e h
def k_X5_setUnknown : List zI := k_X5_setUnknown_0 ++ (k_X5_setUnknown_1)
theorem ok_X5_setUnknown : ∀ e ∈ k_X5_setUnknown, z_okb cX5_setUnknown e = true := List.forall_mem_append.mpr ⟨ok_X5_setUnknown_0, ok_X5_setUnknown_1⟩
def k_X5_setRightSides_0 : List zI := [(0, 1, 0, .aload_n 0), (1, 4, 0, .invokevirtual 75), (4, 5, 0, .iconst 0), (5, 6, 0, .istore_n 2), (6, 7, 0, .iload_n 2), (7, 8, 0, .aload_n 1), (8, 9, 0, .iconst 0), (9, 12, 0, .invokevirtual 40), (12, 15, 113, .if_icmp .ge 101), (15, 16, 0, .iconst 0), (16, 17, 0, .istore_n 3), (17, 18, 0, .iload_n 3), (18, 19, 0, .aload_n 1), (19, 20, 1, .iconst 1), (20, 23, 0, .invokevirtual 40), (23, 26, 107, .if_icmp .ge 84), (26, 27, 0, .iconst 0), (27, 29, 0, .istore 4), (29, 31, 0, .iload 4), (31, 32, 0, .aload_n 1), (32, 33, 2, .iconst 2), (33, 36, 0, .invokevirtual 40), (36, 39, 101, .if_icmp .ge 65), (39, 40, 0, .aload_n 1), (40, 41, 0, .iload_n 2), (41, 42, 0, .iload_n 3), (42, 44, 0, .iload 4), (44, 47, 0, .invokevirtual 96), (47, 48, 0, .aload_n 1), (48, 49, 0, .iload_n 2), (49, 50, 0, .iload_n 3), (50, 52, 0, .iload 4), (52, 55, 0, .invokevirtual 100), (55, 56, 0, .isub), (56, 58, 0, .istore 5), (58, 60, 0, .iload 5), (60, 61, 1, .iconst 1), (61, 62, 0, .ishr), (62, 63, 1, .iconst 1), (63, 64, 0, .iand)]
theorem ok_X5_setRightSides_0 : ∀ e ∈ k_X5_setRightSides_0, z_okb cX5_setRightSides e = true := fun e h => List.all_eq_true.mp (by decide +kernel : k_X5_setRightSides_0.all (z_okb cX5_setRightSides) = true) e h
def k_X5_setRightSides_1 : List zI := [(64, 67, 95, .ifCond .eq 31), (67, 68, 0, .aload_n 0), (68, 69, 0, .iload_n 2), (69, 70, 0, .aload_n 0), (70, 73, 0, .getfield 27), (73, 74, 0, .iconst 0), (74, 77, 0, .invokevirtual 90), (77, 78, 0, .imul), (78, 79, 0, .iload_n 3), (79, 80, 0, .aload_n 0), (80, 83, 0, .getfield 27), (83, 84, 1, .iconst 1), (84, 87, 0, .invokevirtual 90), (87, 88, 0, .imul), (88, 89, 0, .iadd), (89, 91, 0, .iload 4), (91, 92, 0, .iadd), (92, 95, 0, .invokevirtual 93), (95, 98, 1, .iinc 4 1), (98, 101, 29, .goto (-69)), (101, 104, 1, .iinc 3 1), (104, 107, 17, .goto (-87)), (107, 110, 1, .iinc 2 1), (110, 113, 6, .goto (-104)), (113, 114, 0, .return_)]
theorem ok_X5_setRightSides_1 : ∀ e ∈ k_X5_setRightSides_1, z_okb cX5_setRightSides e = true := fun e h => List.all_eq_true.mp (by decide +kernel : k_X5_setRightSides_1.all (z_okb cX5_setRightSides) = true) e h
def k_X5_setRightSides : List zI := k_X5_setRightSides_0 ++ (k_X5_setRightSides_1)
theorem ok_X5_setRightSides : ∀ e ∈ k_X5_setRightSides, z_okb cX5_setRightSides e = true := List.forall_mem_append.mpr ⟨ok_X5_setRightSides_0, ok_X5_setRightSides_1⟩
def k_X5_takeColumn : List zI := [(0, 1, 0, .aload_n 0), (1, 4, 0, .invokevirtual 54), (4, 5, 0, .istore_n 1), (5, 6, 0, .iload_n 1), (6, 9, 73, .ifCond .lt 67), (9, 10, 0, .aload_n 0), (10, 13, 0, .getfield 20), (13, 14, 0, .iload_n 1), (14, 15, 1, .iconst 1), (15, 18, 0, .invokevirtual 64), (18, 19, 0, .aload_n 0), (19, 20, 0, .dup), (20, 23, 0, .getfield 58), (23, 24, 1, .iconst 1), (24, 25, 0, .iadd), (25, 28, 0, .putfield 58), (28, 29, 0, .iconst 0), (29, 30, 0, .istore_n 2), (30, 31, 0, .iload_n 2), (31, 32, 0, .aload_n 0), (32, 35, 0, .getfield 24), (35, 36, 0, .arraylength), (36, 39, 73, .if_icmp .ge 37), (39, 40, 0, .iload_n 1), (40, 42, 12, .bipush 12), (42, 43, 0, .imul), (43, 44, 0, .iload_n 2), (44, 45, 0, .iadd), (45, 46, 0, .istore_n 3), (46, 47, 0, .iload_n 3), (47, 48, 0, .aload_n 0), (48, 51, 0, .getfield 11), (51, 52, 0, .arraylength), (52, 55, 67, .if_icmp .ge 15), (55, 56, 0, .aload_n 0), (56, 59, 0, .getfield 11), (59, 60, 0, .iload_n 3), (60, 61, 0, .aload_n 0), (61, 64, 0, .getfield 24), (64, 65, 0, .iload_n 2), (65, 66, 0, .laload), (66, 67, 0, .lastore), (67, 70, 1, .iinc 2 1), (70, 73, 30, .goto (-40)), (73, 74, 0, .return_)]
theorem ok_X5_takeColumn : ∀ e ∈ k_X5_takeColumn, z_okb cX5_takeColumn e = true := fun e h => List.all_eq_true.mp (by decide +kernel : k_X5_takeColumn.all (z_okb cX5_takeColumn) = true) e h
def k_X5_reduce : List zI := [(0, 1, 0, .iconst 0), (1, 2, 0, .istore_n 1), (2, 3, 0, .iload_n 1), (3, 4, 0, .aload_n 0), (4, 7, 0, .getfield 61), (7, 10, 42, .if_icmp .ge 35), (10, 11, 0, .aload_n 0), (11, 12, 0, .iload_n 1), (12, 15, 0, .invokevirtual 103), (15, 18, 36, .ifCond .eq 21), (18, 19, 0, .aload_n 0), (19, 22, 0, .getfield 20), (22, 23, 0, .iload_n 1), (23, 26, 0, .invokevirtual 90), (26, 29, 31, .ifCond .ne 5), (29, 30, 0, .iload_n 1), (30, 31, 0, .ireturn), (31, 32, 0, .aload_n 0), (32, 33, 0, .iload_n 1), (33, 36, 0, .invokevirtual 107), (36, 39, 1, .iinc 1 1), (39, 42, 2, .goto (-37)), (42, 43, 1, .iconst (-1)), (43, 44, 0, .ireturn)]
theorem ok_X5_reduce : ∀ e ∈ k_X5_reduce, z_okb cX5_reduce e = true := fun e h => List.all_eq_true.mp (by decide +kernel : k_X5_reduce.all (z_okb cX5_reduce) = true) e h
def k_X5_lessPivot : List zI := [(0, 1, 0, .iload_n 1), (1, 3, 6, .bipush 6), (3, 4, 0, .ishr), (4, 5, 0, .istore_n 2), (5, 6, 0, .iload_n 2), (6, 9, 59, .ifCond .lt 53), (9, 10, 0, .iload_n 2), (10, 11, 0, .aload_n 0), (11, 14, 0, .getfield 24), (14, 15, 0, .arraylength), (15, 18, 59, .if_icmp .ge 44), (18, 19, 0, .iload_n 1), (19, 21, 12, .bipush 12), (21, 22, 0, .imul), (22, 23, 0, .iload_n 2), (23, 24, 0, .iadd), (24, 25, 0, .istore_n 3), (25, 26, 0, .iload_n 3), (26, 29, 53, .ifCond .lt 27), (29, 30, 0, .iload_n 3), (30, 31, 0, .aload_n 0), (31, 34, 0, .getfield 11), (34, 35, 0, .arraylength), (35, 38, 53, .if_icmp .ge 18), (38, 39, 0, .aload_n 0), (39, 42, 0, .getfield 24), (42, 43, 0, .iload_n 2), (43, 44, 0, .dup2), (44, 45, 0, .laload), (45, 46, 0, .aload_n 0), (46, 49, 0, .getfield 11), (49, 50, 0, .iload_n 3), (50, 51, 0, .laload), (51, 52, 0, .lxor), (52, 53, 0, .lastore), (53, 56, 1, .iinc 2 1), (56, 59, 5, .goto (-51)), (59, 60, 0, .return_)]
theorem ok_X5_lessPivot : ∀ e ∈ k_X5_lessPivot, z_okb cX5_lessPivot e = true := fun e h => List.all_eq_true.mp (by decide +kernel : k_X5_lessPivot.all (z_okb cX5_lessPivot) = true) e h
def k_X6_init : List zI := [(0, 1, 0, .aload_n 0), (1, 4, 0, .invokespecial 3), (4, 5, 0, .aload_n 0), (5, 8, 0, .new 9), (8, 9, 0, .dup), (9, 11, 120, .bipush 120), (11, 14, 0, .invokespecial 11), (14, 17, 0, .putfield 14), (17, 18, 0, .return_)]
theorem ok_X6_init : ∀ e ∈ k_X6_init, z_okb cX6_init e = true := fun e h => List.all_eq_true.mp (by decide +kernel : k_X6_init.all (z_okb cX6_init) = true) e h
def k_X6_makePlain : List zI := [(0, 1, 0, .aload_n 0), (1, 2, 0, .iload_n 1), (2, 5, 0, .putfield 20), (5, 6, 0, .aload_n 0), (6, 7, 0, .iload_n 2), (7, 10, 0, .putfield 24), (10, 11, 0, .aload_n 0), (11, 12, 0, .iload_n 3), (12, 15, 0, .putfield 27), (15, 16, 0, .aload_n 0), (16, 18, 0, .iload 4), (18, 21, 0, .putfield 30), (21, 22, 0, .aload_n 0), (22, 23, 0, .iconst 0), (23, 26, 0, .putfield 33), (26, 27, 0, .aload_n 0), (27, 28, 1, .iconst (-1)), (28, 31, 0, .invokevirtual 36), (31, 32, 0, .return_)]
theorem ok_X6_makePlain : ∀ e ∈ k_X6_makePlain, z_okb cX6_makePlain e = true := fun e h => List.all_eq_true.mp (by decide +kernel : k_X6_makePlain.all (z_okb cX6_makePlain) = true) e h
def k_X6_addPlain_0 : List zI := [(0, 1, 0, .iconst 0), (1, 2, 0, .istore_n 2), (2, 3, 0, .iload_n 2), (3, 4, 0, .aload_n 0), (4, 7, 0, .getfield 20), (7, 10, 142, .if_icmp .ge 135), (10, 11, 0, .iconst 0), (11, 12, 0, .istore_n 3), (12, 13, 0, .iload_n 3), (13, 14, 0, .aload_n 0), (14, 17, 0, .getfield 24), (17, 20, 136, .if_icmp .ge 119), (20, 21, 0, .iconst 0), (21, 23, 0, .istore 4), (23, 25, 0, .iload 4), (25, 26, 0, .aload_n 0), (26, 29, 0, .getfield 27), (29, 32, 130, .if_icmp .ge 101), (32, 33, 0, .iload_n 1), (33, 36, 46, .ifCond .ne 13), (36, 37, 0, .iload_n 2), (37, 38, 0, .aload_n 0), (38, 41, 0, .getfield 20), (41, 42, 1, .iconst 1), (42, 43, 0, .isub), (43, 46, 77, .if_icmp .eq 34), (46, 47, 0, .iload_n 1), (47, 48, 1, .iconst 1), (48, 51, 61, .if_icmp .ne 13), (51, 52, 0, .iload_n 3), (52, 53, 0, .aload_n 0), (53, 56, 0, .getfield 24), (56, 57, 1, .iconst 1), (57, 58, 0, .isub), (58, 61, 77, .if_icmp .eq 19), (61, 62, 0, .iload_n 1), (62, 63, 2, .iconst 2), (63, 66, 81, .if_icmp .ne 18), (66, 68, 0, .iload 4), (68, 69, 0, .aload_n 0)]
theorem ok_X6_addPlain_0 : ∀ e ∈ k_X6_addPlain_0, z_okb cX6_addPlain e = true := fun e h => List.all_eq_true.mp (by decide +kernel : k_X6_addPlain_0.all (z_okb cX6_addPlain) = true) e h
def k_X6_addPlain_1 : List zI := [(69, 72, 0, .getfield 27), (72, 73, 1, .iconst 1), (73, 74, 0, .isub), (74, 77, 81, .if_icmp .ne 7), (77, 78, 1, .iconst 1), (78, 81, 82, .goto 4), (81, 82, 0, .iconst 0), (82, 84, 0, .istore 5), (84, 85, 0, .iload_n 1), (85, 86, 1, .iconst (-1)), (86, 89, 94, .if_icmp .eq 8), (89, 91, 0, .iload 5), (91, 94, 124, .ifCond .eq 33), (94, 95, 0, .aload_n 0), (95, 96, 0, .iload_n 2), (96, 97, 0, .aload_n 0), (97, 100, 0, .getfield 24), (100, 101, 0, .imul), (101, 102, 0, .iload_n 3), (102, 103, 0, .iadd), (103, 104, 0, .iload_n 3), (104, 105, 0, .aload_n 0), (105, 108, 0, .getfield 27), (108, 109, 0, .imul), (109, 111, 0, .iload 4), (111, 112, 0, .iadd), (112, 114, 0, .iload 4), (114, 115, 0, .aload_n 0), (115, 118, 0, .getfield 20), (118, 119, 0, .imul), (119, 120, 0, .iload_n 2), (120, 121, 0, .iadd), (121, 124, 0, .invokevirtual 39), (124, 127, 1, .iinc 4 1), (127, 130, 23, .goto (-104)), (130, 133, 1, .iinc 3 1), (133, 136, 12, .goto (-121)), (136, 139, 1, .iinc 2 1), (139, 142, 2, .goto (-137)), (142, 143, 0, .return_)]
theorem ok_X6_addPlain_1 : ∀ e ∈ k_X6_addPlain_1, z_okb cX6_addPlain e = true := fun e h => List.all_eq_true.mp (by decide +kernel : k_X6_addPlain_1.all (z_okb cX6_addPlain) = true) e h
def k_X6_addPlain : List zI := k_X6_addPlain_0 ++ (k_X6_addPlain_1)
theorem ok_X6_addPlain : ∀ e ∈ k_X6_addPlain, z_okb cX6_addPlain e = true := List.forall_mem_append.mpr ⟨ok_X6_addPlain_0, ok_X6_addPlain_1⟩
def k_X6_addOnes : List zI := [(0, 1, 0, .aload_n 0), (1, 4, 0, .invokevirtual 43), (4, 7, 58, .ifCond .eq 54), (7, 8, 0, .aload_n 0), (8, 9, 0, .aload_n 0), (9, 12, 0, .getfield 33), (12, 13, 1, .iconst 1), (13, 14, 0, .isub), (14, 15, 0, .iconst 0), (15, 16, 0, .iconst 0), (16, 17, 0, .iload_n 1), (17, 18, 1, .iconst 1), (18, 21, 0, .invokestatic 47), (21, 24, 0, .invokevirtual 53), (24, 25, 0, .aload_n 0), (25, 26, 0, .aload_n 0), (26, 29, 0, .getfield 33), (29, 30, 1, .iconst 1), (30, 31, 0, .isub), (31, 32, 1, .iconst 1), (32, 33, 0, .iconst 0), (33, 34, 0, .iload_n 2), (34, 35, 1, .iconst 1), (35, 38, 0, .invokestatic 47), (38, 41, 0, .invokevirtual 53), (41, 42, 0, .aload_n 0), (42, 43, 0, .aload_n 0), (43, 46, 0, .getfield 33), (46, 47, 1, .iconst 1), (47, 48, 0, .isub), (48, 49, 2, .iconst 2), (49, 50, 0, .iconst 0), (50, 51, 0, .iload_n 3), (51, 52, 1, .iconst 1), (52, 55, 0, .invokestatic 47), (55, 58, 0, .invokevirtual 53), (58, 59, 0, .return_)]
theorem ok_X6_addOnes : ∀ e ∈ k_X6_addOnes, z_okb cX6_addOnes e = true := fun e h => List.all_eq_true.mp (by decide +kernel : k_X6_addOnes.all (z_okb cX6_addOnes) = true) e h
def k_X6_addZero : List zI := [(0, 1, 0, .aload_n 0), (1, 4, 0, .invokevirtual 56), (4, 7, 9, .ifCond .eq 5), (7, 8, 0, .iconst 0), (8, 9, 0, .ireturn), (9, 10, 0, .aload_n 0), (10, 11, 0, .dup), (11, 14, 0, .getfield 33), (14, 15, 1, .iconst 1), (15, 16, 0, .iadd), (16, 19, 0, .putfield 33), (19, 20, 0, .iconst 0), (20, 21, 0, .istore_n 1), (21, 22, 0, .iload_n 1), (22, 23, 3, .iconst 3), (23, 26, 44, .if_icmp .ge 21), (26, 27, 0, .aload_n 0), (27, 28, 0, .aload_n 0), (28, 31, 0, .getfield 33), (31, 32, 1, .iconst 1), (32, 33, 0, .isub), (33, 34, 0, .iload_n 1), (34, 35, 0, .iconst 0), (35, 38, 0, .invokevirtual 53), (38, 41, 1, .iinc 1 1), (41, 44, 21, .goto (-20)), (44, 45, 1, .iconst 1), (45, 46, 0, .ireturn)]
theorem ok_X6_addZero : ∀ e ∈ k_X6_addZero, z_okb cX6_addZero e = true := fun e h => List.all_eq_true.mp (by decide +kernel : k_X6_addZero.all (z_okb cX6_addZero) = true) e h
def k_X6_addFrom : List zI := [(0, 1, 0, .aload_n 0), (1, 4, 0, .invokevirtual 43), (4, 7, 37, .ifCond .eq 33), (7, 8, 0, .iconst 0), (8, 9, 0, .istore_n 3), (9, 10, 0, .iload_n 3), (10, 11, 3, .iconst 3), (11, 14, 37, .if_icmp .ge 26), (14, 15, 0, .aload_n 0), (15, 16, 0, .aload_n 0), (16, 19, 0, .getfield 33), (19, 20, 1, .iconst 1), (20, 21, 0, .isub), (21, 22, 0, .iload_n 3), (22, 23, 0, .aload_n 1), (23, 24, 0, .iload_n 2), (24, 25, 0, .iload_n 3), (25, 28, 0, .invokevirtual 59), (28, 31, 0, .invokevirtual 53), (31, 34, 1, .iinc 3 1), (34, 37, 9, .goto (-25)), (37, 38, 0, .return_)]
theorem ok_X6_addFrom : ∀ e ∈ k_X6_addFrom, z_okb cX6_addFrom e = true := fun e h => List.all_eq_true.mp (by decide +kernel : k_X6_addFrom.all (z_okb cX6_addFrom) = true) e h
def k_X6_remove : List zI := [(0, 1, 0, .aload_n 0), (1, 2, 0, .iload_n 1), (2, 5, 0, .invokevirtual 63), (5, 8, 58, .ifCond .eq 53), (8, 9, 3, .iconst 3), (9, 10, 0, .iload_n 1), (10, 11, 0, .imul), (11, 12, 0, .istore_n 2), (12, 13, 0, .iload_n 2), (13, 14, 3, .iconst 3), (14, 15, 0, .aload_n 0), (15, 18, 0, .getfield 33), (18, 19, 1, .iconst 1), (19, 20, 0, .isub), (20, 21, 0, .imul), (21, 24, 48, .if_icmp .ge 27), (24, 25, 0, .aload_n 0), (25, 28, 0, .getfield 14), (28, 29, 0, .iload_n 2), (29, 30, 0, .aload_n 0), (30, 33, 0, .getfield 14), (33, 34, 0, .iload_n 2), (34, 35, 3, .iconst 3), (35, 36, 0, .iadd), (36, 39, 0, .invokevirtual 67), (39, 42, 0, .invokevirtual 71), (42, 45, 1, .iinc 2 1), (45, 48, 12, .goto (-33)), (48, 49, 0, .aload_n 0), (49, 50, 0, .dup), (50, 53, 0, .getfield 33), (53, 54, 1, .iconst 1), (54, 55, 0, .isub), (55, 58, 0, .putfield 33), (58, 59, 0, .return_)]
theorem ok_X6_remove : ∀ e ∈ k_X6_remove, z_okb cX6_remove e = true := fun e h => List.all_eq_true.mp (by decide +kernel : k_X6_remove.all (z_okb cX6_remove) = true) e h
def k_X6_takeShape : List zI := [(0, 1, 0, .aload_n 0), (1, 2, 0, .aload_n 1), (2, 5, 0, .getfield 20), (5, 8, 0, .putfield 20), (8, 9, 0, .aload_n 0), (9, 10, 0, .aload_n 1), (10, 13, 0, .getfield 24), (13, 16, 0, .putfield 24), (16, 17, 0, .aload_n 0), (17, 18, 0, .aload_n 1), (18, 21, 0, .getfield 27), (21, 24, 0, .putfield 27), (24, 25, 0, .aload_n 0), (25, 26, 0, .aload_n 1), (26, 29, 0, .getfield 30), (29, 32, 0, .putfield 30), (32, 33, 0, .aload_n 0), (33, 34, 0, .iconst 0), (34, 37, 0, .putfield 33), (37, 38, 0, .return_)]
theorem ok_X6_takeShape : ∀ e ∈ k_X6_takeShape, z_okb cX6_takeShape e = true := fun e h => List.all_eq_true.mp (by decide +kernel : k_X6_takeShape.all (z_okb cX6_takeShape) = true) e h
def k_X6_takeAll : List zI := [(0, 1, 0, .aload_n 0), (1, 2, 0, .aload_n 1), (2, 5, 0, .invokevirtual 75), (5, 6, 0, .aload_n 0), (6, 7, 0, .aload_n 1), (7, 10, 0, .getfield 33), (10, 13, 0, .putfield 33), (13, 14, 0, .iconst 0), (14, 15, 0, .istore_n 2), (15, 16, 0, .iload_n 2), (16, 17, 3, .iconst 3), (17, 18, 0, .aload_n 0), (18, 21, 0, .getfield 33), (21, 22, 0, .imul), (22, 25, 47, .if_icmp .ge 25), (25, 26, 0, .aload_n 0), (26, 29, 0, .getfield 14), (29, 30, 0, .iload_n 2), (30, 31, 0, .aload_n 1), (31, 34, 0, .getfield 14), (34, 35, 0, .iload_n 2), (35, 38, 0, .invokevirtual 67), (38, 41, 0, .invokevirtual 71), (41, 44, 1, .iinc 2 1), (44, 47, 15, .goto (-29)), (47, 48, 0, .return_)]
theorem ok_X6_takeAll : ∀ e ∈ k_X6_takeAll, z_okb cX6_takeAll e = true := fun e h => List.all_eq_true.mp (by decide +kernel : k_X6_takeAll.all (z_okb cX6_takeAll) = true) e h
def k_X6_hasShapeOf : List zI := [(0, 1, 0, .aload_n 0), (1, 4, 0, .getfield 20), (4, 5, 0, .aload_n 1), (5, 8, 0, .getfield 20), (8, 11, 37, .if_icmp .ne 29), (11, 12, 0, .aload_n 0), (12, 15, 0, .getfield 24), (15, 16, 0, .aload_n 1), (16, 19, 0, .getfield 24), (19, 22, 37, .if_icmp .ne 18), (22, 23, 0, .aload_n 0), (23, 26, 0, .getfield 27), (26, 27, 0, .aload_n 1), (27, 30, 0, .getfield 27), (30, 33, 37, .if_icmp .ne 7), (33, 34, 1, .iconst 1), (34, 37, 38, .goto 4), (37, 38, 0, .iconst 0), (38, 39, 0, .ireturn)]
theorem ok_X6_hasShapeOf : ∀ e ∈ k_X6_hasShapeOf, z_okb cX6_hasShapeOf e = true := fun e h => List.all_eq_true.mp (by decide +kernel : k_X6_hasShapeOf.all (z_okb cX6_hasShapeOf) = true) e h
def k_X6_isFull : List zI := [(0, 1, 0, .aload_n 0), (1, 4, 0, .getfield 33), (4, 6, 40, .bipush 40), (6, 9, 13, .if_icmp .lt 7), (9, 10, 1, .iconst 1), (10, 13, 14, .goto 4), (13, 14, 0, .iconst 0), (14, 15, 0, .ireturn)]
theorem ok_X6_isFull : ∀ e ∈ k_X6_isFull, z_okb cX6_isFull e = true := fun e h => List.all_eq_true.mp (by decide +kernel : k_X6_isFull.all (z_okb cX6_isFull) = true) e h
def k_X6_isProduct : List zI := [(0, 1, 0, .iload_n 1), (1, 4, 16, .ifCond .lt 15), (4, 5, 0, .iload_n 1), (5, 6, 0, .aload_n 0), (6, 9, 0, .getfield 33), (9, 12, 16, .if_icmp .ge 7), (12, 13, 1, .iconst 1), (13, 16, 17, .goto 4), (16, 17, 0, .iconst 0), (17, 18, 0, .ireturn)]
theorem ok_X6_isProduct : ∀ e ∈ k_X6_isProduct, z_okb cX6_isProduct e = true := fun e h => List.all_eq_true.mp (by decide +kernel : k_X6_isProduct.all (z_okb cX6_isProduct) = true) e h
def k_X6_isPlace : List zI := [(0, 1, 0, .iload_n 1), (1, 4, 0, .invokestatic 79), (4, 7, 24, .ifCond .eq 20), (7, 8, 0, .iload_n 2), (8, 11, 24, .ifCond .lt 16), (11, 12, 0, .iload_n 2), (12, 13, 0, .aload_n 0), (13, 14, 0, .iload_n 1), (14, 17, 0, .invokevirtual 82), (17, 20, 24, .if_icmp .ge 7), (20, 21, 1, .iconst 1), (21, 24, 25, .goto 4), (24, 25, 0, .iconst 0), (25, 26, 0, .ireturn)]
theorem ok_X6_isPlace : ∀ e ∈ k_X6_isPlace, z_okb cX6_isPlace e = true := fun e h => List.all_eq_true.mp (by decide +kernel : k_X6_isPlace.all (z_okb cX6_isPlace) = true) e h
def k_X6_rows : List zI := [(0, 1, 0, .iload_n 1), (1, 4, 11, .ifCond .ne 10), (4, 5, 0, .aload_n 0), (5, 8, 0, .getfield 20), (8, 11, 27, .goto 19), (11, 12, 0, .iload_n 1), (12, 13, 1, .iconst 1), (13, 16, 23, .if_icmp .ne 10), (16, 17, 0, .aload_n 0), (17, 20, 0, .getfield 24), (20, 23, 27, .goto 7), (23, 24, 0, .aload_n 0), (24, 27, 0, .getfield 27), (27, 28, 0, .ireturn)]
theorem ok_X6_rows : ∀ e ∈ k_X6_rows, z_okb cX6_rows e = true := fun e h => List.all_eq_true.mp (by decide +kernel : k_X6_rows.all (z_okb cX6_rows) = true) e h
def k_X6_columns : List zI := [(0, 1, 0, .aload_n 0), (1, 2, 0, .iload_n 1), (2, 5, 0, .invokestatic 85), (5, 8, 0, .invokevirtual 88), (8, 9, 0, .ireturn)]
theorem ok_X6_columns : ∀ e ∈ k_X6_columns, z_okb cX6_columns e = true := fun e h => List.all_eq_true.mp (by decide +kernel : k_X6_columns.all (z_okb cX6_columns) = true) e h
def k_X6_places : List zI := [(0, 1, 0, .aload_n 0), (1, 2, 0, .iload_n 1), (2, 5, 0, .invokevirtual 88), (5, 6, 0, .aload_n 0), (6, 7, 0, .iload_n 1), (7, 10, 0, .invokevirtual 91), (10, 11, 0, .imul), (11, 12, 0, .ireturn)]
theorem ok_X6_places : ∀ e ∈ k_X6_places, z_okb cX6_places e = true := fun e h => List.all_eq_true.mp (by decide +kernel : k_X6_places.all (z_okb cX6_places) = true) e h
def k_X6_rowOf : List zI := [(0, 1, 0, .aload_n 0), (1, 2, 0, .iload_n 1), (2, 5, 0, .invokevirtual 91), (5, 6, 0, .istore_n 3), (6, 7, 0, .iload_n 3), (7, 10, 16, .ifCond .le 9), (10, 11, 0, .iload_n 2), (11, 12, 0, .iload_n 3), (12, 13, 0, .idiv), (13, 16, 17, .goto 4), (16, 17, 0, .iconst 0), (17, 18, 0, .ireturn)]
theorem ok_X6_rowOf : ∀ e ∈ k_X6_rowOf, z_okb cX6_rowOf e = true := fun e h => List.all_eq_true.mp (by decide +kernel : k_X6_rowOf.all (z_okb cX6_rowOf) = true) e h
def k_X6_columnOf : List zI := [(0, 1, 0, .aload_n 0), (1, 2, 0, .iload_n 1), (2, 5, 0, .invokevirtual 91), (5, 6, 0, .istore_n 3), (6, 7, 0, .iload_n 3), (7, 10, 16, .ifCond .le 9), (10, 11, 0, .iload_n 2), (11, 12, 0, .iload_n 3), (12, 13, 0, .irem), (13, 16, 17, .goto 4), (16, 17, 0, .iconst 0), (17, 18, 0, .ireturn)]
theorem ok_X6_columnOf : ∀ e ∈ k_X6_columnOf, z_okb cX6_columnOf e = true := fun e h => List.all_eq_true.mp (by decide +kernel : k_X6_columnOf.all (z_okb cX6_columnOf) = true) e h
def k_X6_formAt : List zI := [(0, 1, 0, .aload_n 0), (1, 4, 0, .getfield 14), (4, 5, 3, .iconst 3), (5, 6, 0, .iload_n 1), (6, 7, 0, .imul), (7, 8, 0, .iload_n 2), (8, 9, 0, .iadd), (9, 12, 0, .invokevirtual 67), (12, 13, 0, .ireturn)]
theorem ok_X6_formAt : ∀ e ∈ k_X6_formAt, z_okb cX6_formAt e = true := fun e h => List.all_eq_true.mp (by decide +kernel : k_X6_formAt.all (z_okb cX6_formAt) = true) e h
def k_X6_setForm : List zI := [(0, 1, 0, .aload_n 0), (1, 4, 0, .getfield 14), (4, 5, 3, .iconst 3), (5, 6, 0, .iload_n 1), (6, 7, 0, .imul), (7, 8, 0, .iload_n 2), (8, 9, 0, .iadd), (9, 10, 0, .iload_n 3), (10, 13, 0, .invokevirtual 71), (13, 14, 0, .return_)]
theorem ok_X6_setForm : ∀ e ∈ k_X6_setForm, z_okb cX6_setForm e = true := fun e h => List.all_eq_true.mp (by decide +kernel : k_X6_setForm.all (z_okb cX6_setForm) = true) e h
def k_X6_givenAt : List zI := [(0, 1, 0, .iconst 0), (1, 3, 0, .istore 4), (3, 4, 0, .iconst 0), (4, 6, 0, .istore 5), (6, 8, 0, .iload 5), (8, 9, 0, .aload_n 0), (9, 12, 0, .getfield 33), (12, 15, 70, .if_icmp .ge 58), (15, 16, 0, .aload_n 0), (16, 18, 0, .iload 5), (18, 19, 0, .iconst 0), (19, 22, 0, .invokevirtual 59), (22, 23, 0, .iload_n 1), (23, 26, 0, .invokestatic 94), (26, 28, 0, .istore 6), (28, 30, 0, .iload 6), (30, 33, 64, .ifCond .eq 34), (33, 35, 0, .iload 4), (35, 37, 0, .iload 6), (37, 38, 0, .aload_n 0), (38, 40, 0, .iload 5), (40, 41, 1, .iconst 1), (41, 44, 0, .invokevirtual 59), (44, 45, 0, .iload_n 2), (45, 48, 0, .invokestatic 94), (48, 49, 0, .imul), (49, 50, 0, .aload_n 0), (50, 52, 0, .iload 5), (52, 53, 2, .iconst 2), (53, 56, 0, .invokevirtual 59), (56, 57, 0, .iload_n 3), (57, 60, 0, .invokestatic 94), (60, 61, 0, .imul), (61, 62, 0, .iadd), (62, 64, 0, .istore 4), (64, 67, 1, .iinc 5 1), (67, 70, 6, .goto (-61)), (70, 72, 0, .iload 4), (72, 73, 0, .aload_n 0), (73, 76, 0, .getfield 30), (76, 79, 0, .invokestatic 97), (79, 80, 0, .ireturn)]
theorem ok_X6_givenAt : ∀ e ∈ k_X6_givenAt, z_okb cX6_givenAt e = true := fun e h => List.all_eq_true.mp (by decide +kernel : k_X6_givenAt.all (z_okb cX6_givenAt) = true) e h
def k_X6_meetAt : List zI := [(0, 1, 0, .iconst 0), (1, 3, 0, .istore 4), (3, 4, 0, .iconst 0), (4, 6, 0, .istore 5), (6, 8, 0, .iload 5), (8, 9, 0, .aload_n 0), (9, 12, 0, .getfield 33), (12, 15, 66, .if_icmp .ge 54), (15, 16, 0, .aload_n 0), (16, 18, 0, .iload 5), (18, 19, 0, .iconst 0), (19, 22, 0, .invokevirtual 59), (22, 23, 0, .iload_n 1), (23, 26, 0, .invokestatic 94), (26, 29, 60, .ifCond .eq 34), (29, 30, 0, .aload_n 0), (30, 32, 0, .iload 5), (32, 33, 1, .iconst 1), (33, 36, 0, .invokevirtual 59), (36, 37, 0, .iload_n 2), (37, 40, 0, .invokestatic 94), (40, 43, 60, .ifCond .eq 20), (43, 44, 0, .aload_n 0), (44, 46, 0, .iload 5), (46, 47, 2, .iconst 2), (47, 50, 0, .invokevirtual 59), (50, 51, 0, .iload_n 3), (51, 54, 0, .invokestatic 94), (54, 57, 60, .ifCond .eq 6), (57, 60, 1, .iinc 4 1), (60, 63, 1, .iinc 5 1), (63, 66, 6, .goto (-57)), (66, 68, 0, .iload 4), (68, 69, 0, .ireturn)]
theorem ok_X6_meetAt : ∀ e ∈ k_X6_meetAt, z_okb cX6_meetAt e = true := fun e h => List.all_eq_true.mp (by decide +kernel : k_X6_meetAt.all (z_okb cX6_meetAt) = true) e h
def k_X6_neededAt : List zI := [(0, 1, 0, .aload_n 0), (1, 2, 0, .iconst 0), (2, 3, 0, .iload_n 1), (3, 6, 0, .invokevirtual 100), (6, 7, 0, .aload_n 0), (7, 8, 1, .iconst 1), (8, 9, 0, .iload_n 2), (9, 12, 0, .invokevirtual 103), (12, 15, 49, .if_icmp .ne 37), (15, 16, 0, .aload_n 0), (16, 17, 1, .iconst 1), (17, 18, 0, .iload_n 2), (18, 21, 0, .invokevirtual 100), (21, 22, 0, .aload_n 0), (22, 23, 2, .iconst 2), (23, 24, 0, .iload_n 3), (24, 27, 0, .invokevirtual 103), (27, 30, 49, .if_icmp .ne 22), (30, 31, 0, .aload_n 0), (31, 32, 2, .iconst 2), (32, 33, 0, .iload_n 3), (33, 36, 0, .invokevirtual 100), (36, 37, 0, .aload_n 0), (37, 38, 0, .iconst 0), (38, 39, 0, .iload_n 1), (39, 42, 0, .invokevirtual 103), (42, 45, 49, .if_icmp .ne 7), (45, 46, 1, .iconst 1), (46, 49, 50, .goto 4), (49, 50, 0, .iconst 0), (50, 51, 0, .ireturn)]
theorem ok_X6_neededAt : ∀ e ∈ k_X6_neededAt, z_okb cX6_neededAt e = true := fun e h => List.all_eq_true.mp (by decide +kernel : k_X6_neededAt.all (z_okb cX6_neededAt) = true) e h
def k_X6_isRight : List zI := [(0, 1, 0, .iconst 0), (1, 2, 0, .istore_n 1), (2, 3, 0, .iload_n 1), (3, 4, 0, .aload_n 0), (4, 5, 0, .iconst 0), (5, 8, 0, .invokevirtual 82), (8, 11, 70, .if_icmp .ge 62), (11, 12, 0, .iconst 0), (12, 13, 0, .istore_n 2), (13, 14, 0, .iload_n 2), (14, 15, 0, .aload_n 0), (15, 16, 1, .iconst 1), (16, 19, 0, .invokevirtual 82), (19, 22, 64, .if_icmp .ge 45), (22, 23, 0, .iconst 0), (23, 24, 0, .istore_n 3), (24, 25, 0, .iload_n 3), (25, 26, 0, .aload_n 0), (26, 27, 2, .iconst 2), (27, 30, 0, .invokevirtual 82), (30, 33, 58, .if_icmp .ge 28), (33, 34, 0, .aload_n 0), (34, 35, 0, .iload_n 1), (35, 36, 0, .iload_n 2), (36, 37, 0, .iload_n 3), (37, 40, 0, .invokevirtual 106), (40, 41, 0, .aload_n 0), (41, 42, 0, .iload_n 1), (42, 43, 0, .iload_n 2), (43, 44, 0, .iload_n 3), (44, 47, 0, .invokevirtual 109), (47, 50, 52, .if_icmp .eq 5), (50, 51, 0, .iconst 0), (51, 52, 0, .ireturn), (52, 55, 1, .iinc 3 1), (55, 58, 24, .goto (-31)), (58, 61, 1, .iinc 2 1), (61, 64, 13, .goto (-48)), (64, 67, 1, .iinc 1 1), (67, 70, 2, .goto (-65)), (70, 71, 1, .iconst 1), (71, 72, 0, .ireturn)]
theorem ok_X6_isRight : ∀ e ∈ k_X6_isRight, z_okb cX6_isRight e = true := fun e h => List.all_eq_true.mp (by decide +kernel : k_X6_isRight.all (z_okb cX6_isRight) = true) e h
def k_X6_hasZero : List zI := [(0, 1, 0, .aload_n 0), (1, 2, 0, .iload_n 1), (2, 3, 0, .iconst 0), (3, 6, 0, .invokevirtual 59), (6, 9, 27, .ifCond .eq 21), (9, 10, 0, .aload_n 0), (10, 11, 0, .iload_n 1), (11, 12, 1, .iconst 1), (12, 15, 0, .invokevirtual 59), (15, 18, 27, .ifCond .eq 12), (18, 19, 0, .aload_n 0), (19, 20, 0, .iload_n 1), (20, 21, 2, .iconst 2), (21, 24, 0, .invokevirtual 59), (24, 27, 31, .ifCond .ne 7), (27, 28, 1, .iconst 1), (28, 31, 32, .goto 4), (31, 32, 0, .iconst 0), (32, 33, 0, .ireturn)]
theorem ok_X6_hasZero : ∀ e ∈ k_X6_hasZero, z_okb cX6_hasZero e = true := fun e h => List.all_eq_true.mp (by decide +kernel : k_X6_hasZero.all (z_okb cX6_hasZero) = true) e h
def k_X6_firstZero : List zI := [(0, 1, 0, .iconst 0), (1, 2, 0, .istore_n 1), (2, 3, 0, .iload_n 1), (3, 4, 0, .aload_n 0), (4, 7, 0, .getfield 33), (7, 10, 26, .if_icmp .ge 19), (10, 11, 0, .aload_n 0), (11, 12, 0, .iload_n 1), (12, 15, 0, .invokevirtual 112), (15, 18, 20, .ifCond .eq 5), (18, 19, 0, .iload_n 1), (19, 20, 0, .ireturn), (20, 23, 1, .iinc 1 1), (23, 26, 2, .goto (-21)), (26, 27, 1, .iconst (-1)), (27, 28, 0, .ireturn)]
theorem ok_X6_firstZero : ∀ e ∈ k_X6_firstZero, z_okb cX6_firstZero e = true := fun e h => List.all_eq_true.mp (by decide +kernel : k_X6_firstZero.all (z_okb cX6_firstZero) = true) e h
def k_X6_zeros : List zI := [(0, 1, 0, .iconst 0), (1, 2, 0, .istore_n 1), (2, 3, 0, .iconst 0), (3, 4, 0, .istore_n 2), (4, 5, 0, .iload_n 2), (5, 6, 0, .aload_n 0), (6, 9, 0, .getfield 33), (9, 12, 29, .if_icmp .ge 20), (12, 13, 0, .aload_n 0), (13, 14, 0, .iload_n 2), (14, 17, 0, .invokevirtual 112), (17, 20, 23, .ifCond .eq 6), (20, 23, 1, .iinc 1 1), (23, 26, 1, .iinc 2 1), (26, 29, 4, .goto (-22)), (29, 30, 0, .iload_n 1), (30, 31, 0, .ireturn)]
theorem ok_X6_zeros : ∀ e ∈ k_X6_zeros, z_okb cX6_zeros e = true := fun e h => List.all_eq_true.mp (by decide +kernel : k_X6_zeros.all (z_okb cX6_zeros) = true) e h
def k_X6_notZero : List zI := [(0, 1, 0, .iconst 0), (1, 2, 0, .istore_n 1), (2, 3, 0, .iconst 0), (3, 4, 0, .istore_n 2), (4, 5, 0, .iload_n 2), (5, 6, 3, .iconst 3), (6, 7, 0, .aload_n 0), (7, 10, 0, .getfield 33), (10, 11, 0, .imul), (11, 14, 34, .if_icmp .ge 23), (14, 15, 0, .iload_n 1), (15, 16, 0, .aload_n 0), (16, 19, 0, .getfield 14), (19, 20, 0, .iload_n 2), (20, 23, 0, .invokevirtual 67), (23, 26, 0, .invokestatic 115), (26, 27, 0, .iadd), (27, 28, 0, .istore_n 1), (28, 31, 1, .iinc 2 1), (31, 34, 4, .goto (-27)), (34, 35, 0, .iload_n 1), (35, 36, 0, .ireturn)]
theorem ok_X6_notZero : ∀ e ∈ k_X6_notZero, z_okb cX6_notZero e = true := fun e h => List.all_eq_true.mp (by decide +kernel : k_X6_notZero.all (z_okb cX6_notZero) = true) e h
def k_X6_singles : List zI := [(0, 1, 0, .iconst 0), (1, 2, 0, .istore_n 1), (2, 3, 0, .iconst 0), (3, 4, 0, .istore_n 2), (4, 5, 0, .iload_n 2), (5, 6, 0, .aload_n 0), (6, 9, 0, .getfield 33), (9, 12, 60, .if_icmp .ge 51), (12, 13, 0, .aload_n 0), (13, 14, 0, .iload_n 2), (14, 15, 0, .iconst 0), (15, 18, 0, .invokevirtual 59), (18, 21, 0, .invokestatic 115), (21, 22, 1, .iconst 1), (22, 25, 54, .if_icmp .ne 32), (25, 26, 0, .aload_n 0), (26, 27, 0, .iload_n 2), (27, 28, 1, .iconst 1), (28, 31, 0, .invokevirtual 59), (31, 34, 0, .invokestatic 115), (34, 35, 1, .iconst 1), (35, 38, 54, .if_icmp .ne 19), (38, 39, 0, .aload_n 0), (39, 40, 0, .iload_n 2), (40, 41, 2, .iconst 2), (41, 44, 0, .invokevirtual 59), (44, 47, 0, .invokestatic 115), (47, 48, 1, .iconst 1), (48, 51, 54, .if_icmp .ne 6), (51, 54, 1, .iinc 1 1), (54, 57, 1, .iinc 2 1), (57, 60, 4, .goto (-53)), (60, 61, 0, .iload_n 1), (61, 62, 0, .ireturn)]
theorem ok_X6_singles : ∀ e ∈ k_X6_singles, z_okb cX6_singles e = true := fun e h => List.all_eq_true.mp (by decide +kernel : k_X6_singles.all (z_okb cX6_singles) = true) e h
def k_X6_usersOf : List zI := [(0, 1, 0, .iconst 0), (1, 3, 0, .istore 4), (3, 4, 0, .iconst 0), (4, 6, 0, .istore 5), (6, 8, 0, .iload 5), (8, 9, 0, .aload_n 0), (9, 12, 0, .getfield 33), (12, 15, 39, .if_icmp .ge 27), (15, 16, 0, .aload_n 0), (16, 18, 0, .iload 5), (18, 19, 0, .iload_n 1), (19, 22, 0, .invokevirtual 59), (22, 23, 0, .iload_n 2), (23, 26, 0, .invokestatic 94), (26, 27, 0, .iload_n 3), (27, 30, 33, .if_icmp .ne 6), (30, 33, 1, .iinc 4 1), (33, 36, 1, .iinc 5 1), (36, 39, 6, .goto (-30)), (39, 41, 0, .iload 4), (41, 42, 0, .ireturn)]
theorem ok_X6_usersOf : ∀ e ∈ k_X6_usersOf, z_okb cX6_usersOf e = true := fun e h => List.all_eq_true.mp (by decide +kernel : k_X6_usersOf.all (z_okb cX6_usersOf) = true) e h
def k_X6_unused : List zI := [(0, 1, 0, .iconst 0), (1, 2, 0, .istore_n 2), (2, 3, 0, .iconst 0), (3, 4, 0, .istore_n 3), (4, 5, 0, .iload_n 3), (5, 6, 0, .aload_n 0), (6, 9, 0, .getfield 33), (9, 12, 30, .if_icmp .ge 21), (12, 13, 0, .iload_n 2), (13, 14, 0, .aload_n 0), (14, 15, 0, .iload_n 3), (15, 16, 0, .iload_n 1), (16, 19, 0, .invokevirtual 59), (19, 22, 0, .invokestatic 120), (22, 23, 0, .ior), (23, 24, 0, .istore_n 2), (24, 27, 1, .iinc 3 1), (27, 30, 4, .goto (-23)), (30, 31, 0, .aload_n 0), (31, 32, 0, .iload_n 1), (32, 35, 0, .invokevirtual 82), (35, 36, 0, .iload_n 2), (36, 39, 0, .invokestatic 115), (39, 40, 0, .isub), (40, 41, 0, .ireturn)]
theorem ok_X6_unused : ∀ e ∈ k_X6_unused, z_okb cX6_unused e = true := fun e h => List.all_eq_true.mp (by decide +kernel : k_X6_unused.all (z_okb cX6_unused) = true) e h
def k_X6_likeBy : List zI := [(0, 1, 0, .aload_n 0), (1, 2, 0, .iload_n 1), (2, 3, 0, .iload_n 3), (3, 6, 0, .invokevirtual 59), (6, 7, 0, .aload_n 0), (7, 8, 0, .iload_n 2), (8, 9, 0, .iload_n 3), (9, 12, 0, .invokevirtual 59), (12, 13, 0, .aload_n 0), (13, 16, 0, .getfield 30), (16, 19, 0, .invokestatic 123), (19, 20, 0, .ireturn)]
theorem ok_X6_likeBy : ∀ e ∈ k_X6_likeBy, z_okb cX6_likeBy e = true := fun e h => List.all_eq_true.mp (by decide +kernel : k_X6_likeBy.all (z_okb cX6_likeBy) = true) e h
def k_X6_isLike : List zI := [(0, 1, 1, .iconst 1), (1, 3, 0, .istore 4), (3, 4, 0, .iconst 0), (4, 6, 0, .istore 5), (6, 8, 0, .iload 5), (8, 9, 3, .iconst 3), (9, 12, 44, .if_icmp .ge 35), (12, 14, 0, .iload 4), (14, 15, 0, .aload_n 0), (15, 16, 0, .iload_n 1), (16, 18, 0, .iload 5), (18, 21, 0, .invokevirtual 59), (21, 22, 0, .aload_n 2), (22, 23, 0, .iload_n 3), (23, 25, 0, .iload 5), (25, 28, 0, .invokevirtual 59), (28, 29, 0, .aload_n 0), (29, 32, 0, .getfield 30), (32, 35, 0, .invokestatic 123), (35, 36, 0, .imul), (36, 38, 0, .istore 4), (38, 41, 1, .iinc 5 1), (41, 44, 6, .goto (-35)), (44, 46, 0, .iload 4), (46, 47, 0, .aload_n 0), (47, 50, 0, .getfield 30), (50, 53, 0, .invokestatic 97), (53, 54, 1, .iconst 1), (54, 57, 61, .if_icmp .ne 7), (57, 58, 1, .iconst 1), (58, 61, 62, .goto 4), (61, 62, 0, .iconst 0), (62, 63, 0, .ireturn)]
theorem ok_X6_isLike : ∀ e ∈ k_X6_isLike, z_okb cX6_isLike e = true := fun e h => List.all_eq_true.mp (by decide +kernel : k_X6_isLike.all (z_okb cX6_isLike) = true) e h
def k_X6_matches : List zI := [(0, 1, 0, .lconst 0), (1, 2, 0, .lstore_n 2), (2, 3, 0, .iconst 0), (3, 5, 0, .istore 4), (5, 7, 0, .iload 4), (7, 8, 0, .aload_n 0), (8, 11, 0, .getfield 33), (11, 14, 73, .if_icmp .ge 62), (14, 15, 0, .iconst 0), (15, 17, 0, .istore 5), (17, 19, 0, .iload 5), (19, 20, 0, .aload_n 1), (20, 23, 0, .getfield 33), (23, 26, 67, .if_icmp .ge 44), (26, 27, 0, .lload_n 2), (27, 29, 0, .iload 5), (29, 32, 0, .invokestatic 126), (32, 33, 0, .land), (33, 34, 0, .lconst 0), (34, 35, 0, .lcmp), (35, 38, 61, .ifCond .ne 26), (38, 39, 0, .aload_n 0), (39, 41, 0, .iload 4), (41, 42, 0, .aload_n 1), (42, 44, 0, .iload 5), (44, 47, 0, .invokevirtual 130), (47, 50, 61, .ifCond .eq 14), (50, 51, 0, .lload_n 2), (51, 53, 0, .iload 5), (53, 56, 0, .invokestatic 126), (56, 57, 0, .lor), (57, 58, 0, .lstore_n 2), (58, 61, 67, .goto 9), (61, 64, 1, .iinc 5 1), (64, 67, 17, .goto (-47)), (67, 70, 1, .iinc 4 1), (70, 73, 5, .goto (-65)), (73, 74, 0, .lload_n 2), (74, 77, 0, .invokestatic 134), (77, 78, 0, .ireturn)]
theorem ok_X6_matches : ∀ e ∈ k_X6_matches, z_okb cX6_matches e = true := fun e h => List.all_eq_true.mp (by decide +kernel : k_X6_matches.all (z_okb cX6_matches) = true) e h
def k_X6_othersThan : List zI := [(0, 1, 0, .iconst 0), (1, 2, 0, .istore_n 2), (2, 3, 0, .iconst 0), (3, 4, 0, .istore_n 3), (4, 5, 0, .iload_n 3), (5, 6, 3, .iconst 3), (6, 7, 0, .aload_n 0), (7, 10, 0, .getfield 33), (10, 11, 0, .imul), (11, 14, 42, .if_icmp .ge 31), (14, 15, 0, .aload_n 0), (15, 18, 0, .getfield 14), (18, 19, 0, .iload_n 3), (19, 22, 0, .invokevirtual 67), (22, 23, 0, .aload_n 1), (23, 26, 0, .getfield 14), (26, 27, 0, .iload_n 3), (27, 30, 0, .invokevirtual 67), (30, 33, 36, .if_icmp .eq 6), (33, 36, 1, .iinc 2 1), (36, 39, 1, .iinc 3 1), (39, 42, 4, .goto (-35)), (42, 43, 0, .iload_n 2), (43, 44, 0, .ireturn)]
theorem ok_X6_othersThan : ∀ e ∈ k_X6_othersThan, z_okb cX6_othersThan e = true := fun e h => List.all_eq_true.mp (by decide +kernel : k_X6_othersThan.all (z_okb cX6_othersThan) = true) e h
def k_X6_groupOf : List zI := [(0, 1, 0, .lconst 0), (1, 2, 0, .lstore_n 3), (2, 3, 0, .iconst 0), (3, 5, 0, .istore 5), (5, 7, 0, .iload 5), (7, 8, 0, .aload_n 0), (8, 11, 0, .getfield 33), (11, 14, 39, .if_icmp .ge 28), (14, 15, 0, .aload_n 0), (15, 16, 0, .iload_n 1), (16, 18, 0, .iload 5), (18, 19, 0, .iload_n 2), (19, 22, 0, .invokevirtual 139), (22, 25, 33, .ifCond .le 11), (25, 26, 0, .lload_n 3), (26, 28, 0, .iload 5), (28, 31, 0, .invokestatic 126), (31, 32, 0, .lor), (32, 33, 0, .lstore_n 3), (33, 36, 1, .iinc 5 1), (36, 39, 5, .goto (-31)), (39, 40, 0, .lload_n 3), (40, 41, 0, .lreturn)]
theorem ok_X6_groupOf : ∀ e ∈ k_X6_groupOf, z_okb cX6_groupOf e = true := fun e h => List.all_eq_true.mp (by decide +kernel : k_X6_groupOf.all (z_okb cX6_groupOf) = true) e h
def k_X6_unlikeForms : List zI := [(0, 1, 0, .iconst 0), (1, 2, 0, .istore_n 2), (2, 3, 0, .iconst 0), (3, 4, 0, .istore_n 3), (4, 5, 0, .iload_n 3), (5, 6, 0, .aload_n 0), (6, 9, 0, .getfield 33), (9, 12, 50, .if_icmp .ge 41), (12, 13, 0, .aload_n 0), (13, 14, 0, .iload_n 3), (14, 15, 0, .iload_n 1), (15, 18, 0, .invokevirtual 140), (18, 20, 0, .lstore 4), (20, 22, 0, .lload 4), (22, 23, 0, .lconst 0), (23, 24, 0, .lcmp), (24, 27, 44, .ifCond .eq 20), (27, 29, 0, .lload 4), (29, 30, 0, .iload_n 3), (30, 33, 0, .invokestatic 126), (33, 34, 1, .lconst 1), (34, 35, 0, .lsub), (35, 36, 0, .land), (36, 37, 0, .lconst 0), (37, 38, 0, .lcmp), (38, 41, 44, .ifCond .ne 6), (41, 44, 1, .iinc 2 1), (44, 47, 1, .iinc 3 1), (47, 50, 4, .goto (-43)), (50, 51, 0, .iload_n 2), (51, 52, 0, .ireturn)]
theorem ok_X6_unlikeForms : ∀ e ∈ k_X6_unlikeForms, z_okb cX6_unlikeForms e = true := fun e h => List.all_eq_true.mp (by decide +kernel : k_X6_unlikeForms.all (z_okb cX6_unlikeForms) = true) e h
def k_X6_flipsAt : List zI := [(0, 1, 0, .iconst 0), (1, 2, 0, .istore_n 2), (2, 3, 0, .iconst 0), (3, 4, 0, .istore_n 3), (4, 5, 0, .iload_n 3), (5, 6, 0, .aload_n 0), (6, 9, 0, .getfield 33), (9, 12, 47, .if_icmp .ge 38), (12, 13, 0, .iconst 0), (13, 15, 0, .istore 4), (15, 17, 0, .iload 4), (17, 18, 0, .iload_n 3), (18, 21, 41, .if_icmp .ge 23), (21, 22, 0, .aload_n 0), (22, 23, 0, .iload_n 3), (23, 25, 0, .iload 4), (25, 26, 0, .iload_n 1), (26, 29, 0, .invokevirtual 139), (29, 32, 35, .ifCond .le 6), (32, 35, 2, .iinc 2 2), (35, 38, 1, .iinc 4 1), (38, 41, 15, .goto (-23)), (41, 44, 1, .iinc 3 1), (44, 47, 4, .goto (-40)), (47, 48, 0, .iload_n 2), (48, 49, 0, .ireturn)]
theorem ok_X6_flipsAt : ∀ e ∈ k_X6_flipsAt, z_okb cX6_flipsAt e = true := fun e h => List.all_eq_true.mp (by decide +kernel : k_X6_flipsAt.all (z_okb cX6_flipsAt) = true) e h
def k_X6_turnFlip_0 : List zI := [(0, 1, 0, .iload_n 3), (1, 4, 0, .invokestatic 85), (4, 6, 0, .istore 4), (6, 8, 0, .iload 4), (8, 11, 0, .invokestatic 85), (11, 13, 0, .istore 5), (13, 14, 0, .aload_n 0), (14, 15, 0, .iload_n 1), (15, 16, 0, .iload_n 2), (16, 17, 0, .iload_n 3), (17, 20, 0, .invokevirtual 139), (20, 22, 0, .istore 6), (22, 23, 0, .aload_n 0), (23, 24, 0, .iload_n 2), (24, 25, 0, .iload_n 3), (25, 26, 0, .aload_n 0), (26, 27, 0, .iload_n 1), (27, 28, 0, .iload_n 3), (28, 31, 0, .invokevirtual 59), (31, 34, 0, .invokevirtual 53), (34, 35, 0, .aload_n 0), (35, 36, 0, .iload_n 2), (36, 38, 0, .iload 4), (38, 40, 0, .iload 6), (40, 41, 0, .aload_n 0), (41, 42, 0, .iload_n 2), (42, 44, 0, .iload 4), (44, 47, 0, .invokevirtual 59), (47, 50, 0, .invokestatic 144), (50, 53, 0, .invokevirtual 53), (53, 54, 0, .aload_n 0), (54, 55, 0, .iload_n 1), (55, 57, 0, .iload 4), (57, 58, 0, .aload_n 0), (58, 59, 0, .iload_n 1), (59, 61, 0, .iload 4), (61, 64, 0, .invokevirtual 59), (64, 65, 0, .aload_n 0), (65, 66, 0, .iload_n 2), (66, 68, 0, .iload 4)]
theorem ok_X6_turnFlip_0 : ∀ e ∈ k_X6_turnFlip_0, z_okb cX6_turnFlip e = true := fun e h => List.all_eq_true.mp (by decide +kernel : k_X6_turnFlip_0.all (z_okb cX6_turnFlip) = true) e h
def k_X6_turnFlip_1 : List zI := [(68, 71, 0, .invokevirtual 59), (71, 72, 0, .aload_n 0), (72, 75, 0, .getfield 30), (75, 78, 0, .invokestatic 147), (78, 81, 0, .invokevirtual 53), (81, 82, 0, .aload_n 0), (82, 83, 0, .iload_n 2), (83, 85, 0, .iload 5), (85, 86, 0, .aload_n 0), (86, 87, 0, .iload_n 2), (87, 89, 0, .iload 5), (89, 92, 0, .invokevirtual 59), (92, 93, 0, .aload_n 0), (93, 94, 0, .iload_n 1), (94, 96, 0, .iload 5), (96, 99, 0, .invokevirtual 59), (99, 100, 0, .aload_n 0), (100, 103, 0, .getfield 30), (103, 106, 0, .invokestatic 150), (106, 109, 0, .invokevirtual 53), (109, 110, 0, .return_)]
theorem ok_X6_turnFlip_1 : ∀ e ∈ k_X6_turnFlip_1, z_okb cX6_turnFlip e = true := fun e h => List.all_eq_true.mp (by decide +kernel : k_X6_turnFlip_1.all (z_okb cX6_turnFlip) = true) e h
def k_X6_turnFlip : List zI := k_X6_turnFlip_0 ++ (k_X6_turnFlip_1)
theorem ok_X6_turnFlip : ∀ e ∈ k_X6_turnFlip, z_okb cX6_turnFlip e = true := List.forall_mem_append.mpr ⟨ok_X6_turnFlip_0, ok_X6_turnFlip_1⟩
def k_X7_init : List zI := [(0, 1, 0, .aload_n 0), (1, 4, 0, .invokespecial 3), (4, 5, 0, .aload_n 0), (5, 8, 0, .new 9), (8, 9, 0, .dup), (9, 12, 0, .invokespecial 11), (12, 15, 0, .putfield 12), (15, 16, 0, .aload_n 0), (16, 19, 0, .new 18), (19, 20, 0, .dup), (20, 22, 9, .bipush 9), (22, 25, 0, .invokespecial 20), (25, 28, 0, .putfield 23), (28, 29, 0, .aload_n 0), (29, 32, 0, .new 18), (32, 33, 0, .dup), (33, 34, 3, .iconst 3), (34, 37, 0, .invokespecial 20), (37, 40, 0, .putfield 27), (40, 41, 0, .return_)]
theorem ok_X7_init : ∀ e ∈ k_X7_init, z_okb cX7_init e = true := fun e h => List.all_eq_true.mp (by decide +kernel : k_X7_init.all (z_okb cX7_init) = true) e h
def k_X7_shedFirst_0 : List zI := [(0, 1, 0, .iconst 0), (1, 2, 0, .istore_n 2), (2, 3, 0, .iload_n 2), (3, 4, 3, .iconst 3), (4, 7, 112, .if_icmp .ge 108), (7, 8, 0, .iload_n 2), (8, 9, 0, .istore_n 3), (9, 10, 1, .iconst 1), (10, 12, 0, .istore 4), (12, 14, 0, .iload 4), (14, 15, 3, .iconst 3), (15, 18, 106, .if_icmp .ge 91), (18, 19, 0, .iload_n 3), (19, 22, 0, .invokestatic 30), (22, 23, 0, .istore_n 3), (23, 24, 0, .iconst 0), (24, 26, 0, .istore 5), (26, 28, 0, .iload 5), (28, 29, 0, .aload_n 1), (29, 32, 0, .getfield 34), (32, 35, 100, .if_icmp .ge 68), (35, 36, 0, .aload_n 1), (36, 38, 0, .iload 5), (38, 41, 0, .invokevirtual 40), (41, 44, 94, .ifCond .ne 53), (44, 45, 0, .aload_n 0), (45, 46, 0, .aload_n 1), (46, 47, 0, .iload_n 2), (47, 48, 0, .iload_n 3), (48, 50, 0, .iload 5), (50, 53, 0, .invokevirtual 44), (53, 56, 94, .ifCond .eq 41), (56, 57, 0, .aload_n 0), (57, 58, 0, .aload_n 1), (58, 59, 3, .iconst 3), (59, 60, 0, .iload_n 2), (60, 61, 0, .isub), (61, 62, 0, .iload_n 3), (62, 63, 0, .isub), (63, 65, 0, .iload 5)]
theorem ok_X7_shedFirst_0 : ∀ e ∈ k_X7_shedFirst_0, z_okb cX7_shedFirst e = true := fun e h => List.all_eq_true.mp (by decide +kernel : k_X7_shedFirst_0.all (z_okb cX7_shedFirst) = true) e h
def k_X7_shedFirst_1 : List zI := [(65, 68, 0, .invokevirtual 48), (68, 69, 0, .aload_n 1), (69, 71, 0, .iload 5), (71, 74, 0, .invokevirtual 52), (74, 75, 0, .aload_n 0), (75, 78, 0, .getfield 27), (78, 79, 0, .iload_n 2), (79, 80, 0, .aload_n 0), (80, 83, 0, .getfield 27), (83, 84, 0, .iload_n 2), (84, 87, 0, .invokevirtual 55), (87, 88, 1, .iconst 1), (88, 89, 0, .iadd), (89, 92, 0, .invokevirtual 58), (92, 93, 1, .iconst 1), (93, 94, 0, .ireturn), (94, 97, 1, .iinc 5 1), (97, 100, 26, .goto (-71)), (100, 103, 1, .iinc 4 1), (103, 106, 12, .goto (-91)), (106, 109, 1, .iinc 2 1), (109, 112, 2, .goto (-107)), (112, 113, 0, .iconst 0), (113, 114, 0, .ireturn)]
theorem ok_X7_shedFirst_1 : ∀ e ∈ k_X7_shedFirst_1, z_okb cX7_shedFirst e = true := fun e h => List.all_eq_true.mp (by decide +kernel : k_X7_shedFirst_1.all (z_okb cX7_shedFirst) = true) e h
def k_X7_shedFirst : List zI := k_X7_shedFirst_0 ++ (k_X7_shedFirst_1)
theorem ok_X7_shedFirst : ∀ e ∈ k_X7_shedFirst, z_okb cX7_shedFirst e = true := List.forall_mem_append.mpr ⟨ok_X7_shedFirst_0, ok_X7_shedFirst_1⟩
def k_X7_isSumOfAhead_0 : List zI := [(0, 1, 0, .aload_n 0), (1, 4, 0, .getfield 12), (4, 5, 0, .aload_n 1), (5, 8, 0, .getfield 62), (8, 11, 0, .invokevirtual 65), (11, 12, 0, .iconst 0), (12, 14, 0, .istore 5), (14, 16, 0, .iload 5), (16, 18, 0, .iload 4), (18, 21, 96, .if_icmp .ge 78), (21, 22, 0, .aload_n 1), (22, 24, 0, .iload 5), (24, 27, 0, .invokevirtual 40), (27, 30, 34, .ifCond .eq 7), (30, 31, 0, .iconst 0), (31, 34, 43, .goto 12), (34, 35, 0, .aload_n 1), (35, 37, 0, .iload 4), (37, 39, 0, .iload 5), (39, 40, 0, .iload_n 2), (40, 43, 0, .invokevirtual 68), (43, 45, 0, .istore 6), (45, 47, 0, .iload 6), (47, 50, 90, .ifCond .le 43), (50, 51, 0, .aload_n 0), (51, 54, 0, .getfield 12), (54, 56, 0, .iload 6), (56, 57, 0, .aload_n 1), (57, 59, 0, .iload 5), (59, 60, 0, .iload_n 3), (60, 63, 0, .invokevirtual 72), (63, 66, 0, .invokestatic 76), (66, 69, 0, .invokevirtual 81), (69, 72, 90, .ifCond .eq 21), (72, 73, 0, .aload_n 0), (73, 76, 0, .getfield 23), (76, 77, 0, .aload_n 0), (77, 80, 0, .getfield 12), (80, 83, 0, .getfield 84), (83, 84, 1, .iconst 1)]
theorem ok_X7_isSumOfAhead_0 : ∀ e ∈ k_X7_isSumOfAhead_0, z_okb cX7_isSumOfAhead e = true := fun e h => List.all_eq_true.mp (by decide +kernel : k_X7_isSumOfAhead_0.all (z_okb cX7_isSumOfAhead) = true) e h
def k_X7_isSumOfAhead_1 : List zI := [(84, 85, 0, .isub), (85, 87, 0, .iload 5), (87, 90, 0, .invokevirtual 58), (90, 93, 1, .iinc 5 1), (93, 96, 14, .goto (-79)), (96, 97, 0, .aload_n 0), (97, 100, 0, .getfield 12), (100, 101, 0, .aload_n 1), (101, 103, 0, .iload 4), (103, 104, 0, .iload_n 3), (104, 107, 0, .invokevirtual 72), (107, 110, 0, .invokevirtual 85), (110, 111, 0, .ireturn)]
theorem ok_X7_isSumOfAhead_1 : ∀ e ∈ k_X7_isSumOfAhead_1, z_okb cX7_isSumOfAhead e = true := fun e h => List.all_eq_true.mp (by decide +kernel : k_X7_isSumOfAhead_1.all (z_okb cX7_isSumOfAhead) = true) e h
def k_X7_isSumOfAhead : List zI := k_X7_isSumOfAhead_0 ++ (k_X7_isSumOfAhead_1)
theorem ok_X7_isSumOfAhead : ∀ e ∈ k_X7_isSumOfAhead, z_okb cX7_isSumOfAhead e = true := List.forall_mem_append.mpr ⟨ok_X7_isSumOfAhead_0, ok_X7_isSumOfAhead_1⟩
def k_X7_share : List zI := [(0, 1, 0, .iconst 0), (1, 3, 0, .istore 4), (3, 5, 0, .iload 4), (5, 6, 0, .aload_n 0), (6, 9, 0, .getfield 12), (9, 12, 0, .getfield 84), (12, 15, 78, .if_icmp .ge 66), (15, 16, 0, .aload_n 0), (16, 19, 0, .getfield 12), (19, 22, 0, .getfield 88), (22, 24, 0, .iload 4), (24, 27, 0, .invokestatic 91), (27, 28, 0, .aload_n 1), (28, 29, 0, .iload_n 3), (29, 30, 0, .iload_n 2), (30, 33, 0, .invokevirtual 72), (33, 36, 0, .invokestatic 76), (36, 38, 0, .istore 5), (38, 39, 0, .aload_n 0), (39, 42, 0, .getfield 23), (42, 44, 0, .iload 4), (44, 47, 0, .invokevirtual 55), (47, 49, 0, .istore 6), (49, 50, 0, .aload_n 1), (50, 52, 0, .iload 6), (52, 53, 0, .iload_n 2), (53, 54, 0, .aload_n 1), (54, 56, 0, .iload 6), (56, 57, 0, .iload_n 2), (57, 60, 0, .invokevirtual 72), (60, 62, 0, .iload 5), (62, 63, 0, .aload_n 1), (63, 66, 0, .getfield 62), (66, 69, 0, .invokestatic 94), (69, 72, 0, .invokevirtual 97), (72, 75, 1, .iinc 4 1), (75, 78, 3, .goto (-72)), (78, 79, 0, .return_)]
theorem ok_X7_share : ∀ e ∈ k_X7_share, z_okb cX7_share e = true := fun e h => List.all_eq_true.mp (by decide +kernel : k_X7_share.all (z_okb cX7_share) = true) e h
def k_X8_init : List zI := [(0, 1, 0, .aload_n 0), (1, 4, 0, .invokespecial 3), (4, 5, 0, .aload_n 0), (5, 8, 0, .new 9), (8, 9, 0, .dup), (9, 12, 400, .sipush 400), (12, 15, 0, .invokespecial 11), (15, 18, 0, .putfield 14), (18, 19, 0, .return_)]
theorem ok_X8_init : ∀ e ∈ k_X8_init, z_okb cX8_init e = true := fun e h => List.all_eq_true.mp (by decide +kernel : k_X8_init.all (z_okb cX8_init) = true) e h
def k_X8_addFour : List zI := [(0, 1, 0, .aload_n 0), (1, 4, 0, .getfield 20), (4, 5, 4, .iconst 4), (5, 6, 0, .iadd), (6, 9, 400, .sipush 400), (9, 12, 14, .if_icmp .le 5), (12, 13, 0, .iconst 0), (13, 14, 0, .ireturn), (14, 16, 24, .bipush 24), (16, 17, 0, .istore_n 2), (17, 18, 0, .iload_n 2), (18, 21, 55, .ifCond .lt 37), (21, 22, 0, .aload_n 0), (22, 25, 0, .getfield 14), (25, 26, 0, .aload_n 0), (26, 29, 0, .getfield 20), (29, 30, 0, .iload_n 1), (30, 31, 0, .iload_n 2), (31, 32, 0, .iushr), (32, 35, 255, .sipush 255), (35, 36, 0, .iand), (36, 39, 0, .invokevirtual 24), (39, 40, 0, .aload_n 0), (40, 41, 0, .dup), (41, 44, 0, .getfield 20), (44, 45, 1, .iconst 1), (45, 46, 0, .iadd), (46, 49, 0, .putfield 20), (49, 52, 8, .iinc 2 (-8)), (52, 55, 17, .goto (-35)), (55, 56, 1, .iconst 1), (56, 57, 0, .ireturn)]
theorem ok_X8_addFour : ∀ e ∈ k_X8_addFour, z_okb cX8_addFour e = true := fun e h => List.all_eq_true.mp (by decide +kernel : k_X8_addFour.all (z_okb cX8_addFour) = true) e h
def k_X8_cut : List zI := [(0, 1, 0, .iload_n 1), (1, 4, 12, .ifCond .lt 11), (4, 5, 0, .iload_n 1), (5, 6, 0, .aload_n 0), (6, 9, 0, .getfield 20), (9, 12, 14, .if_icmp .le 5), (12, 13, 0, .iconst 0), (13, 14, 0, .ireturn), (14, 15, 0, .aload_n 0), (15, 16, 0, .iload_n 1), (16, 19, 0, .putfield 20), (19, 20, 1, .iconst 1), (20, 21, 0, .ireturn)]
theorem ok_X8_cut : ∀ e ∈ k_X8_cut, z_okb cX8_cut e = true := fun e h => List.all_eq_true.mp (by decide +kernel : k_X8_cut.all (z_okb cX8_cut) = true) e h
def k_X8_empty : List zI := [(0, 1, 0, .aload_n 0), (1, 2, 0, .iconst 0), (2, 5, 0, .putfield 20), (5, 6, 0, .return_)]
theorem ok_X8_empty : ∀ e ∈ k_X8_empty, z_okb cX8_empty e = true := fun e h => List.all_eq_true.mp (by decide +kernel : k_X8_empty.all (z_okb cX8_empty) = true) e h
def k_X8_readScheme : List zI := [(0, 1, 0, .aload_n 0), (1, 2, 0, .iconst 0), (2, 5, 0, .putfield 28), (5, 6, 0, .aload_n 0), (6, 7, 0, .aload_n 1), (7, 10, 0, .invokevirtual 31), (10, 13, 18, .ifCond .ne 8), (13, 14, 0, .aload_n 0), (14, 17, 0, .getfield 28), (17, 18, 0, .ireturn), (18, 19, 1, .iconst 1), (19, 20, 0, .istore_n 2), (20, 21, 0, .iload_n 2), (21, 23, 40, .bipush 40), (23, 26, 54, .if_icmp .ge 31), (26, 27, 0, .aload_n 0), (27, 29, 59, .bipush 59), (29, 32, 0, .invokevirtual 35), (32, 35, 54, .ifCond .eq 22), (35, 36, 0, .aload_n 0), (36, 37, 0, .aload_n 1), (37, 40, 0, .invokevirtual 31), (40, 43, 48, .ifCond .ne 8), (43, 44, 0, .aload_n 0), (44, 47, 0, .getfield 28), (47, 48, 0, .ireturn), (48, 51, 1, .iinc 2 1), (51, 54, 20, .goto (-31)), (54, 55, 0, .aload_n 0), (55, 58, 0, .invokevirtual 39), (58, 59, 0, .ireturn)]
theorem ok_X8_readScheme : ∀ e ∈ k_X8_readScheme, z_okb cX8_readScheme e = true := fun e h => List.all_eq_true.mp (by decide +kernel : k_X8_readScheme.all (z_okb cX8_readScheme) = true) e h
def k_X8_readProduct : List zI := [(0, 1, 0, .aload_n 0), (1, 2, 0, .iconst 0), (2, 5, 0, .putfield 28), (5, 6, 0, .aload_n 0), (6, 7, 0, .aload_n 1), (7, 10, 0, .invokevirtual 31), (10, 13, 20, .ifCond .eq 10), (13, 14, 0, .aload_n 0), (14, 17, 0, .invokevirtual 39), (17, 20, 24, .goto 7), (20, 21, 0, .aload_n 0), (21, 24, 0, .getfield 28), (24, 25, 0, .ireturn)]
theorem ok_X8_readProduct : ∀ e ∈ k_X8_readProduct, z_okb cX8_readProduct e = true := fun e h => List.all_eq_true.mp (by decide +kernel : k_X8_readProduct.all (z_okb cX8_readProduct) = true) e h
def k_X8_readForm : List zI := [(0, 1, 0, .aload_n 0), (1, 2, 0, .iconst 0), (2, 5, 0, .putfield 28), (5, 6, 0, .aload_n 0), (6, 7, 0, .aload_n 1), (7, 8, 0, .iload_n 2), (8, 11, 0, .invokevirtual 43), (11, 14, 21, .ifCond .eq 10), (14, 15, 0, .aload_n 0), (15, 18, 0, .invokevirtual 39), (18, 21, 25, .goto 7), (21, 22, 0, .aload_n 0), (22, 25, 0, .getfield 28), (25, 26, 0, .ireturn)]
theorem ok_X8_readForm : ∀ e ∈ k_X8_readForm, z_okb cX8_readForm e = true := fun e h => List.all_eq_true.mp (by decide +kernel : k_X8_readForm.all (z_okb cX8_readForm) = true) e h
def k_X8_readNumbers : List zI := [(0, 1, 0, .aload_n 0), (1, 2, 0, .iconst 0), (2, 5, 0, .putfield 28), (5, 6, 0, .iconst 0), (6, 8, 0, .istore 4), (8, 10, 0, .iload 4), (10, 11, 0, .iload_n 2), (11, 14, 82, .if_icmp .ge 71), (14, 16, 0, .iload 4), (16, 19, 33, .ifCond .le 17), (19, 20, 0, .aload_n 0), (20, 22, 44, .bipush 44), (22, 25, 0, .invokevirtual 35), (25, 28, 33, .ifCond .ne 8), (28, 29, 0, .aload_n 0), (29, 32, 0, .getfield 28), (32, 33, 0, .ireturn), (33, 34, 0, .aload_n 0), (34, 37, 0, .invokevirtual 47), (37, 39, 48, .bipush 48), (39, 40, 0, .isub), (40, 42, 0, .istore 5), (42, 44, 0, .iload 5), (44, 47, 53, .ifCond .lt 9), (47, 49, 0, .iload 5), (49, 50, 0, .iload_n 3), (50, 53, 58, .if_icmp .lt 8), (53, 54, 0, .aload_n 0), (54, 57, 0, .getfield 28), (57, 58, 0, .ireturn), (58, 59, 0, .aload_n 1), (59, 61, 0, .iload 4), (61, 63, 0, .iload 5), (63, 66, 0, .invokevirtual 24), (66, 67, 0, .aload_n 0), (67, 68, 0, .dup), (68, 71, 0, .getfield 28), (71, 72, 1, .iconst 1), (72, 73, 0, .iadd), (73, 76, 0, .putfield 28), (76, 79, 1, .iinc 4 1), (79, 82, 8, .goto (-71)), (82, 83, 0, .aload_n 0), (83, 86, 0, .invokevirtual 39), (86, 87, 0, .ireturn)]
theorem ok_X8_readNumbers : ∀ e ∈ k_X8_readNumbers, z_okb cX8_readNumbers e = true := fun e h => List.all_eq_true.mp (by decide +kernel : k_X8_readNumbers.all (z_okb cX8_readNumbers) = true) e h
def k_X8_restFault : List zI := [(0, 1, 0, .aload_n 0), (1, 4, 0, .getfield 28), (4, 5, 0, .aload_n 0), (5, 8, 0, .getfield 20), (8, 11, 18, .if_icmp .ge 10), (11, 12, 0, .aload_n 0), (12, 15, 0, .getfield 28), (15, 18, 19, .goto 4), (18, 19, 1, .iconst (-1)), (19, 20, 0, .ireturn)]
theorem ok_X8_restFault : ∀ e ∈ k_X8_restFault, z_okb cX8_restFault e = true := fun e h => List.all_eq_true.mp (by decide +kernel : k_X8_restFault.all (z_okb cX8_restFault) = true) e h
def k_X8_peek : List zI := [(0, 1, 0, .aload_n 0), (1, 4, 0, .getfield 28), (4, 5, 0, .aload_n 0), (5, 8, 0, .getfield 20), (8, 11, 25, .if_icmp .ge 17), (11, 12, 0, .aload_n 0), (12, 15, 0, .getfield 14), (15, 16, 0, .aload_n 0), (16, 19, 0, .getfield 28), (19, 22, 0, .invokevirtual 50), (22, 25, 26, .goto 4), (25, 26, 1, .iconst (-1)), (26, 27, 0, .ireturn)]
theorem ok_X8_peek : ∀ e ∈ k_X8_peek, z_okb cX8_peek e = true := fun e h => List.all_eq_true.mp (by decide +kernel : k_X8_peek.all (z_okb cX8_peek) = true) e h
def k_X8_take : List zI := [(0, 1, 0, .aload_n 0), (1, 4, 0, .invokevirtual 47), (4, 5, 0, .iload_n 1), (5, 8, 10, .if_icmp .eq 5), (8, 9, 0, .iconst 0), (9, 10, 0, .ireturn), (10, 11, 0, .aload_n 0), (11, 12, 0, .dup), (12, 15, 0, .getfield 28), (15, 16, 1, .iconst 1), (16, 17, 0, .iadd), (17, 20, 0, .putfield 28), (20, 21, 1, .iconst 1), (21, 22, 0, .ireturn)]
theorem ok_X8_take : ∀ e ∈ k_X8_take, z_okb cX8_take e = true := fun e h => List.all_eq_true.mp (by decide +kernel : k_X8_take.all (z_okb cX8_take) = true) e h
def k_X8_takeProduct : List zI := [(0, 1, 0, .aload_n 1), (1, 4, 0, .invokevirtual 53), (4, 7, 9, .ifCond .ne 5), (7, 8, 0, .iconst 0), (8, 9, 0, .ireturn), (9, 10, 0, .iconst 0), (10, 11, 0, .istore_n 2), (11, 12, 0, .iload_n 2), (12, 13, 3, .iconst 3), (13, 16, 61, .if_icmp .ge 48), (16, 17, 0, .iload_n 2), (17, 20, 29, .ifCond .le 12), (20, 21, 0, .aload_n 0), (21, 23, 42, .bipush 42), (23, 26, 0, .invokevirtual 35), (26, 29, 38, .ifCond .eq 12), (29, 30, 0, .aload_n 0), (30, 31, 0, .aload_n 1), (31, 32, 0, .iload_n 2), (32, 35, 0, .invokevirtual 43), (35, 38, 40, .ifCond .ne 5), (38, 39, 0, .iconst 0), (39, 40, 0, .ireturn), (40, 41, 0, .aload_n 1), (41, 42, 0, .aload_n 1), (42, 45, 0, .getfield 59), (45, 46, 1, .iconst 1), (46, 47, 0, .isub), (47, 48, 0, .iload_n 2), (48, 49, 0, .aload_n 0), (49, 52, 0, .getfield 62), (52, 55, 0, .invokevirtual 65), (55, 58, 1, .iinc 2 1), (58, 61, 11, .goto (-47)), (61, 62, 1, .iconst 1), (62, 63, 0, .ireturn)]
theorem ok_X8_takeProduct : ∀ e ∈ k_X8_takeProduct, z_okb cX8_takeProduct e = true := fun e h => List.all_eq_true.mp (by decide +kernel : k_X8_takeProduct.all (z_okb cX8_takeProduct) = true) e h
def k_X8_takeForm : List zI := [(0, 1, 0, .aload_n 0), (1, 2, 0, .iconst 0), (2, 5, 0, .putfield 62), (5, 6, 0, .aload_n 0), (6, 8, 45, .bipush 45), (8, 11, 0, .invokevirtual 35), (11, 14, 23, .ifCond .eq 12), (14, 15, 0, .aload_n 1), (15, 18, 0, .getfield 69), (18, 19, 1, .iconst 1), (19, 20, 0, .isub), (20, 23, 24, .goto 4), (23, 24, 1, .iconst 1), (24, 25, 0, .istore_n 3), (25, 26, 0, .iconst 0), (26, 28, 0, .istore 4), (28, 30, 0, .iload 4), (30, 33, 400, .sipush 400), (33, 36, 89, .if_icmp .ge 56), (36, 37, 0, .aload_n 0), (37, 38, 0, .aload_n 1), (38, 39, 0, .iload_n 2), (39, 40, 0, .iload_n 3), (40, 43, 0, .invokevirtual 72), (43, 46, 48, .ifCond .ne 5), (46, 47, 0, .iconst 0), (47, 48, 0, .ireturn), (48, 49, 0, .aload_n 0), (49, 51, 43, .bipush 43), (51, 54, 0, .invokevirtual 35), (54, 57, 62, .ifCond .eq 8), (57, 58, 1, .iconst 1), (58, 59, 0, .istore_n 3), (59, 62, 83, .goto 24), (62, 63, 0, .aload_n 0), (63, 65, 45, .bipush 45), (65, 68, 0, .invokevirtual 35), (68, 71, 81, .ifCond .eq 13), (71, 72, 0, .aload_n 1), (72, 75, 0, .getfield 69), (75, 76, 1, .iconst 1), (76, 77, 0, .isub), (77, 78, 0, .istore_n 3), (78, 81, 83, .goto 5), (81, 82, 1, .iconst 1), (82, 83, 0, .ireturn), (83, 86, 1, .iinc 4 1), (86, 89, 28, .goto (-58)), (89, 90, 0, .iconst 0), (90, 91, 0, .ireturn)]
theorem ok_X8_takeForm : ∀ e ∈ k_X8_takeForm, z_okb cX8_takeForm e = true := fun e h => List.all_eq_true.mp (by decide +kernel : k_X8_takeForm.all (z_okb cX8_takeForm) = true) e h
def k_X8_takeTerm_0 : List zI := [(0, 1, 0, .aload_n 0), (1, 4, 0, .invokevirtual 47), (4, 6, 97, .bipush 97), (6, 7, 0, .iload_n 2), (7, 8, 0, .iadd), (8, 11, 13, .if_icmp .eq 5), (11, 12, 0, .iconst 0), (12, 13, 0, .ireturn), (13, 14, 0, .aload_n 0), (14, 15, 0, .dup), (15, 18, 0, .getfield 28), (18, 19, 1, .iconst 1), (19, 20, 0, .iadd), (20, 23, 0, .putfield 28), (23, 24, 0, .aload_n 0), (24, 27, 0, .invokevirtual 47), (27, 29, 49, .bipush 49), (29, 30, 0, .isub), (30, 32, 0, .istore 4), (32, 34, 0, .iload 4), (34, 37, 47, .ifCond .lt 13), (37, 39, 0, .iload 4), (39, 40, 0, .aload_n 1), (40, 41, 0, .iload_n 2), (41, 44, 0, .invokevirtual 76), (44, 47, 49, .if_icmp .lt 5), (47, 48, 0, .iconst 0), (48, 49, 0, .ireturn), (49, 50, 0, .aload_n 0), (50, 51, 0, .dup), (51, 54, 0, .getfield 28), (54, 55, 1, .iconst 1), (55, 56, 0, .iadd), (56, 59, 0, .putfield 28), (59, 60, 0, .aload_n 0), (60, 63, 0, .invokevirtual 47), (63, 65, 49, .bipush 49), (65, 66, 0, .isub), (66, 68, 0, .istore 5), (68, 70, 0, .iload 5)]
theorem ok_X8_takeTerm_0 : ∀ e ∈ k_X8_takeTerm_0, z_okb cX8_takeTerm e = true := fun e h => List.all_eq_true.mp (by decide +kernel : k_X8_takeTerm_0.all (z_okb cX8_takeTerm) = true) e h
def k_X8_takeTerm_1 : List zI := [(70, 73, 83, .ifCond .lt 13), (73, 75, 0, .iload 5), (75, 76, 0, .aload_n 1), (76, 77, 0, .iload_n 2), (77, 80, 0, .invokevirtual 79), (80, 83, 85, .if_icmp .lt 5), (83, 84, 0, .iconst 0), (84, 85, 0, .ireturn), (85, 87, 0, .iload 4), (87, 88, 0, .aload_n 1), (88, 89, 0, .iload_n 2), (89, 92, 0, .invokevirtual 79), (92, 93, 0, .imul), (93, 95, 0, .iload 5), (95, 96, 0, .iadd), (96, 98, 0, .istore 6), (98, 99, 0, .aload_n 0), (99, 102, 0, .getfield 62), (102, 104, 0, .iload 6), (104, 107, 0, .invokestatic 82), (107, 110, 112, .ifCond .eq 5), (110, 111, 0, .iconst 0), (111, 112, 0, .ireturn), (112, 113, 0, .aload_n 0), (113, 114, 0, .dup), (114, 117, 0, .getfield 28), (117, 118, 1, .iconst 1), (118, 119, 0, .iadd), (119, 122, 0, .putfield 28), (122, 123, 0, .aload_n 0), (123, 124, 0, .aload_n 0), (124, 127, 0, .getfield 62), (127, 129, 0, .iload 6), (129, 130, 0, .iload_n 3), (130, 133, 0, .invokestatic 88), (133, 136, 0, .putfield 62), (136, 137, 1, .iconst 1), (137, 138, 0, .ireturn)]
theorem ok_X8_takeTerm_1 : ∀ e ∈ k_X8_takeTerm_1, z_okb cX8_takeTerm e = true := fun e h => List.all_eq_true.mp (by decide +kernel : k_X8_takeTerm_1.all (z_okb cX8_takeTerm) = true) e h
def k_X8_takeTerm : List zI := k_X8_takeTerm_0 ++ (k_X8_takeTerm_1)
theorem ok_X8_takeTerm : ∀ e ∈ k_X8_takeTerm, z_okb cX8_takeTerm e = true := List.forall_mem_append.mpr ⟨ok_X8_takeTerm_0, ok_X8_takeTerm_1⟩
def k_X9_init : List zI := [(0, 1, 0, .aload_n 0), (1, 4, 0, .invokespecial 3), (4, 5, 0, .aload_n 0), (5, 7, 9, .bipush 9), (7, 9, 0, .newarray .long), (9, 12, 0, .putfield 9), (12, 13, 0, .return_)]
theorem ok_X9_init : ∀ e ∈ k_X9_init, z_okb cX9_init e = true := fun e h => List.all_eq_true.mp (by decide +kernel : k_X9_init.all (z_okb cX9_init) = true) e h
def k_X9_clear : List zI := [(0, 1, 0, .aload_n 0), (1, 2, 0, .iconst 0), (2, 5, 0, .putfield 15), (5, 6, 0, .return_)]
theorem ok_X9_clear : ∀ e ∈ k_X9_clear, z_okb cX9_clear e = true := fun e h => List.all_eq_true.mp (by decide +kernel : k_X9_clear.all (z_okb cX9_clear) = true) e h
def k_X9_add : List zI := [(0, 1, 0, .aload_n 0), (1, 4, 0, .getfield 15), (4, 7, 39, .ifCond .lt 35), (7, 8, 0, .aload_n 0), (8, 11, 0, .getfield 15), (11, 12, 0, .aload_n 0), (12, 15, 0, .getfield 9), (15, 16, 0, .arraylength), (16, 19, 39, .if_icmp .ge 23), (19, 20, 0, .aload_n 0), (20, 23, 0, .getfield 9), (23, 24, 0, .aload_n 0), (24, 27, 0, .getfield 15), (27, 28, 0, .lload_n 1), (28, 29, 0, .lastore), (29, 30, 0, .aload_n 0), (30, 31, 0, .dup), (31, 34, 0, .getfield 15), (34, 35, 1, .iconst 1), (35, 36, 0, .iadd), (36, 39, 0, .putfield 15), (39, 40, 0, .return_)]
theorem ok_X9_add : ∀ e ∈ k_X9_add, z_okb cX9_add e = true := fun e h => List.all_eq_true.mp (by decide +kernel : k_X9_add.all (z_okb cX9_add) = true) e h
def k_X9_at : List zI := [(0, 1, 0, .iload_n 1), (1, 4, 22, .ifCond .lt 21), (4, 5, 0, .iload_n 1), (5, 6, 0, .aload_n 0), (6, 9, 0, .getfield 9), (9, 10, 0, .arraylength), (10, 13, 22, .if_icmp .ge 12), (13, 14, 0, .aload_n 0), (14, 17, 0, .getfield 9), (17, 18, 0, .iload_n 1), (18, 19, 0, .laload), (19, 22, 23, .goto 4), (22, 23, 0, .lconst 0), (23, 24, 0, .lreturn)]
theorem ok_X9_at : ∀ e ∈ k_X9_at, z_okb cX9_at e = true := fun e h => List.all_eq_true.mp (by decide +kernel : k_X9_at.all (z_okb cX9_at) = true) e h
def k_X10_roll : List zI := [(0, 1, 0, .iconst 0), (1, 2, 0, .istore_n 1), (2, 3, 0, .iload_n 1), (3, 4, 0, .aload_n 0), (4, 7, 0, .getfield 9), (7, 10, 54, .if_icmp .ge 47), (10, 11, 0, .aload_n 0), (11, 12, 0, .iload_n 1), (12, 13, 0, .iconst 0), (13, 16, 0, .invokevirtual 15), (16, 17, 0, .istore_n 2), (17, 18, 0, .aload_n 0), (18, 19, 0, .iload_n 1), (19, 20, 0, .iconst 0), (20, 21, 0, .aload_n 0), (21, 22, 0, .iload_n 1), (22, 23, 1, .iconst 1), (23, 26, 0, .invokevirtual 15), (26, 29, 0, .invokevirtual 19), (29, 30, 0, .aload_n 0), (30, 31, 0, .iload_n 1), (31, 32, 1, .iconst 1), (32, 33, 0, .aload_n 0), (33, 34, 0, .iload_n 1), (34, 35, 2, .iconst 2), (35, 38, 0, .invokevirtual 15), (38, 41, 0, .invokevirtual 19), (41, 42, 0, .aload_n 0), (42, 43, 0, .iload_n 1), (43, 44, 2, .iconst 2), (44, 45, 0, .iload_n 2), (45, 48, 0, .invokevirtual 19), (48, 51, 1, .iinc 1 1), (51, 54, 2, .goto (-49)), (54, 55, 0, .aload_n 0), (55, 58, 0, .getfield 23), (58, 59, 0, .istore_n 1), (59, 60, 0, .aload_n 0), (60, 61, 0, .aload_n 0), (61, 64, 0, .getfield 26), (64, 67, 0, .putfield 23), (67, 68, 0, .aload_n 0), (68, 69, 0, .aload_n 0), (69, 72, 0, .getfield 29), (72, 75, 0, .putfield 26), (75, 76, 0, .aload_n 0), (76, 77, 0, .iload_n 1), (77, 80, 0, .putfield 29), (80, 81, 0, .return_)]
theorem ok_X10_roll : ∀ e ∈ k_X10_roll, z_okb cX10_roll e = true := fun e h => List.all_eq_true.mp (by decide +kernel : k_X10_roll.all (z_okb cX10_roll) = true) e h
def k_X10_mirror_0 : List zI := [(0, 1, 0, .iconst 0), (1, 2, 0, .istore_n 1), (2, 3, 0, .iload_n 1), (3, 4, 0, .aload_n 0), (4, 7, 0, .getfield 9), (7, 10, 93, .if_icmp .ge 86), (10, 11, 0, .aload_n 0), (11, 12, 0, .iload_n 1), (12, 13, 2, .iconst 2), (13, 16, 0, .invokevirtual 15), (16, 17, 0, .aload_n 0), (17, 20, 0, .getfield 29), (20, 21, 0, .aload_n 0), (21, 24, 0, .getfield 23), (24, 27, 0, .invokestatic 32), (27, 28, 0, .istore_n 2), (28, 29, 0, .aload_n 0), (29, 30, 0, .iload_n 1), (30, 31, 1, .iconst 1), (31, 34, 0, .invokevirtual 15), (34, 35, 0, .aload_n 0), (35, 38, 0, .getfield 26), (38, 39, 0, .aload_n 0), (39, 42, 0, .getfield 29), (42, 45, 0, .invokestatic 32), (45, 46, 0, .istore_n 3), (46, 47, 0, .aload_n 0), (47, 48, 0, .iload_n 1), (48, 49, 0, .iconst 0), (49, 52, 0, .invokevirtual 15), (52, 53, 0, .aload_n 0), (53, 56, 0, .getfield 23), (56, 57, 0, .aload_n 0), (57, 60, 0, .getfield 26), (60, 63, 0, .invokestatic 32), (63, 65, 0, .istore 4), (65, 66, 0, .aload_n 0), (66, 67, 0, .iload_n 1), (67, 68, 0, .iconst 0), (68, 69, 0, .iload_n 2)]
theorem ok_X10_mirror_0 : ∀ e ∈ k_X10_mirror_0, z_okb cX10_mirror e = true := fun e h => List.all_eq_true.mp (by decide +kernel : k_X10_mirror_0.all (z_okb cX10_mirror) = true) e h
def k_X10_mirror_1 : List zI := [(69, 72, 0, .invokevirtual 19), (72, 73, 0, .aload_n 0), (73, 74, 0, .iload_n 1), (74, 75, 1, .iconst 1), (75, 76, 0, .iload_n 3), (76, 79, 0, .invokevirtual 19), (79, 80, 0, .aload_n 0), (80, 81, 0, .iload_n 1), (81, 82, 2, .iconst 2), (82, 84, 0, .iload 4), (84, 87, 0, .invokevirtual 19), (87, 90, 1, .iinc 1 1), (90, 93, 2, .goto (-88)), (93, 94, 0, .aload_n 0), (94, 97, 0, .getfield 26), (97, 98, 0, .istore_n 1), (98, 99, 0, .aload_n 0), (99, 100, 0, .aload_n 0), (100, 103, 0, .getfield 29), (103, 106, 0, .putfield 26), (106, 107, 0, .aload_n 0), (107, 108, 0, .iload_n 1), (108, 111, 0, .putfield 29), (111, 112, 0, .return_)]
theorem ok_X10_mirror_1 : ∀ e ∈ k_X10_mirror_1, z_okb cX10_mirror e = true := fun e h => List.all_eq_true.mp (by decide +kernel : k_X10_mirror_1.all (z_okb cX10_mirror) = true) e h
def k_X10_mirror : List zI := k_X10_mirror_0 ++ (k_X10_mirror_1)
theorem ok_X10_mirror : ∀ e ∈ k_X10_mirror, z_okb cX10_mirror e = true := List.forall_mem_append.mpr ⟨ok_X10_mirror_0, ok_X10_mirror_1⟩
def k_X10_transposed : List zI := [(0, 1, 0, .iconst 0), (1, 2, 0, .istore_n 3), (2, 3, 0, .iconst 0), (3, 5, 0, .istore 4), (5, 7, 0, .iload 4), (7, 8, 0, .iload_n 1), (8, 11, 55, .if_icmp .ge 47), (11, 12, 0, .iconst 0), (12, 14, 0, .istore 5), (14, 16, 0, .iload 5), (16, 17, 0, .iload_n 2), (17, 20, 49, .if_icmp .ge 32), (20, 21, 0, .iload_n 3), (21, 23, 0, .iload 5), (23, 24, 0, .iload_n 1), (24, 25, 0, .imul), (25, 27, 0, .iload 4), (27, 28, 0, .iadd), (28, 29, 0, .iload_n 0), (29, 31, 0, .iload 4), (31, 32, 0, .iload_n 2), (32, 33, 0, .imul), (33, 35, 0, .iload 5), (35, 36, 0, .iadd), (36, 39, 0, .invokestatic 38), (39, 42, 0, .invokestatic 43), (42, 43, 0, .istore_n 3), (43, 46, 1, .iinc 5 1), (46, 49, 14, .goto (-32)), (49, 52, 1, .iinc 4 1), (52, 55, 5, .goto (-47)), (55, 56, 0, .iload_n 3), (56, 57, 0, .ireturn)]
theorem ok_X10_transposed : ∀ e ∈ k_X10_transposed, z_okb cX10_transposed e = true := fun e h => List.all_eq_true.mp (by decide +kernel : k_X10_transposed.all (z_okb cX10_transposed) = true) e h
def k_X10_shear_0 : List zI := [(0, 1, 0, .iload_n 1), (1, 4, 0, .invokestatic 46), (4, 6, 0, .istore 5), (6, 7, 0, .aload_n 0), (7, 8, 0, .iload_n 1), (8, 11, 0, .invokevirtual 50), (11, 13, 0, .istore 6), (13, 14, 0, .aload_n 0), (14, 16, 0, .iload 5), (16, 19, 0, .invokevirtual 50), (19, 21, 0, .istore 7), (21, 22, 0, .aload_n 0), (22, 24, 0, .iload 5), (24, 27, 0, .invokevirtual 53), (27, 29, 0, .istore 8), (29, 30, 0, .iconst 0), (30, 32, 0, .istore 9), (32, 34, 0, .iload 9), (34, 35, 0, .aload_n 0), (35, 38, 0, .getfield 9), (38, 41, 176, .if_icmp .ge 138), (41, 42, 0, .aload_n 0), (42, 44, 0, .iload 9), (44, 45, 0, .iload_n 1), (45, 48, 0, .invokevirtual 15), (48, 50, 0, .istore 10), (50, 51, 0, .iconst 0), (51, 53, 0, .istore 11), (53, 55, 0, .iload 11), (55, 57, 0, .iload 6), (57, 60, 93, .if_icmp .ge 36), (60, 62, 0, .iload 10), (62, 63, 0, .iload_n 2), (63, 65, 0, .iload 6), (65, 66, 0, .imul), (66, 68, 0, .iload 11), (68, 69, 0, .iadd), (69, 70, 0, .iload_n 3), (70, 72, 0, .iload 6), (72, 73, 0, .imul)]
theorem ok_X10_shear_0 : ∀ e ∈ k_X10_shear_0, z_okb cX10_shear e = true := fun e h => List.all_eq_true.mp (by decide +kernel : k_X10_shear_0.all (z_okb cX10_shear) = true) e h
def k_X10_shear_1 : List zI := [(73, 75, 0, .iload 11), (75, 76, 0, .iadd), (76, 78, 0, .iload 4), (78, 79, 0, .aload_n 0), (79, 82, 0, .getfield 56), (82, 85, 0, .invokestatic 59), (85, 87, 0, .istore 10), (87, 90, 1, .iinc 11 1), (90, 93, 53, .goto (-37)), (93, 94, 0, .aload_n 0), (94, 96, 0, .iload 9), (96, 97, 0, .iload_n 1), (97, 99, 0, .iload 10), (99, 102, 0, .invokevirtual 19), (102, 103, 0, .aload_n 0), (103, 105, 0, .iload 9), (105, 107, 0, .iload 5), (107, 110, 0, .invokevirtual 15), (110, 112, 0, .istore 11), (112, 113, 0, .iconst 0), (113, 115, 0, .istore 12), (115, 117, 0, .iload 12), (117, 119, 0, .iload 8), (119, 122, 160, .if_icmp .ge 41), (122, 124, 0, .iload 11), (124, 126, 0, .iload 12), (126, 128, 0, .iload 7), (128, 129, 0, .imul), (129, 130, 0, .iload_n 3), (130, 131, 0, .iadd), (131, 133, 0, .iload 12), (133, 135, 0, .iload 7), (135, 136, 0, .imul), (136, 137, 0, .iload_n 2), (137, 138, 0, .iadd), (138, 139, 0, .aload_n 0), (139, 142, 0, .getfield 56), (142, 144, 0, .iload 4), (144, 145, 0, .isub), (145, 146, 0, .aload_n 0)]
theorem ok_X10_shear_1 : ∀ e ∈ k_X10_shear_1, z_okb cX10_shear e = true := fun e h => List.all_eq_true.mp (by decide +kernel : k_X10_shear_1.all (z_okb cX10_shear) = true) e h
def k_X10_shear_2 : List zI := [(146, 149, 0, .getfield 56), (149, 152, 0, .invokestatic 59), (152, 154, 0, .istore 11), (154, 157, 1, .iinc 12 1), (157, 160, 115, .goto (-42)), (160, 161, 0, .aload_n 0), (161, 163, 0, .iload 9), (163, 165, 0, .iload 5), (165, 167, 0, .iload 11), (167, 170, 0, .invokevirtual 19), (170, 173, 1, .iinc 9 1), (173, 176, 32, .goto (-141)), (176, 177, 0, .return_)]
theorem ok_X10_shear_2 : ∀ e ∈ k_X10_shear_2, z_okb cX10_shear e = true := fun e h => List.all_eq_true.mp (by decide +kernel : k_X10_shear_2.all (z_okb cX10_shear) = true) e h
def k_X10_shear : List zI := k_X10_shear_0 ++ (k_X10_shear_1 ++ (k_X10_shear_2))
theorem ok_X10_shear : ∀ e ∈ k_X10_shear, z_okb cX10_shear e = true := List.forall_mem_append.mpr ⟨ok_X10_shear_0, List.forall_mem_append.mpr ⟨ok_X10_shear_1, ok_X10_shear_2⟩⟩
def k_X10_addTimes : List zI := [(0, 1, 0, .iload_n 3), (1, 2, 0, .iload_n 0), (2, 3, 0, .iload_n 1), (3, 6, 0, .invokestatic 38), (6, 7, 0, .imul), (7, 9, 0, .istore 5), (9, 10, 0, .iload_n 0), (10, 11, 0, .iload_n 2), (11, 12, 0, .iload_n 0), (12, 13, 0, .iload_n 2), (13, 16, 0, .invokestatic 38), (16, 18, 0, .iload 5), (18, 19, 0, .iadd), (19, 21, 0, .iload 4), (21, 24, 0, .invokestatic 63), (24, 27, 0, .invokestatic 43), (27, 28, 0, .ireturn)]
theorem ok_X10_addTimes : ∀ e ∈ k_X10_addTimes, z_okb cX10_addTimes e = true := fun e h => List.all_eq_true.mp (by decide +kernel : k_X10_addTimes.all (z_okb cX10_addTimes) = true) e h
def k_X10_swap_0 : List zI := [(0, 1, 0, .iload_n 1), (1, 4, 0, .invokestatic 46), (4, 6, 0, .istore 4), (6, 7, 0, .aload_n 0), (7, 8, 0, .iload_n 1), (8, 11, 0, .invokevirtual 50), (11, 13, 0, .istore 5), (13, 14, 0, .aload_n 0), (14, 16, 0, .iload 4), (16, 19, 0, .invokevirtual 50), (19, 21, 0, .istore 6), (21, 22, 0, .aload_n 0), (22, 24, 0, .iload 4), (24, 27, 0, .invokevirtual 53), (27, 29, 0, .istore 7), (29, 30, 0, .iconst 0), (30, 32, 0, .istore 8), (32, 34, 0, .iload 8), (34, 35, 0, .aload_n 0), (35, 38, 0, .getfield 9), (38, 41, 159, .if_icmp .ge 121), (41, 42, 0, .aload_n 0), (42, 44, 0, .iload 8), (44, 45, 0, .iload_n 1), (45, 48, 0, .invokevirtual 15), (48, 50, 0, .istore 9), (50, 51, 0, .iconst 0), (51, 53, 0, .istore 10), (53, 55, 0, .iload 10), (55, 57, 0, .iload 5), (57, 60, 87, .if_icmp .ge 30), (60, 62, 0, .iload 9), (62, 63, 0, .iload_n 2), (63, 65, 0, .iload 5), (65, 66, 0, .imul), (66, 68, 0, .iload 10), (68, 69, 0, .iadd), (69, 70, 0, .iload_n 3), (70, 72, 0, .iload 5), (72, 73, 0, .imul)]
theorem ok_X10_swap_0 : ∀ e ∈ k_X10_swap_0, z_okb cX10_swap e = true := fun e h => List.all_eq_true.mp (by decide +kernel : k_X10_swap_0.all (z_okb cX10_swap) = true) e h
def k_X10_swap_1 : List zI := [(73, 75, 0, .iload 10), (75, 76, 0, .iadd), (76, 79, 0, .invokestatic 66), (79, 81, 0, .istore 9), (81, 84, 1, .iinc 10 1), (84, 87, 53, .goto (-31)), (87, 88, 0, .aload_n 0), (88, 90, 0, .iload 8), (90, 91, 0, .iload_n 1), (91, 93, 0, .iload 9), (93, 96, 0, .invokevirtual 19), (96, 97, 0, .aload_n 0), (97, 99, 0, .iload 8), (99, 101, 0, .iload 4), (101, 104, 0, .invokevirtual 15), (104, 106, 0, .istore 10), (106, 107, 0, .iconst 0), (107, 109, 0, .istore 11), (109, 111, 0, .iload 11), (111, 113, 0, .iload 7), (113, 116, 143, .if_icmp .ge 30), (116, 118, 0, .iload 10), (118, 120, 0, .iload 11), (120, 122, 0, .iload 6), (122, 123, 0, .imul), (123, 124, 0, .iload_n 2), (124, 125, 0, .iadd), (125, 127, 0, .iload 11), (127, 129, 0, .iload 6), (129, 130, 0, .imul), (130, 131, 0, .iload_n 3), (131, 132, 0, .iadd), (132, 135, 0, .invokestatic 66), (135, 137, 0, .istore 10), (137, 140, 1, .iinc 11 1), (140, 143, 109, .goto (-31)), (143, 144, 0, .aload_n 0), (144, 146, 0, .iload 8), (146, 148, 0, .iload 4), (148, 150, 0, .iload 10)]
theorem ok_X10_swap_1 : ∀ e ∈ k_X10_swap_1, z_okb cX10_swap e = true := fun e h => List.all_eq_true.mp (by decide +kernel : k_X10_swap_1.all (z_okb cX10_swap) = true) e h
def k_X10_swap_2 : List zI := [(150, 153, 0, .invokevirtual 19), (153, 156, 1, .iinc 8 1), (156, 159, 32, .goto (-124)), (159, 160, 0, .return_)]
theorem ok_X10_swap_2 : ∀ e ∈ k_X10_swap_2, z_okb cX10_swap e = true := fun e h => List.all_eq_true.mp (by decide +kernel : k_X10_swap_2.all (z_okb cX10_swap) = true) e h
def k_X10_swap : List zI := k_X10_swap_0 ++ (k_X10_swap_1 ++ (k_X10_swap_2))
theorem ok_X10_swap : ∀ e ∈ k_X10_swap, z_okb cX10_swap e = true := List.forall_mem_append.mpr ⟨ok_X10_swap_0, List.forall_mem_append.mpr ⟨ok_X10_swap_1, ok_X10_swap_2⟩⟩
def k_X10_exchanged : List zI := [(0, 1, 0, .iload_n 0), (1, 2, 0, .iload_n 1), (2, 5, 0, .invokestatic 38), (5, 6, 0, .istore_n 3), (6, 7, 0, .iload_n 0), (7, 8, 0, .iload_n 2), (8, 11, 0, .invokestatic 38), (11, 13, 0, .istore 4), (13, 14, 0, .iload_n 0), (14, 15, 0, .iload_n 1), (15, 17, 0, .iload 4), (17, 20, 0, .invokestatic 43), (20, 21, 0, .iload_n 2), (21, 22, 0, .iload_n 3), (22, 25, 0, .invokestatic 43), (25, 26, 0, .ireturn)]
theorem ok_X10_exchanged : ∀ e ∈ k_X10_exchanged, z_okb cX10_exchanged e = true := fun e h => List.all_eq_true.mp (by decide +kernel : k_X10_exchanged.all (z_okb cX10_exchanged) = true) e h
def k_X10_narrow : List zI := [(0, 1, 0, .iload_n 1), (1, 4, 0, .invokestatic 46), (4, 5, 0, .istore_n 3), (5, 6, 0, .iconst 0), (6, 8, 0, .istore 4), (8, 10, 0, .iload 4), (10, 11, 0, .aload_n 0), (11, 14, 0, .getfield 9), (14, 17, 78, .if_icmp .ge 64), (17, 18, 0, .aload_n 0), (18, 20, 0, .iload 4), (20, 21, 0, .iload_n 1), (21, 22, 0, .aload_n 0), (22, 24, 0, .iload 4), (24, 25, 0, .iload_n 1), (25, 28, 0, .invokevirtual 15), (28, 29, 0, .aload_n 0), (29, 30, 0, .iload_n 1), (30, 33, 0, .invokevirtual 50), (33, 34, 0, .iload_n 2), (34, 37, 0, .invokestatic 69), (37, 40, 0, .invokevirtual 19), (40, 41, 0, .aload_n 0), (41, 42, 0, .iload_n 3), (42, 45, 0, .invokevirtual 53), (45, 47, 0, .istore 5), (47, 48, 0, .aload_n 0), (48, 50, 0, .iload 4), (50, 51, 0, .iload_n 3), (51, 52, 0, .aload_n 0), (52, 54, 0, .iload 4), (54, 55, 0, .iload_n 3), (55, 58, 0, .invokevirtual 15), (58, 60, 0, .iload 5), (60, 61, 0, .aload_n 0), (61, 62, 0, .iload_n 3), (62, 65, 0, .invokevirtual 50), (65, 66, 0, .iload_n 2), (66, 69, 0, .invokestatic 72), (69, 72, 0, .invokevirtual 19), (72, 75, 1, .iinc 4 1), (75, 78, 8, .goto (-67)), (78, 79, 0, .aload_n 0), (79, 80, 0, .iload_n 1), (80, 81, 1, .iconst (-1)), (81, 84, 0, .invokestatic 76), (84, 85, 0, .return_)]
theorem ok_X10_narrow : ∀ e ∈ k_X10_narrow, z_okb cX10_narrow e = true := fun e h => List.all_eq_true.mp (by decide +kernel : k_X10_narrow.all (z_okb cX10_narrow) = true) e h
def k_X10_withoutRow : List zI := [(0, 1, 0, .iload_n 0), (1, 2, 0, .istore_n 3), (2, 3, 0, .iload_n 2), (3, 4, 0, .iload_n 1), (4, 5, 0, .imul), (5, 7, 0, .istore 4), (7, 9, 0, .iload 4), (9, 11, 9, .bipush 9), (11, 14, 50, .if_icmp .ge 39), (14, 16, 0, .iload 4), (16, 17, 0, .iload_n 1), (17, 18, 0, .iadd), (18, 20, 0, .istore 5), (20, 21, 0, .iload_n 3), (21, 23, 0, .iload 4), (23, 25, 0, .iload 5), (25, 27, 9, .bipush 9), (27, 30, 39, .if_icmp .ge 12), (30, 31, 0, .iload_n 0), (31, 33, 0, .iload 5), (33, 36, 0, .invokestatic 38), (36, 39, 40, .goto 4), (39, 40, 0, .iconst 0), (40, 43, 0, .invokestatic 43), (43, 44, 0, .istore_n 3), (44, 47, 1, .iinc 4 1), (47, 50, 7, .goto (-40)), (50, 51, 0, .iload_n 3), (51, 52, 0, .ireturn)]
theorem ok_X10_withoutRow : ∀ e ∈ k_X10_withoutRow, z_okb cX10_withoutRow e = true := fun e h => List.all_eq_true.mp (by decide +kernel : k_X10_withoutRow.all (z_okb cX10_withoutRow) = true) e h
def k_X10_withoutColumn : List zI := [(0, 1, 0, .iconst 0), (1, 3, 0, .istore 4), (3, 4, 0, .iconst 0), (4, 6, 0, .istore 5), (6, 7, 0, .iconst 0), (7, 9, 0, .istore 6), (9, 11, 0, .iload 6), (11, 12, 0, .iload_n 1), (12, 15, 65, .if_icmp .ge 53), (15, 16, 0, .iconst 0), (16, 18, 0, .istore 7), (18, 20, 0, .iload 7), (20, 21, 0, .iload_n 2), (21, 24, 59, .if_icmp .ge 38), (24, 26, 0, .iload 7), (26, 27, 0, .iload_n 3), (27, 30, 53, .if_icmp .eq 26), (30, 32, 0, .iload 4), (32, 34, 0, .iload 5), (34, 35, 0, .iload_n 0), (35, 37, 0, .iload 6), (37, 38, 0, .iload_n 2), (38, 39, 0, .imul), (39, 41, 0, .iload 7), (41, 42, 0, .iadd), (42, 45, 0, .invokestatic 38), (45, 48, 0, .invokestatic 43), (48, 50, 0, .istore 4), (50, 53, 1, .iinc 5 1), (53, 56, 1, .iinc 7 1), (56, 59, 18, .goto (-38)), (59, 62, 1, .iinc 6 1), (62, 65, 9, .goto (-53)), (65, 67, 0, .iload 4), (67, 68, 0, .ireturn)]
theorem ok_X10_withoutColumn : ∀ e ∈ k_X10_withoutColumn, z_okb cX10_withoutColumn e = true := fun e h => List.all_eq_true.mp (by decide +kernel : k_X10_withoutColumn.all (z_okb cX10_withoutColumn) = true) e h
def k_X10_widen_0 : List zI := [(0, 1, 0, .iload_n 1), (1, 4, 0, .invokestatic 46), (4, 5, 0, .istore_n 2), (5, 6, 0, .aload_n 0), (6, 7, 0, .iload_n 2), (7, 10, 0, .invokevirtual 53), (10, 11, 0, .istore_n 3), (11, 12, 0, .aload_n 0), (12, 13, 0, .iload_n 2), (13, 16, 0, .invokevirtual 50), (16, 18, 0, .istore 4), (18, 19, 0, .iconst 0), (19, 21, 0, .istore 5), (21, 23, 0, .iload 5), (23, 24, 0, .aload_n 0), (24, 27, 0, .getfield 9), (27, 30, 118, .if_icmp .ge 91), (30, 31, 0, .aload_n 0), (31, 33, 0, .iload 5), (33, 34, 0, .iload_n 2), (34, 37, 0, .invokevirtual 15), (37, 39, 0, .istore 6), (39, 40, 0, .iconst 0), (40, 42, 0, .istore 7), (42, 43, 0, .iconst 0), (43, 45, 0, .istore 8), (45, 47, 0, .iload 8), (47, 48, 0, .iload_n 3), (48, 51, 103, .if_icmp .ge 55), (51, 52, 0, .iconst 0), (52, 54, 0, .istore 9), (54, 56, 0, .iload 9), (56, 58, 0, .iload 4), (58, 61, 97, .if_icmp .ge 39), (61, 63, 0, .iload 7), (63, 65, 0, .iload 8), (65, 67, 0, .iload 4), (67, 68, 1, .iconst 1), (68, 69, 0, .iadd), (69, 70, 0, .imul)]
theorem ok_X10_widen_0 : ∀ e ∈ k_X10_widen_0, z_okb cX10_widen e = true := fun e h => List.all_eq_true.mp (by decide +kernel : k_X10_widen_0.all (z_okb cX10_widen) = true) e h
def k_X10_widen_1 : List zI := [(70, 72, 0, .iload 9), (72, 73, 0, .iadd), (73, 75, 0, .iload 6), (75, 77, 0, .iload 8), (77, 79, 0, .iload 4), (79, 80, 0, .imul), (80, 82, 0, .iload 9), (82, 83, 0, .iadd), (83, 86, 0, .invokestatic 38), (86, 89, 0, .invokestatic 43), (89, 91, 0, .istore 7), (91, 94, 1, .iinc 9 1), (94, 97, 54, .goto (-40)), (97, 100, 1, .iinc 8 1), (100, 103, 45, .goto (-55)), (103, 104, 0, .aload_n 0), (104, 106, 0, .iload 5), (106, 107, 0, .iload_n 2), (107, 109, 0, .iload 7), (109, 112, 0, .invokevirtual 19), (112, 115, 1, .iinc 5 1), (115, 118, 21, .goto (-94)), (118, 119, 0, .aload_n 0), (119, 120, 0, .iload_n 1), (120, 121, 1, .iconst 1), (121, 124, 0, .invokestatic 76), (124, 125, 0, .aload_n 0), (125, 126, 0, .iload_n 1), (126, 129, 0, .invokevirtual 80), (129, 130, 0, .return_)]
theorem ok_X10_widen_1 : ∀ e ∈ k_X10_widen_1, z_okb cX10_widen e = true := fun e h => List.all_eq_true.mp (by decide +kernel : k_X10_widen_1.all (z_okb cX10_widen) = true) e h
def k_X10_widen : List zI := k_X10_widen_0 ++ (k_X10_widen_1)
theorem ok_X10_widen : ∀ e ∈ k_X10_widen, z_okb cX10_widen e = true := List.forall_mem_append.mpr ⟨ok_X10_widen_0, ok_X10_widen_1⟩
def k_X10_stretch : List zI := [(0, 1, 0, .iload_n 1), (1, 4, 17, .ifCond .ne 16), (4, 5, 0, .aload_n 0), (5, 6, 0, .dup), (6, 9, 0, .getfield 23), (9, 10, 0, .iload_n 2), (10, 11, 0, .iadd), (11, 14, 0, .putfield 23), (14, 17, 45, .goto 31), (17, 18, 0, .iload_n 1), (18, 19, 1, .iconst 1), (19, 22, 35, .if_icmp .ne 16), (22, 23, 0, .aload_n 0), (23, 24, 0, .dup), (24, 27, 0, .getfield 26), (27, 28, 0, .iload_n 2), (28, 29, 0, .iadd), (29, 32, 0, .putfield 26), (32, 35, 45, .goto 13), (35, 36, 0, .aload_n 0), (36, 37, 0, .dup), (37, 40, 0, .getfield 29), (40, 41, 0, .iload_n 2), (41, 42, 0, .iadd), (42, 45, 0, .putfield 29), (45, 46, 0, .return_)]
theorem ok_X10_stretch : ∀ e ∈ k_X10_stretch, z_okb cX10_stretch e = true := fun e h => List.all_eq_true.mp (by decide +kernel : k_X10_stretch.all (z_okb cX10_stretch) = true) e h
def k_X11_init_0 : List zI := [(0, 1, 0, .aload_n 0), (1, 4, 0, .invokespecial 1), (4, 5, 0, .aload_n 0), (5, 8, 0, .new 7), (8, 9, 0, .dup), (9, 12, 0, .invokespecial 9), (12, 15, 0, .putfield 10), (15, 16, 0, .aload_n 0), (16, 19, 0, .new 16), (19, 20, 0, .dup), (20, 23, 0, .invokespecial 18), (23, 26, 0, .putfield 19), (26, 27, 0, .aload_n 0), (27, 30, 0, .new 23), (30, 31, 0, .dup), (31, 34, 0, .invokespecial 25), (34, 37, 0, .putfield 26), (37, 38, 0, .aload_n 0), (38, 41, 0, .new 23), (41, 42, 0, .dup), (42, 45, 0, .invokespecial 25), (45, 48, 0, .putfield 30), (48, 49, 0, .aload_n 0), (49, 52, 0, .new 23), (52, 53, 0, .dup), (53, 56, 0, .invokespecial 25), (56, 59, 0, .putfield 33), (59, 60, 0, .aload_n 0), (60, 63, 0, .new 36), (63, 64, 0, .dup), (64, 67, 0, .invokespecial 38), (67, 70, 0, .putfield 39), (70, 71, 0, .aload_n 0), (71, 74, 0, .new 43), (74, 75, 0, .dup), (75, 78, 0, .invokespecial 45), (78, 81, 0, .putfield 46), (81, 82, 0, .aload_n 0), (82, 85, 0, .new 50), (85, 86, 0, .dup)]
theorem ok_X11_init_0 : ∀ e ∈ k_X11_init_0, z_okb cX11_init e = true := fun e h => List.all_eq_true.mp (by decide +kernel : k_X11_init_0.all (z_okb cX11_init) = true) e h
def k_X11_init_1 : List zI := [(86, 89, 0, .invokespecial 52), (89, 92, 0, .putfield 53), (92, 93, 0, .aload_n 0), (93, 96, 0, .new 57), (96, 97, 0, .dup), (97, 100, 0, .invokespecial 59), (100, 103, 0, .putfield 60), (103, 104, 0, .aload_n 0), (104, 107, 0, .new 64), (107, 108, 0, .dup), (108, 111, 0, .invokespecial 66), (111, 114, 0, .putfield 67), (114, 115, 0, .aload_n 0), (115, 118, 0, .getfield 26), (118, 119, 2, .iconst 2), (119, 120, 2, .iconst 2), (120, 121, 2, .iconst 2), (121, 122, 2, .iconst 2), (122, 125, 0, .invokevirtual 71), (125, 126, 0, .return_)]
theorem ok_X11_init_1 : ∀ e ∈ k_X11_init_1, z_okb cX11_init e = true := fun e h => List.all_eq_true.mp (by decide +kernel : k_X11_init_1.all (z_okb cX11_init) = true) e h
def k_X11_init : List zI := k_X11_init_0 ++ (k_X11_init_1)
theorem ok_X11_init : ∀ e ∈ k_X11_init, z_okb cX11_init e = true := List.forall_mem_append.mpr ⟨ok_X11_init_0, ok_X11_init_1⟩
def k_X11_format : List zI := [(0, 1, 0, .iload_n 1), (1, 4, 0, .invokestatic 75), (4, 7, 33, .ifCond .eq 29), (7, 8, 0, .iload_n 2), (8, 11, 0, .invokestatic 75), (11, 14, 33, .ifCond .eq 22), (14, 15, 0, .iload_n 3), (15, 18, 0, .invokestatic 75), (18, 21, 33, .ifCond .eq 15), (21, 23, 0, .iload 4), (23, 24, 2, .iconst 2), (24, 27, 33, .if_icmp .lt 9), (27, 29, 0, .iload 4), (29, 30, 3, .iconst 3), (30, 33, 35, .if_icmp .le 5), (33, 34, 1, .iconst (-1)), (34, 35, 0, .ireturn), (35, 36, 0, .aload_n 0), (36, 39, 0, .getfield 26), (39, 40, 0, .iload_n 1), (40, 41, 0, .iload_n 2), (41, 42, 0, .iload_n 3), (42, 44, 0, .iload 4), (44, 47, 0, .invokevirtual 71), (47, 48, 0, .aload_n 0), (48, 49, 0, .iconst 0), (49, 52, 0, .putfield 79), (52, 53, 0, .aload_n 0), (53, 56, 0, .getfield 26), (56, 59, 0, .getfield 83), (59, 60, 0, .ireturn)]
theorem ok_X11_format : ∀ e ∈ k_X11_format, z_okb cX11_format e = true := fun e h => List.all_eq_true.mp (by decide +kernel : k_X11_format.all (z_okb cX11_format) = true) e h
def k_X11_sign : List zI := [(0, 1, 0, .aload_n 0), (1, 4, 0, .getfield 10), (4, 5, 0, .iload_n 1), (5, 8, 0, .invokevirtual 87), (8, 11, 21, .ifCond .eq 13), (11, 12, 0, .aload_n 0), (12, 15, 0, .getfield 10), (15, 18, 0, .getfield 90), (18, 21, 22, .goto 4), (21, 22, 1, .iconst (-1)), (22, 23, 0, .ireturn)]
theorem ok_X11_sign : ∀ e ∈ k_X11_sign, z_okb cX11_sign e = true := fun e h => List.all_eq_true.mp (by decide +kernel : k_X11_sign.all (z_okb cX11_sign) = true) e h
def k_X11_end : List zI := [(0, 1, 0, .aload_n 0), (1, 4, 0, .getfield 10), (4, 5, 0, .iload_n 1), (5, 8, 0, .invokevirtual 93), (8, 9, 0, .ireturn)]
theorem ok_X11_end : ∀ e ∈ k_X11_end, z_okb cX11_end e = true := fun e h => List.all_eq_true.mp (by decide +kernel : k_X11_end.all (z_okb cX11_end) = true) e h
def k_X11_scheme : List zI := [(0, 1, 0, .aload_n 0), (1, 4, 0, .getfield 33), (4, 5, 0, .aload_n 0), (5, 8, 0, .getfield 26), (8, 11, 0, .invokevirtual 96), (11, 12, 0, .aload_n 0), (12, 15, 0, .getfield 10), (15, 16, 0, .aload_n 0), (16, 19, 0, .getfield 33), (19, 22, 0, .invokevirtual 100), (22, 23, 0, .istore_n 1), (23, 24, 0, .aload_n 0), (24, 27, 0, .getfield 10), (27, 30, 0, .invokevirtual 104), (30, 31, 0, .iload_n 1), (31, 34, 39, .ifCond .lt 8), (34, 36, 21, .bipush (-21)), (36, 37, 0, .iload_n 1), (37, 38, 0, .isub), (38, 39, 0, .ireturn), (39, 40, 0, .aload_n 0), (40, 43, 0, .getfield 26), (43, 44, 0, .aload_n 0), (44, 47, 0, .getfield 33), (47, 50, 0, .invokevirtual 107), (50, 51, 0, .aload_n 0), (51, 54, 0, .getfield 26), (54, 57, 0, .getfield 83), (57, 58, 0, .ireturn)]
theorem ok_X11_scheme : ∀ e ∈ k_X11_scheme, z_okb cX11_scheme e = true := fun e h => List.all_eq_true.mp (by decide +kernel : k_X11_scheme.all (z_okb cX11_scheme) = true) e h
def k_X11_adds : List zI := [(0, 1, 0, .aload_n 0), (1, 4, 0, .getfield 33), (4, 5, 0, .aload_n 0), (5, 8, 0, .getfield 26), (8, 11, 0, .invokevirtual 96), (11, 12, 0, .aload_n 0), (12, 15, 0, .getfield 10), (15, 16, 0, .aload_n 0), (16, 19, 0, .getfield 33), (19, 22, 0, .invokevirtual 110), (22, 23, 0, .istore_n 1), (23, 24, 0, .aload_n 0), (24, 27, 0, .getfield 10), (27, 30, 0, .invokevirtual 104), (30, 31, 0, .iload_n 1), (31, 34, 39, .ifCond .lt 8), (34, 36, 21, .bipush (-21)), (36, 37, 0, .iload_n 1), (37, 38, 0, .isub), (38, 39, 0, .ireturn), (39, 40, 0, .aload_n 0), (40, 43, 0, .getfield 26), (43, 46, 0, .invokevirtual 113), (46, 49, 52, .ifCond .eq 6), (49, 51, 2, .bipush (-2)), (51, 52, 0, .ireturn), (52, 53, 0, .aload_n 0), (53, 56, 0, .getfield 26), (56, 57, 0, .aload_n 0), (57, 60, 0, .getfield 33), (60, 61, 0, .iconst 0), (61, 64, 0, .invokevirtual 117), (64, 65, 0, .aload_n 0), (65, 68, 0, .getfield 26), (68, 71, 0, .getfield 83), (71, 72, 0, .ireturn)]
theorem ok_X11_adds : ∀ e ∈ k_X11_adds, z_okb cX11_adds e = true := fun e h => List.all_eq_true.mp (by decide +kernel : k_X11_adds.all (z_okb cX11_adds) = true) e h
def k_X11_drops : List zI := [(0, 1, 0, .aload_n 0), (1, 4, 0, .getfield 26), (4, 5, 0, .iload_n 1), (5, 8, 0, .invokevirtual 121), (8, 11, 13, .ifCond .ne 5), (11, 12, 1, .iconst (-1)), (12, 13, 0, .ireturn), (13, 14, 0, .aload_n 0), (14, 17, 0, .getfield 26), (17, 18, 0, .iload_n 1), (18, 21, 0, .invokevirtual 124), (21, 22, 0, .aload_n 0), (22, 25, 0, .getfield 26), (25, 28, 0, .getfield 83), (28, 29, 0, .ireturn)]
theorem ok_X11_drops : ∀ e ∈ k_X11_drops, z_okb cX11_drops e = true := fun e h => List.all_eq_true.mp (by decide +kernel : k_X11_drops.all (z_okb cX11_drops) = true) e h
def k_X11_form : List zI := [(0, 1, 0, .aload_n 0), (1, 4, 0, .getfield 26), (4, 5, 0, .iload_n 1), (5, 8, 0, .invokevirtual 121), (8, 11, 18, .ifCond .eq 10), (11, 12, 0, .iload_n 2), (12, 15, 0, .invokestatic 128), (15, 18, 20, .ifCond .ne 5), (18, 19, 1, .iconst (-1)), (19, 20, 0, .ireturn), (20, 21, 0, .aload_n 0), (21, 24, 0, .getfield 26), (24, 25, 0, .iload_n 1), (25, 26, 0, .iload_n 2), (26, 29, 0, .invokevirtual 131), (29, 30, 0, .aload_n 0), (30, 33, 0, .getfield 26), (33, 36, 0, .getfield 135), (36, 39, 0, .invokestatic 138), (39, 40, 0, .ireturn)]
theorem ok_X11_form : ∀ e ∈ k_X11_form, z_okb cX11_form e = true := fun e h => List.all_eq_true.mp (by decide +kernel : k_X11_form.all (z_okb cX11_form) = true) e h
def k_X11_number : List zI := [(0, 1, 0, .aload_n 0), (1, 4, 0, .getfield 26), (4, 5, 0, .iload_n 1), (5, 8, 0, .invokevirtual 121), (8, 11, 23, .ifCond .eq 15), (11, 12, 0, .aload_n 0), (12, 15, 0, .getfield 26), (15, 16, 0, .iload_n 2), (16, 17, 0, .iload_n 3), (17, 20, 0, .invokevirtual 143), (20, 23, 25, .ifCond .ne 5), (23, 24, 1, .iconst (-1)), (24, 25, 0, .ireturn), (25, 26, 0, .aload_n 0), (26, 29, 0, .getfield 26), (29, 30, 0, .iload_n 1), (30, 31, 0, .iload_n 2), (31, 34, 0, .invokevirtual 131), (34, 35, 0, .iload_n 3), (35, 38, 0, .invokestatic 147), (38, 39, 0, .ireturn)]
theorem ok_X11_number : ∀ e ∈ k_X11_number, z_okb cX11_number e = true := fun e h => List.all_eq_true.mp (by decide +kernel : k_X11_number.all (z_okb cX11_number) = true) e h
def k_X11_checks_0 : List zI := [(0, 1, 0, .aload_n 0), (1, 4, 0, .getfield 19), (4, 7, 0, .invokevirtual 150), (7, 8, 0, .iconst 0), (8, 9, 0, .istore_n 1), (9, 10, 0, .iconst 0), (10, 11, 0, .istore_n 2), (11, 12, 0, .iload_n 2), (12, 13, 0, .aload_n 0), (13, 16, 0, .getfield 26), (16, 17, 0, .iconst 0), (17, 20, 0, .invokevirtual 153), (20, 23, 140, .if_icmp .ge 120), (23, 24, 0, .iconst 0), (24, 25, 0, .istore_n 3), (25, 26, 0, .iload_n 3), (26, 27, 0, .aload_n 0), (27, 30, 0, .getfield 26), (30, 31, 1, .iconst 1), (31, 34, 0, .invokevirtual 153), (34, 37, 134, .if_icmp .ge 100), (37, 38, 0, .iconst 0), (38, 40, 0, .istore 4), (40, 42, 0, .iload 4), (42, 43, 0, .aload_n 0), (43, 46, 0, .getfield 26), (46, 47, 2, .iconst 2), (47, 50, 0, .invokevirtual 153), (50, 53, 128, .if_icmp .ge 78), (53, 54, 0, .aload_n 0), (54, 57, 0, .getfield 26), (57, 58, 0, .iload_n 2), (58, 59, 0, .iload_n 3), (59, 61, 0, .iload 4), (61, 64, 0, .invokevirtual 157), (64, 66, 0, .istore 5), (66, 67, 0, .aload_n 0), (67, 70, 0, .getfield 26), (70, 71, 0, .iload_n 2), (71, 72, 0, .iload_n 3)]
theorem ok_X11_checks_0 : ∀ e ∈ k_X11_checks_0, z_okb cX11_checks e = true := fun e h => List.all_eq_true.mp (by decide +kernel : k_X11_checks_0.all (z_okb cX11_checks) = true) e h
def k_X11_checks_1 : List zI := [(72, 74, 0, .iload 4), (74, 77, 0, .invokevirtual 161), (77, 79, 0, .istore 6), (79, 81, 0, .iload 5), (81, 83, 0, .iload 6), (83, 86, 122, .if_icmp .eq 39), (86, 87, 0, .aload_n 0), (87, 88, 0, .iload_n 1), (88, 89, 0, .iload_n 2), (89, 90, 0, .iload_n 3), (90, 92, 0, .iload 4), (92, 95, 0, .invokevirtual 164), (95, 96, 0, .iload_n 1), (96, 99, 119, .ifCond .ne 23), (99, 100, 0, .aload_n 0), (100, 103, 0, .getfield 19), (103, 105, 0, .iload 5), (105, 106, 0, .i2l), (106, 109, 0, .invokevirtual 167), (109, 110, 0, .aload_n 0), (110, 113, 0, .getfield 19), (113, 115, 0, .iload 6), (115, 116, 0, .i2l), (116, 119, 0, .invokevirtual 167), (119, 122, 1, .iinc 1 1), (122, 125, 1, .iinc 4 1), (125, 128, 40, .goto (-85)), (128, 131, 1, .iinc 3 1), (131, 134, 25, .goto (-106)), (134, 137, 1, .iinc 2 1), (137, 140, 11, .goto (-126)), (140, 141, 0, .iload_n 1), (141, 142, 0, .ireturn)]
theorem ok_X11_checks_1 : ∀ e ∈ k_X11_checks_1, z_okb cX11_checks e = true := fun e h => List.all_eq_true.mp (by decide +kernel : k_X11_checks_1.all (z_okb cX11_checks) = true) e h
def k_X11_checks : List zI := k_X11_checks_0 ++ (k_X11_checks_1)
theorem ok_X11_checks : ∀ e ∈ k_X11_checks, z_okb cX11_checks e = true := List.forall_mem_append.mpr ⟨ok_X11_checks_0, ok_X11_checks_1⟩
def k_X11_given : List zI := [(0, 1, 0, .aload_n 0), (1, 4, 0, .getfield 26), (4, 5, 0, .iconst 0), (5, 6, 0, .iload_n 1), (6, 9, 0, .invokevirtual 143), (9, 12, 36, .ifCond .eq 27), (12, 13, 0, .aload_n 0), (13, 16, 0, .getfield 26), (16, 17, 1, .iconst 1), (17, 18, 0, .iload_n 2), (18, 21, 0, .invokevirtual 143), (21, 24, 36, .ifCond .eq 15), (24, 25, 0, .aload_n 0), (25, 28, 0, .getfield 26), (28, 29, 2, .iconst 2), (29, 30, 0, .iload_n 3), (30, 33, 0, .invokevirtual 143), (33, 36, 38, .ifCond .ne 5), (36, 37, 1, .iconst (-1)), (37, 38, 0, .ireturn), (38, 39, 0, .aload_n 0), (39, 42, 0, .getfield 19), (42, 45, 0, .invokevirtual 150), (45, 46, 0, .aload_n 0), (46, 49, 0, .getfield 19), (49, 50, 0, .aload_n 0), (50, 53, 0, .getfield 26), (53, 54, 0, .iload_n 1), (54, 55, 0, .iload_n 2), (55, 56, 0, .iload_n 3), (56, 59, 0, .invokevirtual 161), (59, 60, 0, .i2l), (60, 63, 0, .invokevirtual 167), (63, 64, 0, .aload_n 0), (64, 67, 0, .getfield 19), (67, 68, 0, .aload_n 0), (68, 71, 0, .getfield 26), (71, 72, 0, .iload_n 1), (72, 73, 0, .iload_n 2), (73, 74, 0, .iload_n 3), (74, 77, 0, .invokevirtual 171), (77, 78, 0, .i2l), (78, 81, 0, .invokevirtual 167), (81, 82, 0, .aload_n 0), (82, 85, 0, .getfield 26), (85, 86, 0, .iload_n 1), (86, 87, 0, .iload_n 2), (87, 88, 0, .iload_n 3), (88, 91, 0, .invokevirtual 157), (91, 92, 0, .ireturn)]
theorem ok_X11_given : ∀ e ∈ k_X11_given, z_okb cX11_given e = true := fun e h => List.all_eq_true.mp (by decide +kernel : k_X11_given.all (z_okb cX11_given) = true) e h
def k_X11_multiplies_0 : List zI := [(0, 1, 0, .aload_n 0), (1, 4, 0, .getfield 10), (4, 5, 0, .aload_n 0), (5, 8, 0, .getfield 39), (8, 11, 0, .getfield 174), (11, 12, 0, .aload_n 0), (12, 15, 0, .getfield 26), (15, 16, 0, .iconst 0), (16, 19, 0, .invokevirtual 153), (19, 20, 0, .aload_n 0), (20, 23, 0, .getfield 26), (23, 24, 1, .iconst 1), (24, 27, 0, .invokevirtual 153), (27, 28, 0, .iadd), (28, 29, 0, .aload_n 0), (29, 32, 0, .getfield 26), (32, 35, 0, .getfield 135), (35, 38, 0, .invokevirtual 178), (38, 39, 0, .istore_n 1), (39, 40, 0, .aload_n 0), (40, 43, 0, .getfield 10), (43, 46, 0, .invokevirtual 104), (46, 47, 0, .iload_n 1), (47, 50, 55, .ifCond .lt 8), (50, 52, 21, .bipush (-21)), (52, 53, 0, .iload_n 1), (53, 54, 0, .isub), (54, 55, 0, .ireturn), (55, 56, 0, .aload_n 0), (56, 59, 0, .getfield 19), (59, 62, 0, .invokevirtual 150), (62, 63, 0, .iconst 0), (63, 64, 0, .istore_n 2), (64, 65, 0, .iconst 0), (65, 66, 0, .istore_n 3), (66, 67, 0, .iload_n 3), (67, 68, 0, .aload_n 0), (68, 71, 0, .getfield 26), (71, 72, 2, .iconst 2), (72, 75, 0, .invokevirtual 153)]
theorem ok_X11_multiplies_0 : ∀ e ∈ k_X11_multiplies_0, z_okb cX11_multiplies e = true := fun e h => List.all_eq_true.mp (by decide +kernel : k_X11_multiplies_0.all (z_okb cX11_multiplies) = true) e h
def k_X11_multiplies_1 : List zI := [(75, 78, 128, .if_icmp .ge 53), (78, 79, 0, .aload_n 0), (79, 82, 0, .getfield 39), (82, 83, 0, .aload_n 0), (83, 86, 0, .getfield 26), (86, 87, 0, .iload_n 3), (87, 90, 0, .invokevirtual 182), (90, 92, 0, .istore 4), (92, 93, 0, .aload_n 0), (93, 96, 0, .getfield 19), (96, 98, 0, .iload 4), (98, 99, 0, .i2l), (99, 102, 0, .invokevirtual 167), (102, 104, 0, .iload 4), (104, 105, 0, .aload_n 0), (105, 108, 0, .getfield 39), (108, 109, 0, .aload_n 0), (109, 112, 0, .getfield 26), (112, 113, 0, .iload_n 3), (113, 116, 0, .invokevirtual 186), (116, 119, 122, .if_icmp .eq 6), (119, 122, 1, .iinc 2 1), (122, 125, 1, .iinc 3 1), (125, 128, 66, .goto (-59)), (128, 129, 0, .iload_n 2), (129, 130, 0, .ireturn)]
theorem ok_X11_multiplies_1 : ∀ e ∈ k_X11_multiplies_1, z_okb cX11_multiplies e = true := fun e h => List.all_eq_true.mp (by decide +kernel : k_X11_multiplies_1.all (z_okb cX11_multiplies) = true) e h
def k_X11_multiplies : List zI := k_X11_multiplies_0 ++ (k_X11_multiplies_1)
theorem ok_X11_multiplies : ∀ e ∈ k_X11_multiplies, z_okb cX11_multiplies e = true := List.forall_mem_append.mpr ⟨ok_X11_multiplies_0, ok_X11_multiplies_1⟩
def k_X11_sums_0 : List zI := [(0, 1, 0, .iconst 0), (1, 2, 0, .istore_n 1), (2, 3, 0, .iconst 0), (3, 4, 0, .istore_n 2), (4, 5, 0, .iconst 0), (5, 6, 0, .istore_n 3), (6, 7, 0, .iload_n 3), (7, 8, 0, .aload_n 0), (8, 11, 0, .getfield 26), (11, 14, 0, .getfield 83), (14, 17, 59, .if_icmp .ge 45), (17, 18, 0, .iload_n 1), (18, 19, 0, .aload_n 0), (19, 22, 0, .getfield 26), (22, 23, 0, .iload_n 3), (23, 24, 0, .iconst 0), (24, 27, 0, .invokevirtual 131), (27, 30, 0, .invokestatic 189), (30, 33, 0, .invokestatic 194), (33, 34, 0, .iadd), (34, 35, 0, .istore_n 1), (35, 36, 0, .iload_n 2), (36, 37, 0, .aload_n 0), (37, 40, 0, .getfield 26), (40, 41, 0, .iload_n 3), (41, 42, 1, .iconst 1), (42, 45, 0, .invokevirtual 131), (45, 48, 0, .invokestatic 189), (48, 51, 0, .invokestatic 194), (51, 52, 0, .iadd), (52, 53, 0, .istore_n 2), (53, 56, 1, .iinc 3 1), (56, 59, 6, .goto (-50)), (59, 60, 0, .iconst 0), (60, 61, 0, .istore_n 3), (61, 62, 0, .iconst 0), (62, 64, 0, .istore 4), (64, 66, 0, .iload 4), (66, 67, 0, .aload_n 0), (67, 70, 0, .getfield 26)]
theorem ok_X11_sums_0 : ∀ e ∈ k_X11_sums_0, z_okb cX11_sums e = true := fun e h => List.all_eq_true.mp (by decide +kernel : k_X11_sums_0.all (z_okb cX11_sums) = true) e h
def k_X11_sums_1 : List zI := [(70, 71, 2, .iconst 2), (71, 74, 0, .invokevirtual 153), (74, 77, 112, .if_icmp .ge 38), (77, 78, 0, .iload_n 3), (78, 79, 0, .aload_n 0), (79, 82, 0, .getfield 26), (82, 83, 2, .iconst 2), (83, 85, 0, .iload 4), (85, 86, 1, .iconst 1), (86, 89, 0, .invokevirtual 197), (89, 90, 0, .aload_n 0), (90, 93, 0, .getfield 26), (93, 94, 2, .iconst 2), (94, 96, 0, .iload 4), (96, 97, 2, .iconst 2), (97, 100, 0, .invokevirtual 197), (100, 101, 0, .iadd), (101, 104, 0, .invokestatic 194), (104, 105, 0, .iadd), (105, 106, 0, .istore_n 3), (106, 109, 1, .iinc 4 1), (109, 112, 64, .goto (-45)), (112, 113, 0, .aload_n 0), (113, 114, 0, .iload_n 1), (114, 115, 0, .iload_n 2), (115, 116, 0, .iload_n 3), (116, 119, 0, .invokevirtual 200), (119, 120, 0, .iload_n 1), (120, 121, 0, .iload_n 2), (121, 122, 0, .iadd), (122, 123, 0, .iload_n 3), (123, 124, 0, .iadd), (124, 125, 0, .ireturn)]
theorem ok_X11_sums_1 : ∀ e ∈ k_X11_sums_1, z_okb cX11_sums e = true := fun e h => List.all_eq_true.mp (by decide +kernel : k_X11_sums_1.all (z_okb cX11_sums) = true) e h
def k_X11_sums : List zI := k_X11_sums_0 ++ (k_X11_sums_1)
theorem ok_X11_sums : ∀ e ∈ k_X11_sums, z_okb cX11_sums e = true := List.forall_mem_append.mpr ⟨ok_X11_sums_0, ok_X11_sums_1⟩
def k_X11_like : List zI := [(0, 1, 0, .aload_n 0), (1, 4, 0, .getfield 26), (4, 5, 0, .iload_n 1), (5, 8, 0, .invokevirtual 121), (8, 11, 29, .ifCond .eq 21), (11, 12, 0, .aload_n 0), (12, 15, 0, .getfield 26), (15, 16, 0, .iload_n 2), (16, 19, 0, .invokevirtual 121), (19, 22, 29, .ifCond .eq 10), (22, 23, 0, .iload_n 3), (23, 26, 0, .invokestatic 128), (26, 29, 31, .ifCond .ne 5), (29, 30, 1, .iconst (-1)), (30, 31, 0, .ireturn), (31, 32, 0, .aload_n 0), (32, 35, 0, .getfield 26), (35, 36, 0, .iload_n 1), (36, 37, 0, .iload_n 2), (37, 38, 0, .iload_n 3), (38, 41, 0, .invokevirtual 204), (41, 43, 0, .istore 4), (43, 45, 0, .iload 4), (45, 48, 53, .ifCond .le 8), (48, 50, 0, .iload 4), (50, 53, 55, .goto 5), (53, 55, 2, .bipush (-2)), (55, 56, 0, .ireturn)]
theorem ok_X11_like : ∀ e ∈ k_X11_like, z_okb cX11_like e = true := fun e h => List.all_eq_true.mp (by decide +kernel : k_X11_like.all (z_okb cX11_like) = true) e h
def k_X11_flips : List zI := [(0, 1, 0, .aload_n 0), (1, 4, 0, .getfield 26), (4, 5, 0, .iconst 0), (5, 8, 0, .invokevirtual 207), (8, 9, 0, .istore_n 1), (9, 10, 0, .aload_n 0), (10, 13, 0, .getfield 26), (13, 14, 1, .iconst 1), (14, 17, 0, .invokevirtual 207), (17, 18, 0, .istore_n 2), (18, 19, 0, .aload_n 0), (19, 22, 0, .getfield 26), (22, 23, 2, .iconst 2), (23, 26, 0, .invokevirtual 207), (26, 27, 0, .istore_n 3), (27, 28, 0, .aload_n 0), (28, 29, 0, .iload_n 1), (29, 30, 0, .iload_n 2), (30, 31, 0, .iload_n 3), (31, 34, 0, .invokevirtual 200), (34, 35, 0, .iload_n 1), (35, 36, 0, .iload_n 2), (36, 37, 0, .iadd), (37, 38, 0, .iload_n 3), (38, 39, 0, .iadd), (39, 40, 0, .ireturn)]
theorem ok_X11_flips : ∀ e ∈ k_X11_flips, z_okb cX11_flips e = true := fun e h => List.all_eq_true.mp (by decide +kernel : k_X11_flips.all (z_okb cX11_flips) = true) e h
def k_X11_flip : List zI := [(0, 1, 0, .aload_n 0), (1, 4, 0, .getfield 26), (4, 5, 0, .iload_n 1), (5, 8, 0, .invokevirtual 121), (8, 11, 29, .ifCond .eq 21), (11, 12, 0, .aload_n 0), (12, 15, 0, .getfield 26), (15, 16, 0, .iload_n 2), (16, 19, 0, .invokevirtual 121), (19, 22, 29, .ifCond .eq 10), (22, 23, 0, .iload_n 3), (23, 26, 0, .invokestatic 128), (26, 29, 31, .ifCond .ne 5), (29, 30, 1, .iconst (-1)), (30, 31, 0, .ireturn), (31, 32, 0, .iload_n 1), (32, 33, 0, .iload_n 2), (33, 36, 39, .if_icmp .ne 6), (36, 38, 2, .bipush (-2)), (38, 39, 0, .ireturn), (39, 40, 0, .aload_n 0), (40, 43, 0, .getfield 26), (43, 44, 0, .iload_n 1), (44, 45, 0, .iload_n 2), (45, 46, 0, .iload_n 3), (46, 49, 0, .invokevirtual 204), (49, 52, 55, .ifCond .ne 6), (52, 54, 3, .bipush (-3)), (54, 55, 0, .ireturn), (55, 56, 0, .aload_n 0), (56, 59, 0, .getfield 26), (59, 60, 0, .iload_n 1), (60, 61, 0, .iload_n 2), (61, 62, 0, .iload_n 3), (62, 65, 0, .invokevirtual 210), (65, 66, 0, .aload_n 0), (66, 69, 0, .getfield 26), (69, 72, 0, .invokevirtual 213), (72, 73, 0, .ireturn)]
theorem ok_X11_flip : ∀ e ∈ k_X11_flip, z_okb cX11_flip e = true := fun e h => List.all_eq_true.mp (by decide +kernel : k_X11_flip.all (z_okb cX11_flip) = true) e h
def k_X11_joins : List zI := [(0, 1, 0, .aload_n 0), (1, 4, 0, .getfield 46), (4, 5, 0, .aload_n 0), (5, 8, 0, .getfield 26), (8, 11, 0, .invokevirtual 217), (11, 12, 0, .aload_n 0), (12, 15, 0, .getfield 19), (15, 18, 0, .invokevirtual 150), (18, 19, 0, .aload_n 0), (19, 22, 0, .getfield 19), (22, 23, 0, .aload_n 0), (23, 26, 0, .getfield 46), (26, 29, 0, .getfield 220), (29, 30, 0, .i2l), (30, 33, 0, .invokevirtual 167), (33, 34, 0, .aload_n 0), (34, 37, 0, .getfield 19), (37, 38, 0, .aload_n 0), (38, 41, 0, .getfield 46), (41, 44, 0, .getfield 223), (44, 45, 0, .i2l), (45, 48, 0, .invokevirtual 167), (48, 49, 0, .aload_n 0), (49, 52, 0, .getfield 46), (52, 55, 0, .getfield 220), (55, 56, 0, .aload_n 0), (56, 59, 0, .getfield 46), (59, 62, 0, .getfield 223), (62, 63, 0, .iadd), (63, 64, 0, .ireturn)]
theorem ok_X11_joins : ∀ e ∈ k_X11_joins, z_okb cX11_joins e = true := fun e h => List.all_eq_true.mp (by decide +kernel : k_X11_joins.all (z_okb cX11_joins) = true) e h
def k_X11_sheds : List zI := [(0, 1, 0, .aload_n 0), (1, 4, 0, .getfield 53), (4, 7, 0, .getfield 226), (7, 10, 0, .invokevirtual 229), (10, 11, 0, .iconst 0), (11, 12, 0, .istore_n 1), (12, 13, 0, .iconst 0), (13, 14, 0, .istore_n 2), (14, 15, 0, .iload_n 2), (15, 17, 40, .bipush 40), (17, 20, 43, .if_icmp .ge 26), (20, 21, 0, .aload_n 0), (21, 24, 0, .getfield 53), (24, 25, 0, .aload_n 0), (25, 28, 0, .getfield 26), (28, 31, 0, .invokevirtual 232), (31, 34, 43, .ifCond .eq 12), (34, 37, 1, .iinc 1 1), (37, 40, 1, .iinc 2 1), (40, 43, 14, .goto (-26)), (43, 44, 0, .aload_n 0), (44, 45, 0, .aload_n 0), (45, 48, 0, .getfield 53), (48, 51, 0, .getfield 226), (51, 52, 0, .iconst 0), (52, 55, 0, .invokevirtual 236), (55, 56, 0, .aload_n 0), (56, 59, 0, .getfield 53), (59, 62, 0, .getfield 226), (62, 63, 1, .iconst 1), (63, 66, 0, .invokevirtual 236), (66, 67, 0, .aload_n 0), (67, 70, 0, .getfield 53), (70, 73, 0, .getfield 226), (73, 74, 2, .iconst 2), (74, 77, 0, .invokevirtual 236), (77, 80, 0, .invokevirtual 200), (80, 81, 0, .iload_n 1), (81, 82, 0, .ireturn)]
theorem ok_X11_sheds : ∀ e ∈ k_X11_sheds, z_okb cX11_sheds e = true := fun e h => List.all_eq_true.mp (by decide +kernel : k_X11_sheds.all (z_okb cX11_sheds) = true) e h
def k_X11_splits_0 : List zI := [(0, 1, 0, .aload_n 0), (1, 4, 0, .getfield 10), (4, 5, 0, .aload_n 0), (5, 8, 0, .getfield 26), (8, 9, 0, .iload_n 2), (9, 12, 0, .invokestatic 128), (12, 15, 19, .ifCond .eq 7), (15, 16, 0, .iload_n 2), (16, 19, 20, .goto 4), (19, 20, 0, .iconst 0), (20, 23, 0, .invokevirtual 239), (23, 24, 0, .istore_n 3), (24, 25, 0, .aload_n 0), (25, 28, 0, .getfield 10), (28, 31, 0, .getfield 242), (31, 33, 0, .istore 4), (33, 34, 0, .aload_n 0), (34, 37, 0, .getfield 10), (37, 40, 0, .invokevirtual 104), (40, 41, 0, .iload_n 3), (41, 44, 49, .ifCond .lt 8), (44, 46, 21, .bipush (-21)), (46, 47, 0, .iload_n 3), (47, 48, 0, .isub), (48, 49, 0, .ireturn), (49, 50, 0, .aload_n 0), (50, 53, 0, .getfield 26), (53, 54, 0, .iload_n 1), (54, 57, 0, .invokevirtual 121), (57, 60, 67, .ifCond .eq 10), (60, 61, 0, .iload_n 2), (61, 64, 0, .invokestatic 128), (64, 67, 69, .ifCond .ne 5), (67, 68, 1, .iconst (-1)), (68, 69, 0, .ireturn), (69, 70, 0, .aload_n 0), (70, 73, 0, .getfield 26), (73, 76, 0, .invokevirtual 113), (76, 79, 82, .ifCond .eq 6), (79, 81, 2, .bipush (-2))]
theorem ok_X11_splits_0 : ∀ e ∈ k_X11_splits_0, z_okb cX11_splits e = true := fun e h => List.all_eq_true.mp (by decide +kernel : k_X11_splits_0.all (z_okb cX11_splits) = true) e h
def k_X11_splits_1 : List zI := [(81, 82, 0, .ireturn), (82, 83, 0, .aload_n 0), (83, 86, 0, .getfield 26), (86, 87, 0, .iload_n 1), (87, 88, 0, .iload_n 2), (88, 91, 0, .invokevirtual 131), (91, 93, 0, .istore 5), (93, 95, 0, .iload 5), (95, 97, 0, .iload 4), (97, 100, 103, .if_icmp .ne 6), (100, 102, 3, .bipush (-3)), (102, 103, 0, .ireturn), (103, 104, 0, .aload_n 0), (104, 107, 0, .getfield 26), (107, 108, 0, .aload_n 0), (108, 111, 0, .getfield 26), (111, 112, 0, .iload_n 1), (112, 115, 0, .invokevirtual 117), (115, 116, 0, .aload_n 0), (116, 119, 0, .getfield 26), (119, 120, 0, .aload_n 0), (120, 123, 0, .getfield 26), (123, 126, 0, .getfield 83), (126, 127, 1, .iconst 1), (127, 128, 0, .isub), (128, 129, 0, .iload_n 2), (129, 131, 0, .iload 5), (131, 133, 0, .iload 4), (133, 134, 0, .aload_n 0), (134, 137, 0, .getfield 26), (137, 140, 0, .getfield 135), (140, 143, 0, .invokestatic 245), (143, 146, 0, .invokevirtual 248), (146, 147, 0, .aload_n 0), (147, 150, 0, .getfield 26), (150, 151, 0, .iload_n 1), (151, 152, 0, .iload_n 2), (152, 154, 0, .iload 4), (154, 157, 0, .invokevirtual 248), (157, 158, 0, .aload_n 0)]
theorem ok_X11_splits_1 : ∀ e ∈ k_X11_splits_1, z_okb cX11_splits e = true := fun e h => List.all_eq_true.mp (by decide +kernel : k_X11_splits_1.all (z_okb cX11_splits) = true) e h
def k_X11_splits_2 : List zI := [(158, 161, 0, .getfield 26), (161, 164, 0, .getfield 83), (164, 165, 0, .ireturn)]
theorem ok_X11_splits_2 : ∀ e ∈ k_X11_splits_2, z_okb cX11_splits e = true := fun e h => List.all_eq_true.mp (by decide +kernel : k_X11_splits_2.all (z_okb cX11_splits) = true) e h
def k_X11_splits : List zI := k_X11_splits_0 ++ (k_X11_splits_1 ++ (k_X11_splits_2))
theorem ok_X11_splits : ∀ e ∈ k_X11_splits, z_okb cX11_splits e = true := List.forall_mem_append.mpr ⟨ok_X11_splits_0, List.forall_mem_append.mpr ⟨ok_X11_splits_1, ok_X11_splits_2⟩⟩
def k_X11_plus_0 : List zI := [(0, 1, 0, .aload_n 0), (1, 4, 0, .getfield 26), (4, 5, 0, .iload_n 1), (5, 8, 0, .invokevirtual 121), (8, 11, 29, .ifCond .eq 21), (11, 12, 0, .aload_n 0), (12, 15, 0, .getfield 26), (15, 16, 0, .iload_n 2), (16, 19, 0, .invokevirtual 121), (19, 22, 29, .ifCond .eq 10), (22, 23, 0, .iload_n 3), (23, 26, 0, .invokestatic 128), (26, 29, 31, .ifCond .ne 5), (29, 30, 1, .iconst (-1)), (30, 31, 0, .ireturn), (31, 32, 0, .iload_n 1), (32, 33, 0, .iload_n 2), (33, 36, 39, .if_icmp .ne 6), (36, 38, 2, .bipush (-2)), (38, 39, 0, .ireturn), (39, 40, 0, .aload_n 0), (40, 43, 0, .getfield 26), (43, 46, 0, .invokevirtual 113), (46, 49, 52, .ifCond .eq 6), (49, 51, 3, .bipush (-3)), (51, 52, 0, .ireturn), (52, 53, 0, .iload_n 3), (53, 56, 0, .invokestatic 251), (56, 58, 0, .istore 4), (58, 60, 0, .iload 4), (60, 63, 0, .invokestatic 251), (63, 65, 0, .istore 5), (65, 66, 0, .aload_n 0), (66, 69, 0, .getfield 26), (69, 70, 0, .aload_n 0), (70, 73, 0, .getfield 26), (73, 74, 0, .iload_n 2), (74, 77, 0, .invokevirtual 117), (77, 78, 0, .aload_n 0), (78, 81, 0, .getfield 26)]
theorem ok_X11_plus_0 : ∀ e ∈ k_X11_plus_0, z_okb cX11_plus e = true := fun e h => List.all_eq_true.mp (by decide +kernel : k_X11_plus_0.all (z_okb cX11_plus) = true) e h
def k_X11_plus_1 : List zI := [(81, 82, 0, .aload_n 0), (82, 85, 0, .getfield 26), (85, 88, 0, .getfield 83), (88, 89, 1, .iconst 1), (89, 90, 0, .isub), (90, 91, 0, .iload_n 3), (91, 92, 0, .aload_n 0), (92, 95, 0, .getfield 26), (95, 96, 0, .iload_n 2), (96, 97, 0, .iload_n 3), (97, 100, 0, .invokevirtual 131), (100, 101, 0, .aload_n 0), (101, 104, 0, .getfield 26), (104, 105, 0, .iload_n 1), (105, 106, 0, .iload_n 3), (106, 109, 0, .invokevirtual 131), (109, 110, 0, .aload_n 0), (110, 113, 0, .getfield 26), (113, 116, 0, .getfield 135), (116, 119, 0, .invokestatic 245), (119, 122, 0, .invokevirtual 248), (122, 123, 0, .aload_n 0), (123, 126, 0, .getfield 26), (126, 127, 0, .iload_n 2), (127, 128, 0, .iload_n 3), (128, 129, 0, .aload_n 0), (129, 132, 0, .getfield 26), (132, 133, 0, .iload_n 1), (133, 134, 0, .iload_n 3), (134, 137, 0, .invokevirtual 131), (137, 140, 0, .invokevirtual 248), (140, 141, 0, .aload_n 0), (141, 144, 0, .getfield 26), (144, 145, 0, .iload_n 2), (145, 147, 0, .iload 5), (147, 148, 0, .aload_n 0), (148, 151, 0, .getfield 26), (151, 152, 0, .iload_n 2), (152, 154, 0, .iload 5), (154, 157, 0, .invokevirtual 131)]
theorem ok_X11_plus_1 : ∀ e ∈ k_X11_plus_1, z_okb cX11_plus e = true := fun e h => List.all_eq_true.mp (by decide +kernel : k_X11_plus_1.all (z_okb cX11_plus) = true) e h
def k_X11_plus_2 : List zI := [(157, 158, 0, .aload_n 0), (158, 161, 0, .getfield 26), (161, 162, 0, .iload_n 1), (162, 164, 0, .iload 5), (164, 167, 0, .invokevirtual 131), (167, 168, 0, .aload_n 0), (168, 171, 0, .getfield 26), (171, 174, 0, .getfield 135), (174, 177, 0, .invokestatic 245), (177, 180, 0, .invokevirtual 248), (180, 181, 0, .aload_n 0), (181, 184, 0, .getfield 26), (184, 185, 0, .iload_n 1), (185, 187, 0, .iload 4), (187, 188, 0, .aload_n 0), (188, 191, 0, .getfield 26), (191, 192, 0, .iload_n 1), (192, 194, 0, .iload 4), (194, 197, 0, .invokevirtual 131), (197, 198, 0, .aload_n 0), (198, 201, 0, .getfield 26), (201, 202, 0, .iload_n 2), (202, 204, 0, .iload 4), (204, 207, 0, .invokevirtual 131), (207, 208, 0, .aload_n 0), (208, 211, 0, .getfield 26), (211, 214, 0, .getfield 135), (214, 217, 0, .invokestatic 254), (217, 220, 0, .invokevirtual 248), (220, 221, 0, .aload_n 0), (221, 224, 0, .getfield 26), (224, 227, 0, .getfield 83), (227, 228, 0, .ireturn)]
theorem ok_X11_plus_2 : ∀ e ∈ k_X11_plus_2, z_okb cX11_plus e = true := fun e h => List.all_eq_true.mp (by decide +kernel : k_X11_plus_2.all (z_okb cX11_plus) = true) e h
def k_X11_plus : List zI := k_X11_plus_0 ++ (k_X11_plus_1 ++ (k_X11_plus_2))
theorem ok_X11_plus : ∀ e ∈ k_X11_plus, z_okb cX11_plus e = true := List.forall_mem_append.mpr ⟨ok_X11_plus_0, List.forall_mem_append.mpr ⟨ok_X11_plus_1, ok_X11_plus_2⟩⟩
def k_X11_scales_0 : List zI := [(0, 1, 0, .aload_n 0), (1, 4, 0, .getfield 26), (4, 5, 0, .iload_n 1), (5, 8, 0, .invokevirtual 121), (8, 11, 26, .ifCond .eq 18), (11, 12, 0, .iload_n 2), (12, 15, 0, .invokestatic 128), (15, 18, 26, .ifCond .eq 11), (18, 19, 0, .aload_n 0), (19, 20, 0, .iload_n 3), (20, 23, 0, .invokevirtual 257), (23, 26, 28, .ifCond .ne 5), (26, 27, 1, .iconst (-1)), (27, 28, 0, .ireturn), (28, 29, 0, .iload_n 2), (29, 32, 0, .invokestatic 251), (32, 34, 0, .istore 4), (34, 35, 0, .aload_n 0), (35, 38, 0, .getfield 33), (38, 39, 0, .aload_n 0), (39, 42, 0, .getfield 26), (42, 45, 0, .invokevirtual 96), (45, 46, 0, .aload_n 0), (46, 49, 0, .getfield 33), (49, 50, 0, .aload_n 0), (50, 53, 0, .getfield 26), (53, 54, 0, .iload_n 1), (54, 57, 0, .invokevirtual 117), (57, 58, 0, .aload_n 0), (58, 61, 0, .getfield 26), (61, 62, 0, .iload_n 1), (62, 63, 0, .iload_n 2), (63, 64, 0, .iload_n 3), (64, 65, 0, .aload_n 0), (65, 68, 0, .getfield 26), (68, 69, 0, .iload_n 1), (69, 70, 0, .iload_n 2), (70, 73, 0, .invokevirtual 131), (73, 76, 0, .invokestatic 260), (76, 79, 0, .invokevirtual 248)]
theorem ok_X11_scales_0 : ∀ e ∈ k_X11_scales_0, z_okb cX11_scales e = true := fun e h => List.all_eq_true.mp (by decide +kernel : k_X11_scales_0.all (z_okb cX11_scales) = true) e h
def k_X11_scales_1 : List zI := [(79, 80, 0, .aload_n 0), (80, 83, 0, .getfield 26), (83, 84, 0, .iload_n 1), (84, 86, 0, .iload 4), (86, 87, 0, .iload_n 3), (87, 88, 0, .aload_n 0), (88, 91, 0, .getfield 26), (91, 92, 0, .iload_n 1), (92, 94, 0, .iload 4), (94, 97, 0, .invokevirtual 131), (97, 100, 0, .invokestatic 260), (100, 103, 0, .invokevirtual 248), (103, 104, 0, .aload_n 0), (104, 107, 0, .getfield 26), (107, 108, 0, .iload_n 1), (108, 109, 0, .aload_n 0), (109, 112, 0, .getfield 33), (112, 113, 0, .iconst 0), (113, 116, 0, .invokevirtual 263), (116, 119, 123, .ifCond .eq 7), (119, 120, 1, .iconst 1), (120, 123, 124, .goto 4), (123, 124, 0, .iconst 0), (124, 125, 0, .ireturn)]
theorem ok_X11_scales_1 : ∀ e ∈ k_X11_scales_1, z_okb cX11_scales e = true := fun e h => List.all_eq_true.mp (by decide +kernel : k_X11_scales_1.all (z_okb cX11_scales) = true) e h
def k_X11_scales : List zI := k_X11_scales_0 ++ (k_X11_scales_1)
theorem ok_X11_scales : ∀ e ∈ k_X11_scales, z_okb cX11_scales e = true := List.forall_mem_append.mpr ⟨ok_X11_scales_0, ok_X11_scales_1⟩
def k_X11_narrows : List zI := [(0, 1, 0, .iload_n 1), (1, 4, 0, .invokestatic 128), (4, 7, 16, .ifCond .eq 12), (7, 8, 0, .aload_n 0), (8, 9, 0, .iload_n 1), (9, 10, 0, .iload_n 2), (10, 13, 0, .invokevirtual 267), (13, 16, 18, .ifCond .ne 5), (16, 17, 1, .iconst (-1)), (17, 18, 0, .ireturn), (18, 19, 0, .aload_n 0), (19, 22, 0, .getfield 26), (22, 23, 0, .iload_n 1), (23, 26, 0, .invokevirtual 270), (26, 27, 1, .iconst 1), (27, 30, 33, .if_icmp .gt 6), (30, 32, 2, .bipush (-2)), (32, 33, 0, .ireturn), (33, 34, 0, .aload_n 0), (34, 37, 0, .getfield 26), (37, 38, 0, .iload_n 1), (38, 39, 0, .iload_n 2), (39, 40, 1, .iconst 1), (40, 41, 0, .isub), (41, 44, 0, .invokestatic 273), (44, 45, 0, .aload_n 0), (45, 48, 0, .getfield 26), (48, 51, 0, .invokevirtual 213), (51, 52, 0, .ireturn)]
theorem ok_X11_narrows : ∀ e ∈ k_X11_narrows, z_okb cX11_narrows e = true := fun e h => List.all_eq_true.mp (by decide +kernel : k_X11_narrows.all (z_okb cX11_narrows) = true) e h
def k_X11_widens : List zI := [(0, 1, 0, .iload_n 1), (1, 4, 0, .invokestatic 128), (4, 7, 9, .ifCond .ne 5), (7, 8, 1, .iconst (-1)), (8, 9, 0, .ireturn), (9, 10, 0, .aload_n 0), (10, 13, 0, .getfield 26), (13, 14, 0, .iload_n 1), (14, 17, 0, .invokevirtual 270), (17, 18, 3, .iconst 3), (18, 21, 24, .if_icmp .lt 6), (21, 23, 2, .bipush (-2)), (23, 24, 0, .ireturn), (24, 25, 0, .aload_n 0), (25, 28, 0, .getfield 26), (28, 31, 0, .getfield 83), (31, 32, 0, .aload_n 0), (32, 35, 0, .getfield 26), (35, 36, 0, .iload_n 1), (36, 39, 0, .invokestatic 251), (39, 42, 0, .invokevirtual 270), (42, 43, 0, .aload_n 0), (43, 46, 0, .getfield 26), (46, 47, 0, .iload_n 1), (47, 50, 0, .invokestatic 279), (50, 53, 0, .invokevirtual 270), (53, 54, 0, .imul), (54, 55, 0, .iadd), (55, 57, 40, .bipush 40), (57, 60, 63, .if_icmp .le 6), (60, 62, 3, .bipush (-3)), (62, 63, 0, .ireturn), (63, 64, 0, .aload_n 0), (64, 67, 0, .getfield 26), (67, 68, 0, .iload_n 1), (68, 71, 0, .invokestatic 282), (71, 72, 0, .aload_n 0), (72, 75, 0, .getfield 26), (75, 78, 0, .getfield 83), (78, 79, 0, .ireturn)]
theorem ok_X11_widens : ∀ e ∈ k_X11_widens, z_okb cX11_widens e = true := fun e h => List.all_eq_true.mp (by decide +kernel : k_X11_widens.all (z_okb cX11_widens) = true) e h
def k_X11_walks_0 : List zI := [(0, 1, 0, .iload_n 2), (1, 2, 1, .iconst 1), (2, 5, 23, .if_icmp .lt 21), (5, 6, 0, .iload_n 2), (6, 8, 100, .bipush 100), (8, 11, 23, .if_icmp .gt 15), (11, 12, 0, .iload_n 1), (12, 13, 1, .iconst 1), (13, 16, 23, .if_icmp .lt 10), (16, 17, 0, .iload_n 1), (17, 20, 0, .ldc_w 285), (20, 23, 25, .if_icmp .le 5), (23, 24, 1, .iconst (-1)), (24, 25, 0, .ireturn), (25, 26, 0, .iload_n 1), (26, 27, 0, .i2l), (27, 28, 0, .lstore_n 3), (28, 29, 0, .iconst 0), (29, 31, 0, .istore 5), (31, 32, 0, .iconst 0), (32, 34, 0, .istore 6), (34, 36, 0, .iload 6), (36, 37, 0, .iload_n 2), (37, 40, 81, .if_icmp .ge 44), (40, 41, 0, .lload_n 3), (41, 44, 0, .ldc2_w 286), (44, 45, 0, .lmul), (45, 48, 0, .ldc2_w 288), (48, 49, 0, .lrem), (49, 50, 0, .lstore_n 3), (50, 51, 0, .aload_n 0), (51, 54, 0, .getfield 26), (54, 55, 0, .lload_n 3), (55, 58, 0, .invokestatic 290), (58, 61, 75, .ifCond .eq 17), (61, 62, 0, .aload_n 0), (62, 65, 0, .getfield 46), (65, 66, 0, .aload_n 0), (66, 69, 0, .getfield 26), (69, 72, 0, .invokevirtual 217)]
theorem ok_X11_walks_0 : ∀ e ∈ k_X11_walks_0, z_okb cX11_walks e = true := fun e h => List.all_eq_true.mp (by decide +kernel : k_X11_walks_0.all (z_okb cX11_walks) = true) e h
def k_X11_walks_1 : List zI := [(72, 75, 1, .iinc 5 1), (75, 78, 1, .iinc 6 1), (78, 81, 34, .goto (-44)), (81, 82, 0, .aload_n 0), (82, 85, 0, .getfield 19), (85, 88, 0, .invokevirtual 150), (88, 89, 0, .aload_n 0), (89, 92, 0, .getfield 19), (92, 94, 0, .iload 5), (94, 95, 0, .i2l), (95, 98, 0, .invokevirtual 167), (98, 99, 0, .aload_n 0), (99, 102, 0, .getfield 19), (102, 103, 0, .lload_n 3), (103, 106, 0, .invokevirtual 167), (106, 107, 0, .aload_n 0), (107, 110, 0, .getfield 26), (110, 113, 0, .getfield 83), (113, 114, 0, .ireturn)]
theorem ok_X11_walks_1 : ∀ e ∈ k_X11_walks_1, z_okb cX11_walks e = true := fun e h => List.all_eq_true.mp (by decide +kernel : k_X11_walks_1.all (z_okb cX11_walks) = true) e h
def k_X11_walks : List zI := k_X11_walks_0 ++ (k_X11_walks_1)
theorem ok_X11_walks : ∀ e ∈ k_X11_walks, z_okb cX11_walks e = true := List.forall_mem_append.mpr ⟨ok_X11_walks_0, ok_X11_walks_1⟩
def k_X11_rolls : List zI := [(0, 1, 0, .aload_n 0), (1, 4, 0, .getfield 26), (4, 7, 0, .invokestatic 294), (7, 8, 0, .aload_n 0), (8, 11, 0, .getfield 26), (11, 14, 0, .getfield 83), (14, 15, 0, .ireturn)]
theorem ok_X11_rolls : ∀ e ∈ k_X11_rolls, z_okb cX11_rolls e = true := fun e h => List.all_eq_true.mp (by decide +kernel : k_X11_rolls.all (z_okb cX11_rolls) = true) e h
def k_X11_mirrors : List zI := [(0, 1, 0, .aload_n 0), (1, 4, 0, .getfield 26), (4, 7, 0, .invokestatic 297), (7, 8, 0, .aload_n 0), (8, 11, 0, .getfield 26), (11, 14, 0, .getfield 83), (14, 15, 0, .ireturn)]
theorem ok_X11_mirrors : ∀ e ∈ k_X11_mirrors, z_okb cX11_mirrors e = true := fun e h => List.all_eq_true.mp (by decide +kernel : k_X11_mirrors.all (z_okb cX11_mirrors) = true) e h
def k_X11_shears : List zI := [(0, 1, 0, .iload_n 1), (1, 4, 0, .invokestatic 128), (4, 7, 39, .ifCond .eq 35), (7, 8, 0, .aload_n 0), (8, 9, 0, .iload_n 1), (9, 10, 0, .iload_n 2), (10, 13, 0, .invokevirtual 267), (13, 16, 39, .ifCond .eq 26), (16, 17, 0, .aload_n 0), (17, 18, 0, .iload_n 1), (18, 19, 0, .iload_n 3), (19, 22, 0, .invokevirtual 267), (22, 25, 39, .ifCond .eq 17), (25, 26, 0, .iload_n 2), (26, 27, 0, .iload_n 3), (27, 30, 39, .if_icmp .eq 12), (30, 31, 0, .aload_n 0), (31, 33, 0, .iload 4), (33, 36, 0, .invokevirtual 257), (36, 39, 41, .ifCond .ne 5), (39, 40, 1, .iconst (-1)), (40, 41, 0, .ireturn), (41, 42, 0, .aload_n 0), (42, 45, 0, .getfield 33), (45, 46, 0, .aload_n 0), (46, 49, 0, .getfield 26), (49, 52, 0, .invokevirtual 107), (52, 53, 0, .aload_n 0), (53, 56, 0, .getfield 26), (56, 57, 0, .iload_n 1), (57, 58, 0, .iload_n 2), (58, 59, 1, .iconst 1), (59, 60, 0, .isub), (60, 61, 0, .iload_n 3), (61, 62, 1, .iconst 1), (62, 63, 0, .isub), (63, 65, 0, .iload 4), (65, 68, 0, .invokestatic 300), (68, 69, 0, .aload_n 0), (69, 72, 0, .getfield 26), (72, 73, 0, .aload_n 0), (73, 76, 0, .getfield 33), (76, 79, 0, .invokevirtual 304), (79, 80, 0, .ireturn)]
theorem ok_X11_shears : ∀ e ∈ k_X11_shears, z_okb cX11_shears e = true := fun e h => List.all_eq_true.mp (by decide +kernel : k_X11_shears.all (z_okb cX11_shears) = true) e h
def k_X11_swaps : List zI := [(0, 1, 0, .iload_n 1), (1, 4, 0, .invokestatic 128), (4, 7, 25, .ifCond .eq 21), (7, 8, 0, .aload_n 0), (8, 9, 0, .iload_n 1), (9, 10, 0, .iload_n 2), (10, 13, 0, .invokevirtual 267), (13, 16, 25, .ifCond .eq 12), (16, 17, 0, .aload_n 0), (17, 18, 0, .iload_n 1), (18, 19, 0, .iload_n 3), (19, 22, 0, .invokevirtual 267), (22, 25, 27, .ifCond .ne 5), (25, 26, 1, .iconst (-1)), (26, 27, 0, .ireturn), (27, 28, 0, .aload_n 0), (28, 31, 0, .getfield 33), (31, 32, 0, .aload_n 0), (32, 35, 0, .getfield 26), (35, 38, 0, .invokevirtual 107), (38, 39, 0, .aload_n 0), (39, 42, 0, .getfield 26), (42, 43, 0, .iload_n 1), (43, 44, 0, .iload_n 2), (44, 45, 1, .iconst 1), (45, 46, 0, .isub), (46, 47, 0, .iload_n 3), (47, 48, 1, .iconst 1), (48, 49, 0, .isub), (49, 52, 0, .invokestatic 307), (52, 53, 0, .aload_n 0), (53, 56, 0, .getfield 26), (56, 57, 0, .aload_n 0), (57, 60, 0, .getfield 33), (60, 63, 0, .invokevirtual 304), (63, 64, 0, .ireturn)]
theorem ok_X11_swaps : ∀ e ∈ k_X11_swaps, z_okb cX11_swaps e = true := fun e h => List.all_eq_true.mp (by decide +kernel : k_X11_swaps.all (z_okb cX11_swaps) = true) e h
def k_X11_uses : List zI := [(0, 1, 0, .aload_n 0), (1, 4, 0, .getfield 26), (4, 5, 0, .iload_n 1), (5, 6, 0, .iload_n 2), (6, 9, 0, .invokevirtual 143), (9, 12, 14, .ifCond .ne 5), (12, 13, 1, .iconst (-1)), (13, 14, 0, .ireturn), (14, 15, 0, .iconst 0), (15, 16, 0, .istore_n 3), (16, 17, 0, .aload_n 0), (17, 20, 0, .getfield 19), (20, 23, 0, .invokevirtual 150), (23, 24, 1, .iconst 1), (24, 26, 0, .istore 4), (26, 28, 0, .iload 4), (28, 29, 0, .aload_n 0), (29, 32, 0, .getfield 26), (32, 35, 0, .getfield 135), (35, 38, 72, .if_icmp .ge 37), (38, 39, 0, .aload_n 0), (39, 42, 0, .getfield 26), (42, 43, 0, .iload_n 1), (43, 44, 0, .iload_n 2), (44, 46, 0, .iload 4), (46, 49, 0, .invokevirtual 197), (49, 51, 0, .istore 5), (51, 52, 0, .aload_n 0), (52, 55, 0, .getfield 19), (55, 57, 0, .iload 5), (57, 58, 0, .i2l), (58, 61, 0, .invokevirtual 167), (61, 62, 0, .iload_n 3), (62, 64, 0, .iload 5), (64, 65, 0, .iadd), (65, 66, 0, .istore_n 3), (66, 69, 1, .iinc 4 1), (69, 72, 26, .goto (-43)), (72, 73, 0, .aload_n 0), (73, 76, 0, .getfield 19), (76, 77, 0, .aload_n 0), (77, 80, 0, .getfield 26), (80, 81, 0, .iload_n 1), (81, 84, 0, .invokevirtual 311), (84, 85, 0, .i2l), (85, 88, 0, .invokevirtual 167), (88, 89, 0, .iload_n 3), (89, 90, 0, .ireturn)]
theorem ok_X11_uses : ∀ e ∈ k_X11_uses, z_okb cX11_uses e = true := fun e h => List.all_eq_true.mp (by decide +kernel : k_X11_uses.all (z_okb cX11_uses) = true) e h
def k_X11_round : List zI := [(0, 1, 0, .aload_n 0), (1, 4, 0, .getfield 26), (4, 7, 0, .getfield 314), (7, 8, 0, .aload_n 0), (8, 11, 0, .getfield 26), (11, 14, 0, .getfield 317), (14, 17, 34, .if_icmp .ne 20), (17, 18, 0, .aload_n 0), (18, 21, 0, .getfield 26), (21, 24, 0, .getfield 317), (24, 25, 0, .aload_n 0), (25, 28, 0, .getfield 26), (28, 31, 0, .getfield 320), (31, 34, 37, .if_icmp .eq 6), (34, 36, 2, .bipush (-2)), (36, 37, 0, .ireturn), (37, 38, 0, .aload_n 0), (38, 41, 0, .getfield 33), (41, 42, 0, .aload_n 0), (42, 45, 0, .getfield 26), (45, 48, 0, .invokevirtual 107), (48, 49, 0, .aload_n 0), (49, 52, 0, .getfield 33), (52, 55, 0, .invokestatic 294), (55, 56, 0, .aload_n 0), (56, 59, 0, .invokevirtual 323), (59, 60, 0, .ireturn)]
theorem ok_X11_round : ∀ e ∈ k_X11_round, z_okb cX11_round e = true := fun e h => List.all_eq_true.mp (by decide +kernel : k_X11_round.all (z_okb cX11_round) = true) e h
def k_X11_mirrored : List zI := [(0, 1, 0, .aload_n 0), (1, 4, 0, .getfield 26), (4, 7, 0, .getfield 317), (7, 8, 0, .aload_n 0), (8, 11, 0, .getfield 26), (11, 14, 0, .getfield 320), (14, 17, 20, .if_icmp .eq 6), (17, 19, 2, .bipush (-2)), (19, 20, 0, .ireturn), (20, 21, 0, .aload_n 0), (21, 24, 0, .getfield 33), (24, 25, 0, .aload_n 0), (25, 28, 0, .getfield 26), (28, 31, 0, .invokevirtual 107), (31, 32, 0, .aload_n 0), (32, 35, 0, .getfield 33), (35, 38, 0, .invokestatic 297), (38, 39, 0, .aload_n 0), (39, 42, 0, .invokevirtual 323), (42, 43, 0, .ireturn)]
theorem ok_X11_mirrored : ∀ e ∈ k_X11_mirrored, z_okb cX11_mirrored e = true := fun e h => List.all_eq_true.mp (by decide +kernel : k_X11_mirrored.all (z_okb cX11_mirrored) = true) e h
def k_X11_groups_0 : List zI := [(0, 1, 0, .iload_n 1), (1, 4, 0, .invokestatic 128), (4, 7, 9, .ifCond .ne 5), (7, 8, 1, .iconst (-1)), (8, 9, 0, .ireturn), (9, 10, 0, .iconst 0), (10, 11, 0, .istore_n 2), (11, 12, 0, .lconst 0), (12, 13, 0, .lstore_n 3), (13, 14, 0, .iconst 0), (14, 16, 0, .istore 5), (16, 18, 0, .iload 5), (18, 19, 0, .aload_n 0), (19, 22, 0, .getfield 26), (22, 25, 0, .getfield 83), (25, 28, 100, .if_icmp .ge 75), (28, 29, 0, .aload_n 0), (29, 32, 0, .getfield 26), (32, 34, 0, .iload 5), (34, 35, 0, .iload_n 1), (35, 38, 0, .invokevirtual 326), (38, 40, 0, .lstore 6), (40, 42, 0, .lload 6), (42, 44, 0, .iload 5), (44, 47, 0, .invokestatic 330), (47, 48, 1, .lconst 1), (48, 49, 0, .lsub), (49, 50, 0, .land), (50, 51, 0, .lconst 0), (51, 52, 0, .lcmp), (52, 55, 59, .ifCond .ne 7), (55, 56, 1, .iconst 1), (56, 59, 60, .goto 4), (59, 60, 0, .iconst 0), (60, 62, 0, .istore 8), (62, 64, 0, .iload 8), (64, 67, 94, .ifCond .eq 30), (67, 69, 0, .lload 6), (69, 72, 0, .invokestatic 334), (72, 73, 2, .iconst 2)]
theorem ok_X11_groups_0 : ∀ e ∈ k_X11_groups_0, z_okb cX11_groups e = true := fun e h => List.all_eq_true.mp (by decide +kernel : k_X11_groups_0.all (z_okb cX11_groups) = true) e h
def k_X11_groups_1 : List zI := [(73, 76, 94, .if_icmp .lt 21), (76, 79, 1, .iinc 2 1), (79, 81, 0, .lload 6), (81, 84, 0, .invokestatic 334), (84, 85, 0, .lload_n 3), (85, 88, 0, .invokestatic 334), (88, 91, 94, .if_icmp .le 6), (91, 93, 0, .lload 6), (93, 94, 0, .lstore_n 3), (94, 97, 1, .iinc 5 1), (97, 100, 16, .goto (-81)), (100, 101, 0, .aload_n 0), (101, 104, 0, .getfield 19), (104, 107, 0, .invokevirtual 150), (107, 108, 0, .aload_n 0), (108, 111, 0, .getfield 19), (111, 112, 0, .lload_n 3), (112, 115, 0, .invokestatic 334), (115, 116, 0, .i2l), (116, 119, 0, .invokevirtual 167), (119, 120, 0, .aload_n 0), (120, 123, 0, .getfield 19), (123, 124, 0, .lload_n 3), (124, 127, 0, .invokevirtual 167), (127, 128, 0, .iload_n 2), (128, 129, 0, .ireturn)]
theorem ok_X11_groups_1 : ∀ e ∈ k_X11_groups_1, z_okb cX11_groups e = true := fun e h => List.all_eq_true.mp (by decide +kernel : k_X11_groups_1.all (z_okb cX11_groups) = true) e h
def k_X11_groups : List zI := k_X11_groups_0 ++ (k_X11_groups_1)
theorem ok_X11_groups : ∀ e ∈ k_X11_groups, z_okb cX11_groups e = true := List.forall_mem_append.mpr ⟨ok_X11_groups_0, ok_X11_groups_1⟩
def k_X11_spans : List zI := [(0, 1, 0, .iload_n 1), (1, 4, 0, .invokestatic 128), (4, 7, 9, .ifCond .ne 5), (7, 8, 1, .iconst (-1)), (8, 9, 0, .ireturn), (9, 10, 0, .aload_n 0), (10, 13, 0, .getfield 60), (13, 14, 0, .aload_n 0), (14, 17, 0, .getfield 26), (17, 20, 0, .getfield 135), (20, 23, 0, .invokevirtual 339), (23, 24, 0, .lconst 0), (24, 25, 0, .lstore_n 2), (25, 26, 0, .iconst 0), (26, 28, 0, .istore 4), (28, 30, 0, .iload 4), (30, 31, 0, .aload_n 0), (31, 34, 0, .getfield 26), (34, 37, 0, .getfield 83), (37, 40, 74, .if_icmp .ge 37), (40, 41, 0, .aload_n 0), (41, 44, 0, .getfield 60), (44, 45, 0, .aload_n 0), (45, 48, 0, .getfield 26), (48, 50, 0, .iload 4), (50, 51, 0, .iload_n 1), (51, 54, 0, .invokevirtual 131), (54, 57, 0, .invokevirtual 342), (57, 60, 68, .ifCond .eq 11), (60, 61, 0, .lload_n 2), (61, 63, 0, .iload 4), (63, 66, 0, .invokestatic 330), (66, 67, 0, .lor), (67, 68, 0, .lstore_n 2), (68, 71, 1, .iinc 4 1), (71, 74, 28, .goto (-43)), (74, 75, 0, .aload_n 0), (75, 78, 0, .getfield 19), (78, 81, 0, .invokevirtual 150), (81, 82, 0, .aload_n 0), (82, 85, 0, .getfield 19), (85, 86, 0, .lload_n 2), (86, 89, 0, .invokevirtual 167), (89, 90, 0, .aload_n 0), (90, 93, 0, .getfield 60), (93, 96, 0, .getfield 345), (96, 97, 0, .ireturn)]
theorem ok_X11_spans : ∀ e ∈ k_X11_spans, z_okb cX11_spans e = true := fun e h => List.all_eq_true.mp (by decide +kernel : k_X11_spans.all (z_okb cX11_spans) = true) e h
def k_X11_keeps : List zI := [(0, 1, 0, .aload_n 0), (1, 4, 0, .getfield 30), (4, 5, 0, .aload_n 0), (5, 8, 0, .getfield 26), (8, 11, 0, .invokevirtual 107), (11, 12, 0, .aload_n 0), (12, 13, 1, .iconst 1), (13, 16, 0, .putfield 79), (16, 17, 0, .aload_n 0), (17, 20, 0, .getfield 30), (20, 23, 0, .getfield 83), (23, 24, 0, .ireturn)]
theorem ok_X11_keeps : ∀ e ∈ k_X11_keeps, z_okb cX11_keeps e = true := fun e h => List.all_eq_true.mp (by decide +kernel : k_X11_keeps.all (z_okb cX11_keeps) = true) e h
def k_X11_others : List zI := [(0, 1, 0, .aload_n 0), (1, 4, 0, .getfield 79), (4, 7, 10, .ifCond .ne 6), (7, 9, 2, .bipush (-2)), (9, 10, 0, .ireturn), (10, 11, 0, .aload_n 0), (11, 14, 0, .getfield 26), (14, 15, 0, .aload_n 0), (15, 18, 0, .getfield 30), (18, 21, 0, .invokevirtual 346), (21, 24, 38, .ifCond .eq 17), (24, 25, 0, .aload_n 0), (25, 28, 0, .getfield 26), (28, 29, 0, .aload_n 0), (29, 32, 0, .getfield 30), (32, 35, 0, .invokevirtual 349), (35, 38, 39, .goto 4), (38, 39, 0, .iconst 0), (39, 40, 0, .istore_n 1), (40, 41, 0, .aload_n 0), (41, 44, 0, .getfield 19), (44, 47, 0, .invokevirtual 150), (47, 48, 0, .aload_n 0), (48, 51, 0, .getfield 19), (51, 52, 0, .aload_n 0), (52, 55, 0, .getfield 30), (55, 58, 0, .getfield 83), (58, 59, 0, .iload_n 1), (59, 60, 0, .isub), (60, 61, 0, .i2l), (61, 64, 0, .invokevirtual 167), (64, 65, 0, .aload_n 0), (65, 68, 0, .getfield 26), (68, 71, 0, .getfield 83), (71, 72, 0, .iload_n 1), (72, 73, 0, .isub), (73, 74, 0, .ireturn)]
theorem ok_X11_others : ∀ e ∈ k_X11_others, z_okb cX11_others e = true := fun e h => List.all_eq_true.mp (by decide +kernel : k_X11_others.all (z_okb cX11_others) = true) e h
def k_X11_unlikes_0 : List zI := [(0, 1, 0, .aload_n 0), (1, 4, 0, .getfield 79), (4, 7, 10, .ifCond .ne 6), (7, 9, 2, .bipush (-2)), (9, 10, 0, .ireturn), (10, 11, 0, .aload_n 0), (11, 14, 0, .getfield 26), (14, 15, 0, .aload_n 0), (15, 18, 0, .getfield 30), (18, 21, 0, .invokevirtual 346), (21, 24, 27, .ifCond .ne 6), (24, 26, 3, .bipush (-3)), (26, 27, 0, .ireturn), (27, 28, 0, .aload_n 0), (28, 31, 0, .getfield 19), (31, 34, 0, .invokevirtual 150), (34, 35, 0, .iconst 0), (35, 36, 0, .istore_n 1), (36, 37, 0, .iconst 0), (37, 38, 0, .istore_n 2), (38, 39, 0, .iload_n 2), (39, 40, 0, .aload_n 0), (40, 43, 0, .getfield 26), (43, 44, 0, .iconst 0), (44, 47, 0, .invokevirtual 153), (47, 50, 135, .if_icmp .ge 88), (50, 51, 0, .iconst 0), (51, 52, 0, .istore_n 3), (52, 53, 0, .iload_n 3), (53, 54, 0, .aload_n 0), (54, 57, 0, .getfield 26), (57, 58, 1, .iconst 1), (58, 61, 0, .invokevirtual 153), (61, 64, 129, .if_icmp .ge 68), (64, 65, 0, .iconst 0), (65, 67, 0, .istore 4), (67, 69, 0, .iload 4), (69, 70, 0, .aload_n 0), (70, 73, 0, .getfield 26), (73, 74, 2, .iconst 2)]
theorem ok_X11_unlikes_0 : ∀ e ∈ k_X11_unlikes_0, z_okb cX11_unlikes e = true := fun e h => List.all_eq_true.mp (by decide +kernel : k_X11_unlikes_0.all (z_okb cX11_unlikes) = true) e h
def k_X11_unlikes_1 : List zI := [(74, 77, 0, .invokevirtual 153), (77, 80, 123, .if_icmp .ge 46), (80, 81, 0, .aload_n 0), (81, 84, 0, .getfield 26), (84, 85, 0, .iload_n 2), (85, 86, 0, .iload_n 3), (86, 88, 0, .iload 4), (88, 91, 0, .invokevirtual 157), (91, 92, 0, .aload_n 0), (92, 95, 0, .getfield 30), (95, 96, 0, .iload_n 2), (96, 97, 0, .iload_n 3), (97, 99, 0, .iload 4), (99, 102, 0, .invokevirtual 157), (102, 105, 117, .if_icmp .eq 15), (105, 106, 0, .aload_n 0), (106, 107, 0, .iload_n 1), (107, 108, 0, .iload_n 2), (108, 109, 0, .iload_n 3), (109, 111, 0, .iload 4), (111, 114, 0, .invokevirtual 164), (114, 117, 1, .iinc 1 1), (117, 120, 1, .iinc 4 1), (120, 123, 67, .goto (-53)), (123, 126, 1, .iinc 3 1), (126, 129, 52, .goto (-74)), (129, 132, 1, .iinc 2 1), (132, 135, 38, .goto (-94)), (135, 136, 0, .iload_n 1), (136, 137, 0, .ireturn)]
theorem ok_X11_unlikes_1 : ∀ e ∈ k_X11_unlikes_1, z_okb cX11_unlikes e = true := fun e h => List.all_eq_true.mp (by decide +kernel : k_X11_unlikes_1.all (z_okb cX11_unlikes) = true) e h
def k_X11_unlikes : List zI := k_X11_unlikes_0 ++ (k_X11_unlikes_1)
theorem ok_X11_unlikes : ∀ e ∈ k_X11_unlikes, z_okb cX11_unlikes e = true := List.forall_mem_append.mpr ⟨ok_X11_unlikes_0, ok_X11_unlikes_1⟩
def k_X11_back : List zI := [(0, 1, 0, .aload_n 0), (1, 4, 0, .getfield 79), (4, 7, 10, .ifCond .ne 6), (7, 9, 2, .bipush (-2)), (9, 10, 0, .ireturn), (10, 11, 0, .aload_n 0), (11, 14, 0, .getfield 26), (14, 15, 0, .aload_n 0), (15, 18, 0, .getfield 30), (18, 21, 0, .invokevirtual 346), (21, 24, 27, .ifCond .ne 6), (24, 26, 3, .bipush (-3)), (26, 27, 0, .ireturn), (27, 28, 0, .aload_n 0), (28, 31, 0, .getfield 26), (31, 32, 0, .aload_n 0), (32, 35, 0, .getfield 30), (35, 38, 0, .invokevirtual 107), (38, 39, 0, .aload_n 0), (39, 42, 0, .getfield 26), (42, 45, 0, .getfield 83), (45, 46, 0, .ireturn)]
theorem ok_X11_back : ∀ e ∈ k_X11_back, z_okb cX11_back e = true := fun e h => List.all_eq_true.mp (by decide +kernel : k_X11_back.all (z_okb cX11_back) = true) e h
def k_X11_lifts_0 : List zI := [(0, 1, 0, .aload_n 0), (1, 4, 0, .getfield 26), (4, 7, 0, .getfield 135), (7, 8, 2, .iconst 2), (8, 11, 14, .if_icmp .eq 6), (11, 13, 2, .bipush (-2)), (13, 14, 0, .ireturn), (14, 15, 0, .aload_n 0), (15, 18, 0, .getfield 26), (18, 21, 0, .invokevirtual 352), (21, 24, 27, .ifCond .ne 6), (24, 26, 3, .bipush (-3)), (26, 27, 0, .ireturn), (27, 28, 0, .aload_n 0), (28, 31, 0, .getfield 67), (31, 32, 0, .aload_n 0), (32, 35, 0, .getfield 26), (35, 38, 0, .invokevirtual 355), (38, 39, 0, .istore_n 1), (39, 40, 0, .aload_n 0), (40, 43, 0, .getfield 19), (43, 46, 0, .invokevirtual 150), (46, 47, 0, .aload_n 0), (47, 50, 0, .getfield 19), (50, 51, 0, .aload_n 0), (51, 54, 0, .getfield 67), (54, 57, 0, .getfield 358), (57, 58, 0, .i2l), (58, 61, 0, .invokevirtual 167), (61, 62, 0, .aload_n 0), (62, 65, 0, .getfield 19), (65, 66, 0, .aload_n 0), (66, 69, 0, .getfield 26), (69, 72, 0, .getfield 83), (72, 73, 0, .aload_n 0), (73, 76, 0, .getfield 26), (76, 77, 0, .iconst 0), (77, 80, 0, .invokevirtual 153), (80, 81, 0, .aload_n 0), (81, 84, 0, .getfield 26)]
theorem ok_X11_lifts_0 : ∀ e ∈ k_X11_lifts_0, z_okb cX11_lifts e = true := fun e h => List.all_eq_true.mp (by decide +kernel : k_X11_lifts_0.all (z_okb cX11_lifts) = true) e h
def k_X11_lifts_1 : List zI := [(84, 85, 1, .iconst 1), (85, 88, 0, .invokevirtual 153), (88, 89, 0, .iadd), (89, 90, 0, .aload_n 0), (90, 93, 0, .getfield 26), (93, 94, 2, .iconst 2), (94, 97, 0, .invokevirtual 153), (97, 98, 0, .iadd), (98, 99, 0, .imul), (99, 100, 0, .i2l), (100, 103, 0, .invokevirtual 167), (103, 104, 0, .iload_n 1), (104, 107, 111, .ifCond .eq 7), (107, 108, 1, .iconst 1), (108, 111, 112, .goto 4), (111, 112, 0, .iconst 0), (112, 113, 0, .ireturn)]
theorem ok_X11_lifts_1 : ∀ e ∈ k_X11_lifts_1, z_okb cX11_lifts e = true := fun e h => List.all_eq_true.mp (by decide +kernel : k_X11_lifts_1.all (z_okb cX11_lifts) = true) e h
def k_X11_lifts : List zI := k_X11_lifts_0 ++ (k_X11_lifts_1)
theorem ok_X11_lifts : ∀ e ∈ k_X11_lifts, z_okb cX11_lifts e = true := List.forall_mem_append.mpr ⟨ok_X11_lifts_0, ok_X11_lifts_1⟩
def k_X11_count_0 : List zI := [(0, 1, 0, .iload_n 1), (1, 72, 0, .tableswitch 182 0 13 #[71, 79, 87, 95, 103, 111, 130, 138, 146, 154, 162, 162, 162, 174]), (72, 73, 0, .aload_n 0), (73, 76, 0, .getfield 26), (76, 79, 0, .getfield 314), (79, 80, 0, .ireturn), (80, 81, 0, .aload_n 0), (81, 84, 0, .getfield 26), (84, 87, 0, .getfield 317), (87, 88, 0, .ireturn), (88, 89, 0, .aload_n 0), (89, 92, 0, .getfield 26), (92, 95, 0, .getfield 320), (95, 96, 0, .ireturn), (96, 97, 0, .aload_n 0), (97, 100, 0, .getfield 26), (100, 103, 0, .getfield 135), (103, 104, 0, .ireturn), (104, 105, 0, .aload_n 0), (105, 108, 0, .getfield 26), (108, 111, 0, .getfield 83), (111, 112, 0, .ireturn), (112, 113, 0, .aload_n 0), (113, 116, 0, .getfield 79), (116, 119, 129, .ifCond .eq 13), (119, 120, 0, .aload_n 0), (120, 123, 0, .getfield 30), (123, 126, 0, .getfield 83), (126, 129, 130, .goto 4), (129, 130, 1, .iconst (-1)), (130, 131, 0, .ireturn), (131, 132, 0, .aload_n 0), (132, 135, 0, .getfield 19), (135, 138, 0, .getfield 361), (138, 139, 0, .ireturn), (139, 140, 0, .aload_n 0), (140, 143, 0, .getfield 10), (143, 146, 0, .getfield 90), (146, 147, 0, .ireturn), (147, 148, 0, .aload_n 0)]
theorem ok_X11_count_0 : ∀ e ∈ k_X11_count_0, z_okb cX11_count e = true := fun e h => List.all_eq_true.mp (by decide +kernel : k_X11_count_0.all (z_okb cX11_count) = true) e h
def k_X11_count_1 : List zI := [(148, 151, 0, .getfield 26), (151, 154, 0, .invokevirtual 213), (154, 155, 0, .ireturn), (155, 156, 0, .aload_n 0), (156, 159, 0, .getfield 26), (159, 162, 0, .invokevirtual 362), (162, 163, 0, .ireturn), (163, 164, 0, .aload_n 0), (164, 167, 0, .getfield 26), (167, 168, 0, .iload_n 1), (168, 170, 10, .bipush 10), (170, 171, 0, .isub), (171, 174, 0, .invokevirtual 365), (174, 175, 0, .ireturn), (175, 176, 0, .aload_n 0), (176, 179, 0, .getfield 26), (179, 182, 0, .invokevirtual 368), (182, 183, 0, .ireturn), (183, 184, 1, .iconst (-1)), (184, 185, 0, .ireturn)]
theorem ok_X11_count_1 : ∀ e ∈ k_X11_count_1, z_okb cX11_count e = true := fun e h => List.all_eq_true.mp (by decide +kernel : k_X11_count_1.all (z_okb cX11_count) = true) e h
def k_X11_count : List zI := k_X11_count_0 ++ (k_X11_count_1)
theorem ok_X11_count : ∀ e ∈ k_X11_count, z_okb cX11_count e = true := List.forall_mem_append.mpr ⟨ok_X11_count_0, ok_X11_count_1⟩
def sw_X11_count : List (Nat × Int × Nat × List Nat) := [(1, 0, 183, [72, 80, 88, 96, 104, 112, 131, 139, 147, 155, 163, 163, 163, 175])]
theorem swok_X11_count : ∀ q ∈ sw_X11_count, z_sokb cX11_count q = true := fun q h => List.all_eq_true.mp (by decide +kernel : sw_X11_count.all (z_sokb cX11_count) = true) q h
def k_X11_row : List zI := [(0, 1, 0, .iload_n 1), (1, 4, 15, .ifCond .lt 14), (4, 5, 0, .iload_n 1), (5, 6, 0, .aload_n 0), (6, 9, 0, .getfield 19), (9, 12, 0, .getfield 361), (12, 15, 23, .if_icmp .lt 11), (15, 18, 0, .new 371), (18, 19, 0, .dup), (19, 22, 0, .invokespecial 373), (22, 23, 0, .athrow), (23, 24, 0, .aload_n 0), (24, 27, 0, .getfield 19), (27, 28, 0, .iload_n 1), (28, 31, 0, .invokevirtual 374), (31, 32, 0, .lreturn)]
theorem ok_X11_row : ∀ e ∈ k_X11_row, z_okb cX11_row e = true := fun e h => List.all_eq_true.mp (by decide +kernel : k_X11_row.all (z_okb cX11_row) = true) e h
def k_X11_isSize : List zI := [(0, 1, 0, .iload_n 0), (1, 2, 1, .iconst 1), (2, 5, 14, .if_icmp .lt 12), (5, 6, 0, .iload_n 0), (6, 7, 3, .iconst 3), (7, 10, 14, .if_icmp .gt 7), (10, 11, 1, .iconst 1), (11, 14, 15, .goto 4), (14, 15, 0, .iconst 0), (15, 16, 0, .ireturn)]
theorem ok_X11_isSize : ∀ e ∈ k_X11_isSize, z_okb cX11_isSize e = true := fun e h => List.all_eq_true.mp (by decide +kernel : k_X11_isSize.all (z_okb cX11_isSize) = true) e h
def k_X11_isTable : List zI := [(0, 1, 0, .iload_n 0), (1, 4, 13, .ifCond .lt 12), (4, 5, 0, .iload_n 0), (5, 6, 3, .iconst 3), (6, 9, 13, .if_icmp .ge 7), (9, 10, 1, .iconst 1), (10, 13, 14, .goto 4), (13, 14, 0, .iconst 0), (14, 15, 0, .ireturn)]
theorem ok_X11_isTable : ∀ e ∈ k_X11_isTable, z_okb cX11_isTable e = true := fun e h => List.all_eq_true.mp (by decide +kernel : k_X11_isTable.all (z_okb cX11_isTable) = true) e h
def k_X11_isLine : List zI := [(0, 1, 0, .iload_n 2), (1, 2, 1, .iconst 1), (2, 5, 21, .if_icmp .lt 19), (5, 6, 0, .iload_n 2), (6, 7, 0, .aload_n 0), (7, 10, 0, .getfield 26), (10, 11, 0, .iload_n 1), (11, 14, 0, .invokevirtual 270), (14, 17, 21, .if_icmp .gt 7), (17, 18, 1, .iconst 1), (18, 21, 22, .goto 4), (21, 22, 0, .iconst 0), (22, 23, 0, .ireturn)]
theorem ok_X11_isLine : ∀ e ∈ k_X11_isLine, z_okb cX11_isLine e = true := fun e h => List.all_eq_true.mp (by decide +kernel : k_X11_isLine.all (z_okb cX11_isLine) = true) e h
def k_X11_isFactor : List zI := [(0, 1, 0, .iload_n 1), (1, 2, 1, .iconst 1), (2, 5, 20, .if_icmp .lt 18), (5, 6, 0, .iload_n 1), (6, 7, 0, .aload_n 0), (7, 10, 0, .getfield 26), (10, 13, 0, .getfield 135), (13, 16, 20, .if_icmp .ge 7), (16, 17, 1, .iconst 1), (17, 20, 21, .goto 4), (20, 21, 0, .iconst 0), (21, 22, 0, .ireturn)]
theorem ok_X11_isFactor : ∀ e ∈ k_X11_isFactor, z_okb cX11_isFactor e = true := fun e h => List.all_eq_true.mp (by decide +kernel : k_X11_isFactor.all (z_okb cX11_isFactor) = true) e h
def k_X11_behind : List zI := [(0, 1, 0, .iload_n 0), (1, 2, 2, .iconst 2), (2, 5, 9, .if_icmp .lt 7), (5, 6, 0, .iconst 0), (6, 9, 12, .goto 6), (9, 10, 0, .iload_n 0), (10, 11, 1, .iconst 1), (11, 12, 0, .iadd), (12, 13, 0, .ireturn)]
theorem ok_X11_behind : ∀ e ∈ k_X11_behind, z_okb cX11_behind e = true := fun e h => List.all_eq_true.mp (by decide +kernel : k_X11_behind.all (z_okb cX11_behind) = true) e h
def k_X11_ahead : List zI := [(0, 1, 0, .iload_n 0), (1, 4, 8, .ifCond .gt 7), (4, 5, 2, .iconst 2), (5, 8, 11, .goto 6), (8, 9, 0, .iload_n 0), (9, 10, 1, .iconst 1), (10, 11, 0, .isub), (11, 12, 0, .ireturn)]
theorem ok_X11_ahead : ∀ e ∈ k_X11_ahead, z_okb cX11_ahead e = true := fun e h => List.all_eq_true.mp (by decide +kernel : k_X11_ahead.all (z_okb cX11_ahead) = true) e h
def k_X11_bit : List zI := [(0, 1, 1, .lconst 1), (1, 2, 0, .iload_n 0), (2, 3, 0, .lshl), (3, 4, 0, .lreturn)]
theorem ok_X11_bit : ∀ e ∈ k_X11_bit, z_okb cX11_bit e = true := fun e h => List.all_eq_true.mp (by decide +kernel : k_X11_bit.all (z_okb cX11_bit) = true) e h
def k_X11_lessOne : List zI := [(0, 1, 0, .iload_n 0), (1, 4, 10, .ifCond .le 9), (4, 5, 0, .iload_n 0), (5, 6, 1, .iconst 1), (6, 7, 0, .isub), (7, 10, 11, .goto 4), (10, 11, 0, .iconst 0), (11, 12, 0, .ireturn)]
theorem ok_X11_lessOne : ∀ e ∈ k_X11_lessOne, z_okb cX11_lessOne e = true := fun e h => List.all_eq_true.mp (by decide +kernel : k_X11_lessOne.all (z_okb cX11_lessOne) = true) e h
def k_X11_tellFirst : List zI := [(0, 1, 0, .iload_n 1), (1, 4, 12, .ifCond .ne 11), (4, 5, 0, .aload_n 0), (5, 6, 0, .iload_n 2), (6, 7, 0, .iload_n 3), (7, 9, 0, .iload 4), (9, 12, 0, .invokevirtual 200), (12, 13, 0, .return_)]
theorem ok_X11_tellFirst : ∀ e ∈ k_X11_tellFirst, z_okb cX11_tellFirst e = true := fun e h => List.all_eq_true.mp (by decide +kernel : k_X11_tellFirst.all (z_okb cX11_tellFirst) = true) e h
def k_X11_tellThree : List zI := [(0, 1, 0, .aload_n 0), (1, 4, 0, .getfield 19), (4, 7, 0, .invokevirtual 150), (7, 8, 0, .aload_n 0), (8, 11, 0, .getfield 19), (11, 12, 0, .iload_n 1), (12, 13, 0, .i2l), (13, 16, 0, .invokevirtual 167), (16, 17, 0, .aload_n 0), (17, 20, 0, .getfield 19), (20, 21, 0, .iload_n 2), (21, 22, 0, .i2l), (22, 25, 0, .invokevirtual 167), (25, 26, 0, .aload_n 0), (26, 29, 0, .getfield 19), (29, 30, 0, .iload_n 3), (30, 31, 0, .i2l), (31, 34, 0, .invokevirtual 167), (34, 35, 0, .return_)]
theorem ok_X11_tellThree : ∀ e ∈ k_X11_tellThree, z_okb cX11_tellThree e = true := fun e h => List.all_eq_true.mp (by decide +kernel : k_X11_tellThree.all (z_okb cX11_tellThree) = true) e h
def k_X11_asSpare : List zI := [(0, 1, 0, .iconst 0), (1, 2, 0, .istore_n 1), (2, 3, 0, .iconst 0), (3, 4, 0, .istore_n 2), (4, 5, 0, .iload_n 2), (5, 6, 0, .aload_n 0), (6, 9, 0, .getfield 26), (9, 12, 0, .getfield 83), (12, 15, 40, .if_icmp .ge 28), (15, 16, 0, .aload_n 0), (16, 19, 0, .getfield 26), (19, 20, 0, .iload_n 2), (20, 21, 0, .aload_n 0), (21, 24, 0, .getfield 33), (24, 25, 0, .iload_n 2), (25, 28, 0, .invokevirtual 263), (28, 31, 34, .ifCond .eq 6), (31, 34, 1, .iinc 1 1), (34, 37, 1, .iinc 2 1), (37, 40, 4, .goto (-33)), (40, 41, 0, .aload_n 0), (41, 44, 0, .getfield 19), (44, 47, 0, .invokevirtual 150), (47, 48, 0, .aload_n 0), (48, 51, 0, .getfield 19), (51, 52, 0, .iload_n 1), (52, 53, 0, .i2l), (53, 56, 0, .invokevirtual 167), (56, 57, 0, .aload_n 0), (57, 60, 0, .getfield 26), (60, 61, 0, .aload_n 0), (61, 64, 0, .getfield 33), (64, 67, 0, .invokevirtual 349), (67, 68, 0, .aload_n 0), (68, 71, 0, .getfield 26), (71, 74, 0, .getfield 83), (74, 77, 81, .if_icmp .ne 7), (77, 78, 1, .iconst 1), (78, 81, 82, .goto 4), (81, 82, 0, .iconst 0), (82, 83, 0, .ireturn)]
theorem ok_X11_asSpare : ∀ e ∈ k_X11_asSpare, z_okb cX11_asSpare e = true := fun e h => List.all_eq_true.mp (by decide +kernel : k_X11_asSpare.all (z_okb cX11_asSpare) = true) e h
end
section
def k_X12_init_0 : List zI := [(0, 1, 0, .aload_n 0), (1, 4, 0, .invokespecial 1), (4, 5, 0, .aload_n 0), (5, 6, 3, .iconst 3), (6, 8, 0, .newarray .int), (8, 11, 0, .putfield 7), (11, 12, 0, .aload_n 0), (12, 15, 1080, .sipush 1080), (15, 17, 0, .newarray .int), (17, 20, 0, .putfield 13), (20, 21, 0, .aload_n 0), (21, 22, 1, .iconst (-1)), (22, 25, 0, .putfield 16), (25, 26, 0, .aload_n 0), (26, 27, 3, .iconst 3), (27, 29, 0, .newarray .int), (29, 32, 0, .putfield 20), (32, 33, 0, .aload_n 0), (33, 36, 1080, .sipush 1080), (36, 38, 0, .newarray .int), (38, 41, 0, .putfield 23), (41, 42, 0, .aload_n 0), (42, 45, 400, .sipush 400), (45, 47, 0, .newarray .byte), (47, 50, 0, .putfield 26), (50, 51, 0, .aload_n 0), (51, 53, 16, .bipush 16), (53, 55, 0, .newarray .long), (55, 58, 0, .putfield 30), (58, 59, 0, .aload_n 0), (59, 62, 1080, .sipush 1080), (62, 64, 0, .newarray .int), (64, 67, 0, .putfield 34), (67, 68, 0, .aload_n 0), (68, 70, 18, .bipush 18), (70, 72, 0, .newarray .int), (72, 75, 0, .putfield 37), (75, 76, 0, .aload_n 0), (76, 79, 180, .sipush 180), (79, 81, 0, .newarray .int)]
theorem ok_X12_init_0 : ∀ e ∈ k_X12_init_0, z_okb cX12_init e = true := fun e h => List.all_eq_true.mp (by decide +kernel : k_X12_init_0.all (z_okb cX12_init) = true) e h
def k_X12_init_1 : List zI := [(81, 84, 0, .putfield 40), (84, 85, 0, .aload_n 0), (85, 87, 9, .bipush 9), (87, 89, 0, .newarray .int), (89, 92, 0, .putfield 43), (92, 93, 0, .aload_n 0), (93, 94, 3, .iconst 3), (94, 96, 0, .newarray .int), (96, 99, 0, .putfield 46), (99, 100, 0, .aload_n 0), (100, 103, 1080, .sipush 1080), (103, 105, 0, .newarray .int), (105, 108, 0, .putfield 49), (108, 109, 0, .aload_n 0), (109, 111, 40, .bipush 40), (111, 113, 0, .newarray .boolean), (113, 116, 0, .putfield 52), (116, 117, 0, .aload_n 0), (117, 119, 81, .bipush 81), (119, 121, 0, .newarray .int), (121, 124, 0, .putfield 56), (124, 125, 0, .aload_n 0), (125, 128, 13122, .sipush 13122), (128, 130, 0, .newarray .long), (130, 133, 0, .putfield 59), (133, 134, 0, .aload_n 0), (134, 137, 729, .sipush 729), (137, 139, 0, .newarray .int), (139, 142, 0, .putfield 62), (142, 143, 0, .aload_n 0), (143, 146, 0, .getfield 7), (146, 147, 0, .iconst 0), (147, 148, 2, .iconst 2), (148, 149, 0, .iastore), (149, 150, 0, .aload_n 0), (150, 153, 0, .getfield 7), (153, 154, 1, .iconst 1), (154, 155, 2, .iconst 2), (155, 156, 0, .iastore), (156, 157, 0, .aload_n 0)]
theorem ok_X12_init_1 : ∀ e ∈ k_X12_init_1, z_okb cX12_init e = true := fun e h => List.all_eq_true.mp (by decide +kernel : k_X12_init_1.all (z_okb cX12_init) = true) e h
def k_X12_init_2 : List zI := [(157, 160, 0, .getfield 7), (160, 161, 2, .iconst 2), (161, 162, 2, .iconst 2), (162, 163, 0, .iastore), (163, 164, 0, .aload_n 0), (164, 165, 2, .iconst 2), (165, 168, 0, .putfield 65), (168, 169, 0, .aload_n 0), (169, 172, 0, .invokevirtual 68), (172, 173, 0, .return_)]
theorem ok_X12_init_2 : ∀ e ∈ k_X12_init_2, z_okb cX12_init e = true := fun e h => List.all_eq_true.mp (by decide +kernel : k_X12_init_2.all (z_okb cX12_init) = true) e h
def k_X12_init : List zI := k_X12_init_0 ++ (k_X12_init_1 ++ (k_X12_init_2))
theorem ok_X12_init : ∀ e ∈ k_X12_init, z_okb cX12_init e = true := List.forall_mem_append.mpr ⟨ok_X12_init_0, List.forall_mem_append.mpr ⟨ok_X12_init_1, ok_X12_init_2⟩⟩
def k_X12_thrown : List zI := [(0, 1, 0, .aload_n 0), (1, 4, 0, .getfield 71), (4, 5, 0, .ireturn)]
theorem ok_X12_thrown : ∀ e ∈ k_X12_thrown, z_okb cX12_thrown e = true := fun e h => List.all_eq_true.mp (by decide +kernel : k_X12_thrown.all (z_okb cX12_thrown) = true) e h
def k_X12_in : List zI := [(0, 1, 0, .lload_n 0), (1, 2, 0, .lload_n 2), (2, 3, 0, .lcmp), (3, 6, 17, .ifCond .lt 14), (6, 7, 0, .lload_n 0), (7, 9, 0, .lload 4), (9, 10, 0, .lcmp), (10, 13, 17, .ifCond .gt 7), (13, 14, 1, .iconst 1), (14, 17, 18, .goto 4), (17, 18, 0, .iconst 0), (18, 19, 0, .ireturn)]
theorem ok_X12_in : ∀ e ∈ k_X12_in, z_okb cX12_in e = true := fun e h => List.all_eq_true.mp (by decide +kernel : k_X12_in.all (z_okb cX12_in) = true) e h
def k_X12_lost : List zI := [(0, 1, 0, .aload_n 0), (1, 2, 1, .iconst 1), (2, 5, 0, .putfield 71), (5, 6, 0, .iconst 0), (6, 7, 0, .ireturn)]
theorem ok_X12_lost : ∀ e ∈ k_X12_lost, z_okb cX12_lost e = true := fun e h => List.all_eq_true.mp (by decide +kernel : k_X12_lost.all (z_okb cX12_lost) = true) e h
def k_X12_tell : List zI := [(0, 1, 0, .aload_n 0), (1, 4, 0, .getfield 30), (4, 5, 0, .aload_n 0), (5, 8, 0, .getfield 74), (8, 9, 0, .lload_n 1), (9, 10, 0, .lastore), (10, 11, 0, .aload_n 0), (11, 12, 0, .dup), (12, 15, 0, .getfield 74), (15, 16, 1, .iconst 1), (16, 17, 0, .iadd), (17, 20, 0, .putfield 74), (20, 21, 0, .return_)]
theorem ok_X12_tell : ∀ e ∈ k_X12_tell, z_okb cX12_tell e = true := fun e h => List.all_eq_true.mp (by decide +kernel : k_X12_tell.all (z_okb cX12_tell) = true) e h
def k_X12_sign : List zI := [(0, 1, 0, .aload_n 0), (1, 2, 0, .iconst 0), (2, 5, 0, .putfield 71), (5, 6, 0, .aload_n 0), (6, 9, 0, .getfield 77), (9, 10, 4, .iconst 4), (10, 11, 0, .iadd), (11, 14, 400, .sipush 400), (14, 17, 19, .if_icmp .le 5), (17, 18, 1, .iconst (-1)), (18, 19, 0, .ireturn), (19, 20, 3, .iconst 3), (20, 21, 0, .istore_n 2), (21, 22, 0, .iload_n 2), (22, 25, 54, .ifCond .lt 32), (25, 26, 0, .aload_n 0), (26, 29, 0, .getfield 26), (29, 30, 0, .aload_n 0), (30, 31, 0, .dup), (31, 34, 0, .getfield 77), (34, 35, 0, .dup_x1), (35, 36, 1, .iconst 1), (36, 37, 0, .iadd), (37, 40, 0, .putfield 77), (40, 41, 0, .iload_n 1), (41, 43, 8, .bipush 8), (43, 44, 0, .iload_n 2), (44, 45, 0, .imul), (45, 46, 0, .ishr), (46, 47, 0, .i2b), (47, 48, 0, .bastore), (48, 51, 1, .iinc 2 (-1)), (51, 54, 21, .goto (-30)), (54, 55, 0, .aload_n 0), (55, 58, 0, .getfield 77), (58, 59, 0, .ireturn)]
theorem ok_X12_sign : ∀ e ∈ k_X12_sign, z_okb cX12_sign e = true := fun e h => List.all_eq_true.mp (by decide +kernel : k_X12_sign.all (z_okb cX12_sign) = true) e h
def k_X12_end : List zI := [(0, 1, 0, .aload_n 0), (1, 2, 0, .iconst 0), (2, 5, 0, .putfield 71), (5, 6, 0, .iload_n 1), (6, 7, 0, .i2l), (7, 8, 0, .lconst 0), (8, 9, 0, .aload_n 0), (9, 12, 0, .getfield 77), (12, 13, 0, .i2l), (13, 16, 0, .invokestatic 80), (16, 19, 21, .ifCond .ne 5), (19, 20, 0, .iconst 0), (20, 21, 0, .ireturn), (21, 22, 0, .aload_n 0), (22, 23, 0, .iload_n 1), (23, 26, 0, .putfield 77), (26, 27, 1, .iconst 1), (27, 28, 0, .ireturn)]
theorem ok_X12_end : ∀ e ∈ k_X12_end, z_okb cX12_end e = true := fun e h => List.all_eq_true.mp (by decide +kernel : k_X12_end.all (z_okb cX12_end) = true) e h
def k_X12_rowsOf : List zI := [(0, 1, 0, .aload_n 0), (1, 4, 0, .getfield 7), (4, 5, 0, .iload_n 1), (5, 6, 0, .iaload), (6, 7, 0, .ireturn)]
theorem ok_X12_rowsOf : ∀ e ∈ k_X12_rowsOf, z_okb cX12_rowsOf e = true := fun e h => List.all_eq_true.mp (by decide +kernel : k_X12_rowsOf.all (z_okb cX12_rowsOf) = true) e h
def k_X12_columnsOf : List zI := [(0, 1, 0, .aload_n 0), (1, 4, 0, .getfield 7), (4, 5, 0, .iload_n 1), (5, 6, 1, .iconst 1), (6, 7, 0, .iadd), (7, 8, 3, .iconst 3), (8, 9, 0, .irem), (9, 10, 0, .iaload), (10, 11, 0, .ireturn)]
theorem ok_X12_columnsOf : ∀ e ∈ k_X12_columnsOf, z_okb cX12_columnsOf e = true := fun e h => List.all_eq_true.mp (by decide +kernel : k_X12_columnsOf.all (z_okb cX12_columnsOf) = true) e h
def k_X12_placesOf : List zI := [(0, 1, 0, .aload_n 0), (1, 2, 0, .iload_n 1), (2, 5, 0, .invokevirtual 84), (5, 6, 0, .aload_n 0), (6, 7, 0, .iload_n 1), (7, 10, 0, .invokevirtual 88), (10, 11, 0, .imul), (11, 12, 0, .ireturn)]
theorem ok_X12_placesOf : ∀ e ∈ k_X12_placesOf, z_okb cX12_placesOf e = true := fun e h => List.all_eq_true.mp (by decide +kernel : k_X12_placesOf.all (z_okb cX12_placesOf) = true) e h
def k_X12_at : List zI := [(0, 2, 27, .bipush 27), (2, 3, 0, .iload_n 0), (3, 4, 0, .imul), (4, 6, 9, .bipush 9), (6, 7, 0, .iload_n 1), (7, 8, 0, .imul), (8, 9, 0, .iadd), (9, 10, 0, .iload_n 2), (10, 11, 0, .iadd), (11, 12, 0, .ireturn)]
theorem ok_X12_at : ∀ e ∈ k_X12_at, z_okb cX12_at e = true := fun e h => List.all_eq_true.mp (by decide +kernel : k_X12_at.all (z_okb cX12_at) = true) e h
def k_X12_isProduct : List zI := [(0, 1, 0, .iload_n 1), (1, 2, 0, .i2l), (2, 3, 0, .lconst 0), (3, 4, 0, .aload_n 0), (4, 7, 0, .getfield 91), (7, 8, 1, .iconst 1), (8, 9, 0, .isub), (9, 10, 0, .i2l), (10, 13, 0, .invokestatic 80), (13, 14, 0, .ireturn)]
theorem ok_X12_isProduct : ∀ e ∈ k_X12_isProduct, z_okb cX12_isProduct e = true := fun e h => List.all_eq_true.mp (by decide +kernel : k_X12_isProduct.all (z_okb cX12_isProduct) = true) e h
def k_X12_isTable : List zI := [(0, 1, 0, .iload_n 0), (1, 2, 0, .i2l), (2, 3, 0, .lconst 0), (3, 6, 0, .ldc2_w 94), (6, 9, 0, .invokestatic 80), (9, 10, 0, .ireturn)]
theorem ok_X12_isTable : ∀ e ∈ k_X12_isTable, z_okb cX12_isTable e = true := fun e h => List.all_eq_true.mp (by decide +kernel : k_X12_isTable.all (z_okb cX12_isTable) = true) e h
def k_X12_isPlace : List zI := [(0, 1, 0, .iload_n 2), (1, 2, 0, .i2l), (2, 3, 0, .lconst 0), (3, 4, 0, .aload_n 0), (4, 5, 0, .iload_n 1), (5, 8, 0, .invokevirtual 96), (8, 9, 1, .iconst 1), (9, 10, 0, .isub), (10, 11, 0, .i2l), (11, 14, 0, .invokestatic 80), (14, 15, 0, .ireturn)]
theorem ok_X12_isPlace : ∀ e ∈ k_X12_isPlace, z_okb cX12_isPlace e = true := fun e h => List.all_eq_true.mp (by decide +kernel : k_X12_isPlace.all (z_okb cX12_isPlace) = true) e h
def k_X12_mod : List zI := [(0, 1, 0, .iload_n 1), (1, 2, 0, .aload_n 0), (2, 5, 0, .getfield 65), (5, 6, 0, .irem), (6, 7, 0, .istore_n 2), (7, 8, 0, .iload_n 2), (8, 11, 20, .ifCond .ge 12), (11, 12, 0, .iload_n 2), (12, 13, 0, .aload_n 0), (13, 16, 0, .getfield 65), (16, 17, 0, .iadd), (17, 20, 21, .goto 4), (20, 21, 0, .iload_n 2), (21, 22, 0, .ireturn)]
theorem ok_X12_mod : ∀ e ∈ k_X12_mod, z_okb cX12_mod e = true := fun e h => List.all_eq_true.mp (by decide +kernel : k_X12_mod.all (z_okb cX12_mod) = true) e h
def k_X12_clears : List zI := [(0, 1, 0, .iconst 0), (1, 2, 0, .istore_n 2), (2, 3, 0, .iload_n 2), (3, 5, 27, .bipush 27), (5, 8, 26, .if_icmp .ge 21), (8, 9, 0, .aload_n 0), (9, 12, 0, .getfield 13), (12, 14, 27, .bipush 27), (14, 15, 0, .iload_n 1), (15, 16, 0, .imul), (16, 17, 0, .iload_n 2), (17, 18, 0, .iadd), (18, 19, 0, .iconst 0), (19, 20, 0, .iastore), (20, 23, 1, .iinc 2 1), (23, 26, 2, .goto (-21)), (26, 27, 0, .return_)]
theorem ok_X12_clears : ∀ e ∈ k_X12_clears, z_okb cX12_clears e = true := fun e h => List.all_eq_true.mp (by decide +kernel : k_X12_clears.all (z_okb cX12_clears) = true) e h
def k_X12_laysPlain : List zI := [(0, 1, 0, .aload_n 0), (1, 2, 0, .iconst 0), (2, 5, 0, .putfield 91), (5, 6, 0, .iconst 0), (6, 7, 0, .istore_n 1), (7, 8, 0, .iload_n 1), (8, 9, 0, .aload_n 0), (9, 12, 0, .getfield 7), (12, 13, 0, .iconst 0), (13, 14, 0, .iaload), (14, 17, 66, .if_icmp .ge 52), (17, 18, 0, .iconst 0), (18, 19, 0, .istore_n 2), (19, 20, 0, .iload_n 2), (20, 21, 0, .aload_n 0), (21, 24, 0, .getfield 7), (24, 25, 1, .iconst 1), (25, 26, 0, .iaload), (26, 29, 60, .if_icmp .ge 34), (29, 30, 0, .iconst 0), (30, 31, 0, .istore_n 3), (31, 32, 0, .iload_n 3), (32, 33, 0, .aload_n 0), (33, 36, 0, .getfield 7), (36, 37, 2, .iconst 2), (37, 38, 0, .iaload), (38, 41, 54, .if_icmp .ge 16), (41, 42, 0, .aload_n 0), (42, 43, 0, .iload_n 1), (43, 44, 0, .iload_n 2), (44, 45, 0, .iload_n 3), (45, 48, 0, .invokevirtual 99), (48, 51, 1, .iinc 3 1), (51, 54, 31, .goto (-20)), (54, 57, 1, .iinc 2 1), (57, 60, 19, .goto (-38)), (60, 63, 1, .iinc 1 1), (63, 66, 7, .goto (-56)), (66, 67, 0, .return_)]
theorem ok_X12_laysPlain : ∀ e ∈ k_X12_laysPlain, z_okb cX12_laysPlain e = true := fun e h => List.all_eq_true.mp (by decide +kernel : k_X12_laysPlain.all (z_okb cX12_laysPlain) = true) e h
def k_X12_addsPlain_0 : List zI := [(0, 1, 0, .aload_n 0), (1, 2, 0, .aload_n 0), (2, 5, 0, .getfield 91), (5, 8, 0, .invokevirtual 103), (8, 9, 0, .aload_n 0), (9, 12, 0, .getfield 13), (12, 13, 0, .aload_n 0), (13, 16, 0, .getfield 91), (16, 17, 0, .iconst 0), (17, 18, 0, .iload_n 1), (18, 19, 0, .aload_n 0), (19, 22, 0, .getfield 7), (22, 23, 1, .iconst 1), (23, 24, 0, .iaload), (24, 25, 0, .imul), (25, 26, 0, .iload_n 2), (26, 27, 0, .iadd), (27, 30, 0, .invokestatic 107), (30, 31, 1, .iconst 1), (31, 32, 0, .iastore), (32, 33, 0, .aload_n 0), (33, 36, 0, .getfield 13), (36, 37, 0, .aload_n 0), (37, 40, 0, .getfield 91), (40, 41, 1, .iconst 1), (41, 42, 0, .iload_n 2), (42, 43, 0, .aload_n 0), (43, 46, 0, .getfield 7), (46, 47, 2, .iconst 2), (47, 48, 0, .iaload), (48, 49, 0, .imul), (49, 50, 0, .iload_n 3), (50, 51, 0, .iadd), (51, 54, 0, .invokestatic 107), (54, 55, 1, .iconst 1), (55, 56, 0, .iastore), (56, 57, 0, .aload_n 0), (57, 60, 0, .getfield 13), (60, 61, 0, .aload_n 0), (61, 64, 0, .getfield 91)]
theorem ok_X12_addsPlain_0 : ∀ e ∈ k_X12_addsPlain_0, z_okb cX12_addsPlain e = true := fun e h => List.all_eq_true.mp (by decide +kernel : k_X12_addsPlain_0.all (z_okb cX12_addsPlain) = true) e h
def k_X12_addsPlain_1 : List zI := [(64, 65, 2, .iconst 2), (65, 66, 0, .iload_n 3), (66, 67, 0, .aload_n 0), (67, 70, 0, .getfield 7), (70, 71, 0, .iconst 0), (71, 72, 0, .iaload), (72, 73, 0, .imul), (73, 74, 0, .iload_n 1), (74, 75, 0, .iadd), (75, 78, 0, .invokestatic 107), (78, 79, 1, .iconst 1), (79, 80, 0, .iastore), (80, 81, 0, .aload_n 0), (81, 82, 0, .dup), (82, 85, 0, .getfield 91), (85, 86, 1, .iconst 1), (86, 87, 0, .iadd), (87, 90, 0, .putfield 91), (90, 91, 0, .return_)]
theorem ok_X12_addsPlain_1 : ∀ e ∈ k_X12_addsPlain_1, z_okb cX12_addsPlain e = true := fun e h => List.all_eq_true.mp (by decide +kernel : k_X12_addsPlain_1.all (z_okb cX12_addsPlain) = true) e h
def k_X12_addsPlain : List zI := k_X12_addsPlain_0 ++ (k_X12_addsPlain_1)
theorem ok_X12_addsPlain : ∀ e ∈ k_X12_addsPlain, z_okb cX12_addsPlain e = true := List.forall_mem_append.mpr ⟨ok_X12_addsPlain_0, ok_X12_addsPlain_1⟩
def k_X12_format_0 : List zI := [(0, 1, 0, .aload_n 0), (1, 2, 0, .iconst 0), (2, 5, 0, .putfield 71), (5, 6, 0, .iload_n 1), (6, 7, 0, .i2l), (7, 8, 1, .lconst 1), (8, 11, 0, .ldc2_w 111), (11, 14, 0, .invokestatic 80), (14, 17, 56, .ifCond .eq 42), (17, 18, 0, .iload_n 2), (18, 19, 0, .i2l), (19, 20, 1, .lconst 1), (20, 23, 0, .ldc2_w 111), (23, 26, 0, .invokestatic 80), (26, 29, 56, .ifCond .eq 30), (29, 30, 0, .iload_n 3), (30, 31, 0, .i2l), (31, 32, 1, .lconst 1), (32, 35, 0, .ldc2_w 111), (35, 38, 0, .invokestatic 80), (38, 41, 56, .ifCond .eq 18), (41, 43, 0, .iload 4), (43, 44, 0, .i2l), (44, 47, 0, .ldc2_w 94), (47, 50, 0, .ldc2_w 111), (50, 53, 0, .invokestatic 80), (53, 56, 58, .ifCond .ne 5), (56, 57, 1, .iconst (-1)), (57, 58, 0, .ireturn), (58, 59, 0, .aload_n 0), (59, 62, 0, .getfield 7), (62, 63, 0, .iconst 0), (63, 64, 0, .iload_n 1), (64, 65, 0, .iastore), (65, 66, 0, .aload_n 0), (66, 69, 0, .getfield 7), (69, 70, 1, .iconst 1), (70, 71, 0, .iload_n 2), (71, 72, 0, .iastore), (72, 73, 0, .aload_n 0)]
theorem ok_X12_format_0 : ∀ e ∈ k_X12_format_0, z_okb cX12_format e = true := fun e h => List.all_eq_true.mp (by decide +kernel : k_X12_format_0.all (z_okb cX12_format) = true) e h
def k_X12_format_1 : List zI := [(73, 76, 0, .getfield 7), (76, 77, 2, .iconst 2), (77, 78, 0, .iload_n 3), (78, 79, 0, .iastore), (79, 80, 0, .aload_n 0), (80, 82, 0, .iload 4), (82, 85, 0, .putfield 65), (85, 86, 0, .aload_n 0), (86, 87, 1, .iconst (-1)), (87, 90, 0, .putfield 16), (90, 91, 0, .aload_n 0), (91, 94, 0, .invokevirtual 68), (94, 95, 0, .aload_n 0), (95, 98, 0, .getfield 91), (98, 99, 0, .ireturn)]
theorem ok_X12_format_1 : ∀ e ∈ k_X12_format_1, z_okb cX12_format e = true := fun e h => List.all_eq_true.mp (by decide +kernel : k_X12_format_1.all (z_okb cX12_format) = true) e h
def k_X12_format : List zI := k_X12_format_0 ++ (k_X12_format_1)
theorem ok_X12_format : ∀ e ∈ k_X12_format, z_okb cX12_format e = true := List.forall_mem_append.mpr ⟨ok_X12_format_0, ok_X12_format_1⟩
def k_X12_begin : List zI := [(0, 1, 0, .aload_n 0), (1, 2, 0, .aload_n 0), (2, 5, 0, .getfield 77), (5, 8, 0, .putfield 113), (8, 9, 0, .aload_n 0), (9, 10, 0, .iconst 0), (10, 13, 0, .putfield 77), (13, 14, 0, .aload_n 0), (14, 15, 0, .iconst 0), (15, 18, 0, .putfield 116), (18, 19, 0, .aload_n 0), (19, 20, 1, .iconst (-1)), (20, 23, 0, .putfield 119), (23, 24, 0, .return_)]
theorem ok_X12_begin : ∀ e ∈ k_X12_begin, z_okb cX12_begin e = true := fun e h => List.all_eq_true.mp (by decide +kernel : k_X12_begin.all (z_okb cX12_begin) = true) e h
def k_X12_sees : List zI := [(0, 1, 0, .aload_n 0), (1, 4, 0, .getfield 116), (4, 5, 0, .aload_n 0), (5, 8, 0, .getfield 113), (8, 11, 27, .if_icmp .ge 19), (11, 12, 0, .aload_n 0), (12, 15, 0, .getfield 26), (15, 16, 0, .aload_n 0), (16, 19, 0, .getfield 116), (19, 20, 0, .baload), (20, 23, 255, .sipush 255), (23, 24, 0, .iand), (24, 27, 28, .goto 4), (27, 28, 1, .iconst (-1)), (28, 29, 0, .ireturn)]
theorem ok_X12_sees : ∀ e ∈ k_X12_sees, z_okb cX12_sees e = true := fun e h => List.all_eq_true.mp (by decide +kernel : k_X12_sees.all (z_okb cX12_sees) = true) e h
def k_X12_fault : List zI := [(0, 1, 0, .aload_n 0), (1, 4, 0, .getfield 119), (4, 5, 1, .iconst (-1)), (5, 8, 13, .if_icmp .ne 8), (8, 9, 0, .aload_n 0), (9, 10, 0, .iload_n 1), (10, 13, 0, .putfield 119), (13, 14, 0, .return_)]
theorem ok_X12_fault : ∀ e ∈ k_X12_fault, z_okb cX12_fault e = true := fun e h => List.all_eq_true.mp (by decide +kernel : k_X12_fault.all (z_okb cX12_fault) = true) e h
def k_X12_passes : List zI := [(0, 1, 0, .aload_n 0), (1, 4, 0, .getfield 119), (4, 5, 1, .iconst (-1)), (5, 8, 16, .if_icmp .ne 11), (8, 9, 0, .aload_n 0), (9, 12, 0, .invokevirtual 122), (12, 13, 0, .iload_n 1), (13, 16, 18, .if_icmp .eq 5), (16, 17, 0, .iconst 0), (17, 18, 0, .ireturn), (18, 19, 0, .aload_n 0), (19, 20, 0, .dup), (20, 23, 0, .getfield 116), (23, 24, 1, .iconst 1), (24, 25, 0, .iadd), (25, 28, 0, .putfield 116), (28, 29, 1, .iconst 1), (29, 30, 0, .ireturn)]
theorem ok_X12_passes : ∀ e ∈ k_X12_passes, z_okb cX12_passes e = true := fun e h => List.all_eq_true.mp (by decide +kernel : k_X12_passes.all (z_okb cX12_passes) = true) e h
def k_X12_expect : List zI := [(0, 1, 0, .aload_n 0), (1, 2, 0, .iload_n 1), (2, 5, 0, .invokevirtual 126), (5, 8, 16, .ifCond .ne 11), (8, 9, 0, .aload_n 0), (9, 10, 0, .aload_n 0), (10, 13, 0, .getfield 116), (13, 16, 0, .invokevirtual 130), (16, 17, 0, .return_)]
theorem ok_X12_expect : ∀ e ∈ k_X12_expect, z_okb cX12_expect e = true := fun e h => List.all_eq_true.mp (by decide +kernel : k_X12_expect.all (z_okb cX12_expect) = true) e h
def k_X12_ends : List zI := [(0, 1, 0, .aload_n 0), (1, 4, 0, .getfield 116), (4, 5, 0, .aload_n 0), (5, 8, 0, .getfield 113), (8, 11, 19, .if_icmp .ge 11), (11, 12, 0, .aload_n 0), (12, 13, 0, .aload_n 0), (13, 16, 0, .getfield 116), (16, 19, 0, .invokevirtual 130), (19, 20, 0, .return_)]
theorem ok_X12_ends : ∀ e ∈ k_X12_ends, z_okb cX12_ends e = true := fun e h => List.all_eq_true.mp (by decide +kernel : k_X12_ends.all (z_okb cX12_ends) = true) e h
def k_X12_told : List zI := [(0, 2, 21, .bipush (-21)), (2, 3, 0, .aload_n 0), (3, 6, 0, .getfield 119), (6, 7, 0, .isub), (7, 8, 0, .ireturn)]
theorem ok_X12_told : ∀ e ∈ k_X12_told, z_okb cX12_told e = true := fun e h => List.all_eq_true.mp (by decide +kernel : k_X12_told.all (z_okb cX12_told) = true) e h
def k_X12_readSide : List zI := [(0, 1, 0, .aload_n 0), (1, 4, 0, .invokevirtual 122), (4, 6, 48, .bipush 48), (6, 7, 0, .isub), (7, 8, 0, .istore_n 2), (8, 9, 0, .iload_n 2), (9, 10, 0, .i2l), (10, 11, 1, .lconst 1), (11, 12, 0, .iload_n 1), (12, 13, 0, .i2l), (13, 16, 0, .invokestatic 80), (16, 19, 27, .ifCond .ne 11), (19, 20, 0, .aload_n 0), (20, 21, 0, .aload_n 0), (21, 24, 0, .getfield 116), (24, 27, 0, .invokevirtual 130), (27, 28, 0, .aload_n 0), (28, 31, 0, .getfield 119), (31, 32, 1, .iconst (-1)), (32, 35, 45, .if_icmp .ne 13), (35, 36, 0, .aload_n 0), (36, 37, 0, .dup), (37, 40, 0, .getfield 116), (40, 41, 1, .iconst 1), (41, 42, 0, .iadd), (42, 45, 0, .putfield 116), (45, 46, 0, .iload_n 2), (46, 47, 0, .ireturn)]
theorem ok_X12_readSide : ∀ e ∈ k_X12_readSide, z_okb cX12_readSide e = true := fun e h => List.all_eq_true.mp (by decide +kernel : k_X12_readSide.all (z_okb cX12_readSide) = true) e h
def k_X12_readTerm_0 : List zI := [(0, 1, 0, .aload_n 0), (1, 3, 97, .bipush 97), (3, 4, 0, .iload_n 2), (4, 5, 0, .iadd), (5, 6, 0, .i2c), (6, 9, 0, .invokevirtual 133), (9, 10, 0, .aload_n 0), (10, 11, 0, .aload_n 0), (11, 12, 0, .iload_n 2), (12, 15, 0, .invokevirtual 84), (15, 18, 0, .invokevirtual 137), (18, 20, 0, .istore 4), (20, 21, 0, .aload_n 0), (21, 22, 0, .aload_n 0), (22, 23, 0, .iload_n 2), (23, 26, 0, .invokevirtual 88), (26, 29, 0, .invokevirtual 137), (29, 31, 0, .istore 5), (31, 32, 0, .aload_n 0), (32, 35, 0, .getfield 119), (35, 36, 1, .iconst (-1)), (36, 39, 40, .if_icmp .eq 4), (39, 40, 0, .return_), (40, 41, 0, .iload_n 1), (41, 43, 0, .iload 4), (43, 44, 1, .iconst 1), (44, 45, 0, .isub), (45, 46, 0, .aload_n 0), (46, 47, 0, .iload_n 2), (47, 50, 0, .invokevirtual 88), (50, 51, 0, .imul), (51, 52, 0, .iadd), (52, 54, 0, .iload 5), (54, 55, 0, .iadd), (55, 56, 1, .iconst 1), (56, 57, 0, .isub), (57, 59, 0, .istore 6), (59, 60, 0, .aload_n 0), (60, 63, 0, .getfield 34), (63, 65, 0, .iload 6)]
theorem ok_X12_readTerm_0 : ∀ e ∈ k_X12_readTerm_0, z_okb cX12_readTerm e = true := fun e h => List.all_eq_true.mp (by decide +kernel : k_X12_readTerm_0.all (z_okb cX12_readTerm) = true) e h
def k_X12_readTerm_1 : List zI := [(65, 66, 0, .iaload), (66, 69, 79, .ifCond .eq 13), (69, 70, 0, .aload_n 0), (70, 71, 0, .aload_n 0), (71, 74, 0, .getfield 116), (74, 75, 1, .iconst 1), (75, 76, 0, .isub), (76, 79, 0, .invokevirtual 130), (79, 80, 0, .aload_n 0), (80, 83, 0, .getfield 34), (83, 85, 0, .iload 6), (85, 86, 0, .iload_n 3), (86, 89, 98, .ifCond .eq 12), (89, 90, 0, .aload_n 0), (90, 93, 0, .getfield 65), (93, 94, 1, .iconst 1), (94, 95, 0, .isub), (95, 98, 99, .goto 4), (98, 99, 1, .iconst 1), (99, 100, 0, .iastore), (100, 101, 0, .return_)]
theorem ok_X12_readTerm_1 : ∀ e ∈ k_X12_readTerm_1, z_okb cX12_readTerm e = true := fun e h => List.all_eq_true.mp (by decide +kernel : k_X12_readTerm_1.all (z_okb cX12_readTerm) = true) e h
def k_X12_readTerm : List zI := k_X12_readTerm_0 ++ (k_X12_readTerm_1)
theorem ok_X12_readTerm : ∀ e ∈ k_X12_readTerm, z_okb cX12_readTerm e = true := List.forall_mem_append.mpr ⟨ok_X12_readTerm_0, ok_X12_readTerm_1⟩
def k_X12_readForm : List zI := [(0, 1, 0, .iconst 0), (1, 2, 0, .istore_n 3), (2, 3, 0, .iload_n 3), (3, 5, 9, .bipush 9), (5, 8, 23, .if_icmp .ge 18), (8, 9, 0, .aload_n 0), (9, 12, 0, .getfield 34), (12, 13, 0, .iload_n 1), (13, 14, 0, .iload_n 3), (14, 15, 0, .iadd), (15, 16, 0, .iconst 0), (16, 17, 0, .iastore), (17, 20, 1, .iinc 3 1), (20, 23, 2, .goto (-18)), (23, 24, 0, .aload_n 0), (24, 26, 45, .bipush 45), (26, 29, 0, .invokevirtual 126), (29, 30, 0, .istore_n 3), (30, 31, 1, .iconst 1), (31, 33, 0, .istore 4), (33, 35, 0, .iload 4), (35, 38, 83, .ifCond .eq 48), (38, 39, 0, .aload_n 0), (39, 42, 0, .getfield 119), (42, 43, 1, .iconst (-1)), (43, 46, 83, .if_icmp .ne 40), (46, 47, 0, .aload_n 0), (47, 48, 0, .iload_n 1), (48, 49, 0, .iload_n 2), (49, 50, 0, .iload_n 3), (50, 53, 0, .invokevirtual 140), (53, 54, 0, .aload_n 0), (54, 56, 45, .bipush 45), (56, 59, 0, .invokevirtual 126), (59, 60, 0, .istore_n 3), (60, 61, 0, .iload_n 3), (61, 64, 73, .ifCond .ne 12), (64, 65, 0, .aload_n 0), (65, 67, 43, .bipush 43), (67, 70, 0, .invokevirtual 126), (70, 73, 77, .ifCond .eq 7), (73, 74, 1, .iconst 1), (74, 77, 78, .goto 4), (77, 78, 0, .iconst 0), (78, 80, 0, .istore 4), (80, 83, 33, .goto (-47)), (83, 84, 0, .return_)]
theorem ok_X12_readForm : ∀ e ∈ k_X12_readForm, z_okb cX12_readForm e = true := fun e h => List.all_eq_true.mp (by decide +kernel : k_X12_readForm.all (z_okb cX12_readForm) = true) e h
def k_X12_readProduct : List zI := [(0, 1, 0, .iconst 0), (1, 2, 0, .istore_n 1), (2, 3, 0, .iload_n 1), (3, 4, 3, .iconst 3), (4, 7, 48, .if_icmp .ge 44), (7, 8, 0, .iload_n 1), (8, 11, 17, .ifCond .le 9), (11, 12, 0, .aload_n 0), (12, 14, 42, .bipush 42), (14, 17, 0, .invokevirtual 133), (17, 18, 0, .aload_n 0), (18, 21, 0, .getfield 119), (21, 22, 1, .iconst (-1)), (22, 25, 42, .if_icmp .ne 20), (25, 26, 0, .aload_n 0), (26, 28, 27, .bipush 27), (28, 29, 0, .aload_n 0), (29, 32, 0, .getfield 144), (32, 33, 0, .imul), (33, 35, 9, .bipush 9), (35, 36, 0, .iload_n 1), (36, 37, 0, .imul), (37, 38, 0, .iadd), (38, 39, 0, .iload_n 1), (39, 42, 0, .invokevirtual 147), (42, 45, 1, .iinc 1 1), (45, 48, 2, .goto (-43)), (48, 49, 0, .aload_n 0), (49, 50, 0, .dup), (50, 53, 0, .getfield 144), (53, 54, 1, .iconst 1), (54, 55, 0, .iadd), (55, 58, 0, .putfield 144), (58, 59, 0, .return_)]
theorem ok_X12_readProduct : ∀ e ∈ k_X12_readProduct, z_okb cX12_readProduct e = true := fun e h => List.all_eq_true.mp (by decide +kernel : k_X12_readProduct.all (z_okb cX12_readProduct) = true) e h
def k_X12_scheme_0 : List zI := [(0, 1, 0, .aload_n 0), (1, 2, 0, .iconst 0), (2, 5, 0, .putfield 71), (5, 6, 0, .aload_n 0), (6, 9, 0, .invokevirtual 151), (9, 10, 0, .aload_n 0), (10, 11, 0, .iconst 0), (11, 14, 0, .putfield 144), (14, 15, 0, .aload_n 0), (15, 18, 0, .invokevirtual 154), (18, 19, 0, .aload_n 0), (19, 22, 0, .getfield 119), (22, 23, 1, .iconst (-1)), (23, 26, 51, .if_icmp .ne 28), (26, 27, 0, .aload_n 0), (27, 30, 0, .getfield 144), (30, 32, 40, .bipush 40), (32, 35, 51, .if_icmp .ge 19), (35, 36, 0, .aload_n 0), (36, 38, 59, .bipush 59), (38, 41, 0, .invokevirtual 126), (41, 44, 51, .ifCond .eq 10), (44, 45, 0, .aload_n 0), (45, 48, 0, .invokevirtual 154), (48, 51, 18, .goto (-30)), (51, 52, 0, .aload_n 0), (52, 55, 0, .getfield 119), (55, 56, 1, .iconst (-1)), (56, 59, 63, .if_icmp .ne 7), (59, 60, 0, .aload_n 0), (60, 63, 0, .invokevirtual 157), (63, 64, 0, .aload_n 0), (64, 67, 0, .getfield 119), (67, 68, 1, .iconst (-1)), (68, 71, 76, .if_icmp .eq 8), (71, 72, 0, .aload_n 0), (72, 75, 0, .invokevirtual 160), (75, 76, 0, .ireturn), (76, 77, 0, .aload_n 0), (77, 78, 0, .aload_n 0)]
theorem ok_X12_scheme_0 : ∀ e ∈ k_X12_scheme_0, z_okb cX12_scheme e = true := fun e h => List.all_eq_true.mp (by decide +kernel : k_X12_scheme_0.all (z_okb cX12_scheme) = true) e h
def k_X12_scheme_1 : List zI := [(78, 81, 0, .getfield 144), (81, 84, 0, .putfield 91), (84, 85, 0, .iconst 0), (85, 86, 0, .istore_n 1), (86, 87, 0, .iload_n 1), (87, 89, 27, .bipush 27), (89, 90, 0, .aload_n 0), (90, 93, 0, .getfield 91), (93, 94, 0, .imul), (94, 97, 115, .if_icmp .ge 21), (97, 98, 0, .aload_n 0), (98, 101, 0, .getfield 13), (101, 102, 0, .iload_n 1), (102, 103, 0, .aload_n 0), (103, 106, 0, .getfield 34), (106, 107, 0, .iload_n 1), (107, 108, 0, .iaload), (108, 109, 0, .iastore), (109, 112, 1, .iinc 1 1), (112, 115, 86, .goto (-26)), (115, 116, 0, .aload_n 0), (116, 119, 0, .getfield 91), (119, 120, 0, .ireturn)]
theorem ok_X12_scheme_1 : ∀ e ∈ k_X12_scheme_1, z_okb cX12_scheme e = true := fun e h => List.all_eq_true.mp (by decide +kernel : k_X12_scheme_1.all (z_okb cX12_scheme) = true) e h
def k_X12_scheme : List zI := k_X12_scheme_0 ++ (k_X12_scheme_1)
theorem ok_X12_scheme : ∀ e ∈ k_X12_scheme, z_okb cX12_scheme e = true := List.forall_mem_append.mpr ⟨ok_X12_scheme_0, ok_X12_scheme_1⟩
def k_X12_adds_0 : List zI := [(0, 1, 0, .aload_n 0), (1, 2, 0, .iconst 0), (2, 5, 0, .putfield 71), (5, 6, 0, .aload_n 0), (6, 9, 0, .invokevirtual 151), (9, 10, 0, .aload_n 0), (10, 11, 0, .iconst 0), (11, 14, 0, .putfield 144), (14, 15, 0, .aload_n 0), (15, 18, 0, .invokevirtual 154), (18, 19, 0, .aload_n 0), (19, 22, 0, .getfield 119), (22, 23, 1, .iconst (-1)), (23, 26, 30, .if_icmp .ne 7), (26, 27, 0, .aload_n 0), (27, 30, 0, .invokevirtual 157), (30, 31, 0, .aload_n 0), (31, 34, 0, .getfield 119), (34, 35, 1, .iconst (-1)), (35, 38, 43, .if_icmp .eq 8), (38, 39, 0, .aload_n 0), (39, 42, 0, .invokevirtual 160), (42, 43, 0, .ireturn), (43, 44, 0, .aload_n 0), (44, 47, 0, .getfield 91), (47, 49, 40, .bipush 40), (49, 52, 55, .if_icmp .ne 6), (52, 54, 2, .bipush (-2)), (54, 55, 0, .ireturn), (55, 56, 0, .iconst 0), (56, 57, 0, .istore_n 1), (57, 58, 0, .iload_n 1), (58, 60, 27, .bipush 27), (60, 63, 89, .if_icmp .ge 29), (63, 64, 0, .aload_n 0), (64, 67, 0, .getfield 13), (67, 69, 27, .bipush 27), (69, 70, 0, .aload_n 0), (70, 73, 0, .getfield 91), (73, 74, 0, .imul)]
theorem ok_X12_adds_0 : ∀ e ∈ k_X12_adds_0, z_okb cX12_adds e = true := fun e h => List.all_eq_true.mp (by decide +kernel : k_X12_adds_0.all (z_okb cX12_adds) = true) e h
def k_X12_adds_1 : List zI := [(74, 75, 0, .iload_n 1), (75, 76, 0, .iadd), (76, 77, 0, .aload_n 0), (77, 80, 0, .getfield 34), (80, 81, 0, .iload_n 1), (81, 82, 0, .iaload), (82, 83, 0, .iastore), (83, 86, 1, .iinc 1 1), (86, 89, 57, .goto (-29)), (89, 90, 0, .aload_n 0), (90, 91, 0, .dup), (91, 94, 0, .getfield 91), (94, 95, 1, .iconst 1), (95, 96, 0, .iadd), (96, 99, 0, .putfield 91), (99, 100, 0, .aload_n 0), (100, 103, 0, .getfield 91), (103, 104, 0, .ireturn)]
theorem ok_X12_adds_1 : ∀ e ∈ k_X12_adds_1, z_okb cX12_adds e = true := fun e h => List.all_eq_true.mp (by decide +kernel : k_X12_adds_1.all (z_okb cX12_adds) = true) e h
def k_X12_adds : List zI := k_X12_adds_0 ++ (k_X12_adds_1)
theorem ok_X12_adds : ∀ e ∈ k_X12_adds, z_okb cX12_adds e = true := List.forall_mem_append.mpr ⟨ok_X12_adds_0, ok_X12_adds_1⟩
def k_X12_goes : List zI := [(0, 1, 0, .aload_n 0), (1, 2, 0, .dup), (2, 5, 0, .getfield 91), (5, 6, 1, .iconst 1), (6, 7, 0, .isub), (7, 10, 0, .putfield 91), (10, 12, 27, .bipush 27), (12, 13, 0, .iload_n 1), (13, 14, 0, .imul), (14, 15, 0, .istore_n 2), (15, 16, 0, .iload_n 2), (16, 18, 27, .bipush 27), (18, 19, 0, .aload_n 0), (19, 22, 0, .getfield 91), (22, 23, 0, .imul), (23, 26, 47, .if_icmp .ge 24), (26, 27, 0, .aload_n 0), (27, 30, 0, .getfield 13), (30, 31, 0, .iload_n 2), (31, 32, 0, .aload_n 0), (32, 35, 0, .getfield 13), (35, 36, 0, .iload_n 2), (36, 38, 27, .bipush 27), (38, 39, 0, .iadd), (39, 40, 0, .iaload), (40, 41, 0, .iastore), (41, 44, 1, .iinc 2 1), (44, 47, 15, .goto (-29)), (47, 48, 0, .return_)]
theorem ok_X12_goes : ∀ e ∈ k_X12_goes, z_okb cX12_goes e = true := fun e h => List.all_eq_true.mp (by decide +kernel : k_X12_goes.all (z_okb cX12_goes) = true) e h
def k_X12_drops : List zI := [(0, 1, 0, .aload_n 0), (1, 2, 0, .iconst 0), (2, 5, 0, .putfield 71), (5, 6, 0, .aload_n 0), (6, 7, 0, .iload_n 1), (7, 10, 0, .invokevirtual 163), (10, 13, 15, .ifCond .ne 5), (13, 14, 1, .iconst (-1)), (14, 15, 0, .ireturn), (15, 16, 0, .aload_n 0), (16, 17, 0, .iload_n 1), (17, 20, 0, .invokevirtual 167), (20, 21, 0, .aload_n 0), (21, 24, 0, .getfield 91), (24, 25, 0, .ireturn)]
theorem ok_X12_drops : ∀ e ∈ k_X12_drops, z_okb cX12_drops e = true := fun e h => List.all_eq_true.mp (by decide +kernel : k_X12_drops.all (z_okb cX12_drops) = true) e h
def k_X12_form : List zI := [(0, 1, 0, .aload_n 0), (1, 2, 0, .iconst 0), (2, 5, 0, .putfield 71), (5, 6, 0, .aload_n 0), (6, 7, 0, .iload_n 1), (7, 10, 0, .invokevirtual 163), (10, 13, 20, .ifCond .eq 10), (13, 14, 0, .iload_n 2), (14, 17, 0, .invokestatic 170), (17, 20, 22, .ifCond .ne 5), (20, 21, 1, .iconst (-1)), (21, 22, 0, .ireturn), (22, 23, 0, .iconst 0), (23, 24, 0, .istore_n 3), (24, 26, 8, .bipush 8), (26, 28, 0, .istore 4), (28, 30, 0, .iload 4), (30, 33, 59, .ifCond .lt 29), (33, 34, 0, .iload_n 3), (34, 35, 0, .aload_n 0), (35, 38, 0, .getfield 65), (38, 39, 0, .imul), (39, 40, 0, .aload_n 0), (40, 43, 0, .getfield 13), (43, 44, 0, .iload_n 1), (44, 45, 0, .iload_n 2), (45, 47, 0, .iload 4), (47, 50, 0, .invokestatic 107), (50, 51, 0, .iaload), (51, 52, 0, .iadd), (52, 53, 0, .istore_n 3), (53, 56, 1, .iinc 4 (-1)), (56, 59, 28, .goto (-28)), (59, 60, 0, .iload_n 3), (60, 61, 0, .ireturn)]
theorem ok_X12_form : ∀ e ∈ k_X12_form, z_okb cX12_form e = true := fun e h => List.all_eq_true.mp (by decide +kernel : k_X12_form.all (z_okb cX12_form) = true) e h
def k_X12_number : List zI := [(0, 1, 0, .aload_n 0), (1, 2, 0, .iconst 0), (2, 5, 0, .putfield 71), (5, 6, 0, .aload_n 0), (6, 7, 0, .iload_n 1), (7, 10, 0, .invokevirtual 163), (10, 13, 43, .ifCond .eq 33), (13, 14, 0, .iload_n 2), (14, 17, 0, .invokestatic 170), (17, 20, 43, .ifCond .eq 26), (20, 21, 0, .aload_n 0), (21, 22, 0, .iload_n 2), (22, 23, 0, .iload_n 3), (23, 26, 0, .invokevirtual 173), (26, 29, 43, .ifCond .eq 17), (29, 30, 0, .aload_n 0), (30, 33, 0, .getfield 13), (33, 34, 0, .iload_n 1), (34, 35, 0, .iload_n 2), (35, 36, 0, .iload_n 3), (36, 39, 0, .invokestatic 107), (39, 40, 0, .iaload), (40, 43, 44, .goto 4), (43, 44, 1, .iconst (-1)), (44, 45, 0, .ireturn)]
theorem ok_X12_number : ∀ e ∈ k_X12_number, z_okb cX12_number e = true := fun e h => List.all_eq_true.mp (by decide +kernel : k_X12_number.all (z_okb cX12_number) = true) e h
def k_X12_wholeGiven : List zI := [(0, 1, 0, .iconst 0), (1, 3, 0, .istore 4), (3, 4, 0, .iconst 0), (4, 6, 0, .istore 5), (6, 8, 0, .iload 5), (8, 9, 0, .aload_n 0), (9, 12, 0, .getfield 91), (12, 15, 64, .if_icmp .ge 52), (15, 17, 0, .iload 4), (17, 18, 0, .aload_n 0), (18, 21, 0, .getfield 13), (21, 23, 0, .iload 5), (23, 24, 0, .iconst 0), (24, 25, 0, .iload_n 1), (25, 28, 0, .invokestatic 107), (28, 29, 0, .iaload), (29, 30, 0, .aload_n 0), (30, 33, 0, .getfield 13), (33, 35, 0, .iload 5), (35, 36, 1, .iconst 1), (36, 37, 0, .iload_n 2), (37, 40, 0, .invokestatic 107), (40, 41, 0, .iaload), (41, 42, 0, .imul), (42, 43, 0, .aload_n 0), (43, 46, 0, .getfield 13), (46, 48, 0, .iload 5), (48, 49, 2, .iconst 2), (49, 50, 0, .iload_n 3), (50, 53, 0, .invokestatic 107), (53, 54, 0, .iaload), (54, 55, 0, .imul), (55, 56, 0, .iadd), (56, 58, 0, .istore 4), (58, 61, 1, .iinc 5 1), (61, 64, 6, .goto (-55)), (64, 66, 0, .iload 4), (66, 67, 0, .ireturn)]
theorem ok_X12_wholeGiven : ∀ e ∈ k_X12_wholeGiven, z_okb cX12_wholeGiven e = true := fun e h => List.all_eq_true.mp (by decide +kernel : k_X12_wholeGiven.all (z_okb cX12_wholeGiven) = true) e h
def k_X12_needed : List zI := [(0, 1, 0, .iload_n 1), (1, 2, 0, .aload_n 0), (2, 3, 0, .iconst 0), (3, 6, 0, .invokevirtual 88), (6, 7, 0, .irem), (7, 8, 0, .iload_n 2), (8, 9, 0, .aload_n 0), (9, 10, 1, .iconst 1), (10, 13, 0, .invokevirtual 88), (13, 14, 0, .idiv), (14, 17, 55, .if_icmp .ne 41), (17, 18, 0, .iload_n 2), (18, 19, 0, .aload_n 0), (19, 20, 1, .iconst 1), (20, 23, 0, .invokevirtual 88), (23, 24, 0, .irem), (24, 25, 0, .iload_n 3), (25, 26, 0, .aload_n 0), (26, 27, 2, .iconst 2), (27, 30, 0, .invokevirtual 88), (30, 31, 0, .idiv), (31, 34, 55, .if_icmp .ne 24), (34, 35, 0, .iload_n 3), (35, 36, 0, .aload_n 0), (36, 37, 2, .iconst 2), (37, 40, 0, .invokevirtual 88), (40, 41, 0, .irem), (41, 42, 0, .iload_n 1), (42, 43, 0, .aload_n 0), (43, 44, 0, .iconst 0), (44, 47, 0, .invokevirtual 88), (47, 48, 0, .idiv), (48, 51, 55, .if_icmp .ne 7), (51, 52, 1, .iconst 1), (52, 55, 56, .goto 4), (55, 56, 0, .iconst 0), (56, 58, 0, .istore 4), (58, 60, 0, .iload 4), (60, 63, 67, .ifCond .eq 7), (63, 64, 1, .iconst 1), (64, 67, 68, .goto 4), (67, 68, 0, .iconst 0), (68, 69, 0, .ireturn)]
theorem ok_X12_needed : ∀ e ∈ k_X12_needed, z_okb cX12_needed e = true := fun e h => List.all_eq_true.mp (by decide +kernel : k_X12_needed.all (z_okb cX12_needed) = true) e h
def k_X12_looks_0 : List zI := [(0, 1, 0, .aload_n 0), (1, 2, 0, .iconst 0), (2, 5, 0, .putfield 177), (5, 6, 0, .aload_n 0), (6, 7, 1, .iconst (-1)), (7, 10, 0, .putfield 180), (10, 11, 0, .iconst 0), (11, 12, 0, .istore_n 1), (12, 13, 0, .iload_n 1), (13, 14, 0, .aload_n 0), (14, 15, 0, .iconst 0), (15, 18, 0, .invokevirtual 96), (18, 21, 118, .if_icmp .ge 100), (21, 22, 0, .iconst 0), (22, 23, 0, .istore_n 2), (23, 24, 0, .iload_n 2), (24, 25, 0, .aload_n 0), (25, 26, 1, .iconst 1), (26, 29, 0, .invokevirtual 96), (29, 32, 112, .if_icmp .ge 83), (32, 33, 0, .iconst 0), (33, 34, 0, .istore_n 3), (34, 35, 0, .iload_n 3), (35, 36, 0, .aload_n 0), (36, 37, 2, .iconst 2), (37, 40, 0, .invokevirtual 96), (40, 43, 106, .if_icmp .ge 66), (43, 44, 0, .aload_n 0), (44, 45, 0, .iload_n 1), (45, 46, 0, .iload_n 2), (46, 47, 0, .iload_n 3), (47, 50, 0, .invokevirtual 183), (50, 51, 0, .aload_n 0), (51, 54, 0, .getfield 65), (54, 55, 0, .irem), (55, 56, 0, .aload_n 0), (56, 57, 0, .iload_n 1), (57, 58, 0, .iload_n 2), (58, 59, 0, .iload_n 3), (59, 62, 0, .invokevirtual 186)]
theorem ok_X12_looks_0 : ∀ e ∈ k_X12_looks_0, z_okb cX12_looks e = true := fun e h => List.all_eq_true.mp (by decide +kernel : k_X12_looks_0.all (z_okb cX12_looks) = true) e h
def k_X12_looks_1 : List zI := [(62, 65, 68, .if_icmp .ne 6), (65, 68, 100, .goto 35), (68, 69, 0, .aload_n 0), (69, 72, 0, .getfield 177), (72, 75, 90, .ifCond .ne 18), (75, 76, 0, .aload_n 0), (76, 78, 81, .bipush 81), (78, 79, 0, .iload_n 1), (79, 80, 0, .imul), (80, 82, 9, .bipush 9), (82, 83, 0, .iload_n 2), (83, 84, 0, .imul), (84, 85, 0, .iadd), (85, 86, 0, .iload_n 3), (86, 87, 0, .iadd), (87, 90, 0, .putfield 180), (90, 91, 0, .aload_n 0), (91, 92, 0, .dup), (92, 95, 0, .getfield 177), (95, 96, 1, .iconst 1), (96, 97, 0, .iadd), (97, 100, 0, .putfield 177), (100, 103, 1, .iinc 3 1), (103, 106, 34, .goto (-69)), (106, 109, 1, .iinc 2 1), (109, 112, 23, .goto (-86)), (112, 115, 1, .iinc 1 1), (115, 118, 12, .goto (-103)), (118, 119, 0, .return_)]
theorem ok_X12_looks_1 : ∀ e ∈ k_X12_looks_1, z_okb cX12_looks e = true := fun e h => List.all_eq_true.mp (by decide +kernel : k_X12_looks_1.all (z_okb cX12_looks) = true) e h
def k_X12_looks : List zI := k_X12_looks_0 ++ (k_X12_looks_1)
theorem ok_X12_looks : ∀ e ∈ k_X12_looks, z_okb cX12_looks e = true := List.forall_mem_append.mpr ⟨ok_X12_looks_0, ok_X12_looks_1⟩
def k_X12_checks_0 : List zI := [(0, 1, 0, .aload_n 0), (1, 2, 0, .iconst 0), (2, 5, 0, .putfield 71), (5, 6, 0, .aload_n 0), (6, 9, 0, .invokevirtual 189), (9, 10, 0, .aload_n 0), (10, 11, 0, .iconst 0), (11, 14, 0, .putfield 74), (14, 15, 0, .aload_n 0), (15, 18, 0, .getfield 177), (18, 21, 95, .ifCond .le 77), (21, 22, 0, .aload_n 0), (22, 25, 0, .getfield 180), (25, 27, 81, .bipush 81), (27, 28, 0, .idiv), (28, 29, 0, .istore_n 1), (29, 30, 0, .aload_n 0), (30, 33, 0, .getfield 180), (33, 35, 9, .bipush 9), (35, 36, 0, .idiv), (36, 38, 9, .bipush 9), (38, 39, 0, .irem), (39, 40, 0, .istore_n 2), (40, 41, 0, .aload_n 0), (41, 44, 0, .getfield 180), (44, 46, 9, .bipush 9), (46, 47, 0, .irem), (47, 48, 0, .istore_n 3), (48, 49, 0, .aload_n 0), (49, 50, 0, .iload_n 1), (50, 51, 0, .i2l), (51, 54, 0, .invokevirtual 192), (54, 55, 0, .aload_n 0), (55, 56, 0, .iload_n 2), (56, 57, 0, .i2l), (57, 60, 0, .invokevirtual 192), (60, 61, 0, .aload_n 0), (61, 62, 0, .iload_n 3), (62, 63, 0, .i2l), (63, 66, 0, .invokevirtual 192)]
theorem ok_X12_checks_0 : ∀ e ∈ k_X12_checks_0, z_okb cX12_checks e = true := fun e h => List.all_eq_true.mp (by decide +kernel : k_X12_checks_0.all (z_okb cX12_checks) = true) e h
def k_X12_checks_1 : List zI := [(66, 67, 0, .aload_n 0), (67, 68, 0, .aload_n 0), (68, 69, 0, .iload_n 1), (69, 70, 0, .iload_n 2), (70, 71, 0, .iload_n 3), (71, 74, 0, .invokevirtual 183), (74, 75, 0, .aload_n 0), (75, 78, 0, .getfield 65), (78, 79, 0, .irem), (79, 80, 0, .i2l), (80, 83, 0, .invokevirtual 192), (83, 84, 0, .aload_n 0), (84, 85, 0, .aload_n 0), (85, 86, 0, .iload_n 1), (86, 87, 0, .iload_n 2), (87, 88, 0, .iload_n 3), (88, 91, 0, .invokevirtual 186), (91, 92, 0, .i2l), (92, 95, 0, .invokevirtual 192), (95, 96, 0, .aload_n 0), (96, 99, 0, .getfield 177), (99, 100, 0, .ireturn)]
theorem ok_X12_checks_1 : ∀ e ∈ k_X12_checks_1, z_okb cX12_checks e = true := fun e h => List.all_eq_true.mp (by decide +kernel : k_X12_checks_1.all (z_okb cX12_checks) = true) e h
def k_X12_checks : List zI := k_X12_checks_0 ++ (k_X12_checks_1)
theorem ok_X12_checks : ∀ e ∈ k_X12_checks, z_okb cX12_checks e = true := List.forall_mem_append.mpr ⟨ok_X12_checks_0, ok_X12_checks_1⟩
def k_X12_given_0 : List zI := [(0, 1, 0, .aload_n 0), (1, 2, 0, .iconst 0), (2, 5, 0, .putfield 71), (5, 6, 0, .aload_n 0), (6, 7, 0, .iconst 0), (7, 8, 0, .iload_n 1), (8, 11, 0, .invokevirtual 173), (11, 14, 32, .ifCond .eq 21), (14, 15, 0, .aload_n 0), (15, 16, 1, .iconst 1), (16, 17, 0, .iload_n 2), (17, 20, 0, .invokevirtual 173), (20, 23, 32, .ifCond .eq 12), (23, 24, 0, .aload_n 0), (24, 25, 2, .iconst 2), (25, 26, 0, .iload_n 3), (26, 29, 0, .invokevirtual 173), (29, 32, 34, .ifCond .ne 5), (32, 33, 1, .iconst (-1)), (33, 34, 0, .ireturn), (34, 35, 0, .iconst 0), (35, 37, 0, .istore 4), (37, 38, 0, .iconst 0), (38, 40, 0, .istore 5), (40, 42, 0, .iload 5), (42, 43, 0, .aload_n 0), (43, 46, 0, .getfield 91), (46, 49, 110, .if_icmp .ge 64), (49, 51, 0, .iload 4), (51, 52, 0, .aload_n 0), (52, 55, 0, .getfield 13), (55, 57, 0, .iload 5), (57, 58, 0, .iconst 0), (58, 59, 0, .iload_n 1), (59, 62, 0, .invokestatic 107), (62, 63, 0, .iaload), (63, 66, 100, .ifCond .eq 37), (66, 67, 0, .aload_n 0), (67, 70, 0, .getfield 13), (70, 72, 0, .iload 5)]
theorem ok_X12_given_0 : ∀ e ∈ k_X12_given_0, z_okb cX12_given e = true := fun e h => List.all_eq_true.mp (by decide +kernel : k_X12_given_0.all (z_okb cX12_given) = true) e h
def k_X12_given_1 : List zI := [(72, 73, 1, .iconst 1), (73, 74, 0, .iload_n 2), (74, 77, 0, .invokestatic 107), (77, 78, 0, .iaload), (78, 81, 100, .ifCond .eq 22), (81, 82, 0, .aload_n 0), (82, 85, 0, .getfield 13), (85, 87, 0, .iload 5), (87, 88, 2, .iconst 2), (88, 89, 0, .iload_n 3), (89, 92, 0, .invokestatic 107), (92, 93, 0, .iaload), (93, 96, 100, .ifCond .eq 7), (96, 97, 1, .iconst 1), (97, 100, 101, .goto 4), (100, 101, 0, .iconst 0), (101, 102, 0, .iadd), (102, 104, 0, .istore 4), (104, 107, 1, .iinc 5 1), (107, 110, 40, .goto (-67)), (110, 111, 0, .aload_n 0), (111, 112, 0, .iconst 0), (112, 115, 0, .putfield 74), (115, 116, 0, .aload_n 0), (116, 117, 0, .aload_n 0), (117, 118, 0, .iload_n 1), (118, 119, 0, .iload_n 2), (119, 120, 0, .iload_n 3), (120, 123, 0, .invokevirtual 186), (123, 124, 0, .i2l), (124, 127, 0, .invokevirtual 192), (127, 128, 0, .aload_n 0), (128, 130, 0, .iload 4), (130, 131, 0, .i2l), (131, 134, 0, .invokevirtual 192), (134, 135, 0, .aload_n 0), (135, 136, 0, .iload_n 1), (136, 137, 0, .iload_n 2), (137, 138, 0, .iload_n 3), (138, 141, 0, .invokevirtual 183)]
theorem ok_X12_given_1 : ∀ e ∈ k_X12_given_1, z_okb cX12_given e = true := fun e h => List.all_eq_true.mp (by decide +kernel : k_X12_given_1.all (z_okb cX12_given) = true) e h
def k_X12_given_2 : List zI := [(141, 142, 0, .aload_n 0), (142, 145, 0, .getfield 65), (145, 146, 0, .irem), (146, 147, 0, .ireturn)]
theorem ok_X12_given_2 : ∀ e ∈ k_X12_given_2, z_okb cX12_given e = true := fun e h => List.all_eq_true.mp (by decide +kernel : k_X12_given_2.all (z_okb cX12_given) = true) e h
def k_X12_given : List zI := k_X12_given_0 ++ (k_X12_given_1 ++ (k_X12_given_2))
theorem ok_X12_given : ∀ e ∈ k_X12_given, z_okb cX12_given e = true := List.forall_mem_append.mpr ⟨ok_X12_given_0, List.forall_mem_append.mpr ⟨ok_X12_given_1, ok_X12_given_2⟩⟩
def k_X12_readTables : List zI := [(0, 1, 0, .iconst 0), (1, 2, 0, .istore_n 2), (2, 3, 0, .iload_n 2), (3, 4, 0, .iload_n 1), (4, 7, 81, .if_icmp .ge 77), (7, 8, 0, .iload_n 2), (8, 11, 17, .ifCond .le 9), (11, 12, 0, .aload_n 0), (12, 14, 44, .bipush 44), (14, 17, 0, .invokevirtual 133), (17, 18, 0, .aload_n 0), (18, 21, 0, .invokevirtual 122), (21, 23, 48, .bipush 48), (23, 24, 0, .isub), (24, 25, 0, .istore_n 3), (25, 26, 0, .iload_n 3), (26, 27, 0, .i2l), (27, 28, 0, .lconst 0), (28, 29, 0, .aload_n 0), (29, 32, 0, .getfield 65), (32, 33, 1, .iconst 1), (33, 34, 0, .isub), (34, 35, 0, .i2l), (35, 38, 0, .invokestatic 80), (38, 41, 49, .ifCond .ne 11), (41, 42, 0, .aload_n 0), (42, 43, 0, .aload_n 0), (43, 46, 0, .getfield 116), (46, 49, 0, .invokevirtual 130), (49, 50, 0, .aload_n 0), (50, 53, 0, .getfield 119), (53, 54, 1, .iconst (-1)), (54, 57, 58, .if_icmp .eq 4), (57, 58, 0, .return_), (58, 59, 0, .aload_n 0), (59, 62, 0, .getfield 37), (62, 63, 0, .iload_n 2), (63, 64, 0, .iload_n 3), (64, 65, 0, .iastore), (65, 66, 0, .aload_n 0), (66, 67, 0, .dup), (67, 70, 0, .getfield 116), (70, 71, 1, .iconst 1), (71, 72, 0, .iadd), (72, 75, 0, .putfield 116), (75, 78, 1, .iinc 2 1), (78, 81, 2, .goto (-76)), (81, 82, 0, .aload_n 0), (82, 85, 0, .invokevirtual 157), (85, 86, 0, .return_)]
theorem ok_X12_readTables : ∀ e ∈ k_X12_readTables, z_okb cX12_readTables e = true := fun e h => List.all_eq_true.mp (by decide +kernel : k_X12_readTables.all (z_okb cX12_readTables) = true) e h
def k_X12_madeOf : List zI := [(0, 1, 0, .iconst 0), (1, 3, 0, .istore 4), (3, 4, 0, .iconst 0), (4, 6, 0, .istore 5), (6, 8, 0, .iload 5), (8, 9, 0, .aload_n 0), (9, 10, 0, .iload_n 2), (10, 13, 0, .invokevirtual 96), (13, 16, 49, .if_icmp .ge 36), (16, 18, 0, .iload 4), (18, 19, 0, .aload_n 0), (19, 22, 0, .getfield 13), (22, 23, 0, .iload_n 1), (23, 24, 0, .iload_n 2), (24, 26, 0, .iload 5), (26, 29, 0, .invokestatic 107), (29, 30, 0, .iaload), (30, 31, 0, .aload_n 0), (31, 34, 0, .getfield 37), (34, 35, 0, .iload_n 3), (35, 37, 0, .iload 5), (37, 38, 0, .iadd), (38, 39, 0, .iaload), (39, 40, 0, .imul), (40, 41, 0, .iadd), (41, 43, 0, .istore 4), (43, 46, 1, .iinc 5 1), (46, 49, 6, .goto (-40)), (49, 51, 0, .iload 4), (51, 52, 0, .ireturn)]
theorem ok_X12_madeOf : ∀ e ∈ k_X12_madeOf, z_okb cX12_madeOf e = true := fun e h => List.all_eq_true.mp (by decide +kernel : k_X12_madeOf.all (z_okb cX12_madeOf) = true) e h
def k_X12_multiplies_0 : List zI := [(0, 1, 0, .aload_n 0), (1, 2, 0, .iconst 0), (2, 5, 0, .putfield 71), (5, 6, 0, .aload_n 0), (6, 9, 0, .invokevirtual 151), (9, 10, 0, .aload_n 0), (10, 11, 0, .aload_n 0), (11, 12, 0, .iconst 0), (12, 15, 0, .invokevirtual 96), (15, 16, 0, .aload_n 0), (16, 17, 1, .iconst 1), (17, 20, 0, .invokevirtual 96), (20, 21, 0, .iadd), (21, 24, 0, .invokevirtual 196), (24, 25, 0, .aload_n 0), (25, 28, 0, .getfield 119), (28, 29, 1, .iconst (-1)), (29, 32, 37, .if_icmp .eq 8), (32, 33, 0, .aload_n 0), (33, 36, 0, .invokevirtual 160), (36, 37, 0, .ireturn), (37, 38, 0, .aload_n 0), (38, 39, 0, .iconst 0), (39, 42, 0, .putfield 74), (42, 43, 0, .iconst 0), (43, 44, 0, .istore_n 1), (44, 45, 0, .iconst 0), (45, 46, 0, .istore_n 2), (46, 47, 0, .iload_n 2), (47, 48, 0, .aload_n 0), (48, 49, 2, .iconst 2), (49, 52, 0, .invokevirtual 96), (52, 55, 240, .if_icmp .ge 188), (55, 56, 0, .iconst 0), (56, 57, 0, .istore_n 3), (57, 58, 0, .iconst 0), (58, 60, 0, .istore 4), (60, 62, 0, .iload 4), (62, 63, 0, .aload_n 0), (63, 66, 0, .getfield 91)]
theorem ok_X12_multiplies_0 : ∀ e ∈ k_X12_multiplies_0, z_okb cX12_multiplies e = true := fun e h => List.all_eq_true.mp (by decide +kernel : k_X12_multiplies_0.all (z_okb cX12_multiplies) = true) e h
def k_X12_multiplies_1 : List zI := [(66, 69, 112, .if_icmp .ge 46), (69, 70, 0, .iload_n 3), (70, 71, 0, .aload_n 0), (71, 73, 0, .iload 4), (73, 74, 0, .iconst 0), (74, 75, 0, .iconst 0), (75, 78, 0, .invokevirtual 199), (78, 79, 0, .aload_n 0), (79, 81, 0, .iload 4), (81, 82, 1, .iconst 1), (82, 83, 0, .aload_n 0), (83, 84, 0, .iconst 0), (84, 87, 0, .invokevirtual 96), (87, 90, 0, .invokevirtual 199), (90, 91, 0, .imul), (91, 92, 0, .aload_n 0), (92, 95, 0, .getfield 13), (95, 97, 0, .iload 4), (97, 98, 2, .iconst 2), (98, 99, 0, .iload_n 2), (99, 102, 0, .invokestatic 107), (102, 103, 0, .iaload), (103, 104, 0, .imul), (104, 105, 0, .iadd), (105, 106, 0, .istore_n 3), (106, 109, 1, .iinc 4 1), (109, 112, 60, .goto (-49)), (112, 113, 0, .iload_n 2), (113, 114, 0, .aload_n 0), (114, 115, 2, .iconst 2), (115, 118, 0, .invokevirtual 88), (118, 119, 0, .idiv), (119, 121, 0, .istore 4), (121, 122, 0, .iload_n 2), (122, 123, 0, .aload_n 0), (123, 124, 2, .iconst 2), (124, 127, 0, .invokevirtual 88), (127, 128, 0, .irem), (128, 130, 0, .istore 5), (130, 131, 0, .iconst 0)]
theorem ok_X12_multiplies_1 : ∀ e ∈ k_X12_multiplies_1, z_okb cX12_multiplies e = true := fun e h => List.all_eq_true.mp (by decide +kernel : k_X12_multiplies_1.all (z_okb cX12_multiplies) = true) e h
def k_X12_multiplies_2 : List zI := [(131, 133, 0, .istore 6), (133, 134, 0, .iconst 0), (134, 136, 0, .istore 7), (136, 138, 0, .iload 7), (138, 139, 0, .aload_n 0), (139, 142, 0, .getfield 7), (142, 143, 1, .iconst 1), (143, 144, 0, .iaload), (144, 147, 199, .if_icmp .ge 55), (147, 149, 0, .iload 6), (149, 150, 0, .aload_n 0), (150, 153, 0, .getfield 37), (153, 155, 0, .iload 5), (155, 156, 0, .aload_n 0), (156, 159, 0, .getfield 7), (159, 160, 1, .iconst 1), (160, 161, 0, .iaload), (161, 162, 0, .imul), (162, 164, 0, .iload 7), (164, 165, 0, .iadd), (165, 166, 0, .iaload), (166, 167, 0, .aload_n 0), (167, 170, 0, .getfield 37), (170, 171, 0, .aload_n 0), (171, 172, 0, .iconst 0), (172, 175, 0, .invokevirtual 96), (175, 177, 0, .iload 7), (177, 178, 0, .aload_n 0), (178, 181, 0, .getfield 7), (181, 182, 2, .iconst 2), (182, 183, 0, .iaload), (183, 184, 0, .imul), (184, 185, 0, .iadd), (185, 187, 0, .iload 4), (187, 188, 0, .iadd), (188, 189, 0, .iaload), (189, 190, 0, .imul), (190, 191, 0, .iadd), (191, 193, 0, .istore 6), (193, 196, 1, .iinc 7 1)]
theorem ok_X12_multiplies_2 : ∀ e ∈ k_X12_multiplies_2, z_okb cX12_multiplies e = true := fun e h => List.all_eq_true.mp (by decide +kernel : k_X12_multiplies_2.all (z_okb cX12_multiplies) = true) e h
def k_X12_multiplies_3 : List zI := [(196, 199, 136, .goto (-60)), (199, 200, 0, .iload_n 1), (200, 201, 0, .iload_n 3), (201, 202, 0, .aload_n 0), (202, 205, 0, .getfield 65), (205, 206, 0, .irem), (206, 208, 0, .iload 6), (208, 209, 0, .aload_n 0), (209, 212, 0, .getfield 65), (212, 213, 0, .irem), (213, 216, 220, .if_icmp .eq 7), (216, 217, 1, .iconst 1), (217, 220, 221, .goto 4), (220, 221, 0, .iconst 0), (221, 222, 0, .iadd), (222, 223, 0, .istore_n 1), (223, 224, 0, .aload_n 0), (224, 225, 0, .iload_n 3), (225, 226, 0, .aload_n 0), (226, 229, 0, .getfield 65), (229, 230, 0, .irem), (230, 231, 0, .i2l), (231, 234, 0, .invokevirtual 192), (234, 237, 1, .iinc 2 1), (237, 240, 46, .goto (-191)), (240, 241, 0, .iload_n 1), (241, 242, 0, .ireturn)]
theorem ok_X12_multiplies_3 : ∀ e ∈ k_X12_multiplies_3, z_okb cX12_multiplies e = true := fun e h => List.all_eq_true.mp (by decide +kernel : k_X12_multiplies_3.all (z_okb cX12_multiplies) = true) e h
def k_X12_multiplies : List zI := k_X12_multiplies_0 ++ (k_X12_multiplies_1 ++ (k_X12_multiplies_2 ++ (k_X12_multiplies_3)))
theorem ok_X12_multiplies : ∀ e ∈ k_X12_multiplies, z_okb cX12_multiplies e = true := List.forall_mem_append.mpr ⟨ok_X12_multiplies_0, List.forall_mem_append.mpr ⟨ok_X12_multiplies_1, List.forall_mem_append.mpr ⟨ok_X12_multiplies_2, ok_X12_multiplies_3⟩⟩⟩
def k_X12_fullOf : List zI := [(0, 1, 0, .iconst 0), (1, 2, 0, .istore_n 3), (2, 3, 0, .iconst 0), (3, 5, 0, .istore 4), (5, 7, 0, .iload 4), (7, 9, 9, .bipush 9), (9, 12, 41, .if_icmp .ge 32), (12, 13, 0, .iload_n 3), (13, 14, 0, .aload_n 0), (14, 17, 0, .getfield 13), (17, 18, 0, .iload_n 1), (18, 19, 0, .iload_n 2), (19, 21, 0, .iload 4), (21, 24, 0, .invokestatic 107), (24, 25, 0, .iaload), (25, 28, 32, .ifCond .eq 7), (28, 29, 1, .iconst 1), (29, 32, 33, .goto 4), (32, 33, 0, .iconst 0), (33, 34, 0, .iadd), (34, 35, 0, .istore_n 3), (35, 38, 1, .iinc 4 1), (38, 41, 5, .goto (-33)), (41, 42, 0, .iload_n 3), (42, 43, 0, .ireturn)]
theorem ok_X12_fullOf : ∀ e ∈ k_X12_fullOf, z_okb cX12_fullOf e = true := fun e h => List.all_eq_true.mp (by decide +kernel : k_X12_fullOf.all (z_okb cX12_fullOf) = true) e h
def k_X12_lessOne : List zI := [(0, 1, 0, .iload_n 0), (1, 4, 10, .ifCond .le 9), (4, 5, 0, .iload_n 0), (5, 6, 1, .iconst 1), (6, 7, 0, .isub), (7, 10, 11, .goto 4), (10, 11, 0, .iconst 0), (11, 12, 0, .ireturn)]
theorem ok_X12_lessOne : ∀ e ∈ k_X12_lessOne, z_okb cX12_lessOne e = true := fun e h => List.all_eq_true.mp (by decide +kernel : k_X12_lessOne.all (z_okb cX12_lessOne) = true) e h
def k_X12_sums_0 : List zI := [(0, 1, 0, .aload_n 0), (1, 2, 0, .iconst 0), (2, 5, 0, .putfield 71), (5, 6, 0, .iconst 0), (6, 7, 0, .istore_n 1), (7, 8, 0, .aload_n 0), (8, 9, 0, .iconst 0), (9, 12, 0, .putfield 74), (12, 13, 0, .iconst 0), (13, 14, 0, .istore_n 2), (14, 15, 0, .iload_n 2), (15, 16, 3, .iconst 3), (16, 19, 149, .if_icmp .ge 133), (19, 20, 0, .iconst 0), (20, 21, 0, .istore_n 3), (21, 22, 0, .iconst 0), (22, 24, 0, .istore 4), (24, 26, 0, .iload 4), (26, 27, 0, .aload_n 0), (27, 30, 0, .getfield 91), (30, 33, 57, .if_icmp .ge 27), (33, 34, 0, .iload_n 2), (34, 35, 2, .iconst 2), (35, 38, 57, .if_icmp .ge 22), (38, 39, 0, .iload_n 3), (39, 40, 0, .aload_n 0), (40, 42, 0, .iload 4), (42, 43, 0, .iload_n 2), (43, 46, 0, .invokevirtual 202), (46, 49, 0, .invokestatic 206), (49, 50, 0, .iadd), (50, 51, 0, .istore_n 3), (51, 54, 1, .iinc 4 1), (54, 57, 24, .goto (-30)), (57, 58, 0, .iconst 0), (58, 60, 0, .istore 4), (60, 62, 0, .iload 4), (62, 64, 9, .bipush 9), (64, 67, 133, .if_icmp .ge 69), (67, 68, 0, .iload_n 2)]
theorem ok_X12_sums_0 : ∀ e ∈ k_X12_sums_0, z_okb cX12_sums e = true := fun e h => List.all_eq_true.mp (by decide +kernel : k_X12_sums_0.all (z_okb cX12_sums) = true) e h
def k_X12_sums_1 : List zI := [(68, 69, 2, .iconst 2), (69, 72, 133, .if_icmp .ne 64), (72, 73, 0, .iconst 0), (73, 75, 0, .istore 5), (75, 76, 0, .iconst 0), (76, 78, 0, .istore 6), (78, 80, 0, .iload 6), (80, 81, 0, .aload_n 0), (81, 84, 0, .getfield 91), (84, 87, 119, .if_icmp .ge 35), (87, 89, 0, .iload 5), (89, 90, 0, .aload_n 0), (90, 93, 0, .getfield 13), (93, 95, 0, .iload 6), (95, 96, 2, .iconst 2), (96, 98, 0, .iload 4), (98, 101, 0, .invokestatic 107), (101, 102, 0, .iaload), (102, 105, 109, .ifCond .eq 7), (105, 106, 1, .iconst 1), (106, 109, 110, .goto 4), (109, 110, 0, .iconst 0), (110, 111, 0, .iadd), (111, 113, 0, .istore 5), (113, 116, 1, .iinc 6 1), (116, 119, 78, .goto (-38)), (119, 120, 0, .iload_n 3), (120, 122, 0, .iload 5), (122, 125, 0, .invokestatic 206), (125, 126, 0, .iadd), (126, 127, 0, .istore_n 3), (127, 130, 1, .iinc 4 1), (130, 133, 60, .goto (-70)), (133, 134, 0, .aload_n 0), (134, 135, 0, .iload_n 3), (135, 136, 0, .i2l), (136, 139, 0, .invokevirtual 192), (139, 140, 0, .iload_n 1), (140, 141, 0, .iload_n 3), (141, 142, 0, .iadd)]
theorem ok_X12_sums_1 : ∀ e ∈ k_X12_sums_1, z_okb cX12_sums e = true := fun e h => List.all_eq_true.mp (by decide +kernel : k_X12_sums_1.all (z_okb cX12_sums) = true) e h
def k_X12_sums_2 : List zI := [(142, 143, 0, .istore_n 1), (143, 146, 1, .iinc 2 1), (146, 149, 14, .goto (-132)), (149, 150, 0, .iload_n 1), (150, 151, 0, .ireturn)]
theorem ok_X12_sums_2 : ∀ e ∈ k_X12_sums_2, z_okb cX12_sums e = true := fun e h => List.all_eq_true.mp (by decide +kernel : k_X12_sums_2.all (z_okb cX12_sums) = true) e h
def k_X12_sums : List zI := k_X12_sums_0 ++ (k_X12_sums_1 ++ (k_X12_sums_2))
theorem ok_X12_sums : ∀ e ∈ k_X12_sums, z_okb cX12_sums e = true := List.forall_mem_append.mpr ⟨ok_X12_sums_0, List.forall_mem_append.mpr ⟨ok_X12_sums_1, ok_X12_sums_2⟩⟩
def k_X12_isZero : List zI := [(0, 1, 0, .iconst 0), (1, 2, 0, .istore_n 2), (2, 3, 0, .iload_n 2), (3, 5, 9, .bipush 9), (5, 8, 24, .if_icmp .ge 19), (8, 9, 0, .aload_n 0), (9, 10, 0, .iload_n 1), (10, 11, 0, .iload_n 2), (11, 12, 0, .iadd), (12, 13, 0, .iaload), (13, 16, 18, .ifCond .eq 5), (16, 17, 0, .iconst 0), (17, 18, 0, .ireturn), (18, 21, 1, .iinc 2 1), (21, 24, 2, .goto (-19)), (24, 25, 1, .iconst 1), (25, 26, 0, .ireturn)]
theorem ok_X12_isZero : ∀ e ∈ k_X12_isZero, z_okb cX12_isZero e = true := fun e h => List.all_eq_true.mp (by decide +kernel : k_X12_isZero.all (z_okb cX12_isZero) = true) e h
def k_X12_likeOf_0 : List zI := [(0, 1, 0, .aload_n 1), (1, 2, 0, .iload_n 2), (2, 5, 0, .invokestatic 209), (5, 8, 17, .ifCond .ne 12), (8, 9, 0, .aload_n 3), (9, 11, 0, .iload 4), (11, 14, 0, .invokestatic 209), (14, 17, 19, .ifCond .eq 5), (17, 18, 0, .iconst 0), (18, 19, 0, .ireturn), (19, 20, 1, .iconst 1), (20, 22, 0, .istore 5), (22, 24, 0, .iload 5), (24, 25, 0, .aload_n 0), (25, 28, 0, .getfield 65), (28, 31, 100, .if_icmp .ge 72), (31, 32, 1, .iconst 1), (32, 34, 0, .istore 6), (34, 35, 0, .iconst 0), (35, 37, 0, .istore 7), (37, 39, 0, .iload 7), (39, 41, 9, .bipush 9), (41, 44, 86, .if_icmp .ge 45), (44, 46, 0, .iload 6), (46, 49, 86, .ifCond .eq 40), (49, 50, 0, .aload_n 3), (50, 52, 0, .iload 4), (52, 54, 0, .iload 7), (54, 55, 0, .iadd), (55, 56, 0, .iaload), (56, 57, 0, .aload_n 1), (57, 58, 0, .iload_n 2), (58, 60, 0, .iload 7), (60, 61, 0, .iadd), (61, 62, 0, .iaload), (62, 64, 0, .iload 5), (64, 65, 0, .imul), (65, 66, 0, .aload_n 0), (66, 69, 0, .getfield 65), (69, 70, 0, .irem)]
theorem ok_X12_likeOf_0 : ∀ e ∈ k_X12_likeOf_0, z_okb cX12_likeOf e = true := fun e h => List.all_eq_true.mp (by decide +kernel : k_X12_likeOf_0.all (z_okb cX12_likeOf) = true) e h
def k_X12_likeOf_1 : List zI := [(70, 73, 77, .if_icmp .ne 7), (73, 74, 1, .iconst 1), (74, 77, 78, .goto 4), (77, 78, 0, .iconst 0), (78, 80, 0, .istore 6), (80, 83, 1, .iinc 7 1), (83, 86, 37, .goto (-46)), (86, 88, 0, .iload 6), (88, 91, 94, .ifCond .eq 6), (91, 93, 0, .iload 5), (93, 94, 0, .ireturn), (94, 97, 1, .iinc 5 1), (97, 100, 22, .goto (-75)), (100, 101, 0, .iconst 0), (101, 102, 0, .ireturn)]
theorem ok_X12_likeOf_1 : ∀ e ∈ k_X12_likeOf_1, z_okb cX12_likeOf e = true := fun e h => List.all_eq_true.mp (by decide +kernel : k_X12_likeOf_1.all (z_okb cX12_likeOf) = true) e h
def k_X12_likeOf : List zI := k_X12_likeOf_0 ++ (k_X12_likeOf_1)
theorem ok_X12_likeOf : ∀ e ∈ k_X12_likeOf, z_okb cX12_likeOf e = true := List.forall_mem_append.mpr ⟨ok_X12_likeOf_0, ok_X12_likeOf_1⟩
def k_X12_likeAt : List zI := [(0, 1, 0, .aload_n 0), (1, 2, 0, .aload_n 0), (2, 5, 0, .getfield 13), (5, 6, 0, .iload_n 1), (6, 7, 0, .iload_n 3), (7, 8, 0, .iconst 0), (8, 11, 0, .invokestatic 107), (11, 12, 0, .aload_n 0), (12, 15, 0, .getfield 13), (15, 16, 0, .iload_n 2), (16, 17, 0, .iload_n 3), (17, 18, 0, .iconst 0), (18, 21, 0, .invokestatic 107), (21, 24, 0, .invokevirtual 213), (24, 25, 0, .ireturn)]
theorem ok_X12_likeAt : ∀ e ∈ k_X12_likeAt, z_okb cX12_likeAt e = true := fun e h => List.all_eq_true.mp (by decide +kernel : k_X12_likeAt.all (z_okb cX12_likeAt) = true) e h
def k_X12_like : List zI := [(0, 1, 0, .aload_n 0), (1, 2, 0, .iconst 0), (2, 5, 0, .putfield 71), (5, 6, 0, .aload_n 0), (6, 7, 0, .iload_n 1), (7, 10, 0, .invokevirtual 163), (10, 13, 28, .ifCond .eq 18), (13, 14, 0, .aload_n 0), (14, 15, 0, .iload_n 2), (15, 18, 0, .invokevirtual 163), (18, 21, 28, .ifCond .eq 10), (21, 22, 0, .iload_n 3), (22, 25, 0, .invokestatic 170), (25, 28, 30, .ifCond .ne 5), (28, 29, 1, .iconst (-1)), (29, 30, 0, .ireturn), (30, 31, 0, .aload_n 0), (31, 32, 0, .iload_n 1), (32, 33, 0, .iload_n 2), (33, 34, 0, .iload_n 3), (34, 37, 0, .invokevirtual 217), (37, 39, 0, .istore 4), (39, 41, 0, .iload 4), (41, 44, 49, .ifCond .ne 8), (44, 46, 2, .bipush (-2)), (46, 49, 51, .goto 5), (49, 51, 0, .iload 4), (51, 52, 0, .ireturn)]
theorem ok_X12_like : ∀ e ∈ k_X12_like, z_okb cX12_like e = true := fun e h => List.all_eq_true.mp (by decide +kernel : k_X12_like.all (z_okb cX12_like) = true) e h
def k_X12_areLike : List zI := [(0, 1, 1, .iconst 1), (1, 3, 0, .istore 5), (3, 4, 0, .iconst 0), (4, 6, 0, .istore 6), (6, 8, 0, .iload 6), (8, 9, 3, .iconst 3), (9, 12, 55, .if_icmp .ge 46), (12, 14, 0, .iload 5), (14, 15, 0, .aload_n 0), (15, 16, 0, .aload_n 1), (16, 18, 27, .bipush 27), (18, 19, 0, .iload_n 2), (19, 20, 0, .imul), (20, 22, 9, .bipush 9), (22, 24, 0, .iload 6), (24, 25, 0, .imul), (25, 26, 0, .iadd), (26, 27, 0, .aload_n 3), (27, 29, 27, .bipush 27), (29, 31, 0, .iload 4), (31, 32, 0, .imul), (32, 34, 9, .bipush 9), (34, 36, 0, .iload 6), (36, 37, 0, .imul), (37, 38, 0, .iadd), (38, 41, 0, .invokevirtual 213), (41, 42, 0, .imul), (42, 43, 0, .aload_n 0), (43, 46, 0, .getfield 65), (46, 47, 0, .irem), (47, 49, 0, .istore 5), (49, 52, 1, .iinc 6 1), (52, 55, 6, .goto (-46)), (55, 57, 0, .iload 5), (57, 58, 1, .iconst 1), (58, 61, 65, .if_icmp .ne 7), (61, 62, 1, .iconst 1), (62, 65, 66, .goto 4), (65, 66, 0, .iconst 0), (66, 67, 0, .ireturn)]
theorem ok_X12_areLike : ∀ e ∈ k_X12_areLike, z_okb cX12_areLike e = true := fun e h => List.all_eq_true.mp (by decide +kernel : k_X12_areLike.all (z_okb cX12_areLike) = true) e h
def k_X12_flipsAt : List zI := [(0, 1, 0, .iconst 0), (1, 2, 0, .istore_n 2), (2, 3, 0, .iconst 0), (3, 4, 0, .istore_n 3), (4, 5, 0, .iload_n 3), (5, 6, 0, .aload_n 0), (6, 9, 0, .getfield 91), (9, 12, 61, .if_icmp .ge 52), (12, 13, 0, .iconst 0), (13, 15, 0, .istore 4), (15, 17, 0, .iload 4), (17, 18, 0, .aload_n 0), (18, 21, 0, .getfield 91), (21, 24, 55, .if_icmp .ge 34), (24, 25, 0, .iload_n 2), (25, 26, 0, .iload_n 3), (26, 28, 0, .iload 4), (28, 31, 46, .if_icmp .eq 18), (31, 32, 0, .aload_n 0), (32, 33, 0, .iload_n 3), (33, 35, 0, .iload 4), (35, 36, 0, .iload_n 1), (36, 39, 0, .invokevirtual 217), (39, 42, 46, .ifCond .eq 7), (42, 43, 1, .iconst 1), (43, 46, 47, .goto 4), (46, 47, 0, .iconst 0), (47, 48, 0, .iadd), (48, 49, 0, .istore_n 2), (49, 52, 1, .iinc 4 1), (52, 55, 15, .goto (-37)), (55, 58, 1, .iinc 3 1), (58, 61, 4, .goto (-54)), (61, 62, 0, .iload_n 2), (62, 63, 0, .ireturn)]
theorem ok_X12_flipsAt : ∀ e ∈ k_X12_flipsAt, z_okb cX12_flipsAt e = true := fun e h => List.all_eq_true.mp (by decide +kernel : k_X12_flipsAt.all (z_okb cX12_flipsAt) = true) e h
def k_X12_flips : List zI := [(0, 1, 0, .aload_n 0), (1, 2, 0, .iconst 0), (2, 5, 0, .putfield 71), (5, 6, 0, .aload_n 0), (6, 7, 0, .iconst 0), (7, 10, 0, .putfield 74), (10, 11, 0, .iconst 0), (11, 12, 0, .istore_n 1), (12, 13, 0, .iconst 0), (13, 14, 0, .istore_n 2), (14, 15, 0, .iload_n 2), (15, 16, 3, .iconst 3), (16, 19, 41, .if_icmp .ge 25), (19, 20, 0, .aload_n 0), (20, 21, 0, .iload_n 2), (21, 24, 0, .invokevirtual 220), (24, 25, 0, .istore_n 3), (25, 26, 0, .aload_n 0), (26, 27, 0, .iload_n 3), (27, 28, 0, .i2l), (28, 31, 0, .invokevirtual 192), (31, 32, 0, .iload_n 1), (32, 33, 0, .iload_n 3), (33, 34, 0, .iadd), (34, 35, 0, .istore_n 1), (35, 38, 1, .iinc 2 1), (38, 41, 14, .goto (-24)), (41, 42, 0, .iload_n 1), (42, 43, 0, .ireturn)]
theorem ok_X12_flips : ∀ e ∈ k_X12_flips, z_okb cX12_flips e = true := fun e h => List.all_eq_true.mp (by decide +kernel : k_X12_flips.all (z_okb cX12_flips) = true) e h
def k_X12_goFlip_0 : List zI := [(0, 1, 0, .aload_n 0), (1, 2, 0, .iload_n 1), (2, 3, 0, .iload_n 2), (3, 4, 0, .iload_n 3), (4, 7, 0, .invokevirtual 217), (7, 9, 0, .istore 4), (9, 10, 0, .iload_n 3), (10, 11, 1, .iconst 1), (11, 12, 0, .iadd), (12, 13, 3, .iconst 3), (13, 14, 0, .irem), (14, 16, 0, .istore 5), (16, 17, 0, .iload_n 3), (17, 18, 2, .iconst 2), (18, 19, 0, .iadd), (19, 20, 3, .iconst 3), (20, 21, 0, .irem), (21, 23, 0, .istore 6), (23, 24, 0, .iconst 0), (24, 26, 0, .istore 7), (26, 28, 0, .iload 7), (28, 30, 9, .bipush 9), (30, 33, 186, .if_icmp .ge 156), (33, 34, 0, .aload_n 0), (34, 37, 0, .getfield 13), (37, 38, 0, .iload_n 2), (38, 39, 0, .iload_n 3), (39, 41, 0, .iload 7), (41, 44, 0, .invokestatic 107), (44, 45, 0, .aload_n 0), (45, 48, 0, .getfield 13), (48, 49, 0, .iload_n 1), (49, 50, 0, .iload_n 3), (50, 52, 0, .iload 7), (52, 55, 0, .invokestatic 107), (55, 56, 0, .iaload), (56, 57, 0, .iastore), (57, 58, 0, .aload_n 0), (58, 61, 0, .getfield 13), (61, 62, 0, .iload_n 2)]
theorem ok_X12_goFlip_0 : ∀ e ∈ k_X12_goFlip_0, z_okb cX12_goFlip e = true := fun e h => List.all_eq_true.mp (by decide +kernel : k_X12_goFlip_0.all (z_okb cX12_goFlip) = true) e h
def k_X12_goFlip_1 : List zI := [(62, 64, 0, .iload 5), (64, 66, 0, .iload 7), (66, 69, 0, .invokestatic 107), (69, 70, 0, .aload_n 0), (70, 73, 0, .getfield 13), (73, 74, 0, .iload_n 2), (74, 76, 0, .iload 5), (76, 78, 0, .iload 7), (78, 81, 0, .invokestatic 107), (81, 82, 0, .iaload), (82, 84, 0, .iload 4), (84, 85, 0, .imul), (85, 86, 0, .aload_n 0), (86, 89, 0, .getfield 65), (89, 90, 0, .irem), (90, 91, 0, .iastore), (91, 92, 0, .aload_n 0), (92, 95, 0, .getfield 13), (95, 96, 0, .iload_n 1), (96, 98, 0, .iload 5), (98, 100, 0, .iload 7), (100, 103, 0, .invokestatic 107), (103, 104, 0, .aload_n 0), (104, 107, 0, .getfield 13), (107, 108, 0, .iload_n 1), (108, 110, 0, .iload 5), (110, 112, 0, .iload 7), (112, 115, 0, .invokestatic 107), (115, 116, 0, .iaload), (116, 117, 0, .aload_n 0), (117, 120, 0, .getfield 13), (120, 121, 0, .iload_n 2), (121, 123, 0, .iload 5), (123, 125, 0, .iload 7), (125, 128, 0, .invokestatic 107), (128, 129, 0, .iaload), (129, 130, 0, .iadd), (130, 131, 0, .aload_n 0), (131, 134, 0, .getfield 65), (134, 135, 0, .irem)]
theorem ok_X12_goFlip_1 : ∀ e ∈ k_X12_goFlip_1, z_okb cX12_goFlip e = true := fun e h => List.all_eq_true.mp (by decide +kernel : k_X12_goFlip_1.all (z_okb cX12_goFlip) = true) e h
def k_X12_goFlip_2 : List zI := [(135, 136, 0, .iastore), (136, 137, 0, .aload_n 0), (137, 140, 0, .getfield 13), (140, 141, 0, .iload_n 2), (141, 143, 0, .iload 6), (143, 145, 0, .iload 7), (145, 148, 0, .invokestatic 107), (148, 149, 0, .aload_n 0), (149, 150, 0, .aload_n 0), (150, 153, 0, .getfield 13), (153, 154, 0, .iload_n 2), (154, 156, 0, .iload 6), (156, 158, 0, .iload 7), (158, 161, 0, .invokestatic 107), (161, 162, 0, .iaload), (162, 163, 0, .aload_n 0), (163, 166, 0, .getfield 13), (166, 167, 0, .iload_n 1), (167, 169, 0, .iload 6), (169, 171, 0, .iload 7), (171, 174, 0, .invokestatic 107), (174, 175, 0, .iaload), (175, 176, 0, .isub), (176, 179, 0, .invokevirtual 223), (179, 180, 0, .iastore), (180, 183, 1, .iinc 7 1), (183, 186, 26, .goto (-157)), (186, 187, 0, .return_)]
theorem ok_X12_goFlip_2 : ∀ e ∈ k_X12_goFlip_2, z_okb cX12_goFlip e = true := fun e h => List.all_eq_true.mp (by decide +kernel : k_X12_goFlip_2.all (z_okb cX12_goFlip) = true) e h
def k_X12_goFlip : List zI := k_X12_goFlip_0 ++ (k_X12_goFlip_1 ++ (k_X12_goFlip_2))
theorem ok_X12_goFlip : ∀ e ∈ k_X12_goFlip, z_okb cX12_goFlip e = true := List.forall_mem_append.mpr ⟨ok_X12_goFlip_0, List.forall_mem_append.mpr ⟨ok_X12_goFlip_1, ok_X12_goFlip_2⟩⟩
def k_X12_hasZero : List zI := [(0, 1, 0, .iconst 0), (1, 2, 0, .istore_n 2), (2, 3, 0, .iload_n 2), (3, 4, 3, .iconst 3), (4, 7, 31, .if_icmp .ge 27), (7, 8, 0, .aload_n 0), (8, 11, 0, .getfield 13), (11, 12, 0, .iload_n 1), (12, 13, 0, .iload_n 2), (13, 14, 0, .iconst 0), (14, 17, 0, .invokestatic 107), (17, 20, 0, .invokestatic 209), (20, 23, 25, .ifCond .eq 5), (23, 24, 1, .iconst 1), (24, 25, 0, .ireturn), (25, 28, 1, .iinc 2 1), (28, 31, 2, .goto (-26)), (31, 32, 0, .iconst 0), (32, 33, 0, .ireturn)]
theorem ok_X12_hasZero : ∀ e ∈ k_X12_hasZero, z_okb cX12_hasZero e = true := fun e h => List.all_eq_true.mp (by decide +kernel : k_X12_hasZero.all (z_okb cX12_hasZero) = true) e h
def k_X12_zeroMany : List zI := [(0, 1, 0, .iconst 0), (1, 2, 0, .istore_n 1), (2, 3, 0, .iconst 0), (3, 4, 0, .istore_n 2), (4, 5, 0, .iload_n 2), (5, 6, 0, .aload_n 0), (6, 9, 0, .getfield 91), (9, 12, 34, .if_icmp .ge 25), (12, 13, 0, .iload_n 1), (13, 14, 0, .aload_n 0), (14, 15, 0, .iload_n 2), (15, 18, 0, .invokevirtual 226), (18, 21, 25, .ifCond .eq 7), (21, 22, 1, .iconst 1), (22, 25, 26, .goto 4), (25, 26, 0, .iconst 0), (26, 27, 0, .iadd), (27, 28, 0, .istore_n 1), (28, 31, 1, .iinc 2 1), (31, 34, 4, .goto (-27)), (34, 35, 0, .iload_n 1), (35, 36, 0, .ireturn)]
theorem ok_X12_zeroMany : ∀ e ∈ k_X12_zeroMany, z_okb cX12_zeroMany e = true := fun e h => List.all_eq_true.mp (by decide +kernel : k_X12_zeroMany.all (z_okb cX12_zeroMany) = true) e h
def k_X12_flip : List zI := [(0, 1, 0, .aload_n 0), (1, 2, 0, .iconst 0), (2, 5, 0, .putfield 71), (5, 6, 0, .aload_n 0), (6, 7, 0, .iload_n 1), (7, 10, 0, .invokevirtual 163), (10, 13, 28, .ifCond .eq 18), (13, 14, 0, .aload_n 0), (14, 15, 0, .iload_n 2), (15, 18, 0, .invokevirtual 163), (18, 21, 28, .ifCond .eq 10), (21, 22, 0, .iload_n 3), (22, 25, 0, .invokestatic 170), (25, 28, 30, .ifCond .ne 5), (28, 29, 1, .iconst (-1)), (29, 30, 0, .ireturn), (30, 31, 0, .iload_n 1), (31, 32, 0, .iload_n 2), (32, 35, 38, .if_icmp .ne 6), (35, 37, 2, .bipush (-2)), (37, 38, 0, .ireturn), (38, 39, 0, .aload_n 0), (39, 40, 0, .iload_n 1), (40, 41, 0, .iload_n 2), (41, 42, 0, .iload_n 3), (42, 45, 0, .invokevirtual 217), (45, 48, 51, .ifCond .ne 6), (48, 50, 3, .bipush (-3)), (50, 51, 0, .ireturn), (51, 52, 0, .aload_n 0), (52, 53, 0, .iload_n 1), (53, 54, 0, .iload_n 2), (54, 55, 0, .iload_n 3), (55, 58, 0, .invokevirtual 229), (58, 59, 0, .aload_n 0), (59, 62, 0, .invokevirtual 232), (62, 63, 0, .ireturn)]
theorem ok_X12_flip : ∀ e ∈ k_X12_flip, z_okb cX12_flip e = true := fun e h => List.all_eq_true.mp (by decide +kernel : k_X12_flip.all (z_okb cX12_flip) = true) e h
def k_X12_firstZero : List zI := [(0, 1, 0, .iconst 0), (1, 2, 0, .istore_n 1), (2, 3, 0, .iload_n 1), (3, 4, 0, .aload_n 0), (4, 7, 0, .getfield 91), (7, 10, 26, .if_icmp .ge 19), (10, 11, 0, .aload_n 0), (11, 12, 0, .iload_n 1), (12, 15, 0, .invokevirtual 226), (15, 18, 20, .ifCond .eq 5), (18, 19, 0, .iload_n 1), (19, 20, 0, .ireturn), (20, 23, 1, .iinc 1 1), (23, 26, 2, .goto (-21)), (26, 27, 1, .iconst (-1)), (27, 28, 0, .ireturn)]
theorem ok_X12_firstZero : ∀ e ∈ k_X12_firstZero, z_okb cX12_firstZero e = true := fun e h => List.all_eq_true.mp (by decide +kernel : k_X12_firstZero.all (z_okb cX12_firstZero) = true) e h
def k_X12_joinsTwo_0 : List zI := [(0, 1, 0, .iconst 0), (1, 2, 0, .istore_n 1), (2, 3, 0, .iload_n 1), (3, 4, 0, .aload_n 0), (4, 7, 0, .getfield 91), (7, 10, 148, .if_icmp .ge 141), (10, 11, 0, .iload_n 1), (11, 12, 1, .iconst 1), (12, 13, 0, .iadd), (13, 14, 0, .istore_n 2), (14, 15, 0, .iload_n 2), (15, 16, 0, .aload_n 0), (16, 19, 0, .getfield 91), (19, 22, 142, .if_icmp .ge 123), (22, 23, 0, .iconst 0), (23, 24, 0, .istore_n 3), (24, 25, 0, .iload_n 3), (25, 26, 3, .iconst 3), (26, 29, 136, .if_icmp .ge 110), (29, 30, 0, .aload_n 0), (30, 31, 0, .iload_n 1), (31, 32, 0, .iload_n 2), (32, 33, 0, .iload_n 3), (33, 34, 1, .iconst 1), (34, 35, 0, .iadd), (35, 36, 3, .iconst 3), (36, 37, 0, .irem), (37, 40, 0, .invokevirtual 217), (40, 41, 0, .aload_n 0), (41, 42, 0, .iload_n 1), (42, 43, 0, .iload_n 2), (43, 44, 0, .iload_n 3), (44, 45, 2, .iconst 2), (45, 46, 0, .iadd), (46, 47, 3, .iconst 3), (47, 48, 0, .irem), (48, 51, 0, .invokevirtual 217), (51, 52, 0, .imul), (52, 54, 0, .istore 4), (54, 56, 0, .iload 4)]
theorem ok_X12_joinsTwo_0 : ∀ e ∈ k_X12_joinsTwo_0, z_okb cX12_joinsTwo e = true := fun e h => List.all_eq_true.mp (by decide +kernel : k_X12_joinsTwo_0.all (z_okb cX12_joinsTwo) = true) e h
def k_X12_joinsTwo_1 : List zI := [(56, 59, 62, .ifCond .ne 6), (59, 62, 130, .goto 71), (62, 63, 0, .iconst 0), (63, 65, 0, .istore 5), (65, 67, 0, .iload 5), (67, 69, 9, .bipush 9), (69, 72, 123, .if_icmp .ge 54), (72, 73, 0, .aload_n 0), (73, 76, 0, .getfield 13), (76, 77, 0, .iload_n 1), (77, 78, 0, .iload_n 3), (78, 80, 0, .iload 5), (80, 83, 0, .invokestatic 107), (83, 84, 0, .aload_n 0), (84, 87, 0, .getfield 13), (87, 88, 0, .iload_n 1), (88, 89, 0, .iload_n 3), (89, 91, 0, .iload 5), (91, 94, 0, .invokestatic 107), (94, 95, 0, .iaload), (95, 97, 0, .iload 4), (97, 98, 0, .aload_n 0), (98, 101, 0, .getfield 13), (101, 102, 0, .iload_n 2), (102, 103, 0, .iload_n 3), (103, 105, 0, .iload 5), (105, 108, 0, .invokestatic 107), (108, 109, 0, .iaload), (109, 110, 0, .imul), (110, 111, 0, .iadd), (111, 112, 0, .aload_n 0), (112, 115, 0, .getfield 65), (115, 116, 0, .irem), (116, 117, 0, .iastore), (117, 120, 1, .iinc 5 1), (120, 123, 65, .goto (-55)), (123, 124, 0, .aload_n 0), (124, 125, 0, .iload_n 2), (125, 128, 0, .invokevirtual 167), (128, 129, 1, .iconst 1)]
theorem ok_X12_joinsTwo_1 : ∀ e ∈ k_X12_joinsTwo_1, z_okb cX12_joinsTwo e = true := fun e h => List.all_eq_true.mp (by decide +kernel : k_X12_joinsTwo_1.all (z_okb cX12_joinsTwo) = true) e h
def k_X12_joinsTwo_2 : List zI := [(129, 130, 0, .ireturn), (130, 133, 1, .iinc 3 1), (133, 136, 24, .goto (-109)), (136, 139, 1, .iinc 2 1), (139, 142, 14, .goto (-125)), (142, 145, 1, .iinc 1 1), (145, 148, 2, .goto (-143)), (148, 149, 0, .iconst 0), (149, 150, 0, .ireturn)]
theorem ok_X12_joinsTwo_2 : ∀ e ∈ k_X12_joinsTwo_2, z_okb cX12_joinsTwo e = true := fun e h => List.all_eq_true.mp (by decide +kernel : k_X12_joinsTwo_2.all (z_okb cX12_joinsTwo) = true) e h
def k_X12_joinsTwo : List zI := k_X12_joinsTwo_0 ++ (k_X12_joinsTwo_1 ++ (k_X12_joinsTwo_2))
theorem ok_X12_joinsTwo : ∀ e ∈ k_X12_joinsTwo, z_okb cX12_joinsTwo e = true := List.forall_mem_append.mpr ⟨ok_X12_joinsTwo_0, List.forall_mem_append.mpr ⟨ok_X12_joinsTwo_1, ok_X12_joinsTwo_2⟩⟩
def k_X12_joinsAll : List zI := [(0, 1, 0, .aload_n 0), (1, 2, 0, .iconst 0), (2, 5, 0, .putfield 235), (5, 6, 0, .aload_n 0), (6, 7, 0, .iconst 0), (7, 10, 0, .putfield 238), (10, 11, 1, .iconst 1), (11, 12, 0, .istore_n 1), (12, 13, 0, .iload_n 1), (13, 16, 69, .ifCond .eq 56), (16, 17, 0, .aload_n 0), (17, 20, 0, .invokevirtual 241), (20, 21, 0, .istore_n 2), (21, 22, 0, .iload_n 2), (22, 23, 1, .iconst (-1)), (23, 26, 44, .if_icmp .eq 21), (26, 27, 0, .aload_n 0), (27, 28, 0, .iload_n 2), (28, 31, 0, .invokevirtual 167), (31, 32, 0, .aload_n 0), (32, 33, 0, .dup), (33, 36, 0, .getfield 235), (36, 37, 1, .iconst 1), (37, 38, 0, .iadd), (38, 41, 0, .putfield 235), (41, 44, 66, .goto 25), (44, 45, 0, .aload_n 0), (45, 48, 0, .invokevirtual 244), (48, 51, 64, .ifCond .eq 16), (51, 52, 0, .aload_n 0), (52, 53, 0, .dup), (53, 56, 0, .getfield 238), (56, 57, 1, .iconst 1), (57, 58, 0, .iadd), (58, 61, 0, .putfield 238), (61, 64, 66, .goto 5), (64, 65, 0, .iconst 0), (65, 66, 0, .istore_n 1), (66, 69, 12, .goto (-54)), (69, 70, 0, .return_)]
theorem ok_X12_joinsAll : ∀ e ∈ k_X12_joinsAll, z_okb cX12_joinsAll e = true := fun e h => List.all_eq_true.mp (by decide +kernel : k_X12_joinsAll.all (z_okb cX12_joinsAll) = true) e h
def k_X12_joins : List zI := [(0, 1, 0, .aload_n 0), (1, 2, 0, .iconst 0), (2, 5, 0, .putfield 71), (5, 6, 0, .aload_n 0), (6, 9, 0, .invokevirtual 248), (9, 10, 0, .aload_n 0), (10, 11, 0, .iconst 0), (11, 14, 0, .putfield 74), (14, 15, 0, .aload_n 0), (15, 16, 0, .aload_n 0), (16, 19, 0, .getfield 235), (19, 20, 0, .i2l), (20, 23, 0, .invokevirtual 192), (23, 24, 0, .aload_n 0), (24, 25, 0, .aload_n 0), (25, 28, 0, .getfield 238), (28, 29, 0, .i2l), (29, 32, 0, .invokevirtual 192), (32, 33, 0, .aload_n 0), (33, 36, 0, .getfield 235), (36, 37, 0, .aload_n 0), (37, 40, 0, .getfield 238), (40, 41, 0, .iadd), (41, 42, 0, .ireturn)]
theorem ok_X12_joins : ∀ e ∈ k_X12_joins, z_okb cX12_joins e = true := fun e h => List.all_eq_true.mp (by decide +kernel : k_X12_joins.all (z_okb cX12_joins) = true) e h
def k_X12_takenLead : List zI := [(0, 1, 0, .iconst 0), (1, 2, 0, .istore_n 2), (2, 3, 0, .aload_n 0), (3, 6, 0, .getfield 40), (6, 8, 18, .bipush 18), (8, 9, 0, .iload_n 1), (9, 10, 0, .imul), (10, 11, 0, .iload_n 2), (11, 12, 0, .iadd), (12, 13, 0, .iaload), (13, 16, 22, .ifCond .ne 9), (16, 19, 1, .iinc 2 1), (19, 22, 2, .goto (-17)), (22, 23, 0, .iload_n 2), (23, 24, 0, .ireturn)]
theorem ok_X12_takenLead : ∀ e ∈ k_X12_takenLead, z_okb cX12_takenLead e = true := fun e h => List.all_eq_true.mp (by decide +kernel : k_X12_takenLead.all (z_okb cX12_takenLead) = true) e h
def k_X12_isSum_0 : List zI := [(0, 2, 18, .bipush 18), (2, 3, 0, .aload_n 0), (3, 6, 0, .getfield 251), (6, 7, 0, .imul), (7, 8, 0, .istore_n 1), (8, 9, 0, .iconst 0), (9, 10, 0, .istore_n 2), (10, 11, 0, .iload_n 2), (11, 12, 0, .aload_n 0), (12, 15, 0, .getfield 251), (15, 18, 90, .if_icmp .ge 75), (18, 19, 0, .aload_n 0), (19, 22, 0, .getfield 40), (22, 23, 0, .iload_n 1), (23, 24, 0, .aload_n 0), (24, 25, 0, .iload_n 2), (25, 28, 0, .invokevirtual 254), (28, 29, 0, .iadd), (29, 30, 0, .iaload), (30, 31, 0, .istore_n 3), (31, 32, 0, .iconst 0), (32, 34, 0, .istore 4), (34, 36, 0, .iload 4), (36, 38, 18, .bipush 18), (38, 41, 84, .if_icmp .ge 46), (41, 42, 0, .aload_n 0), (42, 45, 0, .getfield 40), (45, 46, 0, .iload_n 1), (46, 48, 0, .iload 4), (48, 49, 0, .iadd), (49, 50, 0, .aload_n 0), (50, 51, 0, .aload_n 0), (51, 54, 0, .getfield 40), (54, 55, 0, .iload_n 1), (55, 57, 0, .iload 4), (57, 58, 0, .iadd), (58, 59, 0, .iaload), (59, 60, 0, .iload_n 3), (60, 61, 0, .aload_n 0), (61, 64, 0, .getfield 40)]
theorem ok_X12_isSum_0 : ∀ e ∈ k_X12_isSum_0, z_okb cX12_isSum e = true := fun e h => List.all_eq_true.mp (by decide +kernel : k_X12_isSum_0.all (z_okb cX12_isSum) = true) e h
def k_X12_isSum_1 : List zI := [(64, 66, 18, .bipush 18), (66, 67, 0, .iload_n 2), (67, 68, 0, .imul), (68, 70, 0, .iload 4), (70, 71, 0, .iadd), (71, 72, 0, .iaload), (72, 73, 0, .imul), (73, 74, 0, .isub), (74, 77, 0, .invokevirtual 223), (77, 78, 0, .iastore), (78, 81, 1, .iinc 4 1), (81, 84, 34, .goto (-47)), (84, 87, 1, .iinc 2 1), (87, 90, 10, .goto (-77)), (90, 91, 0, .aload_n 0), (91, 94, 0, .getfield 40), (94, 95, 0, .iload_n 1), (95, 98, 0, .invokestatic 209), (98, 99, 0, .ireturn)]
theorem ok_X12_isSum_1 : ∀ e ∈ k_X12_isSum_1, z_okb cX12_isSum e = true := fun e h => List.all_eq_true.mp (by decide +kernel : k_X12_isSum_1.all (z_okb cX12_isSum) = true) e h
def k_X12_isSum : List zI := k_X12_isSum_0 ++ (k_X12_isSum_1)
theorem ok_X12_isSum : ∀ e ∈ k_X12_isSum, z_okb cX12_isSum e = true := List.forall_mem_append.mpr ⟨ok_X12_isSum_0, ok_X12_isSum_1⟩
def k_X12_laysBehind : List zI := [(0, 2, 18, .bipush 18), (2, 3, 0, .aload_n 0), (3, 6, 0, .getfield 251), (6, 7, 0, .imul), (7, 9, 0, .istore 4), (9, 10, 0, .iconst 0), (10, 12, 0, .istore 5), (12, 14, 0, .iload 5), (14, 16, 9, .bipush 9), (16, 19, 68, .if_icmp .ge 52), (19, 20, 0, .aload_n 0), (20, 23, 0, .getfield 40), (23, 25, 0, .iload 4), (25, 27, 0, .iload 5), (27, 28, 0, .iadd), (28, 29, 0, .aload_n 0), (29, 32, 0, .getfield 13), (32, 33, 0, .iload_n 1), (33, 34, 0, .iload_n 2), (34, 36, 0, .iload 5), (36, 39, 0, .invokestatic 107), (39, 40, 0, .iaload), (40, 41, 0, .iload_n 3), (41, 42, 0, .imul), (42, 43, 0, .aload_n 0), (43, 46, 0, .getfield 65), (46, 47, 0, .irem), (47, 48, 0, .iastore), (48, 49, 0, .aload_n 0), (49, 52, 0, .getfield 40), (52, 54, 0, .iload 4), (54, 56, 9, .bipush 9), (56, 57, 0, .iadd), (57, 59, 0, .iload 5), (59, 60, 0, .iadd), (60, 61, 0, .iconst 0), (61, 62, 0, .iastore), (62, 65, 1, .iinc 5 1), (65, 68, 12, .goto (-53)), (68, 69, 0, .return_)]
theorem ok_X12_laysBehind : ∀ e ∈ k_X12_laysBehind, z_okb cX12_laysBehind e = true := fun e h => List.all_eq_true.mp (by decide +kernel : k_X12_laysBehind.all (z_okb cX12_laysBehind) = true) e h
def k_X12_takes_0 : List zI := [(0, 2, 18, .bipush 18), (2, 3, 0, .aload_n 0), (3, 6, 0, .getfield 251), (6, 7, 0, .imul), (7, 8, 0, .istore_n 2), (8, 9, 0, .aload_n 0), (9, 12, 0, .getfield 40), (12, 13, 0, .iload_n 2), (13, 14, 0, .aload_n 0), (14, 15, 0, .aload_n 0), (15, 18, 0, .getfield 251), (18, 21, 0, .invokevirtual 254), (21, 22, 0, .iadd), (22, 23, 0, .iaload), (23, 24, 0, .istore_n 3), (24, 25, 0, .iconst 0), (25, 27, 0, .istore 4), (27, 29, 0, .iload 4), (29, 31, 18, .bipush 18), (31, 34, 65, .if_icmp .ge 34), (34, 35, 0, .aload_n 0), (35, 38, 0, .getfield 40), (38, 39, 0, .iload_n 2), (39, 41, 0, .iload 4), (41, 42, 0, .iadd), (42, 43, 0, .aload_n 0), (43, 46, 0, .getfield 40), (46, 47, 0, .iload_n 2), (47, 49, 0, .iload 4), (49, 50, 0, .iadd), (50, 51, 0, .iaload), (51, 52, 0, .iload_n 3), (52, 53, 0, .imul), (53, 54, 0, .aload_n 0), (54, 57, 0, .getfield 65), (57, 58, 0, .irem), (58, 59, 0, .iastore), (59, 62, 1, .iinc 4 1), (62, 65, 27, .goto (-35)), (65, 66, 0, .aload_n 0)]
theorem ok_X12_takes_0 : ∀ e ∈ k_X12_takes_0, z_okb cX12_takes e = true := fun e h => List.all_eq_true.mp (by decide +kernel : k_X12_takes_0.all (z_okb cX12_takes) = true) e h
def k_X12_takes_1 : List zI := [(66, 69, 0, .getfield 43), (69, 70, 0, .aload_n 0), (70, 73, 0, .getfield 251), (73, 74, 0, .iload_n 1), (74, 75, 0, .iastore), (75, 76, 0, .aload_n 0), (76, 77, 0, .dup), (77, 80, 0, .getfield 251), (80, 81, 1, .iconst 1), (81, 82, 0, .iadd), (82, 85, 0, .putfield 251), (85, 86, 0, .return_)]
theorem ok_X12_takes_1 : ∀ e ∈ k_X12_takes_1, z_okb cX12_takes e = true := fun e h => List.all_eq_true.mp (by decide +kernel : k_X12_takes_1.all (z_okb cX12_takes) = true) e h
def k_X12_takes : List zI := k_X12_takes_0 ++ (k_X12_takes_1)
theorem ok_X12_takes : ∀ e ∈ k_X12_takes, z_okb cX12_takes e = true := List.forall_mem_append.mpr ⟨ok_X12_takes_0, ok_X12_takes_1⟩
def k_X12_isShed_0 : List zI := [(0, 1, 0, .aload_n 0), (1, 2, 0, .iload_n 1), (2, 5, 0, .invokevirtual 226), (5, 8, 10, .ifCond .eq 5), (8, 9, 0, .iconst 0), (9, 10, 0, .ireturn), (10, 11, 0, .aload_n 0), (11, 12, 0, .iconst 0), (12, 15, 0, .putfield 251), (15, 16, 0, .iconst 0), (16, 18, 0, .istore 5), (18, 20, 0, .iload 5), (20, 21, 0, .iload_n 1), (21, 24, 112, .if_icmp .ge 91), (24, 25, 0, .aload_n 0), (25, 26, 0, .iload_n 1), (26, 28, 0, .iload 5), (28, 29, 0, .iload_n 2), (29, 32, 0, .invokevirtual 217), (32, 34, 0, .istore 6), (34, 36, 0, .iload 6), (36, 39, 106, .ifCond .eq 70), (39, 40, 0, .aload_n 0), (40, 42, 0, .iload 5), (42, 45, 0, .invokevirtual 226), (45, 48, 106, .ifCond .ne 61), (48, 49, 0, .aload_n 0), (49, 52, 0, .getfield 251), (52, 53, 0, .aload_n 0), (53, 54, 0, .iload_n 3), (54, 57, 0, .invokevirtual 96), (57, 60, 63, .if_icmp .ne 6), (60, 63, 106, .goto 46), (63, 64, 0, .aload_n 0), (64, 66, 0, .iload 5), (66, 67, 0, .iload_n 3), (67, 69, 0, .iload 6), (69, 72, 0, .invokevirtual 257), (72, 73, 0, .aload_n 0), (73, 76, 0, .getfield 40)]
theorem ok_X12_isShed_0 : ∀ e ∈ k_X12_isShed_0, z_okb cX12_isShed e = true := fun e h => List.all_eq_true.mp (by decide +kernel : k_X12_isShed_0.all (z_okb cX12_isShed) = true) e h
def k_X12_isShed_1 : List zI := [(76, 78, 18, .bipush 18), (78, 79, 0, .aload_n 0), (79, 82, 0, .getfield 251), (82, 83, 0, .imul), (83, 85, 9, .bipush 9), (85, 86, 0, .iadd), (86, 87, 0, .aload_n 0), (87, 90, 0, .getfield 251), (90, 91, 0, .iadd), (91, 92, 1, .iconst 1), (92, 93, 0, .iastore), (93, 94, 0, .aload_n 0), (94, 97, 0, .invokevirtual 260), (97, 100, 106, .ifCond .ne 9), (100, 101, 0, .aload_n 0), (101, 103, 0, .iload 5), (103, 106, 0, .invokevirtual 263), (106, 109, 1, .iinc 5 1), (109, 112, 18, .goto (-91)), (112, 113, 0, .aload_n 0), (113, 114, 0, .iload_n 1), (114, 115, 0, .iload_n 3), (115, 116, 1, .iconst 1), (116, 119, 0, .invokevirtual 257), (119, 120, 0, .aload_n 0), (120, 123, 0, .invokevirtual 260), (123, 126, 128, .ifCond .ne 5), (126, 127, 0, .iconst 0), (127, 128, 0, .ireturn), (128, 130, 18, .bipush 18), (130, 131, 0, .aload_n 0), (131, 134, 0, .getfield 251), (134, 135, 0, .imul), (135, 137, 9, .bipush 9), (137, 138, 0, .iadd), (138, 140, 0, .istore 5), (140, 141, 0, .iconst 0), (141, 143, 0, .istore 6), (143, 145, 0, .iload 6), (145, 146, 0, .aload_n 0)]
theorem ok_X12_isShed_1 : ∀ e ∈ k_X12_isShed_1, z_okb cX12_isShed e = true := fun e h => List.all_eq_true.mp (by decide +kernel : k_X12_isShed_1.all (z_okb cX12_isShed) = true) e h
def k_X12_isShed_2 : List zI := [(146, 149, 0, .getfield 251), (149, 152, 251, .if_icmp .ge 102), (152, 153, 0, .aload_n 0), (153, 154, 0, .aload_n 0), (154, 157, 0, .getfield 40), (157, 159, 0, .iload 5), (159, 161, 0, .iload 6), (161, 162, 0, .iadd), (162, 163, 0, .iaload), (163, 164, 0, .ineg), (164, 167, 0, .invokevirtual 223), (167, 169, 0, .istore 7), (169, 170, 0, .iconst 0), (170, 172, 0, .istore 8), (172, 174, 0, .iload 8), (174, 176, 9, .bipush 9), (176, 179, 245, .if_icmp .ge 69), (179, 180, 0, .aload_n 0), (180, 183, 0, .getfield 13), (183, 184, 0, .aload_n 0), (184, 187, 0, .getfield 43), (187, 189, 0, .iload 6), (189, 190, 0, .iaload), (190, 192, 0, .iload 4), (192, 194, 0, .iload 8), (194, 197, 0, .invokestatic 107), (197, 198, 0, .aload_n 0), (198, 201, 0, .getfield 13), (201, 202, 0, .aload_n 0), (202, 205, 0, .getfield 43), (205, 207, 0, .iload 6), (207, 208, 0, .iaload), (208, 210, 0, .iload 4), (210, 212, 0, .iload 8), (212, 215, 0, .invokestatic 107), (215, 216, 0, .iaload), (216, 218, 0, .iload 7), (218, 219, 0, .aload_n 0), (219, 222, 0, .getfield 13), (222, 223, 0, .iload_n 1)]
theorem ok_X12_isShed_2 : ∀ e ∈ k_X12_isShed_2, z_okb cX12_isShed e = true := fun e h => List.all_eq_true.mp (by decide +kernel : k_X12_isShed_2.all (z_okb cX12_isShed) = true) e h
def k_X12_isShed_3 : List zI := [(223, 225, 0, .iload 4), (225, 227, 0, .iload 8), (227, 230, 0, .invokestatic 107), (230, 231, 0, .iaload), (231, 232, 0, .imul), (232, 233, 0, .iadd), (233, 234, 0, .aload_n 0), (234, 237, 0, .getfield 65), (237, 238, 0, .irem), (238, 239, 0, .iastore), (239, 242, 1, .iinc 8 1), (242, 245, 172, .goto (-70)), (245, 248, 1, .iinc 6 1), (248, 251, 143, .goto (-105)), (251, 252, 0, .aload_n 0), (252, 253, 0, .iload_n 1), (253, 256, 0, .invokevirtual 167), (256, 257, 1, .iconst 1), (257, 258, 0, .ireturn)]
theorem ok_X12_isShed_3 : ∀ e ∈ k_X12_isShed_3, z_okb cX12_isShed e = true := fun e h => List.all_eq_true.mp (by decide +kernel : k_X12_isShed_3.all (z_okb cX12_isShed) = true) e h
def k_X12_isShed : List zI := k_X12_isShed_0 ++ (k_X12_isShed_1 ++ (k_X12_isShed_2 ++ (k_X12_isShed_3)))
theorem ok_X12_isShed : ∀ e ∈ k_X12_isShed, z_okb cX12_isShed e = true := List.forall_mem_append.mpr ⟨ok_X12_isShed_0, List.forall_mem_append.mpr ⟨ok_X12_isShed_1, List.forall_mem_append.mpr ⟨ok_X12_isShed_2, ok_X12_isShed_3⟩⟩⟩
def k_X12_shedsOne : List zI := [(0, 1, 0, .iconst 0), (1, 2, 0, .istore_n 1), (2, 3, 0, .iload_n 1), (3, 4, 3, .iconst 3), (4, 7, 74, .if_icmp .ge 70), (7, 8, 1, .iconst 1), (8, 9, 0, .istore_n 2), (9, 10, 0, .iload_n 2), (10, 11, 3, .iconst 3), (11, 14, 68, .if_icmp .ge 57), (14, 15, 0, .iload_n 1), (15, 16, 0, .iload_n 2), (16, 17, 0, .iadd), (17, 18, 3, .iconst 3), (18, 19, 0, .irem), (19, 20, 0, .istore_n 3), (20, 21, 0, .iload_n 1), (21, 22, 3, .iconst 3), (22, 23, 0, .iadd), (23, 24, 0, .iload_n 2), (24, 25, 0, .isub), (25, 26, 3, .iconst 3), (26, 27, 0, .irem), (27, 29, 0, .istore 4), (29, 30, 0, .iconst 0), (30, 32, 0, .istore 5), (32, 34, 0, .iload 5), (34, 35, 0, .aload_n 0), (35, 38, 0, .getfield 91), (38, 41, 62, .if_icmp .ge 24), (41, 42, 0, .aload_n 0), (42, 44, 0, .iload 5), (44, 45, 0, .iload_n 1), (45, 46, 0, .iload_n 3), (46, 48, 0, .iload 4), (48, 51, 0, .invokevirtual 266), (51, 54, 56, .ifCond .eq 5), (54, 55, 0, .iload_n 1), (55, 56, 0, .ireturn), (56, 59, 1, .iinc 5 1), (59, 62, 32, .goto (-27)), (62, 65, 1, .iinc 2 1), (65, 68, 9, .goto (-56)), (68, 71, 1, .iinc 1 1), (71, 74, 2, .goto (-69)), (74, 75, 1, .iconst (-1)), (75, 76, 0, .ireturn)]
theorem ok_X12_shedsOne : ∀ e ∈ k_X12_shedsOne, z_okb cX12_shedsOne e = true := fun e h => List.all_eq_true.mp (by decide +kernel : k_X12_shedsOne.all (z_okb cX12_shedsOne) = true) e h
def k_X12_sheds_0 : List zI := [(0, 1, 0, .aload_n 0), (1, 2, 0, .iconst 0), (2, 5, 0, .putfield 71), (5, 6, 0, .iconst 0), (6, 7, 0, .istore_n 1), (7, 8, 0, .iload_n 1), (8, 9, 3, .iconst 3), (9, 12, 25, .if_icmp .ge 16), (12, 13, 0, .aload_n 0), (13, 16, 0, .getfield 46), (16, 17, 0, .iload_n 1), (17, 18, 0, .iconst 0), (18, 19, 0, .iastore), (19, 22, 1, .iinc 1 1), (22, 25, 7, .goto (-15)), (25, 26, 0, .iconst 0), (26, 27, 0, .istore_n 1), (27, 28, 0, .aload_n 0), (28, 31, 0, .invokevirtual 270), (31, 32, 0, .istore_n 2), (32, 33, 0, .iload_n 2), (33, 34, 1, .iconst (-1)), (34, 37, 58, .if_icmp .eq 24), (37, 38, 0, .aload_n 0), (38, 41, 0, .getfield 46), (41, 42, 0, .iload_n 2), (42, 43, 0, .dup2), (43, 44, 0, .iaload), (44, 45, 1, .iconst 1), (45, 46, 0, .iadd), (46, 47, 0, .iastore), (47, 50, 1, .iinc 1 1), (50, 51, 0, .aload_n 0), (51, 54, 0, .invokevirtual 270), (54, 55, 0, .istore_n 2), (55, 58, 32, .goto (-23)), (58, 59, 0, .aload_n 0), (59, 60, 0, .iconst 0), (60, 63, 0, .putfield 74), (63, 64, 0, .iconst 0)]
theorem ok_X12_sheds_0 : ∀ e ∈ k_X12_sheds_0, z_okb cX12_sheds e = true := fun e h => List.all_eq_true.mp (by decide +kernel : k_X12_sheds_0.all (z_okb cX12_sheds) = true) e h
def k_X12_sheds_1 : List zI := [(64, 65, 0, .istore_n 2), (65, 66, 0, .iload_n 2), (66, 67, 3, .iconst 3), (67, 70, 87, .if_icmp .ge 20), (70, 71, 0, .aload_n 0), (71, 72, 0, .aload_n 0), (72, 75, 0, .getfield 46), (75, 76, 0, .iload_n 2), (76, 77, 0, .iaload), (77, 78, 0, .i2l), (78, 81, 0, .invokevirtual 192), (81, 84, 1, .iinc 2 1), (84, 87, 65, .goto (-19)), (87, 88, 0, .iload_n 1), (88, 89, 0, .ireturn)]
theorem ok_X12_sheds_1 : ∀ e ∈ k_X12_sheds_1, z_okb cX12_sheds e = true := fun e h => List.all_eq_true.mp (by decide +kernel : k_X12_sheds_1.all (z_okb cX12_sheds) = true) e h
def k_X12_sheds : List zI := k_X12_sheds_0 ++ (k_X12_sheds_1)
theorem ok_X12_sheds : ∀ e ∈ k_X12_sheds, z_okb cX12_sheds e = true := List.forall_mem_append.mpr ⟨ok_X12_sheds_0, ok_X12_sheds_1⟩
def k_X12_splits_0 : List zI := [(0, 1, 0, .aload_n 0), (1, 2, 0, .iconst 0), (2, 5, 0, .putfield 71), (5, 6, 0, .aload_n 0), (6, 9, 0, .invokevirtual 151), (9, 10, 0, .aload_n 0), (10, 11, 0, .iconst 0), (11, 12, 0, .iload_n 2), (12, 15, 0, .invokestatic 170), (15, 18, 22, .ifCond .eq 7), (18, 19, 0, .iload_n 2), (19, 22, 23, .goto 4), (22, 23, 0, .iconst 0), (23, 26, 0, .invokevirtual 147), (26, 27, 0, .aload_n 0), (27, 30, 0, .getfield 119), (30, 31, 1, .iconst (-1)), (31, 34, 38, .if_icmp .ne 7), (34, 35, 0, .aload_n 0), (35, 38, 0, .invokevirtual 157), (38, 39, 0, .aload_n 0), (39, 42, 0, .getfield 119), (42, 43, 1, .iconst (-1)), (43, 46, 51, .if_icmp .eq 8), (46, 47, 0, .aload_n 0), (47, 50, 0, .invokevirtual 160), (50, 51, 0, .ireturn), (51, 52, 0, .aload_n 0), (52, 53, 0, .iload_n 1), (53, 56, 0, .invokevirtual 163), (56, 59, 66, .ifCond .eq 10), (59, 60, 0, .iload_n 2), (60, 63, 0, .invokestatic 170), (63, 66, 68, .ifCond .ne 5), (66, 67, 1, .iconst (-1)), (67, 68, 0, .ireturn), (68, 69, 0, .aload_n 0), (69, 72, 0, .getfield 91), (72, 74, 40, .bipush 40), (74, 77, 80, .if_icmp .ne 6)]
theorem ok_X12_splits_0 : ∀ e ∈ k_X12_splits_0, z_okb cX12_splits e = true := fun e h => List.all_eq_true.mp (by decide +kernel : k_X12_splits_0.all (z_okb cX12_splits) = true) e h
def k_X12_splits_1 : List zI := [(77, 79, 2, .bipush (-2)), (79, 80, 0, .ireturn), (80, 81, 1, .iconst 1), (81, 82, 0, .istore_n 3), (82, 83, 0, .iconst 0), (83, 85, 0, .istore 4), (85, 87, 0, .iload 4), (87, 89, 9, .bipush 9), (89, 92, 130, .if_icmp .ge 41), (92, 93, 0, .iload_n 3), (93, 96, 122, .ifCond .eq 29), (96, 97, 0, .aload_n 0), (97, 100, 0, .getfield 34), (100, 102, 0, .iload 4), (102, 103, 0, .iaload), (103, 104, 0, .aload_n 0), (104, 107, 0, .getfield 13), (107, 108, 0, .iload_n 1), (108, 109, 0, .iload_n 2), (109, 111, 0, .iload 4), (111, 114, 0, .invokestatic 107), (114, 115, 0, .iaload), (115, 118, 122, .if_icmp .ne 7), (118, 119, 1, .iconst 1), (119, 122, 123, .goto 4), (122, 123, 0, .iconst 0), (123, 124, 0, .istore_n 3), (124, 127, 1, .iinc 4 1), (127, 130, 85, .goto (-42)), (130, 131, 0, .iload_n 3), (131, 134, 137, .ifCond .eq 6), (134, 136, 3, .bipush (-3)), (136, 137, 0, .ireturn), (137, 138, 0, .iconst 0), (138, 140, 0, .istore 4), (140, 142, 0, .iload 4), (142, 144, 27, .bipush 27), (144, 147, 180, .if_icmp .ge 36), (147, 148, 0, .aload_n 0), (148, 151, 0, .getfield 13)]
theorem ok_X12_splits_1 : ∀ e ∈ k_X12_splits_1, z_okb cX12_splits e = true := fun e h => List.all_eq_true.mp (by decide +kernel : k_X12_splits_1.all (z_okb cX12_splits) = true) e h
def k_X12_splits_2 : List zI := [(151, 153, 27, .bipush 27), (153, 154, 0, .aload_n 0), (154, 157, 0, .getfield 91), (157, 158, 0, .imul), (158, 160, 0, .iload 4), (160, 161, 0, .iadd), (161, 162, 0, .aload_n 0), (162, 165, 0, .getfield 13), (165, 167, 27, .bipush 27), (167, 168, 0, .iload_n 1), (168, 169, 0, .imul), (169, 171, 0, .iload 4), (171, 172, 0, .iadd), (172, 173, 0, .iaload), (173, 174, 0, .iastore), (174, 177, 1, .iinc 4 1), (177, 180, 140, .goto (-37)), (180, 181, 0, .iconst 0), (181, 183, 0, .istore 4), (183, 185, 0, .iload 4), (185, 187, 9, .bipush 9), (187, 190, 254, .if_icmp .ge 67), (190, 191, 0, .aload_n 0), (191, 194, 0, .getfield 13), (194, 195, 0, .aload_n 0), (195, 198, 0, .getfield 91), (198, 199, 0, .iload_n 2), (199, 201, 0, .iload 4), (201, 204, 0, .invokestatic 107), (204, 205, 0, .aload_n 0), (205, 206, 0, .aload_n 0), (206, 209, 0, .getfield 13), (209, 210, 0, .iload_n 1), (210, 211, 0, .iload_n 2), (211, 213, 0, .iload 4), (213, 216, 0, .invokestatic 107), (216, 217, 0, .iaload), (217, 218, 0, .aload_n 0), (218, 221, 0, .getfield 34), (221, 223, 0, .iload 4)]
theorem ok_X12_splits_2 : ∀ e ∈ k_X12_splits_2, z_okb cX12_splits e = true := fun e h => List.all_eq_true.mp (by decide +kernel : k_X12_splits_2.all (z_okb cX12_splits) = true) e h
def k_X12_splits_3 : List zI := [(223, 224, 0, .iaload), (224, 225, 0, .isub), (225, 228, 0, .invokevirtual 223), (228, 229, 0, .iastore), (229, 230, 0, .aload_n 0), (230, 233, 0, .getfield 13), (233, 234, 0, .iload_n 1), (234, 235, 0, .iload_n 2), (235, 237, 0, .iload 4), (237, 240, 0, .invokestatic 107), (240, 241, 0, .aload_n 0), (241, 244, 0, .getfield 34), (244, 246, 0, .iload 4), (246, 247, 0, .iaload), (247, 248, 0, .iastore), (248, 251, 1, .iinc 4 1), (251, 254, 183, .goto (-68)), (254, 255, 0, .aload_n 0), (255, 256, 0, .dup), (256, 259, 0, .getfield 91), (259, 260, 1, .iconst 1), (260, 261, 0, .iadd), (261, 264, 0, .putfield 91), (264, 265, 0, .aload_n 0), (265, 268, 0, .getfield 91), (268, 269, 0, .ireturn)]
theorem ok_X12_splits_3 : ∀ e ∈ k_X12_splits_3, z_okb cX12_splits e = true := fun e h => List.all_eq_true.mp (by decide +kernel : k_X12_splits_3.all (z_okb cX12_splits) = true) e h
def k_X12_splits : List zI := k_X12_splits_0 ++ (k_X12_splits_1 ++ (k_X12_splits_2 ++ (k_X12_splits_3)))
theorem ok_X12_splits : ∀ e ∈ k_X12_splits, z_okb cX12_splits e = true := List.forall_mem_append.mpr ⟨ok_X12_splits_0, List.forall_mem_append.mpr ⟨ok_X12_splits_1, List.forall_mem_append.mpr ⟨ok_X12_splits_2, ok_X12_splits_3⟩⟩⟩
def k_X12_plus_0 : List zI := [(0, 1, 0, .aload_n 0), (1, 2, 0, .iconst 0), (2, 5, 0, .putfield 71), (5, 6, 0, .aload_n 0), (6, 7, 0, .iload_n 1), (7, 10, 0, .invokevirtual 163), (10, 13, 28, .ifCond .eq 18), (13, 14, 0, .aload_n 0), (14, 15, 0, .iload_n 2), (15, 18, 0, .invokevirtual 163), (18, 21, 28, .ifCond .eq 10), (21, 22, 0, .iload_n 3), (22, 25, 0, .invokestatic 170), (25, 28, 30, .ifCond .ne 5), (28, 29, 1, .iconst (-1)), (29, 30, 0, .ireturn), (30, 31, 0, .iload_n 1), (31, 32, 0, .iload_n 2), (32, 35, 38, .if_icmp .ne 6), (35, 37, 2, .bipush (-2)), (37, 38, 0, .ireturn), (38, 39, 0, .aload_n 0), (39, 42, 0, .getfield 91), (42, 44, 40, .bipush 40), (44, 47, 50, .if_icmp .ne 6), (47, 49, 3, .bipush (-3)), (49, 50, 0, .ireturn), (50, 51, 0, .iload_n 3), (51, 52, 1, .iconst 1), (52, 53, 0, .iadd), (53, 54, 3, .iconst 3), (54, 55, 0, .irem), (55, 57, 0, .istore 4), (57, 58, 0, .iload_n 3), (58, 59, 2, .iconst 2), (59, 60, 0, .iadd), (60, 61, 3, .iconst 3), (61, 62, 0, .irem), (62, 64, 0, .istore 5), (64, 65, 0, .iconst 0)]
theorem ok_X12_plus_0 : ∀ e ∈ k_X12_plus_0, z_okb cX12_plus e = true := fun e h => List.all_eq_true.mp (by decide +kernel : k_X12_plus_0.all (z_okb cX12_plus) = true) e h
def k_X12_plus_1 : List zI := [(65, 67, 0, .istore 6), (67, 69, 0, .iload 6), (69, 71, 9, .bipush 9), (71, 74, 294, .if_icmp .ge 223), (74, 75, 0, .aload_n 0), (75, 78, 0, .getfield 13), (78, 79, 0, .aload_n 0), (79, 82, 0, .getfield 91), (82, 83, 0, .iload_n 3), (83, 85, 0, .iload 6), (85, 88, 0, .invokestatic 107), (88, 89, 0, .aload_n 0), (89, 90, 0, .aload_n 0), (90, 93, 0, .getfield 13), (93, 94, 0, .iload_n 2), (94, 95, 0, .iload_n 3), (95, 97, 0, .iload 6), (97, 100, 0, .invokestatic 107), (100, 101, 0, .iaload), (101, 102, 0, .aload_n 0), (102, 105, 0, .getfield 13), (105, 106, 0, .iload_n 1), (106, 107, 0, .iload_n 3), (107, 109, 0, .iload 6), (109, 112, 0, .invokestatic 107), (112, 113, 0, .iaload), (113, 114, 0, .isub), (114, 117, 0, .invokevirtual 223), (117, 118, 0, .iastore), (118, 119, 0, .aload_n 0), (119, 122, 0, .getfield 13), (122, 123, 0, .aload_n 0), (123, 126, 0, .getfield 91), (126, 128, 0, .iload 4), (128, 130, 0, .iload 6), (130, 133, 0, .invokestatic 107), (133, 134, 0, .aload_n 0), (134, 137, 0, .getfield 13), (137, 138, 0, .iload_n 2), (138, 140, 0, .iload 4)]
theorem ok_X12_plus_1 : ∀ e ∈ k_X12_plus_1, z_okb cX12_plus e = true := fun e h => List.all_eq_true.mp (by decide +kernel : k_X12_plus_1.all (z_okb cX12_plus) = true) e h
def k_X12_plus_2 : List zI := [(140, 142, 0, .iload 6), (142, 145, 0, .invokestatic 107), (145, 146, 0, .iaload), (146, 147, 0, .iastore), (147, 148, 0, .aload_n 0), (148, 151, 0, .getfield 13), (151, 152, 0, .aload_n 0), (152, 155, 0, .getfield 91), (155, 157, 0, .iload 5), (157, 159, 0, .iload 6), (159, 162, 0, .invokestatic 107), (162, 163, 0, .aload_n 0), (163, 166, 0, .getfield 13), (166, 167, 0, .iload_n 2), (167, 169, 0, .iload 5), (169, 171, 0, .iload 6), (171, 174, 0, .invokestatic 107), (174, 175, 0, .iaload), (175, 176, 0, .iastore), (176, 177, 0, .aload_n 0), (177, 180, 0, .getfield 13), (180, 181, 0, .iload_n 2), (181, 182, 0, .iload_n 3), (182, 184, 0, .iload 6), (184, 187, 0, .invokestatic 107), (187, 188, 0, .aload_n 0), (188, 191, 0, .getfield 13), (191, 192, 0, .iload_n 1), (192, 193, 0, .iload_n 3), (193, 195, 0, .iload 6), (195, 198, 0, .invokestatic 107), (198, 199, 0, .iaload), (199, 200, 0, .iastore), (200, 201, 0, .aload_n 0), (201, 204, 0, .getfield 13), (204, 205, 0, .iload_n 2), (205, 207, 0, .iload 5), (207, 209, 0, .iload 6), (209, 212, 0, .invokestatic 107), (212, 213, 0, .aload_n 0)]
theorem ok_X12_plus_2 : ∀ e ∈ k_X12_plus_2, z_okb cX12_plus e = true := fun e h => List.all_eq_true.mp (by decide +kernel : k_X12_plus_2.all (z_okb cX12_plus) = true) e h
def k_X12_plus_3 : List zI := [(213, 214, 0, .aload_n 0), (214, 217, 0, .getfield 13), (217, 218, 0, .iload_n 2), (218, 220, 0, .iload 5), (220, 222, 0, .iload 6), (222, 225, 0, .invokestatic 107), (225, 226, 0, .iaload), (226, 227, 0, .aload_n 0), (227, 230, 0, .getfield 13), (230, 231, 0, .iload_n 1), (231, 233, 0, .iload 5), (233, 235, 0, .iload 6), (235, 238, 0, .invokestatic 107), (238, 239, 0, .iaload), (239, 240, 0, .isub), (240, 243, 0, .invokevirtual 223), (243, 244, 0, .iastore), (244, 245, 0, .aload_n 0), (245, 248, 0, .getfield 13), (248, 249, 0, .iload_n 1), (249, 251, 0, .iload 4), (251, 253, 0, .iload 6), (253, 256, 0, .invokestatic 107), (256, 257, 0, .aload_n 0), (257, 258, 0, .aload_n 0), (258, 261, 0, .getfield 13), (261, 262, 0, .iload_n 1), (262, 264, 0, .iload 4), (264, 266, 0, .iload 6), (266, 269, 0, .invokestatic 107), (269, 270, 0, .iaload), (270, 271, 0, .aload_n 0), (271, 274, 0, .getfield 13), (274, 275, 0, .iload_n 2), (275, 277, 0, .iload 4), (277, 279, 0, .iload 6), (279, 282, 0, .invokestatic 107), (282, 283, 0, .iaload), (283, 284, 0, .iadd), (284, 287, 0, .invokevirtual 223)]
theorem ok_X12_plus_3 : ∀ e ∈ k_X12_plus_3, z_okb cX12_plus e = true := fun e h => List.all_eq_true.mp (by decide +kernel : k_X12_plus_3.all (z_okb cX12_plus) = true) e h
def k_X12_plus_4 : List zI := [(287, 288, 0, .iastore), (288, 291, 1, .iinc 6 1), (291, 294, 67, .goto (-224)), (294, 295, 0, .aload_n 0), (295, 296, 0, .dup), (296, 299, 0, .getfield 91), (299, 300, 1, .iconst 1), (300, 301, 0, .iadd), (301, 304, 0, .putfield 91), (304, 305, 0, .aload_n 0), (305, 308, 0, .getfield 91), (308, 309, 0, .ireturn)]
theorem ok_X12_plus_4 : ∀ e ∈ k_X12_plus_4, z_okb cX12_plus e = true := fun e h => List.all_eq_true.mp (by decide +kernel : k_X12_plus_4.all (z_okb cX12_plus) = true) e h
def k_X12_plus : List zI := k_X12_plus_0 ++ (k_X12_plus_1 ++ (k_X12_plus_2 ++ (k_X12_plus_3 ++ (k_X12_plus_4))))
theorem ok_X12_plus : ∀ e ∈ k_X12_plus, z_okb cX12_plus e = true := List.forall_mem_append.mpr ⟨ok_X12_plus_0, List.forall_mem_append.mpr ⟨ok_X12_plus_1, List.forall_mem_append.mpr ⟨ok_X12_plus_2, List.forall_mem_append.mpr ⟨ok_X12_plus_3, ok_X12_plus_4⟩⟩⟩⟩
def k_X12_scales_0 : List zI := [(0, 1, 0, .aload_n 0), (1, 2, 0, .iconst 0), (2, 5, 0, .putfield 71), (5, 6, 0, .aload_n 0), (6, 7, 0, .iload_n 1), (7, 10, 0, .invokevirtual 163), (10, 13, 36, .ifCond .eq 26), (13, 14, 0, .iload_n 2), (14, 17, 0, .invokestatic 170), (17, 20, 36, .ifCond .eq 19), (20, 21, 0, .iload_n 3), (21, 22, 0, .i2l), (22, 23, 1, .lconst 1), (23, 24, 0, .aload_n 0), (24, 27, 0, .getfield 65), (27, 28, 1, .iconst 1), (28, 29, 0, .isub), (29, 30, 0, .i2l), (30, 33, 0, .invokestatic 80), (33, 36, 38, .ifCond .ne 5), (36, 37, 1, .iconst (-1)), (37, 38, 0, .ireturn), (38, 39, 0, .iconst 0), (39, 41, 0, .istore 4), (41, 43, 0, .iload 4), (43, 45, 27, .bipush 27), (45, 48, 73, .if_icmp .ge 28), (48, 49, 0, .aload_n 0), (49, 52, 0, .getfield 49), (52, 54, 0, .iload 4), (54, 55, 0, .aload_n 0), (55, 58, 0, .getfield 13), (58, 60, 27, .bipush 27), (60, 61, 0, .iload_n 1), (61, 62, 0, .imul), (62, 64, 0, .iload 4), (64, 65, 0, .iadd), (65, 66, 0, .iaload), (66, 67, 0, .iastore), (67, 70, 1, .iinc 4 1)]
theorem ok_X12_scales_0 : ∀ e ∈ k_X12_scales_0, z_okb cX12_scales e = true := fun e h => List.all_eq_true.mp (by decide +kernel : k_X12_scales_0.all (z_okb cX12_scales) = true) e h
def k_X12_scales_1 : List zI := [(70, 73, 41, .goto (-29)), (73, 74, 0, .iconst 0), (74, 76, 0, .istore 4), (76, 78, 0, .iload 4), (78, 80, 9, .bipush 9), (80, 83, 159, .if_icmp .ge 79), (83, 84, 0, .aload_n 0), (84, 87, 0, .getfield 13), (87, 88, 0, .iload_n 1), (88, 89, 0, .iload_n 2), (89, 91, 0, .iload 4), (91, 94, 0, .invokestatic 107), (94, 95, 0, .aload_n 0), (95, 98, 0, .getfield 13), (98, 99, 0, .iload_n 1), (99, 100, 0, .iload_n 2), (100, 102, 0, .iload 4), (102, 105, 0, .invokestatic 107), (105, 106, 0, .iaload), (106, 107, 0, .iload_n 3), (107, 108, 0, .imul), (108, 109, 0, .aload_n 0), (109, 112, 0, .getfield 65), (112, 113, 0, .irem), (113, 114, 0, .iastore), (114, 115, 0, .aload_n 0), (115, 118, 0, .getfield 13), (118, 119, 0, .iload_n 1), (119, 120, 0, .iload_n 2), (120, 121, 1, .iconst 1), (121, 122, 0, .iadd), (122, 123, 3, .iconst 3), (123, 124, 0, .irem), (124, 126, 0, .iload 4), (126, 129, 0, .invokestatic 107), (129, 130, 0, .aload_n 0), (130, 133, 0, .getfield 13), (133, 134, 0, .iload_n 1), (134, 135, 0, .iload_n 2), (135, 136, 1, .iconst 1)]
theorem ok_X12_scales_1 : ∀ e ∈ k_X12_scales_1, z_okb cX12_scales e = true := fun e h => List.all_eq_true.mp (by decide +kernel : k_X12_scales_1.all (z_okb cX12_scales) = true) e h
def k_X12_scales_2 : List zI := [(136, 137, 0, .iadd), (137, 138, 3, .iconst 3), (138, 139, 0, .irem), (139, 141, 0, .iload 4), (141, 144, 0, .invokestatic 107), (144, 145, 0, .iaload), (145, 146, 0, .iload_n 3), (146, 147, 0, .imul), (147, 148, 0, .aload_n 0), (148, 151, 0, .getfield 65), (151, 152, 0, .irem), (152, 153, 0, .iastore), (153, 156, 1, .iinc 4 1), (156, 159, 76, .goto (-80)), (159, 160, 0, .aload_n 0), (160, 161, 0, .aload_n 0), (161, 164, 0, .getfield 49), (164, 165, 0, .iconst 0), (165, 166, 0, .aload_n 0), (166, 169, 0, .getfield 13), (169, 170, 0, .iload_n 1), (170, 173, 0, .invokevirtual 273), (173, 176, 180, .ifCond .eq 7), (176, 177, 1, .iconst 1), (177, 180, 181, .goto 4), (180, 181, 0, .iconst 0), (181, 182, 0, .ireturn)]
theorem ok_X12_scales_2 : ∀ e ∈ k_X12_scales_2, z_okb cX12_scales e = true := fun e h => List.all_eq_true.mp (by decide +kernel : k_X12_scales_2.all (z_okb cX12_scales) = true) e h
def k_X12_scales : List zI := k_X12_scales_0 ++ (k_X12_scales_1 ++ (k_X12_scales_2))
theorem ok_X12_scales : ∀ e ∈ k_X12_scales, z_okb cX12_scales e = true := List.forall_mem_append.mpr ⟨ok_X12_scales_0, List.forall_mem_append.mpr ⟨ok_X12_scales_1, ok_X12_scales_2⟩⟩
def k_X12_wasAt : List zI := [(0, 1, 0, .iload_n 0), (1, 2, 0, .iload_n 2), (2, 5, 11, .if_icmp .lt 9), (5, 6, 0, .iload_n 0), (6, 7, 1, .iconst 1), (7, 8, 0, .iadd), (8, 11, 12, .goto 4), (11, 12, 0, .iload_n 0), (12, 13, 0, .istore_n 3), (13, 14, 0, .iload_n 3), (14, 15, 0, .iload_n 1), (15, 18, 22, .if_icmp .ge 7), (18, 19, 0, .iload_n 3), (19, 22, 23, .goto 4), (22, 23, 1, .iconst (-1)), (23, 24, 0, .ireturn)]
theorem ok_X12_wasAt : ∀ e ∈ k_X12_wasAt, z_okb cX12_wasAt e = true := fun e h => List.all_eq_true.mp (by decide +kernel : k_X12_wasAt.all (z_okb cX12_wasAt) = true) e h
def k_X12_resizes_0 : List zI := [(0, 1, 0, .aload_n 0), (1, 4, 0, .getfield 7), (4, 5, 0, .iload_n 1), (5, 6, 0, .iaload), (6, 8, 0, .istore 4), (8, 9, 0, .iconst 0), (9, 11, 0, .istore 5), (11, 13, 0, .iload 5), (13, 15, 27, .bipush 27), (15, 16, 0, .aload_n 0), (16, 19, 0, .getfield 91), (19, 20, 0, .imul), (20, 23, 37, .if_icmp .ge 17), (23, 24, 0, .aload_n 0), (24, 27, 0, .getfield 49), (27, 29, 0, .iload 5), (29, 30, 0, .iconst 0), (30, 31, 0, .iastore), (31, 34, 1, .iinc 5 1), (34, 37, 11, .goto (-23)), (37, 38, 0, .iconst 0), (38, 40, 0, .istore 5), (40, 42, 0, .iload 5), (42, 43, 0, .aload_n 0), (43, 46, 0, .getfield 91), (46, 49, 237, .if_icmp .ge 191), (49, 50, 0, .iconst 0), (50, 52, 0, .istore 6), (52, 54, 0, .iload 6), (54, 55, 3, .iconst 3), (55, 58, 231, .if_icmp .ge 176), (58, 60, 0, .iload 6), (60, 61, 0, .iload_n 1), (61, 64, 68, .if_icmp .ne 7), (64, 65, 0, .iload_n 2), (65, 68, 74, .goto 9), (68, 69, 0, .aload_n 0), (69, 71, 0, .iload 6), (71, 74, 0, .invokevirtual 84), (74, 76, 0, .istore 7)]
theorem ok_X12_resizes_0 : ∀ e ∈ k_X12_resizes_0, z_okb cX12_resizes e = true := fun e h => List.all_eq_true.mp (by decide +kernel : k_X12_resizes_0.all (z_okb cX12_resizes) = true) e h
def k_X12_resizes_1 : List zI := [(76, 78, 0, .iload 6), (78, 79, 1, .iconst 1), (79, 80, 0, .iadd), (80, 81, 3, .iconst 3), (81, 82, 0, .irem), (82, 83, 0, .iload_n 1), (83, 86, 90, .if_icmp .ne 7), (86, 87, 0, .iload_n 2), (87, 90, 96, .goto 9), (90, 91, 0, .aload_n 0), (91, 93, 0, .iload 6), (93, 96, 0, .invokevirtual 88), (96, 98, 0, .istore 8), (98, 99, 0, .iconst 0), (99, 101, 0, .istore 9), (101, 103, 0, .iload 9), (103, 105, 0, .iload 7), (105, 107, 0, .iload 8), (107, 108, 0, .imul), (108, 111, 225, .if_icmp .ge 117), (111, 113, 0, .iload 6), (113, 114, 0, .iload_n 1), (114, 117, 131, .if_icmp .ne 17), (117, 119, 0, .iload 9), (119, 121, 0, .iload 8), (121, 122, 0, .idiv), (122, 124, 0, .iload 4), (124, 125, 0, .iload_n 3), (125, 128, 0, .invokestatic 277), (128, 131, 136, .goto 8), (131, 133, 0, .iload 9), (133, 135, 0, .iload 8), (135, 136, 0, .idiv), (136, 138, 0, .istore 10), (138, 140, 0, .iload 6), (140, 141, 1, .iconst 1), (141, 142, 0, .iadd), (142, 143, 3, .iconst 3), (143, 144, 0, .irem), (144, 145, 0, .iload_n 1)]
theorem ok_X12_resizes_1 : ∀ e ∈ k_X12_resizes_1, z_okb cX12_resizes e = true := fun e h => List.all_eq_true.mp (by decide +kernel : k_X12_resizes_1.all (z_okb cX12_resizes) = true) e h
def k_X12_resizes_2 : List zI := [(145, 148, 162, .if_icmp .ne 17), (148, 150, 0, .iload 9), (150, 152, 0, .iload 8), (152, 153, 0, .irem), (153, 155, 0, .iload 4), (155, 156, 0, .iload_n 3), (156, 159, 0, .invokestatic 277), (159, 162, 167, .goto 8), (162, 164, 0, .iload 9), (164, 166, 0, .iload 8), (166, 167, 0, .irem), (167, 169, 0, .istore 11), (169, 171, 0, .iload 10), (171, 172, 1, .iconst (-1)), (172, 175, 219, .if_icmp .eq 47), (175, 177, 0, .iload 11), (177, 178, 1, .iconst (-1)), (178, 181, 219, .if_icmp .eq 41), (181, 182, 0, .aload_n 0), (182, 185, 0, .getfield 49), (185, 187, 0, .iload 5), (187, 189, 0, .iload 6), (189, 191, 0, .iload 9), (191, 194, 0, .invokestatic 107), (194, 195, 0, .aload_n 0), (195, 198, 0, .getfield 13), (198, 200, 0, .iload 5), (200, 202, 0, .iload 6), (202, 204, 0, .iload 10), (204, 205, 0, .aload_n 0), (205, 207, 0, .iload 6), (207, 210, 0, .invokevirtual 88), (210, 211, 0, .imul), (211, 213, 0, .iload 11), (213, 214, 0, .iadd), (214, 217, 0, .invokestatic 107), (217, 218, 0, .iaload), (218, 219, 0, .iastore), (219, 222, 1, .iinc 9 1), (222, 225, 101, .goto (-121))]
theorem ok_X12_resizes_2 : ∀ e ∈ k_X12_resizes_2, z_okb cX12_resizes e = true := fun e h => List.all_eq_true.mp (by decide +kernel : k_X12_resizes_2.all (z_okb cX12_resizes) = true) e h
def k_X12_resizes_3 : List zI := [(225, 228, 1, .iinc 6 1), (228, 231, 52, .goto (-176)), (231, 234, 1, .iinc 5 1), (234, 237, 40, .goto (-194)), (237, 238, 0, .iconst 0), (238, 240, 0, .istore 5), (240, 242, 0, .iload 5), (242, 244, 27, .bipush 27), (244, 245, 0, .aload_n 0), (245, 248, 0, .getfield 91), (248, 249, 0, .imul), (249, 252, 272, .if_icmp .ge 23), (252, 253, 0, .aload_n 0), (253, 256, 0, .getfield 13), (256, 258, 0, .iload 5), (258, 259, 0, .aload_n 0), (259, 262, 0, .getfield 49), (262, 264, 0, .iload 5), (264, 265, 0, .iaload), (265, 266, 0, .iastore), (266, 269, 1, .iinc 5 1), (269, 272, 240, .goto (-29)), (272, 273, 0, .aload_n 0), (273, 276, 0, .getfield 7), (276, 277, 0, .iload_n 1), (277, 278, 0, .iload_n 2), (278, 279, 0, .iastore), (279, 280, 0, .return_)]
theorem ok_X12_resizes_3 : ∀ e ∈ k_X12_resizes_3, z_okb cX12_resizes e = true := fun e h => List.all_eq_true.mp (by decide +kernel : k_X12_resizes_3.all (z_okb cX12_resizes) = true) e h
def k_X12_resizes : List zI := k_X12_resizes_0 ++ (k_X12_resizes_1 ++ (k_X12_resizes_2 ++ (k_X12_resizes_3)))
theorem ok_X12_resizes : ∀ e ∈ k_X12_resizes, z_okb cX12_resizes e = true := List.forall_mem_append.mpr ⟨ok_X12_resizes_0, List.forall_mem_append.mpr ⟨ok_X12_resizes_1, List.forall_mem_append.mpr ⟨ok_X12_resizes_2, ok_X12_resizes_3⟩⟩⟩
def k_X12_narrows : List zI := [(0, 1, 0, .aload_n 0), (1, 2, 0, .iconst 0), (2, 5, 0, .putfield 71), (5, 6, 0, .iload_n 1), (6, 9, 0, .invokestatic 170), (9, 12, 28, .ifCond .eq 19), (12, 13, 0, .iload_n 2), (13, 14, 0, .i2l), (14, 15, 1, .lconst 1), (15, 16, 0, .aload_n 0), (16, 19, 0, .getfield 7), (19, 20, 0, .iload_n 1), (20, 21, 0, .iaload), (21, 22, 0, .i2l), (22, 25, 0, .invokestatic 80), (25, 28, 30, .ifCond .ne 5), (28, 29, 1, .iconst (-1)), (29, 30, 0, .ireturn), (30, 31, 0, .aload_n 0), (31, 34, 0, .getfield 7), (34, 35, 0, .iload_n 1), (35, 36, 0, .iaload), (36, 37, 1, .iconst 1), (37, 40, 43, .if_icmp .ne 6), (40, 42, 2, .bipush (-2)), (42, 43, 0, .ireturn), (43, 44, 0, .aload_n 0), (44, 45, 0, .iload_n 1), (45, 46, 0, .aload_n 0), (46, 49, 0, .getfield 7), (49, 50, 0, .iload_n 1), (50, 51, 0, .iaload), (51, 52, 1, .iconst 1), (52, 53, 0, .isub), (53, 54, 0, .iload_n 2), (54, 55, 1, .iconst 1), (55, 56, 0, .isub), (56, 59, 0, .invokevirtual 280), (59, 60, 0, .aload_n 0), (60, 63, 0, .invokevirtual 232), (63, 64, 0, .ireturn)]
theorem ok_X12_narrows : ∀ e ∈ k_X12_narrows, z_okb cX12_narrows e = true := fun e h => List.all_eq_true.mp (by decide +kernel : k_X12_narrows.all (z_okb cX12_narrows) = true) e h
def k_X12_widens_0 : List zI := [(0, 1, 0, .aload_n 0), (1, 2, 0, .iconst 0), (2, 5, 0, .putfield 71), (5, 6, 0, .iload_n 1), (6, 9, 0, .invokestatic 170), (9, 12, 14, .ifCond .ne 5), (12, 13, 1, .iconst (-1)), (13, 14, 0, .ireturn), (14, 15, 0, .aload_n 0), (15, 18, 0, .getfield 7), (18, 19, 0, .iload_n 1), (19, 20, 0, .iaload), (20, 21, 3, .iconst 3), (21, 24, 27, .if_icmp .ne 6), (24, 26, 2, .bipush (-2)), (26, 27, 0, .ireturn), (27, 28, 0, .aload_n 0), (28, 31, 0, .getfield 91), (31, 32, 0, .aload_n 0), (32, 35, 0, .getfield 7), (35, 36, 0, .iload_n 1), (36, 37, 1, .iconst 1), (37, 38, 0, .iadd), (38, 39, 3, .iconst 3), (39, 40, 0, .irem), (40, 41, 0, .iaload), (41, 42, 0, .aload_n 0), (42, 45, 0, .getfield 7), (45, 46, 0, .iload_n 1), (46, 47, 2, .iconst 2), (47, 48, 0, .iadd), (48, 49, 3, .iconst 3), (49, 50, 0, .irem), (50, 51, 0, .iaload), (51, 52, 0, .imul), (52, 53, 0, .iadd), (53, 55, 40, .bipush 40), (55, 58, 61, .if_icmp .le 6), (58, 60, 3, .bipush (-3)), (60, 61, 0, .ireturn)]
theorem ok_X12_widens_0 : ∀ e ∈ k_X12_widens_0, z_okb cX12_widens e = true := fun e h => List.all_eq_true.mp (by decide +kernel : k_X12_widens_0.all (z_okb cX12_widens) = true) e h
def k_X12_widens_1 : List zI := [(61, 62, 0, .aload_n 0), (62, 65, 0, .getfield 7), (65, 66, 0, .iload_n 1), (66, 67, 0, .iaload), (67, 68, 0, .istore_n 2), (68, 69, 0, .aload_n 0), (69, 70, 0, .iload_n 1), (70, 71, 0, .iload_n 2), (71, 72, 1, .iconst 1), (72, 73, 0, .iadd), (73, 74, 0, .iload_n 2), (74, 77, 0, .invokevirtual 280), (77, 78, 0, .iconst 0), (78, 79, 0, .istore_n 3), (79, 80, 0, .iload_n 3), (80, 81, 0, .aload_n 0), (81, 84, 0, .getfield 7), (84, 85, 0, .iconst 0), (85, 86, 0, .iaload), (86, 89, 168, .if_icmp .ge 82), (89, 90, 0, .iconst 0), (90, 92, 0, .istore 4), (92, 94, 0, .iload 4), (94, 95, 0, .aload_n 0), (95, 98, 0, .getfield 7), (98, 99, 1, .iconst 1), (99, 100, 0, .iaload), (100, 103, 162, .if_icmp .ge 62), (103, 104, 0, .iconst 0), (104, 106, 0, .istore 5), (106, 108, 0, .iload 5), (108, 109, 0, .aload_n 0), (109, 112, 0, .getfield 7), (112, 113, 2, .iconst 2), (113, 114, 0, .iaload), (114, 117, 156, .if_icmp .ge 42), (117, 118, 0, .iload_n 1), (118, 121, 125, .ifCond .ne 7), (121, 122, 0, .iload_n 3), (122, 125, 137, .goto 15)]
theorem ok_X12_widens_1 : ∀ e ∈ k_X12_widens_1, z_okb cX12_widens e = true := fun e h => List.all_eq_true.mp (by decide +kernel : k_X12_widens_1.all (z_okb cX12_widens) = true) e h
def k_X12_widens_2 : List zI := [(125, 126, 0, .iload_n 1), (126, 127, 1, .iconst 1), (127, 130, 135, .if_icmp .ne 8), (130, 132, 0, .iload 4), (132, 135, 137, .goto 5), (135, 137, 0, .iload 5), (137, 138, 0, .iload_n 2), (138, 141, 150, .if_icmp .ne 12), (141, 142, 0, .aload_n 0), (142, 143, 0, .iload_n 3), (143, 145, 0, .iload 4), (145, 147, 0, .iload 5), (147, 150, 0, .invokevirtual 99), (150, 153, 1, .iinc 5 1), (153, 156, 106, .goto (-47)), (156, 159, 1, .iinc 4 1), (159, 162, 92, .goto (-67)), (162, 165, 1, .iinc 3 1), (165, 168, 79, .goto (-86)), (168, 169, 0, .aload_n 0), (169, 172, 0, .getfield 91), (172, 173, 0, .ireturn)]
theorem ok_X12_widens_2 : ∀ e ∈ k_X12_widens_2, z_okb cX12_widens e = true := fun e h => List.all_eq_true.mp (by decide +kernel : k_X12_widens_2.all (z_okb cX12_widens) = true) e h
def k_X12_widens : List zI := k_X12_widens_0 ++ (k_X12_widens_1 ++ (k_X12_widens_2))
theorem ok_X12_widens : ∀ e ∈ k_X12_widens, z_okb cX12_widens e = true := List.forall_mem_append.mpr ⟨ok_X12_widens_0, List.forall_mem_append.mpr ⟨ok_X12_widens_1, ok_X12_widens_2⟩⟩
def k_X12_goNumbered : List zI := [(0, 1, 0, .iload_n 1), (1, 2, 0, .istore_n 2), (2, 3, 0, .iconst 0), (3, 4, 0, .istore_n 3), (4, 5, 0, .iload_n 3), (5, 6, 3, .iconst 3), (6, 9, 90, .if_icmp .ge 84), (9, 10, 0, .iconst 0), (10, 12, 0, .istore 4), (12, 14, 0, .iload 4), (14, 15, 0, .aload_n 0), (15, 18, 0, .getfield 91), (18, 21, 84, .if_icmp .ge 66), (21, 22, 0, .iconst 0), (22, 24, 0, .istore 5), (24, 26, 0, .iload 5), (26, 27, 0, .aload_n 0), (27, 30, 0, .getfield 91), (30, 33, 78, .if_icmp .ge 48), (33, 35, 0, .iload 4), (35, 37, 0, .iload 5), (37, 40, 72, .if_icmp .eq 35), (40, 41, 0, .aload_n 0), (41, 43, 0, .iload 4), (43, 45, 0, .iload 5), (45, 46, 0, .iload_n 3), (46, 49, 0, .invokevirtual 217), (49, 52, 55, .ifCond .ne 6), (52, 55, 72, .goto 20), (55, 56, 0, .iload_n 2), (56, 59, 69, .ifCond .ne 13), (59, 60, 0, .aload_n 0), (60, 62, 0, .iload 4), (62, 64, 0, .iload 5), (64, 65, 0, .iload_n 3), (65, 68, 0, .invokevirtual 229), (68, 69, 0, .return_), (69, 72, 1, .iinc 2 (-1)), (72, 75, 1, .iinc 5 1), (75, 78, 24, .goto (-51)), (78, 81, 1, .iinc 4 1), (81, 84, 12, .goto (-69)), (84, 87, 1, .iinc 3 1), (87, 90, 4, .goto (-83)), (90, 91, 0, .return_)]
theorem ok_X12_goNumbered : ∀ e ∈ k_X12_goNumbered, z_okb cX12_goNumbered e = true := fun e h => List.all_eq_true.mp (by decide +kernel : k_X12_goNumbered.all (z_okb cX12_goNumbered) = true) e h
def k_X12_walks_0 : List zI := [(0, 1, 0, .aload_n 0), (1, 2, 0, .iconst 0), (2, 5, 0, .putfield 71), (5, 6, 0, .iload_n 2), (6, 7, 0, .i2l), (7, 8, 1, .lconst 1), (8, 11, 0, .ldc2_w 283), (11, 14, 0, .invokestatic 80), (14, 17, 29, .ifCond .eq 15), (17, 18, 0, .iload_n 1), (18, 19, 0, .i2l), (19, 20, 1, .lconst 1), (20, 23, 0, .ldc2_w 285), (23, 26, 0, .invokestatic 80), (26, 29, 31, .ifCond .ne 5), (29, 30, 1, .iconst (-1)), (30, 31, 0, .ireturn), (31, 32, 0, .iload_n 1), (32, 33, 0, .i2l), (33, 34, 0, .lstore_n 3), (34, 35, 0, .iconst 0), (35, 37, 0, .istore 5), (37, 38, 0, .iconst 0), (38, 40, 0, .istore 6), (40, 42, 0, .iload 6), (42, 43, 0, .iload_n 2), (43, 46, 106, .if_icmp .ge 63), (46, 47, 0, .lload_n 3), (47, 50, 0, .ldc2_w 287), (50, 51, 0, .lmul), (51, 54, 0, .ldc2_w 289), (54, 55, 0, .lrem), (55, 56, 0, .lstore_n 3), (56, 57, 0, .aload_n 0), (57, 58, 0, .iconst 0), (58, 61, 0, .invokevirtual 220), (61, 62, 0, .aload_n 0), (62, 63, 1, .iconst 1), (63, 66, 0, .invokevirtual 220), (66, 67, 0, .iadd)]
theorem ok_X12_walks_0 : ∀ e ∈ k_X12_walks_0, z_okb cX12_walks e = true := fun e h => List.all_eq_true.mp (by decide +kernel : k_X12_walks_0.all (z_okb cX12_walks) = true) e h
def k_X12_walks_1 : List zI := [(67, 68, 0, .aload_n 0), (68, 69, 2, .iconst 2), (69, 72, 0, .invokevirtual 220), (72, 73, 0, .iadd), (73, 75, 0, .istore 7), (75, 77, 0, .iload 7), (77, 80, 83, .ifCond .ne 6), (80, 83, 100, .goto 20), (83, 84, 0, .aload_n 0), (84, 85, 0, .lload_n 3), (85, 87, 0, .iload 7), (87, 88, 0, .i2l), (88, 89, 0, .lrem), (89, 90, 0, .l2i), (90, 93, 0, .invokevirtual 291), (93, 94, 0, .aload_n 0), (94, 97, 0, .invokevirtual 248), (97, 100, 1, .iinc 5 1), (100, 103, 1, .iinc 6 1), (103, 106, 40, .goto (-63)), (106, 107, 0, .aload_n 0), (107, 108, 0, .iconst 0), (108, 111, 0, .putfield 74), (111, 112, 0, .aload_n 0), (112, 114, 0, .iload 5), (114, 115, 0, .i2l), (115, 118, 0, .invokevirtual 192), (118, 119, 0, .aload_n 0), (119, 120, 0, .lload_n 3), (120, 123, 0, .invokevirtual 192), (123, 124, 0, .aload_n 0), (124, 127, 0, .getfield 91), (127, 128, 0, .ireturn)]
theorem ok_X12_walks_1 : ∀ e ∈ k_X12_walks_1, z_okb cX12_walks e = true := fun e h => List.all_eq_true.mp (by decide +kernel : k_X12_walks_1.all (z_okb cX12_walks) = true) e h
def k_X12_walks : List zI := k_X12_walks_0 ++ (k_X12_walks_1)
theorem ok_X12_walks : ∀ e ∈ k_X12_walks, z_okb cX12_walks e = true := List.forall_mem_append.mpr ⟨ok_X12_walks_0, ok_X12_walks_1⟩
def k_X12_laysTurned : List zI := [(0, 1, 0, .iconst 0), (1, 2, 0, .istore_n 1), (2, 3, 0, .iload_n 1), (3, 4, 0, .aload_n 0), (4, 7, 0, .getfield 91), (7, 10, 69, .if_icmp .ge 62), (10, 11, 0, .iconst 0), (11, 12, 0, .istore_n 2), (12, 13, 0, .iload_n 2), (13, 14, 3, .iconst 3), (14, 17, 63, .if_icmp .ge 49), (17, 18, 0, .iconst 0), (18, 19, 0, .istore_n 3), (19, 20, 0, .iload_n 3), (20, 22, 9, .bipush 9), (22, 25, 57, .if_icmp .ge 35), (25, 26, 0, .aload_n 0), (26, 29, 0, .getfield 49), (29, 30, 0, .iload_n 1), (30, 31, 0, .iload_n 2), (31, 32, 0, .iload_n 3), (32, 35, 0, .invokestatic 107), (35, 36, 0, .aload_n 0), (36, 39, 0, .getfield 13), (39, 40, 0, .iload_n 1), (40, 41, 0, .iload_n 2), (41, 42, 1, .iconst 1), (42, 43, 0, .iadd), (43, 44, 3, .iconst 3), (44, 45, 0, .irem), (45, 46, 0, .iload_n 3), (46, 49, 0, .invokestatic 107), (49, 50, 0, .iaload), (50, 51, 0, .iastore), (51, 54, 1, .iinc 3 1), (54, 57, 19, .goto (-35)), (57, 60, 1, .iinc 2 1), (60, 63, 12, .goto (-48)), (63, 66, 1, .iinc 1 1), (66, 69, 2, .goto (-64)), (69, 70, 0, .return_)]
theorem ok_X12_laysTurned : ∀ e ∈ k_X12_laysTurned, z_okb cX12_laysTurned e = true := fun e h => List.all_eq_true.mp (by decide +kernel : k_X12_laysTurned.all (z_okb cX12_laysTurned) = true) e h
def k_X12_laysMirrored_0 : List zI := [(0, 1, 0, .iconst 0), (1, 2, 0, .istore_n 1), (2, 3, 0, .iload_n 1), (3, 4, 0, .aload_n 0), (4, 7, 0, .getfield 91), (7, 10, 135, .if_icmp .ge 128), (10, 11, 0, .iconst 0), (11, 12, 0, .istore_n 2), (12, 13, 0, .iload_n 2), (13, 14, 3, .iconst 3), (14, 17, 129, .if_icmp .ge 115), (17, 18, 0, .iconst 0), (18, 19, 0, .istore_n 3), (19, 20, 0, .iload_n 3), (20, 22, 9, .bipush 9), (22, 25, 45, .if_icmp .ge 23), (25, 26, 0, .aload_n 0), (26, 29, 0, .getfield 49), (29, 30, 0, .iload_n 1), (30, 31, 2, .iconst 2), (31, 32, 0, .iload_n 2), (32, 33, 0, .isub), (33, 34, 0, .iload_n 3), (34, 37, 0, .invokestatic 107), (37, 38, 0, .iconst 0), (38, 39, 0, .iastore), (39, 42, 1, .iinc 3 1), (42, 45, 19, .goto (-23)), (45, 46, 0, .iconst 0), (46, 47, 0, .istore_n 3), (47, 48, 0, .iload_n 3), (48, 49, 0, .aload_n 0), (49, 50, 0, .iload_n 2), (50, 53, 0, .invokevirtual 84), (53, 56, 123, .if_icmp .ge 70), (56, 57, 0, .iconst 0), (57, 59, 0, .istore 4), (59, 61, 0, .iload 4), (61, 62, 0, .aload_n 0), (62, 63, 0, .iload_n 2)]
theorem ok_X12_laysMirrored_0 : ∀ e ∈ k_X12_laysMirrored_0, z_okb cX12_laysMirrored e = true := fun e h => List.all_eq_true.mp (by decide +kernel : k_X12_laysMirrored_0.all (z_okb cX12_laysMirrored) = true) e h
def k_X12_laysMirrored_1 : List zI := [(63, 66, 0, .invokevirtual 88), (66, 69, 117, .if_icmp .ge 51), (69, 70, 0, .aload_n 0), (70, 73, 0, .getfield 49), (73, 74, 0, .iload_n 1), (74, 75, 2, .iconst 2), (75, 76, 0, .iload_n 2), (76, 77, 0, .isub), (77, 79, 0, .iload 4), (79, 80, 0, .aload_n 0), (80, 81, 0, .iload_n 2), (81, 84, 0, .invokevirtual 84), (84, 85, 0, .imul), (85, 86, 0, .iload_n 3), (86, 87, 0, .iadd), (87, 90, 0, .invokestatic 107), (90, 91, 0, .aload_n 0), (91, 94, 0, .getfield 13), (94, 95, 0, .iload_n 1), (95, 96, 0, .iload_n 2), (96, 97, 0, .iload_n 3), (97, 98, 0, .aload_n 0), (98, 99, 0, .iload_n 2), (99, 102, 0, .invokevirtual 88), (102, 103, 0, .imul), (103, 105, 0, .iload 4), (105, 106, 0, .iadd), (106, 109, 0, .invokestatic 107), (109, 110, 0, .iaload), (110, 111, 0, .iastore), (111, 114, 1, .iinc 4 1), (114, 117, 59, .goto (-55)), (117, 120, 1, .iinc 3 1), (120, 123, 47, .goto (-73)), (123, 126, 1, .iinc 2 1), (126, 129, 12, .goto (-114)), (129, 132, 1, .iinc 1 1), (132, 135, 2, .goto (-130)), (135, 136, 0, .return_)]
theorem ok_X12_laysMirrored_1 : ∀ e ∈ k_X12_laysMirrored_1, z_okb cX12_laysMirrored e = true := fun e h => List.all_eq_true.mp (by decide +kernel : k_X12_laysMirrored_1.all (z_okb cX12_laysMirrored) = true) e h
def k_X12_laysMirrored : List zI := k_X12_laysMirrored_0 ++ (k_X12_laysMirrored_1)
theorem ok_X12_laysMirrored : ∀ e ∈ k_X12_laysMirrored, z_okb cX12_laysMirrored e = true := List.forall_mem_append.mpr ⟨ok_X12_laysMirrored_0, ok_X12_laysMirrored_1⟩
def k_X12_takesBeside : List zI := [(0, 1, 0, .iconst 0), (1, 3, 0, .istore 4), (3, 5, 0, .iload 4), (5, 7, 27, .bipush 27), (7, 8, 0, .aload_n 0), (8, 11, 0, .getfield 91), (11, 12, 0, .imul), (12, 15, 35, .if_icmp .ge 23), (15, 16, 0, .aload_n 0), (16, 19, 0, .getfield 13), (19, 21, 0, .iload 4), (21, 22, 0, .aload_n 0), (22, 25, 0, .getfield 49), (25, 27, 0, .iload 4), (27, 28, 0, .iaload), (28, 29, 0, .iastore), (29, 32, 1, .iinc 4 1), (32, 35, 3, .goto (-29)), (35, 36, 0, .aload_n 0), (36, 39, 0, .getfield 7), (39, 40, 0, .iconst 0), (40, 41, 0, .iload_n 1), (41, 42, 0, .iastore), (42, 43, 0, .aload_n 0), (43, 46, 0, .getfield 7), (46, 47, 1, .iconst 1), (47, 48, 0, .iload_n 2), (48, 49, 0, .iastore), (49, 50, 0, .aload_n 0), (50, 53, 0, .getfield 7), (53, 54, 2, .iconst 2), (54, 55, 0, .iload_n 3), (55, 56, 0, .iastore), (56, 57, 0, .return_)]
theorem ok_X12_takesBeside : ∀ e ∈ k_X12_takesBeside, z_okb cX12_takesBeside e = true := fun e h => List.all_eq_true.mp (by decide +kernel : k_X12_takesBeside.all (z_okb cX12_takesBeside) = true) e h
def k_X12_rolls : List zI := [(0, 1, 0, .aload_n 0), (1, 2, 0, .iconst 0), (2, 5, 0, .putfield 71), (5, 6, 0, .aload_n 0), (6, 9, 0, .invokevirtual 294), (9, 10, 0, .aload_n 0), (10, 11, 0, .aload_n 0), (11, 14, 0, .getfield 7), (14, 15, 1, .iconst 1), (15, 16, 0, .iaload), (16, 17, 0, .aload_n 0), (17, 20, 0, .getfield 7), (20, 21, 2, .iconst 2), (21, 22, 0, .iaload), (22, 23, 0, .aload_n 0), (23, 26, 0, .getfield 7), (26, 27, 0, .iconst 0), (27, 28, 0, .iaload), (28, 31, 0, .invokevirtual 297), (31, 32, 0, .aload_n 0), (32, 35, 0, .getfield 91), (35, 36, 0, .ireturn)]
theorem ok_X12_rolls : ∀ e ∈ k_X12_rolls, z_okb cX12_rolls e = true := fun e h => List.all_eq_true.mp (by decide +kernel : k_X12_rolls.all (z_okb cX12_rolls) = true) e h
def k_X12_mirrors : List zI := [(0, 1, 0, .aload_n 0), (1, 2, 0, .iconst 0), (2, 5, 0, .putfield 71), (5, 6, 0, .aload_n 0), (6, 9, 0, .invokevirtual 300), (9, 10, 0, .aload_n 0), (10, 11, 0, .aload_n 0), (11, 14, 0, .getfield 7), (14, 15, 0, .iconst 0), (15, 16, 0, .iaload), (16, 17, 0, .aload_n 0), (17, 20, 0, .getfield 7), (20, 21, 2, .iconst 2), (21, 22, 0, .iaload), (22, 23, 0, .aload_n 0), (23, 26, 0, .getfield 7), (26, 27, 1, .iconst 1), (27, 28, 0, .iaload), (28, 31, 0, .invokevirtual 297), (31, 32, 0, .aload_n 0), (32, 35, 0, .getfield 91), (35, 36, 0, .ireturn)]
theorem ok_X12_mirrors : ∀ e ∈ k_X12_mirrors, z_okb cX12_mirrors e = true := fun e h => List.all_eq_true.mp (by decide +kernel : k_X12_mirrors.all (z_okb cX12_mirrors) = true) e h
def k_X12_shearsRows : List zI := [(0, 1, 0, .aload_n 0), (1, 2, 0, .iload_n 2), (2, 5, 0, .invokevirtual 88), (5, 7, 0, .istore 6), (7, 8, 0, .iconst 0), (8, 10, 0, .istore 7), (10, 12, 0, .iload 7), (12, 14, 0, .iload 6), (14, 17, 84, .if_icmp .ge 70), (17, 18, 0, .aload_n 0), (18, 21, 0, .getfield 13), (21, 22, 0, .iload_n 1), (22, 23, 0, .iload_n 2), (23, 25, 0, .iload 4), (25, 27, 0, .iload 6), (27, 28, 0, .imul), (28, 30, 0, .iload 7), (30, 31, 0, .iadd), (31, 34, 0, .invokestatic 107), (34, 35, 0, .aload_n 0), (35, 36, 0, .aload_n 0), (36, 39, 0, .getfield 13), (39, 40, 0, .iload_n 1), (40, 41, 0, .iload_n 2), (41, 43, 0, .iload 4), (43, 45, 0, .iload 6), (45, 46, 0, .imul), (46, 48, 0, .iload 7), (48, 49, 0, .iadd), (49, 52, 0, .invokestatic 107), (52, 53, 0, .iaload), (53, 55, 0, .iload 5), (55, 56, 0, .aload_n 0), (56, 59, 0, .getfield 13), (59, 60, 0, .iload_n 1), (60, 61, 0, .iload_n 2), (61, 62, 0, .iload_n 3), (62, 64, 0, .iload 6), (64, 65, 0, .imul), (65, 67, 0, .iload 7), (67, 68, 0, .iadd), (68, 71, 0, .invokestatic 107), (71, 72, 0, .iaload), (72, 73, 0, .imul), (73, 74, 0, .iadd), (74, 77, 0, .invokevirtual 223), (77, 78, 0, .iastore), (78, 81, 1, .iinc 7 1), (81, 84, 10, .goto (-71)), (84, 85, 0, .return_)]
theorem ok_X12_shearsRows : ∀ e ∈ k_X12_shearsRows, z_okb cX12_shearsRows e = true := fun e h => List.all_eq_true.mp (by decide +kernel : k_X12_shearsRows.all (z_okb cX12_shearsRows) = true) e h
def k_X12_shearsColumns_0 : List zI := [(0, 1, 0, .aload_n 0), (1, 2, 0, .iload_n 2), (2, 5, 0, .invokevirtual 88), (5, 7, 0, .istore 6), (7, 8, 0, .iconst 0), (8, 10, 0, .istore 7), (10, 12, 0, .iload 7), (12, 13, 0, .aload_n 0), (13, 14, 0, .iload_n 2), (14, 17, 0, .invokevirtual 84), (17, 20, 86, .if_icmp .ge 69), (20, 21, 0, .aload_n 0), (21, 24, 0, .getfield 13), (24, 25, 0, .iload_n 1), (25, 26, 0, .iload_n 2), (26, 28, 0, .iload 7), (28, 30, 0, .iload 6), (30, 31, 0, .imul), (31, 32, 0, .iload_n 3), (32, 33, 0, .iadd), (33, 36, 0, .invokestatic 107), (36, 37, 0, .aload_n 0), (37, 38, 0, .aload_n 0), (38, 41, 0, .getfield 13), (41, 42, 0, .iload_n 1), (42, 43, 0, .iload_n 2), (43, 45, 0, .iload 7), (45, 47, 0, .iload 6), (47, 48, 0, .imul), (48, 49, 0, .iload_n 3), (49, 50, 0, .iadd), (50, 53, 0, .invokestatic 107), (53, 54, 0, .iaload), (54, 56, 0, .iload 5), (56, 57, 0, .aload_n 0), (57, 60, 0, .getfield 13), (60, 61, 0, .iload_n 1), (61, 62, 0, .iload_n 2), (62, 64, 0, .iload 7), (64, 66, 0, .iload 6)]
theorem ok_X12_shearsColumns_0 : ∀ e ∈ k_X12_shearsColumns_0, z_okb cX12_shearsColumns e = true := fun e h => List.all_eq_true.mp (by decide +kernel : k_X12_shearsColumns_0.all (z_okb cX12_shearsColumns) = true) e h
def k_X12_shearsColumns_1 : List zI := [(66, 67, 0, .imul), (67, 69, 0, .iload 4), (69, 70, 0, .iadd), (70, 73, 0, .invokestatic 107), (73, 74, 0, .iaload), (74, 75, 0, .imul), (75, 76, 0, .isub), (76, 79, 0, .invokevirtual 223), (79, 80, 0, .iastore), (80, 83, 1, .iinc 7 1), (83, 86, 10, .goto (-73)), (86, 87, 0, .return_)]
theorem ok_X12_shearsColumns_1 : ∀ e ∈ k_X12_shearsColumns_1, z_okb cX12_shearsColumns e = true := fun e h => List.all_eq_true.mp (by decide +kernel : k_X12_shearsColumns_1.all (z_okb cX12_shearsColumns) = true) e h
def k_X12_shearsColumns : List zI := k_X12_shearsColumns_0 ++ (k_X12_shearsColumns_1)
theorem ok_X12_shearsColumns : ∀ e ∈ k_X12_shearsColumns, z_okb cX12_shearsColumns e = true := List.forall_mem_append.mpr ⟨ok_X12_shearsColumns_0, ok_X12_shearsColumns_1⟩
def k_X12_othersThan_0 : List zI := [(0, 1, 0, .iconst 0), (1, 2, 0, .istore_n 1), (2, 3, 0, .iconst 0), (3, 4, 0, .istore_n 2), (4, 5, 0, .iload_n 2), (5, 6, 0, .aload_n 0), (6, 9, 0, .getfield 91), (9, 12, 102, .if_icmp .ge 93), (12, 13, 0, .iconst 0), (13, 14, 0, .istore_n 3), (14, 15, 0, .iload_n 3), (15, 16, 3, .iconst 3), (16, 19, 96, .if_icmp .ge 80), (19, 20, 1, .iconst 1), (20, 22, 0, .istore 4), (22, 23, 0, .iconst 0), (23, 25, 0, .istore 5), (25, 27, 0, .iload 5), (27, 29, 9, .bipush 9), (29, 32, 77, .if_icmp .ge 48), (32, 34, 0, .iload 4), (34, 37, 68, .ifCond .eq 34), (37, 38, 0, .aload_n 0), (38, 41, 0, .getfield 13), (41, 42, 0, .iload_n 2), (42, 43, 0, .iload_n 3), (43, 45, 0, .iload 5), (45, 48, 0, .invokestatic 107), (48, 49, 0, .iaload), (49, 50, 0, .aload_n 0), (50, 53, 0, .getfield 49), (53, 54, 0, .iload_n 2), (54, 55, 0, .iload_n 3), (55, 57, 0, .iload 5), (57, 60, 0, .invokestatic 107), (60, 61, 0, .iaload), (61, 64, 68, .if_icmp .ne 7), (64, 65, 1, .iconst 1), (65, 68, 69, .goto 4), (68, 69, 0, .iconst 0)]
theorem ok_X12_othersThan_0 : ∀ e ∈ k_X12_othersThan_0, z_okb cX12_othersThan e = true := fun e h => List.all_eq_true.mp (by decide +kernel : k_X12_othersThan_0.all (z_okb cX12_othersThan) = true) e h
def k_X12_othersThan_1 : List zI := [(69, 71, 0, .istore 4), (71, 74, 1, .iinc 5 1), (74, 77, 25, .goto (-49)), (77, 78, 0, .iload_n 1), (78, 80, 0, .iload 4), (80, 83, 87, .ifCond .eq 7), (83, 84, 0, .iconst 0), (84, 87, 88, .goto 4), (87, 88, 1, .iconst 1), (88, 89, 0, .iadd), (89, 90, 0, .istore_n 1), (90, 93, 1, .iinc 3 1), (93, 96, 14, .goto (-79)), (96, 99, 1, .iinc 2 1), (99, 102, 4, .goto (-95)), (102, 103, 0, .iload_n 1), (103, 104, 0, .ireturn)]
theorem ok_X12_othersThan_1 : ∀ e ∈ k_X12_othersThan_1, z_okb cX12_othersThan e = true := fun e h => List.all_eq_true.mp (by decide +kernel : k_X12_othersThan_1.all (z_okb cX12_othersThan) = true) e h
def k_X12_othersThan : List zI := k_X12_othersThan_0 ++ (k_X12_othersThan_1)
theorem ok_X12_othersThan : ∀ e ∈ k_X12_othersThan, z_okb cX12_othersThan e = true := List.forall_mem_append.mpr ⟨ok_X12_othersThan_0, ok_X12_othersThan_1⟩
def k_X12_exchanged : List zI := [(0, 1, 0, .iload_n 0), (1, 2, 0, .iload_n 1), (2, 5, 9, .if_icmp .ne 7), (5, 6, 0, .iload_n 2), (6, 9, 19, .goto 13), (9, 10, 0, .iload_n 0), (10, 11, 0, .iload_n 2), (11, 14, 18, .if_icmp .ne 7), (14, 15, 0, .iload_n 1), (15, 18, 19, .goto 4), (18, 19, 0, .iload_n 0), (19, 20, 0, .ireturn)]
theorem ok_X12_exchanged : ∀ e ∈ k_X12_exchanged, z_okb cX12_exchanged e = true := fun e h => List.all_eq_true.mp (by decide +kernel : k_X12_exchanged.all (z_okb cX12_exchanged) = true) e h
def k_X12_swaps_0 : List zI := [(0, 1, 0, .aload_n 0), (1, 2, 0, .iconst 0), (2, 5, 0, .putfield 71), (5, 6, 0, .iload_n 1), (6, 9, 0, .invokestatic 170), (9, 12, 44, .ifCond .eq 35), (12, 13, 0, .iload_n 2), (13, 14, 0, .i2l), (14, 15, 1, .lconst 1), (15, 16, 0, .aload_n 0), (16, 19, 0, .getfield 7), (19, 20, 0, .iload_n 1), (20, 21, 0, .iaload), (21, 22, 0, .i2l), (22, 25, 0, .invokestatic 80), (25, 28, 44, .ifCond .eq 19), (28, 29, 0, .iload_n 3), (29, 30, 0, .i2l), (30, 31, 1, .lconst 1), (31, 32, 0, .aload_n 0), (32, 35, 0, .getfield 7), (35, 36, 0, .iload_n 1), (36, 37, 0, .iaload), (37, 38, 0, .i2l), (38, 41, 0, .invokestatic 80), (41, 44, 46, .ifCond .ne 5), (44, 45, 1, .iconst (-1)), (45, 46, 0, .ireturn), (46, 47, 0, .iconst 0), (47, 49, 0, .istore 4), (49, 51, 0, .iload 4), (51, 53, 27, .bipush 27), (53, 54, 0, .aload_n 0), (54, 57, 0, .getfield 91), (57, 58, 0, .imul), (58, 61, 81, .if_icmp .ge 23), (61, 62, 0, .aload_n 0), (62, 65, 0, .getfield 49), (65, 67, 0, .iload 4), (67, 68, 0, .aload_n 0)]
theorem ok_X12_swaps_0 : ∀ e ∈ k_X12_swaps_0, z_okb cX12_swaps e = true := fun e h => List.all_eq_true.mp (by decide +kernel : k_X12_swaps_0.all (z_okb cX12_swaps) = true) e h
def k_X12_swaps_1 : List zI := [(68, 71, 0, .getfield 13), (71, 73, 0, .iload 4), (73, 74, 0, .iaload), (74, 75, 0, .iastore), (75, 78, 1, .iinc 4 1), (78, 81, 49, .goto (-29)), (81, 82, 0, .iload_n 1), (82, 83, 2, .iconst 2), (83, 84, 0, .iadd), (84, 85, 3, .iconst 3), (85, 86, 0, .irem), (86, 88, 0, .istore 4), (88, 89, 0, .iconst 0), (89, 91, 0, .istore 5), (91, 93, 0, .iload 5), (93, 94, 0, .aload_n 0), (94, 97, 0, .getfield 91), (97, 100, 256, .if_icmp .ge 159), (100, 101, 0, .iconst 0), (101, 103, 0, .istore 6), (103, 105, 0, .iload 6), (105, 106, 0, .aload_n 0), (106, 107, 0, .iload_n 1), (107, 110, 0, .invokevirtual 96), (110, 113, 173, .if_icmp .ge 63), (113, 114, 0, .aload_n 0), (114, 115, 0, .iload_n 1), (115, 118, 0, .invokevirtual 88), (118, 120, 0, .istore 7), (120, 121, 0, .aload_n 0), (121, 124, 0, .getfield 13), (124, 126, 0, .iload 5), (126, 127, 0, .iload_n 1), (127, 129, 0, .iload 6), (129, 132, 0, .invokestatic 107), (132, 133, 0, .aload_n 0), (133, 136, 0, .getfield 49), (136, 138, 0, .iload 5), (138, 139, 0, .iload_n 1), (139, 141, 0, .iload 6)]
theorem ok_X12_swaps_1 : ∀ e ∈ k_X12_swaps_1, z_okb cX12_swaps e = true := fun e h => List.all_eq_true.mp (by decide +kernel : k_X12_swaps_1.all (z_okb cX12_swaps) = true) e h
def k_X12_swaps_2 : List zI := [(141, 143, 0, .iload 7), (143, 144, 0, .idiv), (144, 145, 0, .iload_n 2), (145, 146, 1, .iconst 1), (146, 147, 0, .isub), (147, 148, 0, .iload_n 3), (148, 149, 1, .iconst 1), (149, 150, 0, .isub), (150, 153, 0, .invokestatic 303), (153, 155, 0, .iload 7), (155, 156, 0, .imul), (156, 158, 0, .iload 6), (158, 160, 0, .iload 7), (160, 161, 0, .irem), (161, 162, 0, .iadd), (162, 165, 0, .invokestatic 107), (165, 166, 0, .iaload), (166, 167, 0, .iastore), (167, 170, 1, .iinc 6 1), (170, 173, 103, .goto (-67)), (173, 174, 0, .iconst 0), (174, 176, 0, .istore 6), (176, 178, 0, .iload 6), (178, 179, 0, .aload_n 0), (179, 181, 0, .iload 4), (181, 184, 0, .invokevirtual 96), (184, 187, 250, .if_icmp .ge 66), (187, 188, 0, .aload_n 0), (188, 190, 0, .iload 4), (190, 193, 0, .invokevirtual 88), (193, 195, 0, .istore 7), (195, 196, 0, .aload_n 0), (196, 199, 0, .getfield 13), (199, 201, 0, .iload 5), (201, 203, 0, .iload 4), (203, 205, 0, .iload 6), (205, 208, 0, .invokestatic 107), (208, 209, 0, .aload_n 0), (209, 212, 0, .getfield 49), (212, 214, 0, .iload 5)]
theorem ok_X12_swaps_2 : ∀ e ∈ k_X12_swaps_2, z_okb cX12_swaps e = true := fun e h => List.all_eq_true.mp (by decide +kernel : k_X12_swaps_2.all (z_okb cX12_swaps) = true) e h
def k_X12_swaps_3 : List zI := [(214, 216, 0, .iload 4), (216, 218, 0, .iload 6), (218, 220, 0, .iload 7), (220, 221, 0, .idiv), (221, 223, 0, .iload 7), (223, 224, 0, .imul), (224, 226, 0, .iload 6), (226, 228, 0, .iload 7), (228, 229, 0, .irem), (229, 230, 0, .iload_n 2), (230, 231, 1, .iconst 1), (231, 232, 0, .isub), (232, 233, 0, .iload_n 3), (233, 234, 1, .iconst 1), (234, 235, 0, .isub), (235, 238, 0, .invokestatic 303), (238, 239, 0, .iadd), (239, 242, 0, .invokestatic 107), (242, 243, 0, .iaload), (243, 244, 0, .iastore), (244, 247, 1, .iinc 6 1), (247, 250, 176, .goto (-71)), (250, 253, 1, .iinc 5 1), (253, 256, 91, .goto (-162)), (256, 257, 0, .aload_n 0), (257, 260, 0, .invokevirtual 306), (260, 261, 0, .ireturn)]
theorem ok_X12_swaps_3 : ∀ e ∈ k_X12_swaps_3, z_okb cX12_swaps e = true := fun e h => List.all_eq_true.mp (by decide +kernel : k_X12_swaps_3.all (z_okb cX12_swaps) = true) e h
def k_X12_swaps : List zI := k_X12_swaps_0 ++ (k_X12_swaps_1 ++ (k_X12_swaps_2 ++ (k_X12_swaps_3)))
theorem ok_X12_swaps : ∀ e ∈ k_X12_swaps, z_okb cX12_swaps e = true := List.forall_mem_append.mpr ⟨ok_X12_swaps_0, List.forall_mem_append.mpr ⟨ok_X12_swaps_1, List.forall_mem_append.mpr ⟨ok_X12_swaps_2, ok_X12_swaps_3⟩⟩⟩
def k_X12_usesOf : List zI := [(0, 1, 0, .iconst 0), (1, 3, 0, .istore 4), (3, 4, 0, .iconst 0), (4, 6, 0, .istore 5), (6, 8, 0, .iload 5), (8, 9, 0, .aload_n 0), (9, 12, 0, .getfield 91), (12, 15, 47, .if_icmp .ge 35), (15, 17, 0, .iload 4), (17, 18, 0, .aload_n 0), (18, 21, 0, .getfield 13), (21, 23, 0, .iload 5), (23, 24, 0, .iload_n 1), (24, 25, 0, .iload_n 2), (25, 28, 0, .invokestatic 107), (28, 29, 0, .iaload), (29, 30, 0, .iload_n 3), (30, 33, 37, .if_icmp .ne 7), (33, 34, 1, .iconst 1), (34, 37, 38, .goto 4), (37, 38, 0, .iconst 0), (38, 39, 0, .iadd), (39, 41, 0, .istore 4), (41, 44, 1, .iinc 5 1), (44, 47, 6, .goto (-38)), (47, 49, 0, .iload 4), (49, 50, 0, .ireturn)]
theorem ok_X12_usesOf : ∀ e ∈ k_X12_usesOf, z_okb cX12_usesOf e = true := fun e h => List.all_eq_true.mp (by decide +kernel : k_X12_usesOf.all (z_okb cX12_usesOf) = true) e h
def k_X12_uses_0 : List zI := [(0, 1, 0, .aload_n 0), (1, 2, 0, .iconst 0), (2, 5, 0, .putfield 71), (5, 6, 0, .iload_n 1), (6, 9, 0, .invokestatic 170), (9, 12, 21, .ifCond .eq 12), (12, 13, 0, .aload_n 0), (13, 14, 0, .iload_n 1), (14, 15, 0, .iload_n 2), (15, 18, 0, .invokevirtual 173), (18, 21, 23, .ifCond .ne 5), (21, 22, 1, .iconst (-1)), (22, 23, 0, .ireturn), (23, 24, 0, .aload_n 0), (24, 25, 0, .iconst 0), (25, 28, 0, .putfield 74), (28, 29, 1, .iconst 1), (29, 30, 0, .istore_n 3), (30, 31, 0, .iload_n 3), (31, 32, 0, .aload_n 0), (32, 35, 0, .getfield 65), (35, 38, 56, .if_icmp .ge 21), (38, 39, 0, .aload_n 0), (39, 40, 0, .aload_n 0), (40, 41, 0, .iload_n 1), (41, 42, 0, .iload_n 2), (42, 43, 0, .iload_n 3), (43, 46, 0, .invokevirtual 309), (46, 47, 0, .i2l), (47, 50, 0, .invokevirtual 192), (50, 53, 1, .iinc 3 1), (53, 56, 30, .goto (-23)), (56, 57, 0, .iconst 0), (57, 58, 0, .istore_n 3), (58, 59, 0, .iconst 0), (59, 61, 0, .istore 4), (61, 63, 0, .iload 4), (63, 64, 0, .aload_n 0), (64, 65, 0, .iload_n 1), (65, 68, 0, .invokevirtual 96)]
theorem ok_X12_uses_0 : ∀ e ∈ k_X12_uses_0, z_okb cX12_uses e = true := fun e h => List.all_eq_true.mp (by decide +kernel : k_X12_uses_0.all (z_okb cX12_uses) = true) e h
def k_X12_uses_1 : List zI := [(68, 71, 100, .if_icmp .ge 32), (71, 72, 0, .iload_n 3), (72, 73, 0, .aload_n 0), (73, 74, 0, .iload_n 1), (74, 76, 0, .iload 4), (76, 77, 0, .iconst 0), (77, 80, 0, .invokevirtual 309), (80, 81, 0, .aload_n 0), (81, 84, 0, .getfield 91), (84, 87, 91, .if_icmp .ne 7), (87, 88, 1, .iconst 1), (88, 91, 92, .goto 4), (91, 92, 0, .iconst 0), (92, 93, 0, .iadd), (93, 94, 0, .istore_n 3), (94, 97, 1, .iinc 4 1), (97, 100, 61, .goto (-36)), (100, 101, 0, .aload_n 0), (101, 102, 0, .iload_n 3), (102, 103, 0, .i2l), (103, 106, 0, .invokevirtual 192), (106, 107, 0, .aload_n 0), (107, 110, 0, .getfield 91), (110, 111, 0, .aload_n 0), (111, 112, 0, .iload_n 1), (112, 113, 0, .iload_n 2), (113, 114, 0, .iconst 0), (114, 117, 0, .invokevirtual 309), (117, 118, 0, .isub), (118, 119, 0, .ireturn)]
theorem ok_X12_uses_1 : ∀ e ∈ k_X12_uses_1, z_okb cX12_uses e = true := fun e h => List.all_eq_true.mp (by decide +kernel : k_X12_uses_1.all (z_okb cX12_uses) = true) e h
def k_X12_uses : List zI := k_X12_uses_0 ++ (k_X12_uses_1)
theorem ok_X12_uses : ∀ e ∈ k_X12_uses, z_okb cX12_uses e = true := List.forall_mem_append.mpr ⟨ok_X12_uses_0, ok_X12_uses_1⟩
def k_X12_shears_0 : List zI := [(0, 1, 0, .aload_n 0), (1, 2, 0, .iconst 0), (2, 5, 0, .putfield 71), (5, 6, 0, .iload_n 1), (6, 9, 0, .invokestatic 170), (9, 12, 66, .ifCond .eq 57), (12, 13, 0, .iload_n 2), (13, 14, 0, .i2l), (14, 15, 1, .lconst 1), (15, 16, 0, .aload_n 0), (16, 19, 0, .getfield 7), (19, 20, 0, .iload_n 1), (20, 21, 0, .iaload), (21, 22, 0, .i2l), (22, 25, 0, .invokestatic 80), (25, 28, 66, .ifCond .eq 41), (28, 29, 0, .iload_n 3), (29, 30, 0, .i2l), (30, 31, 1, .lconst 1), (31, 32, 0, .aload_n 0), (32, 35, 0, .getfield 7), (35, 36, 0, .iload_n 1), (36, 37, 0, .iaload), (37, 38, 0, .i2l), (38, 41, 0, .invokestatic 80), (41, 44, 66, .ifCond .eq 25), (44, 45, 0, .iload_n 2), (45, 46, 0, .iload_n 3), (46, 49, 66, .if_icmp .eq 20), (49, 51, 0, .iload 4), (51, 52, 0, .i2l), (52, 53, 1, .lconst 1), (53, 54, 0, .aload_n 0), (54, 57, 0, .getfield 65), (57, 58, 1, .iconst 1), (58, 59, 0, .isub), (59, 60, 0, .i2l), (60, 63, 0, .invokestatic 80), (63, 66, 68, .ifCond .ne 5), (66, 67, 1, .iconst (-1))]
theorem ok_X12_shears_0 : ∀ e ∈ k_X12_shears_0, z_okb cX12_shears e = true := fun e h => List.all_eq_true.mp (by decide +kernel : k_X12_shears_0.all (z_okb cX12_shears) = true) e h
def k_X12_shears_1 : List zI := [(67, 68, 0, .ireturn), (68, 69, 0, .iconst 0), (69, 71, 0, .istore 5), (71, 73, 0, .iload 5), (73, 75, 27, .bipush 27), (75, 76, 0, .aload_n 0), (76, 79, 0, .getfield 91), (79, 80, 0, .imul), (80, 83, 103, .if_icmp .ge 23), (83, 84, 0, .aload_n 0), (84, 87, 0, .getfield 49), (87, 89, 0, .iload 5), (89, 90, 0, .aload_n 0), (90, 93, 0, .getfield 13), (93, 95, 0, .iload 5), (95, 96, 0, .iaload), (96, 97, 0, .iastore), (97, 100, 1, .iinc 5 1), (100, 103, 71, .goto (-29)), (103, 104, 0, .iconst 0), (104, 106, 0, .istore 5), (106, 108, 0, .iload 5), (108, 109, 0, .aload_n 0), (109, 112, 0, .getfield 91), (112, 115, 155, .if_icmp .ge 43), (115, 116, 0, .aload_n 0), (116, 118, 0, .iload 5), (118, 119, 0, .iload_n 1), (119, 120, 0, .iload_n 2), (120, 121, 1, .iconst 1), (121, 122, 0, .isub), (122, 123, 0, .iload_n 3), (123, 124, 1, .iconst 1), (124, 125, 0, .isub), (125, 127, 0, .iload 4), (127, 130, 0, .invokevirtual 312), (130, 131, 0, .aload_n 0), (131, 133, 0, .iload 5), (133, 134, 0, .iload_n 1), (134, 135, 2, .iconst 2)]
theorem ok_X12_shears_1 : ∀ e ∈ k_X12_shears_1, z_okb cX12_shears e = true := fun e h => List.all_eq_true.mp (by decide +kernel : k_X12_shears_1.all (z_okb cX12_shears) = true) e h
def k_X12_shears_2 : List zI := [(135, 136, 0, .iadd), (136, 137, 3, .iconst 3), (137, 138, 0, .irem), (138, 139, 0, .iload_n 2), (139, 140, 1, .iconst 1), (140, 141, 0, .isub), (141, 142, 0, .iload_n 3), (142, 143, 1, .iconst 1), (143, 144, 0, .isub), (144, 146, 0, .iload 4), (146, 149, 0, .invokevirtual 316), (149, 152, 1, .iinc 5 1), (152, 155, 106, .goto (-46)), (155, 156, 0, .aload_n 0), (156, 159, 0, .invokevirtual 306), (159, 160, 0, .ireturn)]
theorem ok_X12_shears_2 : ∀ e ∈ k_X12_shears_2, z_okb cX12_shears e = true := fun e h => List.all_eq_true.mp (by decide +kernel : k_X12_shears_2.all (z_okb cX12_shears) = true) e h
def k_X12_shears : List zI := k_X12_shears_0 ++ (k_X12_shears_1 ++ (k_X12_shears_2))
theorem ok_X12_shears : ∀ e ∈ k_X12_shears, z_okb cX12_shears e = true := List.forall_mem_append.mpr ⟨ok_X12_shears_0, List.forall_mem_append.mpr ⟨ok_X12_shears_1, ok_X12_shears_2⟩⟩
def k_X12_without_0 : List zI := [(0, 1, 0, .iconst 0), (1, 3, 0, .istore 5), (3, 5, 0, .iload 5), (5, 7, 40, .bipush 40), (7, 10, 24, .if_icmp .ge 17), (10, 11, 0, .aload_n 0), (11, 14, 0, .getfield 52), (14, 16, 0, .iload 5), (16, 17, 0, .iconst 0), (17, 18, 0, .bastore), (18, 21, 1, .iinc 5 1), (21, 24, 3, .goto (-18)), (24, 25, 0, .iconst 0), (25, 27, 0, .istore 5), (27, 28, 0, .iconst 0), (28, 30, 0, .istore 6), (30, 32, 0, .iload 6), (32, 33, 0, .iload_n 2), (33, 36, 102, .if_icmp .ge 69), (36, 37, 0, .iconst 0), (37, 39, 0, .istore 7), (39, 41, 0, .iload 7), (41, 43, 0, .iload 4), (43, 46, 75, .if_icmp .ge 32), (46, 47, 0, .aload_n 0), (47, 50, 0, .getfield 52), (50, 52, 0, .iload 7), (52, 53, 0, .baload), (53, 56, 69, .ifCond .ne 16), (56, 57, 0, .aload_n 0), (57, 58, 0, .aload_n 1), (58, 60, 0, .iload 6), (60, 61, 0, .aload_n 3), (61, 63, 0, .iload 7), (63, 66, 0, .invokevirtual 273), (66, 69, 75, .ifCond .ne 9), (69, 72, 1, .iinc 7 1), (72, 75, 39, .goto (-33)), (75, 77, 0, .iload 7), (77, 79, 0, .iload 4)]
theorem ok_X12_without_0 : ∀ e ∈ k_X12_without_0, z_okb cX12_without e = true := fun e h => List.all_eq_true.mp (by decide +kernel : k_X12_without_0.all (z_okb cX12_without) = true) e h
def k_X12_without_1 : List zI := [(79, 82, 93, .if_icmp .ge 14), (82, 83, 0, .aload_n 0), (83, 86, 0, .getfield 52), (86, 88, 0, .iload 7), (88, 89, 1, .iconst 1), (89, 90, 0, .bastore), (90, 93, 96, .goto 6), (93, 96, 1, .iinc 5 1), (96, 99, 1, .iinc 6 1), (99, 102, 30, .goto (-69)), (102, 104, 0, .iload 5), (104, 105, 0, .ireturn)]
theorem ok_X12_without_1 : ∀ e ∈ k_X12_without_1, z_okb cX12_without e = true := fun e h => List.all_eq_true.mp (by decide +kernel : k_X12_without_1.all (z_okb cX12_without) = true) e h
def k_X12_without : List zI := k_X12_without_0 ++ (k_X12_without_1)
theorem ok_X12_without : ∀ e ∈ k_X12_without, z_okb cX12_without e = true := List.forall_mem_append.mpr ⟨ok_X12_without_0, ok_X12_without_1⟩
def k_X12_asBeside : List zI := [(0, 1, 0, .iconst 0), (1, 2, 0, .istore_n 1), (2, 3, 0, .iconst 0), (3, 4, 0, .istore_n 2), (4, 5, 0, .iload_n 2), (5, 6, 0, .aload_n 0), (6, 9, 0, .getfield 91), (9, 12, 43, .if_icmp .ge 34), (12, 13, 0, .iload_n 1), (13, 14, 0, .aload_n 0), (14, 15, 0, .aload_n 0), (15, 18, 0, .getfield 13), (18, 19, 0, .iload_n 2), (19, 20, 0, .aload_n 0), (20, 23, 0, .getfield 49), (23, 24, 0, .iload_n 2), (24, 27, 0, .invokevirtual 273), (27, 30, 34, .ifCond .eq 7), (30, 31, 1, .iconst 1), (31, 34, 35, .goto 4), (34, 35, 0, .iconst 0), (35, 36, 0, .iadd), (36, 37, 0, .istore_n 1), (37, 40, 1, .iinc 2 1), (40, 43, 4, .goto (-36)), (43, 44, 0, .aload_n 0), (44, 45, 0, .iconst 0), (45, 48, 0, .putfield 74), (48, 49, 0, .aload_n 0), (49, 50, 0, .iload_n 1), (50, 51, 0, .i2l), (51, 54, 0, .invokevirtual 192), (54, 55, 0, .aload_n 0), (55, 56, 0, .aload_n 0), (56, 59, 0, .getfield 13), (59, 60, 0, .aload_n 0), (60, 63, 0, .getfield 91), (63, 64, 0, .aload_n 0), (64, 67, 0, .getfield 49), (67, 68, 0, .aload_n 0), (68, 71, 0, .getfield 91), (71, 74, 0, .invokevirtual 319), (74, 77, 81, .ifCond .ne 7), (77, 78, 1, .iconst 1), (78, 81, 82, .goto 4), (81, 82, 0, .iconst 0), (82, 83, 0, .ireturn)]
theorem ok_X12_asBeside : ∀ e ∈ k_X12_asBeside, z_okb cX12_asBeside e = true := fun e h => List.all_eq_true.mp (by decide +kernel : k_X12_asBeside.all (z_okb cX12_asBeside) = true) e h
def k_X12_round : List zI := [(0, 1, 0, .aload_n 0), (1, 2, 0, .iconst 0), (2, 5, 0, .putfield 71), (5, 6, 0, .aload_n 0), (6, 9, 0, .getfield 7), (9, 10, 0, .iconst 0), (10, 11, 0, .iaload), (11, 12, 0, .aload_n 0), (12, 15, 0, .getfield 7), (15, 16, 1, .iconst 1), (16, 17, 0, .iaload), (17, 20, 35, .if_icmp .ne 18), (20, 21, 0, .aload_n 0), (21, 24, 0, .getfield 7), (24, 25, 1, .iconst 1), (25, 26, 0, .iaload), (26, 27, 0, .aload_n 0), (27, 30, 0, .getfield 7), (30, 31, 2, .iconst 2), (31, 32, 0, .iaload), (32, 35, 38, .if_icmp .eq 6), (35, 37, 2, .bipush (-2)), (37, 38, 0, .ireturn), (38, 39, 0, .aload_n 0), (39, 42, 0, .invokevirtual 294), (42, 43, 0, .aload_n 0), (43, 46, 0, .invokevirtual 322), (46, 47, 0, .ireturn)]
theorem ok_X12_round : ∀ e ∈ k_X12_round, z_okb cX12_round e = true := fun e h => List.all_eq_true.mp (by decide +kernel : k_X12_round.all (z_okb cX12_round) = true) e h
def k_X12_mirrored : List zI := [(0, 1, 0, .aload_n 0), (1, 2, 0, .iconst 0), (2, 5, 0, .putfield 71), (5, 6, 0, .aload_n 0), (6, 9, 0, .getfield 7), (9, 10, 1, .iconst 1), (10, 11, 0, .iaload), (11, 12, 0, .aload_n 0), (12, 15, 0, .getfield 7), (15, 16, 2, .iconst 2), (16, 17, 0, .iaload), (17, 20, 23, .if_icmp .eq 6), (20, 22, 2, .bipush (-2)), (22, 23, 0, .ireturn), (23, 24, 0, .aload_n 0), (24, 27, 0, .invokevirtual 300), (27, 28, 0, .aload_n 0), (28, 31, 0, .invokevirtual 322), (31, 32, 0, .ireturn)]
theorem ok_X12_mirrored : ∀ e ∈ k_X12_mirrored, z_okb cX12_mirrored e = true := fun e h => List.all_eq_true.mp (by decide +kernel : k_X12_mirrored.all (z_okb cX12_mirrored) = true) e h
def k_X12_groupOf : List zI := [(0, 1, 0, .lconst 0), (1, 2, 0, .lstore_n 3), (2, 3, 0, .iconst 0), (3, 5, 0, .istore 5), (5, 7, 0, .iload 5), (7, 8, 0, .aload_n 0), (8, 11, 0, .getfield 91), (11, 14, 42, .if_icmp .ge 31), (14, 15, 0, .lload_n 3), (15, 16, 0, .aload_n 0), (16, 17, 0, .iload_n 1), (17, 19, 0, .iload 5), (19, 20, 0, .iload_n 2), (20, 23, 0, .invokevirtual 217), (23, 26, 33, .ifCond .eq 10), (26, 27, 1, .lconst 1), (27, 29, 0, .iload 5), (29, 30, 0, .lshl), (30, 33, 34, .goto 4), (33, 34, 0, .lconst 0), (34, 35, 0, .lor), (35, 36, 0, .lstore_n 3), (36, 39, 1, .iinc 5 1), (39, 42, 5, .goto (-34)), (42, 43, 0, .lload_n 3), (43, 44, 0, .lreturn)]
theorem ok_X12_groupOf : ∀ e ∈ k_X12_groupOf, z_okb cX12_groupOf e = true := fun e h => List.all_eq_true.mp (by decide +kernel : k_X12_groupOf.all (z_okb cX12_groupOf) = true) e h
def k_X12_ones : List zI := [(0, 1, 0, .iconst 0), (1, 2, 0, .istore_n 2), (2, 3, 0, .lload_n 0), (3, 4, 0, .lstore_n 3), (4, 5, 0, .lload_n 3), (5, 6, 0, .lconst 0), (6, 7, 0, .lcmp), (7, 10, 22, .ifCond .eq 15), (10, 13, 1, .iinc 2 1), (13, 14, 0, .lload_n 3), (14, 15, 0, .lload_n 3), (15, 16, 1, .lconst 1), (16, 17, 0, .lsub), (17, 18, 0, .land), (18, 19, 0, .lstore_n 3), (19, 22, 4, .goto (-15)), (22, 23, 0, .iload_n 2), (23, 24, 0, .ireturn)]
theorem ok_X12_ones : ∀ e ∈ k_X12_ones, z_okb cX12_ones e = true := fun e h => List.all_eq_true.mp (by decide +kernel : k_X12_ones.all (z_okb cX12_ones) = true) e h
def k_X12_groups_0 : List zI := [(0, 1, 0, .aload_n 0), (1, 2, 0, .iconst 0), (2, 5, 0, .putfield 71), (5, 6, 0, .iload_n 1), (6, 9, 0, .invokestatic 170), (9, 12, 14, .ifCond .ne 5), (12, 13, 1, .iconst (-1)), (13, 14, 0, .ireturn), (14, 15, 0, .iconst 0), (15, 16, 0, .istore_n 2), (16, 17, 0, .lconst 0), (17, 18, 0, .lstore_n 3), (18, 19, 0, .lconst 0), (19, 21, 0, .lstore 5), (21, 22, 0, .iconst 0), (22, 24, 0, .istore 7), (24, 26, 0, .iload 7), (26, 27, 0, .aload_n 0), (27, 30, 0, .getfield 91), (30, 33, 101, .if_icmp .ge 71), (33, 34, 0, .aload_n 0), (34, 36, 0, .iload 7), (36, 37, 0, .iload_n 1), (37, 40, 0, .invokevirtual 325), (40, 42, 0, .lstore 8), (42, 44, 0, .lload 5), (44, 46, 0, .iload 7), (46, 47, 0, .lshr), (47, 48, 1, .lconst 1), (48, 49, 0, .land), (49, 50, 1, .lconst 1), (50, 51, 0, .lcmp), (51, 54, 95, .ifCond .eq 44), (54, 56, 0, .lload 8), (56, 59, 0, .invokestatic 329), (59, 60, 2, .iconst 2), (60, 63, 66, .if_icmp .ge 6), (63, 66, 95, .goto 32), (66, 68, 0, .lload 5), (68, 70, 0, .lload 8)]
theorem ok_X12_groups_0 : ∀ e ∈ k_X12_groups_0, z_okb cX12_groups e = true := fun e h => List.all_eq_true.mp (by decide +kernel : k_X12_groups_0.all (z_okb cX12_groups) = true) e h
def k_X12_groups_1 : List zI := [(70, 71, 0, .lor), (71, 73, 0, .lstore 5), (73, 76, 1, .iinc 2 1), (76, 78, 0, .lload 8), (78, 81, 0, .invokestatic 329), (81, 82, 0, .lload_n 3), (82, 85, 0, .invokestatic 329), (85, 88, 93, .if_icmp .le 8), (88, 90, 0, .lload 8), (90, 93, 94, .goto 4), (93, 94, 0, .lload_n 3), (94, 95, 0, .lstore_n 3), (95, 98, 1, .iinc 7 1), (98, 101, 24, .goto (-74)), (101, 102, 0, .aload_n 0), (102, 103, 0, .iconst 0), (103, 106, 0, .putfield 74), (106, 107, 0, .aload_n 0), (107, 108, 0, .lload_n 3), (108, 111, 0, .invokestatic 329), (111, 112, 0, .i2l), (112, 115, 0, .invokevirtual 192), (115, 116, 0, .aload_n 0), (116, 117, 0, .lload_n 3), (117, 120, 0, .invokevirtual 192), (120, 121, 0, .iload_n 2), (121, 122, 0, .ireturn)]
theorem ok_X12_groups_1 : ∀ e ∈ k_X12_groups_1, z_okb cX12_groups e = true := fun e h => List.all_eq_true.mp (by decide +kernel : k_X12_groups_1.all (z_okb cX12_groups) = true) e h
def k_X12_groups : List zI := k_X12_groups_0 ++ (k_X12_groups_1)
theorem ok_X12_groups : ∀ e ∈ k_X12_groups, z_okb cX12_groups e = true := List.forall_mem_append.mpr ⟨ok_X12_groups_0, ok_X12_groups_1⟩
def k_X12_frees_0 : List zI := [(0, 2, 9, .bipush 9), (2, 3, 0, .aload_n 0), (3, 6, 0, .getfield 333), (6, 7, 0, .imul), (7, 8, 0, .istore_n 3), (8, 9, 0, .iconst 0), (9, 11, 0, .istore 4), (11, 13, 0, .iload 4), (13, 15, 9, .bipush 9), (15, 18, 45, .if_icmp .ge 30), (18, 19, 0, .aload_n 0), (19, 22, 0, .getfield 56), (22, 23, 0, .iload_n 3), (23, 25, 0, .iload 4), (25, 26, 0, .iadd), (26, 27, 0, .aload_n 0), (27, 30, 0, .getfield 13), (30, 31, 0, .iload_n 1), (31, 32, 0, .iload_n 2), (32, 34, 0, .iload 4), (34, 37, 0, .invokestatic 107), (37, 38, 0, .iaload), (38, 39, 0, .iastore), (39, 42, 1, .iinc 4 1), (42, 45, 11, .goto (-31)), (45, 46, 0, .iconst 0), (46, 48, 0, .istore 4), (48, 50, 0, .iload 4), (50, 51, 0, .aload_n 0), (51, 54, 0, .getfield 333), (54, 57, 140, .if_icmp .ge 86), (57, 58, 0, .aload_n 0), (58, 60, 9, .bipush 9), (60, 62, 0, .iload 4), (62, 63, 0, .imul), (63, 66, 0, .invokevirtual 336), (66, 68, 0, .istore 5), (68, 69, 0, .aload_n 0), (69, 72, 0, .getfield 56), (72, 73, 0, .iload_n 3)]
theorem ok_X12_frees_0 : ∀ e ∈ k_X12_frees_0, z_okb cX12_frees e = true := fun e h => List.all_eq_true.mp (by decide +kernel : k_X12_frees_0.all (z_okb cX12_frees) = true) e h
def k_X12_frees_1 : List zI := [(73, 75, 0, .iload 5), (75, 76, 0, .iadd), (76, 77, 0, .iaload), (77, 79, 0, .istore 6), (79, 80, 0, .iconst 0), (80, 82, 0, .istore 7), (82, 84, 0, .iload 7), (84, 86, 9, .bipush 9), (86, 89, 134, .if_icmp .ge 48), (89, 90, 0, .aload_n 0), (90, 93, 0, .getfield 56), (93, 94, 0, .iload_n 3), (94, 96, 0, .iload 7), (96, 97, 0, .iadd), (97, 98, 0, .aload_n 0), (98, 99, 0, .aload_n 0), (99, 102, 0, .getfield 56), (102, 103, 0, .iload_n 3), (103, 105, 0, .iload 7), (105, 106, 0, .iadd), (106, 107, 0, .iaload), (107, 109, 0, .iload 6), (109, 110, 0, .aload_n 0), (110, 113, 0, .getfield 56), (113, 115, 9, .bipush 9), (115, 117, 0, .iload 4), (117, 118, 0, .imul), (118, 120, 0, .iload 7), (120, 121, 0, .iadd), (121, 122, 0, .iaload), (122, 123, 0, .imul), (123, 124, 0, .isub), (124, 127, 0, .invokevirtual 223), (127, 128, 0, .iastore), (128, 131, 1, .iinc 7 1), (131, 134, 82, .goto (-49)), (134, 137, 1, .iinc 4 1), (137, 140, 48, .goto (-89)), (140, 141, 0, .aload_n 0), (141, 142, 0, .iload_n 3)]
theorem ok_X12_frees_1 : ∀ e ∈ k_X12_frees_1, z_okb cX12_frees e = true := fun e h => List.all_eq_true.mp (by decide +kernel : k_X12_frees_1.all (z_okb cX12_frees) = true) e h
def k_X12_frees_2 : List zI := [(142, 145, 0, .invokevirtual 336), (145, 147, 0, .istore 4), (147, 149, 0, .iload 4), (149, 151, 9, .bipush 9), (151, 154, 156, .if_icmp .ne 5), (154, 155, 0, .iconst 0), (155, 156, 0, .ireturn), (156, 157, 0, .aload_n 0), (157, 160, 0, .getfield 56), (160, 161, 0, .iload_n 3), (161, 163, 0, .iload 4), (163, 164, 0, .iadd), (164, 165, 0, .iaload), (165, 167, 0, .istore 5), (167, 168, 0, .iconst 0), (168, 170, 0, .istore 6), (170, 172, 0, .iload 6), (172, 174, 9, .bipush 9), (174, 177, 209, .if_icmp .ge 35), (177, 178, 0, .aload_n 0), (178, 181, 0, .getfield 56), (181, 182, 0, .iload_n 3), (182, 184, 0, .iload 6), (184, 185, 0, .iadd), (185, 186, 0, .aload_n 0), (186, 189, 0, .getfield 56), (189, 190, 0, .iload_n 3), (190, 192, 0, .iload 6), (192, 193, 0, .iadd), (193, 194, 0, .iaload), (194, 196, 0, .iload 5), (196, 197, 0, .imul), (197, 198, 0, .aload_n 0), (198, 201, 0, .getfield 65), (201, 202, 0, .irem), (202, 203, 0, .iastore), (203, 206, 1, .iinc 6 1), (206, 209, 170, .goto (-36)), (209, 210, 0, .aload_n 0), (210, 211, 0, .dup)]
theorem ok_X12_frees_2 : ∀ e ∈ k_X12_frees_2, z_okb cX12_frees e = true := fun e h => List.all_eq_true.mp (by decide +kernel : k_X12_frees_2.all (z_okb cX12_frees) = true) e h
def k_X12_frees_3 : List zI := [(211, 214, 0, .getfield 333), (214, 215, 1, .iconst 1), (215, 216, 0, .iadd), (216, 219, 0, .putfield 333), (219, 220, 1, .iconst 1), (220, 221, 0, .ireturn)]
theorem ok_X12_frees_3 : ∀ e ∈ k_X12_frees_3, z_okb cX12_frees e = true := fun e h => List.all_eq_true.mp (by decide +kernel : k_X12_frees_3.all (z_okb cX12_frees) = true) e h
def k_X12_frees : List zI := k_X12_frees_0 ++ (k_X12_frees_1 ++ (k_X12_frees_2 ++ (k_X12_frees_3)))
theorem ok_X12_frees : ∀ e ∈ k_X12_frees, z_okb cX12_frees e = true := List.forall_mem_append.mpr ⟨ok_X12_frees_0, List.forall_mem_append.mpr ⟨ok_X12_frees_1, List.forall_mem_append.mpr ⟨ok_X12_frees_2, ok_X12_frees_3⟩⟩⟩
def k_X12_leadOf : List zI := [(0, 1, 0, .iconst 0), (1, 2, 0, .istore_n 2), (2, 3, 0, .iload_n 2), (3, 5, 9, .bipush 9), (5, 8, 25, .if_icmp .ge 20), (8, 9, 0, .aload_n 0), (9, 12, 0, .getfield 56), (12, 13, 0, .iload_n 1), (13, 14, 0, .iload_n 2), (14, 15, 0, .iadd), (15, 16, 0, .iaload), (16, 19, 25, .ifCond .ne 9), (19, 22, 1, .iinc 2 1), (22, 25, 2, .goto (-20)), (25, 26, 0, .iload_n 2), (26, 27, 0, .ireturn)]
theorem ok_X12_leadOf : ∀ e ∈ k_X12_leadOf, z_okb cX12_leadOf e = true := fun e h => List.all_eq_true.mp (by decide +kernel : k_X12_leadOf.all (z_okb cX12_leadOf) = true) e h
def k_X12_spans : List zI := [(0, 1, 0, .aload_n 0), (1, 2, 0, .iconst 0), (2, 5, 0, .putfield 71), (5, 6, 0, .iload_n 1), (6, 9, 0, .invokestatic 170), (9, 12, 14, .ifCond .ne 5), (12, 13, 1, .iconst (-1)), (13, 14, 0, .ireturn), (14, 15, 0, .aload_n 0), (15, 16, 0, .iconst 0), (16, 19, 0, .putfield 333), (19, 20, 0, .lconst 0), (20, 21, 0, .lstore_n 2), (21, 22, 0, .iconst 0), (22, 24, 0, .istore 4), (24, 26, 0, .iload 4), (26, 27, 0, .aload_n 0), (27, 30, 0, .getfield 91), (30, 33, 72, .if_icmp .ge 42), (33, 34, 0, .aload_n 0), (34, 37, 0, .getfield 333), (37, 38, 0, .aload_n 0), (38, 39, 0, .iload_n 1), (39, 42, 0, .invokevirtual 96), (42, 45, 72, .if_icmp .ge 30), (45, 46, 0, .lload_n 2), (46, 47, 0, .aload_n 0), (47, 49, 0, .iload 4), (49, 50, 0, .iload_n 1), (50, 53, 0, .invokevirtual 339), (53, 56, 63, .ifCond .eq 10), (56, 57, 1, .lconst 1), (57, 59, 0, .iload 4), (59, 60, 0, .lshl), (60, 63, 64, .goto 4), (63, 64, 0, .lconst 0), (64, 65, 0, .lor), (65, 66, 0, .lstore_n 2), (66, 69, 1, .iinc 4 1), (69, 72, 24, .goto (-45)), (72, 73, 0, .aload_n 0), (73, 74, 0, .iconst 0), (74, 77, 0, .putfield 74), (77, 78, 0, .aload_n 0), (78, 79, 0, .lload_n 2), (79, 82, 0, .invokevirtual 192), (82, 83, 0, .aload_n 0), (83, 86, 0, .getfield 333), (86, 87, 0, .ireturn)]
theorem ok_X12_spans : ∀ e ∈ k_X12_spans, z_okb cX12_spans e = true := fun e h => List.all_eq_true.mp (by decide +kernel : k_X12_spans.all (z_okb cX12_spans) = true) e h
def k_X12_keeps : List zI := [(0, 1, 0, .aload_n 0), (1, 2, 0, .iconst 0), (2, 5, 0, .putfield 71), (5, 6, 0, .aload_n 0), (6, 7, 0, .aload_n 0), (7, 10, 0, .getfield 91), (10, 13, 0, .putfield 16), (13, 14, 0, .iconst 0), (14, 15, 0, .istore_n 1), (15, 16, 0, .iload_n 1), (16, 18, 27, .bipush 27), (18, 19, 0, .aload_n 0), (19, 22, 0, .getfield 91), (22, 23, 0, .imul), (23, 26, 44, .if_icmp .ge 21), (26, 27, 0, .aload_n 0), (27, 30, 0, .getfield 23), (30, 31, 0, .iload_n 1), (31, 32, 0, .aload_n 0), (32, 35, 0, .getfield 13), (35, 36, 0, .iload_n 1), (36, 37, 0, .iaload), (37, 38, 0, .iastore), (38, 41, 1, .iinc 1 1), (41, 44, 15, .goto (-26)), (44, 45, 0, .iconst 0), (45, 46, 0, .istore_n 1), (46, 47, 0, .iload_n 1), (47, 48, 3, .iconst 3), (48, 51, 69, .if_icmp .ge 21), (51, 52, 0, .aload_n 0), (52, 55, 0, .getfield 20), (55, 56, 0, .iload_n 1), (56, 57, 0, .aload_n 0), (57, 60, 0, .getfield 7), (60, 61, 0, .iload_n 1), (61, 62, 0, .iaload), (62, 63, 0, .iastore), (63, 66, 1, .iinc 1 1), (66, 69, 46, .goto (-20)), (69, 70, 0, .aload_n 0), (70, 73, 0, .getfield 91), (73, 74, 0, .ireturn)]
theorem ok_X12_keeps : ∀ e ∈ k_X12_keeps, z_okb cX12_keeps e = true := fun e h => List.all_eq_true.mp (by decide +kernel : k_X12_keeps.all (z_okb cX12_keeps) = true) e h
def k_X12_isKeptSo : List zI := [(0, 1, 0, .aload_n 0), (1, 4, 0, .getfield 20), (4, 5, 0, .iconst 0), (5, 6, 0, .iaload), (6, 7, 0, .aload_n 0), (7, 10, 0, .getfield 7), (10, 11, 0, .iconst 0), (11, 12, 0, .iaload), (12, 15, 49, .if_icmp .ne 37), (15, 16, 0, .aload_n 0), (16, 19, 0, .getfield 20), (19, 20, 1, .iconst 1), (20, 21, 0, .iaload), (21, 22, 0, .aload_n 0), (22, 25, 0, .getfield 7), (25, 26, 1, .iconst 1), (26, 27, 0, .iaload), (27, 30, 49, .if_icmp .ne 22), (30, 31, 0, .aload_n 0), (31, 34, 0, .getfield 20), (34, 35, 2, .iconst 2), (35, 36, 0, .iaload), (36, 37, 0, .aload_n 0), (37, 40, 0, .getfield 7), (40, 41, 2, .iconst 2), (41, 42, 0, .iaload), (42, 45, 49, .if_icmp .ne 7), (45, 46, 1, .iconst 1), (46, 49, 50, .goto 4), (49, 50, 0, .iconst 0), (50, 51, 0, .ireturn)]
theorem ok_X12_isKeptSo : ∀ e ∈ k_X12_isKeptSo, z_okb cX12_isKeptSo e = true := fun e h => List.all_eq_true.mp (by decide +kernel : k_X12_isKeptSo.all (z_okb cX12_isKeptSo) = true) e h
def k_X12_others : List zI := [(0, 1, 0, .aload_n 0), (1, 2, 0, .iconst 0), (2, 5, 0, .putfield 71), (5, 6, 0, .aload_n 0), (6, 9, 0, .getfield 16), (9, 10, 1, .iconst (-1)), (10, 13, 16, .if_icmp .ne 6), (13, 15, 2, .bipush (-2)), (15, 16, 0, .ireturn), (16, 17, 0, .aload_n 0), (17, 20, 0, .invokevirtual 342), (20, 23, 46, .ifCond .eq 26), (23, 24, 0, .aload_n 0), (24, 25, 0, .aload_n 0), (25, 28, 0, .getfield 13), (28, 29, 0, .aload_n 0), (29, 32, 0, .getfield 91), (32, 33, 0, .aload_n 0), (33, 36, 0, .getfield 23), (36, 37, 0, .aload_n 0), (37, 40, 0, .getfield 16), (40, 43, 0, .invokevirtual 319), (43, 46, 50, .goto 7), (46, 47, 0, .aload_n 0), (47, 50, 0, .getfield 91), (50, 51, 0, .istore_n 1), (51, 52, 0, .aload_n 0), (52, 53, 0, .iconst 0), (53, 56, 0, .putfield 74), (56, 57, 0, .aload_n 0), (57, 58, 0, .aload_n 0), (58, 61, 0, .getfield 16), (61, 62, 0, .aload_n 0), (62, 65, 0, .getfield 91), (65, 66, 0, .iload_n 1), (66, 67, 0, .isub), (67, 68, 0, .isub), (68, 69, 0, .i2l), (69, 72, 0, .invokevirtual 192), (72, 73, 0, .iload_n 1), (73, 74, 0, .ireturn)]
theorem ok_X12_others : ∀ e ∈ k_X12_others, z_okb cX12_others e = true := fun e h => List.all_eq_true.mp (by decide +kernel : k_X12_others.all (z_okb cX12_others) = true) e h
def k_X12_keptGiven : List zI := [(0, 1, 0, .iconst 0), (1, 3, 0, .istore 4), (3, 4, 0, .iconst 0), (4, 6, 0, .istore 5), (6, 8, 0, .iload 5), (8, 9, 0, .aload_n 0), (9, 12, 0, .getfield 16), (12, 15, 64, .if_icmp .ge 52), (15, 17, 0, .iload 4), (17, 18, 0, .aload_n 0), (18, 21, 0, .getfield 23), (21, 23, 0, .iload 5), (23, 24, 0, .iconst 0), (24, 25, 0, .iload_n 1), (25, 28, 0, .invokestatic 107), (28, 29, 0, .iaload), (29, 30, 0, .aload_n 0), (30, 33, 0, .getfield 23), (33, 35, 0, .iload 5), (35, 36, 1, .iconst 1), (36, 37, 0, .iload_n 2), (37, 40, 0, .invokestatic 107), (40, 41, 0, .iaload), (41, 42, 0, .imul), (42, 43, 0, .aload_n 0), (43, 46, 0, .getfield 23), (46, 48, 0, .iload 5), (48, 49, 2, .iconst 2), (49, 50, 0, .iload_n 3), (50, 53, 0, .invokestatic 107), (53, 54, 0, .iaload), (54, 55, 0, .imul), (55, 56, 0, .iadd), (56, 58, 0, .istore 4), (58, 61, 1, .iinc 5 1), (61, 64, 6, .goto (-55)), (64, 66, 0, .iload 4), (66, 67, 0, .aload_n 0), (67, 70, 0, .getfield 65), (70, 71, 0, .irem), (71, 72, 0, .ireturn)]
theorem ok_X12_keptGiven : ∀ e ∈ k_X12_keptGiven, z_okb cX12_keptGiven e = true := fun e h => List.all_eq_true.mp (by decide +kernel : k_X12_keptGiven.all (z_okb cX12_keptGiven) = true) e h
def k_X12_unlikes_0 : List zI := [(0, 1, 0, .aload_n 0), (1, 2, 0, .iconst 0), (2, 5, 0, .putfield 71), (5, 6, 0, .aload_n 0), (6, 9, 0, .getfield 16), (9, 10, 1, .iconst (-1)), (10, 13, 16, .if_icmp .ne 6), (13, 15, 2, .bipush (-2)), (15, 16, 0, .ireturn), (16, 17, 0, .aload_n 0), (17, 20, 0, .invokevirtual 342), (20, 23, 26, .ifCond .ne 6), (23, 25, 3, .bipush (-3)), (25, 26, 0, .ireturn), (26, 27, 0, .iconst 0), (27, 28, 0, .istore_n 1), (28, 29, 0, .aload_n 0), (29, 30, 0, .iconst 0), (30, 33, 0, .putfield 74), (33, 34, 0, .iconst 0), (34, 35, 0, .istore_n 2), (35, 36, 0, .iload_n 2), (36, 37, 0, .aload_n 0), (37, 38, 0, .iconst 0), (38, 41, 0, .invokevirtual 96), (41, 44, 139, .if_icmp .ge 98), (44, 45, 0, .iconst 0), (45, 46, 0, .istore_n 3), (46, 47, 0, .iload_n 3), (47, 48, 0, .aload_n 0), (48, 49, 1, .iconst 1), (49, 52, 0, .invokevirtual 96), (52, 55, 133, .if_icmp .ge 81), (55, 56, 0, .iconst 0), (56, 58, 0, .istore 4), (58, 60, 0, .iload 4), (60, 61, 0, .aload_n 0), (61, 62, 2, .iconst 2), (62, 65, 0, .invokevirtual 96), (65, 68, 127, .if_icmp .ge 62)]
theorem ok_X12_unlikes_0 : ∀ e ∈ k_X12_unlikes_0, z_okb cX12_unlikes e = true := fun e h => List.all_eq_true.mp (by decide +kernel : k_X12_unlikes_0.all (z_okb cX12_unlikes) = true) e h
def k_X12_unlikes_1 : List zI := [(68, 69, 0, .aload_n 0), (69, 70, 0, .iload_n 2), (70, 71, 0, .iload_n 3), (71, 73, 0, .iload 4), (73, 76, 0, .invokevirtual 183), (76, 77, 0, .aload_n 0), (77, 80, 0, .getfield 65), (80, 81, 0, .irem), (81, 82, 0, .aload_n 0), (82, 83, 0, .iload_n 2), (83, 84, 0, .iload_n 3), (84, 86, 0, .iload 4), (86, 89, 0, .invokevirtual 345), (89, 92, 95, .if_icmp .ne 6), (92, 95, 121, .goto 29), (95, 96, 0, .iload_n 1), (96, 99, 118, .ifCond .ne 22), (99, 100, 0, .aload_n 0), (100, 101, 0, .iload_n 2), (101, 102, 0, .i2l), (102, 105, 0, .invokevirtual 192), (105, 106, 0, .aload_n 0), (106, 107, 0, .iload_n 3), (107, 108, 0, .i2l), (108, 111, 0, .invokevirtual 192), (111, 112, 0, .aload_n 0), (112, 114, 0, .iload 4), (114, 115, 0, .i2l), (115, 118, 0, .invokevirtual 192), (118, 121, 1, .iinc 1 1), (121, 124, 1, .iinc 4 1), (124, 127, 58, .goto (-66)), (127, 130, 1, .iinc 3 1), (130, 133, 46, .goto (-84)), (133, 136, 1, .iinc 2 1), (136, 139, 35, .goto (-101)), (139, 140, 0, .iload_n 1), (140, 141, 0, .ireturn)]
theorem ok_X12_unlikes_1 : ∀ e ∈ k_X12_unlikes_1, z_okb cX12_unlikes e = true := fun e h => List.all_eq_true.mp (by decide +kernel : k_X12_unlikes_1.all (z_okb cX12_unlikes) = true) e h
def k_X12_unlikes : List zI := k_X12_unlikes_0 ++ (k_X12_unlikes_1)
theorem ok_X12_unlikes : ∀ e ∈ k_X12_unlikes, z_okb cX12_unlikes e = true := List.forall_mem_append.mpr ⟨ok_X12_unlikes_0, ok_X12_unlikes_1⟩
def k_X12_back : List zI := [(0, 1, 0, .aload_n 0), (1, 2, 0, .iconst 0), (2, 5, 0, .putfield 71), (5, 6, 0, .aload_n 0), (6, 9, 0, .getfield 16), (9, 10, 1, .iconst (-1)), (10, 13, 16, .if_icmp .ne 6), (13, 15, 2, .bipush (-2)), (15, 16, 0, .ireturn), (16, 17, 0, .aload_n 0), (17, 20, 0, .invokevirtual 342), (20, 23, 26, .ifCond .ne 6), (23, 25, 3, .bipush (-3)), (25, 26, 0, .ireturn), (26, 27, 0, .aload_n 0), (27, 28, 0, .aload_n 0), (28, 31, 0, .getfield 16), (31, 34, 0, .putfield 91), (34, 35, 0, .iconst 0), (35, 36, 0, .istore_n 1), (36, 37, 0, .iload_n 1), (37, 39, 27, .bipush 27), (39, 40, 0, .aload_n 0), (40, 43, 0, .getfield 91), (43, 44, 0, .imul), (44, 47, 65, .if_icmp .ge 21), (47, 48, 0, .aload_n 0), (48, 51, 0, .getfield 13), (51, 52, 0, .iload_n 1), (52, 53, 0, .aload_n 0), (53, 56, 0, .getfield 23), (56, 57, 0, .iload_n 1), (57, 58, 0, .iaload), (58, 59, 0, .iastore), (59, 62, 1, .iinc 1 1), (62, 65, 36, .goto (-26)), (65, 66, 0, .aload_n 0), (66, 69, 0, .getfield 91), (69, 70, 0, .ireturn)]
theorem ok_X12_back : ∀ e ∈ k_X12_back, z_okb cX12_back e = true := fun e h => List.all_eq_true.mp (by decide +kernel : k_X12_back.all (z_okb cX12_back) = true) e h
def k_X12_unknowns : List zI := [(0, 1, 0, .aload_n 0), (1, 4, 0, .getfield 91), (4, 5, 0, .aload_n 0), (5, 6, 0, .iconst 0), (6, 9, 0, .invokevirtual 96), (9, 10, 0, .aload_n 0), (10, 11, 1, .iconst 1), (11, 14, 0, .invokevirtual 96), (14, 15, 0, .iadd), (15, 16, 0, .aload_n 0), (16, 17, 2, .iconst 2), (17, 20, 0, .invokevirtual 96), (20, 21, 0, .iadd), (21, 22, 0, .imul), (22, 23, 0, .ireturn)]
theorem ok_X12_unknowns : ∀ e ∈ k_X12_unknowns, z_okb cX12_unknowns e = true := fun e h => List.all_eq_true.mp (by decide +kernel : k_X12_unknowns.all (z_okb cX12_unknowns) = true) e h
def k_X12_unknownOf : List zI := [(0, 1, 0, .iload_n 2), (1, 4, 8, .ifCond .ne 7), (4, 5, 0, .iconst 0), (5, 8, 32, .goto 27), (8, 9, 0, .iload_n 2), (9, 10, 1, .iconst 1), (10, 13, 21, .if_icmp .ne 11), (13, 14, 0, .aload_n 0), (14, 15, 0, .iconst 0), (15, 18, 0, .invokevirtual 96), (18, 21, 32, .goto 14), (21, 22, 0, .aload_n 0), (22, 23, 0, .iconst 0), (23, 26, 0, .invokevirtual 96), (26, 27, 0, .aload_n 0), (27, 28, 1, .iconst 1), (28, 31, 0, .invokevirtual 96), (31, 32, 0, .iadd), (32, 34, 0, .istore 4), (34, 35, 0, .iload_n 1), (35, 36, 0, .aload_n 0), (36, 37, 0, .iconst 0), (37, 40, 0, .invokevirtual 96), (40, 41, 0, .aload_n 0), (41, 42, 1, .iconst 1), (42, 45, 0, .invokevirtual 96), (45, 46, 0, .iadd), (46, 47, 0, .aload_n 0), (47, 48, 2, .iconst 2), (48, 51, 0, .invokevirtual 96), (51, 52, 0, .iadd), (52, 53, 0, .imul), (53, 55, 0, .iload 4), (55, 56, 0, .iadd), (56, 57, 0, .iload_n 3), (57, 58, 0, .iadd), (58, 59, 0, .ireturn)]
theorem ok_X12_unknownOf : ∀ e ∈ k_X12_unknownOf, z_okb cX12_unknownOf e = true := fun e h => List.all_eq_true.mp (by decide +kernel : k_X12_unknownOf.all (z_okb cX12_unknownOf) = true) e h
def k_X12_turnsBit : List zI := [(0, 1, 0, .aload_n 0), (1, 4, 0, .getfield 59), (4, 5, 0, .iload_n 1), (5, 6, 0, .iload_n 2), (6, 8, 64, .bipush 64), (8, 9, 0, .idiv), (9, 10, 0, .iadd), (10, 11, 0, .dup2), (11, 12, 0, .laload), (12, 13, 1, .lconst 1), (13, 14, 0, .iload_n 2), (14, 16, 64, .bipush 64), (16, 17, 0, .irem), (17, 18, 0, .lshl), (18, 19, 0, .lxor), (19, 20, 0, .lastore), (20, 21, 0, .return_)]
theorem ok_X12_turnsBit : ∀ e ∈ k_X12_turnsBit, z_okb cX12_turnsBit e = true := fun e h => List.all_eq_true.mp (by decide +kernel : k_X12_turnsBit.all (z_okb cX12_turnsBit) = true) e h
def k_X12_isBit : List zI := [(0, 1, 0, .aload_n 0), (1, 4, 0, .getfield 59), (4, 5, 0, .iload_n 1), (5, 6, 0, .iload_n 2), (6, 8, 64, .bipush 64), (8, 9, 0, .idiv), (9, 10, 0, .iadd), (10, 11, 0, .laload), (11, 12, 0, .iload_n 2), (12, 14, 64, .bipush 64), (14, 15, 0, .irem), (15, 16, 0, .lshr), (16, 17, 1, .lconst 1), (17, 18, 0, .land), (18, 19, 1, .lconst 1), (19, 20, 0, .lcmp), (20, 23, 27, .ifCond .ne 7), (23, 24, 1, .iconst 1), (24, 27, 28, .goto 4), (27, 28, 0, .iconst 0), (28, 29, 0, .ireturn)]
theorem ok_X12_isBit : ∀ e ∈ k_X12_isBit, z_okb cX12_isBit e = true := fun e h => List.all_eq_true.mp (by decide +kernel : k_X12_isBit.all (z_okb cX12_isBit) = true) e h
def k_X12_equation_0 : List zI := [(0, 2, 18, .bipush 18), (2, 3, 0, .aload_n 0), (3, 6, 0, .getfield 348), (6, 7, 0, .imul), (7, 9, 0, .istore 4), (9, 10, 0, .iconst 0), (10, 12, 0, .istore 5), (12, 14, 0, .iload 5), (14, 16, 18, .bipush 18), (16, 19, 36, .if_icmp .ge 20), (19, 20, 0, .aload_n 0), (20, 23, 0, .getfield 59), (23, 25, 0, .iload 4), (25, 27, 0, .iload 5), (27, 28, 0, .iadd), (28, 29, 0, .lconst 0), (29, 30, 0, .lastore), (30, 33, 1, .iinc 5 1), (33, 36, 12, .goto (-21)), (36, 37, 0, .aload_n 0), (37, 40, 0, .invokevirtual 351), (40, 42, 0, .istore 5), (42, 43, 0, .iconst 0), (43, 45, 0, .istore 6), (45, 47, 0, .iload 6), (47, 48, 0, .aload_n 0), (48, 51, 0, .getfield 91), (51, 54, 171, .if_icmp .ge 120), (54, 55, 0, .aload_n 0), (55, 58, 0, .getfield 13), (58, 60, 0, .iload 6), (60, 61, 0, .iconst 0), (61, 62, 0, .iload_n 1), (62, 65, 0, .invokestatic 107), (65, 66, 0, .iaload), (66, 68, 0, .istore 7), (68, 69, 0, .aload_n 0), (69, 72, 0, .getfield 13), (72, 74, 0, .iload 6), (74, 75, 1, .iconst 1)]
theorem ok_X12_equation_0 : ∀ e ∈ k_X12_equation_0, z_okb cX12_equation e = true := fun e h => List.all_eq_true.mp (by decide +kernel : k_X12_equation_0.all (z_okb cX12_equation) = true) e h
def k_X12_equation_1 : List zI := [(75, 76, 0, .iload_n 2), (76, 79, 0, .invokestatic 107), (79, 80, 0, .iaload), (80, 82, 0, .istore 8), (82, 83, 0, .aload_n 0), (83, 86, 0, .getfield 13), (86, 88, 0, .iload 6), (88, 89, 2, .iconst 2), (89, 90, 0, .iload_n 3), (90, 93, 0, .invokestatic 107), (93, 94, 0, .iaload), (94, 96, 0, .istore 9), (96, 98, 0, .iload 8), (98, 100, 0, .iload 9), (100, 101, 0, .imul), (101, 102, 1, .iconst 1), (102, 105, 119, .if_icmp .ne 17), (105, 106, 0, .aload_n 0), (106, 108, 0, .iload 4), (108, 109, 0, .aload_n 0), (109, 111, 0, .iload 6), (111, 112, 0, .iconst 0), (112, 113, 0, .iload_n 1), (113, 116, 0, .invokevirtual 354), (116, 119, 0, .invokevirtual 357), (119, 121, 0, .iload 7), (121, 123, 0, .iload 9), (123, 124, 0, .imul), (124, 125, 1, .iconst 1), (125, 128, 142, .if_icmp .ne 17), (128, 129, 0, .aload_n 0), (129, 131, 0, .iload 4), (131, 132, 0, .aload_n 0), (132, 134, 0, .iload 6), (134, 135, 1, .iconst 1), (135, 136, 0, .iload_n 2), (136, 139, 0, .invokevirtual 354), (139, 142, 0, .invokevirtual 357), (142, 144, 0, .iload 7), (144, 146, 0, .iload 8)]
theorem ok_X12_equation_1 : ∀ e ∈ k_X12_equation_1, z_okb cX12_equation e = true := fun e h => List.all_eq_true.mp (by decide +kernel : k_X12_equation_1.all (z_okb cX12_equation) = true) e h
def k_X12_equation_2 : List zI := [(146, 147, 0, .imul), (147, 148, 1, .iconst 1), (148, 151, 165, .if_icmp .ne 17), (151, 152, 0, .aload_n 0), (152, 154, 0, .iload 4), (154, 155, 0, .aload_n 0), (155, 157, 0, .iload 6), (157, 158, 2, .iconst 2), (158, 159, 0, .iload_n 3), (159, 162, 0, .invokevirtual 354), (162, 165, 0, .invokevirtual 357), (165, 168, 1, .iinc 6 1), (168, 171, 45, .goto (-123)), (171, 172, 0, .aload_n 0), (172, 173, 0, .iload_n 1), (173, 174, 0, .iload_n 2), (174, 175, 0, .iload_n 3), (175, 178, 0, .invokevirtual 183), (178, 179, 0, .aload_n 0), (179, 180, 0, .iload_n 1), (180, 181, 0, .iload_n 2), (181, 182, 0, .iload_n 3), (182, 185, 0, .invokevirtual 186), (185, 186, 0, .isub), (186, 187, 2, .iconst 2), (187, 188, 0, .idiv), (188, 189, 2, .iconst 2), (189, 190, 0, .irem), (190, 193, 201, .ifCond .eq 11), (193, 194, 0, .aload_n 0), (194, 196, 0, .iload 4), (196, 198, 0, .iload 5), (198, 201, 0, .invokevirtual 357), (201, 202, 0, .iconst 0), (202, 204, 0, .istore 6), (204, 206, 0, .iload 6), (206, 207, 0, .aload_n 0), (207, 210, 0, .getfield 348), (210, 213, 280, .if_icmp .ge 70), (213, 214, 0, .aload_n 0)]
theorem ok_X12_equation_2 : ∀ e ∈ k_X12_equation_2, z_okb cX12_equation e = true := fun e h => List.all_eq_true.mp (by decide +kernel : k_X12_equation_2.all (z_okb cX12_equation) = true) e h
def k_X12_equation_3 : List zI := [(214, 216, 0, .iload 4), (216, 217, 0, .aload_n 0), (217, 220, 0, .getfield 62), (220, 222, 0, .iload 6), (222, 223, 0, .iaload), (223, 226, 0, .invokevirtual 360), (226, 229, 232, .ifCond .ne 6), (229, 232, 274, .goto 45), (232, 233, 0, .iconst 0), (233, 235, 0, .istore 7), (235, 237, 0, .iload 7), (237, 239, 18, .bipush 18), (239, 242, 274, .if_icmp .ge 35), (242, 243, 0, .aload_n 0), (243, 246, 0, .getfield 59), (246, 248, 0, .iload 4), (248, 250, 0, .iload 7), (250, 251, 0, .iadd), (251, 252, 0, .dup2), (252, 253, 0, .laload), (253, 254, 0, .aload_n 0), (254, 257, 0, .getfield 59), (257, 259, 18, .bipush 18), (259, 261, 0, .iload 6), (261, 262, 0, .imul), (262, 264, 0, .iload 7), (264, 265, 0, .iadd), (265, 266, 0, .laload), (266, 267, 0, .lxor), (267, 268, 0, .lastore), (268, 271, 1, .iinc 7 1), (271, 274, 235, .goto (-36)), (274, 277, 1, .iinc 6 1), (277, 280, 204, .goto (-73)), (280, 281, 0, .iconst 0), (281, 283, 0, .istore 6), (283, 285, 0, .iload 6), (285, 287, 0, .iload 5), (287, 290, 307, .if_icmp .ge 20), (290, 291, 0, .aload_n 0)]
theorem ok_X12_equation_3 : ∀ e ∈ k_X12_equation_3, z_okb cX12_equation e = true := fun e h => List.all_eq_true.mp (by decide +kernel : k_X12_equation_3.all (z_okb cX12_equation) = true) e h
def k_X12_equation_4 : List zI := [(291, 293, 0, .iload 4), (293, 295, 0, .iload 6), (295, 298, 0, .invokevirtual 360), (298, 301, 307, .ifCond .ne 9), (301, 304, 1, .iinc 6 1), (304, 307, 283, .goto (-21)), (307, 309, 0, .iload 6), (309, 311, 0, .iload 5), (311, 314, 331, .if_icmp .ne 20), (314, 315, 0, .aload_n 0), (315, 317, 0, .iload 4), (317, 319, 0, .iload 5), (319, 322, 0, .invokevirtual 360), (322, 325, 329, .ifCond .ne 7), (325, 326, 1, .iconst 1), (326, 329, 330, .goto 4), (329, 330, 0, .iconst 0), (330, 331, 0, .ireturn), (331, 332, 0, .aload_n 0), (332, 335, 0, .getfield 62), (335, 336, 0, .aload_n 0), (336, 339, 0, .getfield 348), (339, 341, 0, .iload 6), (341, 342, 0, .iastore), (342, 343, 0, .aload_n 0), (343, 344, 0, .dup), (344, 347, 0, .getfield 348), (347, 348, 1, .iconst 1), (348, 349, 0, .iadd), (349, 352, 0, .putfield 348), (352, 353, 1, .iconst 1), (353, 354, 0, .ireturn)]
theorem ok_X12_equation_4 : ∀ e ∈ k_X12_equation_4, z_okb cX12_equation e = true := fun e h => List.all_eq_true.mp (by decide +kernel : k_X12_equation_4.all (z_okb cX12_equation) = true) e h
def k_X12_equation : List zI := k_X12_equation_0 ++ (k_X12_equation_1 ++ (k_X12_equation_2 ++ (k_X12_equation_3 ++ (k_X12_equation_4))))
theorem ok_X12_equation : ∀ e ∈ k_X12_equation, z_okb cX12_equation e = true := List.forall_mem_append.mpr ⟨ok_X12_equation_0, List.forall_mem_append.mpr ⟨ok_X12_equation_1, List.forall_mem_append.mpr ⟨ok_X12_equation_2, List.forall_mem_append.mpr ⟨ok_X12_equation_3, ok_X12_equation_4⟩⟩⟩⟩
def k_X12_lifts_0 : List zI := [(0, 1, 0, .aload_n 0), (1, 2, 0, .iconst 0), (2, 5, 0, .putfield 71), (5, 6, 0, .aload_n 0), (6, 9, 0, .getfield 65), (9, 10, 2, .iconst 2), (10, 13, 16, .if_icmp .eq 6), (13, 15, 2, .bipush (-2)), (15, 16, 0, .ireturn), (16, 17, 0, .aload_n 0), (17, 20, 0, .invokevirtual 189), (20, 21, 0, .aload_n 0), (21, 24, 0, .getfield 177), (24, 27, 30, .ifCond .le 6), (27, 29, 3, .bipush (-3)), (29, 30, 0, .ireturn), (30, 31, 0, .aload_n 0), (31, 32, 0, .iconst 0), (32, 35, 0, .putfield 348), (35, 36, 1, .iconst 1), (36, 37, 0, .istore_n 1), (37, 38, 0, .iconst 0), (38, 39, 0, .istore_n 2), (39, 40, 0, .iload_n 2), (40, 41, 0, .aload_n 0), (41, 42, 0, .iconst 0), (42, 45, 0, .invokevirtual 96), (45, 48, 111, .if_icmp .ge 66), (48, 49, 0, .iconst 0), (49, 50, 0, .istore_n 3), (50, 51, 0, .iload_n 3), (51, 52, 0, .aload_n 0), (52, 53, 1, .iconst 1), (53, 56, 0, .invokevirtual 96), (56, 59, 105, .if_icmp .ge 49), (59, 60, 0, .iconst 0), (60, 62, 0, .istore 4), (62, 64, 0, .iload 4), (64, 65, 0, .aload_n 0), (65, 66, 2, .iconst 2)]
theorem ok_X12_lifts_0 : ∀ e ∈ k_X12_lifts_0, z_okb cX12_lifts e = true := fun e h => List.all_eq_true.mp (by decide +kernel : k_X12_lifts_0.all (z_okb cX12_lifts) = true) e h
def k_X12_lifts_1 : List zI := [(66, 69, 0, .invokevirtual 96), (69, 72, 99, .if_icmp .ge 30), (72, 73, 0, .aload_n 0), (73, 74, 0, .iload_n 2), (74, 75, 0, .iload_n 3), (75, 77, 0, .iload 4), (77, 80, 0, .invokevirtual 363), (80, 83, 91, .ifCond .eq 11), (83, 84, 0, .iload_n 1), (84, 87, 91, .ifCond .eq 7), (87, 88, 1, .iconst 1), (88, 91, 92, .goto 4), (91, 92, 0, .iconst 0), (92, 93, 0, .istore_n 1), (93, 96, 1, .iinc 4 1), (96, 99, 62, .goto (-34)), (99, 102, 1, .iinc 3 1), (102, 105, 50, .goto (-52)), (105, 108, 1, .iinc 2 1), (108, 111, 39, .goto (-69)), (111, 112, 0, .aload_n 0), (112, 113, 0, .iconst 0), (113, 116, 0, .putfield 74), (116, 117, 0, .aload_n 0), (117, 118, 0, .aload_n 0), (118, 121, 0, .getfield 348), (121, 122, 0, .i2l), (122, 125, 0, .invokevirtual 192), (125, 126, 0, .aload_n 0), (126, 127, 0, .aload_n 0), (127, 130, 0, .invokevirtual 351), (130, 131, 0, .i2l), (131, 134, 0, .invokevirtual 192), (134, 135, 0, .iload_n 1), (135, 138, 142, .ifCond .eq 7), (138, 139, 1, .iconst 1), (139, 142, 143, .goto 4), (142, 143, 0, .iconst 0), (143, 144, 0, .ireturn)]
theorem ok_X12_lifts_1 : ∀ e ∈ k_X12_lifts_1, z_okb cX12_lifts e = true := fun e h => List.all_eq_true.mp (by decide +kernel : k_X12_lifts_1.all (z_okb cX12_lifts) = true) e h
def k_X12_lifts : List zI := k_X12_lifts_0 ++ (k_X12_lifts_1)
theorem ok_X12_lifts : ∀ e ∈ k_X12_lifts, z_okb cX12_lifts e = true := List.forall_mem_append.mpr ⟨ok_X12_lifts_0, ok_X12_lifts_1⟩
def k_X12_unlikeAt_0 : List zI := [(0, 1, 0, .iconst 0), (1, 2, 0, .istore_n 2), (2, 3, 0, .iconst 0), (3, 4, 0, .istore_n 3), (4, 5, 0, .iload_n 3), (5, 6, 0, .aload_n 0), (6, 9, 0, .getfield 91), (9, 12, 92, .if_icmp .ge 83), (12, 13, 0, .aload_n 0), (13, 16, 0, .getfield 13), (16, 17, 0, .iload_n 3), (17, 18, 0, .iload_n 1), (18, 19, 0, .iconst 0), (19, 22, 0, .invokestatic 107), (22, 25, 0, .invokestatic 209), (25, 28, 32, .ifCond .ne 7), (28, 29, 1, .iconst 1), (29, 32, 33, .goto 4), (32, 33, 0, .iconst 0), (33, 35, 0, .istore 4), (35, 36, 0, .iconst 0), (36, 38, 0, .istore 5), (38, 40, 0, .iload 5), (40, 41, 0, .iload_n 3), (41, 44, 73, .if_icmp .ge 32), (44, 46, 0, .iload 4), (46, 49, 73, .ifCond .eq 27), (49, 50, 0, .aload_n 0), (50, 52, 0, .iload 5), (52, 53, 0, .iload_n 3), (53, 54, 0, .iload_n 1), (54, 57, 0, .invokevirtual 217), (57, 60, 64, .ifCond .ne 7), (60, 61, 1, .iconst 1), (61, 64, 65, .goto 4), (64, 65, 0, .iconst 0), (65, 67, 0, .istore 4), (67, 70, 1, .iinc 5 1), (70, 73, 38, .goto (-32)), (73, 74, 0, .iload_n 2)]
theorem ok_X12_unlikeAt_0 : ∀ e ∈ k_X12_unlikeAt_0, z_okb cX12_unlikeAt e = true := fun e h => List.all_eq_true.mp (by decide +kernel : k_X12_unlikeAt_0.all (z_okb cX12_unlikeAt) = true) e h
def k_X12_unlikeAt_1 : List zI := [(74, 76, 0, .iload 4), (76, 79, 83, .ifCond .eq 7), (79, 80, 1, .iconst 1), (80, 83, 84, .goto 4), (83, 84, 0, .iconst 0), (84, 85, 0, .iadd), (85, 86, 0, .istore_n 2), (86, 89, 1, .iinc 3 1), (89, 92, 4, .goto (-85)), (92, 93, 0, .iload_n 2), (93, 94, 0, .ireturn)]
theorem ok_X12_unlikeAt_1 : ∀ e ∈ k_X12_unlikeAt_1, z_okb cX12_unlikeAt e = true := fun e h => List.all_eq_true.mp (by decide +kernel : k_X12_unlikeAt_1.all (z_okb cX12_unlikeAt) = true) e h
def k_X12_unlikeAt : List zI := k_X12_unlikeAt_0 ++ (k_X12_unlikeAt_1)
theorem ok_X12_unlikeAt : ∀ e ∈ k_X12_unlikeAt, z_okb cX12_unlikeAt e = true := List.forall_mem_append.mpr ⟨ok_X12_unlikeAt_0, ok_X12_unlikeAt_1⟩
def k_X12_fullAll : List zI := [(0, 1, 0, .iconst 0), (1, 2, 0, .istore_n 1), (2, 3, 0, .iconst 0), (3, 4, 0, .istore_n 2), (4, 5, 0, .iload_n 2), (5, 7, 27, .bipush 27), (7, 8, 0, .aload_n 0), (8, 11, 0, .getfield 91), (11, 12, 0, .imul), (12, 15, 38, .if_icmp .ge 26), (15, 16, 0, .iload_n 1), (16, 17, 0, .aload_n 0), (17, 20, 0, .getfield 13), (20, 21, 0, .iload_n 2), (21, 22, 0, .iaload), (22, 25, 29, .ifCond .eq 7), (25, 26, 1, .iconst 1), (26, 29, 30, .goto 4), (29, 30, 0, .iconst 0), (30, 31, 0, .iadd), (31, 32, 0, .istore_n 1), (32, 35, 1, .iinc 2 1), (35, 38, 4, .goto (-31)), (38, 39, 0, .iload_n 1), (39, 40, 0, .ireturn)]
theorem ok_X12_fullAll : ∀ e ∈ k_X12_fullAll, z_okb cX12_fullAll e = true := fun e h => List.all_eq_true.mp (by decide +kernel : k_X12_fullAll.all (z_okb cX12_fullAll) = true) e h
def k_X12_singleMany : List zI := [(0, 1, 0, .iconst 0), (1, 2, 0, .istore_n 1), (2, 3, 0, .iconst 0), (3, 4, 0, .istore_n 2), (4, 5, 0, .iload_n 2), (5, 6, 0, .aload_n 0), (6, 9, 0, .getfield 91), (9, 12, 56, .if_icmp .ge 47), (12, 13, 0, .iload_n 1), (13, 14, 0, .aload_n 0), (14, 15, 0, .iload_n 2), (15, 16, 0, .iconst 0), (16, 19, 0, .invokevirtual 202), (19, 20, 1, .iconst 1), (20, 23, 47, .if_icmp .ne 27), (23, 24, 0, .aload_n 0), (24, 25, 0, .iload_n 2), (25, 26, 1, .iconst 1), (26, 29, 0, .invokevirtual 202), (29, 30, 1, .iconst 1), (30, 33, 47, .if_icmp .ne 17), (33, 34, 0, .aload_n 0), (34, 35, 0, .iload_n 2), (35, 36, 2, .iconst 2), (36, 39, 0, .invokevirtual 202), (39, 40, 1, .iconst 1), (40, 43, 47, .if_icmp .ne 7), (43, 44, 1, .iconst 1), (44, 47, 48, .goto 4), (47, 48, 0, .iconst 0), (48, 49, 0, .iadd), (49, 50, 0, .istore_n 1), (50, 53, 1, .iinc 2 1), (53, 56, 4, .goto (-49)), (56, 57, 0, .iload_n 1), (57, 58, 0, .ireturn)]
theorem ok_X12_singleMany : ∀ e ∈ k_X12_singleMany, z_okb cX12_singleMany e = true := fun e h => List.all_eq_true.mp (by decide +kernel : k_X12_singleMany.all (z_okb cX12_singleMany) = true) e h
def k_X12_count : List zI := [(0, 1, 0, .aload_n 0), (1, 2, 0, .iconst 0), (2, 5, 0, .putfield 71), (5, 6, 0, .iload_n 1), (6, 76, 0, .tableswitch 126 0 13 #[70, 70, 70, 77, 82, 87, 92, 97, 102, 107, 112, 112, 112, 121]), (76, 77, 0, .aload_n 0), (77, 80, 0, .getfield 7), (80, 81, 0, .iload_n 1), (81, 82, 0, .iaload), (82, 83, 0, .ireturn), (83, 84, 0, .aload_n 0), (84, 87, 0, .getfield 65), (87, 88, 0, .ireturn), (88, 89, 0, .aload_n 0), (89, 92, 0, .getfield 91), (92, 93, 0, .ireturn), (93, 94, 0, .aload_n 0), (94, 97, 0, .getfield 16), (97, 98, 0, .ireturn), (98, 99, 0, .aload_n 0), (99, 102, 0, .getfield 74), (102, 103, 0, .ireturn), (103, 104, 0, .aload_n 0), (104, 107, 0, .getfield 77), (107, 108, 0, .ireturn), (108, 109, 0, .aload_n 0), (109, 112, 0, .invokevirtual 232), (112, 113, 0, .ireturn), (113, 114, 0, .aload_n 0), (114, 117, 0, .invokevirtual 367), (117, 118, 0, .ireturn), (118, 119, 0, .aload_n 0), (119, 120, 0, .iload_n 1), (120, 122, 10, .bipush 10), (122, 123, 0, .isub), (123, 126, 0, .invokevirtual 370), (126, 127, 0, .ireturn), (127, 128, 0, .aload_n 0), (128, 131, 0, .invokevirtual 373), (131, 132, 0, .ireturn), (132, 133, 1, .iconst (-1)), (133, 134, 0, .ireturn)]
theorem ok_X12_count : ∀ e ∈ k_X12_count, z_okb cX12_count e = true := fun e h => List.all_eq_true.mp (by decide +kernel : k_X12_count.all (z_okb cX12_count) = true) e h
def sw_X12_count : List (Nat × Int × Nat × List Nat) := [(6, 0, 132, [76, 76, 76, 83, 88, 93, 98, 103, 108, 113, 118, 118, 118, 127])]
theorem swok_X12_count : ∀ q ∈ sw_X12_count, z_sokb cX12_count q = true := fun q h => List.all_eq_true.mp (by decide +kernel : sw_X12_count.all (z_sokb cX12_count) = true) q h
def k_X12_row : List zI := [(0, 1, 0, .aload_n 0), (1, 2, 0, .iconst 0), (2, 5, 0, .putfield 71), (5, 6, 0, .iload_n 1), (6, 7, 0, .i2l), (7, 8, 0, .lconst 0), (8, 9, 0, .aload_n 0), (9, 12, 0, .getfield 74), (12, 13, 1, .iconst 1), (13, 14, 0, .isub), (14, 15, 0, .i2l), (15, 18, 0, .invokestatic 80), (18, 21, 30, .ifCond .eq 12), (21, 22, 0, .aload_n 0), (22, 25, 0, .getfield 30), (25, 26, 0, .iload_n 1), (26, 27, 0, .laload), (27, 30, 35, .goto 8), (30, 31, 0, .aload_n 0), (31, 34, 0, .invokevirtual 376), (34, 35, 0, .i2l), (35, 36, 0, .lreturn)]
theorem ok_X12_row : ∀ e ∈ k_X12_row, z_okb cX12_row e = true := fun e h => List.all_eq_true.mp (by decide +kernel : k_X12_row.all (z_okb cX12_row) = true) e h
end
section
theorem inX0 : ∀ w ∈ u_ws RX0 TX0 7, w ∈ zTT := fun w hw => List.mem_filter.mpr ⟨(by decide +kernel : ∀ w ∈ u_ws RX0 TX0 7, w ∈ lw_tbl) w hw, List.all_eq_true.mp (by decide +kernel : (u_ws RX0 TX0 7).all goodWord = true) w hw⟩
theorem inX1 : ∀ w ∈ u_ws RX1 TX1 1, w ∈ zTT := fun w hw => List.mem_filter.mpr ⟨(by decide +kernel : ∀ w ∈ u_ws RX1 TX1 1, w ∈ lw_tbl) w hw, List.all_eq_true.mp (by decide +kernel : (u_ws RX1 TX1 1).all goodWord = true) w hw⟩
theorem inX3 : ∀ w ∈ u_ws RX3 TX3 1, w ∈ zTT := fun w hw => List.mem_filter.mpr ⟨(by decide +kernel : ∀ w ∈ u_ws RX3 TX3 1, w ∈ lw_tbl) w hw, List.all_eq_true.mp (by decide +kernel : (u_ws RX3 TX3 1).all goodWord = true) w hw⟩
theorem inX4 : ∀ w ∈ u_ws RX4 TX4 2, w ∈ zTT := fun w hw => List.mem_filter.mpr ⟨(by decide +kernel : ∀ w ∈ u_ws RX4 TX4 2, w ∈ lw_tbl) w hw, List.all_eq_true.mp (by decide +kernel : (u_ws RX4 TX4 2).all goodWord = true) w hw⟩
theorem inX5 : ∀ w ∈ u_ws RX5 TX5 6, w ∈ zTT := fun w hw => List.mem_filter.mpr ⟨(by decide +kernel : ∀ w ∈ u_ws RX5 TX5 6, w ∈ lw_tbl) w hw, List.all_eq_true.mp (by decide +kernel : (u_ws RX5 TX5 6).all goodWord = true) w hw⟩
theorem inX6 : ∀ w ∈ u_ws RX6 TX6 6, w ∈ zTT := fun w hw => List.mem_filter.mpr ⟨(by decide +kernel : ∀ w ∈ u_ws RX6 TX6 6, w ∈ lw_tbl) w hw, List.all_eq_true.mp (by decide +kernel : (u_ws RX6 TX6 6).all goodWord = true) w hw⟩
theorem inX7 : ∀ w ∈ u_ws RX7 TX7 3, w ∈ zTT := fun w hw => List.mem_filter.mpr ⟨(by decide +kernel : ∀ w ∈ u_ws RX7 TX7 3, w ∈ lw_tbl) w hw, List.all_eq_true.mp (by decide +kernel : (u_ws RX7 TX7 3).all goodWord = true) w hw⟩
theorem inX8 : ∀ w ∈ u_ws RX8 TX8 4, w ∈ zTT := fun w hw => List.mem_filter.mpr ⟨(by decide +kernel : ∀ w ∈ u_ws RX8 TX8 4, w ∈ lw_tbl) w hw, List.all_eq_true.mp (by decide +kernel : (u_ws RX8 TX8 4).all goodWord = true) w hw⟩
theorem inX9 : ∀ w ∈ u_ws RX9 TX9 2, w ∈ zTT := fun w hw => List.mem_filter.mpr ⟨(by decide +kernel : ∀ w ∈ u_ws RX9 TX9 2, w ∈ lw_tbl) w hw, List.all_eq_true.mp (by decide +kernel : (u_ws RX9 TX9 2).all goodWord = true) w hw⟩
theorem inX11 : ∀ w ∈ u_ws RX11 TX11 11, w ∈ zTT := fun w hw => List.mem_filter.mpr ⟨(by decide +kernel : ∀ w ∈ u_ws RX11 TX11 11, w ∈ lw_tbl) w hw, List.all_eq_true.mp (by decide +kernel : (u_ws RX11 TX11 11).all goodWord = true) w hw⟩
theorem inX12 : ∀ w ∈ u_ws RX12 TX12 33, w ∈ zTT := fun w hw => List.mem_filter.mpr ⟨(by decide +kernel : ∀ w ∈ u_ws RX12 TX12 33, w ∈ lw_tbl) w hw, List.all_eq_true.mp (by decide +kernel : (u_ws RX12 TX12 33).all goodWord = true) w hw⟩
theorem wt_0 : Cond.selects RX6 yX6_addOnes yX6_addOnes ∈ zTT := zTT_of 0 (by decide +kernel) rfl
theorem wt_1 : Cond.selects RX8 yX8_takeProduct yX8_takeProduct ∈ zTT := zTT_of 1 (by decide +kernel) rfl
theorem wt_2 : Cond.selects RX8 yX8_take yX8_take ∈ zTT := zTT_of 2 (by decide +kernel) rfl
theorem wt_3 : Cond.selects RX8 yX8_peek yX8_peek ∈ zTT := zTT_of 3 (by decide +kernel) rfl
theorem wt_4 : Cond.selects RX8 yX8_takeForm yX8_takeForm ∈ zTT := zTT_of 4 (by decide +kernel) rfl
theorem wt_5 : Cond.selects RX8 yX8_takeTerm yX8_takeTerm ∈ zTT := zTT_of 5 (by decide +kernel) rfl
theorem wt_6 : Cond.selects RX8 yX8_restFault yX8_restFault ∈ zTT := zTT_of 6 (by decide +kernel) rfl
theorem wt_7 : Cond.selects RX11 yX11_tellFirst yX11_tellFirst ∈ zTT := zTT_of 7 (by decide +kernel) rfl
theorem wt_8 : Cond.selects RX11 yX11_tellThree yX11_tellThree ∈ zTT := zTT_of 8 (by decide +kernel) rfl
theorem wt_9 : Cond.selects RX1 yX1_weigh yX1_weigh ∈ zTT := zTT_of 9 (by decide +kernel) rfl
theorem wt_10 : Cond.selects RX7 yX7_isSumOfAhead yX7_isSumOfAhead ∈ zTT := zTT_of 10 (by decide +kernel) rfl
theorem wt_11 : Cond.selects RX0 yX0_reduce yX0_reduce ∈ zTT := zTT_of 11 (by decide +kernel) rfl
theorem wt_12 : Cond.selects RX7 yX7_share yX7_share ∈ zTT := zTT_of 12 (by decide +kernel) rfl
theorem wt_13 : Cond.selects RX11 yX11_isFactor yX11_isFactor ∈ zTT := zTT_of 13 (by decide +kernel) rfl
theorem wt_14 : Cond.selects RX11 yX11_isLine yX11_isLine ∈ zTT := zTT_of 14 (by decide +kernel) rfl
theorem wt_15 : Cond.selects RX11 yX11_asSpare yX11_asSpare ∈ zTT := zTT_of 15 (by decide +kernel) rfl
theorem wt_16 : Cond.selects RX5 yX5_start yX5_start ∈ zTT := zTT_of 16 (by decide +kernel) rfl
theorem wt_17 : Cond.selects RX5 yX5_setUnknown yX5_setUnknown ∈ zTT := zTT_of 17 (by decide +kernel) rfl
theorem wt_18 : Cond.selects RX5 yX5_clearColumn yX5_clearColumn ∈ zTT := zTT_of 18 (by decide +kernel) rfl
theorem wt_19 : Cond.selects RX5 yX5_setBit yX5_setBit ∈ zTT := zTT_of 19 (by decide +kernel) rfl
theorem wt_20 : Cond.selects RX5 yX5_takeColumn yX5_takeColumn ∈ zTT := zTT_of 20 (by decide +kernel) rfl
theorem wt_21 : Cond.selects RX5 yX5_reduce yX5_reduce ∈ zTT := zTT_of 21 (by decide +kernel) rfl
theorem wt_22 : Cond.selects RX5 yX5_hasBit yX5_hasBit ∈ zTT := zTT_of 22 (by decide +kernel) rfl
theorem wt_23 : Cond.selects RX5 yX5_lessPivot yX5_lessPivot ∈ zTT := zTT_of 23 (by decide +kernel) rfl
theorem wt_24 : Cond.selects RX5 yX5_setRightSides yX5_setRightSides ∈ zTT := zTT_of 24 (by decide +kernel) rfl
theorem wt_26 : Cond.selects RX12 yX12_laysPlain yX12_laysPlain ∈ zTT := zTT_of 26 (by decide +kernel) rfl
theorem wt_27 : Cond.selects RX12 yX12_addsPlain yX12_addsPlain ∈ zTT := zTT_of 27 (by decide +kernel) rfl
theorem wt_28 : Cond.selects RX12 yX12_clears yX12_clears ∈ zTT := zTT_of 28 (by decide +kernel) rfl
theorem wt_29 : Cond.selects RX12 yX12_begin yX12_begin ∈ zTT := zTT_of 29 (by decide +kernel) rfl
theorem wt_30 : Cond.selects RX12 yX12_readProduct yX12_readProduct ∈ zTT := zTT_of 30 (by decide +kernel) rfl
theorem wt_31 : Cond.selects RX12 yX12_expect yX12_expect ∈ zTT := zTT_of 31 (by decide +kernel) rfl
theorem wt_32 : Cond.selects RX12 yX12_passes yX12_passes ∈ zTT := zTT_of 32 (by decide +kernel) rfl
theorem wt_33 : Cond.selects RX12 yX12_sees yX12_sees ∈ zTT := zTT_of 33 (by decide +kernel) rfl
theorem wt_34 : Cond.selects RX12 yX12_fault yX12_fault ∈ zTT := zTT_of 34 (by decide +kernel) rfl
theorem wt_35 : Cond.selects RX12 yX12_readForm yX12_readForm ∈ zTT := zTT_of 35 (by decide +kernel) rfl
theorem wt_36 : Cond.selects RX12 yX12_readTerm yX12_readTerm ∈ zTT := zTT_of 36 (by decide +kernel) rfl
theorem wt_37 : Cond.selects RX12 yX12_rowsOf yX12_rowsOf ∈ zTT := zTT_of 37 (by decide +kernel) rfl
theorem wt_38 : Cond.selects RX12 yX12_readSide yX12_readSide ∈ zTT := zTT_of 38 (by decide +kernel) rfl
theorem wt_39 : Cond.selects RX12 yX12_columnsOf yX12_columnsOf ∈ zTT := zTT_of 39 (by decide +kernel) rfl
theorem wt_40 : Cond.selects RX12 yX12_ends yX12_ends ∈ zTT := zTT_of 40 (by decide +kernel) rfl
theorem wt_41 : Cond.selects RX12 yX12_told yX12_told ∈ zTT := zTT_of 41 (by decide +kernel) rfl
theorem wt_42 : Cond.selects RX12 yX12_isProduct yX12_isProduct ∈ zTT := zTT_of 42 (by decide +kernel) rfl
theorem wt_43 : Cond.selects RX12 yX12_goes yX12_goes ∈ zTT := zTT_of 43 (by decide +kernel) rfl
theorem wt_44 : Cond.selects RX12 yX12_isPlace yX12_isPlace ∈ zTT := zTT_of 44 (by decide +kernel) rfl
theorem wt_45 : Cond.selects RX12 yX12_placesOf yX12_placesOf ∈ zTT := zTT_of 45 (by decide +kernel) rfl
theorem wt_46 : Cond.selects RX12 yX12_looks yX12_looks ∈ zTT := zTT_of 46 (by decide +kernel) rfl
theorem wt_47 : Cond.selects RX12 yX12_wholeGiven yX12_wholeGiven ∈ zTT := zTT_of 47 (by decide +kernel) rfl
theorem wt_48 : Cond.selects RX12 yX12_needed yX12_needed ∈ zTT := zTT_of 48 (by decide +kernel) rfl
theorem wt_49 : Cond.selects RX12 yX12_tell yX12_tell ∈ zTT := zTT_of 49 (by decide +kernel) rfl
theorem wt_50 : Cond.selects RX12 yX12_readTables yX12_readTables ∈ zTT := zTT_of 50 (by decide +kernel) rfl
theorem wt_51 : Cond.selects RX12 yX12_madeOf yX12_madeOf ∈ zTT := zTT_of 51 (by decide +kernel) rfl
theorem wt_52 : Cond.selects RX12 yX12_fullOf yX12_fullOf ∈ zTT := zTT_of 52 (by decide +kernel) rfl
theorem wt_53 : Cond.selects RX12 yX12_likeAt yX12_likeAt ∈ zTT := zTT_of 53 (by decide +kernel) rfl
theorem wt_54 : Cond.selects RX12 yX12_likeOf yX12_likeOf ∈ zTT := zTT_of 54 (by decide +kernel) rfl
theorem wt_55 : Cond.selects RX12 yX12_flipsAt yX12_flipsAt ∈ zTT := zTT_of 55 (by decide +kernel) rfl
theorem wt_56 : Cond.selects RX12 yX12_goFlip yX12_goFlip ∈ zTT := zTT_of 56 (by decide +kernel) rfl
theorem wt_57 : Cond.selects RX12 yX12_mod yX12_mod ∈ zTT := zTT_of 57 (by decide +kernel) rfl
theorem wt_58 : Cond.selects RX12 yX12_zeroMany yX12_zeroMany ∈ zTT := zTT_of 58 (by decide +kernel) rfl
theorem wt_59 : Cond.selects RX12 yX12_hasZero yX12_hasZero ∈ zTT := zTT_of 59 (by decide +kernel) rfl
theorem wt_60 : Cond.selects RX12 yX12_joinsAll yX12_joinsAll ∈ zTT := zTT_of 60 (by decide +kernel) rfl
theorem wt_61 : Cond.selects RX12 yX12_firstZero yX12_firstZero ∈ zTT := zTT_of 61 (by decide +kernel) rfl
theorem wt_62 : Cond.selects RX12 yX12_joinsTwo yX12_joinsTwo ∈ zTT := zTT_of 62 (by decide +kernel) rfl
theorem wt_63 : Cond.selects RX12 yX12_shedsOne yX12_shedsOne ∈ zTT := zTT_of 63 (by decide +kernel) rfl
theorem wt_64 : Cond.selects RX12 yX12_isShed yX12_isShed ∈ zTT := zTT_of 64 (by decide +kernel) rfl
theorem wt_65 : Cond.selects RX12 yX12_laysBehind yX12_laysBehind ∈ zTT := zTT_of 65 (by decide +kernel) rfl
theorem wt_66 : Cond.selects RX12 yX12_isSum yX12_isSum ∈ zTT := zTT_of 66 (by decide +kernel) rfl
theorem wt_67 : Cond.selects RX12 yX12_takenLead yX12_takenLead ∈ zTT := zTT_of 67 (by decide +kernel) rfl
theorem wt_68 : Cond.selects RX12 yX12_takes yX12_takes ∈ zTT := zTT_of 68 (by decide +kernel) rfl
theorem wt_69 : Cond.selects RX12 yX12_areLike yX12_areLike ∈ zTT := zTT_of 69 (by decide +kernel) rfl
theorem wt_70 : Cond.selects RX12 yX12_resizes yX12_resizes ∈ zTT := zTT_of 70 (by decide +kernel) rfl
theorem wt_71 : Cond.selects RX12 yX12_goNumbered yX12_goNumbered ∈ zTT := zTT_of 71 (by decide +kernel) rfl
theorem wt_72 : Cond.selects RX12 yX12_laysTurned yX12_laysTurned ∈ zTT := zTT_of 72 (by decide +kernel) rfl
theorem wt_73 : Cond.selects RX12 yX12_takesBeside yX12_takesBeside ∈ zTT := zTT_of 73 (by decide +kernel) rfl
theorem wt_74 : Cond.selects RX12 yX12_laysMirrored yX12_laysMirrored ∈ zTT := zTT_of 74 (by decide +kernel) rfl
theorem wt_75 : Cond.selects RX12 yX12_othersThan yX12_othersThan ∈ zTT := zTT_of 75 (by decide +kernel) rfl
theorem wt_76 : Cond.selects RX12 yX12_usesOf yX12_usesOf ∈ zTT := zTT_of 76 (by decide +kernel) rfl
theorem wt_77 : Cond.selects RX12 yX12_shearsRows yX12_shearsRows ∈ zTT := zTT_of 77 (by decide +kernel) rfl
theorem wt_78 : Cond.selects RX12 yX12_shearsColumns yX12_shearsColumns ∈ zTT := zTT_of 78 (by decide +kernel) rfl
theorem wt_79 : Cond.selects RX12 yX12_asBeside yX12_asBeside ∈ zTT := zTT_of 79 (by decide +kernel) rfl
theorem wt_80 : Cond.selects RX12 yX12_without yX12_without ∈ zTT := zTT_of 80 (by decide +kernel) rfl
theorem wt_81 : Cond.selects RX12 yX12_groupOf yX12_groupOf ∈ zTT := zTT_of 81 (by decide +kernel) rfl
theorem wt_82 : Cond.selects RX12 yX12_frees yX12_frees ∈ zTT := zTT_of 82 (by decide +kernel) rfl
theorem wt_83 : Cond.selects RX12 yX12_leadOf yX12_leadOf ∈ zTT := zTT_of 83 (by decide +kernel) rfl
theorem wt_84 : Cond.selects RX12 yX12_isKeptSo yX12_isKeptSo ∈ zTT := zTT_of 84 (by decide +kernel) rfl
theorem wt_85 : Cond.selects RX12 yX12_keptGiven yX12_keptGiven ∈ zTT := zTT_of 85 (by decide +kernel) rfl
theorem wt_86 : Cond.selects RX12 yX12_equation yX12_equation ∈ zTT := zTT_of 86 (by decide +kernel) rfl
theorem wt_87 : Cond.selects RX12 yX12_unknowns yX12_unknowns ∈ zTT := zTT_of 87 (by decide +kernel) rfl
theorem wt_88 : Cond.selects RX12 yX12_unknownOf yX12_unknownOf ∈ zTT := zTT_of 88 (by decide +kernel) rfl
theorem wt_89 : Cond.selects RX12 yX12_turnsBit yX12_turnsBit ∈ zTT := zTT_of 89 (by decide +kernel) rfl
theorem wt_90 : Cond.selects RX12 yX12_isBit yX12_isBit ∈ zTT := zTT_of 90 (by decide +kernel) rfl
theorem wt_91 : Cond.selects RX12 yX12_fullAll yX12_fullAll ∈ zTT := zTT_of 91 (by decide +kernel) rfl
theorem wt_92 : Cond.selects RX12 yX12_unlikeAt yX12_unlikeAt ∈ zTT := zTT_of 92 (by decide +kernel) rfl
theorem wt_93 : Cond.selects RX12 yX12_singleMany yX12_singleMany ∈ zTT := zTT_of 93 (by decide +kernel) rfl
theorem wt_94 : Cond.selects RX12 yX12_lost yX12_lost ∈ zTT := zTT_of 94 (by decide +kernel) rfl
theorem wt_96 : Cond.initialized RX11 ∈ zTT := zTT_of 96 (by decide +kernel) rfl
theorem wt_97 : Cond.initialized RX8 ∈ zTT := zTT_of 97 (by decide +kernel) rfl
theorem wt_98 : Cond.initialized RX3 ∈ zTT := zTT_of 98 (by decide +kernel) rfl
theorem wt_99 : Cond.initialized RX9 ∈ zTT := zTT_of 99 (by decide +kernel) rfl
theorem wt_100 : Cond.initialized RX6 ∈ zTT := zTT_of 100 (by decide +kernel) rfl
theorem wt_101 : Cond.initialized RX1 ∈ zTT := zTT_of 101 (by decide +kernel) rfl
theorem wt_102 : Cond.initialized RX4 ∈ zTT := zTT_of 102 (by decide +kernel) rfl
theorem wt_103 : Cond.initialized RX7 ∈ zTT := zTT_of 103 (by decide +kernel) rfl
theorem wt_104 : Cond.initialized RX0 ∈ zTT := zTT_of 104 (by decide +kernel) rfl
theorem wt_105 : Cond.initialized RX5 ∈ zTT := zTT_of 105 (by decide +kernel) rfl
theorem wt_106 : Cond.initialized RX2 ∈ zTT := zTT_of 106 (by decide +kernel) rfl
theorem wt_107 : Cond.initialized RX12 ∈ zTT := zTT_of 107 (by decide +kernel) rfl
theorem wt_108 : Cond.initialized RJ9 ∈ zTT := zTT_of 108 (by decide +kernel) rfl
theorem wt_109 : Cond.initialized RJ6 ∈ zTT := zTT_of 109 (by decide +kernel) rfl
theorem wt_110 : Cond.initialized RX10 ∈ zTT := zTT_of 110 (by decide +kernel) rfl
theorem wt_111 : Cond.initialized RJ13 ∈ zTT := zTT_of 111 (by decide +kernel) rfl
theorem wt_116 : Cond.classLink RL 8 RX11 ∈ zTT := zTT_of 116 (by decide +kernel) rfl
theorem wt_117 : Cond.instantiable RX11 11 ∈ zTT := zTT_of 117 (by decide +kernel) rfl
theorem wt_118 : Cond.methodLink RL 15 yX11_init ∈ zTT := zTT_of 118 (by decide +kernel) rfl
theorem wt_119 : Cond.instanceMethod yX11_init ∈ zTT := zTT_of 119 (by decide +kernel) rfl
theorem wt_120 : Cond.code yX11_init cX11_init 1 none ∈ zTT := zTT_of 120 (by decide +kernel) rfl
theorem wt_121 : Cond.methodLink RX11 1 objectInit ∈ zTT := zTT_of 121 (by decide +kernel) rfl
theorem wt_122 : Cond.instanceMethod objectInit ∈ zTT := zTT_of 122 (by decide +kernel) rfl
theorem wt_123 : Cond.code objectInit ⟨#[0xb1]⟩ 1 none ∈ zTT := zTT_of 123 (by decide +kernel) rfl
theorem wt_124 : Cond.classLink RX11 7 RX8 ∈ zTT := zTT_of 124 (by decide +kernel) rfl
theorem wt_125 : Cond.instantiable RX8 4 ∈ zTT := zTT_of 125 (by decide +kernel) rfl
theorem wt_127 : Cond.instanceMethod yX8_init ∈ zTT := zTT_of 127 (by decide +kernel) rfl
theorem wt_128 : Cond.code yX8_init cX8_init 1 none ∈ zTT := zTT_of 128 (by decide +kernel) rfl
theorem wt_129 : Cond.methodLink RX8 3 objectInit ∈ zTT := zTT_of 129 (by decide +kernel) rfl
theorem wt_130 : Cond.classLink RX8 9 RX3 ∈ zTT := zTT_of 130 (by decide +kernel) rfl
theorem wt_131 : Cond.instantiable RX3 1 ∈ zTT := zTT_of 131 (by decide +kernel) rfl
theorem wt_132 : Cond.methodLink RX8 11 yX3_init ∈ zTT := zTT_of 132 (by decide +kernel) rfl
theorem wt_133 : Cond.instanceMethod yX3_init ∈ zTT := zTT_of 133 (by decide +kernel) rfl
theorem wt_134 : Cond.code yX3_init cX3_init 2 none ∈ zTT := zTT_of 134 (by decide +kernel) rfl
theorem wt_135 : Cond.methodLink RX3 1 objectInit ∈ zTT := zTT_of 135 (by decide +kernel) rfl
theorem wt_136 : Cond.fieldLink RX3 7 "FewProducts$Ints" "cells" "[I" ∈ zTT := zTT_of 136 (by decide +kernel) rfl
theorem wt_141 : Cond.fieldLink RX8 14 "FewProducts$Text" "signs" "LFewProducts$Ints;" ∈ zTT := zTT_of 141 (by decide +kernel) rfl
theorem wt_142 : Cond.fieldLink RX8 20 "FewProducts$Text" "length" "I" ∈ zTT := zTT_of 142 (by decide +kernel) rfl
theorem wt_144 : Cond.fieldLink RX8 28 "FewProducts$Text" "at" "I" ∈ zTT := zTT_of 144 (by decide +kernel) rfl
theorem wt_145 : Cond.fieldLink RX8 62 "FewProducts$Text" "form" "I" ∈ zTT := zTT_of 145 (by decide +kernel) rfl
theorem wt_156 : Cond.classLink RX11 16 RX9 ∈ zTT := zTT_of 156 (by decide +kernel) rfl
theorem wt_157 : Cond.instantiable RX9 2 ∈ zTT := zTT_of 157 (by decide +kernel) rfl
theorem wt_159 : Cond.instanceMethod yX9_init ∈ zTT := zTT_of 159 (by decide +kernel) rfl
theorem wt_160 : Cond.code yX9_init cX9_init 1 none ∈ zTT := zTT_of 160 (by decide +kernel) rfl
theorem wt_161 : Cond.methodLink RX9 3 objectInit ∈ zTT := zTT_of 161 (by decide +kernel) rfl
theorem wt_162 : Cond.fieldLink RX9 9 "FewProducts$Told" "numbers" "[J" ∈ zTT := zTT_of 162 (by decide +kernel) rfl
theorem wt_163 : Cond.fieldLink RX9 15 "FewProducts$Told" "size" "I" ∈ zTT := zTT_of 163 (by decide +kernel) rfl
theorem wt_171 : Cond.classLink RX11 23 RX6 ∈ zTT := zTT_of 171 (by decide +kernel) rfl
theorem wt_172 : Cond.instantiable RX6 6 ∈ zTT := zTT_of 172 (by decide +kernel) rfl
theorem wt_174 : Cond.instanceMethod yX6_init ∈ zTT := zTT_of 174 (by decide +kernel) rfl
theorem wt_175 : Cond.code yX6_init cX6_init 1 none ∈ zTT := zTT_of 175 (by decide +kernel) rfl
theorem wt_176 : Cond.methodLink RX6 3 objectInit ∈ zTT := zTT_of 176 (by decide +kernel) rfl
theorem wt_177 : Cond.classLink RX6 9 RX3 ∈ zTT := zTT_of 177 (by decide +kernel) rfl
theorem wt_178 : Cond.methodLink RX6 11 yX3_init ∈ zTT := zTT_of 178 (by decide +kernel) rfl
theorem wt_179 : Cond.fieldLink RX6 14 "FewProducts$Scheme" "forms" "LFewProducts$Ints;" ∈ zTT := zTT_of 179 (by decide +kernel) rfl
theorem wt_180 : Cond.fieldLink RX6 20 "FewProducts$Scheme" "n" "I" ∈ zTT := zTT_of 180 (by decide +kernel) rfl
theorem wt_183 : Cond.fieldLink RX6 24 "FewProducts$Scheme" "m" "I" ∈ zTT := zTT_of 183 (by decide +kernel) rfl
theorem wt_187 : Cond.fieldLink RX6 27 "FewProducts$Scheme" "p" "I" ∈ zTT := zTT_of 187 (by decide +kernel) rfl
theorem wt_191 : Cond.fieldLink RX6 30 "FewProducts$Scheme" "q" "I" ∈ zTT := zTT_of 191 (by decide +kernel) rfl
theorem wt_201 : Cond.fieldLink RX6 33 "FewProducts$Scheme" "size" "I" ∈ zTT := zTT_of 201 (by decide +kernel) rfl
theorem wt_219 : Cond.classLink RX11 36 RX1 ∈ zTT := zTT_of 219 (by decide +kernel) rfl
theorem wt_220 : Cond.instantiable RX1 1 ∈ zTT := zTT_of 220 (by decide +kernel) rfl
theorem wt_222 : Cond.instanceMethod yX1_init ∈ zTT := zTT_of 222 (by decide +kernel) rfl
theorem wt_223 : Cond.code yX1_init cX1_init 1 none ∈ zTT := zTT_of 223 (by decide +kernel) rfl
theorem wt_224 : Cond.methodLink RX1 3 objectInit ∈ zTT := zTT_of 224 (by decide +kernel) rfl
theorem wt_225 : Cond.classLink RX1 9 RX3 ∈ zTT := zTT_of 225 (by decide +kernel) rfl
theorem wt_226 : Cond.methodLink RX1 11 yX3_init ∈ zTT := zTT_of 226 (by decide +kernel) rfl
theorem wt_227 : Cond.fieldLink RX1 14 "FewProducts$Factors" "numbers" "LFewProducts$Ints;" ∈ zTT := zTT_of 227 (by decide +kernel) rfl
theorem wt_232 : Cond.classLink RX11 43 RX4 ∈ zTT := zTT_of 232 (by decide +kernel) rfl
theorem wt_233 : Cond.instantiable RX4 2 ∈ zTT := zTT_of 233 (by decide +kernel) rfl
theorem wt_235 : Cond.instanceMethod yX4_init ∈ zTT := zTT_of 235 (by decide +kernel) rfl
theorem wt_236 : Cond.code yX4_init cX4_init 1 none ∈ zTT := zTT_of 236 (by decide +kernel) rfl
theorem wt_237 : Cond.methodLink RX4 3 objectInit ∈ zTT := zTT_of 237 (by decide +kernel) rfl
theorem wt_238 : Cond.fieldLink RX4 9 "FewProducts$Joiner" "byZero" "I" ∈ zTT := zTT_of 238 (by decide +kernel) rfl
theorem wt_240 : Cond.fieldLink RX4 15 "FewProducts$Joiner" "byLike" "I" ∈ zTT := zTT_of 240 (by decide +kernel) rfl
theorem wt_247 : Cond.classLink RX11 50 RX7 ∈ zTT := zTT_of 247 (by decide +kernel) rfl
theorem wt_248 : Cond.instantiable RX7 3 ∈ zTT := zTT_of 248 (by decide +kernel) rfl
theorem wt_250 : Cond.instanceMethod yX7_init ∈ zTT := zTT_of 250 (by decide +kernel) rfl
theorem wt_251 : Cond.code yX7_init cX7_init 1 none ∈ zTT := zTT_of 251 (by decide +kernel) rfl
theorem wt_252 : Cond.methodLink RX7 3 objectInit ∈ zTT := zTT_of 252 (by decide +kernel) rfl
theorem wt_253 : Cond.classLink RX7 9 RX0 ∈ zTT := zTT_of 253 (by decide +kernel) rfl
theorem wt_254 : Cond.instantiable RX0 7 ∈ zTT := zTT_of 254 (by decide +kernel) rfl
theorem wt_256 : Cond.instanceMethod yX0_init ∈ zTT := zTT_of 256 (by decide +kernel) rfl
theorem wt_257 : Cond.code yX0_init cX0_init 1 none ∈ zTT := zTT_of 257 (by decide +kernel) rfl
theorem wt_258 : Cond.methodLink RX0 3 objectInit ∈ zTT := zTT_of 258 (by decide +kernel) rfl
theorem wt_259 : Cond.classLink RX0 9 RX3 ∈ zTT := zTT_of 259 (by decide +kernel) rfl
theorem wt_260 : Cond.methodLink RX0 11 yX3_init ∈ zTT := zTT_of 260 (by decide +kernel) rfl
theorem wt_261 : Cond.fieldLink RX0 14 "FewProducts$Basis" "reduced" "LFewProducts$Ints;" ∈ zTT := zTT_of 261 (by decide +kernel) rfl
theorem wt_262 : Cond.fieldLink RX0 20 "FewProducts$Basis" "made" "LFewProducts$Ints;" ∈ zTT := zTT_of 262 (by decide +kernel) rfl
theorem wt_263 : Cond.fieldLink RX0 23 "FewProducts$Basis" "pivots" "LFewProducts$Ints;" ∈ zTT := zTT_of 263 (by decide +kernel) rfl
theorem wt_264 : Cond.fieldLink RX0 26 "FewProducts$Basis" "q" "I" ∈ zTT := zTT_of 264 (by decide +kernel) rfl
theorem wt_265 : Cond.fieldLink RX0 30 "FewProducts$Basis" "size" "I" ∈ zTT := zTT_of 265 (by decide +kernel) rfl
theorem wt_268 : Cond.fieldLink RX0 36 "FewProducts$Basis" "rest" "I" ∈ zTT := zTT_of 268 (by decide +kernel) rfl
theorem wt_269 : Cond.fieldLink RX0 60 "FewProducts$Basis" "parts" "I" ∈ zTT := zTT_of 269 (by decide +kernel) rfl
theorem wt_286 : Cond.classLink RX7 18 RX3 ∈ zTT := zTT_of 286 (by decide +kernel) rfl
theorem wt_287 : Cond.methodLink RX7 20 yX3_init ∈ zTT := zTT_of 287 (by decide +kernel) rfl
theorem wt_288 : Cond.fieldLink RX7 12 "FewProducts$Shedder" "basis" "LFewProducts$Basis;" ∈ zTT := zTT_of 288 (by decide +kernel) rfl
theorem wt_289 : Cond.fieldLink RX7 23 "FewProducts$Shedder" "taken" "LFewProducts$Ints;" ∈ zTT := zTT_of 289 (by decide +kernel) rfl
theorem wt_290 : Cond.fieldLink RX7 27 "FewProducts$Shedder" "went" "LFewProducts$Ints;" ∈ zTT := zTT_of 290 (by decide +kernel) rfl
theorem wt_299 : Cond.classLink RX11 57 RX0 ∈ zTT := zTT_of 299 (by decide +kernel) rfl
theorem wt_301 : Cond.classLink RX11 64 RX5 ∈ zTT := zTT_of 301 (by decide +kernel) rfl
theorem wt_302 : Cond.instantiable RX5 6 ∈ zTT := zTT_of 302 (by decide +kernel) rfl
theorem wt_304 : Cond.instanceMethod yX5_init ∈ zTT := zTT_of 304 (by decide +kernel) rfl
theorem wt_305 : Cond.code yX5_init cX5_init 1 none ∈ zTT := zTT_of 305 (by decide +kernel) rfl
theorem wt_306 : Cond.methodLink RX5 5 objectInit ∈ zTT := zTT_of 306 (by decide +kernel) rfl
theorem wt_307 : Cond.classLink RX5 15 RX3 ∈ zTT := zTT_of 307 (by decide +kernel) rfl
theorem wt_308 : Cond.methodLink RX5 17 yX3_init ∈ zTT := zTT_of 308 (by decide +kernel) rfl
theorem wt_309 : Cond.fieldLink RX5 11 "FewProducts$Lifting" "reduced" "[J" ∈ zTT := zTT_of 309 (by decide +kernel) rfl
theorem wt_310 : Cond.fieldLink RX5 20 "FewProducts$Lifting" "isPivot" "LFewProducts$Ints;" ∈ zTT := zTT_of 310 (by decide +kernel) rfl
theorem wt_311 : Cond.fieldLink RX5 24 "FewProducts$Lifting" "column" "[J" ∈ zTT := zTT_of 311 (by decide +kernel) rfl
theorem wt_312 : Cond.fieldLink RX5 27 "FewProducts$Lifting" "strides" "LFewProducts$Ints;" ∈ zTT := zTT_of 312 (by decide +kernel) rfl
theorem wt_313 : Cond.fieldLink RX5 61 "FewProducts$Lifting" "equations" "I" ∈ zTT := zTT_of 313 (by decide +kernel) rfl
theorem wt_314 : Cond.fieldLink RX5 58 "FewProducts$Lifting" "rank" "I" ∈ zTT := zTT_of 314 (by decide +kernel) rfl
theorem wt_329 : Cond.methodLink RX11 71 yX6_makePlain ∈ zTT := zTT_of 329 (by decide +kernel) rfl
theorem wt_330 : Cond.instanceMethod yX6_makePlain ∈ zTT := zTT_of 330 (by decide +kernel) rfl
theorem wt_331 : Cond.selects RX6 yX6_makePlain yX6_makePlain ∈ zTT := zTT_of 331 (by decide +kernel) rfl
theorem wt_332 : Cond.code yX6_makePlain cX6_makePlain 5 none ∈ zTT := zTT_of 332 (by decide +kernel) rfl
theorem wt_333 : Cond.methodLink RX6 36 yX6_addPlain ∈ zTT := zTT_of 333 (by decide +kernel) rfl
theorem wt_334 : Cond.instanceMethod yX6_addPlain ∈ zTT := zTT_of 334 (by decide +kernel) rfl
theorem wt_335 : Cond.selects RX6 yX6_addPlain yX6_addPlain ∈ zTT := zTT_of 335 (by decide +kernel) rfl
theorem wt_336 : Cond.code yX6_addPlain cX6_addPlain 6 none ∈ zTT := zTT_of 336 (by decide +kernel) rfl
theorem wt_337 : Cond.methodLink RX6 39 yX6_addOnes ∈ zTT := zTT_of 337 (by decide +kernel) rfl
theorem wt_339 : Cond.instanceMethod yX6_addOnes ∈ zTT := zTT_of 339 (by decide +kernel) rfl
theorem wt_340 : Cond.code yX6_addOnes cX6_addOnes 4 none ∈ zTT := zTT_of 340 (by decide +kernel) rfl
theorem wt_341 : Cond.methodLink RX6 43 yX6_addZero ∈ zTT := zTT_of 341 (by decide +kernel) rfl
theorem wt_342 : Cond.instanceMethod yX6_addZero ∈ zTT := zTT_of 342 (by decide +kernel) rfl
theorem wt_343 : Cond.selects RX6 yX6_addZero yX6_addZero ∈ zTT := zTT_of 343 (by decide +kernel) rfl
theorem wt_344 : Cond.code yX6_addZero cX6_addZero 2 (some .boolean) ∈ zTT := zTT_of 344 (by decide +kernel) rfl
theorem wt_345 : Cond.methodLink RX6 56 yX6_isFull ∈ zTT := zTT_of 345 (by decide +kernel) rfl
theorem wt_346 : Cond.instanceMethod yX6_isFull ∈ zTT := zTT_of 346 (by decide +kernel) rfl
theorem wt_347 : Cond.selects RX6 yX6_isFull yX6_isFull ∈ zTT := zTT_of 347 (by decide +kernel) rfl
theorem wt_348 : Cond.code yX6_isFull cX6_isFull 1 (some .boolean) ∈ zTT := zTT_of 348 (by decide +kernel) rfl
theorem wt_349 : Cond.methodLink RX6 53 yX6_setForm ∈ zTT := zTT_of 349 (by decide +kernel) rfl
theorem wt_350 : Cond.instanceMethod yX6_setForm ∈ zTT := zTT_of 350 (by decide +kernel) rfl
theorem wt_351 : Cond.selects RX6 yX6_setForm yX6_setForm ∈ zTT := zTT_of 351 (by decide +kernel) rfl
theorem wt_352 : Cond.code yX6_setForm cX6_setForm 4 none ∈ zTT := zTT_of 352 (by decide +kernel) rfl
theorem wt_353 : Cond.methodLink RX6 71 yX3_put ∈ zTT := zTT_of 353 (by decide +kernel) rfl
theorem wt_354 : Cond.instanceMethod yX3_put ∈ zTT := zTT_of 354 (by decide +kernel) rfl
theorem wt_355 : Cond.selects RX3 yX3_put yX3_put ∈ zTT := zTT_of 355 (by decide +kernel) rfl
theorem wt_356 : Cond.code yX3_put cX3_put 3 none ∈ zTT := zTT_of 356 (by decide +kernel) rfl
theorem wt_357 : Cond.methodLink RX6 47 yX2_with ∈ zTT := zTT_of 357 (by decide +kernel) rfl
theorem wt_358 : Cond.static yX2_with ∈ zTT := zTT_of 358 (by decide +kernel) rfl
theorem wt_359 : Cond.code yX2_with cX2_with 6 (some .int) ∈ zTT := zTT_of 359 (by decide +kernel) rfl
theorem wt_360 : Cond.fieldLink RX11 10 "FewProducts" "text" "LFewProducts$Text;" ∈ zTT := zTT_of 360 (by decide +kernel) rfl
theorem wt_361 : Cond.fieldLink RX11 19 "FewProducts" "told" "LFewProducts$Told;" ∈ zTT := zTT_of 361 (by decide +kernel) rfl
theorem wt_362 : Cond.fieldLink RX11 26 "FewProducts" "now" "LFewProducts$Scheme;" ∈ zTT := zTT_of 362 (by decide +kernel) rfl
theorem wt_363 : Cond.fieldLink RX11 30 "FewProducts" "kept" "LFewProducts$Scheme;" ∈ zTT := zTT_of 363 (by decide +kernel) rfl
theorem wt_364 : Cond.fieldLink RX11 33 "FewProducts" "spare" "LFewProducts$Scheme;" ∈ zTT := zTT_of 364 (by decide +kernel) rfl
theorem wt_365 : Cond.fieldLink RX11 39 "FewProducts" "factors" "LFewProducts$Factors;" ∈ zTT := zTT_of 365 (by decide +kernel) rfl
theorem wt_366 : Cond.fieldLink RX11 46 "FewProducts" "joiner" "LFewProducts$Joiner;" ∈ zTT := zTT_of 366 (by decide +kernel) rfl
theorem wt_367 : Cond.fieldLink RX11 53 "FewProducts" "shedder" "LFewProducts$Shedder;" ∈ zTT := zTT_of 367 (by decide +kernel) rfl
theorem wt_368 : Cond.fieldLink RX11 60 "FewProducts" "basis" "LFewProducts$Basis;" ∈ zTT := zTT_of 368 (by decide +kernel) rfl
theorem wt_369 : Cond.fieldLink RX11 67 "FewProducts" "lifting" "LFewProducts$Lifting;" ∈ zTT := zTT_of 369 (by decide +kernel) rfl
theorem wt_370 : Cond.fieldLink RX11 79 "FewProducts" "isKept" "Z" ∈ zTT := zTT_of 370 (by decide +kernel) rfl
theorem wt_394 : Cond.methodLink RL 19 yX11_format ∈ zTT := zTT_of 394 (by decide +kernel) rfl
theorem wt_395 : Cond.instanceMethod yX11_format ∈ zTT := zTT_of 395 (by decide +kernel) rfl
theorem wt_396 : Cond.selects RX11 yX11_format yX11_format ∈ zTT := zTT_of 396 (by decide +kernel) rfl
theorem wt_397 : Cond.code yX11_format cX11_format 5 (some .int) ∈ zTT := zTT_of 397 (by decide +kernel) rfl
theorem wt_398 : Cond.methodLink RX11 75 yX11_isSize ∈ zTT := zTT_of 398 (by decide +kernel) rfl
theorem wt_399 : Cond.static yX11_isSize ∈ zTT := zTT_of 399 (by decide +kernel) rfl
theorem wt_400 : Cond.code yX11_isSize cX11_isSize 1 (some .boolean) ∈ zTT := zTT_of 400 (by decide +kernel) rfl
theorem wt_401 : Cond.methodLink RL 24 yX11_sign ∈ zTT := zTT_of 401 (by decide +kernel) rfl
theorem wt_402 : Cond.instanceMethod yX11_sign ∈ zTT := zTT_of 402 (by decide +kernel) rfl
theorem wt_403 : Cond.selects RX11 yX11_sign yX11_sign ∈ zTT := zTT_of 403 (by decide +kernel) rfl
theorem wt_404 : Cond.code yX11_sign cX11_sign 2 (some .int) ∈ zTT := zTT_of 404 (by decide +kernel) rfl
theorem wt_405 : Cond.methodLink RX11 87 yX8_addFour ∈ zTT := zTT_of 405 (by decide +kernel) rfl
theorem wt_406 : Cond.instanceMethod yX8_addFour ∈ zTT := zTT_of 406 (by decide +kernel) rfl
theorem wt_407 : Cond.selects RX8 yX8_addFour yX8_addFour ∈ zTT := zTT_of 407 (by decide +kernel) rfl
theorem wt_408 : Cond.code yX8_addFour cX8_addFour 3 (some .boolean) ∈ zTT := zTT_of 408 (by decide +kernel) rfl
theorem wt_409 : Cond.methodLink RX8 24 yX3_put ∈ zTT := zTT_of 409 (by decide +kernel) rfl
theorem wt_410 : Cond.methodLink RL 29 yX11_end ∈ zTT := zTT_of 410 (by decide +kernel) rfl
theorem wt_411 : Cond.instanceMethod yX11_end ∈ zTT := zTT_of 411 (by decide +kernel) rfl
theorem wt_412 : Cond.selects RX11 yX11_end yX11_end ∈ zTT := zTT_of 412 (by decide +kernel) rfl
theorem wt_413 : Cond.code yX11_end cX11_end 2 (some .boolean) ∈ zTT := zTT_of 413 (by decide +kernel) rfl
theorem wt_414 : Cond.methodLink RX11 93 yX8_cut ∈ zTT := zTT_of 414 (by decide +kernel) rfl
theorem wt_415 : Cond.instanceMethod yX8_cut ∈ zTT := zTT_of 415 (by decide +kernel) rfl
theorem wt_416 : Cond.selects RX8 yX8_cut yX8_cut ∈ zTT := zTT_of 416 (by decide +kernel) rfl
theorem wt_417 : Cond.code yX8_cut cX8_cut 2 (some .boolean) ∈ zTT := zTT_of 417 (by decide +kernel) rfl
theorem wt_418 : Cond.methodLink RL 34 yX11_scheme ∈ zTT := zTT_of 418 (by decide +kernel) rfl
theorem wt_419 : Cond.instanceMethod yX11_scheme ∈ zTT := zTT_of 419 (by decide +kernel) rfl
theorem wt_420 : Cond.selects RX11 yX11_scheme yX11_scheme ∈ zTT := zTT_of 420 (by decide +kernel) rfl
theorem wt_421 : Cond.code yX11_scheme cX11_scheme 2 (some .int) ∈ zTT := zTT_of 421 (by decide +kernel) rfl
theorem wt_422 : Cond.methodLink RX11 96 yX6_takeShape ∈ zTT := zTT_of 422 (by decide +kernel) rfl
theorem wt_423 : Cond.instanceMethod yX6_takeShape ∈ zTT := zTT_of 423 (by decide +kernel) rfl
theorem wt_424 : Cond.selects RX6 yX6_takeShape yX6_takeShape ∈ zTT := zTT_of 424 (by decide +kernel) rfl
theorem wt_425 : Cond.code yX6_takeShape cX6_takeShape 2 none ∈ zTT := zTT_of 425 (by decide +kernel) rfl
theorem wt_426 : Cond.methodLink RX11 100 yX8_readScheme ∈ zTT := zTT_of 426 (by decide +kernel) rfl
theorem wt_427 : Cond.instanceMethod yX8_readScheme ∈ zTT := zTT_of 427 (by decide +kernel) rfl
theorem wt_428 : Cond.selects RX8 yX8_readScheme yX8_readScheme ∈ zTT := zTT_of 428 (by decide +kernel) rfl
theorem wt_429 : Cond.code yX8_readScheme cX8_readScheme 3 (some .int) ∈ zTT := zTT_of 429 (by decide +kernel) rfl
theorem wt_430 : Cond.methodLink RX8 31 yX8_takeProduct ∈ zTT := zTT_of 430 (by decide +kernel) rfl
theorem wt_432 : Cond.instanceMethod yX8_takeProduct ∈ zTT := zTT_of 432 (by decide +kernel) rfl
theorem wt_433 : Cond.code yX8_takeProduct cX8_takeProduct 3 (some .boolean) ∈ zTT := zTT_of 433 (by decide +kernel) rfl
theorem wt_434 : Cond.methodLink RX8 53 yX6_addZero ∈ zTT := zTT_of 434 (by decide +kernel) rfl
theorem wt_435 : Cond.methodLink RX8 35 yX8_take ∈ zTT := zTT_of 435 (by decide +kernel) rfl
theorem wt_437 : Cond.instanceMethod yX8_take ∈ zTT := zTT_of 437 (by decide +kernel) rfl
theorem wt_438 : Cond.code yX8_take cX8_take 2 (some .boolean) ∈ zTT := zTT_of 438 (by decide +kernel) rfl
theorem wt_439 : Cond.methodLink RX8 47 yX8_peek ∈ zTT := zTT_of 439 (by decide +kernel) rfl
theorem wt_441 : Cond.instanceMethod yX8_peek ∈ zTT := zTT_of 441 (by decide +kernel) rfl
theorem wt_442 : Cond.code yX8_peek cX8_peek 1 (some .int) ∈ zTT := zTT_of 442 (by decide +kernel) rfl
theorem wt_443 : Cond.methodLink RX8 50 yX3_at ∈ zTT := zTT_of 443 (by decide +kernel) rfl
theorem wt_444 : Cond.instanceMethod yX3_at ∈ zTT := zTT_of 444 (by decide +kernel) rfl
theorem wt_445 : Cond.selects RX3 yX3_at yX3_at ∈ zTT := zTT_of 445 (by decide +kernel) rfl
theorem wt_446 : Cond.code yX3_at cX3_at 2 (some .int) ∈ zTT := zTT_of 446 (by decide +kernel) rfl
theorem wt_447 : Cond.methodLink RX8 43 yX8_takeForm ∈ zTT := zTT_of 447 (by decide +kernel) rfl
theorem wt_449 : Cond.instanceMethod yX8_takeForm ∈ zTT := zTT_of 449 (by decide +kernel) rfl
theorem wt_450 : Cond.code yX8_takeForm cX8_takeForm 5 (some .boolean) ∈ zTT := zTT_of 450 (by decide +kernel) rfl
theorem wt_451 : Cond.methodLink RX8 72 yX8_takeTerm ∈ zTT := zTT_of 451 (by decide +kernel) rfl
theorem wt_453 : Cond.instanceMethod yX8_takeTerm ∈ zTT := zTT_of 453 (by decide +kernel) rfl
theorem wt_454 : Cond.code yX8_takeTerm cX8_takeTerm 7 (some .boolean) ∈ zTT := zTT_of 454 (by decide +kernel) rfl
theorem wt_455 : Cond.methodLink RX8 76 yX6_rows ∈ zTT := zTT_of 455 (by decide +kernel) rfl
theorem wt_456 : Cond.instanceMethod yX6_rows ∈ zTT := zTT_of 456 (by decide +kernel) rfl
theorem wt_457 : Cond.selects RX6 yX6_rows yX6_rows ∈ zTT := zTT_of 457 (by decide +kernel) rfl
theorem wt_458 : Cond.code yX6_rows cX6_rows 2 (some .int) ∈ zTT := zTT_of 458 (by decide +kernel) rfl
theorem wt_459 : Cond.methodLink RX8 79 yX6_columns ∈ zTT := zTT_of 459 (by decide +kernel) rfl
theorem wt_460 : Cond.instanceMethod yX6_columns ∈ zTT := zTT_of 460 (by decide +kernel) rfl
theorem wt_461 : Cond.selects RX6 yX6_columns yX6_columns ∈ zTT := zTT_of 461 (by decide +kernel) rfl
theorem wt_462 : Cond.code yX6_columns cX6_columns 2 (some .int) ∈ zTT := zTT_of 462 (by decide +kernel) rfl
theorem wt_464 : Cond.static yX11_behind ∈ zTT := zTT_of 464 (by decide +kernel) rfl
theorem wt_465 : Cond.code yX11_behind cX11_behind 1 (some .int) ∈ zTT := zTT_of 465 (by decide +kernel) rfl
theorem wt_466 : Cond.methodLink RX6 88 yX6_rows ∈ zTT := zTT_of 466 (by decide +kernel) rfl
theorem wt_467 : Cond.methodLink RX8 82 yX2_numberAt ∈ zTT := zTT_of 467 (by decide +kernel) rfl
theorem wt_468 : Cond.static yX2_numberAt ∈ zTT := zTT_of 468 (by decide +kernel) rfl
theorem wt_469 : Cond.code yX2_numberAt cX2_numberAt 2 (some .int) ∈ zTT := zTT_of 469 (by decide +kernel) rfl
theorem wt_470 : Cond.methodLink RX8 88 yX2_with ∈ zTT := zTT_of 470 (by decide +kernel) rfl
theorem wt_471 : Cond.methodLink RX8 65 yX6_setForm ∈ zTT := zTT_of 471 (by decide +kernel) rfl
theorem wt_472 : Cond.methodLink RX8 39 yX8_restFault ∈ zTT := zTT_of 472 (by decide +kernel) rfl
theorem wt_474 : Cond.instanceMethod yX8_restFault ∈ zTT := zTT_of 474 (by decide +kernel) rfl
theorem wt_475 : Cond.code yX8_restFault cX8_restFault 1 (some .int) ∈ zTT := zTT_of 475 (by decide +kernel) rfl
theorem wt_476 : Cond.methodLink RX11 104 yX8_empty ∈ zTT := zTT_of 476 (by decide +kernel) rfl
theorem wt_477 : Cond.instanceMethod yX8_empty ∈ zTT := zTT_of 477 (by decide +kernel) rfl
theorem wt_478 : Cond.selects RX8 yX8_empty yX8_empty ∈ zTT := zTT_of 478 (by decide +kernel) rfl
theorem wt_479 : Cond.code yX8_empty cX8_empty 1 none ∈ zTT := zTT_of 479 (by decide +kernel) rfl
theorem wt_480 : Cond.methodLink RX11 107 yX6_takeAll ∈ zTT := zTT_of 480 (by decide +kernel) rfl
theorem wt_481 : Cond.instanceMethod yX6_takeAll ∈ zTT := zTT_of 481 (by decide +kernel) rfl
theorem wt_482 : Cond.selects RX6 yX6_takeAll yX6_takeAll ∈ zTT := zTT_of 482 (by decide +kernel) rfl
theorem wt_483 : Cond.code yX6_takeAll cX6_takeAll 3 none ∈ zTT := zTT_of 483 (by decide +kernel) rfl
theorem wt_484 : Cond.methodLink RX6 75 yX6_takeShape ∈ zTT := zTT_of 484 (by decide +kernel) rfl
theorem wt_485 : Cond.methodLink RX6 67 yX3_at ∈ zTT := zTT_of 485 (by decide +kernel) rfl
theorem wt_486 : Cond.methodLink RL 39 yX11_adds ∈ zTT := zTT_of 486 (by decide +kernel) rfl
theorem wt_487 : Cond.instanceMethod yX11_adds ∈ zTT := zTT_of 487 (by decide +kernel) rfl
theorem wt_488 : Cond.selects RX11 yX11_adds yX11_adds ∈ zTT := zTT_of 488 (by decide +kernel) rfl
theorem wt_489 : Cond.code yX11_adds cX11_adds 2 (some .int) ∈ zTT := zTT_of 489 (by decide +kernel) rfl
theorem wt_490 : Cond.methodLink RX11 110 yX8_readProduct ∈ zTT := zTT_of 490 (by decide +kernel) rfl
theorem wt_491 : Cond.instanceMethod yX8_readProduct ∈ zTT := zTT_of 491 (by decide +kernel) rfl
theorem wt_492 : Cond.selects RX8 yX8_readProduct yX8_readProduct ∈ zTT := zTT_of 492 (by decide +kernel) rfl
theorem wt_493 : Cond.code yX8_readProduct cX8_readProduct 2 (some .int) ∈ zTT := zTT_of 493 (by decide +kernel) rfl
theorem wt_494 : Cond.methodLink RX11 113 yX6_isFull ∈ zTT := zTT_of 494 (by decide +kernel) rfl
theorem wt_495 : Cond.methodLink RX11 117 yX6_addFrom ∈ zTT := zTT_of 495 (by decide +kernel) rfl
theorem wt_496 : Cond.instanceMethod yX6_addFrom ∈ zTT := zTT_of 496 (by decide +kernel) rfl
theorem wt_497 : Cond.selects RX6 yX6_addFrom yX6_addFrom ∈ zTT := zTT_of 497 (by decide +kernel) rfl
theorem wt_498 : Cond.code yX6_addFrom cX6_addFrom 4 none ∈ zTT := zTT_of 498 (by decide +kernel) rfl
theorem wt_499 : Cond.methodLink RX6 59 yX6_formAt ∈ zTT := zTT_of 499 (by decide +kernel) rfl
theorem wt_500 : Cond.instanceMethod yX6_formAt ∈ zTT := zTT_of 500 (by decide +kernel) rfl
theorem wt_501 : Cond.selects RX6 yX6_formAt yX6_formAt ∈ zTT := zTT_of 501 (by decide +kernel) rfl
theorem wt_502 : Cond.code yX6_formAt cX6_formAt 3 (some .int) ∈ zTT := zTT_of 502 (by decide +kernel) rfl
theorem wt_503 : Cond.methodLink RL 43 yX11_drops ∈ zTT := zTT_of 503 (by decide +kernel) rfl
theorem wt_504 : Cond.instanceMethod yX11_drops ∈ zTT := zTT_of 504 (by decide +kernel) rfl
theorem wt_505 : Cond.selects RX11 yX11_drops yX11_drops ∈ zTT := zTT_of 505 (by decide +kernel) rfl
theorem wt_506 : Cond.code yX11_drops cX11_drops 2 (some .int) ∈ zTT := zTT_of 506 (by decide +kernel) rfl
theorem wt_507 : Cond.methodLink RX11 121 yX6_isProduct ∈ zTT := zTT_of 507 (by decide +kernel) rfl
theorem wt_508 : Cond.instanceMethod yX6_isProduct ∈ zTT := zTT_of 508 (by decide +kernel) rfl
theorem wt_509 : Cond.selects RX6 yX6_isProduct yX6_isProduct ∈ zTT := zTT_of 509 (by decide +kernel) rfl
theorem wt_510 : Cond.code yX6_isProduct cX6_isProduct 2 (some .boolean) ∈ zTT := zTT_of 510 (by decide +kernel) rfl
theorem wt_511 : Cond.methodLink RX11 124 yX6_remove ∈ zTT := zTT_of 511 (by decide +kernel) rfl
theorem wt_512 : Cond.instanceMethod yX6_remove ∈ zTT := zTT_of 512 (by decide +kernel) rfl
theorem wt_513 : Cond.selects RX6 yX6_remove yX6_remove ∈ zTT := zTT_of 513 (by decide +kernel) rfl
theorem wt_514 : Cond.code yX6_remove cX6_remove 3 none ∈ zTT := zTT_of 514 (by decide +kernel) rfl
theorem wt_515 : Cond.methodLink RX6 63 yX6_isProduct ∈ zTT := zTT_of 515 (by decide +kernel) rfl
theorem wt_516 : Cond.methodLink RL 47 yX11_form ∈ zTT := zTT_of 516 (by decide +kernel) rfl
theorem wt_517 : Cond.instanceMethod yX11_form ∈ zTT := zTT_of 517 (by decide +kernel) rfl
theorem wt_518 : Cond.selects RX11 yX11_form yX11_form ∈ zTT := zTT_of 518 (by decide +kernel) rfl
theorem wt_519 : Cond.code yX11_form cX11_form 3 (some .int) ∈ zTT := zTT_of 519 (by decide +kernel) rfl
theorem wt_520 : Cond.methodLink RX11 128 yX11_isTable ∈ zTT := zTT_of 520 (by decide +kernel) rfl
theorem wt_521 : Cond.static yX11_isTable ∈ zTT := zTT_of 521 (by decide +kernel) rfl
theorem wt_522 : Cond.code yX11_isTable cX11_isTable 1 (some .boolean) ∈ zTT := zTT_of 522 (by decide +kernel) rfl
theorem wt_523 : Cond.methodLink RX11 131 yX6_formAt ∈ zTT := zTT_of 523 (by decide +kernel) rfl
theorem wt_524 : Cond.methodLink RX11 138 yX2_code ∈ zTT := zTT_of 524 (by decide +kernel) rfl
theorem wt_525 : Cond.static yX2_code ∈ zTT := zTT_of 525 (by decide +kernel) rfl
theorem wt_526 : Cond.code yX2_code cX2_code 4 (some .int) ∈ zTT := zTT_of 526 (by decide +kernel) rfl
theorem wt_527 : Cond.methodLink RX2 24 yX2_numberAt ∈ zTT := zTT_of 527 (by decide +kernel) rfl
theorem wt_528 : Cond.methodLink RL 52 yX11_number ∈ zTT := zTT_of 528 (by decide +kernel) rfl
theorem wt_529 : Cond.instanceMethod yX11_number ∈ zTT := zTT_of 529 (by decide +kernel) rfl
theorem wt_530 : Cond.selects RX11 yX11_number yX11_number ∈ zTT := zTT_of 530 (by decide +kernel) rfl
theorem wt_531 : Cond.code yX11_number cX11_number 4 (some .int) ∈ zTT := zTT_of 531 (by decide +kernel) rfl
theorem wt_532 : Cond.methodLink RX11 143 yX6_isPlace ∈ zTT := zTT_of 532 (by decide +kernel) rfl
theorem wt_533 : Cond.instanceMethod yX6_isPlace ∈ zTT := zTT_of 533 (by decide +kernel) rfl
theorem wt_534 : Cond.selects RX6 yX6_isPlace yX6_isPlace ∈ zTT := zTT_of 534 (by decide +kernel) rfl
theorem wt_535 : Cond.code yX6_isPlace cX6_isPlace 3 (some .boolean) ∈ zTT := zTT_of 535 (by decide +kernel) rfl
theorem wt_537 : Cond.methodLink RX6 82 yX6_places ∈ zTT := zTT_of 537 (by decide +kernel) rfl
theorem wt_538 : Cond.instanceMethod yX6_places ∈ zTT := zTT_of 538 (by decide +kernel) rfl
theorem wt_539 : Cond.selects RX6 yX6_places yX6_places ∈ zTT := zTT_of 539 (by decide +kernel) rfl
theorem wt_540 : Cond.code yX6_places cX6_places 2 (some .int) ∈ zTT := zTT_of 540 (by decide +kernel) rfl
theorem wt_541 : Cond.methodLink RX6 91 yX6_columns ∈ zTT := zTT_of 541 (by decide +kernel) rfl
theorem wt_542 : Cond.methodLink RX11 147 yX2_numberAt ∈ zTT := zTT_of 542 (by decide +kernel) rfl
theorem wt_543 : Cond.methodLink RL 57 yX11_checks ∈ zTT := zTT_of 543 (by decide +kernel) rfl
theorem wt_544 : Cond.instanceMethod yX11_checks ∈ zTT := zTT_of 544 (by decide +kernel) rfl
theorem wt_545 : Cond.selects RX11 yX11_checks yX11_checks ∈ zTT := zTT_of 545 (by decide +kernel) rfl
theorem wt_546 : Cond.code yX11_checks cX11_checks 7 (some .int) ∈ zTT := zTT_of 546 (by decide +kernel) rfl
theorem wt_547 : Cond.methodLink RX11 150 yX9_clear ∈ zTT := zTT_of 547 (by decide +kernel) rfl
theorem wt_548 : Cond.instanceMethod yX9_clear ∈ zTT := zTT_of 548 (by decide +kernel) rfl
theorem wt_549 : Cond.selects RX9 yX9_clear yX9_clear ∈ zTT := zTT_of 549 (by decide +kernel) rfl
theorem wt_550 : Cond.code yX9_clear cX9_clear 1 none ∈ zTT := zTT_of 550 (by decide +kernel) rfl
theorem wt_551 : Cond.methodLink RX11 153 yX6_places ∈ zTT := zTT_of 551 (by decide +kernel) rfl
theorem wt_552 : Cond.methodLink RX11 157 yX6_givenAt ∈ zTT := zTT_of 552 (by decide +kernel) rfl
theorem wt_553 : Cond.instanceMethod yX6_givenAt ∈ zTT := zTT_of 553 (by decide +kernel) rfl
theorem wt_554 : Cond.selects RX6 yX6_givenAt yX6_givenAt ∈ zTT := zTT_of 554 (by decide +kernel) rfl
theorem wt_555 : Cond.code yX6_givenAt cX6_givenAt 7 (some .int) ∈ zTT := zTT_of 555 (by decide +kernel) rfl
theorem wt_556 : Cond.methodLink RX6 94 yX2_numberAt ∈ zTT := zTT_of 556 (by decide +kernel) rfl
theorem wt_557 : Cond.methodLink RX6 97 yX2_mod ∈ zTT := zTT_of 557 (by decide +kernel) rfl
theorem wt_558 : Cond.static yX2_mod ∈ zTT := zTT_of 558 (by decide +kernel) rfl
theorem wt_559 : Cond.code yX2_mod cX2_mod 2 (some .int) ∈ zTT := zTT_of 559 (by decide +kernel) rfl
theorem wt_560 : Cond.methodLink RX2 9 yJ9_floorMod_7cf53 ∈ zTT := zTT_of 560 (by decide +kernel) rfl
theorem wt_561 : Cond.static yJ9_floorMod_7cf53 ∈ zTT := zTT_of 561 (by decide +kernel) rfl
theorem wt_562 : Cond.code yJ9_floorMod_7cf53 cJ9_floorMod_7cf53 3 (some .int) ∈ zTT := zTT_of 562 (by decide +kernel) rfl
theorem wt_563 : Cond.methodLink RX11 161 yX6_neededAt ∈ zTT := zTT_of 563 (by decide +kernel) rfl
theorem wt_564 : Cond.instanceMethod yX6_neededAt ∈ zTT := zTT_of 564 (by decide +kernel) rfl
theorem wt_565 : Cond.selects RX6 yX6_neededAt yX6_neededAt ∈ zTT := zTT_of 565 (by decide +kernel) rfl
theorem wt_566 : Cond.code yX6_neededAt cX6_neededAt 4 (some .int) ∈ zTT := zTT_of 566 (by decide +kernel) rfl
theorem wt_567 : Cond.methodLink RX6 100 yX6_columnOf ∈ zTT := zTT_of 567 (by decide +kernel) rfl
theorem wt_568 : Cond.instanceMethod yX6_columnOf ∈ zTT := zTT_of 568 (by decide +kernel) rfl
theorem wt_569 : Cond.selects RX6 yX6_columnOf yX6_columnOf ∈ zTT := zTT_of 569 (by decide +kernel) rfl
theorem wt_570 : Cond.code yX6_columnOf cX6_columnOf 4 (some .int) ∈ zTT := zTT_of 570 (by decide +kernel) rfl
theorem wt_571 : Cond.methodLink RX6 103 yX6_rowOf ∈ zTT := zTT_of 571 (by decide +kernel) rfl
theorem wt_572 : Cond.instanceMethod yX6_rowOf ∈ zTT := zTT_of 572 (by decide +kernel) rfl
theorem wt_573 : Cond.selects RX6 yX6_rowOf yX6_rowOf ∈ zTT := zTT_of 573 (by decide +kernel) rfl
theorem wt_574 : Cond.code yX6_rowOf cX6_rowOf 4 (some .int) ∈ zTT := zTT_of 574 (by decide +kernel) rfl
theorem wt_575 : Cond.methodLink RX11 164 yX11_tellFirst ∈ zTT := zTT_of 575 (by decide +kernel) rfl
theorem wt_577 : Cond.instanceMethod yX11_tellFirst ∈ zTT := zTT_of 577 (by decide +kernel) rfl
theorem wt_578 : Cond.code yX11_tellFirst cX11_tellFirst 5 none ∈ zTT := zTT_of 578 (by decide +kernel) rfl
theorem wt_579 : Cond.methodLink RX11 200 yX11_tellThree ∈ zTT := zTT_of 579 (by decide +kernel) rfl
theorem wt_581 : Cond.instanceMethod yX11_tellThree ∈ zTT := zTT_of 581 (by decide +kernel) rfl
theorem wt_582 : Cond.code yX11_tellThree cX11_tellThree 4 none ∈ zTT := zTT_of 582 (by decide +kernel) rfl
theorem wt_583 : Cond.methodLink RX11 167 yX9_add ∈ zTT := zTT_of 583 (by decide +kernel) rfl
theorem wt_584 : Cond.instanceMethod yX9_add ∈ zTT := zTT_of 584 (by decide +kernel) rfl
theorem wt_585 : Cond.selects RX9 yX9_add yX9_add ∈ zTT := zTT_of 585 (by decide +kernel) rfl
theorem wt_586 : Cond.code yX9_add cX9_add 3 none ∈ zTT := zTT_of 586 (by decide +kernel) rfl
theorem wt_587 : Cond.methodLink RL 61 yX11_given ∈ zTT := zTT_of 587 (by decide +kernel) rfl
theorem wt_588 : Cond.instanceMethod yX11_given ∈ zTT := zTT_of 588 (by decide +kernel) rfl
theorem wt_589 : Cond.selects RX11 yX11_given yX11_given ∈ zTT := zTT_of 589 (by decide +kernel) rfl
theorem wt_590 : Cond.code yX11_given cX11_given 4 (some .int) ∈ zTT := zTT_of 590 (by decide +kernel) rfl
theorem wt_591 : Cond.methodLink RX11 171 yX6_meetAt ∈ zTT := zTT_of 591 (by decide +kernel) rfl
theorem wt_592 : Cond.instanceMethod yX6_meetAt ∈ zTT := zTT_of 592 (by decide +kernel) rfl
theorem wt_593 : Cond.selects RX6 yX6_meetAt yX6_meetAt ∈ zTT := zTT_of 593 (by decide +kernel) rfl
theorem wt_594 : Cond.code yX6_meetAt cX6_meetAt 6 (some .int) ∈ zTT := zTT_of 594 (by decide +kernel) rfl
theorem wt_595 : Cond.methodLink RL 65 yX11_multiplies ∈ zTT := zTT_of 595 (by decide +kernel) rfl
theorem wt_596 : Cond.instanceMethod yX11_multiplies ∈ zTT := zTT_of 596 (by decide +kernel) rfl
theorem wt_597 : Cond.selects RX11 yX11_multiplies yX11_multiplies ∈ zTT := zTT_of 597 (by decide +kernel) rfl
theorem wt_598 : Cond.code yX11_multiplies cX11_multiplies 5 (some .int) ∈ zTT := zTT_of 598 (by decide +kernel) rfl
theorem wt_599 : Cond.methodLink RX11 178 yX8_readNumbers ∈ zTT := zTT_of 599 (by decide +kernel) rfl
theorem wt_600 : Cond.instanceMethod yX8_readNumbers ∈ zTT := zTT_of 600 (by decide +kernel) rfl
theorem wt_601 : Cond.selects RX8 yX8_readNumbers yX8_readNumbers ∈ zTT := zTT_of 601 (by decide +kernel) rfl
theorem wt_602 : Cond.code yX8_readNumbers cX8_readNumbers 6 (some .int) ∈ zTT := zTT_of 602 (by decide +kernel) rfl
theorem wt_603 : Cond.methodLink RX11 182 yX1_comesAt ∈ zTT := zTT_of 603 (by decide +kernel) rfl
theorem wt_604 : Cond.instanceMethod yX1_comesAt ∈ zTT := zTT_of 604 (by decide +kernel) rfl
theorem wt_605 : Cond.selects RX1 yX1_comesAt yX1_comesAt ∈ zTT := zTT_of 605 (by decide +kernel) rfl
theorem wt_606 : Cond.code yX1_comesAt cX1_comesAt 8 (some .int) ∈ zTT := zTT_of 606 (by decide +kernel) rfl
theorem wt_607 : Cond.methodLink RX1 26 yX6_formAt ∈ zTT := zTT_of 607 (by decide +kernel) rfl
theorem wt_608 : Cond.methodLink RX1 30 yX2_numberAt ∈ zTT := zTT_of 608 (by decide +kernel) rfl
theorem wt_609 : Cond.methodLink RX1 35 yX6_places ∈ zTT := zTT_of 609 (by decide +kernel) rfl
theorem wt_610 : Cond.methodLink RX1 39 yX1_weigh ∈ zTT := zTT_of 610 (by decide +kernel) rfl
theorem wt_612 : Cond.instanceMethod yX1_weigh ∈ zTT := zTT_of 612 (by decide +kernel) rfl
theorem wt_613 : Cond.code yX1_weigh cX1_weigh 6 (some .int) ∈ zTT := zTT_of 613 (by decide +kernel) rfl
theorem wt_614 : Cond.methodLink RX1 49 yX3_at ∈ zTT := zTT_of 614 (by decide +kernel) rfl
theorem wt_615 : Cond.methodLink RX1 46 yX2_mod ∈ zTT := zTT_of 615 (by decide +kernel) rfl
theorem wt_616 : Cond.methodLink RX11 186 yX1_dueAt ∈ zTT := zTT_of 616 (by decide +kernel) rfl
theorem wt_617 : Cond.instanceMethod yX1_dueAt ∈ zTT := zTT_of 617 (by decide +kernel) rfl
theorem wt_618 : Cond.selects RX1 yX1_dueAt yX1_dueAt ∈ zTT := zTT_of 618 (by decide +kernel) rfl
theorem wt_619 : Cond.code yX1_dueAt cX1_dueAt 7 (some .int) ∈ zTT := zTT_of 619 (by decide +kernel) rfl
theorem wt_620 : Cond.methodLink RX1 52 yX6_columnOf ∈ zTT := zTT_of 620 (by decide +kernel) rfl
theorem wt_621 : Cond.methodLink RX1 55 yX6_rowOf ∈ zTT := zTT_of 621 (by decide +kernel) rfl
theorem wt_622 : Cond.methodLink RL 69 yX11_sums ∈ zTT := zTT_of 622 (by decide +kernel) rfl
theorem wt_623 : Cond.instanceMethod yX11_sums ∈ zTT := zTT_of 623 (by decide +kernel) rfl
theorem wt_624 : Cond.selects RX11 yX11_sums yX11_sums ∈ zTT := zTT_of 624 (by decide +kernel) rfl
theorem wt_625 : Cond.code yX11_sums cX11_sums 5 (some .int) ∈ zTT := zTT_of 625 (by decide +kernel) rfl
theorem wt_626 : Cond.methodLink RX11 189 yJ6_bitCount_0f7a4 ∈ zTT := zTT_of 626 (by decide +kernel) rfl
theorem wt_627 : Cond.static yJ6_bitCount_0f7a4 ∈ zTT := zTT_of 627 (by decide +kernel) rfl
theorem wt_628 : Cond.code yJ6_bitCount_0f7a4 cJ6_bitCount_0f7a4 1 (some .int) ∈ zTT := zTT_of 628 (by decide +kernel) rfl
theorem wt_629 : Cond.constant RJ6 265 1431655765 ∈ zTT := zTT_of 629 (by decide +kernel) rfl
theorem wt_630 : Cond.constant RJ6 266 858993459 ∈ zTT := zTT_of 630 (by decide +kernel) rfl
theorem wt_631 : Cond.constant RJ6 267 252645135 ∈ zTT := zTT_of 631 (by decide +kernel) rfl
theorem wt_632 : Cond.methodLink RX11 194 yX11_lessOne ∈ zTT := zTT_of 632 (by decide +kernel) rfl
theorem wt_633 : Cond.static yX11_lessOne ∈ zTT := zTT_of 633 (by decide +kernel) rfl
theorem wt_634 : Cond.code yX11_lessOne cX11_lessOne 1 (some .int) ∈ zTT := zTT_of 634 (by decide +kernel) rfl
theorem wt_635 : Cond.methodLink RX11 197 yX6_usersOf ∈ zTT := zTT_of 635 (by decide +kernel) rfl
theorem wt_636 : Cond.instanceMethod yX6_usersOf ∈ zTT := zTT_of 636 (by decide +kernel) rfl
theorem wt_637 : Cond.selects RX6 yX6_usersOf yX6_usersOf ∈ zTT := zTT_of 637 (by decide +kernel) rfl
theorem wt_638 : Cond.code yX6_usersOf cX6_usersOf 6 (some .int) ∈ zTT := zTT_of 638 (by decide +kernel) rfl
theorem wt_639 : Cond.methodLink RL 73 yX11_like ∈ zTT := zTT_of 639 (by decide +kernel) rfl
theorem wt_640 : Cond.instanceMethod yX11_like ∈ zTT := zTT_of 640 (by decide +kernel) rfl
theorem wt_641 : Cond.selects RX11 yX11_like yX11_like ∈ zTT := zTT_of 641 (by decide +kernel) rfl
theorem wt_642 : Cond.code yX11_like cX11_like 5 (some .int) ∈ zTT := zTT_of 642 (by decide +kernel) rfl
theorem wt_643 : Cond.methodLink RX11 204 yX6_likeBy ∈ zTT := zTT_of 643 (by decide +kernel) rfl
theorem wt_644 : Cond.instanceMethod yX6_likeBy ∈ zTT := zTT_of 644 (by decide +kernel) rfl
theorem wt_645 : Cond.selects RX6 yX6_likeBy yX6_likeBy ∈ zTT := zTT_of 645 (by decide +kernel) rfl
theorem wt_646 : Cond.code yX6_likeBy cX6_likeBy 4 (some .int) ∈ zTT := zTT_of 646 (by decide +kernel) rfl
theorem wt_647 : Cond.methodLink RX6 123 yX2_likeBy ∈ zTT := zTT_of 647 (by decide +kernel) rfl
theorem wt_648 : Cond.static yX2_likeBy ∈ zTT := zTT_of 648 (by decide +kernel) rfl
theorem wt_649 : Cond.code yX2_likeBy cX2_likeBy 3 (some .int) ∈ zTT := zTT_of 649 (by decide +kernel) rfl
theorem wt_650 : Cond.methodLink RX2 17 yX2_times ∈ zTT := zTT_of 650 (by decide +kernel) rfl
theorem wt_651 : Cond.static yX2_times ∈ zTT := zTT_of 651 (by decide +kernel) rfl
theorem wt_652 : Cond.code yX2_times cX2_times 2 (some .int) ∈ zTT := zTT_of 652 (by decide +kernel) rfl
theorem wt_653 : Cond.methodLink RL 77 yX11_flips ∈ zTT := zTT_of 653 (by decide +kernel) rfl
theorem wt_654 : Cond.instanceMethod yX11_flips ∈ zTT := zTT_of 654 (by decide +kernel) rfl
theorem wt_655 : Cond.selects RX11 yX11_flips yX11_flips ∈ zTT := zTT_of 655 (by decide +kernel) rfl
theorem wt_656 : Cond.code yX11_flips cX11_flips 4 (some .int) ∈ zTT := zTT_of 656 (by decide +kernel) rfl
theorem wt_657 : Cond.methodLink RX11 207 yX6_flipsAt ∈ zTT := zTT_of 657 (by decide +kernel) rfl
theorem wt_658 : Cond.instanceMethod yX6_flipsAt ∈ zTT := zTT_of 658 (by decide +kernel) rfl
theorem wt_659 : Cond.selects RX6 yX6_flipsAt yX6_flipsAt ∈ zTT := zTT_of 659 (by decide +kernel) rfl
theorem wt_660 : Cond.code yX6_flipsAt cX6_flipsAt 5 (some .int) ∈ zTT := zTT_of 660 (by decide +kernel) rfl
theorem wt_661 : Cond.methodLink RX6 139 yX6_likeBy ∈ zTT := zTT_of 661 (by decide +kernel) rfl
theorem wt_662 : Cond.methodLink RL 81 yX11_flip ∈ zTT := zTT_of 662 (by decide +kernel) rfl
theorem wt_663 : Cond.instanceMethod yX11_flip ∈ zTT := zTT_of 663 (by decide +kernel) rfl
theorem wt_664 : Cond.selects RX11 yX11_flip yX11_flip ∈ zTT := zTT_of 664 (by decide +kernel) rfl
theorem wt_665 : Cond.code yX11_flip cX11_flip 4 (some .int) ∈ zTT := zTT_of 665 (by decide +kernel) rfl
theorem wt_666 : Cond.methodLink RX11 210 yX6_turnFlip ∈ zTT := zTT_of 666 (by decide +kernel) rfl
theorem wt_667 : Cond.instanceMethod yX6_turnFlip ∈ zTT := zTT_of 667 (by decide +kernel) rfl
theorem wt_668 : Cond.selects RX6 yX6_turnFlip yX6_turnFlip ∈ zTT := zTT_of 668 (by decide +kernel) rfl
theorem wt_669 : Cond.code yX6_turnFlip cX6_turnFlip 7 none ∈ zTT := zTT_of 669 (by decide +kernel) rfl
theorem wt_670 : Cond.methodLink RX6 144 yX2_times ∈ zTT := zTT_of 670 (by decide +kernel) rfl
theorem wt_671 : Cond.methodLink RX6 147 yX2_sum ∈ zTT := zTT_of 671 (by decide +kernel) rfl
theorem wt_672 : Cond.static yX2_sum ∈ zTT := zTT_of 672 (by decide +kernel) rfl
theorem wt_673 : Cond.code yX2_sum cX2_sum 9 (some .int) ∈ zTT := zTT_of 673 (by decide +kernel) rfl
theorem wt_674 : Cond.methodLink RX6 150 yX2_less ∈ zTT := zTT_of 674 (by decide +kernel) rfl
theorem wt_675 : Cond.static yX2_less ∈ zTT := zTT_of 675 (by decide +kernel) rfl
theorem wt_676 : Cond.code yX2_less cX2_less 3 (some .int) ∈ zTT := zTT_of 676 (by decide +kernel) rfl
theorem wt_677 : Cond.methodLink RX2 20 yX2_sum ∈ zTT := zTT_of 677 (by decide +kernel) rfl
theorem wt_678 : Cond.methodLink RX11 213 yX6_zeros ∈ zTT := zTT_of 678 (by decide +kernel) rfl
theorem wt_679 : Cond.instanceMethod yX6_zeros ∈ zTT := zTT_of 679 (by decide +kernel) rfl
theorem wt_680 : Cond.selects RX6 yX6_zeros yX6_zeros ∈ zTT := zTT_of 680 (by decide +kernel) rfl
theorem wt_681 : Cond.code yX6_zeros cX6_zeros 3 (some .int) ∈ zTT := zTT_of 681 (by decide +kernel) rfl
theorem wt_682 : Cond.methodLink RX6 112 yX6_hasZero ∈ zTT := zTT_of 682 (by decide +kernel) rfl
theorem wt_683 : Cond.instanceMethod yX6_hasZero ∈ zTT := zTT_of 683 (by decide +kernel) rfl
theorem wt_684 : Cond.selects RX6 yX6_hasZero yX6_hasZero ∈ zTT := zTT_of 684 (by decide +kernel) rfl
theorem wt_685 : Cond.code yX6_hasZero cX6_hasZero 2 (some .boolean) ∈ zTT := zTT_of 685 (by decide +kernel) rfl
theorem wt_686 : Cond.methodLink RL 85 yX11_joins ∈ zTT := zTT_of 686 (by decide +kernel) rfl
theorem wt_687 : Cond.instanceMethod yX11_joins ∈ zTT := zTT_of 687 (by decide +kernel) rfl
theorem wt_688 : Cond.selects RX11 yX11_joins yX11_joins ∈ zTT := zTT_of 688 (by decide +kernel) rfl
theorem wt_689 : Cond.code yX11_joins cX11_joins 1 (some .int) ∈ zTT := zTT_of 689 (by decide +kernel) rfl
theorem wt_690 : Cond.methodLink RX11 217 yX4_join ∈ zTT := zTT_of 690 (by decide +kernel) rfl
theorem wt_691 : Cond.instanceMethod yX4_join ∈ zTT := zTT_of 691 (by decide +kernel) rfl
theorem wt_692 : Cond.selects RX4 yX4_join yX4_join ∈ zTT := zTT_of 692 (by decide +kernel) rfl
theorem wt_693 : Cond.code yX4_join cX4_join 4 none ∈ zTT := zTT_of 693 (by decide +kernel) rfl
theorem wt_694 : Cond.methodLink RX4 18 yX6_firstZero ∈ zTT := zTT_of 694 (by decide +kernel) rfl
theorem wt_695 : Cond.instanceMethod yX6_firstZero ∈ zTT := zTT_of 695 (by decide +kernel) rfl
theorem wt_696 : Cond.selects RX6 yX6_firstZero yX6_firstZero ∈ zTT := zTT_of 696 (by decide +kernel) rfl
theorem wt_697 : Cond.code yX6_firstZero cX6_firstZero 2 (some .int) ∈ zTT := zTT_of 697 (by decide +kernel) rfl
theorem wt_698 : Cond.methodLink RX4 24 yX6_remove ∈ zTT := zTT_of 698 (by decide +kernel) rfl
theorem wt_699 : Cond.methodLink RX4 28 yX4_joinFirst ∈ zTT := zTT_of 699 (by decide +kernel) rfl
theorem wt_700 : Cond.static yX4_joinFirst ∈ zTT := zTT_of 700 (by decide +kernel) rfl
theorem wt_701 : Cond.code yX4_joinFirst cX4_joinFirst 4 (some .boolean) ∈ zTT := zTT_of 701 (by decide +kernel) rfl
theorem wt_702 : Cond.methodLink RX4 35 yX4_joinTwo ∈ zTT := zTT_of 702 (by decide +kernel) rfl
theorem wt_703 : Cond.static yX4_joinTwo ∈ zTT := zTT_of 703 (by decide +kernel) rfl
theorem wt_704 : Cond.code yX4_joinTwo cX4_joinTwo 8 (some .boolean) ∈ zTT := zTT_of 704 (by decide +kernel) rfl
theorem wt_706 : Cond.methodLink RX4 43 yX6_likeBy ∈ zTT := zTT_of 706 (by decide +kernel) rfl
theorem wt_707 : Cond.methodLink RX4 47 yX6_formAt ∈ zTT := zTT_of 707 (by decide +kernel) rfl
theorem wt_708 : Cond.methodLink RX4 51 yX2_times ∈ zTT := zTT_of 708 (by decide +kernel) rfl
theorem wt_709 : Cond.methodLink RX4 59 yX2_sum ∈ zTT := zTT_of 709 (by decide +kernel) rfl
theorem wt_710 : Cond.methodLink RX4 62 yX6_setForm ∈ zTT := zTT_of 710 (by decide +kernel) rfl
theorem wt_711 : Cond.methodLink RL 89 yX11_sheds ∈ zTT := zTT_of 711 (by decide +kernel) rfl
theorem wt_712 : Cond.instanceMethod yX11_sheds ∈ zTT := zTT_of 712 (by decide +kernel) rfl
theorem wt_713 : Cond.selects RX11 yX11_sheds yX11_sheds ∈ zTT := zTT_of 713 (by decide +kernel) rfl
theorem wt_714 : Cond.code yX11_sheds cX11_sheds 3 (some .int) ∈ zTT := zTT_of 714 (by decide +kernel) rfl
theorem wt_715 : Cond.methodLink RX11 229 yX3_clear ∈ zTT := zTT_of 715 (by decide +kernel) rfl
theorem wt_716 : Cond.instanceMethod yX3_clear ∈ zTT := zTT_of 716 (by decide +kernel) rfl
theorem wt_717 : Cond.selects RX3 yX3_clear yX3_clear ∈ zTT := zTT_of 717 (by decide +kernel) rfl
theorem wt_718 : Cond.code yX3_clear cX3_clear 2 none ∈ zTT := zTT_of 718 (by decide +kernel) rfl
theorem wt_719 : Cond.methodLink RX11 232 yX7_shedFirst ∈ zTT := zTT_of 719 (by decide +kernel) rfl
theorem wt_720 : Cond.instanceMethod yX7_shedFirst ∈ zTT := zTT_of 720 (by decide +kernel) rfl
theorem wt_721 : Cond.selects RX7 yX7_shedFirst yX7_shedFirst ∈ zTT := zTT_of 721 (by decide +kernel) rfl
theorem wt_722 : Cond.code yX7_shedFirst cX7_shedFirst 6 (some .boolean) ∈ zTT := zTT_of 722 (by decide +kernel) rfl
theorem wt_724 : Cond.methodLink RX7 40 yX6_hasZero ∈ zTT := zTT_of 724 (by decide +kernel) rfl
theorem wt_725 : Cond.methodLink RX7 44 yX7_isSumOfAhead ∈ zTT := zTT_of 725 (by decide +kernel) rfl
theorem wt_727 : Cond.instanceMethod yX7_isSumOfAhead ∈ zTT := zTT_of 727 (by decide +kernel) rfl
theorem wt_728 : Cond.code yX7_isSumOfAhead cX7_isSumOfAhead 7 (some .boolean) ∈ zTT := zTT_of 728 (by decide +kernel) rfl
theorem wt_729 : Cond.methodLink RX7 65 yX0_start ∈ zTT := zTT_of 729 (by decide +kernel) rfl
theorem wt_730 : Cond.instanceMethod yX0_start ∈ zTT := zTT_of 730 (by decide +kernel) rfl
theorem wt_731 : Cond.selects RX0 yX0_start yX0_start ∈ zTT := zTT_of 731 (by decide +kernel) rfl
theorem wt_732 : Cond.code yX0_start cX0_start 2 none ∈ zTT := zTT_of 732 (by decide +kernel) rfl
theorem wt_733 : Cond.methodLink RX7 68 yX6_likeBy ∈ zTT := zTT_of 733 (by decide +kernel) rfl
theorem wt_734 : Cond.methodLink RX7 72 yX6_formAt ∈ zTT := zTT_of 734 (by decide +kernel) rfl
theorem wt_735 : Cond.methodLink RX7 76 yX2_times ∈ zTT := zTT_of 735 (by decide +kernel) rfl
theorem wt_736 : Cond.methodLink RX7 81 yX0_take ∈ zTT := zTT_of 736 (by decide +kernel) rfl
theorem wt_737 : Cond.instanceMethod yX0_take ∈ zTT := zTT_of 737 (by decide +kernel) rfl
theorem wt_738 : Cond.selects RX0 yX0_take yX0_take ∈ zTT := zTT_of 738 (by decide +kernel) rfl
theorem wt_739 : Cond.code yX0_take cX0_take 4 (some .boolean) ∈ zTT := zTT_of 739 (by decide +kernel) rfl
theorem wt_740 : Cond.methodLink RX0 33 yX0_reduce ∈ zTT := zTT_of 740 (by decide +kernel) rfl
theorem wt_742 : Cond.instanceMethod yX0_reduce ∈ zTT := zTT_of 742 (by decide +kernel) rfl
theorem wt_743 : Cond.code yX0_reduce cX0_reduce 4 none ∈ zTT := zTT_of 743 (by decide +kernel) rfl
theorem wt_744 : Cond.methodLink RX0 66 yX3_at ∈ zTT := zTT_of 744 (by decide +kernel) rfl
theorem wt_745 : Cond.methodLink RX0 43 yX2_numberAt ∈ zTT := zTT_of 745 (by decide +kernel) rfl
theorem wt_746 : Cond.methodLink RX0 49 yX2_times ∈ zTT := zTT_of 746 (by decide +kernel) rfl
theorem wt_747 : Cond.methodLink RX0 63 yX2_less ∈ zTT := zTT_of 747 (by decide +kernel) rfl
theorem wt_748 : Cond.methodLink RX0 69 yX2_sum ∈ zTT := zTT_of 748 (by decide +kernel) rfl
theorem wt_749 : Cond.methodLink RX0 39 yX0_firstPlace ∈ zTT := zTT_of 749 (by decide +kernel) rfl
theorem wt_750 : Cond.static yX0_firstPlace ∈ zTT := zTT_of 750 (by decide +kernel) rfl
theorem wt_751 : Cond.code yX0_firstPlace cX0_firstPlace 2 (some .int) ∈ zTT := zTT_of 751 (by decide +kernel) rfl
theorem wt_752 : Cond.methodLink RX0 52 yX3_put ∈ zTT := zTT_of 752 (by decide +kernel) rfl
theorem wt_753 : Cond.methodLink RX0 56 yX2_with ∈ zTT := zTT_of 753 (by decide +kernel) rfl
theorem wt_754 : Cond.methodLink RX7 58 yX3_put ∈ zTT := zTT_of 754 (by decide +kernel) rfl
theorem wt_755 : Cond.methodLink RX7 85 yX0_isSum ∈ zTT := zTT_of 755 (by decide +kernel) rfl
theorem wt_756 : Cond.instanceMethod yX0_isSum ∈ zTT := zTT_of 756 (by decide +kernel) rfl
theorem wt_757 : Cond.selects RX0 yX0_isSum yX0_isSum ∈ zTT := zTT_of 757 (by decide +kernel) rfl
theorem wt_758 : Cond.code yX0_isSum cX0_isSum 2 (some .boolean) ∈ zTT := zTT_of 758 (by decide +kernel) rfl
theorem wt_759 : Cond.methodLink RX7 48 yX7_share ∈ zTT := zTT_of 759 (by decide +kernel) rfl
theorem wt_761 : Cond.instanceMethod yX7_share ∈ zTT := zTT_of 761 (by decide +kernel) rfl
theorem wt_762 : Cond.code yX7_share cX7_share 7 none ∈ zTT := zTT_of 762 (by decide +kernel) rfl
theorem wt_763 : Cond.methodLink RX7 91 yX2_numberAt ∈ zTT := zTT_of 763 (by decide +kernel) rfl
theorem wt_764 : Cond.methodLink RX7 55 yX3_at ∈ zTT := zTT_of 764 (by decide +kernel) rfl
theorem wt_765 : Cond.methodLink RX7 94 yX2_sum ∈ zTT := zTT_of 765 (by decide +kernel) rfl
theorem wt_766 : Cond.methodLink RX7 97 yX6_setForm ∈ zTT := zTT_of 766 (by decide +kernel) rfl
theorem wt_767 : Cond.methodLink RX7 52 yX6_remove ∈ zTT := zTT_of 767 (by decide +kernel) rfl
theorem wt_768 : Cond.methodLink RX11 236 yX3_at ∈ zTT := zTT_of 768 (by decide +kernel) rfl
theorem wt_769 : Cond.methodLink RL 93 yX11_splits ∈ zTT := zTT_of 769 (by decide +kernel) rfl
theorem wt_770 : Cond.instanceMethod yX11_splits ∈ zTT := zTT_of 770 (by decide +kernel) rfl
theorem wt_771 : Cond.selects RX11 yX11_splits yX11_splits ∈ zTT := zTT_of 771 (by decide +kernel) rfl
theorem wt_772 : Cond.code yX11_splits cX11_splits 6 (some .int) ∈ zTT := zTT_of 772 (by decide +kernel) rfl
theorem wt_773 : Cond.methodLink RX11 239 yX8_readForm ∈ zTT := zTT_of 773 (by decide +kernel) rfl
theorem wt_774 : Cond.instanceMethod yX8_readForm ∈ zTT := zTT_of 774 (by decide +kernel) rfl
theorem wt_775 : Cond.selects RX8 yX8_readForm yX8_readForm ∈ zTT := zTT_of 775 (by decide +kernel) rfl
theorem wt_776 : Cond.code yX8_readForm cX8_readForm 3 (some .int) ∈ zTT := zTT_of 776 (by decide +kernel) rfl
theorem wt_777 : Cond.methodLink RX11 245 yX2_less ∈ zTT := zTT_of 777 (by decide +kernel) rfl
theorem wt_778 : Cond.methodLink RX11 248 yX6_setForm ∈ zTT := zTT_of 778 (by decide +kernel) rfl
theorem wt_779 : Cond.methodLink RL 97 yX11_plus ∈ zTT := zTT_of 779 (by decide +kernel) rfl
theorem wt_780 : Cond.instanceMethod yX11_plus ∈ zTT := zTT_of 780 (by decide +kernel) rfl
theorem wt_781 : Cond.selects RX11 yX11_plus yX11_plus ∈ zTT := zTT_of 781 (by decide +kernel) rfl
theorem wt_782 : Cond.code yX11_plus cX11_plus 6 (some .int) ∈ zTT := zTT_of 782 (by decide +kernel) rfl
theorem wt_783 : Cond.methodLink RX11 251 yX11_behind ∈ zTT := zTT_of 783 (by decide +kernel) rfl
theorem wt_784 : Cond.methodLink RX11 254 yX2_sum ∈ zTT := zTT_of 784 (by decide +kernel) rfl
theorem wt_785 : Cond.methodLink RL 101 yX11_scales ∈ zTT := zTT_of 785 (by decide +kernel) rfl
theorem wt_786 : Cond.instanceMethod yX11_scales ∈ zTT := zTT_of 786 (by decide +kernel) rfl
theorem wt_787 : Cond.selects RX11 yX11_scales yX11_scales ∈ zTT := zTT_of 787 (by decide +kernel) rfl
theorem wt_788 : Cond.code yX11_scales cX11_scales 5 (some .int) ∈ zTT := zTT_of 788 (by decide +kernel) rfl
theorem wt_789 : Cond.methodLink RX11 257 yX11_isFactor ∈ zTT := zTT_of 789 (by decide +kernel) rfl
theorem wt_791 : Cond.instanceMethod yX11_isFactor ∈ zTT := zTT_of 791 (by decide +kernel) rfl
theorem wt_792 : Cond.code yX11_isFactor cX11_isFactor 2 (some .boolean) ∈ zTT := zTT_of 792 (by decide +kernel) rfl
theorem wt_793 : Cond.methodLink RX11 260 yX2_times ∈ zTT := zTT_of 793 (by decide +kernel) rfl
theorem wt_794 : Cond.methodLink RX11 263 yX6_isLike ∈ zTT := zTT_of 794 (by decide +kernel) rfl
theorem wt_795 : Cond.instanceMethod yX6_isLike ∈ zTT := zTT_of 795 (by decide +kernel) rfl
theorem wt_796 : Cond.selects RX6 yX6_isLike yX6_isLike ∈ zTT := zTT_of 796 (by decide +kernel) rfl
theorem wt_797 : Cond.code yX6_isLike cX6_isLike 6 (some .boolean) ∈ zTT := zTT_of 797 (by decide +kernel) rfl
theorem wt_798 : Cond.methodLink RL 105 yX11_narrows ∈ zTT := zTT_of 798 (by decide +kernel) rfl
theorem wt_799 : Cond.instanceMethod yX11_narrows ∈ zTT := zTT_of 799 (by decide +kernel) rfl
theorem wt_800 : Cond.selects RX11 yX11_narrows yX11_narrows ∈ zTT := zTT_of 800 (by decide +kernel) rfl
theorem wt_801 : Cond.code yX11_narrows cX11_narrows 3 (some .int) ∈ zTT := zTT_of 801 (by decide +kernel) rfl
theorem wt_802 : Cond.methodLink RX11 267 yX11_isLine ∈ zTT := zTT_of 802 (by decide +kernel) rfl
theorem wt_804 : Cond.instanceMethod yX11_isLine ∈ zTT := zTT_of 804 (by decide +kernel) rfl
theorem wt_805 : Cond.code yX11_isLine cX11_isLine 3 (some .boolean) ∈ zTT := zTT_of 805 (by decide +kernel) rfl
theorem wt_806 : Cond.methodLink RX11 270 yX6_rows ∈ zTT := zTT_of 806 (by decide +kernel) rfl
theorem wt_807 : Cond.methodLink RX11 273 yX10_narrow ∈ zTT := zTT_of 807 (by decide +kernel) rfl
theorem wt_808 : Cond.static yX10_narrow ∈ zTT := zTT_of 808 (by decide +kernel) rfl
theorem wt_809 : Cond.code yX10_narrow cX10_narrow 6 none ∈ zTT := zTT_of 809 (by decide +kernel) rfl
theorem wt_811 : Cond.static yX11_ahead ∈ zTT := zTT_of 811 (by decide +kernel) rfl
theorem wt_812 : Cond.code yX11_ahead cX11_ahead 1 (some .int) ∈ zTT := zTT_of 812 (by decide +kernel) rfl
theorem wt_813 : Cond.methodLink RX10 15 yX6_formAt ∈ zTT := zTT_of 813 (by decide +kernel) rfl
theorem wt_814 : Cond.methodLink RX10 50 yX6_columns ∈ zTT := zTT_of 814 (by decide +kernel) rfl
theorem wt_815 : Cond.methodLink RX10 69 yX10_withoutRow ∈ zTT := zTT_of 815 (by decide +kernel) rfl
theorem wt_816 : Cond.static yX10_withoutRow ∈ zTT := zTT_of 816 (by decide +kernel) rfl
theorem wt_817 : Cond.code yX10_withoutRow cX10_withoutRow 6 (some .int) ∈ zTT := zTT_of 817 (by decide +kernel) rfl
theorem wt_818 : Cond.methodLink RX10 38 yX2_numberAt ∈ zTT := zTT_of 818 (by decide +kernel) rfl
theorem wt_819 : Cond.methodLink RX10 43 yX2_with ∈ zTT := zTT_of 819 (by decide +kernel) rfl
theorem wt_820 : Cond.methodLink RX10 19 yX6_setForm ∈ zTT := zTT_of 820 (by decide +kernel) rfl
theorem wt_821 : Cond.methodLink RX10 53 yX6_rows ∈ zTT := zTT_of 821 (by decide +kernel) rfl
theorem wt_822 : Cond.methodLink RX10 72 yX10_withoutColumn ∈ zTT := zTT_of 822 (by decide +kernel) rfl
theorem wt_823 : Cond.static yX10_withoutColumn ∈ zTT := zTT_of 823 (by decide +kernel) rfl
theorem wt_824 : Cond.code yX10_withoutColumn cX10_withoutColumn 8 (some .int) ∈ zTT := zTT_of 824 (by decide +kernel) rfl
theorem wt_825 : Cond.methodLink RX10 76 yX10_stretch ∈ zTT := zTT_of 825 (by decide +kernel) rfl
theorem wt_826 : Cond.static yX10_stretch ∈ zTT := zTT_of 826 (by decide +kernel) rfl
theorem wt_827 : Cond.code yX10_stretch cX10_stretch 3 none ∈ zTT := zTT_of 827 (by decide +kernel) rfl
theorem wt_828 : Cond.methodLink RL 109 yX11_widens ∈ zTT := zTT_of 828 (by decide +kernel) rfl
theorem wt_829 : Cond.instanceMethod yX11_widens ∈ zTT := zTT_of 829 (by decide +kernel) rfl
theorem wt_830 : Cond.selects RX11 yX11_widens yX11_widens ∈ zTT := zTT_of 830 (by decide +kernel) rfl
theorem wt_831 : Cond.code yX11_widens cX11_widens 2 (some .int) ∈ zTT := zTT_of 831 (by decide +kernel) rfl
theorem wt_832 : Cond.methodLink RX11 279 yX11_ahead ∈ zTT := zTT_of 832 (by decide +kernel) rfl
theorem wt_833 : Cond.methodLink RX11 282 yX10_widen ∈ zTT := zTT_of 833 (by decide +kernel) rfl
theorem wt_834 : Cond.static yX10_widen ∈ zTT := zTT_of 834 (by decide +kernel) rfl
theorem wt_835 : Cond.code yX10_widen cX10_widen 10 none ∈ zTT := zTT_of 835 (by decide +kernel) rfl
theorem wt_836 : Cond.methodLink RX10 80 yX6_addPlain ∈ zTT := zTT_of 836 (by decide +kernel) rfl
theorem wt_837 : Cond.methodLink RL 113 yX11_walks ∈ zTT := zTT_of 837 (by decide +kernel) rfl
theorem wt_838 : Cond.instanceMethod yX11_walks ∈ zTT := zTT_of 838 (by decide +kernel) rfl
theorem wt_839 : Cond.selects RX11 yX11_walks yX11_walks ∈ zTT := zTT_of 839 (by decide +kernel) rfl
theorem wt_840 : Cond.code yX11_walks cX11_walks 7 (some .int) ∈ zTT := zTT_of 840 (by decide +kernel) rfl
theorem wt_841 : Cond.constant RX11 285 2147483646 ∈ zTT := zTT_of 841 (by decide +kernel) rfl
theorem wt_842 : Cond.constantLong RX11 286 (lN 16807) ∈ zTT := zTT_of 842 (by decide +kernel) rfl
theorem wt_843 : Cond.constantLong RX11 288 (lN 2147483647) ∈ zTT := zTT_of 843 (by decide +kernel) rfl
theorem wt_844 : Cond.methodLink RX11 290 yX4_flipDrawn ∈ zTT := zTT_of 844 (by decide +kernel) rfl
theorem wt_845 : Cond.static yX4_flipDrawn ∈ zTT := zTT_of 845 (by decide +kernel) rfl
theorem wt_846 : Cond.code yX4_flipDrawn cX4_flipDrawn 7 (some .boolean) ∈ zTT := zTT_of 846 (by decide +kernel) rfl
theorem wt_847 : Cond.methodLink RX4 66 yX6_flipsAt ∈ zTT := zTT_of 847 (by decide +kernel) rfl
theorem wt_848 : Cond.methodLink RX4 69 yX4_flipAt ∈ zTT := zTT_of 848 (by decide +kernel) rfl
theorem wt_849 : Cond.static yX4_flipAt ∈ zTT := zTT_of 849 (by decide +kernel) rfl
theorem wt_850 : Cond.code yX4_flipAt cX4_flipAt 6 none ∈ zTT := zTT_of 850 (by decide +kernel) rfl
theorem wt_851 : Cond.methodLink RX4 73 yX6_turnFlip ∈ zTT := zTT_of 851 (by decide +kernel) rfl
theorem wt_852 : Cond.methodLink RL 117 yX11_rolls ∈ zTT := zTT_of 852 (by decide +kernel) rfl
theorem wt_853 : Cond.instanceMethod yX11_rolls ∈ zTT := zTT_of 853 (by decide +kernel) rfl
theorem wt_854 : Cond.selects RX11 yX11_rolls yX11_rolls ∈ zTT := zTT_of 854 (by decide +kernel) rfl
theorem wt_855 : Cond.code yX11_rolls cX11_rolls 1 (some .int) ∈ zTT := zTT_of 855 (by decide +kernel) rfl
theorem wt_856 : Cond.methodLink RX11 294 yX10_roll ∈ zTT := zTT_of 856 (by decide +kernel) rfl
theorem wt_857 : Cond.static yX10_roll ∈ zTT := zTT_of 857 (by decide +kernel) rfl
theorem wt_858 : Cond.code yX10_roll cX10_roll 3 none ∈ zTT := zTT_of 858 (by decide +kernel) rfl
theorem wt_859 : Cond.methodLink RL 121 yX11_mirrors ∈ zTT := zTT_of 859 (by decide +kernel) rfl
theorem wt_860 : Cond.instanceMethod yX11_mirrors ∈ zTT := zTT_of 860 (by decide +kernel) rfl
theorem wt_861 : Cond.selects RX11 yX11_mirrors yX11_mirrors ∈ zTT := zTT_of 861 (by decide +kernel) rfl
theorem wt_862 : Cond.code yX11_mirrors cX11_mirrors 1 (some .int) ∈ zTT := zTT_of 862 (by decide +kernel) rfl
theorem wt_863 : Cond.methodLink RX11 297 yX10_mirror ∈ zTT := zTT_of 863 (by decide +kernel) rfl
theorem wt_864 : Cond.static yX10_mirror ∈ zTT := zTT_of 864 (by decide +kernel) rfl
theorem wt_865 : Cond.code yX10_mirror cX10_mirror 5 none ∈ zTT := zTT_of 865 (by decide +kernel) rfl
theorem wt_866 : Cond.methodLink RX10 32 yX10_transposed ∈ zTT := zTT_of 866 (by decide +kernel) rfl
theorem wt_867 : Cond.static yX10_transposed ∈ zTT := zTT_of 867 (by decide +kernel) rfl
theorem wt_868 : Cond.code yX10_transposed cX10_transposed 6 (some .int) ∈ zTT := zTT_of 868 (by decide +kernel) rfl
theorem wt_869 : Cond.methodLink RL 125 yX11_shears ∈ zTT := zTT_of 869 (by decide +kernel) rfl
theorem wt_870 : Cond.instanceMethod yX11_shears ∈ zTT := zTT_of 870 (by decide +kernel) rfl
theorem wt_871 : Cond.selects RX11 yX11_shears yX11_shears ∈ zTT := zTT_of 871 (by decide +kernel) rfl
theorem wt_872 : Cond.code yX11_shears cX11_shears 5 (some .int) ∈ zTT := zTT_of 872 (by decide +kernel) rfl
theorem wt_873 : Cond.methodLink RX11 300 yX10_shear ∈ zTT := zTT_of 873 (by decide +kernel) rfl
theorem wt_874 : Cond.static yX10_shear ∈ zTT := zTT_of 874 (by decide +kernel) rfl
theorem wt_875 : Cond.code yX10_shear cX10_shear 13 none ∈ zTT := zTT_of 875 (by decide +kernel) rfl
theorem wt_876 : Cond.methodLink RX10 59 yX10_addTimes ∈ zTT := zTT_of 876 (by decide +kernel) rfl
theorem wt_877 : Cond.static yX10_addTimes ∈ zTT := zTT_of 877 (by decide +kernel) rfl
theorem wt_878 : Cond.code yX10_addTimes cX10_addTimes 6 (some .int) ∈ zTT := zTT_of 878 (by decide +kernel) rfl
theorem wt_879 : Cond.methodLink RX10 63 yX2_mod ∈ zTT := zTT_of 879 (by decide +kernel) rfl
theorem wt_880 : Cond.methodLink RX11 304 yX6_othersThan ∈ zTT := zTT_of 880 (by decide +kernel) rfl
theorem wt_881 : Cond.instanceMethod yX6_othersThan ∈ zTT := zTT_of 881 (by decide +kernel) rfl
theorem wt_882 : Cond.selects RX6 yX6_othersThan yX6_othersThan ∈ zTT := zTT_of 882 (by decide +kernel) rfl
theorem wt_883 : Cond.code yX6_othersThan cX6_othersThan 4 (some .int) ∈ zTT := zTT_of 883 (by decide +kernel) rfl
theorem wt_884 : Cond.methodLink RL 129 yX11_swaps ∈ zTT := zTT_of 884 (by decide +kernel) rfl
theorem wt_885 : Cond.instanceMethod yX11_swaps ∈ zTT := zTT_of 885 (by decide +kernel) rfl
theorem wt_886 : Cond.selects RX11 yX11_swaps yX11_swaps ∈ zTT := zTT_of 886 (by decide +kernel) rfl
theorem wt_887 : Cond.code yX11_swaps cX11_swaps 4 (some .int) ∈ zTT := zTT_of 887 (by decide +kernel) rfl
theorem wt_888 : Cond.methodLink RX11 307 yX10_swap ∈ zTT := zTT_of 888 (by decide +kernel) rfl
theorem wt_889 : Cond.static yX10_swap ∈ zTT := zTT_of 889 (by decide +kernel) rfl
theorem wt_890 : Cond.code yX10_swap cX10_swap 12 none ∈ zTT := zTT_of 890 (by decide +kernel) rfl
theorem wt_891 : Cond.methodLink RX10 66 yX10_exchanged ∈ zTT := zTT_of 891 (by decide +kernel) rfl
theorem wt_892 : Cond.static yX10_exchanged ∈ zTT := zTT_of 892 (by decide +kernel) rfl
theorem wt_893 : Cond.code yX10_exchanged cX10_exchanged 5 (some .int) ∈ zTT := zTT_of 893 (by decide +kernel) rfl
theorem wt_894 : Cond.methodLink RL 133 yX11_uses ∈ zTT := zTT_of 894 (by decide +kernel) rfl
theorem wt_895 : Cond.instanceMethod yX11_uses ∈ zTT := zTT_of 895 (by decide +kernel) rfl
theorem wt_896 : Cond.selects RX11 yX11_uses yX11_uses ∈ zTT := zTT_of 896 (by decide +kernel) rfl
theorem wt_897 : Cond.code yX11_uses cX11_uses 6 (some .int) ∈ zTT := zTT_of 897 (by decide +kernel) rfl
theorem wt_898 : Cond.methodLink RX11 311 yX6_unused ∈ zTT := zTT_of 898 (by decide +kernel) rfl
theorem wt_899 : Cond.instanceMethod yX6_unused ∈ zTT := zTT_of 899 (by decide +kernel) rfl
theorem wt_900 : Cond.selects RX6 yX6_unused yX6_unused ∈ zTT := zTT_of 900 (by decide +kernel) rfl
theorem wt_901 : Cond.code yX6_unused cX6_unused 4 (some .int) ∈ zTT := zTT_of 901 (by decide +kernel) rfl
theorem wt_902 : Cond.methodLink RX6 120 yX2_placesOf ∈ zTT := zTT_of 902 (by decide +kernel) rfl
theorem wt_903 : Cond.static yX2_placesOf ∈ zTT := zTT_of 903 (by decide +kernel) rfl
theorem wt_904 : Cond.code yX2_placesOf cX2_placesOf 1 (some .int) ∈ zTT := zTT_of 904 (by decide +kernel) rfl
theorem wt_905 : Cond.methodLink RX6 115 yJ6_bitCount_0f7a4 ∈ zTT := zTT_of 905 (by decide +kernel) rfl
theorem wt_906 : Cond.methodLink RL 137 yX11_round ∈ zTT := zTT_of 906 (by decide +kernel) rfl
theorem wt_907 : Cond.instanceMethod yX11_round ∈ zTT := zTT_of 907 (by decide +kernel) rfl
theorem wt_908 : Cond.selects RX11 yX11_round yX11_round ∈ zTT := zTT_of 908 (by decide +kernel) rfl
theorem wt_909 : Cond.code yX11_round cX11_round 1 (some .int) ∈ zTT := zTT_of 909 (by decide +kernel) rfl
theorem wt_910 : Cond.methodLink RX11 323 yX11_asSpare ∈ zTT := zTT_of 910 (by decide +kernel) rfl
theorem wt_912 : Cond.instanceMethod yX11_asSpare ∈ zTT := zTT_of 912 (by decide +kernel) rfl
theorem wt_913 : Cond.code yX11_asSpare cX11_asSpare 3 (some .int) ∈ zTT := zTT_of 913 (by decide +kernel) rfl
theorem wt_914 : Cond.methodLink RX11 349 yX6_matches ∈ zTT := zTT_of 914 (by decide +kernel) rfl
theorem wt_915 : Cond.instanceMethod yX6_matches ∈ zTT := zTT_of 915 (by decide +kernel) rfl
theorem wt_916 : Cond.selects RX6 yX6_matches yX6_matches ∈ zTT := zTT_of 916 (by decide +kernel) rfl
theorem wt_917 : Cond.code yX6_matches cX6_matches 6 (some .int) ∈ zTT := zTT_of 917 (by decide +kernel) rfl
theorem wt_919 : Cond.static yX11_bit ∈ zTT := zTT_of 919 (by decide +kernel) rfl
theorem wt_920 : Cond.code yX11_bit cX11_bit 1 (some .long) ∈ zTT := zTT_of 920 (by decide +kernel) rfl
theorem wt_921 : Cond.methodLink RX6 130 yX6_isLike ∈ zTT := zTT_of 921 (by decide +kernel) rfl
theorem wt_922 : Cond.methodLink RX6 134 yJ13_bitCount_95d88 ∈ zTT := zTT_of 922 (by decide +kernel) rfl
theorem wt_923 : Cond.static yJ13_bitCount_95d88 ∈ zTT := zTT_of 923 (by decide +kernel) rfl
theorem wt_924 : Cond.code yJ13_bitCount_95d88 cJ13_bitCount_95d88 2 (some .int) ∈ zTT := zTT_of 924 (by decide +kernel) rfl
theorem wt_925 : Cond.constantLong RJ13 314 (lN 6148914691236517205) ∈ zTT := zTT_of 925 (by decide +kernel) rfl
theorem wt_926 : Cond.constantLong RJ13 316 (lN 3689348814741910323) ∈ zTT := zTT_of 926 (by decide +kernel) rfl
theorem wt_927 : Cond.constantLong RJ13 318 (lN 1085102592571150095) ∈ zTT := zTT_of 927 (by decide +kernel) rfl
theorem wt_928 : Cond.methodLink RL 141 yX11_mirrored ∈ zTT := zTT_of 928 (by decide +kernel) rfl
theorem wt_929 : Cond.instanceMethod yX11_mirrored ∈ zTT := zTT_of 929 (by decide +kernel) rfl
theorem wt_930 : Cond.selects RX11 yX11_mirrored yX11_mirrored ∈ zTT := zTT_of 930 (by decide +kernel) rfl
theorem wt_931 : Cond.code yX11_mirrored cX11_mirrored 1 (some .int) ∈ zTT := zTT_of 931 (by decide +kernel) rfl
theorem wt_932 : Cond.methodLink RL 145 yX11_groups ∈ zTT := zTT_of 932 (by decide +kernel) rfl
theorem wt_933 : Cond.instanceMethod yX11_groups ∈ zTT := zTT_of 933 (by decide +kernel) rfl
theorem wt_934 : Cond.selects RX11 yX11_groups yX11_groups ∈ zTT := zTT_of 934 (by decide +kernel) rfl
theorem wt_935 : Cond.code yX11_groups cX11_groups 9 (some .int) ∈ zTT := zTT_of 935 (by decide +kernel) rfl
theorem wt_936 : Cond.methodLink RX11 326 yX6_groupOf ∈ zTT := zTT_of 936 (by decide +kernel) rfl
theorem wt_937 : Cond.instanceMethod yX6_groupOf ∈ zTT := zTT_of 937 (by decide +kernel) rfl
theorem wt_938 : Cond.selects RX6 yX6_groupOf yX6_groupOf ∈ zTT := zTT_of 938 (by decide +kernel) rfl
theorem wt_939 : Cond.code yX6_groupOf cX6_groupOf 6 (some .long) ∈ zTT := zTT_of 939 (by decide +kernel) rfl
theorem wt_940 : Cond.methodLink RX11 330 yX11_bit ∈ zTT := zTT_of 940 (by decide +kernel) rfl
theorem wt_941 : Cond.methodLink RX11 334 yJ13_bitCount_95d88 ∈ zTT := zTT_of 941 (by decide +kernel) rfl
theorem wt_942 : Cond.methodLink RL 149 yX11_spans ∈ zTT := zTT_of 942 (by decide +kernel) rfl
theorem wt_943 : Cond.instanceMethod yX11_spans ∈ zTT := zTT_of 943 (by decide +kernel) rfl
theorem wt_944 : Cond.selects RX11 yX11_spans yX11_spans ∈ zTT := zTT_of 944 (by decide +kernel) rfl
theorem wt_945 : Cond.code yX11_spans cX11_spans 5 (some .int) ∈ zTT := zTT_of 945 (by decide +kernel) rfl
theorem wt_946 : Cond.methodLink RX11 339 yX0_start ∈ zTT := zTT_of 946 (by decide +kernel) rfl
theorem wt_947 : Cond.methodLink RX11 342 yX0_take ∈ zTT := zTT_of 947 (by decide +kernel) rfl
theorem wt_948 : Cond.methodLink RL 153 yX11_keeps ∈ zTT := zTT_of 948 (by decide +kernel) rfl
theorem wt_949 : Cond.instanceMethod yX11_keeps ∈ zTT := zTT_of 949 (by decide +kernel) rfl
theorem wt_950 : Cond.selects RX11 yX11_keeps yX11_keeps ∈ zTT := zTT_of 950 (by decide +kernel) rfl
theorem wt_951 : Cond.code yX11_keeps cX11_keeps 1 (some .int) ∈ zTT := zTT_of 951 (by decide +kernel) rfl
theorem wt_952 : Cond.methodLink RL 157 yX11_others ∈ zTT := zTT_of 952 (by decide +kernel) rfl
theorem wt_953 : Cond.instanceMethod yX11_others ∈ zTT := zTT_of 953 (by decide +kernel) rfl
theorem wt_954 : Cond.selects RX11 yX11_others yX11_others ∈ zTT := zTT_of 954 (by decide +kernel) rfl
theorem wt_955 : Cond.code yX11_others cX11_others 2 (some .int) ∈ zTT := zTT_of 955 (by decide +kernel) rfl
theorem wt_956 : Cond.methodLink RX11 346 yX6_hasShapeOf ∈ zTT := zTT_of 956 (by decide +kernel) rfl
theorem wt_957 : Cond.instanceMethod yX6_hasShapeOf ∈ zTT := zTT_of 957 (by decide +kernel) rfl
theorem wt_958 : Cond.selects RX6 yX6_hasShapeOf yX6_hasShapeOf ∈ zTT := zTT_of 958 (by decide +kernel) rfl
theorem wt_959 : Cond.code yX6_hasShapeOf cX6_hasShapeOf 2 (some .boolean) ∈ zTT := zTT_of 959 (by decide +kernel) rfl
theorem wt_960 : Cond.methodLink RL 161 yX11_unlikes ∈ zTT := zTT_of 960 (by decide +kernel) rfl
theorem wt_961 : Cond.instanceMethod yX11_unlikes ∈ zTT := zTT_of 961 (by decide +kernel) rfl
theorem wt_962 : Cond.selects RX11 yX11_unlikes yX11_unlikes ∈ zTT := zTT_of 962 (by decide +kernel) rfl
theorem wt_963 : Cond.code yX11_unlikes cX11_unlikes 5 (some .int) ∈ zTT := zTT_of 963 (by decide +kernel) rfl
theorem wt_964 : Cond.methodLink RL 165 yX11_back ∈ zTT := zTT_of 964 (by decide +kernel) rfl
theorem wt_965 : Cond.instanceMethod yX11_back ∈ zTT := zTT_of 965 (by decide +kernel) rfl
theorem wt_966 : Cond.selects RX11 yX11_back yX11_back ∈ zTT := zTT_of 966 (by decide +kernel) rfl
theorem wt_967 : Cond.code yX11_back cX11_back 1 (some .int) ∈ zTT := zTT_of 967 (by decide +kernel) rfl
theorem wt_968 : Cond.methodLink RL 169 yX11_lifts ∈ zTT := zTT_of 968 (by decide +kernel) rfl
theorem wt_969 : Cond.instanceMethod yX11_lifts ∈ zTT := zTT_of 969 (by decide +kernel) rfl
theorem wt_970 : Cond.selects RX11 yX11_lifts yX11_lifts ∈ zTT := zTT_of 970 (by decide +kernel) rfl
theorem wt_971 : Cond.code yX11_lifts cX11_lifts 2 (some .int) ∈ zTT := zTT_of 971 (by decide +kernel) rfl
theorem wt_972 : Cond.methodLink RX11 352 yX6_isRight ∈ zTT := zTT_of 972 (by decide +kernel) rfl
theorem wt_973 : Cond.instanceMethod yX6_isRight ∈ zTT := zTT_of 973 (by decide +kernel) rfl
theorem wt_974 : Cond.selects RX6 yX6_isRight yX6_isRight ∈ zTT := zTT_of 974 (by decide +kernel) rfl
theorem wt_975 : Cond.code yX6_isRight cX6_isRight 4 (some .boolean) ∈ zTT := zTT_of 975 (by decide +kernel) rfl
theorem wt_976 : Cond.methodLink RX6 106 yX6_givenAt ∈ zTT := zTT_of 976 (by decide +kernel) rfl
theorem wt_977 : Cond.methodLink RX6 109 yX6_neededAt ∈ zTT := zTT_of 977 (by decide +kernel) rfl
theorem wt_978 : Cond.methodLink RX11 355 yX5_solve ∈ zTT := zTT_of 978 (by decide +kernel) rfl
theorem wt_979 : Cond.instanceMethod yX5_solve ∈ zTT := zTT_of 979 (by decide +kernel) rfl
theorem wt_980 : Cond.selects RX5 yX5_solve yX5_solve ∈ zTT := zTT_of 980 (by decide +kernel) rfl
theorem wt_981 : Cond.code yX5_solve cX5_solve 5 (some .boolean) ∈ zTT := zTT_of 981 (by decide +kernel) rfl
theorem wt_982 : Cond.methodLink RX5 30 yX5_start ∈ zTT := zTT_of 982 (by decide +kernel) rfl
theorem wt_984 : Cond.instanceMethod yX5_start ∈ zTT := zTT_of 984 (by decide +kernel) rfl
theorem wt_985 : Cond.code yX5_start cX5_start 2 none ∈ zTT := zTT_of 985 (by decide +kernel) rfl
theorem wt_986 : Cond.methodLink RX5 40 yX6_places ∈ zTT := zTT_of 986 (by decide +kernel) rfl
theorem wt_987 : Cond.methodLink RX5 64 yX3_put ∈ zTT := zTT_of 987 (by decide +kernel) rfl
theorem wt_988 : Cond.methodLink RX5 68 yX3_clear ∈ zTT := zTT_of 988 (by decide +kernel) rfl
theorem wt_989 : Cond.methodLink RX5 44 yX5_setUnknown ∈ zTT := zTT_of 989 (by decide +kernel) rfl
theorem wt_991 : Cond.instanceMethod yX5_setUnknown ∈ zTT := zTT_of 991 (by decide +kernel) rfl
theorem wt_992 : Cond.code yX5_setUnknown cX5_setUnknown 9 none ∈ zTT := zTT_of 992 (by decide +kernel) rfl
theorem wt_993 : Cond.methodLink RX5 75 yX5_clearColumn ∈ zTT := zTT_of 993 (by decide +kernel) rfl
theorem wt_995 : Cond.instanceMethod yX5_clearColumn ∈ zTT := zTT_of 995 (by decide +kernel) rfl
theorem wt_996 : Cond.code yX5_clearColumn cX5_clearColumn 2 none ∈ zTT := zTT_of 996 (by decide +kernel) rfl
theorem wt_998 : Cond.methodLink RX5 81 yX6_formAt ∈ zTT := zTT_of 998 (by decide +kernel) rfl
theorem wt_999 : Cond.methodLink RX5 85 yX2_numberAt ∈ zTT := zTT_of 999 (by decide +kernel) rfl
theorem wt_1000 : Cond.methodLink RX5 90 yX3_at ∈ zTT := zTT_of 1000 (by decide +kernel) rfl
theorem wt_1001 : Cond.methodLink RX5 93 yX5_setBit ∈ zTT := zTT_of 1001 (by decide +kernel) rfl
theorem wt_1003 : Cond.instanceMethod yX5_setBit ∈ zTT := zTT_of 1003 (by decide +kernel) rfl
theorem wt_1004 : Cond.code yX5_setBit cX5_setBit 3 none ∈ zTT := zTT_of 1004 (by decide +kernel) rfl
theorem wt_1006 : Cond.methodLink RX5 48 yX5_takeColumn ∈ zTT := zTT_of 1006 (by decide +kernel) rfl
theorem wt_1008 : Cond.instanceMethod yX5_takeColumn ∈ zTT := zTT_of 1008 (by decide +kernel) rfl
theorem wt_1009 : Cond.code yX5_takeColumn cX5_takeColumn 4 none ∈ zTT := zTT_of 1009 (by decide +kernel) rfl
theorem wt_1010 : Cond.methodLink RX5 54 yX5_reduce ∈ zTT := zTT_of 1010 (by decide +kernel) rfl
theorem wt_1012 : Cond.instanceMethod yX5_reduce ∈ zTT := zTT_of 1012 (by decide +kernel) rfl
theorem wt_1013 : Cond.code yX5_reduce cX5_reduce 2 (some .int) ∈ zTT := zTT_of 1013 (by decide +kernel) rfl
theorem wt_1014 : Cond.methodLink RX5 103 yX5_hasBit ∈ zTT := zTT_of 1014 (by decide +kernel) rfl
theorem wt_1016 : Cond.instanceMethod yX5_hasBit ∈ zTT := zTT_of 1016 (by decide +kernel) rfl
theorem wt_1017 : Cond.code yX5_hasBit cX5_hasBit 3 (some .boolean) ∈ zTT := zTT_of 1017 (by decide +kernel) rfl
theorem wt_1018 : Cond.methodLink RX5 107 yX5_lessPivot ∈ zTT := zTT_of 1018 (by decide +kernel) rfl
theorem wt_1020 : Cond.instanceMethod yX5_lessPivot ∈ zTT := zTT_of 1020 (by decide +kernel) rfl
theorem wt_1021 : Cond.code yX5_lessPivot cX5_lessPivot 4 none ∈ zTT := zTT_of 1021 (by decide +kernel) rfl
theorem wt_1022 : Cond.methodLink RX5 51 yX5_setRightSides ∈ zTT := zTT_of 1022 (by decide +kernel) rfl
theorem wt_1024 : Cond.instanceMethod yX5_setRightSides ∈ zTT := zTT_of 1024 (by decide +kernel) rfl
theorem wt_1025 : Cond.code yX5_setRightSides cX5_setRightSides 6 none ∈ zTT := zTT_of 1025 (by decide +kernel) rfl
theorem wt_1026 : Cond.methodLink RX5 96 yX6_neededAt ∈ zTT := zTT_of 1026 (by decide +kernel) rfl
theorem wt_1027 : Cond.methodLink RX5 100 yX6_meetAt ∈ zTT := zTT_of 1027 (by decide +kernel) rfl
theorem wt_1028 : Cond.methodLink RL 173 yX11_count ∈ zTT := zTT_of 1028 (by decide +kernel) rfl
theorem wt_1029 : Cond.instanceMethod yX11_count ∈ zTT := zTT_of 1029 (by decide +kernel) rfl
theorem wt_1030 : Cond.selects RX11 yX11_count yX11_count ∈ zTT := zTT_of 1030 (by decide +kernel) rfl
theorem wt_1031 : Cond.code yX11_count cX11_count 2 (some .int) ∈ zTT := zTT_of 1031 (by decide +kernel) rfl
theorem wt_1032 : Cond.methodLink RX11 362 yX6_notZero ∈ zTT := zTT_of 1032 (by decide +kernel) rfl
theorem wt_1033 : Cond.instanceMethod yX6_notZero ∈ zTT := zTT_of 1033 (by decide +kernel) rfl
theorem wt_1034 : Cond.selects RX6 yX6_notZero yX6_notZero ∈ zTT := zTT_of 1034 (by decide +kernel) rfl
theorem wt_1035 : Cond.code yX6_notZero cX6_notZero 3 (some .int) ∈ zTT := zTT_of 1035 (by decide +kernel) rfl
theorem wt_1036 : Cond.methodLink RX11 365 yX6_unlikeForms ∈ zTT := zTT_of 1036 (by decide +kernel) rfl
theorem wt_1037 : Cond.instanceMethod yX6_unlikeForms ∈ zTT := zTT_of 1037 (by decide +kernel) rfl
theorem wt_1038 : Cond.selects RX6 yX6_unlikeForms yX6_unlikeForms ∈ zTT := zTT_of 1038 (by decide +kernel) rfl
theorem wt_1039 : Cond.code yX6_unlikeForms cX6_unlikeForms 6 (some .int) ∈ zTT := zTT_of 1039 (by decide +kernel) rfl
theorem wt_1040 : Cond.methodLink RX6 140 yX6_groupOf ∈ zTT := zTT_of 1040 (by decide +kernel) rfl
theorem wt_1041 : Cond.methodLink RX11 368 yX6_singles ∈ zTT := zTT_of 1041 (by decide +kernel) rfl
theorem wt_1042 : Cond.instanceMethod yX6_singles ∈ zTT := zTT_of 1042 (by decide +kernel) rfl
theorem wt_1043 : Cond.selects RX6 yX6_singles yX6_singles ∈ zTT := zTT_of 1043 (by decide +kernel) rfl
theorem wt_1044 : Cond.code yX6_singles cX6_singles 3 (some .int) ∈ zTT := zTT_of 1044 (by decide +kernel) rfl
theorem wt_1045 : Cond.methodLink RL 177 yL_row ∈ zTT := zTT_of 1045 (by decide +kernel) rfl
theorem wt_1046 : Cond.static yL_row ∈ zTT := zTT_of 1046 (by decide +kernel) rfl
theorem wt_1049 : Cond.methodLink RL 7 yX11_row ∈ zTT := zTT_of 1049 (by decide +kernel) rfl
theorem wt_1050 : Cond.instanceMethod yX11_row ∈ zTT := zTT_of 1050 (by decide +kernel) rfl
theorem wt_1051 : Cond.selects RX11 yX11_row yX11_row ∈ zTT := zTT_of 1051 (by decide +kernel) rfl
theorem wt_1052 : Cond.code yX11_row cX11_row 2 (some .long) ∈ zTT := zTT_of 1052 (by decide +kernel) rfl
theorem wt_1114 : Cond.methodLink RX11 374 yX9_at ∈ zTT := zTT_of 1114 (by decide +kernel) rfl
theorem wt_1115 : Cond.instanceMethod yX9_at ∈ zTT := zTT_of 1115 (by decide +kernel) rfl
theorem wt_1116 : Cond.selects RX9 yX9_at yX9_at ∈ zTT := zTT_of 1116 (by decide +kernel) rfl
theorem wt_1117 : Cond.code yX9_at cX9_at 2 (some .long) ∈ zTT := zTT_of 1117 (by decide +kernel) rfl
theorem wt_1118 : Cond.classLink RL 16 RX12 ∈ zTT := zTT_of 1118 (by decide +kernel) rfl
theorem wt_1119 : Cond.instantiable RX12 33 ∈ zTT := zTT_of 1119 (by decide +kernel) rfl
theorem wt_1120 : Cond.methodLink RL 18 yX12_init ∈ zTT := zTT_of 1120 (by decide +kernel) rfl
theorem wt_1121 : Cond.instanceMethod yX12_init ∈ zTT := zTT_of 1121 (by decide +kernel) rfl
theorem wt_1122 : Cond.code yX12_init cX12_init 1 none ∈ zTT := zTT_of 1122 (by decide +kernel) rfl
theorem wt_1123 : Cond.methodLink RX12 1 objectInit ∈ zTT := zTT_of 1123 (by decide +kernel) rfl
theorem wt_1124 : Cond.methodLink RX12 68 yX12_laysPlain ∈ zTT := zTT_of 1124 (by decide +kernel) rfl
theorem wt_1126 : Cond.instanceMethod yX12_laysPlain ∈ zTT := zTT_of 1126 (by decide +kernel) rfl
theorem wt_1127 : Cond.code yX12_laysPlain cX12_laysPlain 4 none ∈ zTT := zTT_of 1127 (by decide +kernel) rfl
theorem wt_1128 : Cond.methodLink RX12 99 yX12_addsPlain ∈ zTT := zTT_of 1128 (by decide +kernel) rfl
theorem wt_1130 : Cond.instanceMethod yX12_addsPlain ∈ zTT := zTT_of 1130 (by decide +kernel) rfl
theorem wt_1131 : Cond.code yX12_addsPlain cX12_addsPlain 4 none ∈ zTT := zTT_of 1131 (by decide +kernel) rfl
theorem wt_1132 : Cond.methodLink RX12 103 yX12_clears ∈ zTT := zTT_of 1132 (by decide +kernel) rfl
theorem wt_1134 : Cond.instanceMethod yX12_clears ∈ zTT := zTT_of 1134 (by decide +kernel) rfl
theorem wt_1135 : Cond.code yX12_clears cX12_clears 3 none ∈ zTT := zTT_of 1135 (by decide +kernel) rfl
theorem wt_1136 : Cond.methodLink RX12 107 yX12_at ∈ zTT := zTT_of 1136 (by decide +kernel) rfl
theorem wt_1137 : Cond.static yX12_at ∈ zTT := zTT_of 1137 (by decide +kernel) rfl
theorem wt_1138 : Cond.code yX12_at cX12_at 3 (some .int) ∈ zTT := zTT_of 1138 (by decide +kernel) rfl
theorem wt_1139 : Cond.fieldLink RX12 7 "FewProductsModel" "sides" "[I" ∈ zTT := zTT_of 1139 (by decide +kernel) rfl
theorem wt_1140 : Cond.fieldLink RX12 65 "FewProductsModel" "q" "I" ∈ zTT := zTT_of 1140 (by decide +kernel) rfl
theorem wt_1141 : Cond.fieldLink RX12 91 "FewProductsModel" "many" "I" ∈ zTT := zTT_of 1141 (by decide +kernel) rfl
theorem wt_1142 : Cond.fieldLink RX12 13 "FewProductsModel" "numbers" "[I" ∈ zTT := zTT_of 1142 (by decide +kernel) rfl
theorem wt_1143 : Cond.fieldLink RX12 16 "FewProductsModel" "keptMany" "I" ∈ zTT := zTT_of 1143 (by decide +kernel) rfl
theorem wt_1144 : Cond.fieldLink RX12 20 "FewProductsModel" "keptSides" "[I" ∈ zTT := zTT_of 1144 (by decide +kernel) rfl
theorem wt_1145 : Cond.fieldLink RX12 23 "FewProductsModel" "kept" "[I" ∈ zTT := zTT_of 1145 (by decide +kernel) rfl
theorem wt_1146 : Cond.fieldLink RX12 26 "FewProductsModel" "text" "[B" ∈ zTT := zTT_of 1146 (by decide +kernel) rfl
theorem wt_1147 : Cond.fieldLink RX12 77 "FewProductsModel" "typed" "I" ∈ zTT := zTT_of 1147 (by decide +kernel) rfl
theorem wt_1148 : Cond.fieldLink RX12 30 "FewProductsModel" "row" "[J" ∈ zTT := zTT_of 1148 (by decide +kernel) rfl
theorem wt_1149 : Cond.fieldLink RX12 74 "FewProductsModel" "rowMany" "I" ∈ zTT := zTT_of 1149 (by decide +kernel) rfl
theorem wt_1150 : Cond.fieldLink RX12 71 "FewProductsModel" "thrown" "I" ∈ zTT := zTT_of 1150 (by decide +kernel) rfl
theorem wt_1151 : Cond.fieldLink RX12 113 "FewProductsModel" "length" "I" ∈ zTT := zTT_of 1151 (by decide +kernel) rfl
theorem wt_1152 : Cond.fieldLink RX12 116 "FewProductsModel" "here" "I" ∈ zTT := zTT_of 1152 (by decide +kernel) rfl
theorem wt_1153 : Cond.fieldLink RX12 119 "FewProductsModel" "wrong" "I" ∈ zTT := zTT_of 1153 (by decide +kernel) rfl
theorem wt_1154 : Cond.fieldLink RX12 34 "FewProductsModel" "readNumbers" "[I" ∈ zTT := zTT_of 1154 (by decide +kernel) rfl
theorem wt_1155 : Cond.fieldLink RX12 144 "FewProductsModel" "readMany" "I" ∈ zTT := zTT_of 1155 (by decide +kernel) rfl
theorem wt_1156 : Cond.fieldLink RX12 177 "FewProductsModel" "wrongMany" "I" ∈ zTT := zTT_of 1156 (by decide +kernel) rfl
theorem wt_1157 : Cond.fieldLink RX12 180 "FewProductsModel" "firstWrong" "I" ∈ zTT := zTT_of 1157 (by decide +kernel) rfl
theorem wt_1158 : Cond.fieldLink RX12 37 "FewProductsModel" "tables" "[I" ∈ zTT := zTT_of 1158 (by decide +kernel) rfl
theorem wt_1159 : Cond.fieldLink RX12 235 "FewProductsModel" "joinedZero" "I" ∈ zTT := zTT_of 1159 (by decide +kernel) rfl
theorem wt_1160 : Cond.fieldLink RX12 238 "FewProductsModel" "joinedTwo" "I" ∈ zTT := zTT_of 1160 (by decide +kernel) rfl
theorem wt_1161 : Cond.fieldLink RX12 40 "FewProductsModel" "taken" "[I" ∈ zTT := zTT_of 1161 (by decide +kernel) rfl
theorem wt_1162 : Cond.fieldLink RX12 43 "FewProductsModel" "takenOf" "[I" ∈ zTT := zTT_of 1162 (by decide +kernel) rfl
theorem wt_1163 : Cond.fieldLink RX12 251 "FewProductsModel" "takenMany" "I" ∈ zTT := zTT_of 1163 (by decide +kernel) rfl
theorem wt_1164 : Cond.fieldLink RX12 46 "FewProductsModel" "shed" "[I" ∈ zTT := zTT_of 1164 (by decide +kernel) rfl
theorem wt_1165 : Cond.fieldLink RX12 49 "FewProductsModel" "beside" "[I" ∈ zTT := zTT_of 1165 (by decide +kernel) rfl
theorem wt_1166 : Cond.fieldLink RX12 52 "FewProductsModel" "isTaken" "[Z" ∈ zTT := zTT_of 1166 (by decide +kernel) rfl
theorem wt_1167 : Cond.fieldLink RX12 56 "FewProductsModel" "free" "[I" ∈ zTT := zTT_of 1167 (by decide +kernel) rfl
theorem wt_1168 : Cond.fieldLink RX12 333 "FewProductsModel" "freeMany" "I" ∈ zTT := zTT_of 1168 (by decide +kernel) rfl
theorem wt_1169 : Cond.fieldLink RX12 59 "FewProductsModel" "equations" "[J" ∈ zTT := zTT_of 1169 (by decide +kernel) rfl
theorem wt_1170 : Cond.fieldLink RX12 62 "FewProductsModel" "leads" "[I" ∈ zTT := zTT_of 1170 (by decide +kernel) rfl
theorem wt_1171 : Cond.fieldLink RX12 348 "FewProductsModel" "rank" "I" ∈ zTT := zTT_of 1171 (by decide +kernel) rfl
theorem wt_1241 : Cond.methodLink RL 183 yX12_thrown ∈ zTT := zTT_of 1241 (by decide +kernel) rfl
theorem wt_1242 : Cond.instanceMethod yX12_thrown ∈ zTT := zTT_of 1242 (by decide +kernel) rfl
theorem wt_1243 : Cond.selects RX12 yX12_thrown yX12_thrown ∈ zTT := zTT_of 1243 (by decide +kernel) rfl
theorem wt_1244 : Cond.code yX12_thrown cX12_thrown 1 (some .int) ∈ zTT := zTT_of 1244 (by decide +kernel) rfl
theorem wt_1245 : Cond.methodLink RL 28 yX12_sign ∈ zTT := zTT_of 1245 (by decide +kernel) rfl
theorem wt_1246 : Cond.instanceMethod yX12_sign ∈ zTT := zTT_of 1246 (by decide +kernel) rfl
theorem wt_1247 : Cond.selects RX12 yX12_sign yX12_sign ∈ zTT := zTT_of 1247 (by decide +kernel) rfl
theorem wt_1248 : Cond.code yX12_sign cX12_sign 3 (some .int) ∈ zTT := zTT_of 1248 (by decide +kernel) rfl
theorem wt_1249 : Cond.methodLink RL 33 yX12_end ∈ zTT := zTT_of 1249 (by decide +kernel) rfl
theorem wt_1250 : Cond.instanceMethod yX12_end ∈ zTT := zTT_of 1250 (by decide +kernel) rfl
theorem wt_1251 : Cond.selects RX12 yX12_end yX12_end ∈ zTT := zTT_of 1251 (by decide +kernel) rfl
theorem wt_1252 : Cond.code yX12_end cX12_end 2 (some .boolean) ∈ zTT := zTT_of 1252 (by decide +kernel) rfl
theorem wt_1253 : Cond.methodLink RX12 80 yX12_in ∈ zTT := zTT_of 1253 (by decide +kernel) rfl
theorem wt_1254 : Cond.static yX12_in ∈ zTT := zTT_of 1254 (by decide +kernel) rfl
theorem wt_1255 : Cond.code yX12_in cX12_in 6 (some .boolean) ∈ zTT := zTT_of 1255 (by decide +kernel) rfl
theorem wt_1256 : Cond.methodLink RL 23 yX12_format ∈ zTT := zTT_of 1256 (by decide +kernel) rfl
theorem wt_1257 : Cond.instanceMethod yX12_format ∈ zTT := zTT_of 1257 (by decide +kernel) rfl
theorem wt_1258 : Cond.selects RX12 yX12_format yX12_format ∈ zTT := zTT_of 1258 (by decide +kernel) rfl
theorem wt_1259 : Cond.code yX12_format cX12_format 5 (some .int) ∈ zTT := zTT_of 1259 (by decide +kernel) rfl
theorem wt_1260 : Cond.constantLong RX12 111 (lN 3) ∈ zTT := zTT_of 1260 (by decide +kernel) rfl
theorem wt_1261 : Cond.constantLong RX12 94 (lN 2) ∈ zTT := zTT_of 1261 (by decide +kernel) rfl
theorem wt_1262 : Cond.methodLink RL 38 yX12_scheme ∈ zTT := zTT_of 1262 (by decide +kernel) rfl
theorem wt_1263 : Cond.instanceMethod yX12_scheme ∈ zTT := zTT_of 1263 (by decide +kernel) rfl
theorem wt_1264 : Cond.selects RX12 yX12_scheme yX12_scheme ∈ zTT := zTT_of 1264 (by decide +kernel) rfl
theorem wt_1265 : Cond.code yX12_scheme cX12_scheme 2 (some .int) ∈ zTT := zTT_of 1265 (by decide +kernel) rfl
theorem wt_1266 : Cond.methodLink RX12 151 yX12_begin ∈ zTT := zTT_of 1266 (by decide +kernel) rfl
theorem wt_1268 : Cond.instanceMethod yX12_begin ∈ zTT := zTT_of 1268 (by decide +kernel) rfl
theorem wt_1269 : Cond.code yX12_begin cX12_begin 1 none ∈ zTT := zTT_of 1269 (by decide +kernel) rfl
theorem wt_1270 : Cond.methodLink RX12 154 yX12_readProduct ∈ zTT := zTT_of 1270 (by decide +kernel) rfl
theorem wt_1272 : Cond.instanceMethod yX12_readProduct ∈ zTT := zTT_of 1272 (by decide +kernel) rfl
theorem wt_1273 : Cond.code yX12_readProduct cX12_readProduct 2 none ∈ zTT := zTT_of 1273 (by decide +kernel) rfl
theorem wt_1274 : Cond.methodLink RX12 133 yX12_expect ∈ zTT := zTT_of 1274 (by decide +kernel) rfl
theorem wt_1276 : Cond.instanceMethod yX12_expect ∈ zTT := zTT_of 1276 (by decide +kernel) rfl
theorem wt_1277 : Cond.code yX12_expect cX12_expect 2 none ∈ zTT := zTT_of 1277 (by decide +kernel) rfl
theorem wt_1278 : Cond.methodLink RX12 126 yX12_passes ∈ zTT := zTT_of 1278 (by decide +kernel) rfl
theorem wt_1280 : Cond.instanceMethod yX12_passes ∈ zTT := zTT_of 1280 (by decide +kernel) rfl
theorem wt_1281 : Cond.code yX12_passes cX12_passes 2 (some .boolean) ∈ zTT := zTT_of 1281 (by decide +kernel) rfl
theorem wt_1282 : Cond.methodLink RX12 122 yX12_sees ∈ zTT := zTT_of 1282 (by decide +kernel) rfl
theorem wt_1284 : Cond.instanceMethod yX12_sees ∈ zTT := zTT_of 1284 (by decide +kernel) rfl
theorem wt_1285 : Cond.code yX12_sees cX12_sees 1 (some .int) ∈ zTT := zTT_of 1285 (by decide +kernel) rfl
theorem wt_1286 : Cond.methodLink RX12 130 yX12_fault ∈ zTT := zTT_of 1286 (by decide +kernel) rfl
theorem wt_1288 : Cond.instanceMethod yX12_fault ∈ zTT := zTT_of 1288 (by decide +kernel) rfl
theorem wt_1289 : Cond.code yX12_fault cX12_fault 2 none ∈ zTT := zTT_of 1289 (by decide +kernel) rfl
theorem wt_1290 : Cond.methodLink RX12 147 yX12_readForm ∈ zTT := zTT_of 1290 (by decide +kernel) rfl
theorem wt_1292 : Cond.instanceMethod yX12_readForm ∈ zTT := zTT_of 1292 (by decide +kernel) rfl
theorem wt_1293 : Cond.code yX12_readForm cX12_readForm 5 none ∈ zTT := zTT_of 1293 (by decide +kernel) rfl
theorem wt_1294 : Cond.methodLink RX12 140 yX12_readTerm ∈ zTT := zTT_of 1294 (by decide +kernel) rfl
theorem wt_1296 : Cond.instanceMethod yX12_readTerm ∈ zTT := zTT_of 1296 (by decide +kernel) rfl
theorem wt_1297 : Cond.code yX12_readTerm cX12_readTerm 7 none ∈ zTT := zTT_of 1297 (by decide +kernel) rfl
theorem wt_1298 : Cond.methodLink RX12 84 yX12_rowsOf ∈ zTT := zTT_of 1298 (by decide +kernel) rfl
theorem wt_1300 : Cond.instanceMethod yX12_rowsOf ∈ zTT := zTT_of 1300 (by decide +kernel) rfl
theorem wt_1301 : Cond.code yX12_rowsOf cX12_rowsOf 2 (some .int) ∈ zTT := zTT_of 1301 (by decide +kernel) rfl
theorem wt_1302 : Cond.methodLink RX12 137 yX12_readSide ∈ zTT := zTT_of 1302 (by decide +kernel) rfl
theorem wt_1304 : Cond.instanceMethod yX12_readSide ∈ zTT := zTT_of 1304 (by decide +kernel) rfl
theorem wt_1305 : Cond.code yX12_readSide cX12_readSide 3 (some .int) ∈ zTT := zTT_of 1305 (by decide +kernel) rfl
theorem wt_1306 : Cond.methodLink RX12 88 yX12_columnsOf ∈ zTT := zTT_of 1306 (by decide +kernel) rfl
theorem wt_1308 : Cond.instanceMethod yX12_columnsOf ∈ zTT := zTT_of 1308 (by decide +kernel) rfl
theorem wt_1309 : Cond.code yX12_columnsOf cX12_columnsOf 2 (some .int) ∈ zTT := zTT_of 1309 (by decide +kernel) rfl
theorem wt_1310 : Cond.methodLink RX12 157 yX12_ends ∈ zTT := zTT_of 1310 (by decide +kernel) rfl
theorem wt_1312 : Cond.instanceMethod yX12_ends ∈ zTT := zTT_of 1312 (by decide +kernel) rfl
theorem wt_1313 : Cond.code yX12_ends cX12_ends 1 none ∈ zTT := zTT_of 1313 (by decide +kernel) rfl
theorem wt_1314 : Cond.methodLink RX12 160 yX12_told ∈ zTT := zTT_of 1314 (by decide +kernel) rfl
theorem wt_1316 : Cond.instanceMethod yX12_told ∈ zTT := zTT_of 1316 (by decide +kernel) rfl
theorem wt_1317 : Cond.code yX12_told cX12_told 1 (some .int) ∈ zTT := zTT_of 1317 (by decide +kernel) rfl
theorem wt_1318 : Cond.methodLink RL 42 yX12_adds ∈ zTT := zTT_of 1318 (by decide +kernel) rfl
theorem wt_1319 : Cond.instanceMethod yX12_adds ∈ zTT := zTT_of 1319 (by decide +kernel) rfl
theorem wt_1320 : Cond.selects RX12 yX12_adds yX12_adds ∈ zTT := zTT_of 1320 (by decide +kernel) rfl
theorem wt_1321 : Cond.code yX12_adds cX12_adds 2 (some .int) ∈ zTT := zTT_of 1321 (by decide +kernel) rfl
theorem wt_1322 : Cond.methodLink RL 46 yX12_drops ∈ zTT := zTT_of 1322 (by decide +kernel) rfl
theorem wt_1323 : Cond.instanceMethod yX12_drops ∈ zTT := zTT_of 1323 (by decide +kernel) rfl
theorem wt_1324 : Cond.selects RX12 yX12_drops yX12_drops ∈ zTT := zTT_of 1324 (by decide +kernel) rfl
theorem wt_1325 : Cond.code yX12_drops cX12_drops 2 (some .int) ∈ zTT := zTT_of 1325 (by decide +kernel) rfl
theorem wt_1326 : Cond.methodLink RX12 163 yX12_isProduct ∈ zTT := zTT_of 1326 (by decide +kernel) rfl
theorem wt_1328 : Cond.instanceMethod yX12_isProduct ∈ zTT := zTT_of 1328 (by decide +kernel) rfl
theorem wt_1329 : Cond.code yX12_isProduct cX12_isProduct 2 (some .boolean) ∈ zTT := zTT_of 1329 (by decide +kernel) rfl
theorem wt_1330 : Cond.methodLink RX12 167 yX12_goes ∈ zTT := zTT_of 1330 (by decide +kernel) rfl
theorem wt_1332 : Cond.instanceMethod yX12_goes ∈ zTT := zTT_of 1332 (by decide +kernel) rfl
theorem wt_1333 : Cond.code yX12_goes cX12_goes 3 none ∈ zTT := zTT_of 1333 (by decide +kernel) rfl
theorem wt_1334 : Cond.methodLink RL 51 yX12_form ∈ zTT := zTT_of 1334 (by decide +kernel) rfl
theorem wt_1335 : Cond.instanceMethod yX12_form ∈ zTT := zTT_of 1335 (by decide +kernel) rfl
theorem wt_1336 : Cond.selects RX12 yX12_form yX12_form ∈ zTT := zTT_of 1336 (by decide +kernel) rfl
theorem wt_1337 : Cond.code yX12_form cX12_form 5 (some .int) ∈ zTT := zTT_of 1337 (by decide +kernel) rfl
theorem wt_1338 : Cond.methodLink RX12 170 yX12_isTable ∈ zTT := zTT_of 1338 (by decide +kernel) rfl
theorem wt_1339 : Cond.static yX12_isTable ∈ zTT := zTT_of 1339 (by decide +kernel) rfl
theorem wt_1340 : Cond.code yX12_isTable cX12_isTable 1 (some .boolean) ∈ zTT := zTT_of 1340 (by decide +kernel) rfl
theorem wt_1341 : Cond.methodLink RL 56 yX12_number ∈ zTT := zTT_of 1341 (by decide +kernel) rfl
theorem wt_1342 : Cond.instanceMethod yX12_number ∈ zTT := zTT_of 1342 (by decide +kernel) rfl
theorem wt_1343 : Cond.selects RX12 yX12_number yX12_number ∈ zTT := zTT_of 1343 (by decide +kernel) rfl
theorem wt_1344 : Cond.code yX12_number cX12_number 4 (some .int) ∈ zTT := zTT_of 1344 (by decide +kernel) rfl
theorem wt_1345 : Cond.methodLink RX12 173 yX12_isPlace ∈ zTT := zTT_of 1345 (by decide +kernel) rfl
theorem wt_1347 : Cond.instanceMethod yX12_isPlace ∈ zTT := zTT_of 1347 (by decide +kernel) rfl
theorem wt_1348 : Cond.code yX12_isPlace cX12_isPlace 3 (some .boolean) ∈ zTT := zTT_of 1348 (by decide +kernel) rfl
theorem wt_1349 : Cond.methodLink RX12 96 yX12_placesOf ∈ zTT := zTT_of 1349 (by decide +kernel) rfl
theorem wt_1351 : Cond.instanceMethod yX12_placesOf ∈ zTT := zTT_of 1351 (by decide +kernel) rfl
theorem wt_1352 : Cond.code yX12_placesOf cX12_placesOf 2 (some .int) ∈ zTT := zTT_of 1352 (by decide +kernel) rfl
theorem wt_1353 : Cond.methodLink RL 60 yX12_checks ∈ zTT := zTT_of 1353 (by decide +kernel) rfl
theorem wt_1354 : Cond.instanceMethod yX12_checks ∈ zTT := zTT_of 1354 (by decide +kernel) rfl
theorem wt_1355 : Cond.selects RX12 yX12_checks yX12_checks ∈ zTT := zTT_of 1355 (by decide +kernel) rfl
theorem wt_1356 : Cond.code yX12_checks cX12_checks 4 (some .int) ∈ zTT := zTT_of 1356 (by decide +kernel) rfl
theorem wt_1357 : Cond.methodLink RX12 189 yX12_looks ∈ zTT := zTT_of 1357 (by decide +kernel) rfl
theorem wt_1359 : Cond.instanceMethod yX12_looks ∈ zTT := zTT_of 1359 (by decide +kernel) rfl
theorem wt_1360 : Cond.code yX12_looks cX12_looks 4 none ∈ zTT := zTT_of 1360 (by decide +kernel) rfl
theorem wt_1361 : Cond.methodLink RX12 183 yX12_wholeGiven ∈ zTT := zTT_of 1361 (by decide +kernel) rfl
theorem wt_1363 : Cond.instanceMethod yX12_wholeGiven ∈ zTT := zTT_of 1363 (by decide +kernel) rfl
theorem wt_1364 : Cond.code yX12_wholeGiven cX12_wholeGiven 6 (some .int) ∈ zTT := zTT_of 1364 (by decide +kernel) rfl
theorem wt_1365 : Cond.methodLink RX12 186 yX12_needed ∈ zTT := zTT_of 1365 (by decide +kernel) rfl
theorem wt_1367 : Cond.instanceMethod yX12_needed ∈ zTT := zTT_of 1367 (by decide +kernel) rfl
theorem wt_1368 : Cond.code yX12_needed cX12_needed 5 (some .int) ∈ zTT := zTT_of 1368 (by decide +kernel) rfl
theorem wt_1369 : Cond.methodLink RX12 192 yX12_tell ∈ zTT := zTT_of 1369 (by decide +kernel) rfl
theorem wt_1371 : Cond.instanceMethod yX12_tell ∈ zTT := zTT_of 1371 (by decide +kernel) rfl
theorem wt_1372 : Cond.code yX12_tell cX12_tell 3 none ∈ zTT := zTT_of 1372 (by decide +kernel) rfl
theorem wt_1373 : Cond.methodLink RL 64 yX12_given ∈ zTT := zTT_of 1373 (by decide +kernel) rfl
theorem wt_1374 : Cond.instanceMethod yX12_given ∈ zTT := zTT_of 1374 (by decide +kernel) rfl
theorem wt_1375 : Cond.selects RX12 yX12_given yX12_given ∈ zTT := zTT_of 1375 (by decide +kernel) rfl
theorem wt_1376 : Cond.code yX12_given cX12_given 6 (some .int) ∈ zTT := zTT_of 1376 (by decide +kernel) rfl
theorem wt_1377 : Cond.methodLink RL 68 yX12_multiplies ∈ zTT := zTT_of 1377 (by decide +kernel) rfl
theorem wt_1378 : Cond.instanceMethod yX12_multiplies ∈ zTT := zTT_of 1378 (by decide +kernel) rfl
theorem wt_1379 : Cond.selects RX12 yX12_multiplies yX12_multiplies ∈ zTT := zTT_of 1379 (by decide +kernel) rfl
theorem wt_1380 : Cond.code yX12_multiplies cX12_multiplies 8 (some .int) ∈ zTT := zTT_of 1380 (by decide +kernel) rfl
theorem wt_1381 : Cond.methodLink RX12 196 yX12_readTables ∈ zTT := zTT_of 1381 (by decide +kernel) rfl
theorem wt_1383 : Cond.instanceMethod yX12_readTables ∈ zTT := zTT_of 1383 (by decide +kernel) rfl
theorem wt_1384 : Cond.code yX12_readTables cX12_readTables 4 none ∈ zTT := zTT_of 1384 (by decide +kernel) rfl
theorem wt_1385 : Cond.methodLink RX12 199 yX12_madeOf ∈ zTT := zTT_of 1385 (by decide +kernel) rfl
theorem wt_1387 : Cond.instanceMethod yX12_madeOf ∈ zTT := zTT_of 1387 (by decide +kernel) rfl
theorem wt_1388 : Cond.code yX12_madeOf cX12_madeOf 6 (some .int) ∈ zTT := zTT_of 1388 (by decide +kernel) rfl
theorem wt_1389 : Cond.methodLink RL 72 yX12_sums ∈ zTT := zTT_of 1389 (by decide +kernel) rfl
theorem wt_1390 : Cond.instanceMethod yX12_sums ∈ zTT := zTT_of 1390 (by decide +kernel) rfl
theorem wt_1391 : Cond.selects RX12 yX12_sums yX12_sums ∈ zTT := zTT_of 1391 (by decide +kernel) rfl
theorem wt_1392 : Cond.code yX12_sums cX12_sums 7 (some .int) ∈ zTT := zTT_of 1392 (by decide +kernel) rfl
theorem wt_1393 : Cond.methodLink RX12 202 yX12_fullOf ∈ zTT := zTT_of 1393 (by decide +kernel) rfl
theorem wt_1395 : Cond.instanceMethod yX12_fullOf ∈ zTT := zTT_of 1395 (by decide +kernel) rfl
theorem wt_1396 : Cond.code yX12_fullOf cX12_fullOf 5 (some .int) ∈ zTT := zTT_of 1396 (by decide +kernel) rfl
theorem wt_1397 : Cond.methodLink RX12 206 yX12_lessOne ∈ zTT := zTT_of 1397 (by decide +kernel) rfl
theorem wt_1398 : Cond.static yX12_lessOne ∈ zTT := zTT_of 1398 (by decide +kernel) rfl
theorem wt_1399 : Cond.code yX12_lessOne cX12_lessOne 1 (some .int) ∈ zTT := zTT_of 1399 (by decide +kernel) rfl
theorem wt_1400 : Cond.methodLink RL 76 yX12_like ∈ zTT := zTT_of 1400 (by decide +kernel) rfl
theorem wt_1401 : Cond.instanceMethod yX12_like ∈ zTT := zTT_of 1401 (by decide +kernel) rfl
theorem wt_1402 : Cond.selects RX12 yX12_like yX12_like ∈ zTT := zTT_of 1402 (by decide +kernel) rfl
theorem wt_1403 : Cond.code yX12_like cX12_like 5 (some .int) ∈ zTT := zTT_of 1403 (by decide +kernel) rfl
theorem wt_1404 : Cond.methodLink RX12 217 yX12_likeAt ∈ zTT := zTT_of 1404 (by decide +kernel) rfl
theorem wt_1406 : Cond.instanceMethod yX12_likeAt ∈ zTT := zTT_of 1406 (by decide +kernel) rfl
theorem wt_1407 : Cond.code yX12_likeAt cX12_likeAt 4 (some .int) ∈ zTT := zTT_of 1407 (by decide +kernel) rfl
theorem wt_1408 : Cond.methodLink RX12 213 yX12_likeOf ∈ zTT := zTT_of 1408 (by decide +kernel) rfl
theorem wt_1410 : Cond.instanceMethod yX12_likeOf ∈ zTT := zTT_of 1410 (by decide +kernel) rfl
theorem wt_1411 : Cond.code yX12_likeOf cX12_likeOf 8 (some .int) ∈ zTT := zTT_of 1411 (by decide +kernel) rfl
theorem wt_1412 : Cond.methodLink RX12 209 yX12_isZero ∈ zTT := zTT_of 1412 (by decide +kernel) rfl
theorem wt_1413 : Cond.static yX12_isZero ∈ zTT := zTT_of 1413 (by decide +kernel) rfl
theorem wt_1414 : Cond.code yX12_isZero cX12_isZero 3 (some .boolean) ∈ zTT := zTT_of 1414 (by decide +kernel) rfl
theorem wt_1415 : Cond.methodLink RL 80 yX12_flips ∈ zTT := zTT_of 1415 (by decide +kernel) rfl
theorem wt_1416 : Cond.instanceMethod yX12_flips ∈ zTT := zTT_of 1416 (by decide +kernel) rfl
theorem wt_1417 : Cond.selects RX12 yX12_flips yX12_flips ∈ zTT := zTT_of 1417 (by decide +kernel) rfl
theorem wt_1418 : Cond.code yX12_flips cX12_flips 4 (some .int) ∈ zTT := zTT_of 1418 (by decide +kernel) rfl
theorem wt_1419 : Cond.methodLink RX12 220 yX12_flipsAt ∈ zTT := zTT_of 1419 (by decide +kernel) rfl
theorem wt_1421 : Cond.instanceMethod yX12_flipsAt ∈ zTT := zTT_of 1421 (by decide +kernel) rfl
theorem wt_1422 : Cond.code yX12_flipsAt cX12_flipsAt 5 (some .int) ∈ zTT := zTT_of 1422 (by decide +kernel) rfl
theorem wt_1423 : Cond.methodLink RL 84 yX12_flip ∈ zTT := zTT_of 1423 (by decide +kernel) rfl
theorem wt_1424 : Cond.instanceMethod yX12_flip ∈ zTT := zTT_of 1424 (by decide +kernel) rfl
theorem wt_1425 : Cond.selects RX12 yX12_flip yX12_flip ∈ zTT := zTT_of 1425 (by decide +kernel) rfl
theorem wt_1426 : Cond.code yX12_flip cX12_flip 4 (some .int) ∈ zTT := zTT_of 1426 (by decide +kernel) rfl
theorem wt_1427 : Cond.methodLink RX12 229 yX12_goFlip ∈ zTT := zTT_of 1427 (by decide +kernel) rfl
theorem wt_1429 : Cond.instanceMethod yX12_goFlip ∈ zTT := zTT_of 1429 (by decide +kernel) rfl
theorem wt_1430 : Cond.code yX12_goFlip cX12_goFlip 8 none ∈ zTT := zTT_of 1430 (by decide +kernel) rfl
theorem wt_1431 : Cond.methodLink RX12 223 yX12_mod ∈ zTT := zTT_of 1431 (by decide +kernel) rfl
theorem wt_1433 : Cond.instanceMethod yX12_mod ∈ zTT := zTT_of 1433 (by decide +kernel) rfl
theorem wt_1434 : Cond.code yX12_mod cX12_mod 3 (some .int) ∈ zTT := zTT_of 1434 (by decide +kernel) rfl
theorem wt_1435 : Cond.methodLink RX12 232 yX12_zeroMany ∈ zTT := zTT_of 1435 (by decide +kernel) rfl
theorem wt_1437 : Cond.instanceMethod yX12_zeroMany ∈ zTT := zTT_of 1437 (by decide +kernel) rfl
theorem wt_1438 : Cond.code yX12_zeroMany cX12_zeroMany 3 (some .int) ∈ zTT := zTT_of 1438 (by decide +kernel) rfl
theorem wt_1439 : Cond.methodLink RX12 226 yX12_hasZero ∈ zTT := zTT_of 1439 (by decide +kernel) rfl
theorem wt_1441 : Cond.instanceMethod yX12_hasZero ∈ zTT := zTT_of 1441 (by decide +kernel) rfl
theorem wt_1442 : Cond.code yX12_hasZero cX12_hasZero 3 (some .boolean) ∈ zTT := zTT_of 1442 (by decide +kernel) rfl
theorem wt_1443 : Cond.methodLink RL 88 yX12_joins ∈ zTT := zTT_of 1443 (by decide +kernel) rfl
theorem wt_1444 : Cond.instanceMethod yX12_joins ∈ zTT := zTT_of 1444 (by decide +kernel) rfl
theorem wt_1445 : Cond.selects RX12 yX12_joins yX12_joins ∈ zTT := zTT_of 1445 (by decide +kernel) rfl
theorem wt_1446 : Cond.code yX12_joins cX12_joins 1 (some .int) ∈ zTT := zTT_of 1446 (by decide +kernel) rfl
theorem wt_1447 : Cond.methodLink RX12 248 yX12_joinsAll ∈ zTT := zTT_of 1447 (by decide +kernel) rfl
theorem wt_1449 : Cond.instanceMethod yX12_joinsAll ∈ zTT := zTT_of 1449 (by decide +kernel) rfl
theorem wt_1450 : Cond.code yX12_joinsAll cX12_joinsAll 3 none ∈ zTT := zTT_of 1450 (by decide +kernel) rfl
theorem wt_1451 : Cond.methodLink RX12 241 yX12_firstZero ∈ zTT := zTT_of 1451 (by decide +kernel) rfl
theorem wt_1453 : Cond.instanceMethod yX12_firstZero ∈ zTT := zTT_of 1453 (by decide +kernel) rfl
theorem wt_1454 : Cond.code yX12_firstZero cX12_firstZero 2 (some .int) ∈ zTT := zTT_of 1454 (by decide +kernel) rfl
theorem wt_1455 : Cond.methodLink RX12 244 yX12_joinsTwo ∈ zTT := zTT_of 1455 (by decide +kernel) rfl
theorem wt_1457 : Cond.instanceMethod yX12_joinsTwo ∈ zTT := zTT_of 1457 (by decide +kernel) rfl
theorem wt_1458 : Cond.code yX12_joinsTwo cX12_joinsTwo 6 (some .boolean) ∈ zTT := zTT_of 1458 (by decide +kernel) rfl
theorem wt_1459 : Cond.methodLink RL 92 yX12_sheds ∈ zTT := zTT_of 1459 (by decide +kernel) rfl
theorem wt_1460 : Cond.instanceMethod yX12_sheds ∈ zTT := zTT_of 1460 (by decide +kernel) rfl
theorem wt_1461 : Cond.selects RX12 yX12_sheds yX12_sheds ∈ zTT := zTT_of 1461 (by decide +kernel) rfl
theorem wt_1462 : Cond.code yX12_sheds cX12_sheds 3 (some .int) ∈ zTT := zTT_of 1462 (by decide +kernel) rfl
theorem wt_1463 : Cond.methodLink RX12 270 yX12_shedsOne ∈ zTT := zTT_of 1463 (by decide +kernel) rfl
theorem wt_1465 : Cond.instanceMethod yX12_shedsOne ∈ zTT := zTT_of 1465 (by decide +kernel) rfl
theorem wt_1466 : Cond.code yX12_shedsOne cX12_shedsOne 6 (some .int) ∈ zTT := zTT_of 1466 (by decide +kernel) rfl
theorem wt_1467 : Cond.methodLink RX12 266 yX12_isShed ∈ zTT := zTT_of 1467 (by decide +kernel) rfl
theorem wt_1469 : Cond.instanceMethod yX12_isShed ∈ zTT := zTT_of 1469 (by decide +kernel) rfl
theorem wt_1470 : Cond.code yX12_isShed cX12_isShed 9 (some .boolean) ∈ zTT := zTT_of 1470 (by decide +kernel) rfl
theorem wt_1471 : Cond.methodLink RX12 257 yX12_laysBehind ∈ zTT := zTT_of 1471 (by decide +kernel) rfl
theorem wt_1473 : Cond.instanceMethod yX12_laysBehind ∈ zTT := zTT_of 1473 (by decide +kernel) rfl
theorem wt_1474 : Cond.code yX12_laysBehind cX12_laysBehind 6 none ∈ zTT := zTT_of 1474 (by decide +kernel) rfl
theorem wt_1475 : Cond.methodLink RX12 260 yX12_isSum ∈ zTT := zTT_of 1475 (by decide +kernel) rfl
theorem wt_1477 : Cond.instanceMethod yX12_isSum ∈ zTT := zTT_of 1477 (by decide +kernel) rfl
theorem wt_1478 : Cond.code yX12_isSum cX12_isSum 5 (some .boolean) ∈ zTT := zTT_of 1478 (by decide +kernel) rfl
theorem wt_1479 : Cond.methodLink RX12 254 yX12_takenLead ∈ zTT := zTT_of 1479 (by decide +kernel) rfl
theorem wt_1481 : Cond.instanceMethod yX12_takenLead ∈ zTT := zTT_of 1481 (by decide +kernel) rfl
theorem wt_1482 : Cond.code yX12_takenLead cX12_takenLead 3 (some .int) ∈ zTT := zTT_of 1482 (by decide +kernel) rfl
theorem wt_1483 : Cond.methodLink RX12 263 yX12_takes ∈ zTT := zTT_of 1483 (by decide +kernel) rfl
theorem wt_1485 : Cond.instanceMethod yX12_takes ∈ zTT := zTT_of 1485 (by decide +kernel) rfl
theorem wt_1486 : Cond.code yX12_takes cX12_takes 5 none ∈ zTT := zTT_of 1486 (by decide +kernel) rfl
theorem wt_1487 : Cond.methodLink RL 96 yX12_splits ∈ zTT := zTT_of 1487 (by decide +kernel) rfl
theorem wt_1488 : Cond.instanceMethod yX12_splits ∈ zTT := zTT_of 1488 (by decide +kernel) rfl
theorem wt_1489 : Cond.selects RX12 yX12_splits yX12_splits ∈ zTT := zTT_of 1489 (by decide +kernel) rfl
theorem wt_1490 : Cond.code yX12_splits cX12_splits 5 (some .int) ∈ zTT := zTT_of 1490 (by decide +kernel) rfl
theorem wt_1491 : Cond.methodLink RL 100 yX12_plus ∈ zTT := zTT_of 1491 (by decide +kernel) rfl
theorem wt_1492 : Cond.instanceMethod yX12_plus ∈ zTT := zTT_of 1492 (by decide +kernel) rfl
theorem wt_1493 : Cond.selects RX12 yX12_plus yX12_plus ∈ zTT := zTT_of 1493 (by decide +kernel) rfl
theorem wt_1494 : Cond.code yX12_plus cX12_plus 7 (some .int) ∈ zTT := zTT_of 1494 (by decide +kernel) rfl
theorem wt_1495 : Cond.methodLink RL 104 yX12_scales ∈ zTT := zTT_of 1495 (by decide +kernel) rfl
theorem wt_1496 : Cond.instanceMethod yX12_scales ∈ zTT := zTT_of 1496 (by decide +kernel) rfl
theorem wt_1497 : Cond.selects RX12 yX12_scales yX12_scales ∈ zTT := zTT_of 1497 (by decide +kernel) rfl
theorem wt_1498 : Cond.code yX12_scales cX12_scales 5 (some .int) ∈ zTT := zTT_of 1498 (by decide +kernel) rfl
theorem wt_1499 : Cond.methodLink RX12 273 yX12_areLike ∈ zTT := zTT_of 1499 (by decide +kernel) rfl
theorem wt_1501 : Cond.instanceMethod yX12_areLike ∈ zTT := zTT_of 1501 (by decide +kernel) rfl
theorem wt_1502 : Cond.code yX12_areLike cX12_areLike 7 (some .boolean) ∈ zTT := zTT_of 1502 (by decide +kernel) rfl
theorem wt_1503 : Cond.methodLink RL 108 yX12_narrows ∈ zTT := zTT_of 1503 (by decide +kernel) rfl
theorem wt_1504 : Cond.instanceMethod yX12_narrows ∈ zTT := zTT_of 1504 (by decide +kernel) rfl
theorem wt_1505 : Cond.selects RX12 yX12_narrows yX12_narrows ∈ zTT := zTT_of 1505 (by decide +kernel) rfl
theorem wt_1506 : Cond.code yX12_narrows cX12_narrows 3 (some .int) ∈ zTT := zTT_of 1506 (by decide +kernel) rfl
theorem wt_1507 : Cond.methodLink RX12 280 yX12_resizes ∈ zTT := zTT_of 1507 (by decide +kernel) rfl
theorem wt_1509 : Cond.instanceMethod yX12_resizes ∈ zTT := zTT_of 1509 (by decide +kernel) rfl
theorem wt_1510 : Cond.code yX12_resizes cX12_resizes 12 none ∈ zTT := zTT_of 1510 (by decide +kernel) rfl
theorem wt_1511 : Cond.methodLink RX12 277 yX12_wasAt ∈ zTT := zTT_of 1511 (by decide +kernel) rfl
theorem wt_1512 : Cond.static yX12_wasAt ∈ zTT := zTT_of 1512 (by decide +kernel) rfl
theorem wt_1513 : Cond.code yX12_wasAt cX12_wasAt 4 (some .int) ∈ zTT := zTT_of 1513 (by decide +kernel) rfl
theorem wt_1514 : Cond.methodLink RL 112 yX12_widens ∈ zTT := zTT_of 1514 (by decide +kernel) rfl
theorem wt_1515 : Cond.instanceMethod yX12_widens ∈ zTT := zTT_of 1515 (by decide +kernel) rfl
theorem wt_1516 : Cond.selects RX12 yX12_widens yX12_widens ∈ zTT := zTT_of 1516 (by decide +kernel) rfl
theorem wt_1517 : Cond.code yX12_widens cX12_widens 6 (some .int) ∈ zTT := zTT_of 1517 (by decide +kernel) rfl
theorem wt_1518 : Cond.methodLink RL 116 yX12_walks ∈ zTT := zTT_of 1518 (by decide +kernel) rfl
theorem wt_1519 : Cond.instanceMethod yX12_walks ∈ zTT := zTT_of 1519 (by decide +kernel) rfl
theorem wt_1520 : Cond.selects RX12 yX12_walks yX12_walks ∈ zTT := zTT_of 1520 (by decide +kernel) rfl
theorem wt_1521 : Cond.code yX12_walks cX12_walks 8 (some .int) ∈ zTT := zTT_of 1521 (by decide +kernel) rfl
theorem wt_1522 : Cond.constantLong RX12 283 (lN 100) ∈ zTT := zTT_of 1522 (by decide +kernel) rfl
theorem wt_1523 : Cond.constantLong RX12 285 (lN 2147483646) ∈ zTT := zTT_of 1523 (by decide +kernel) rfl
theorem wt_1524 : Cond.constantLong RX12 287 (lN 16807) ∈ zTT := zTT_of 1524 (by decide +kernel) rfl
theorem wt_1525 : Cond.constantLong RX12 289 (lN 2147483647) ∈ zTT := zTT_of 1525 (by decide +kernel) rfl
theorem wt_1526 : Cond.methodLink RX12 291 yX12_goNumbered ∈ zTT := zTT_of 1526 (by decide +kernel) rfl
theorem wt_1528 : Cond.instanceMethod yX12_goNumbered ∈ zTT := zTT_of 1528 (by decide +kernel) rfl
theorem wt_1529 : Cond.code yX12_goNumbered cX12_goNumbered 6 none ∈ zTT := zTT_of 1529 (by decide +kernel) rfl
theorem wt_1530 : Cond.methodLink RL 120 yX12_rolls ∈ zTT := zTT_of 1530 (by decide +kernel) rfl
theorem wt_1531 : Cond.instanceMethod yX12_rolls ∈ zTT := zTT_of 1531 (by decide +kernel) rfl
theorem wt_1532 : Cond.selects RX12 yX12_rolls yX12_rolls ∈ zTT := zTT_of 1532 (by decide +kernel) rfl
theorem wt_1533 : Cond.code yX12_rolls cX12_rolls 1 (some .int) ∈ zTT := zTT_of 1533 (by decide +kernel) rfl
theorem wt_1534 : Cond.methodLink RX12 294 yX12_laysTurned ∈ zTT := zTT_of 1534 (by decide +kernel) rfl
theorem wt_1536 : Cond.instanceMethod yX12_laysTurned ∈ zTT := zTT_of 1536 (by decide +kernel) rfl
theorem wt_1537 : Cond.code yX12_laysTurned cX12_laysTurned 4 none ∈ zTT := zTT_of 1537 (by decide +kernel) rfl
theorem wt_1538 : Cond.methodLink RX12 297 yX12_takesBeside ∈ zTT := zTT_of 1538 (by decide +kernel) rfl
theorem wt_1540 : Cond.instanceMethod yX12_takesBeside ∈ zTT := zTT_of 1540 (by decide +kernel) rfl
theorem wt_1541 : Cond.code yX12_takesBeside cX12_takesBeside 5 none ∈ zTT := zTT_of 1541 (by decide +kernel) rfl
theorem wt_1542 : Cond.methodLink RL 124 yX12_mirrors ∈ zTT := zTT_of 1542 (by decide +kernel) rfl
theorem wt_1543 : Cond.instanceMethod yX12_mirrors ∈ zTT := zTT_of 1543 (by decide +kernel) rfl
theorem wt_1544 : Cond.selects RX12 yX12_mirrors yX12_mirrors ∈ zTT := zTT_of 1544 (by decide +kernel) rfl
theorem wt_1545 : Cond.code yX12_mirrors cX12_mirrors 1 (some .int) ∈ zTT := zTT_of 1545 (by decide +kernel) rfl
theorem wt_1546 : Cond.methodLink RX12 300 yX12_laysMirrored ∈ zTT := zTT_of 1546 (by decide +kernel) rfl
theorem wt_1548 : Cond.instanceMethod yX12_laysMirrored ∈ zTT := zTT_of 1548 (by decide +kernel) rfl
theorem wt_1549 : Cond.code yX12_laysMirrored cX12_laysMirrored 5 none ∈ zTT := zTT_of 1549 (by decide +kernel) rfl
theorem wt_1550 : Cond.methodLink RL 132 yX12_swaps ∈ zTT := zTT_of 1550 (by decide +kernel) rfl
theorem wt_1551 : Cond.instanceMethod yX12_swaps ∈ zTT := zTT_of 1551 (by decide +kernel) rfl
theorem wt_1552 : Cond.selects RX12 yX12_swaps yX12_swaps ∈ zTT := zTT_of 1552 (by decide +kernel) rfl
theorem wt_1553 : Cond.code yX12_swaps cX12_swaps 8 (some .int) ∈ zTT := zTT_of 1553 (by decide +kernel) rfl
theorem wt_1554 : Cond.methodLink RX12 303 yX12_exchanged ∈ zTT := zTT_of 1554 (by decide +kernel) rfl
theorem wt_1555 : Cond.static yX12_exchanged ∈ zTT := zTT_of 1555 (by decide +kernel) rfl
theorem wt_1556 : Cond.code yX12_exchanged cX12_exchanged 3 (some .int) ∈ zTT := zTT_of 1556 (by decide +kernel) rfl
theorem wt_1557 : Cond.methodLink RX12 306 yX12_othersThan ∈ zTT := zTT_of 1557 (by decide +kernel) rfl
theorem wt_1559 : Cond.instanceMethod yX12_othersThan ∈ zTT := zTT_of 1559 (by decide +kernel) rfl
theorem wt_1560 : Cond.code yX12_othersThan cX12_othersThan 6 (some .int) ∈ zTT := zTT_of 1560 (by decide +kernel) rfl
theorem wt_1561 : Cond.methodLink RL 136 yX12_uses ∈ zTT := zTT_of 1561 (by decide +kernel) rfl
theorem wt_1562 : Cond.instanceMethod yX12_uses ∈ zTT := zTT_of 1562 (by decide +kernel) rfl
theorem wt_1563 : Cond.selects RX12 yX12_uses yX12_uses ∈ zTT := zTT_of 1563 (by decide +kernel) rfl
theorem wt_1564 : Cond.code yX12_uses cX12_uses 5 (some .int) ∈ zTT := zTT_of 1564 (by decide +kernel) rfl
theorem wt_1565 : Cond.methodLink RX12 309 yX12_usesOf ∈ zTT := zTT_of 1565 (by decide +kernel) rfl
theorem wt_1567 : Cond.instanceMethod yX12_usesOf ∈ zTT := zTT_of 1567 (by decide +kernel) rfl
theorem wt_1568 : Cond.code yX12_usesOf cX12_usesOf 6 (some .int) ∈ zTT := zTT_of 1568 (by decide +kernel) rfl
theorem wt_1569 : Cond.methodLink RL 128 yX12_shears ∈ zTT := zTT_of 1569 (by decide +kernel) rfl
theorem wt_1570 : Cond.instanceMethod yX12_shears ∈ zTT := zTT_of 1570 (by decide +kernel) rfl
theorem wt_1571 : Cond.selects RX12 yX12_shears yX12_shears ∈ zTT := zTT_of 1571 (by decide +kernel) rfl
theorem wt_1572 : Cond.code yX12_shears cX12_shears 6 (some .int) ∈ zTT := zTT_of 1572 (by decide +kernel) rfl
theorem wt_1573 : Cond.methodLink RX12 312 yX12_shearsRows ∈ zTT := zTT_of 1573 (by decide +kernel) rfl
theorem wt_1575 : Cond.instanceMethod yX12_shearsRows ∈ zTT := zTT_of 1575 (by decide +kernel) rfl
theorem wt_1576 : Cond.code yX12_shearsRows cX12_shearsRows 8 none ∈ zTT := zTT_of 1576 (by decide +kernel) rfl
theorem wt_1577 : Cond.methodLink RX12 316 yX12_shearsColumns ∈ zTT := zTT_of 1577 (by decide +kernel) rfl
theorem wt_1579 : Cond.instanceMethod yX12_shearsColumns ∈ zTT := zTT_of 1579 (by decide +kernel) rfl
theorem wt_1580 : Cond.code yX12_shearsColumns cX12_shearsColumns 8 none ∈ zTT := zTT_of 1580 (by decide +kernel) rfl
theorem wt_1581 : Cond.methodLink RL 140 yX12_round ∈ zTT := zTT_of 1581 (by decide +kernel) rfl
theorem wt_1582 : Cond.instanceMethod yX12_round ∈ zTT := zTT_of 1582 (by decide +kernel) rfl
theorem wt_1583 : Cond.selects RX12 yX12_round yX12_round ∈ zTT := zTT_of 1583 (by decide +kernel) rfl
theorem wt_1584 : Cond.code yX12_round cX12_round 1 (some .int) ∈ zTT := zTT_of 1584 (by decide +kernel) rfl
theorem wt_1585 : Cond.methodLink RX12 322 yX12_asBeside ∈ zTT := zTT_of 1585 (by decide +kernel) rfl
theorem wt_1587 : Cond.instanceMethod yX12_asBeside ∈ zTT := zTT_of 1587 (by decide +kernel) rfl
theorem wt_1588 : Cond.code yX12_asBeside cX12_asBeside 3 (some .int) ∈ zTT := zTT_of 1588 (by decide +kernel) rfl
theorem wt_1589 : Cond.methodLink RX12 319 yX12_without ∈ zTT := zTT_of 1589 (by decide +kernel) rfl
theorem wt_1591 : Cond.instanceMethod yX12_without ∈ zTT := zTT_of 1591 (by decide +kernel) rfl
theorem wt_1592 : Cond.code yX12_without cX12_without 8 (some .int) ∈ zTT := zTT_of 1592 (by decide +kernel) rfl
theorem wt_1593 : Cond.methodLink RL 144 yX12_mirrored ∈ zTT := zTT_of 1593 (by decide +kernel) rfl
theorem wt_1594 : Cond.instanceMethod yX12_mirrored ∈ zTT := zTT_of 1594 (by decide +kernel) rfl
theorem wt_1595 : Cond.selects RX12 yX12_mirrored yX12_mirrored ∈ zTT := zTT_of 1595 (by decide +kernel) rfl
theorem wt_1596 : Cond.code yX12_mirrored cX12_mirrored 1 (some .int) ∈ zTT := zTT_of 1596 (by decide +kernel) rfl
theorem wt_1597 : Cond.methodLink RL 148 yX12_groups ∈ zTT := zTT_of 1597 (by decide +kernel) rfl
theorem wt_1598 : Cond.instanceMethod yX12_groups ∈ zTT := zTT_of 1598 (by decide +kernel) rfl
theorem wt_1599 : Cond.selects RX12 yX12_groups yX12_groups ∈ zTT := zTT_of 1599 (by decide +kernel) rfl
theorem wt_1600 : Cond.code yX12_groups cX12_groups 10 (some .int) ∈ zTT := zTT_of 1600 (by decide +kernel) rfl
theorem wt_1601 : Cond.methodLink RX12 325 yX12_groupOf ∈ zTT := zTT_of 1601 (by decide +kernel) rfl
theorem wt_1603 : Cond.instanceMethod yX12_groupOf ∈ zTT := zTT_of 1603 (by decide +kernel) rfl
theorem wt_1604 : Cond.code yX12_groupOf cX12_groupOf 6 (some .long) ∈ zTT := zTT_of 1604 (by decide +kernel) rfl
theorem wt_1605 : Cond.methodLink RX12 329 yX12_ones ∈ zTT := zTT_of 1605 (by decide +kernel) rfl
theorem wt_1606 : Cond.static yX12_ones ∈ zTT := zTT_of 1606 (by decide +kernel) rfl
theorem wt_1607 : Cond.code yX12_ones cX12_ones 5 (some .int) ∈ zTT := zTT_of 1607 (by decide +kernel) rfl
theorem wt_1608 : Cond.methodLink RL 152 yX12_spans ∈ zTT := zTT_of 1608 (by decide +kernel) rfl
theorem wt_1609 : Cond.instanceMethod yX12_spans ∈ zTT := zTT_of 1609 (by decide +kernel) rfl
theorem wt_1610 : Cond.selects RX12 yX12_spans yX12_spans ∈ zTT := zTT_of 1610 (by decide +kernel) rfl
theorem wt_1611 : Cond.code yX12_spans cX12_spans 5 (some .int) ∈ zTT := zTT_of 1611 (by decide +kernel) rfl
theorem wt_1612 : Cond.methodLink RX12 339 yX12_frees ∈ zTT := zTT_of 1612 (by decide +kernel) rfl
theorem wt_1614 : Cond.instanceMethod yX12_frees ∈ zTT := zTT_of 1614 (by decide +kernel) rfl
theorem wt_1615 : Cond.code yX12_frees cX12_frees 8 (some .boolean) ∈ zTT := zTT_of 1615 (by decide +kernel) rfl
theorem wt_1616 : Cond.methodLink RX12 336 yX12_leadOf ∈ zTT := zTT_of 1616 (by decide +kernel) rfl
theorem wt_1618 : Cond.instanceMethod yX12_leadOf ∈ zTT := zTT_of 1618 (by decide +kernel) rfl
theorem wt_1619 : Cond.code yX12_leadOf cX12_leadOf 3 (some .int) ∈ zTT := zTT_of 1619 (by decide +kernel) rfl
theorem wt_1620 : Cond.methodLink RL 156 yX12_keeps ∈ zTT := zTT_of 1620 (by decide +kernel) rfl
theorem wt_1621 : Cond.instanceMethod yX12_keeps ∈ zTT := zTT_of 1621 (by decide +kernel) rfl
theorem wt_1622 : Cond.selects RX12 yX12_keeps yX12_keeps ∈ zTT := zTT_of 1622 (by decide +kernel) rfl
theorem wt_1623 : Cond.code yX12_keeps cX12_keeps 2 (some .int) ∈ zTT := zTT_of 1623 (by decide +kernel) rfl
theorem wt_1624 : Cond.methodLink RL 160 yX12_others ∈ zTT := zTT_of 1624 (by decide +kernel) rfl
theorem wt_1625 : Cond.instanceMethod yX12_others ∈ zTT := zTT_of 1625 (by decide +kernel) rfl
theorem wt_1626 : Cond.selects RX12 yX12_others yX12_others ∈ zTT := zTT_of 1626 (by decide +kernel) rfl
theorem wt_1627 : Cond.code yX12_others cX12_others 2 (some .int) ∈ zTT := zTT_of 1627 (by decide +kernel) rfl
theorem wt_1628 : Cond.methodLink RX12 342 yX12_isKeptSo ∈ zTT := zTT_of 1628 (by decide +kernel) rfl
theorem wt_1630 : Cond.instanceMethod yX12_isKeptSo ∈ zTT := zTT_of 1630 (by decide +kernel) rfl
theorem wt_1631 : Cond.code yX12_isKeptSo cX12_isKeptSo 1 (some .boolean) ∈ zTT := zTT_of 1631 (by decide +kernel) rfl
theorem wt_1632 : Cond.methodLink RL 164 yX12_unlikes ∈ zTT := zTT_of 1632 (by decide +kernel) rfl
theorem wt_1633 : Cond.instanceMethod yX12_unlikes ∈ zTT := zTT_of 1633 (by decide +kernel) rfl
theorem wt_1634 : Cond.selects RX12 yX12_unlikes yX12_unlikes ∈ zTT := zTT_of 1634 (by decide +kernel) rfl
theorem wt_1635 : Cond.code yX12_unlikes cX12_unlikes 5 (some .int) ∈ zTT := zTT_of 1635 (by decide +kernel) rfl
theorem wt_1636 : Cond.methodLink RX12 345 yX12_keptGiven ∈ zTT := zTT_of 1636 (by decide +kernel) rfl
theorem wt_1638 : Cond.instanceMethod yX12_keptGiven ∈ zTT := zTT_of 1638 (by decide +kernel) rfl
theorem wt_1639 : Cond.code yX12_keptGiven cX12_keptGiven 6 (some .int) ∈ zTT := zTT_of 1639 (by decide +kernel) rfl
theorem wt_1640 : Cond.methodLink RL 168 yX12_back ∈ zTT := zTT_of 1640 (by decide +kernel) rfl
theorem wt_1641 : Cond.instanceMethod yX12_back ∈ zTT := zTT_of 1641 (by decide +kernel) rfl
theorem wt_1642 : Cond.selects RX12 yX12_back yX12_back ∈ zTT := zTT_of 1642 (by decide +kernel) rfl
theorem wt_1643 : Cond.code yX12_back cX12_back 2 (some .int) ∈ zTT := zTT_of 1643 (by decide +kernel) rfl
theorem wt_1644 : Cond.methodLink RL 172 yX12_lifts ∈ zTT := zTT_of 1644 (by decide +kernel) rfl
theorem wt_1645 : Cond.instanceMethod yX12_lifts ∈ zTT := zTT_of 1645 (by decide +kernel) rfl
theorem wt_1646 : Cond.selects RX12 yX12_lifts yX12_lifts ∈ zTT := zTT_of 1646 (by decide +kernel) rfl
theorem wt_1647 : Cond.code yX12_lifts cX12_lifts 5 (some .int) ∈ zTT := zTT_of 1647 (by decide +kernel) rfl
theorem wt_1648 : Cond.methodLink RX12 363 yX12_equation ∈ zTT := zTT_of 1648 (by decide +kernel) rfl
theorem wt_1650 : Cond.instanceMethod yX12_equation ∈ zTT := zTT_of 1650 (by decide +kernel) rfl
theorem wt_1651 : Cond.code yX12_equation cX12_equation 10 (some .boolean) ∈ zTT := zTT_of 1651 (by decide +kernel) rfl
theorem wt_1652 : Cond.methodLink RX12 351 yX12_unknowns ∈ zTT := zTT_of 1652 (by decide +kernel) rfl
theorem wt_1654 : Cond.instanceMethod yX12_unknowns ∈ zTT := zTT_of 1654 (by decide +kernel) rfl
theorem wt_1655 : Cond.code yX12_unknowns cX12_unknowns 1 (some .int) ∈ zTT := zTT_of 1655 (by decide +kernel) rfl
theorem wt_1656 : Cond.methodLink RX12 354 yX12_unknownOf ∈ zTT := zTT_of 1656 (by decide +kernel) rfl
theorem wt_1658 : Cond.instanceMethod yX12_unknownOf ∈ zTT := zTT_of 1658 (by decide +kernel) rfl
theorem wt_1659 : Cond.code yX12_unknownOf cX12_unknownOf 5 (some .int) ∈ zTT := zTT_of 1659 (by decide +kernel) rfl
theorem wt_1660 : Cond.methodLink RX12 357 yX12_turnsBit ∈ zTT := zTT_of 1660 (by decide +kernel) rfl
theorem wt_1662 : Cond.instanceMethod yX12_turnsBit ∈ zTT := zTT_of 1662 (by decide +kernel) rfl
theorem wt_1663 : Cond.code yX12_turnsBit cX12_turnsBit 3 none ∈ zTT := zTT_of 1663 (by decide +kernel) rfl
theorem wt_1664 : Cond.methodLink RX12 360 yX12_isBit ∈ zTT := zTT_of 1664 (by decide +kernel) rfl
theorem wt_1666 : Cond.instanceMethod yX12_isBit ∈ zTT := zTT_of 1666 (by decide +kernel) rfl
theorem wt_1667 : Cond.code yX12_isBit cX12_isBit 3 (some .boolean) ∈ zTT := zTT_of 1667 (by decide +kernel) rfl
theorem wt_1668 : Cond.methodLink RL 176 yX12_count ∈ zTT := zTT_of 1668 (by decide +kernel) rfl
theorem wt_1669 : Cond.instanceMethod yX12_count ∈ zTT := zTT_of 1669 (by decide +kernel) rfl
theorem wt_1670 : Cond.selects RX12 yX12_count yX12_count ∈ zTT := zTT_of 1670 (by decide +kernel) rfl
theorem wt_1671 : Cond.code yX12_count cX12_count 2 (some .int) ∈ zTT := zTT_of 1671 (by decide +kernel) rfl
theorem wt_1672 : Cond.methodLink RX12 367 yX12_fullAll ∈ zTT := zTT_of 1672 (by decide +kernel) rfl
theorem wt_1674 : Cond.instanceMethod yX12_fullAll ∈ zTT := zTT_of 1674 (by decide +kernel) rfl
theorem wt_1675 : Cond.code yX12_fullAll cX12_fullAll 3 (some .int) ∈ zTT := zTT_of 1675 (by decide +kernel) rfl
theorem wt_1676 : Cond.methodLink RX12 370 yX12_unlikeAt ∈ zTT := zTT_of 1676 (by decide +kernel) rfl
theorem wt_1678 : Cond.instanceMethod yX12_unlikeAt ∈ zTT := zTT_of 1678 (by decide +kernel) rfl
theorem wt_1679 : Cond.code yX12_unlikeAt cX12_unlikeAt 6 (some .int) ∈ zTT := zTT_of 1679 (by decide +kernel) rfl
theorem wt_1680 : Cond.methodLink RX12 373 yX12_singleMany ∈ zTT := zTT_of 1680 (by decide +kernel) rfl
theorem wt_1682 : Cond.instanceMethod yX12_singleMany ∈ zTT := zTT_of 1682 (by decide +kernel) rfl
theorem wt_1683 : Cond.code yX12_singleMany cX12_singleMany 3 (some .int) ∈ zTT := zTT_of 1683 (by decide +kernel) rfl
theorem wt_1684 : Cond.methodLink RL 182 yX12_row ∈ zTT := zTT_of 1684 (by decide +kernel) rfl
theorem wt_1685 : Cond.instanceMethod yX12_row ∈ zTT := zTT_of 1685 (by decide +kernel) rfl
theorem wt_1686 : Cond.selects RX12 yX12_row yX12_row ∈ zTT := zTT_of 1686 (by decide +kernel) rfl
theorem wt_1687 : Cond.code yX12_row cX12_row 2 (some .long) ∈ zTT := zTT_of 1687 (by decide +kernel) rfl
theorem wt_1688 : Cond.methodLink RX12 376 yX12_lost ∈ zTT := zTT_of 1688 (by decide +kernel) rfl
theorem wt_1690 : Cond.instanceMethod yX12_lost ∈ zTT := zTT_of 1690 (by decide +kernel) rfl
theorem wt_1691 : Cond.code yX12_lost cX12_lost 1 (some .int) ∈ zTT := zTT_of 1691 (by decide +kernel) rfl
def f_X0 : List (Nat × Nat × Nat × Nat × Bool) := [(14, 0, 0, 2, false), (20, 0, 1, 2, false), (23, 0, 2, 2, false), (26, 0, 3, 0, false), (30, 0, 4, 0, false), (36, 0, 5, 0, false), (60, 0, 6, 0, false)]
theorem fo_X0_0 : z_fok RX0 (14, 0, 0, 2, false) := ⟨RX0, TX0, 7, tyX0, rfl, by decide, inX0, tyX0_ok, nmX0, Or.inl ⟨rfl, wt_261⟩, fun h => absurd h (by decide), fun h => absurd h (by decide), fun _ => ⟨Or.inl ⟨_, rfl⟩, rfl, rfl, rfl⟩⟩
theorem fo_X0_1 : z_fok RX0 (20, 0, 1, 2, false) := ⟨RX0, TX0, 7, tyX0, rfl, by decide, inX0, tyX0_ok, nmX0, Or.inl ⟨rfl, wt_262⟩, fun h => absurd h (by decide), fun h => absurd h (by decide), fun _ => ⟨Or.inl ⟨_, rfl⟩, rfl, rfl, rfl⟩⟩
theorem fo_X0_2 : z_fok RX0 (23, 0, 2, 2, false) := ⟨RX0, TX0, 7, tyX0, rfl, by decide, inX0, tyX0_ok, nmX0, Or.inl ⟨rfl, wt_263⟩, fun h => absurd h (by decide), fun h => absurd h (by decide), fun _ => ⟨Or.inl ⟨_, rfl⟩, rfl, rfl, rfl⟩⟩
theorem fo_X0_3 : z_fok RX0 (26, 0, 3, 0, false) := ⟨RX0, TX0, 7, tyX0, rfl, by decide, inX0, tyX0_ok, nmX0, Or.inl ⟨rfl, wt_264⟩, fun _ => ⟨rfl, rfl⟩, fun h => absurd h (by decide), fun h => absurd h (by decide)⟩
theorem fo_X0_4 : z_fok RX0 (30, 0, 4, 0, false) := ⟨RX0, TX0, 7, tyX0, rfl, by decide, inX0, tyX0_ok, nmX0, Or.inl ⟨rfl, wt_265⟩, fun _ => ⟨rfl, rfl⟩, fun h => absurd h (by decide), fun h => absurd h (by decide)⟩
theorem fo_X0_5 : z_fok RX0 (36, 0, 5, 0, false) := ⟨RX0, TX0, 7, tyX0, rfl, by decide, inX0, tyX0_ok, nmX0, Or.inl ⟨rfl, wt_268⟩, fun _ => ⟨rfl, rfl⟩, fun h => absurd h (by decide), fun h => absurd h (by decide)⟩
theorem fo_X0_6 : z_fok RX0 (60, 0, 6, 0, false) := ⟨RX0, TX0, 7, tyX0, rfl, by decide, inX0, tyX0_ok, nmX0, Or.inl ⟨rfl, wt_269⟩, fun _ => ⟨rfl, rfl⟩, fun h => absurd h (by decide), fun h => absurd h (by decide)⟩
theorem fo_X0 : ∀ q ∈ f_X0, z_fok RX0 q := List.forall_mem_cons.mpr ⟨fo_X0_0, List.forall_mem_cons.mpr ⟨fo_X0_1, List.forall_mem_cons.mpr ⟨fo_X0_2, List.forall_mem_cons.mpr ⟨fo_X0_3, List.forall_mem_cons.mpr ⟨fo_X0_4, List.forall_mem_cons.mpr ⟨fo_X0_5, List.forall_mem_cons.mpr ⟨fo_X0_6, fun _ h => absurd h List.not_mem_nil⟩⟩⟩⟩⟩⟩⟩
def f_X1 : List (Nat × Nat × Nat × Nat × Bool) := [(58, 5, 2, 0, true), (61, 5, 3, 0, true), (43, 5, 4, 0, true), (20, 5, 5, 0, true), (14, 1, 0, 2, false)]
theorem fo_X1_0 : z_fok RX1 (58, 5, 2, 0, true) := ⟨RX6, TX6, 6, tyX6, rfl, by decide, inX6, tyX6_ok, nmX6, Or.inr ⟨rfl, "FewProducts", by decide +kernel⟩, fun _ => ⟨rfl, rfl⟩, fun h => absurd h (by decide), fun h => absurd h (by decide)⟩
theorem fo_X1_1 : z_fok RX1 (61, 5, 3, 0, true) := ⟨RX6, TX6, 6, tyX6, rfl, by decide, inX6, tyX6_ok, nmX6, Or.inr ⟨rfl, "FewProducts", by decide +kernel⟩, fun _ => ⟨rfl, rfl⟩, fun h => absurd h (by decide), fun h => absurd h (by decide)⟩
theorem fo_X1_2 : z_fok RX1 (43, 5, 4, 0, true) := ⟨RX6, TX6, 6, tyX6, rfl, by decide, inX6, tyX6_ok, nmX6, Or.inr ⟨rfl, "FewProducts", by decide +kernel⟩, fun _ => ⟨rfl, rfl⟩, fun h => absurd h (by decide), fun h => absurd h (by decide)⟩
theorem fo_X1_3 : z_fok RX1 (20, 5, 5, 0, true) := ⟨RX6, TX6, 6, tyX6, rfl, by decide, inX6, tyX6_ok, nmX6, Or.inr ⟨rfl, "FewProducts", by decide +kernel⟩, fun _ => ⟨rfl, rfl⟩, fun h => absurd h (by decide), fun h => absurd h (by decide)⟩
theorem fo_X1_4 : z_fok RX1 (14, 1, 0, 2, false) := ⟨RX1, TX1, 1, tyX1, rfl, by decide, inX1, tyX1_ok, nmX1, Or.inl ⟨rfl, wt_227⟩, fun h => absurd h (by decide), fun h => absurd h (by decide), fun _ => ⟨Or.inl ⟨_, rfl⟩, rfl, rfl, rfl⟩⟩
theorem fo_X1 : ∀ q ∈ f_X1, z_fok RX1 q := List.forall_mem_cons.mpr ⟨fo_X1_0, List.forall_mem_cons.mpr ⟨fo_X1_1, List.forall_mem_cons.mpr ⟨fo_X1_2, List.forall_mem_cons.mpr ⟨fo_X1_3, List.forall_mem_cons.mpr ⟨fo_X1_4, fun _ h => absurd h List.not_mem_nil⟩⟩⟩⟩⟩
def f_X2 : List (Nat × Nat × Nat × Nat × Bool) := []
theorem fo_X2 : ∀ q ∈ f_X2, z_fok RX2 q := fun _ h => absurd h List.not_mem_nil
def f_X3 : List (Nat × Nat × Nat × Nat × Bool) := [(7, 2, 0, 2, false)]
theorem fo_X3_0 : z_fok RX3 (7, 2, 0, 2, false) := ⟨RX3, TX3, 1, tyX3, rfl, by decide, inX3, tyX3_ok, nmX3, Or.inl ⟨rfl, wt_136⟩, fun h => absurd h (by decide), fun h => absurd h (by decide), fun _ => ⟨Or.inr ⟨_, rfl⟩, rfl, rfl, rfl⟩⟩
theorem fo_X3 : ∀ q ∈ f_X3, z_fok RX3 q := List.forall_mem_cons.mpr ⟨fo_X3_0, fun _ h => absurd h List.not_mem_nil⟩
def f_X4 : List (Nat × Nat × Nat × Nat × Bool) := [(56, 5, 4, 0, true), (32, 5, 5, 0, true), (9, 3, 0, 0, false), (15, 3, 1, 0, false)]
theorem fo_X4_0 : z_fok RX4 (56, 5, 4, 0, true) := ⟨RX6, TX6, 6, tyX6, rfl, by decide, inX6, tyX6_ok, nmX6, Or.inr ⟨rfl, "FewProducts", by decide +kernel⟩, fun _ => ⟨rfl, rfl⟩, fun h => absurd h (by decide), fun h => absurd h (by decide)⟩
theorem fo_X4_1 : z_fok RX4 (32, 5, 5, 0, true) := ⟨RX6, TX6, 6, tyX6, rfl, by decide, inX6, tyX6_ok, nmX6, Or.inr ⟨rfl, "FewProducts", by decide +kernel⟩, fun _ => ⟨rfl, rfl⟩, fun h => absurd h (by decide), fun h => absurd h (by decide)⟩
theorem fo_X4_2 : z_fok RX4 (9, 3, 0, 0, false) := ⟨RX4, TX4, 2, tyX4, rfl, by decide, inX4, tyX4_ok, nmX4, Or.inl ⟨rfl, wt_238⟩, fun _ => ⟨rfl, rfl⟩, fun h => absurd h (by decide), fun h => absurd h (by decide)⟩
theorem fo_X4_3 : z_fok RX4 (15, 3, 1, 0, false) := ⟨RX4, TX4, 2, tyX4, rfl, by decide, inX4, tyX4_ok, nmX4, Or.inl ⟨rfl, wt_240⟩, fun _ => ⟨rfl, rfl⟩, fun h => absurd h (by decide), fun h => absurd h (by decide)⟩
theorem fo_X4 : ∀ q ∈ f_X4, z_fok RX4 q := List.forall_mem_cons.mpr ⟨fo_X4_0, List.forall_mem_cons.mpr ⟨fo_X4_1, List.forall_mem_cons.mpr ⟨fo_X4_2, List.forall_mem_cons.mpr ⟨fo_X4_3, fun _ h => absurd h List.not_mem_nil⟩⟩⟩⟩
def f_X5 : List (Nat × Nat × Nat × Nat × Bool) := [(34, 5, 5, 0, true), (11, 4, 0, 2, false), (20, 4, 1, 2, false), (24, 4, 2, 2, false), (27, 4, 3, 2, false), (61, 4, 4, 0, false), (58, 4, 5, 0, false)]
theorem fo_X5_0 : z_fok RX5 (34, 5, 5, 0, true) := ⟨RX6, TX6, 6, tyX6, rfl, by decide, inX6, tyX6_ok, nmX6, Or.inr ⟨rfl, "FewProducts", by decide +kernel⟩, fun _ => ⟨rfl, rfl⟩, fun h => absurd h (by decide), fun h => absurd h (by decide)⟩
theorem fo_X5_1 : z_fok RX5 (11, 4, 0, 2, false) := ⟨RX5, TX5, 6, tyX5, rfl, by decide, inX5, tyX5_ok, nmX5, Or.inl ⟨rfl, wt_309⟩, fun h => absurd h (by decide), fun h => absurd h (by decide), fun _ => ⟨Or.inr ⟨_, rfl⟩, rfl, rfl, rfl⟩⟩
theorem fo_X5_2 : z_fok RX5 (20, 4, 1, 2, false) := ⟨RX5, TX5, 6, tyX5, rfl, by decide, inX5, tyX5_ok, nmX5, Or.inl ⟨rfl, wt_310⟩, fun h => absurd h (by decide), fun h => absurd h (by decide), fun _ => ⟨Or.inl ⟨_, rfl⟩, rfl, rfl, rfl⟩⟩
theorem fo_X5_3 : z_fok RX5 (24, 4, 2, 2, false) := ⟨RX5, TX5, 6, tyX5, rfl, by decide, inX5, tyX5_ok, nmX5, Or.inl ⟨rfl, wt_311⟩, fun h => absurd h (by decide), fun h => absurd h (by decide), fun _ => ⟨Or.inr ⟨_, rfl⟩, rfl, rfl, rfl⟩⟩
theorem fo_X5_4 : z_fok RX5 (27, 4, 3, 2, false) := ⟨RX5, TX5, 6, tyX5, rfl, by decide, inX5, tyX5_ok, nmX5, Or.inl ⟨rfl, wt_312⟩, fun h => absurd h (by decide), fun h => absurd h (by decide), fun _ => ⟨Or.inl ⟨_, rfl⟩, rfl, rfl, rfl⟩⟩
theorem fo_X5_5 : z_fok RX5 (61, 4, 4, 0, false) := ⟨RX5, TX5, 6, tyX5, rfl, by decide, inX5, tyX5_ok, nmX5, Or.inl ⟨rfl, wt_313⟩, fun _ => ⟨rfl, rfl⟩, fun h => absurd h (by decide), fun h => absurd h (by decide)⟩
theorem fo_X5_6 : z_fok RX5 (58, 4, 5, 0, false) := ⟨RX5, TX5, 6, tyX5, rfl, by decide, inX5, tyX5_ok, nmX5, Or.inl ⟨rfl, wt_314⟩, fun _ => ⟨rfl, rfl⟩, fun h => absurd h (by decide), fun h => absurd h (by decide)⟩
theorem fo_X5 : ∀ q ∈ f_X5, z_fok RX5 q := List.forall_mem_cons.mpr ⟨fo_X5_0, List.forall_mem_cons.mpr ⟨fo_X5_1, List.forall_mem_cons.mpr ⟨fo_X5_2, List.forall_mem_cons.mpr ⟨fo_X5_3, List.forall_mem_cons.mpr ⟨fo_X5_4, List.forall_mem_cons.mpr ⟨fo_X5_5, List.forall_mem_cons.mpr ⟨fo_X5_6, fun _ h => absurd h List.not_mem_nil⟩⟩⟩⟩⟩⟩⟩
def f_X6 : List (Nat × Nat × Nat × Nat × Bool) := [(14, 5, 0, 2, false), (20, 5, 1, 0, false), (24, 5, 2, 0, false), (27, 5, 3, 0, false), (30, 5, 4, 0, false), (33, 5, 5, 0, false)]
theorem fo_X6_0 : z_fok RX6 (14, 5, 0, 2, false) := ⟨RX6, TX6, 6, tyX6, rfl, by decide, inX6, tyX6_ok, nmX6, Or.inl ⟨rfl, wt_179⟩, fun h => absurd h (by decide), fun h => absurd h (by decide), fun _ => ⟨Or.inl ⟨_, rfl⟩, rfl, rfl, rfl⟩⟩
theorem fo_X6_1 : z_fok RX6 (20, 5, 1, 0, false) := ⟨RX6, TX6, 6, tyX6, rfl, by decide, inX6, tyX6_ok, nmX6, Or.inl ⟨rfl, wt_180⟩, fun _ => ⟨rfl, rfl⟩, fun h => absurd h (by decide), fun h => absurd h (by decide)⟩
theorem fo_X6_2 : z_fok RX6 (24, 5, 2, 0, false) := ⟨RX6, TX6, 6, tyX6, rfl, by decide, inX6, tyX6_ok, nmX6, Or.inl ⟨rfl, wt_183⟩, fun _ => ⟨rfl, rfl⟩, fun h => absurd h (by decide), fun h => absurd h (by decide)⟩
theorem fo_X6_3 : z_fok RX6 (27, 5, 3, 0, false) := ⟨RX6, TX6, 6, tyX6, rfl, by decide, inX6, tyX6_ok, nmX6, Or.inl ⟨rfl, wt_187⟩, fun _ => ⟨rfl, rfl⟩, fun h => absurd h (by decide), fun h => absurd h (by decide)⟩
theorem fo_X6_4 : z_fok RX6 (30, 5, 4, 0, false) := ⟨RX6, TX6, 6, tyX6, rfl, by decide, inX6, tyX6_ok, nmX6, Or.inl ⟨rfl, wt_191⟩, fun _ => ⟨rfl, rfl⟩, fun h => absurd h (by decide), fun h => absurd h (by decide)⟩
theorem fo_X6_5 : z_fok RX6 (33, 5, 5, 0, false) := ⟨RX6, TX6, 6, tyX6, rfl, by decide, inX6, tyX6_ok, nmX6, Or.inl ⟨rfl, wt_201⟩, fun _ => ⟨rfl, rfl⟩, fun h => absurd h (by decide), fun h => absurd h (by decide)⟩
theorem fo_X6 : ∀ q ∈ f_X6, z_fok RX6 q := List.forall_mem_cons.mpr ⟨fo_X6_0, List.forall_mem_cons.mpr ⟨fo_X6_1, List.forall_mem_cons.mpr ⟨fo_X6_2, List.forall_mem_cons.mpr ⟨fo_X6_3, List.forall_mem_cons.mpr ⟨fo_X6_4, List.forall_mem_cons.mpr ⟨fo_X6_5, fun _ h => absurd h List.not_mem_nil⟩⟩⟩⟩⟩⟩
def f_X7 : List (Nat × Nat × Nat × Nat × Bool) := [(62, 5, 4, 0, true), (34, 5, 5, 0, true), (84, 0, 4, 0, true), (88, 0, 6, 0, true), (12, 6, 0, 2, false), (23, 6, 1, 2, false), (27, 6, 2, 2, false)]
theorem fo_X7_0 : z_fok RX7 (62, 5, 4, 0, true) := ⟨RX6, TX6, 6, tyX6, rfl, by decide, inX6, tyX6_ok, nmX6, Or.inr ⟨rfl, "FewProducts", by decide +kernel⟩, fun _ => ⟨rfl, rfl⟩, fun h => absurd h (by decide), fun h => absurd h (by decide)⟩
theorem fo_X7_1 : z_fok RX7 (34, 5, 5, 0, true) := ⟨RX6, TX6, 6, tyX6, rfl, by decide, inX6, tyX6_ok, nmX6, Or.inr ⟨rfl, "FewProducts", by decide +kernel⟩, fun _ => ⟨rfl, rfl⟩, fun h => absurd h (by decide), fun h => absurd h (by decide)⟩
theorem fo_X7_2 : z_fok RX7 (84, 0, 4, 0, true) := ⟨RX0, TX0, 7, tyX0, rfl, by decide, inX0, tyX0_ok, nmX0, Or.inr ⟨rfl, "FewProducts", by decide +kernel⟩, fun _ => ⟨rfl, rfl⟩, fun h => absurd h (by decide), fun h => absurd h (by decide)⟩
theorem fo_X7_3 : z_fok RX7 (88, 0, 6, 0, true) := ⟨RX0, TX0, 7, tyX0, rfl, by decide, inX0, tyX0_ok, nmX0, Or.inr ⟨rfl, "FewProducts", by decide +kernel⟩, fun _ => ⟨rfl, rfl⟩, fun h => absurd h (by decide), fun h => absurd h (by decide)⟩
theorem fo_X7_4 : z_fok RX7 (12, 6, 0, 2, false) := ⟨RX7, TX7, 3, tyX7, rfl, by decide, inX7, tyX7_ok, nmX7, Or.inl ⟨rfl, wt_288⟩, fun h => absurd h (by decide), fun h => absurd h (by decide), fun _ => ⟨Or.inl ⟨_, rfl⟩, rfl, rfl, rfl⟩⟩
theorem fo_X7_5 : z_fok RX7 (23, 6, 1, 2, false) := ⟨RX7, TX7, 3, tyX7, rfl, by decide, inX7, tyX7_ok, nmX7, Or.inl ⟨rfl, wt_289⟩, fun h => absurd h (by decide), fun h => absurd h (by decide), fun _ => ⟨Or.inl ⟨_, rfl⟩, rfl, rfl, rfl⟩⟩
theorem fo_X7_6 : z_fok RX7 (27, 6, 2, 2, false) := ⟨RX7, TX7, 3, tyX7, rfl, by decide, inX7, tyX7_ok, nmX7, Or.inl ⟨rfl, wt_290⟩, fun h => absurd h (by decide), fun h => absurd h (by decide), fun _ => ⟨Or.inl ⟨_, rfl⟩, rfl, rfl, rfl⟩⟩
theorem fo_X7 : ∀ q ∈ f_X7, z_fok RX7 q := List.forall_mem_cons.mpr ⟨fo_X7_0, List.forall_mem_cons.mpr ⟨fo_X7_1, List.forall_mem_cons.mpr ⟨fo_X7_2, List.forall_mem_cons.mpr ⟨fo_X7_3, List.forall_mem_cons.mpr ⟨fo_X7_4, List.forall_mem_cons.mpr ⟨fo_X7_5, List.forall_mem_cons.mpr ⟨fo_X7_6, fun _ h => absurd h List.not_mem_nil⟩⟩⟩⟩⟩⟩⟩
def f_X8 : List (Nat × Nat × Nat × Nat × Bool) := [(14, 7, 0, 2, false), (20, 7, 1, 0, false), (28, 7, 2, 0, false), (62, 7, 3, 0, false), (69, 5, 4, 0, true), (59, 5, 5, 0, true)]
theorem fo_X8_0 : z_fok RX8 (14, 7, 0, 2, false) := ⟨RX8, TX8, 4, tyX8, rfl, by decide, inX8, tyX8_ok, nmX8, Or.inl ⟨rfl, wt_141⟩, fun h => absurd h (by decide), fun h => absurd h (by decide), fun _ => ⟨Or.inl ⟨_, rfl⟩, rfl, rfl, rfl⟩⟩
theorem fo_X8_1 : z_fok RX8 (20, 7, 1, 0, false) := ⟨RX8, TX8, 4, tyX8, rfl, by decide, inX8, tyX8_ok, nmX8, Or.inl ⟨rfl, wt_142⟩, fun _ => ⟨rfl, rfl⟩, fun h => absurd h (by decide), fun h => absurd h (by decide)⟩
theorem fo_X8_2 : z_fok RX8 (28, 7, 2, 0, false) := ⟨RX8, TX8, 4, tyX8, rfl, by decide, inX8, tyX8_ok, nmX8, Or.inl ⟨rfl, wt_144⟩, fun _ => ⟨rfl, rfl⟩, fun h => absurd h (by decide), fun h => absurd h (by decide)⟩
theorem fo_X8_3 : z_fok RX8 (62, 7, 3, 0, false) := ⟨RX8, TX8, 4, tyX8, rfl, by decide, inX8, tyX8_ok, nmX8, Or.inl ⟨rfl, wt_145⟩, fun _ => ⟨rfl, rfl⟩, fun h => absurd h (by decide), fun h => absurd h (by decide)⟩
theorem fo_X8_4 : z_fok RX8 (69, 5, 4, 0, true) := ⟨RX6, TX6, 6, tyX6, rfl, by decide, inX6, tyX6_ok, nmX6, Or.inr ⟨rfl, "FewProducts", by decide +kernel⟩, fun _ => ⟨rfl, rfl⟩, fun h => absurd h (by decide), fun h => absurd h (by decide)⟩
theorem fo_X8_5 : z_fok RX8 (59, 5, 5, 0, true) := ⟨RX6, TX6, 6, tyX6, rfl, by decide, inX6, tyX6_ok, nmX6, Or.inr ⟨rfl, "FewProducts", by decide +kernel⟩, fun _ => ⟨rfl, rfl⟩, fun h => absurd h (by decide), fun h => absurd h (by decide)⟩
theorem fo_X8 : ∀ q ∈ f_X8, z_fok RX8 q := List.forall_mem_cons.mpr ⟨fo_X8_0, List.forall_mem_cons.mpr ⟨fo_X8_1, List.forall_mem_cons.mpr ⟨fo_X8_2, List.forall_mem_cons.mpr ⟨fo_X8_3, List.forall_mem_cons.mpr ⟨fo_X8_4, List.forall_mem_cons.mpr ⟨fo_X8_5, fun _ h => absurd h List.not_mem_nil⟩⟩⟩⟩⟩⟩
def f_X9 : List (Nat × Nat × Nat × Nat × Bool) := [(9, 8, 0, 2, false), (15, 8, 1, 0, false)]
theorem fo_X9_0 : z_fok RX9 (9, 8, 0, 2, false) := ⟨RX9, TX9, 2, tyX9, rfl, by decide, inX9, tyX9_ok, nmX9, Or.inl ⟨rfl, wt_162⟩, fun h => absurd h (by decide), fun h => absurd h (by decide), fun _ => ⟨Or.inr ⟨_, rfl⟩, rfl, rfl, rfl⟩⟩
theorem fo_X9_1 : z_fok RX9 (15, 8, 1, 0, false) := ⟨RX9, TX9, 2, tyX9, rfl, by decide, inX9, tyX9_ok, nmX9, Or.inl ⟨rfl, wt_163⟩, fun _ => ⟨rfl, rfl⟩, fun h => absurd h (by decide), fun h => absurd h (by decide)⟩
theorem fo_X9 : ∀ q ∈ f_X9, z_fok RX9 q := List.forall_mem_cons.mpr ⟨fo_X9_0, List.forall_mem_cons.mpr ⟨fo_X9_1, fun _ h => absurd h List.not_mem_nil⟩⟩
def f_X10 : List (Nat × Nat × Nat × Nat × Bool) := [(23, 5, 1, 0, true), (26, 5, 2, 0, true), (29, 5, 3, 0, true), (56, 5, 4, 0, true), (9, 5, 5, 0, true)]
theorem fo_X10_0 : z_fok RX10 (23, 5, 1, 0, true) := ⟨RX6, TX6, 6, tyX6, rfl, by decide, inX6, tyX6_ok, nmX6, Or.inr ⟨rfl, "FewProducts", by decide +kernel⟩, fun _ => ⟨rfl, rfl⟩, fun h => absurd h (by decide), fun h => absurd h (by decide)⟩
theorem fo_X10_1 : z_fok RX10 (26, 5, 2, 0, true) := ⟨RX6, TX6, 6, tyX6, rfl, by decide, inX6, tyX6_ok, nmX6, Or.inr ⟨rfl, "FewProducts", by decide +kernel⟩, fun _ => ⟨rfl, rfl⟩, fun h => absurd h (by decide), fun h => absurd h (by decide)⟩
theorem fo_X10_2 : z_fok RX10 (29, 5, 3, 0, true) := ⟨RX6, TX6, 6, tyX6, rfl, by decide, inX6, tyX6_ok, nmX6, Or.inr ⟨rfl, "FewProducts", by decide +kernel⟩, fun _ => ⟨rfl, rfl⟩, fun h => absurd h (by decide), fun h => absurd h (by decide)⟩
theorem fo_X10_3 : z_fok RX10 (56, 5, 4, 0, true) := ⟨RX6, TX6, 6, tyX6, rfl, by decide, inX6, tyX6_ok, nmX6, Or.inr ⟨rfl, "FewProducts", by decide +kernel⟩, fun _ => ⟨rfl, rfl⟩, fun h => absurd h (by decide), fun h => absurd h (by decide)⟩
theorem fo_X10_4 : z_fok RX10 (9, 5, 5, 0, true) := ⟨RX6, TX6, 6, tyX6, rfl, by decide, inX6, tyX6_ok, nmX6, Or.inr ⟨rfl, "FewProducts", by decide +kernel⟩, fun _ => ⟨rfl, rfl⟩, fun h => absurd h (by decide), fun h => absurd h (by decide)⟩
theorem fo_X10 : ∀ q ∈ f_X10, z_fok RX10 q := List.forall_mem_cons.mpr ⟨fo_X10_0, List.forall_mem_cons.mpr ⟨fo_X10_1, List.forall_mem_cons.mpr ⟨fo_X10_2, List.forall_mem_cons.mpr ⟨fo_X10_3, List.forall_mem_cons.mpr ⟨fo_X10_4, fun _ h => absurd h List.not_mem_nil⟩⟩⟩⟩⟩
def f_X11 : List (Nat × Nat × Nat × Nat × Bool) := [(90, 7, 1, 0, true), (242, 7, 3, 0, true), (361, 8, 1, 0, true), (314, 5, 1, 0, true), (317, 5, 2, 0, true), (320, 5, 3, 0, true), (135, 5, 4, 0, true), (83, 5, 5, 0, true), (174, 1, 0, 3, true), (220, 3, 0, 0, true), (223, 3, 1, 0, true), (345, 0, 4, 0, true), (226, 6, 2, 3, true), (358, 4, 5, 0, true), (10, 9, 0, 2, false), (19, 9, 1, 2, false), (26, 9, 2, 2, false), (30, 9, 3, 2, false), (33, 9, 4, 2, false), (39, 9, 5, 2, false), (46, 9, 6, 2, false), (53, 9, 7, 2, false), (60, 9, 8, 2, false), (67, 9, 9, 2, false), (79, 9, 10, 1, false)]
theorem fo_X11_0 : z_fok RX11 (90, 7, 1, 0, true) := ⟨RX8, TX8, 4, tyX8, rfl, by decide, inX8, tyX8_ok, nmX8, Or.inr ⟨rfl, "FewProducts", by decide +kernel⟩, fun _ => ⟨rfl, rfl⟩, fun h => absurd h (by decide), fun h => absurd h (by decide)⟩
theorem fo_X11_1 : z_fok RX11 (242, 7, 3, 0, true) := ⟨RX8, TX8, 4, tyX8, rfl, by decide, inX8, tyX8_ok, nmX8, Or.inr ⟨rfl, "FewProducts", by decide +kernel⟩, fun _ => ⟨rfl, rfl⟩, fun h => absurd h (by decide), fun h => absurd h (by decide)⟩
theorem fo_X11_2 : z_fok RX11 (361, 8, 1, 0, true) := ⟨RX9, TX9, 2, tyX9, rfl, by decide, inX9, tyX9_ok, nmX9, Or.inr ⟨rfl, "FewProducts", by decide +kernel⟩, fun _ => ⟨rfl, rfl⟩, fun h => absurd h (by decide), fun h => absurd h (by decide)⟩
theorem fo_X11_3 : z_fok RX11 (314, 5, 1, 0, true) := ⟨RX6, TX6, 6, tyX6, rfl, by decide, inX6, tyX6_ok, nmX6, Or.inr ⟨rfl, "FewProducts", by decide +kernel⟩, fun _ => ⟨rfl, rfl⟩, fun h => absurd h (by decide), fun h => absurd h (by decide)⟩
theorem fo_X11_4 : z_fok RX11 (317, 5, 2, 0, true) := ⟨RX6, TX6, 6, tyX6, rfl, by decide, inX6, tyX6_ok, nmX6, Or.inr ⟨rfl, "FewProducts", by decide +kernel⟩, fun _ => ⟨rfl, rfl⟩, fun h => absurd h (by decide), fun h => absurd h (by decide)⟩
theorem fo_X11_5 : z_fok RX11 (320, 5, 3, 0, true) := ⟨RX6, TX6, 6, tyX6, rfl, by decide, inX6, tyX6_ok, nmX6, Or.inr ⟨rfl, "FewProducts", by decide +kernel⟩, fun _ => ⟨rfl, rfl⟩, fun h => absurd h (by decide), fun h => absurd h (by decide)⟩
theorem fo_X11_6 : z_fok RX11 (135, 5, 4, 0, true) := ⟨RX6, TX6, 6, tyX6, rfl, by decide, inX6, tyX6_ok, nmX6, Or.inr ⟨rfl, "FewProducts", by decide +kernel⟩, fun _ => ⟨rfl, rfl⟩, fun h => absurd h (by decide), fun h => absurd h (by decide)⟩
theorem fo_X11_7 : z_fok RX11 (83, 5, 5, 0, true) := ⟨RX6, TX6, 6, tyX6, rfl, by decide, inX6, tyX6_ok, nmX6, Or.inr ⟨rfl, "FewProducts", by decide +kernel⟩, fun _ => ⟨rfl, rfl⟩, fun h => absurd h (by decide), fun h => absurd h (by decide)⟩
theorem fo_X11_8 : z_fok RX11 (174, 1, 0, 3, true) := ⟨RX1, TX1, 1, tyX1, rfl, by decide, inX1, tyX1_ok, nmX1, Or.inr ⟨rfl, "FewProducts", by decide +kernel⟩, fun h => absurd h (by decide), fun h => absurd h (by decide), fun h => absurd h (by decide)⟩
theorem fo_X11_9 : z_fok RX11 (220, 3, 0, 0, true) := ⟨RX4, TX4, 2, tyX4, rfl, by decide, inX4, tyX4_ok, nmX4, Or.inr ⟨rfl, "FewProducts", by decide +kernel⟩, fun _ => ⟨rfl, rfl⟩, fun h => absurd h (by decide), fun h => absurd h (by decide)⟩
theorem fo_X11_10 : z_fok RX11 (223, 3, 1, 0, true) := ⟨RX4, TX4, 2, tyX4, rfl, by decide, inX4, tyX4_ok, nmX4, Or.inr ⟨rfl, "FewProducts", by decide +kernel⟩, fun _ => ⟨rfl, rfl⟩, fun h => absurd h (by decide), fun h => absurd h (by decide)⟩
theorem fo_X11_11 : z_fok RX11 (345, 0, 4, 0, true) := ⟨RX0, TX0, 7, tyX0, rfl, by decide, inX0, tyX0_ok, nmX0, Or.inr ⟨rfl, "FewProducts", by decide +kernel⟩, fun _ => ⟨rfl, rfl⟩, fun h => absurd h (by decide), fun h => absurd h (by decide)⟩
theorem fo_X11_12 : z_fok RX11 (226, 6, 2, 3, true) := ⟨RX7, TX7, 3, tyX7, rfl, by decide, inX7, tyX7_ok, nmX7, Or.inr ⟨rfl, "FewProducts", by decide +kernel⟩, fun h => absurd h (by decide), fun h => absurd h (by decide), fun h => absurd h (by decide)⟩
theorem fo_X11_13 : z_fok RX11 (358, 4, 5, 0, true) := ⟨RX5, TX5, 6, tyX5, rfl, by decide, inX5, tyX5_ok, nmX5, Or.inr ⟨rfl, "FewProducts", by decide +kernel⟩, fun _ => ⟨rfl, rfl⟩, fun h => absurd h (by decide), fun h => absurd h (by decide)⟩
theorem fo_X11_14 : z_fok RX11 (10, 9, 0, 2, false) := ⟨RX11, TX11, 11, tyX11, rfl, by decide, inX11, tyX11_ok, nmX11, Or.inl ⟨rfl, wt_360⟩, fun h => absurd h (by decide), fun h => absurd h (by decide), fun _ => ⟨Or.inl ⟨_, rfl⟩, rfl, rfl, rfl⟩⟩
theorem fo_X11_15 : z_fok RX11 (19, 9, 1, 2, false) := ⟨RX11, TX11, 11, tyX11, rfl, by decide, inX11, tyX11_ok, nmX11, Or.inl ⟨rfl, wt_361⟩, fun h => absurd h (by decide), fun h => absurd h (by decide), fun _ => ⟨Or.inl ⟨_, rfl⟩, rfl, rfl, rfl⟩⟩
theorem fo_X11_16 : z_fok RX11 (26, 9, 2, 2, false) := ⟨RX11, TX11, 11, tyX11, rfl, by decide, inX11, tyX11_ok, nmX11, Or.inl ⟨rfl, wt_362⟩, fun h => absurd h (by decide), fun h => absurd h (by decide), fun _ => ⟨Or.inl ⟨_, rfl⟩, rfl, rfl, rfl⟩⟩
theorem fo_X11_17 : z_fok RX11 (30, 9, 3, 2, false) := ⟨RX11, TX11, 11, tyX11, rfl, by decide, inX11, tyX11_ok, nmX11, Or.inl ⟨rfl, wt_363⟩, fun h => absurd h (by decide), fun h => absurd h (by decide), fun _ => ⟨Or.inl ⟨_, rfl⟩, rfl, rfl, rfl⟩⟩
theorem fo_X11_18 : z_fok RX11 (33, 9, 4, 2, false) := ⟨RX11, TX11, 11, tyX11, rfl, by decide, inX11, tyX11_ok, nmX11, Or.inl ⟨rfl, wt_364⟩, fun h => absurd h (by decide), fun h => absurd h (by decide), fun _ => ⟨Or.inl ⟨_, rfl⟩, rfl, rfl, rfl⟩⟩
theorem fo_X11_19 : z_fok RX11 (39, 9, 5, 2, false) := ⟨RX11, TX11, 11, tyX11, rfl, by decide, inX11, tyX11_ok, nmX11, Or.inl ⟨rfl, wt_365⟩, fun h => absurd h (by decide), fun h => absurd h (by decide), fun _ => ⟨Or.inl ⟨_, rfl⟩, rfl, rfl, rfl⟩⟩
theorem fo_X11_20 : z_fok RX11 (46, 9, 6, 2, false) := ⟨RX11, TX11, 11, tyX11, rfl, by decide, inX11, tyX11_ok, nmX11, Or.inl ⟨rfl, wt_366⟩, fun h => absurd h (by decide), fun h => absurd h (by decide), fun _ => ⟨Or.inl ⟨_, rfl⟩, rfl, rfl, rfl⟩⟩
theorem fo_X11_21 : z_fok RX11 (53, 9, 7, 2, false) := ⟨RX11, TX11, 11, tyX11, rfl, by decide, inX11, tyX11_ok, nmX11, Or.inl ⟨rfl, wt_367⟩, fun h => absurd h (by decide), fun h => absurd h (by decide), fun _ => ⟨Or.inl ⟨_, rfl⟩, rfl, rfl, rfl⟩⟩
theorem fo_X11_22 : z_fok RX11 (60, 9, 8, 2, false) := ⟨RX11, TX11, 11, tyX11, rfl, by decide, inX11, tyX11_ok, nmX11, Or.inl ⟨rfl, wt_368⟩, fun h => absurd h (by decide), fun h => absurd h (by decide), fun _ => ⟨Or.inl ⟨_, rfl⟩, rfl, rfl, rfl⟩⟩
theorem fo_X11_23 : z_fok RX11 (67, 9, 9, 2, false) := ⟨RX11, TX11, 11, tyX11, rfl, by decide, inX11, tyX11_ok, nmX11, Or.inl ⟨rfl, wt_369⟩, fun h => absurd h (by decide), fun h => absurd h (by decide), fun _ => ⟨Or.inl ⟨_, rfl⟩, rfl, rfl, rfl⟩⟩
theorem fo_X11_24 : z_fok RX11 (79, 9, 10, 1, false) := ⟨RX11, TX11, 11, tyX11, rfl, by decide, inX11, tyX11_ok, nmX11, Or.inl ⟨rfl, wt_370⟩, fun h => absurd h (by decide), fun _ => ⟨rfl, rfl⟩, fun h => absurd h (by decide)⟩
theorem fo_X11 : ∀ q ∈ f_X11, z_fok RX11 q := List.forall_mem_cons.mpr ⟨fo_X11_0, List.forall_mem_cons.mpr ⟨fo_X11_1, List.forall_mem_cons.mpr ⟨fo_X11_2, List.forall_mem_cons.mpr ⟨fo_X11_3, List.forall_mem_cons.mpr ⟨fo_X11_4, List.forall_mem_cons.mpr ⟨fo_X11_5, List.forall_mem_cons.mpr ⟨fo_X11_6, List.forall_mem_cons.mpr ⟨fo_X11_7, List.forall_mem_cons.mpr ⟨fo_X11_8, List.forall_mem_cons.mpr ⟨fo_X11_9, List.forall_mem_cons.mpr ⟨fo_X11_10, List.forall_mem_cons.mpr ⟨fo_X11_11, List.forall_mem_cons.mpr ⟨fo_X11_12, List.forall_mem_cons.mpr ⟨fo_X11_13, List.forall_mem_cons.mpr ⟨fo_X11_14, List.forall_mem_cons.mpr ⟨fo_X11_15, List.forall_mem_cons.mpr ⟨fo_X11_16, List.forall_mem_cons.mpr ⟨fo_X11_17, List.forall_mem_cons.mpr ⟨fo_X11_18, List.forall_mem_cons.mpr ⟨fo_X11_19, List.forall_mem_cons.mpr ⟨fo_X11_20, List.forall_mem_cons.mpr ⟨fo_X11_21, List.forall_mem_cons.mpr ⟨fo_X11_22, List.forall_mem_cons.mpr ⟨fo_X11_23, List.forall_mem_cons.mpr ⟨fo_X11_24, fun _ h => absurd h List.not_mem_nil⟩⟩⟩⟩⟩⟩⟩⟩⟩⟩⟩⟩⟩⟩⟩⟩⟩⟩⟩⟩⟩⟩⟩⟩⟩
def f_X12 : List (Nat × Nat × Nat × Nat × Bool) := [(7, 10, 0, 2, false), (65, 10, 1, 0, false), (91, 10, 2, 0, false), (13, 10, 3, 2, false), (16, 10, 4, 0, false), (20, 10, 5, 2, false), (23, 10, 6, 2, false), (26, 10, 7, 2, false), (77, 10, 8, 0, false), (30, 10, 9, 2, false), (74, 10, 10, 0, false), (71, 10, 11, 0, false), (113, 10, 12, 0, false), (116, 10, 13, 0, false), (119, 10, 14, 0, false), (34, 10, 15, 2, false), (144, 10, 16, 0, false), (177, 10, 17, 0, false), (180, 10, 18, 0, false), (37, 10, 19, 2, false), (235, 10, 20, 0, false), (238, 10, 21, 0, false), (40, 10, 22, 2, false), (43, 10, 23, 2, false), (251, 10, 24, 0, false), (46, 10, 25, 2, false), (49, 10, 26, 2, false), (52, 10, 27, 2, false), (56, 10, 28, 2, false), (333, 10, 29, 0, false), (59, 10, 30, 2, false), (62, 10, 31, 2, false), (348, 10, 32, 0, false)]
theorem fo_X12_0 : z_fok RX12 (7, 10, 0, 2, false) := ⟨RX12, TX12, 33, tyX12, rfl, by decide, inX12, tyX12_ok, nmX12, Or.inl ⟨rfl, wt_1139⟩, fun h => absurd h (by decide), fun h => absurd h (by decide), fun _ => ⟨Or.inr ⟨_, rfl⟩, rfl, rfl, rfl⟩⟩
theorem fo_X12_1 : z_fok RX12 (65, 10, 1, 0, false) := ⟨RX12, TX12, 33, tyX12, rfl, by decide, inX12, tyX12_ok, nmX12, Or.inl ⟨rfl, wt_1140⟩, fun _ => ⟨rfl, rfl⟩, fun h => absurd h (by decide), fun h => absurd h (by decide)⟩
theorem fo_X12_2 : z_fok RX12 (91, 10, 2, 0, false) := ⟨RX12, TX12, 33, tyX12, rfl, by decide, inX12, tyX12_ok, nmX12, Or.inl ⟨rfl, wt_1141⟩, fun _ => ⟨rfl, rfl⟩, fun h => absurd h (by decide), fun h => absurd h (by decide)⟩
theorem fo_X12_3 : z_fok RX12 (13, 10, 3, 2, false) := ⟨RX12, TX12, 33, tyX12, rfl, by decide, inX12, tyX12_ok, nmX12, Or.inl ⟨rfl, wt_1142⟩, fun h => absurd h (by decide), fun h => absurd h (by decide), fun _ => ⟨Or.inr ⟨_, rfl⟩, rfl, rfl, rfl⟩⟩
theorem fo_X12_4 : z_fok RX12 (16, 10, 4, 0, false) := ⟨RX12, TX12, 33, tyX12, rfl, by decide, inX12, tyX12_ok, nmX12, Or.inl ⟨rfl, wt_1143⟩, fun _ => ⟨rfl, rfl⟩, fun h => absurd h (by decide), fun h => absurd h (by decide)⟩
theorem fo_X12_5 : z_fok RX12 (20, 10, 5, 2, false) := ⟨RX12, TX12, 33, tyX12, rfl, by decide, inX12, tyX12_ok, nmX12, Or.inl ⟨rfl, wt_1144⟩, fun h => absurd h (by decide), fun h => absurd h (by decide), fun _ => ⟨Or.inr ⟨_, rfl⟩, rfl, rfl, rfl⟩⟩
theorem fo_X12_6 : z_fok RX12 (23, 10, 6, 2, false) := ⟨RX12, TX12, 33, tyX12, rfl, by decide, inX12, tyX12_ok, nmX12, Or.inl ⟨rfl, wt_1145⟩, fun h => absurd h (by decide), fun h => absurd h (by decide), fun _ => ⟨Or.inr ⟨_, rfl⟩, rfl, rfl, rfl⟩⟩
theorem fo_X12_7 : z_fok RX12 (26, 10, 7, 2, false) := ⟨RX12, TX12, 33, tyX12, rfl, by decide, inX12, tyX12_ok, nmX12, Or.inl ⟨rfl, wt_1146⟩, fun h => absurd h (by decide), fun h => absurd h (by decide), fun _ => ⟨Or.inr ⟨_, rfl⟩, rfl, rfl, rfl⟩⟩
theorem fo_X12_8 : z_fok RX12 (77, 10, 8, 0, false) := ⟨RX12, TX12, 33, tyX12, rfl, by decide, inX12, tyX12_ok, nmX12, Or.inl ⟨rfl, wt_1147⟩, fun _ => ⟨rfl, rfl⟩, fun h => absurd h (by decide), fun h => absurd h (by decide)⟩
theorem fo_X12_9 : z_fok RX12 (30, 10, 9, 2, false) := ⟨RX12, TX12, 33, tyX12, rfl, by decide, inX12, tyX12_ok, nmX12, Or.inl ⟨rfl, wt_1148⟩, fun h => absurd h (by decide), fun h => absurd h (by decide), fun _ => ⟨Or.inr ⟨_, rfl⟩, rfl, rfl, rfl⟩⟩
theorem fo_X12_10 : z_fok RX12 (74, 10, 10, 0, false) := ⟨RX12, TX12, 33, tyX12, rfl, by decide, inX12, tyX12_ok, nmX12, Or.inl ⟨rfl, wt_1149⟩, fun _ => ⟨rfl, rfl⟩, fun h => absurd h (by decide), fun h => absurd h (by decide)⟩
theorem fo_X12_11 : z_fok RX12 (71, 10, 11, 0, false) := ⟨RX12, TX12, 33, tyX12, rfl, by decide, inX12, tyX12_ok, nmX12, Or.inl ⟨rfl, wt_1150⟩, fun _ => ⟨rfl, rfl⟩, fun h => absurd h (by decide), fun h => absurd h (by decide)⟩
theorem fo_X12_12 : z_fok RX12 (113, 10, 12, 0, false) := ⟨RX12, TX12, 33, tyX12, rfl, by decide, inX12, tyX12_ok, nmX12, Or.inl ⟨rfl, wt_1151⟩, fun _ => ⟨rfl, rfl⟩, fun h => absurd h (by decide), fun h => absurd h (by decide)⟩
theorem fo_X12_13 : z_fok RX12 (116, 10, 13, 0, false) := ⟨RX12, TX12, 33, tyX12, rfl, by decide, inX12, tyX12_ok, nmX12, Or.inl ⟨rfl, wt_1152⟩, fun _ => ⟨rfl, rfl⟩, fun h => absurd h (by decide), fun h => absurd h (by decide)⟩
theorem fo_X12_14 : z_fok RX12 (119, 10, 14, 0, false) := ⟨RX12, TX12, 33, tyX12, rfl, by decide, inX12, tyX12_ok, nmX12, Or.inl ⟨rfl, wt_1153⟩, fun _ => ⟨rfl, rfl⟩, fun h => absurd h (by decide), fun h => absurd h (by decide)⟩
theorem fo_X12_15 : z_fok RX12 (34, 10, 15, 2, false) := ⟨RX12, TX12, 33, tyX12, rfl, by decide, inX12, tyX12_ok, nmX12, Or.inl ⟨rfl, wt_1154⟩, fun h => absurd h (by decide), fun h => absurd h (by decide), fun _ => ⟨Or.inr ⟨_, rfl⟩, rfl, rfl, rfl⟩⟩
theorem fo_X12_16 : z_fok RX12 (144, 10, 16, 0, false) := ⟨RX12, TX12, 33, tyX12, rfl, by decide, inX12, tyX12_ok, nmX12, Or.inl ⟨rfl, wt_1155⟩, fun _ => ⟨rfl, rfl⟩, fun h => absurd h (by decide), fun h => absurd h (by decide)⟩
theorem fo_X12_17 : z_fok RX12 (177, 10, 17, 0, false) := ⟨RX12, TX12, 33, tyX12, rfl, by decide, inX12, tyX12_ok, nmX12, Or.inl ⟨rfl, wt_1156⟩, fun _ => ⟨rfl, rfl⟩, fun h => absurd h (by decide), fun h => absurd h (by decide)⟩
theorem fo_X12_18 : z_fok RX12 (180, 10, 18, 0, false) := ⟨RX12, TX12, 33, tyX12, rfl, by decide, inX12, tyX12_ok, nmX12, Or.inl ⟨rfl, wt_1157⟩, fun _ => ⟨rfl, rfl⟩, fun h => absurd h (by decide), fun h => absurd h (by decide)⟩
theorem fo_X12_19 : z_fok RX12 (37, 10, 19, 2, false) := ⟨RX12, TX12, 33, tyX12, rfl, by decide, inX12, tyX12_ok, nmX12, Or.inl ⟨rfl, wt_1158⟩, fun h => absurd h (by decide), fun h => absurd h (by decide), fun _ => ⟨Or.inr ⟨_, rfl⟩, rfl, rfl, rfl⟩⟩
theorem fo_X12_20 : z_fok RX12 (235, 10, 20, 0, false) := ⟨RX12, TX12, 33, tyX12, rfl, by decide, inX12, tyX12_ok, nmX12, Or.inl ⟨rfl, wt_1159⟩, fun _ => ⟨rfl, rfl⟩, fun h => absurd h (by decide), fun h => absurd h (by decide)⟩
theorem fo_X12_21 : z_fok RX12 (238, 10, 21, 0, false) := ⟨RX12, TX12, 33, tyX12, rfl, by decide, inX12, tyX12_ok, nmX12, Or.inl ⟨rfl, wt_1160⟩, fun _ => ⟨rfl, rfl⟩, fun h => absurd h (by decide), fun h => absurd h (by decide)⟩
theorem fo_X12_22 : z_fok RX12 (40, 10, 22, 2, false) := ⟨RX12, TX12, 33, tyX12, rfl, by decide, inX12, tyX12_ok, nmX12, Or.inl ⟨rfl, wt_1161⟩, fun h => absurd h (by decide), fun h => absurd h (by decide), fun _ => ⟨Or.inr ⟨_, rfl⟩, rfl, rfl, rfl⟩⟩
theorem fo_X12_23 : z_fok RX12 (43, 10, 23, 2, false) := ⟨RX12, TX12, 33, tyX12, rfl, by decide, inX12, tyX12_ok, nmX12, Or.inl ⟨rfl, wt_1162⟩, fun h => absurd h (by decide), fun h => absurd h (by decide), fun _ => ⟨Or.inr ⟨_, rfl⟩, rfl, rfl, rfl⟩⟩
theorem fo_X12_24 : z_fok RX12 (251, 10, 24, 0, false) := ⟨RX12, TX12, 33, tyX12, rfl, by decide, inX12, tyX12_ok, nmX12, Or.inl ⟨rfl, wt_1163⟩, fun _ => ⟨rfl, rfl⟩, fun h => absurd h (by decide), fun h => absurd h (by decide)⟩
theorem fo_X12_25 : z_fok RX12 (46, 10, 25, 2, false) := ⟨RX12, TX12, 33, tyX12, rfl, by decide, inX12, tyX12_ok, nmX12, Or.inl ⟨rfl, wt_1164⟩, fun h => absurd h (by decide), fun h => absurd h (by decide), fun _ => ⟨Or.inr ⟨_, rfl⟩, rfl, rfl, rfl⟩⟩
theorem fo_X12_26 : z_fok RX12 (49, 10, 26, 2, false) := ⟨RX12, TX12, 33, tyX12, rfl, by decide, inX12, tyX12_ok, nmX12, Or.inl ⟨rfl, wt_1165⟩, fun h => absurd h (by decide), fun h => absurd h (by decide), fun _ => ⟨Or.inr ⟨_, rfl⟩, rfl, rfl, rfl⟩⟩
theorem fo_X12_27 : z_fok RX12 (52, 10, 27, 2, false) := ⟨RX12, TX12, 33, tyX12, rfl, by decide, inX12, tyX12_ok, nmX12, Or.inl ⟨rfl, wt_1166⟩, fun h => absurd h (by decide), fun h => absurd h (by decide), fun _ => ⟨Or.inr ⟨_, rfl⟩, rfl, rfl, rfl⟩⟩
theorem fo_X12_28 : z_fok RX12 (56, 10, 28, 2, false) := ⟨RX12, TX12, 33, tyX12, rfl, by decide, inX12, tyX12_ok, nmX12, Or.inl ⟨rfl, wt_1167⟩, fun h => absurd h (by decide), fun h => absurd h (by decide), fun _ => ⟨Or.inr ⟨_, rfl⟩, rfl, rfl, rfl⟩⟩
theorem fo_X12_29 : z_fok RX12 (333, 10, 29, 0, false) := ⟨RX12, TX12, 33, tyX12, rfl, by decide, inX12, tyX12_ok, nmX12, Or.inl ⟨rfl, wt_1168⟩, fun _ => ⟨rfl, rfl⟩, fun h => absurd h (by decide), fun h => absurd h (by decide)⟩
theorem fo_X12_30 : z_fok RX12 (59, 10, 30, 2, false) := ⟨RX12, TX12, 33, tyX12, rfl, by decide, inX12, tyX12_ok, nmX12, Or.inl ⟨rfl, wt_1169⟩, fun h => absurd h (by decide), fun h => absurd h (by decide), fun _ => ⟨Or.inr ⟨_, rfl⟩, rfl, rfl, rfl⟩⟩
theorem fo_X12_31 : z_fok RX12 (62, 10, 31, 2, false) := ⟨RX12, TX12, 33, tyX12, rfl, by decide, inX12, tyX12_ok, nmX12, Or.inl ⟨rfl, wt_1170⟩, fun h => absurd h (by decide), fun h => absurd h (by decide), fun _ => ⟨Or.inr ⟨_, rfl⟩, rfl, rfl, rfl⟩⟩
theorem fo_X12_32 : z_fok RX12 (348, 10, 32, 0, false) := ⟨RX12, TX12, 33, tyX12, rfl, by decide, inX12, tyX12_ok, nmX12, Or.inl ⟨rfl, wt_1171⟩, fun _ => ⟨rfl, rfl⟩, fun h => absurd h (by decide), fun h => absurd h (by decide)⟩
theorem fo_X12 : ∀ q ∈ f_X12, z_fok RX12 q := List.forall_mem_cons.mpr ⟨fo_X12_0, List.forall_mem_cons.mpr ⟨fo_X12_1, List.forall_mem_cons.mpr ⟨fo_X12_2, List.forall_mem_cons.mpr ⟨fo_X12_3, List.forall_mem_cons.mpr ⟨fo_X12_4, List.forall_mem_cons.mpr ⟨fo_X12_5, List.forall_mem_cons.mpr ⟨fo_X12_6, List.forall_mem_cons.mpr ⟨fo_X12_7, List.forall_mem_cons.mpr ⟨fo_X12_8, List.forall_mem_cons.mpr ⟨fo_X12_9, List.forall_mem_cons.mpr ⟨fo_X12_10, List.forall_mem_cons.mpr ⟨fo_X12_11, List.forall_mem_cons.mpr ⟨fo_X12_12, List.forall_mem_cons.mpr ⟨fo_X12_13, List.forall_mem_cons.mpr ⟨fo_X12_14, List.forall_mem_cons.mpr ⟨fo_X12_15, List.forall_mem_cons.mpr ⟨fo_X12_16, List.forall_mem_cons.mpr ⟨fo_X12_17, List.forall_mem_cons.mpr ⟨fo_X12_18, List.forall_mem_cons.mpr ⟨fo_X12_19, List.forall_mem_cons.mpr ⟨fo_X12_20, List.forall_mem_cons.mpr ⟨fo_X12_21, List.forall_mem_cons.mpr ⟨fo_X12_22, List.forall_mem_cons.mpr ⟨fo_X12_23, List.forall_mem_cons.mpr ⟨fo_X12_24, List.forall_mem_cons.mpr ⟨fo_X12_25, List.forall_mem_cons.mpr ⟨fo_X12_26, List.forall_mem_cons.mpr ⟨fo_X12_27, List.forall_mem_cons.mpr ⟨fo_X12_28, List.forall_mem_cons.mpr ⟨fo_X12_29, List.forall_mem_cons.mpr ⟨fo_X12_30, List.forall_mem_cons.mpr ⟨fo_X12_31, List.forall_mem_cons.mpr ⟨fo_X12_32, fun _ h => absurd h List.not_mem_nil⟩⟩⟩⟩⟩⟩⟩⟩⟩⟩⟩⟩⟩⟩⟩⟩⟩⟩⟩⟩⟩⟩⟩⟩⟩⟩⟩⟩⟩⟩⟩⟩⟩
theorem mb_J6_bitCount_0f7a4 : z_mb yJ6_bitCount_0f7a4 cJ6_bitCount_0f7a4 1 (some .int) 1 := ⟨wt_628, wt_109, by decide +kernel⟩
theorem mb_J9_floorMod_7cf53 : z_mb yJ9_floorMod_7cf53 cJ9_floorMod_7cf53 3 (some .int) 2 := ⟨wt_562, wt_108, by decide +kernel⟩
theorem mb_J13_bitCount_95d88 : z_mb yJ13_bitCount_95d88 cJ13_bitCount_95d88 2 (some .int) 1 := ⟨wt_924, wt_111, by decide +kernel⟩
theorem mb_X0_init : z_mb yX0_init cX0_init 1 none 0 := ⟨wt_257, wt_104, by decide +kernel⟩
theorem mb_X0_start : z_mb yX0_start cX0_start 2 none 1 := ⟨wt_732, wt_104, by decide +kernel⟩
theorem mb_X0_take : z_mb yX0_take cX0_take 4 (some .boolean) 1 := ⟨wt_739, wt_104, by decide +kernel⟩
theorem mb_X0_isSum : z_mb yX0_isSum cX0_isSum 2 (some .boolean) 1 := ⟨wt_758, wt_104, by decide +kernel⟩
theorem mb_X0_reduce : z_mb yX0_reduce cX0_reduce 4 none 1 := ⟨wt_743, wt_104, by decide +kernel⟩
theorem mb_X0_firstPlace : z_mb yX0_firstPlace cX0_firstPlace 2 (some .int) 1 := ⟨wt_751, wt_104, by decide +kernel⟩
theorem mb_X1_init : z_mb yX1_init cX1_init 1 none 0 := ⟨wt_223, wt_101, by decide +kernel⟩
theorem mb_X1_comesAt : z_mb yX1_comesAt cX1_comesAt 8 (some .int) 2 := ⟨wt_606, wt_101, by decide +kernel⟩
theorem mb_X1_weigh : z_mb yX1_weigh cX1_weigh 6 (some .int) 3 := ⟨wt_613, wt_101, by decide +kernel⟩
theorem mb_X1_dueAt : z_mb yX1_dueAt cX1_dueAt 7 (some .int) 2 := ⟨wt_619, wt_101, by decide +kernel⟩
theorem mb_X2_mod : z_mb yX2_mod cX2_mod 2 (some .int) 2 := ⟨wt_559, wt_106, by decide +kernel⟩
theorem mb_X2_numberAt : z_mb yX2_numberAt cX2_numberAt 2 (some .int) 2 := ⟨wt_469, wt_106, by decide +kernel⟩
theorem mb_X2_with : z_mb yX2_with cX2_with 6 (some .int) 3 := ⟨wt_359, wt_106, by decide +kernel⟩
theorem mb_X2_sum : z_mb yX2_sum cX2_sum 9 (some .int) 3 := ⟨wt_673, wt_106, by decide +kernel⟩
theorem mb_X2_times : z_mb yX2_times cX2_times 2 (some .int) 2 := ⟨wt_652, wt_106, by decide +kernel⟩
theorem mb_X2_less : z_mb yX2_less cX2_less 3 (some .int) 3 := ⟨wt_676, wt_106, by decide +kernel⟩
theorem mb_X2_likeBy : z_mb yX2_likeBy cX2_likeBy 3 (some .int) 3 := ⟨wt_649, wt_106, by decide +kernel⟩
theorem mb_X2_code : z_mb yX2_code cX2_code 4 (some .int) 2 := ⟨wt_526, wt_106, by decide +kernel⟩
theorem mb_X2_placesOf : z_mb yX2_placesOf cX2_placesOf 1 (some .int) 1 := ⟨wt_904, wt_106, by decide +kernel⟩
theorem mb_X3_init : z_mb yX3_init cX3_init 2 none 1 := ⟨wt_134, wt_98, by decide +kernel⟩
theorem mb_X3_at : z_mb yX3_at cX3_at 2 (some .int) 1 := ⟨wt_446, wt_98, by decide +kernel⟩
theorem mb_X3_put : z_mb yX3_put cX3_put 3 none 2 := ⟨wt_356, wt_98, by decide +kernel⟩
theorem mb_X3_clear : z_mb yX3_clear cX3_clear 2 none 0 := ⟨wt_718, wt_98, by decide +kernel⟩
theorem mb_X4_init : z_mb yX4_init cX4_init 1 none 0 := ⟨wt_236, wt_102, by decide +kernel⟩
theorem mb_X4_join : z_mb yX4_join cX4_join 4 none 1 := ⟨wt_693, wt_102, by decide +kernel⟩
theorem mb_X4_joinFirst : z_mb yX4_joinFirst cX4_joinFirst 4 (some .boolean) 1 := ⟨wt_701, wt_102, by decide +kernel⟩
theorem mb_X4_joinTwo : z_mb yX4_joinTwo cX4_joinTwo 8 (some .boolean) 4 := ⟨wt_704, wt_102, by decide +kernel⟩
theorem mb_X4_flipDrawn : z_mb yX4_flipDrawn cX4_flipDrawn 7 (some .boolean) 2 := ⟨wt_846, wt_102, by decide +kernel⟩
theorem mb_X4_flipAt : z_mb yX4_flipAt cX4_flipAt 6 none 3 := ⟨wt_850, wt_102, by decide +kernel⟩
theorem mb_X5_init : z_mb yX5_init cX5_init 1 none 0 := ⟨wt_305, wt_105, by decide +kernel⟩
theorem mb_X5_solve : z_mb yX5_solve cX5_solve 5 (some .boolean) 1 := ⟨wt_981, wt_105, by decide +kernel⟩
theorem mb_X5_start : z_mb yX5_start cX5_start 2 none 1 := ⟨wt_985, wt_105, by decide +kernel⟩
theorem mb_X5_clearColumn : z_mb yX5_clearColumn cX5_clearColumn 2 none 0 := ⟨wt_996, wt_105, by decide +kernel⟩
theorem mb_X5_setBit : z_mb yX5_setBit cX5_setBit 3 none 1 := ⟨wt_1004, wt_105, by decide +kernel⟩
theorem mb_X5_hasBit : z_mb yX5_hasBit cX5_hasBit 3 (some .boolean) 1 := ⟨wt_1017, wt_105, by decide +kernel⟩
theorem mb_X5_setUnknown : z_mb yX5_setUnknown cX5_setUnknown 9 none 4 := ⟨wt_992, wt_105, by decide +kernel⟩
theorem mb_X5_setRightSides : z_mb yX5_setRightSides cX5_setRightSides 6 none 1 := ⟨wt_1025, wt_105, by decide +kernel⟩
theorem mb_X5_takeColumn : z_mb yX5_takeColumn cX5_takeColumn 4 none 0 := ⟨wt_1009, wt_105, by decide +kernel⟩
theorem mb_X5_reduce : z_mb yX5_reduce cX5_reduce 2 (some .int) 0 := ⟨wt_1013, wt_105, by decide +kernel⟩
theorem mb_X5_lessPivot : z_mb yX5_lessPivot cX5_lessPivot 4 none 1 := ⟨wt_1021, wt_105, by decide +kernel⟩
theorem mb_X6_init : z_mb yX6_init cX6_init 1 none 0 := ⟨wt_175, wt_100, by decide +kernel⟩
theorem mb_X6_makePlain : z_mb yX6_makePlain cX6_makePlain 5 none 4 := ⟨wt_332, wt_100, by decide +kernel⟩
theorem mb_X6_addPlain : z_mb yX6_addPlain cX6_addPlain 6 none 1 := ⟨wt_336, wt_100, by decide +kernel⟩
theorem mb_X6_addOnes : z_mb yX6_addOnes cX6_addOnes 4 none 3 := ⟨wt_340, wt_100, by decide +kernel⟩
theorem mb_X6_addZero : z_mb yX6_addZero cX6_addZero 2 (some .boolean) 0 := ⟨wt_344, wt_100, by decide +kernel⟩
theorem mb_X6_addFrom : z_mb yX6_addFrom cX6_addFrom 4 none 2 := ⟨wt_498, wt_100, by decide +kernel⟩
theorem mb_X6_remove : z_mb yX6_remove cX6_remove 3 none 1 := ⟨wt_514, wt_100, by decide +kernel⟩
theorem mb_X6_takeShape : z_mb yX6_takeShape cX6_takeShape 2 none 1 := ⟨wt_425, wt_100, by decide +kernel⟩
theorem mb_X6_takeAll : z_mb yX6_takeAll cX6_takeAll 3 none 1 := ⟨wt_483, wt_100, by decide +kernel⟩
theorem mb_X6_hasShapeOf : z_mb yX6_hasShapeOf cX6_hasShapeOf 2 (some .boolean) 1 := ⟨wt_959, wt_100, by decide +kernel⟩
theorem mb_X6_isFull : z_mb yX6_isFull cX6_isFull 1 (some .boolean) 0 := ⟨wt_348, wt_100, by decide +kernel⟩
theorem mb_X6_isProduct : z_mb yX6_isProduct cX6_isProduct 2 (some .boolean) 1 := ⟨wt_510, wt_100, by decide +kernel⟩
theorem mb_X6_isPlace : z_mb yX6_isPlace cX6_isPlace 3 (some .boolean) 2 := ⟨wt_535, wt_100, by decide +kernel⟩
theorem mb_X6_rows : z_mb yX6_rows cX6_rows 2 (some .int) 1 := ⟨wt_458, wt_100, by decide +kernel⟩
theorem mb_X6_columns : z_mb yX6_columns cX6_columns 2 (some .int) 1 := ⟨wt_462, wt_100, by decide +kernel⟩
theorem mb_X6_places : z_mb yX6_places cX6_places 2 (some .int) 1 := ⟨wt_540, wt_100, by decide +kernel⟩
theorem mb_X6_rowOf : z_mb yX6_rowOf cX6_rowOf 4 (some .int) 2 := ⟨wt_574, wt_100, by decide +kernel⟩
theorem mb_X6_columnOf : z_mb yX6_columnOf cX6_columnOf 4 (some .int) 2 := ⟨wt_570, wt_100, by decide +kernel⟩
theorem mb_X6_formAt : z_mb yX6_formAt cX6_formAt 3 (some .int) 2 := ⟨wt_502, wt_100, by decide +kernel⟩
theorem mb_X6_setForm : z_mb yX6_setForm cX6_setForm 4 none 3 := ⟨wt_352, wt_100, by decide +kernel⟩
theorem mb_X6_givenAt : z_mb yX6_givenAt cX6_givenAt 7 (some .int) 3 := ⟨wt_555, wt_100, by decide +kernel⟩
theorem mb_X6_meetAt : z_mb yX6_meetAt cX6_meetAt 6 (some .int) 3 := ⟨wt_594, wt_100, by decide +kernel⟩
theorem mb_X6_neededAt : z_mb yX6_neededAt cX6_neededAt 4 (some .int) 3 := ⟨wt_566, wt_100, by decide +kernel⟩
theorem mb_X6_isRight : z_mb yX6_isRight cX6_isRight 4 (some .boolean) 0 := ⟨wt_975, wt_100, by decide +kernel⟩
theorem mb_X6_hasZero : z_mb yX6_hasZero cX6_hasZero 2 (some .boolean) 1 := ⟨wt_685, wt_100, by decide +kernel⟩
theorem mb_X6_firstZero : z_mb yX6_firstZero cX6_firstZero 2 (some .int) 0 := ⟨wt_697, wt_100, by decide +kernel⟩
theorem mb_X6_zeros : z_mb yX6_zeros cX6_zeros 3 (some .int) 0 := ⟨wt_681, wt_100, by decide +kernel⟩
theorem mb_X6_notZero : z_mb yX6_notZero cX6_notZero 3 (some .int) 0 := ⟨wt_1035, wt_100, by decide +kernel⟩
theorem mb_X6_singles : z_mb yX6_singles cX6_singles 3 (some .int) 0 := ⟨wt_1044, wt_100, by decide +kernel⟩
theorem mb_X6_usersOf : z_mb yX6_usersOf cX6_usersOf 6 (some .int) 3 := ⟨wt_638, wt_100, by decide +kernel⟩
theorem mb_X6_unused : z_mb yX6_unused cX6_unused 4 (some .int) 1 := ⟨wt_901, wt_100, by decide +kernel⟩
theorem mb_X6_likeBy : z_mb yX6_likeBy cX6_likeBy 4 (some .int) 3 := ⟨wt_646, wt_100, by decide +kernel⟩
theorem mb_X6_isLike : z_mb yX6_isLike cX6_isLike 6 (some .boolean) 3 := ⟨wt_797, wt_100, by decide +kernel⟩
theorem mb_X6_matches : z_mb yX6_matches cX6_matches 6 (some .int) 1 := ⟨wt_917, wt_100, by decide +kernel⟩
theorem mb_X6_othersThan : z_mb yX6_othersThan cX6_othersThan 4 (some .int) 1 := ⟨wt_883, wt_100, by decide +kernel⟩
theorem mb_X6_groupOf : z_mb yX6_groupOf cX6_groupOf 6 (some .long) 2 := ⟨wt_939, wt_100, by decide +kernel⟩
theorem mb_X6_unlikeForms : z_mb yX6_unlikeForms cX6_unlikeForms 6 (some .int) 1 := ⟨wt_1039, wt_100, by decide +kernel⟩
theorem mb_X6_flipsAt : z_mb yX6_flipsAt cX6_flipsAt 5 (some .int) 1 := ⟨wt_660, wt_100, by decide +kernel⟩
theorem mb_X6_turnFlip : z_mb yX6_turnFlip cX6_turnFlip 7 none 3 := ⟨wt_669, wt_100, by decide +kernel⟩
theorem mb_X7_init : z_mb yX7_init cX7_init 1 none 0 := ⟨wt_251, wt_103, by decide +kernel⟩
theorem mb_X7_shedFirst : z_mb yX7_shedFirst cX7_shedFirst 6 (some .boolean) 1 := ⟨wt_722, wt_103, by decide +kernel⟩
theorem mb_X7_isSumOfAhead : z_mb yX7_isSumOfAhead cX7_isSumOfAhead 7 (some .boolean) 4 := ⟨wt_728, wt_103, by decide +kernel⟩
theorem mb_X7_share : z_mb yX7_share cX7_share 7 none 3 := ⟨wt_762, wt_103, by decide +kernel⟩
theorem mb_X8_init : z_mb yX8_init cX8_init 1 none 0 := ⟨wt_128, wt_97, by decide +kernel⟩
theorem mb_X8_addFour : z_mb yX8_addFour cX8_addFour 3 (some .boolean) 1 := ⟨wt_408, wt_97, by decide +kernel⟩
theorem mb_X8_cut : z_mb yX8_cut cX8_cut 2 (some .boolean) 1 := ⟨wt_417, wt_97, by decide +kernel⟩
theorem mb_X8_empty : z_mb yX8_empty cX8_empty 1 none 0 := ⟨wt_479, wt_97, by decide +kernel⟩
theorem mb_X8_readScheme : z_mb yX8_readScheme cX8_readScheme 3 (some .int) 1 := ⟨wt_429, wt_97, by decide +kernel⟩
theorem mb_X8_readProduct : z_mb yX8_readProduct cX8_readProduct 2 (some .int) 1 := ⟨wt_493, wt_97, by decide +kernel⟩
theorem mb_X8_readForm : z_mb yX8_readForm cX8_readForm 3 (some .int) 2 := ⟨wt_776, wt_97, by decide +kernel⟩
theorem mb_X8_readNumbers : z_mb yX8_readNumbers cX8_readNumbers 6 (some .int) 3 := ⟨wt_602, wt_97, by decide +kernel⟩
theorem mb_X8_restFault : z_mb yX8_restFault cX8_restFault 1 (some .int) 0 := ⟨wt_475, wt_97, by decide +kernel⟩
theorem mb_X8_peek : z_mb yX8_peek cX8_peek 1 (some .int) 0 := ⟨wt_442, wt_97, by decide +kernel⟩
theorem mb_X8_take : z_mb yX8_take cX8_take 2 (some .boolean) 1 := ⟨wt_438, wt_97, by decide +kernel⟩
theorem mb_X8_takeProduct : z_mb yX8_takeProduct cX8_takeProduct 3 (some .boolean) 1 := ⟨wt_433, wt_97, by decide +kernel⟩
theorem mb_X8_takeForm : z_mb yX8_takeForm cX8_takeForm 5 (some .boolean) 2 := ⟨wt_450, wt_97, by decide +kernel⟩
theorem mb_X8_takeTerm : z_mb yX8_takeTerm cX8_takeTerm 7 (some .boolean) 3 := ⟨wt_454, wt_97, by decide +kernel⟩
theorem mb_X9_init : z_mb yX9_init cX9_init 1 none 0 := ⟨wt_160, wt_99, by decide +kernel⟩
theorem mb_X9_clear : z_mb yX9_clear cX9_clear 1 none 0 := ⟨wt_550, wt_99, by decide +kernel⟩
theorem mb_X9_add : z_mb yX9_add cX9_add 3 none 1 := ⟨wt_586, wt_99, by decide +kernel⟩
theorem mb_X9_at : z_mb yX9_at cX9_at 2 (some .long) 1 := ⟨wt_1117, wt_99, by decide +kernel⟩
theorem mb_X10_roll : z_mb yX10_roll cX10_roll 3 none 1 := ⟨wt_858, wt_110, by decide +kernel⟩
theorem mb_X10_mirror : z_mb yX10_mirror cX10_mirror 5 none 1 := ⟨wt_865, wt_110, by decide +kernel⟩
theorem mb_X10_transposed : z_mb yX10_transposed cX10_transposed 6 (some .int) 3 := ⟨wt_868, wt_110, by decide +kernel⟩
theorem mb_X10_shear : z_mb yX10_shear cX10_shear 13 none 5 := ⟨wt_875, wt_110, by decide +kernel⟩
theorem mb_X10_addTimes : z_mb yX10_addTimes cX10_addTimes 6 (some .int) 5 := ⟨wt_878, wt_110, by decide +kernel⟩
theorem mb_X10_swap : z_mb yX10_swap cX10_swap 12 none 4 := ⟨wt_890, wt_110, by decide +kernel⟩
theorem mb_X10_exchanged : z_mb yX10_exchanged cX10_exchanged 5 (some .int) 3 := ⟨wt_893, wt_110, by decide +kernel⟩
theorem mb_X10_narrow : z_mb yX10_narrow cX10_narrow 6 none 3 := ⟨wt_809, wt_110, by decide +kernel⟩
theorem mb_X10_withoutRow : z_mb yX10_withoutRow cX10_withoutRow 6 (some .int) 3 := ⟨wt_817, wt_110, by decide +kernel⟩
theorem mb_X10_withoutColumn : z_mb yX10_withoutColumn cX10_withoutColumn 8 (some .int) 4 := ⟨wt_824, wt_110, by decide +kernel⟩
theorem mb_X10_widen : z_mb yX10_widen cX10_widen 10 none 2 := ⟨wt_835, wt_110, by decide +kernel⟩
theorem mb_X10_stretch : z_mb yX10_stretch cX10_stretch 3 none 3 := ⟨wt_827, wt_110, by decide +kernel⟩
theorem mb_X11_init : z_mb yX11_init cX11_init 1 none 0 := ⟨wt_120, wt_96, by decide +kernel⟩
theorem mb_X11_format : z_mb yX11_format cX11_format 5 (some .int) 4 := ⟨wt_397, wt_96, by decide +kernel⟩
theorem mb_X11_sign : z_mb yX11_sign cX11_sign 2 (some .int) 1 := ⟨wt_404, wt_96, by decide +kernel⟩
theorem mb_X11_end : z_mb yX11_end cX11_end 2 (some .boolean) 1 := ⟨wt_413, wt_96, by decide +kernel⟩
theorem mb_X11_scheme : z_mb yX11_scheme cX11_scheme 2 (some .int) 0 := ⟨wt_421, wt_96, by decide +kernel⟩
theorem mb_X11_adds : z_mb yX11_adds cX11_adds 2 (some .int) 0 := ⟨wt_489, wt_96, by decide +kernel⟩
theorem mb_X11_drops : z_mb yX11_drops cX11_drops 2 (some .int) 1 := ⟨wt_506, wt_96, by decide +kernel⟩
theorem mb_X11_form : z_mb yX11_form cX11_form 3 (some .int) 2 := ⟨wt_519, wt_96, by decide +kernel⟩
theorem mb_X11_number : z_mb yX11_number cX11_number 4 (some .int) 3 := ⟨wt_531, wt_96, by decide +kernel⟩
theorem mb_X11_checks : z_mb yX11_checks cX11_checks 7 (some .int) 0 := ⟨wt_546, wt_96, by decide +kernel⟩
theorem mb_X11_given : z_mb yX11_given cX11_given 4 (some .int) 3 := ⟨wt_590, wt_96, by decide +kernel⟩
theorem mb_X11_multiplies : z_mb yX11_multiplies cX11_multiplies 5 (some .int) 0 := ⟨wt_598, wt_96, by decide +kernel⟩
theorem mb_X11_sums : z_mb yX11_sums cX11_sums 5 (some .int) 0 := ⟨wt_625, wt_96, by decide +kernel⟩
theorem mb_X11_like : z_mb yX11_like cX11_like 5 (some .int) 3 := ⟨wt_642, wt_96, by decide +kernel⟩
theorem mb_X11_flips : z_mb yX11_flips cX11_flips 4 (some .int) 0 := ⟨wt_656, wt_96, by decide +kernel⟩
theorem mb_X11_flip : z_mb yX11_flip cX11_flip 4 (some .int) 3 := ⟨wt_665, wt_96, by decide +kernel⟩
theorem mb_X11_joins : z_mb yX11_joins cX11_joins 1 (some .int) 0 := ⟨wt_689, wt_96, by decide +kernel⟩
theorem mb_X11_sheds : z_mb yX11_sheds cX11_sheds 3 (some .int) 0 := ⟨wt_714, wt_96, by decide +kernel⟩
theorem mb_X11_splits : z_mb yX11_splits cX11_splits 6 (some .int) 2 := ⟨wt_772, wt_96, by decide +kernel⟩
theorem mb_X11_plus : z_mb yX11_plus cX11_plus 6 (some .int) 3 := ⟨wt_782, wt_96, by decide +kernel⟩
theorem mb_X11_scales : z_mb yX11_scales cX11_scales 5 (some .int) 3 := ⟨wt_788, wt_96, by decide +kernel⟩
theorem mb_X11_narrows : z_mb yX11_narrows cX11_narrows 3 (some .int) 2 := ⟨wt_801, wt_96, by decide +kernel⟩
theorem mb_X11_widens : z_mb yX11_widens cX11_widens 2 (some .int) 1 := ⟨wt_831, wt_96, by decide +kernel⟩
theorem mb_X11_walks : z_mb yX11_walks cX11_walks 7 (some .int) 2 := ⟨wt_840, wt_96, by decide +kernel⟩
theorem mb_X11_rolls : z_mb yX11_rolls cX11_rolls 1 (some .int) 0 := ⟨wt_855, wt_96, by decide +kernel⟩
theorem mb_X11_mirrors : z_mb yX11_mirrors cX11_mirrors 1 (some .int) 0 := ⟨wt_862, wt_96, by decide +kernel⟩
theorem mb_X11_shears : z_mb yX11_shears cX11_shears 5 (some .int) 4 := ⟨wt_872, wt_96, by decide +kernel⟩
theorem mb_X11_swaps : z_mb yX11_swaps cX11_swaps 4 (some .int) 3 := ⟨wt_887, wt_96, by decide +kernel⟩
theorem mb_X11_uses : z_mb yX11_uses cX11_uses 6 (some .int) 2 := ⟨wt_897, wt_96, by decide +kernel⟩
theorem mb_X11_round : z_mb yX11_round cX11_round 1 (some .int) 0 := ⟨wt_909, wt_96, by decide +kernel⟩
theorem mb_X11_mirrored : z_mb yX11_mirrored cX11_mirrored 1 (some .int) 0 := ⟨wt_931, wt_96, by decide +kernel⟩
theorem mb_X11_groups : z_mb yX11_groups cX11_groups 9 (some .int) 1 := ⟨wt_935, wt_96, by decide +kernel⟩
theorem mb_X11_spans : z_mb yX11_spans cX11_spans 5 (some .int) 1 := ⟨wt_945, wt_96, by decide +kernel⟩
theorem mb_X11_keeps : z_mb yX11_keeps cX11_keeps 1 (some .int) 0 := ⟨wt_951, wt_96, by decide +kernel⟩
theorem mb_X11_others : z_mb yX11_others cX11_others 2 (some .int) 0 := ⟨wt_955, wt_96, by decide +kernel⟩
theorem mb_X11_unlikes : z_mb yX11_unlikes cX11_unlikes 5 (some .int) 0 := ⟨wt_963, wt_96, by decide +kernel⟩
theorem mb_X11_back : z_mb yX11_back cX11_back 1 (some .int) 0 := ⟨wt_967, wt_96, by decide +kernel⟩
theorem mb_X11_lifts : z_mb yX11_lifts cX11_lifts 2 (some .int) 0 := ⟨wt_971, wt_96, by decide +kernel⟩
theorem mb_X11_count : z_mb yX11_count cX11_count 2 (some .int) 1 := ⟨wt_1031, wt_96, by decide +kernel⟩
theorem mb_X11_row : z_mb yX11_row cX11_row 2 (some .long) 1 := ⟨wt_1052, wt_96, by decide +kernel⟩
theorem mb_X11_isSize : z_mb yX11_isSize cX11_isSize 1 (some .boolean) 1 := ⟨wt_400, wt_96, by decide +kernel⟩
theorem mb_X11_isTable : z_mb yX11_isTable cX11_isTable 1 (some .boolean) 1 := ⟨wt_522, wt_96, by decide +kernel⟩
theorem mb_X11_isLine : z_mb yX11_isLine cX11_isLine 3 (some .boolean) 2 := ⟨wt_805, wt_96, by decide +kernel⟩
theorem mb_X11_isFactor : z_mb yX11_isFactor cX11_isFactor 2 (some .boolean) 1 := ⟨wt_792, wt_96, by decide +kernel⟩
theorem mb_X11_behind : z_mb yX11_behind cX11_behind 1 (some .int) 1 := ⟨wt_465, wt_96, by decide +kernel⟩
theorem mb_X11_ahead : z_mb yX11_ahead cX11_ahead 1 (some .int) 1 := ⟨wt_812, wt_96, by decide +kernel⟩
theorem mb_X11_bit : z_mb yX11_bit cX11_bit 1 (some .long) 1 := ⟨wt_920, wt_96, by decide +kernel⟩
theorem mb_X11_lessOne : z_mb yX11_lessOne cX11_lessOne 1 (some .int) 1 := ⟨wt_634, wt_96, by decide +kernel⟩
theorem mb_X11_tellFirst : z_mb yX11_tellFirst cX11_tellFirst 5 none 4 := ⟨wt_578, wt_96, by decide +kernel⟩
theorem mb_X11_tellThree : z_mb yX11_tellThree cX11_tellThree 4 none 3 := ⟨wt_582, wt_96, by decide +kernel⟩
theorem mb_X11_asSpare : z_mb yX11_asSpare cX11_asSpare 3 (some .int) 0 := ⟨wt_913, wt_96, by decide +kernel⟩
theorem mb_X12_init : z_mb yX12_init cX12_init 1 none 0 := ⟨wt_1122, wt_107, by decide +kernel⟩
theorem mb_X12_thrown : z_mb yX12_thrown cX12_thrown 1 (some .int) 0 := ⟨wt_1244, wt_107, by decide +kernel⟩
theorem mb_X12_in : z_mb yX12_in cX12_in 6 (some .boolean) 3 := ⟨wt_1255, wt_107, by decide +kernel⟩
theorem mb_X12_lost : z_mb yX12_lost cX12_lost 1 (some .int) 0 := ⟨wt_1691, wt_107, by decide +kernel⟩
theorem mb_X12_tell : z_mb yX12_tell cX12_tell 3 none 1 := ⟨wt_1372, wt_107, by decide +kernel⟩
theorem mb_X12_sign : z_mb yX12_sign cX12_sign 3 (some .int) 1 := ⟨wt_1248, wt_107, by decide +kernel⟩
theorem mb_X12_end : z_mb yX12_end cX12_end 2 (some .boolean) 1 := ⟨wt_1252, wt_107, by decide +kernel⟩
theorem mb_X12_rowsOf : z_mb yX12_rowsOf cX12_rowsOf 2 (some .int) 1 := ⟨wt_1301, wt_107, by decide +kernel⟩
theorem mb_X12_columnsOf : z_mb yX12_columnsOf cX12_columnsOf 2 (some .int) 1 := ⟨wt_1309, wt_107, by decide +kernel⟩
theorem mb_X12_placesOf : z_mb yX12_placesOf cX12_placesOf 2 (some .int) 1 := ⟨wt_1352, wt_107, by decide +kernel⟩
theorem mb_X12_at : z_mb yX12_at cX12_at 3 (some .int) 3 := ⟨wt_1138, wt_107, by decide +kernel⟩
theorem mb_X12_isProduct : z_mb yX12_isProduct cX12_isProduct 2 (some .boolean) 1 := ⟨wt_1329, wt_107, by decide +kernel⟩
theorem mb_X12_isTable : z_mb yX12_isTable cX12_isTable 1 (some .boolean) 1 := ⟨wt_1340, wt_107, by decide +kernel⟩
theorem mb_X12_isPlace : z_mb yX12_isPlace cX12_isPlace 3 (some .boolean) 2 := ⟨wt_1348, wt_107, by decide +kernel⟩
theorem mb_X12_mod : z_mb yX12_mod cX12_mod 3 (some .int) 1 := ⟨wt_1434, wt_107, by decide +kernel⟩
theorem mb_X12_clears : z_mb yX12_clears cX12_clears 3 none 1 := ⟨wt_1135, wt_107, by decide +kernel⟩
theorem mb_X12_laysPlain : z_mb yX12_laysPlain cX12_laysPlain 4 none 0 := ⟨wt_1127, wt_107, by decide +kernel⟩
theorem mb_X12_addsPlain : z_mb yX12_addsPlain cX12_addsPlain 4 none 3 := ⟨wt_1131, wt_107, by decide +kernel⟩
theorem mb_X12_format : z_mb yX12_format cX12_format 5 (some .int) 4 := ⟨wt_1259, wt_107, by decide +kernel⟩
theorem mb_X12_begin : z_mb yX12_begin cX12_begin 1 none 0 := ⟨wt_1269, wt_107, by decide +kernel⟩
theorem mb_X12_sees : z_mb yX12_sees cX12_sees 1 (some .int) 0 := ⟨wt_1285, wt_107, by decide +kernel⟩
theorem mb_X12_fault : z_mb yX12_fault cX12_fault 2 none 1 := ⟨wt_1289, wt_107, by decide +kernel⟩
theorem mb_X12_passes : z_mb yX12_passes cX12_passes 2 (some .boolean) 1 := ⟨wt_1281, wt_107, by decide +kernel⟩
theorem mb_X12_expect : z_mb yX12_expect cX12_expect 2 none 1 := ⟨wt_1277, wt_107, by decide +kernel⟩
theorem mb_X12_ends : z_mb yX12_ends cX12_ends 1 none 0 := ⟨wt_1313, wt_107, by decide +kernel⟩
theorem mb_X12_told : z_mb yX12_told cX12_told 1 (some .int) 0 := ⟨wt_1317, wt_107, by decide +kernel⟩
theorem mb_X12_readSide : z_mb yX12_readSide cX12_readSide 3 (some .int) 1 := ⟨wt_1305, wt_107, by decide +kernel⟩
theorem mb_X12_readTerm : z_mb yX12_readTerm cX12_readTerm 7 none 3 := ⟨wt_1297, wt_107, by decide +kernel⟩
theorem mb_X12_readForm : z_mb yX12_readForm cX12_readForm 5 none 2 := ⟨wt_1293, wt_107, by decide +kernel⟩
theorem mb_X12_readProduct : z_mb yX12_readProduct cX12_readProduct 2 none 0 := ⟨wt_1273, wt_107, by decide +kernel⟩
theorem mb_X12_scheme : z_mb yX12_scheme cX12_scheme 2 (some .int) 0 := ⟨wt_1265, wt_107, by decide +kernel⟩
theorem mb_X12_adds : z_mb yX12_adds cX12_adds 2 (some .int) 0 := ⟨wt_1321, wt_107, by decide +kernel⟩
theorem mb_X12_goes : z_mb yX12_goes cX12_goes 3 none 1 := ⟨wt_1333, wt_107, by decide +kernel⟩
theorem mb_X12_drops : z_mb yX12_drops cX12_drops 2 (some .int) 1 := ⟨wt_1325, wt_107, by decide +kernel⟩
theorem mb_X12_form : z_mb yX12_form cX12_form 5 (some .int) 2 := ⟨wt_1337, wt_107, by decide +kernel⟩
theorem mb_X12_number : z_mb yX12_number cX12_number 4 (some .int) 3 := ⟨wt_1344, wt_107, by decide +kernel⟩
theorem mb_X12_wholeGiven : z_mb yX12_wholeGiven cX12_wholeGiven 6 (some .int) 3 := ⟨wt_1364, wt_107, by decide +kernel⟩
theorem mb_X12_needed : z_mb yX12_needed cX12_needed 5 (some .int) 3 := ⟨wt_1368, wt_107, by decide +kernel⟩
theorem mb_X12_looks : z_mb yX12_looks cX12_looks 4 none 0 := ⟨wt_1360, wt_107, by decide +kernel⟩
theorem mb_X12_checks : z_mb yX12_checks cX12_checks 4 (some .int) 0 := ⟨wt_1356, wt_107, by decide +kernel⟩
theorem mb_X12_given : z_mb yX12_given cX12_given 6 (some .int) 3 := ⟨wt_1376, wt_107, by decide +kernel⟩
theorem mb_X12_readTables : z_mb yX12_readTables cX12_readTables 4 none 1 := ⟨wt_1384, wt_107, by decide +kernel⟩
theorem mb_X12_madeOf : z_mb yX12_madeOf cX12_madeOf 6 (some .int) 3 := ⟨wt_1388, wt_107, by decide +kernel⟩
theorem mb_X12_multiplies : z_mb yX12_multiplies cX12_multiplies 8 (some .int) 0 := ⟨wt_1380, wt_107, by decide +kernel⟩
theorem mb_X12_fullOf : z_mb yX12_fullOf cX12_fullOf 5 (some .int) 2 := ⟨wt_1396, wt_107, by decide +kernel⟩
theorem mb_X12_lessOne : z_mb yX12_lessOne cX12_lessOne 1 (some .int) 1 := ⟨wt_1399, wt_107, by decide +kernel⟩
theorem mb_X12_sums : z_mb yX12_sums cX12_sums 7 (some .int) 0 := ⟨wt_1392, wt_107, by decide +kernel⟩
theorem mb_X12_isZero : z_mb yX12_isZero cX12_isZero 3 (some .boolean) 2 := ⟨wt_1414, wt_107, by decide +kernel⟩
theorem mb_X12_likeOf : z_mb yX12_likeOf cX12_likeOf 8 (some .int) 4 := ⟨wt_1411, wt_107, by decide +kernel⟩
theorem mb_X12_likeAt : z_mb yX12_likeAt cX12_likeAt 4 (some .int) 3 := ⟨wt_1407, wt_107, by decide +kernel⟩
theorem mb_X12_like : z_mb yX12_like cX12_like 5 (some .int) 3 := ⟨wt_1403, wt_107, by decide +kernel⟩
theorem mb_X12_areLike : z_mb yX12_areLike cX12_areLike 7 (some .boolean) 4 := ⟨wt_1502, wt_107, by decide +kernel⟩
theorem mb_X12_flipsAt : z_mb yX12_flipsAt cX12_flipsAt 5 (some .int) 1 := ⟨wt_1422, wt_107, by decide +kernel⟩
theorem mb_X12_flips : z_mb yX12_flips cX12_flips 4 (some .int) 0 := ⟨wt_1418, wt_107, by decide +kernel⟩
theorem mb_X12_goFlip : z_mb yX12_goFlip cX12_goFlip 8 none 3 := ⟨wt_1430, wt_107, by decide +kernel⟩
theorem mb_X12_hasZero : z_mb yX12_hasZero cX12_hasZero 3 (some .boolean) 1 := ⟨wt_1442, wt_107, by decide +kernel⟩
theorem mb_X12_zeroMany : z_mb yX12_zeroMany cX12_zeroMany 3 (some .int) 0 := ⟨wt_1438, wt_107, by decide +kernel⟩
theorem mb_X12_flip : z_mb yX12_flip cX12_flip 4 (some .int) 3 := ⟨wt_1426, wt_107, by decide +kernel⟩
theorem mb_X12_firstZero : z_mb yX12_firstZero cX12_firstZero 2 (some .int) 0 := ⟨wt_1454, wt_107, by decide +kernel⟩
theorem mb_X12_joinsTwo : z_mb yX12_joinsTwo cX12_joinsTwo 6 (some .boolean) 0 := ⟨wt_1458, wt_107, by decide +kernel⟩
theorem mb_X12_joinsAll : z_mb yX12_joinsAll cX12_joinsAll 3 none 0 := ⟨wt_1450, wt_107, by decide +kernel⟩
theorem mb_X12_joins : z_mb yX12_joins cX12_joins 1 (some .int) 0 := ⟨wt_1446, wt_107, by decide +kernel⟩
theorem mb_X12_takenLead : z_mb yX12_takenLead cX12_takenLead 3 (some .int) 1 := ⟨wt_1482, wt_107, by decide +kernel⟩
theorem mb_X12_isSum : z_mb yX12_isSum cX12_isSum 5 (some .boolean) 0 := ⟨wt_1478, wt_107, by decide +kernel⟩
theorem mb_X12_laysBehind : z_mb yX12_laysBehind cX12_laysBehind 6 none 3 := ⟨wt_1474, wt_107, by decide +kernel⟩
theorem mb_X12_takes : z_mb yX12_takes cX12_takes 5 none 1 := ⟨wt_1486, wt_107, by decide +kernel⟩
theorem mb_X12_isShed : z_mb yX12_isShed cX12_isShed 9 (some .boolean) 4 := ⟨wt_1470, wt_107, by decide +kernel⟩
theorem mb_X12_shedsOne : z_mb yX12_shedsOne cX12_shedsOne 6 (some .int) 0 := ⟨wt_1466, wt_107, by decide +kernel⟩
theorem mb_X12_sheds : z_mb yX12_sheds cX12_sheds 3 (some .int) 0 := ⟨wt_1462, wt_107, by decide +kernel⟩
theorem mb_X12_splits : z_mb yX12_splits cX12_splits 5 (some .int) 2 := ⟨wt_1490, wt_107, by decide +kernel⟩
theorem mb_X12_plus : z_mb yX12_plus cX12_plus 7 (some .int) 3 := ⟨wt_1494, wt_107, by decide +kernel⟩
theorem mb_X12_scales : z_mb yX12_scales cX12_scales 5 (some .int) 3 := ⟨wt_1498, wt_107, by decide +kernel⟩
theorem mb_X12_wasAt : z_mb yX12_wasAt cX12_wasAt 4 (some .int) 3 := ⟨wt_1513, wt_107, by decide +kernel⟩
theorem mb_X12_resizes : z_mb yX12_resizes cX12_resizes 12 none 3 := ⟨wt_1510, wt_107, by decide +kernel⟩
theorem mb_X12_narrows : z_mb yX12_narrows cX12_narrows 3 (some .int) 2 := ⟨wt_1506, wt_107, by decide +kernel⟩
theorem mb_X12_widens : z_mb yX12_widens cX12_widens 6 (some .int) 1 := ⟨wt_1517, wt_107, by decide +kernel⟩
theorem mb_X12_goNumbered : z_mb yX12_goNumbered cX12_goNumbered 6 none 1 := ⟨wt_1529, wt_107, by decide +kernel⟩
theorem mb_X12_walks : z_mb yX12_walks cX12_walks 8 (some .int) 2 := ⟨wt_1521, wt_107, by decide +kernel⟩
theorem mb_X12_laysTurned : z_mb yX12_laysTurned cX12_laysTurned 4 none 0 := ⟨wt_1537, wt_107, by decide +kernel⟩
theorem mb_X12_laysMirrored : z_mb yX12_laysMirrored cX12_laysMirrored 5 none 0 := ⟨wt_1549, wt_107, by decide +kernel⟩
theorem mb_X12_takesBeside : z_mb yX12_takesBeside cX12_takesBeside 5 none 3 := ⟨wt_1541, wt_107, by decide +kernel⟩
theorem mb_X12_rolls : z_mb yX12_rolls cX12_rolls 1 (some .int) 0 := ⟨wt_1533, wt_107, by decide +kernel⟩
theorem mb_X12_mirrors : z_mb yX12_mirrors cX12_mirrors 1 (some .int) 0 := ⟨wt_1545, wt_107, by decide +kernel⟩
theorem mb_X12_shearsRows : z_mb yX12_shearsRows cX12_shearsRows 8 none 5 := ⟨wt_1576, wt_107, by decide +kernel⟩
theorem mb_X12_shearsColumns : z_mb yX12_shearsColumns cX12_shearsColumns 8 none 5 := ⟨wt_1580, wt_107, by decide +kernel⟩
theorem mb_X12_othersThan : z_mb yX12_othersThan cX12_othersThan 6 (some .int) 0 := ⟨wt_1560, wt_107, by decide +kernel⟩
theorem mb_X12_exchanged : z_mb yX12_exchanged cX12_exchanged 3 (some .int) 3 := ⟨wt_1556, wt_107, by decide +kernel⟩
theorem mb_X12_swaps : z_mb yX12_swaps cX12_swaps 8 (some .int) 3 := ⟨wt_1553, wt_107, by decide +kernel⟩
theorem mb_X12_usesOf : z_mb yX12_usesOf cX12_usesOf 6 (some .int) 3 := ⟨wt_1568, wt_107, by decide +kernel⟩
theorem mb_X12_uses : z_mb yX12_uses cX12_uses 5 (some .int) 2 := ⟨wt_1564, wt_107, by decide +kernel⟩
theorem mb_X12_shears : z_mb yX12_shears cX12_shears 6 (some .int) 4 := ⟨wt_1572, wt_107, by decide +kernel⟩
theorem mb_X12_without : z_mb yX12_without cX12_without 8 (some .int) 4 := ⟨wt_1592, wt_107, by decide +kernel⟩
theorem mb_X12_asBeside : z_mb yX12_asBeside cX12_asBeside 3 (some .int) 0 := ⟨wt_1588, wt_107, by decide +kernel⟩
theorem mb_X12_round : z_mb yX12_round cX12_round 1 (some .int) 0 := ⟨wt_1584, wt_107, by decide +kernel⟩
theorem mb_X12_mirrored : z_mb yX12_mirrored cX12_mirrored 1 (some .int) 0 := ⟨wt_1596, wt_107, by decide +kernel⟩
theorem mb_X12_groupOf : z_mb yX12_groupOf cX12_groupOf 6 (some .long) 2 := ⟨wt_1604, wt_107, by decide +kernel⟩
theorem mb_X12_ones : z_mb yX12_ones cX12_ones 5 (some .int) 1 := ⟨wt_1607, wt_107, by decide +kernel⟩
theorem mb_X12_groups : z_mb yX12_groups cX12_groups 10 (some .int) 1 := ⟨wt_1600, wt_107, by decide +kernel⟩
theorem mb_X12_frees : z_mb yX12_frees cX12_frees 8 (some .boolean) 2 := ⟨wt_1615, wt_107, by decide +kernel⟩
theorem mb_X12_leadOf : z_mb yX12_leadOf cX12_leadOf 3 (some .int) 1 := ⟨wt_1619, wt_107, by decide +kernel⟩
theorem mb_X12_spans : z_mb yX12_spans cX12_spans 5 (some .int) 1 := ⟨wt_1611, wt_107, by decide +kernel⟩
theorem mb_X12_keeps : z_mb yX12_keeps cX12_keeps 2 (some .int) 0 := ⟨wt_1623, wt_107, by decide +kernel⟩
theorem mb_X12_isKeptSo : z_mb yX12_isKeptSo cX12_isKeptSo 1 (some .boolean) 0 := ⟨wt_1631, wt_107, by decide +kernel⟩
theorem mb_X12_others : z_mb yX12_others cX12_others 2 (some .int) 0 := ⟨wt_1627, wt_107, by decide +kernel⟩
theorem mb_X12_keptGiven : z_mb yX12_keptGiven cX12_keptGiven 6 (some .int) 3 := ⟨wt_1639, wt_107, by decide +kernel⟩
theorem mb_X12_unlikes : z_mb yX12_unlikes cX12_unlikes 5 (some .int) 0 := ⟨wt_1635, wt_107, by decide +kernel⟩
theorem mb_X12_back : z_mb yX12_back cX12_back 2 (some .int) 0 := ⟨wt_1643, wt_107, by decide +kernel⟩
theorem mb_X12_unknowns : z_mb yX12_unknowns cX12_unknowns 1 (some .int) 0 := ⟨wt_1655, wt_107, by decide +kernel⟩
theorem mb_X12_unknownOf : z_mb yX12_unknownOf cX12_unknownOf 5 (some .int) 3 := ⟨wt_1659, wt_107, by decide +kernel⟩
theorem mb_X12_turnsBit : z_mb yX12_turnsBit cX12_turnsBit 3 none 2 := ⟨wt_1663, wt_107, by decide +kernel⟩
theorem mb_X12_isBit : z_mb yX12_isBit cX12_isBit 3 (some .boolean) 2 := ⟨wt_1667, wt_107, by decide +kernel⟩
theorem mb_X12_equation : z_mb yX12_equation cX12_equation 10 (some .boolean) 3 := ⟨wt_1651, wt_107, by decide +kernel⟩
theorem mb_X12_lifts : z_mb yX12_lifts cX12_lifts 5 (some .int) 0 := ⟨wt_1647, wt_107, by decide +kernel⟩
theorem mb_X12_unlikeAt : z_mb yX12_unlikeAt cX12_unlikeAt 6 (some .int) 1 := ⟨wt_1679, wt_107, by decide +kernel⟩
theorem mb_X12_fullAll : z_mb yX12_fullAll cX12_fullAll 3 (some .int) 0 := ⟨wt_1675, wt_107, by decide +kernel⟩
theorem mb_X12_singleMany : z_mb yX12_singleMany cX12_singleMany 3 (some .int) 0 := ⟨wt_1683, wt_107, by decide +kernel⟩
theorem mb_X12_count : z_mb yX12_count cX12_count 2 (some .int) 1 := ⟨wt_1671, wt_107, by decide +kernel⟩
theorem mb_X12_row : z_mb yX12_row cX12_row 2 (some .long) 1 := ⟨wt_1687, wt_107, by decide +kernel⟩
end
section
/-! a method of the JDK: its class isn't plainly named -/
theorem z_metW {l : Launch} {y : MethodName} {ws ws' : List Cond} {rm : Room} {Pc : Array Value → State → Prop} {Qc : Array Value → State → Outcome → State → Prop} {mc ms : Nat} {free : Addr → Prop} {cc : ByteArray} {maxL : Nat} {ret : Option FieldType}
    (hy : plainFor y = true) (hw : ws = Cond.code y cc maxL ret :: ws')
    (body : ∀ p e s m args below meth c s₁, BodyLoose p l y (headSpec ws rm) cc maxL ret e s m args below meth c s₁ → c.maxLocals = maxL → Pc args s →
      W p l e (headSpec ws rm).room s m args below meth c s.heap [] 0 0 (MQ below Qc args s mc ms free) (entryFrame m args maxL)) : Met l y ws rm Pc Qc mc ms free := by
  refine MetFree.of_bodySF (code := cc) (maxLocals := maxL) (ret := ret) hy ?_ ?_
  · intro args s m h hn
    obtain ⟨meth, c, h1, h2, h3, h4, h5, h6, -, -⟩ := Cond.code_spec hn (atoms_spec (ws := ws) h _ (by rw [hw]; exact List.mem_cons_self))
    exact ⟨meth, c, h1, h2, h3, h4, h5, h6⟩
  · intro p e s m args below meth c s₁ B hml hP _
    have hh0 : s₁.heap = s.heap := by rw [B.state]; rfl
    obtain ⟨t, a1, o, b1, b2, b3⟩ := body p e s m args below meth c s₁ B hml hP s₁ hh0 (Stand.of_body B)
    exact ⟨t, o, a1, b1, b2, ⟨b3.1, b3.2⟩⟩
theorem z_methF {l : Launch} {y : MethodName} {cc : ByteArray} {nL : Nat} {ret : Option FieldType} {rm : Room} {sp : zSp} {M : zM} (hpl : plainFor y = true) (hrc : z_rcok M.2.2.2.2.2.2.1 ret) (hini : M.2.2.2.2.2.2.2.1 = true → y.name = "<init>") (hscr : M.2.2.2.2.2.2.2.2.1.1 = false) (O : z_OK l y.cls cc (headSpec (.code y cc nL ret :: zTT) rm).room M)
    (hPO : ∀ (av : List Value) (w : zW) (K : Option Value → zW → Prop), sp av w K → z_PO M nL K av w) : z_CS l y cc nL ret rm sp := by
  intro x b ad av w K sz hsp
  obtain ⟨hsz, hPO⟩ := hPO av w K hsp
  refine z_metW (cc := cc) (maxL := nL) (ret := ret) hpl rfl ?_
  intro p e s m args below meth c s₁ B hml hv
  obtain ⟨rfl, hsz2, hP, hK, hD0⟩ := hv
  have hx := B.exec
  have hb := B.bytes
  have hr := B.returns
  have hts := atoms_spec (ws := .code y cc nL ret :: zTT) B.pre
  have hown : s.vm.findClass y.cls = some m.cls := findClass_of_methodNamed B.named
  have hlocks := B.notSynchronized
  have hname : meth.name = y.name := (name_of_methodNamed B.named B.method).1
  subst hsz2
  have hD : va_D (z_A x ad w s.heap.size) (z_ws x ad w) := hD0.self (sz := s.heap.size)
  have hA : ∀ q : Nat, s.heap.size ≤ q → z_A x ad w s.heap.size q := fun q h => Or.inr h
  have E : z_En p s m (av.map (z_cv b ad)).toArray meth c cc nL y.cls (.code y cc nL ret :: zTT) x b (z_A x ad w s.heap.size) M := ⟨⟨hx, hb, hml, hown, hts⟩, fun w hw => List.mem_cons_of_mem _ hw, hK, hA, fun h => hname.trans (hini h), fun h => by rw [hscr] at h; cases h⟩
  have hl := lv_entry (av.map (z_cv b ad)) (n := nL) (by rw [z_szs_eq]; exact hsz)
  rw [lg_entry_eq]
  generalize (lg_sl (av.map (z_cv b ad)) ++ List.replicate (nL - (lg_sl (av.map (z_cv b ad))).length) Slot.unset).toArray = ls at hl ⊢
  have hLH : z_LH b ad ls nL (z_arl av nL) := ⟨hl.1, hl.2.1, Nat.le_of_eq (z_arl_len av nL hsz), fun i v q => by
    have := hl.2.2 _ (z_arl_mem (b := b) (ad := ad) av nL 0 i v q)
    simpa using this⟩
  have hR : z_Rt p l e (headSpec (.code y cc nL ret :: zTT) rm).room s m (av.map (z_cv b ad)).toArray below meth c (MQ below (z_Qc x b ad w K s.heap.size rm.cells) (av.map (z_cv b ad)).toArray s rm.cells rm.slots (z_A x ad w s.heap.size)) x b (z_A x ad w s.heap.size) ad w.1.length cc M K := by
    intro r w' hk ad' H locs ls' pc c1 c2 g1 g2 g3 hP' hD' hS' hG' hend
    have hq : ∀ t : State, t.heap = H → s.WarmedH t.vm → z_Qc x b ad w K s.heap.size rm.cells (av.map (z_cv b ad)).toArray s (.returned (r.map (z_cv b ad'))) t := fun t ht _ => ⟨⟨r, w', ad', rfl, hk, g3, hG', by rw [ht]; exact hP', hD'⟩, hS'.F ht⟩
    refine W.widen (k := rm.cells) (n := rm.slots) g1 g2 ?_
    rcases hend with ⟨a, rfl, hd, hz⟩ | ⟨a, rfl, hd, hz⟩ | ⟨rfl, hd, hz⟩
    · rcases hrc with ⟨q1, q2⟩ | ⟨q1, q2⟩ | ⟨q1, q2⟩ | ⟨q1, q2⟩
      · rw [q1] at hz; exact hz.elim
      · exact W.iret hx hb (hr.trans q2) hq hS'.2.2 hd
      · rw [q1] at hz
        exact W.zret hx hb (hr.trans q2) (by rcases hz with rfl | rfl <;> rfl) hq hS'.2.2 hd
      · rw [q1] at hz; exact hz.elim
    · rcases hrc with ⟨q1, q2⟩ | ⟨q1, q2⟩ | ⟨q1, q2⟩ | ⟨q1, q2⟩
      · omega
      · omega
      · omega
      · exact W.lret hx hb (hr.trans q2) hq hS'.2.2 hd
    · rcases hrc with ⟨q1, q2⟩ | ⟨q1, q2⟩ | ⟨q1, q2⟩ | ⟨q1, q2⟩
      · exact W.vret hx hb (hr.trans q2) hq hS'.2.2 hd
      · omega
      · omega
      · omega
  have key := hPO (z_JJ p l e (headSpec (.code y cc nL ret :: zTT) rm).room s m (av.map (z_cv b ad)).toArray below meth c (MQ below (z_Qc x b ad w K s.heap.size rm.cells) (av.map (z_cv b ad)).toArray s rm.cells rm.slots (z_A x ad w s.heap.size)) x b (z_A x ad w s.heap.size) ad w.1.length nL)
    (fun n pc al st w' c1 c2 h => z_wp_ok E O hR n _ pc al st w' c1 c2 (z_from_sub M.1 pc).1 (z_from_sub M.1 pc).2 h)
  exact key (Nat.zero_le _) (Nat.zero_le _) (Nat.le_refl _) ad s.heap [] ls hLH hP hD va_S.rf ⟨fun _ _ => rfl, fun _ => rfl⟩
/-! Forms: what its methods answer, as written -/
def fmodJ (x y : Int32) : Int32 := if x ^^^ y < nI 0 ∧ ¬ z_rem x y = nI 0 then z_rem x y + y else z_rem x y
def sp_J9_floorMod_7cf53 : zSp := fun av w K => match av with
  | [.int x, .int y] => ¬ y = 0 ∧ K (some (.int (fmodJ x y))) w
  | _ => False
def rm_J9_floorMod_7cf53 : Room := { frames := 0, cells := 0, slots := 0, locals := 0 }
def M_J9_floorMod_7cf53 : zM := (k_J9_floorMod_7cf53, [], [], ([], [], []), [], [], 1, false, (false, 0, fun _ => 0), (0, 0))
theorem O_J9_floorMod_7cf53 (l : Launch) : z_OK l RJ9 cJ9_floorMod_7cf53 (headSpec (.code yJ9_floorMod_7cf53 cJ9_floorMod_7cf53 3 (some .int) :: zTT) rm_J9_floorMod_7cf53).room M_J9_floorMod_7cf53 := ⟨ok_J9_floorMod_7cf53, fun _ h => absurd h List.not_mem_nil, fun _ h => absurd h List.not_mem_nil, fun _ h => absurd h List.not_mem_nil, fun _ h => absurd h List.not_mem_nil, fun _ h => absurd h List.not_mem_nil, fun _ h => absurd h List.not_mem_nil, rfl, rfl⟩
theorem c_J9_floorMod_7cf53 (l : Launch) : z_CS l yJ9_floorMod_7cf53 cJ9_floorMod_7cf53 3 (some .int) rm_J9_floorMod_7cf53 sp_J9_floorMod_7cf53 := by
  refine z_methF (by decide +kernel) (Or.inr (Or.inl ⟨rfl, rfl⟩)) (fun h => by cases h) rfl (O_J9_floorMod_7cf53 l) ?_
  intro av w K h
  match av, h with
  | [.int x, .int y], h =>
    refine ⟨Nat.le_of_ble_eq_true rfl, fun Jm hs => hs 400 0 _ _ _ _ _ ?_⟩
    obtain ⟨hy, h⟩ := h
    refine ⟨hy, ?_⟩
    conv => whnf
    refine ⟨fun hc => ?_, fun hc => ?_⟩
    · refine ⟨trivial, ?_⟩
      unfold fmodJ at h
      rw [if_neg (fun q => hc q.1)] at h
      exact h
    · conv => whnf
      refine ⟨fun hc2 => ?_, fun hc2 => ?_⟩
      · refine ⟨trivial, ?_⟩
        unfold fmodJ at h
        rw [if_neg (fun q => q.2 hc2)] at h
        exact h
      · refine ⟨trivial, ?_⟩
        unfold fmodJ at h
        rw [if_pos ⟨hc, hc2⟩] at h
        exact h
def fmod (x q : Int32) : Int32 := if q = nI 3 then fmodJ x (nI 3) else x &&& nI 1
def sp_X2_mod : zSp := fun av w K => match av with
  | [.int x, .int q] => K (some (.int (fmod x q))) w
  | _ => False
def rm_X2_mod : Room := { frames := 1, cells := 0, slots := 0, locals := 22 }
def M_X2_mod : zM := (k_X2_mod, f_X2, [(9, 0, 0, 2, 0, 0, sp_J9_floorMod_7cf53)], ([], [], []), [], [], 1, false, (false, 0, fun _ => 0), (0, 0))
theorem ca_X2_mod_0 (l : Launch) : z_cok l RX2 (headSpec (.code yX2_mod cX2_mod 2 (some .int) :: zTT) rm_X2_mod).room (9, 0, 0, 2, 0, 0, sp_J9_floorMod_7cf53) := z_ca0 (c_J9_floorMod_7cf53 l) mb_J9_floorMod_7cf53 wt_560 wt_561 (by decide)
theorem O_X2_mod (l : Launch) : z_OK l RX2 cX2_mod (headSpec (.code yX2_mod cX2_mod 2 (some .int) :: zTT) rm_X2_mod).room M_X2_mod := ⟨ok_X2_mod, fo_X2, List.forall_mem_cons.mpr ⟨ca_X2_mod_0 l, fun _ h => absurd h List.not_mem_nil⟩, fun _ h => absurd h List.not_mem_nil, fun _ h => absurd h List.not_mem_nil, fun _ h => absurd h List.not_mem_nil, fun _ h => absurd h List.not_mem_nil, rfl, rfl⟩
theorem c_X2_mod (l : Launch) : z_CS l yX2_mod cX2_mod 2 (some .int) rm_X2_mod sp_X2_mod := by
  refine z_meth (by decide) (Or.inr (Or.inl ⟨rfl, rfl⟩)) (fun h => by cases h) rfl (O_X2_mod l) ?_
  intro av w K h
  match av, h with
  | [.int x, .int q], h =>
    refine ⟨Nat.le_of_ble_eq_true rfl, fun Jm hs => hs 400 0 _ _ _ _ _ ?_⟩
    conv => whnf
    refine ⟨fun hc => ?_, fun hc => ?_⟩
    · refine ⟨trivial, ?_⟩
      have h : K (some (.int (fmod x q))) w := h
      unfold fmod at h
      rw [if_neg hc] at h
      exact h
    · refine ⟨by decide, trivial, ?_⟩
      have h : K (some (.int (fmod x q))) w := h
      unfold fmod at h
      rw [if_pos hc] at h
      exact h
def fnum (x k : Int32) : Int32 := (z_sar x k &&& nI 1) + nI 2 * (z_sar x (k + nI 9) &&& nI 1)
def sp_X2_numberAt : zSp := fun av w K => match av with
  | [.int x, .int k] => K (some (.int (fnum x k))) w
  | _ => False
def rm_X2_numberAt : Room := { frames := 0, cells := 0, slots := 0, locals := 0 }
def M_X2_numberAt : zM := (k_X2_numberAt, f_X2, [], ([], [], []), [], [], 1, false, (false, 0, fun _ => 0), (0, 0))
theorem O_X2_numberAt (l : Launch) : z_OK l RX2 cX2_numberAt (headSpec (.code yX2_numberAt cX2_numberAt 2 (some .int) :: zTT) rm_X2_numberAt).room M_X2_numberAt := ⟨ok_X2_numberAt, fo_X2, fun _ h => absurd h List.not_mem_nil, fun _ h => absurd h List.not_mem_nil, fun _ h => absurd h List.not_mem_nil, fun _ h => absurd h List.not_mem_nil, fun _ h => absurd h List.not_mem_nil, rfl, rfl⟩
theorem c_X2_numberAt (l : Launch) : z_CS l yX2_numberAt cX2_numberAt 2 (some .int) rm_X2_numberAt sp_X2_numberAt := by
  refine z_meth (by decide) (Or.inr (Or.inl ⟨rfl, rfl⟩)) (fun h => by cases h) rfl (O_X2_numberAt l) ?_
  intro av w K h
  match av, h with
  | [.int x, .int k], h => exact ⟨Nat.le_of_ble_eq_true rfl, fun Jm hs => hs 400 0 _ _ _ _ _ ⟨trivial, h⟩⟩
def fclr (x k : Int32) : Int32 := x &&& ((z_shl (nI 1) k ||| z_shl (nI 1) (k + nI 9)) ^^^ mI 1)
def fwith (x k n : Int32) : Int32 := if n = nI 1 then fclr x k ||| z_shl (nI 1) k else if n = nI 2 then fclr x k ||| z_shl (nI 1) (k + nI 9) else fclr x k
def sp_X2_with : zSp := fun av w K => match av with
  | [.int x, .int k, .int n] => K (some (.int (fwith x k n))) w
  | _ => False
def rm_X2_with : Room := { frames := 0, cells := 0, slots := 0, locals := 0 }
def M_X2_with : zM := (k_X2_with, f_X2, [], ([], [], []), [], [], 1, false, (false, 0, fun _ => 0), (0, 0))
theorem O_X2_with (l : Launch) : z_OK l RX2 cX2_with (headSpec (.code yX2_with cX2_with 6 (some .int) :: zTT) rm_X2_with).room M_X2_with := ⟨ok_X2_with, fo_X2, fun _ h => absurd h List.not_mem_nil, fun _ h => absurd h List.not_mem_nil, fun _ h => absurd h List.not_mem_nil, fun _ h => absurd h List.not_mem_nil, fun _ h => absurd h List.not_mem_nil, rfl, rfl⟩
theorem c_X2_with (l : Launch) : z_CS l yX2_with cX2_with 6 (some .int) rm_X2_with sp_X2_with := by
  refine z_meth (by decide) (Or.inr (Or.inl ⟨rfl, rfl⟩)) (fun h => by cases h) rfl (O_X2_with l) ?_
  intro av w K h
  match av, h with
  | [.int x, .int k, .int n], h =>
    refine ⟨Nat.le_of_ble_eq_true rfl, fun Jm hs => hs 400 0 _ _ _ _ _ ?_⟩
    have h : K (some (.int (fwith x k n))) w := h
    unfold fwith at h
    conv => whnf
    refine ⟨fun hc => ?_, fun hc => ?_⟩
    · rw [if_neg hc] at h
      conv => whnf
      refine ⟨fun hc2 => ?_, fun hc2 => ?_⟩
      · rw [if_neg hc2] at h
        exact ⟨trivial, h⟩
      · rw [if_pos hc2] at h
        exact ⟨trivial, h⟩
    · rw [if_pos hc] at h
      exact ⟨trivial, h⟩
def flo (x : Int32) : Int32 := x &&& nI 511
def fhi (x : Int32) : Int32 := z_sar x (nI 9)
def fnot (x : Int32) : Int32 := x ^^^ mI 1
def fsum (x y q : Int32) : Int32 := if q = nI 2 then x ^^^ y else
  (((flo x &&& fnot (flo y ||| fhi y)) ||| (flo y &&& fnot (flo x ||| fhi x))) ||| (fhi x &&& fhi y)) ||| z_shl (((fhi x &&& fnot (flo y ||| fhi y)) ||| (fhi y &&& fnot (flo x ||| fhi x))) ||| (flo x &&& flo y)) (nI 9)
def sp_X2_sum : zSp := fun av w K => match av with
  | [.int x, .int y, .int q] => K (some (.int (fsum x y q))) w
  | _ => False
def rm_X2_sum : Room := { frames := 0, cells := 0, slots := 0, locals := 0 }
def M_X2_sum : zM := (k_X2_sum, f_X2, [], ([], [], []), [], [], 1, false, (false, 0, fun _ => 0), (0, 0))
theorem O_X2_sum (l : Launch) : z_OK l RX2 cX2_sum (headSpec (.code yX2_sum cX2_sum 9 (some .int) :: zTT) rm_X2_sum).room M_X2_sum := ⟨ok_X2_sum, fo_X2, fun _ h => absurd h List.not_mem_nil, fun _ h => absurd h List.not_mem_nil, fun _ h => absurd h List.not_mem_nil, fun _ h => absurd h List.not_mem_nil, fun _ h => absurd h List.not_mem_nil, rfl, rfl⟩
theorem c_X2_sum (l : Launch) : z_CS l yX2_sum cX2_sum 9 (some .int) rm_X2_sum sp_X2_sum := by
  refine z_meth (by decide) (Or.inr (Or.inl ⟨rfl, rfl⟩)) (fun h => by cases h) rfl (O_X2_sum l) ?_
  intro av w K h
  match av, h with
  | [.int x, .int y, .int q], h =>
    refine ⟨Nat.le_of_ble_eq_true rfl, fun Jm hs => hs 400 0 _ _ _ _ _ ?_⟩
    have h : K (some (.int (fsum x y q))) w := h
    unfold fsum at h
    conv => whnf
    refine ⟨fun hc => ?_, fun hc => ?_⟩
    · rw [if_neg hc] at h
      exact ⟨trivial, h⟩
    · rw [if_pos hc] at h
      exact ⟨trivial, h⟩
def ftimes (n x : Int32) : Int32 := if n = nI 2 then fhi x ||| z_shl (flo x) (nI 9) else if n = nI 1 then x else nI 0
def sp_X2_times : zSp := fun av w K => match av with
  | [.int n, .int x] => K (some (.int (ftimes n x))) w
  | _ => False
def rm_X2_times : Room := { frames := 0, cells := 0, slots := 0, locals := 0 }
def M_X2_times : zM := (k_X2_times, f_X2, [], ([], [], []), [], [], 1, false, (false, 0, fun _ => 0), (0, 0))
theorem O_X2_times (l : Launch) : z_OK l RX2 cX2_times (headSpec (.code yX2_times cX2_times 2 (some .int) :: zTT) rm_X2_times).room M_X2_times := ⟨ok_X2_times, fo_X2, fun _ h => absurd h List.not_mem_nil, fun _ h => absurd h List.not_mem_nil, fun _ h => absurd h List.not_mem_nil, fun _ h => absurd h List.not_mem_nil, fun _ h => absurd h List.not_mem_nil, rfl, rfl⟩
theorem c_X2_times (l : Launch) : z_CS l yX2_times cX2_times 2 (some .int) rm_X2_times sp_X2_times := by
  refine z_meth (by decide) (Or.inr (Or.inl ⟨rfl, rfl⟩)) (fun h => by cases h) rfl (O_X2_times l) ?_
  intro av w K h
  match av, h with
  | [.int n, .int x], h =>
    refine ⟨Nat.le_of_ble_eq_true rfl, fun Jm hs => hs 400 0 _ _ _ _ _ ?_⟩
    have h : K (some (.int (ftimes n x))) w := h
    unfold ftimes at h
    conv => whnf
    refine ⟨fun hc => ?_, fun hc => ?_⟩
    · rw [if_neg hc] at h
      conv => whnf
      refine ⟨fun hc2 => ?_, fun hc2 => ?_⟩
      · rw [if_neg hc2] at h
        exact ⟨trivial, h⟩
      · rw [if_pos hc2] at h
        exact ⟨trivial, h⟩
    · rw [if_pos hc] at h
      exact ⟨trivial, h⟩
def fless (x y q : Int32) : Int32 := fsum x (ftimes (q - nI 1) y) q
def sp_X2_less : zSp := fun av w K => match av with
  | [.int x, .int y, .int q] => K (some (.int (fless x y q))) w
  | _ => False
def rm_X2_less : Room := { frames := 1, cells := 0, slots := 0, locals := 28 }
def M_X2_less : zM := (k_X2_less, f_X2, [(17, 0, 0, 2, 0, 0, sp_X2_times), (20, 0, 0, 3, 0, 0, sp_X2_sum)], ([], [], []), [], [], 1, false, (false, 0, fun _ => 0), (0, 0))
theorem ca_X2_less_0 (l : Launch) : z_cok l RX2 (headSpec (.code yX2_less cX2_less 3 (some .int) :: zTT) rm_X2_less).room (17, 0, 0, 2, 0, 0, sp_X2_times) := z_ca0 (c_X2_times l) mb_X2_times wt_650 wt_651 (by decide)
theorem ca_X2_less_1 (l : Launch) : z_cok l RX2 (headSpec (.code yX2_less cX2_less 3 (some .int) :: zTT) rm_X2_less).room (20, 0, 0, 3, 0, 0, sp_X2_sum) := z_ca0 (c_X2_sum l) mb_X2_sum wt_677 wt_672 (by decide)
theorem O_X2_less (l : Launch) : z_OK l RX2 cX2_less (headSpec (.code yX2_less cX2_less 3 (some .int) :: zTT) rm_X2_less).room M_X2_less := ⟨ok_X2_less, fo_X2, List.forall_mem_cons.mpr ⟨ca_X2_less_0 l, List.forall_mem_cons.mpr ⟨ca_X2_less_1 l, fun _ h => absurd h List.not_mem_nil⟩⟩, fun _ h => absurd h List.not_mem_nil, fun _ h => absurd h List.not_mem_nil, fun _ h => absurd h List.not_mem_nil, fun _ h => absurd h List.not_mem_nil, rfl, rfl⟩
theorem c_X2_less (l : Launch) : z_CS l yX2_less cX2_less 3 (some .int) rm_X2_less sp_X2_less := by
  refine z_meth (by decide) (Or.inr (Or.inl ⟨rfl, rfl⟩)) (fun h => by cases h) rfl (O_X2_less l) ?_
  intro av w K h
  match av, h with
  | [.int x, .int y, .int q], h => exact ⟨Nat.le_of_ble_eq_true rfl, fun Jm hs => hs 400 0 _ _ _ _ _ ⟨trivial, h⟩⟩
def flike (x y q : Int32) : Int32 := if x = nI 0 ∨ y = nI 0 then nI 0 else if x = y then nI 1 else if q = nI 3 ∧ ftimes (nI 2) x = y then nI 2 else nI 0
def sp_X2_likeBy : zSp := fun av w K => match av with
  | [.int x, .int y, .int q] => K (some (.int (flike x y q))) w
  | _ => False
def rm_X2_likeBy : Room := { frames := 1, cells := 0, slots := 0, locals := 21 }
def M_X2_likeBy : zM := (k_X2_likeBy, f_X2, [(17, 0, 0, 2, 0, 0, sp_X2_times)], ([], [], []), [], [], 1, false, (false, 0, fun _ => 0), (0, 0))
theorem ca_X2_likeBy_0 (l : Launch) : z_cok l RX2 (headSpec (.code yX2_likeBy cX2_likeBy 3 (some .int) :: zTT) rm_X2_likeBy).room (17, 0, 0, 2, 0, 0, sp_X2_times) := z_ca0 (c_X2_times l) mb_X2_times wt_650 wt_651 (by decide)
theorem O_X2_likeBy (l : Launch) : z_OK l RX2 cX2_likeBy (headSpec (.code yX2_likeBy cX2_likeBy 3 (some .int) :: zTT) rm_X2_likeBy).room M_X2_likeBy := ⟨ok_X2_likeBy, fo_X2, List.forall_mem_cons.mpr ⟨ca_X2_likeBy_0 l, fun _ h => absurd h List.not_mem_nil⟩, fun _ h => absurd h List.not_mem_nil, fun _ h => absurd h List.not_mem_nil, fun _ h => absurd h List.not_mem_nil, fun _ h => absurd h List.not_mem_nil, rfl, rfl⟩
theorem c_X2_likeBy (l : Launch) : z_CS l yX2_likeBy cX2_likeBy 3 (some .int) rm_X2_likeBy sp_X2_likeBy := by
  refine z_meth (by decide) (Or.inr (Or.inl ⟨rfl, rfl⟩)) (fun h => by cases h) rfl (O_X2_likeBy l) ?_
  intro av w K h
  match av, h with
  | [.int x, .int y, .int q], h =>
    refine ⟨Nat.le_of_ble_eq_true rfl, fun Jm hs => hs 400 0 _ _ _ _ _ ?_⟩
    have h : K (some (.int (flike x y q))) w := h
    unfold flike at h
    conv => whnf
    refine ⟨fun hc => ?_, fun hc => ?_⟩
    · rw [if_pos (Or.inl hc)] at h
      exact ⟨trivial, h⟩
    · conv => whnf
      refine ⟨fun hc2 => ?_, fun hc2 => ?_⟩
      · rw [if_neg (fun q => q.elim hc hc2)] at h
        conv => whnf
        refine ⟨fun hc3 => ?_, fun hc3 => ?_⟩
        · rw [if_neg hc3] at h
          conv => whnf
          refine ⟨fun hc4 => ?_, fun hc4 => ?_⟩
          · rw [if_neg (fun q => hc4 q.1)] at h
            exact ⟨trivial, h⟩
          · conv => whnf
            refine ⟨fun hc5 => ?_, fun hc5 => ?_⟩
            · rw [if_neg (fun q => hc5 q.2)] at h
              exact ⟨trivial, h⟩
            · rw [if_pos ⟨hc4, hc5⟩] at h
              exact ⟨trivial, h⟩
        · rw [if_pos hc3] at h
          exact ⟨trivial, h⟩
      · rw [if_pos (Or.inr hc2)] at h
        exact ⟨trivial, h⟩
def fcodeN (x q : Int32) : Nat → Int32 → Int32
  | 0, a => a
  | n + 1, a => fcodeN x q n (a * q + fnum x (nI n))
def fcode (x q : Int32) : Int32 := fcodeN x q 9 (nI 0)
def sp_X2_code : zSp := fun av w K => match av with
  | [.int x, .int q] => K (some (.int (fcode x q))) w
  | _ => False
def rm_X2_code : Room := { frames := 1, cells := 0, slots := 0, locals := 21 }
def M_X2_code : zM := (k_X2_code, f_X2, [(24, 0, 0, 2, 0, 0, sp_X2_numberAt)], ([], [], []), [], [(5, [true, true, true, true])], 1, false, (false, 0, fun _ => 0), (0, 0))
theorem ca_X2_code_0 (l : Launch) : z_cok l RX2 (headSpec (.code yX2_code cX2_code 4 (some .int) :: zTT) rm_X2_code).room (24, 0, 0, 2, 0, 0, sp_X2_numberAt) := z_ca0 (c_X2_numberAt l) mb_X2_numberAt wt_527 wt_468 (by decide)
theorem O_X2_code (l : Launch) : z_OK l RX2 cX2_code (headSpec (.code yX2_code cX2_code 4 (some .int) :: zTT) rm_X2_code).room M_X2_code := ⟨ok_X2_code, fo_X2, List.forall_mem_cons.mpr ⟨ca_X2_code_0 l, fun _ h => absurd h List.not_mem_nil⟩, fun _ h => absurd h List.not_mem_nil, fun _ h => absurd h List.not_mem_nil, fun _ h => absurd h List.not_mem_nil, fun _ h => absurd h List.not_mem_nil, rfl, rfl⟩
theorem c_X2_code (l : Launch) : z_CS l yX2_code cX2_code 4 (some .int) rm_X2_code sp_X2_code := by
  refine z_meth (by decide) (Or.inr (Or.inl ⟨rfl, rfl⟩)) (fun h => by cases h) rfl (O_X2_code l) ?_
  intro av w K h
  match av, h with
  | [.int x, .int q], h =>
    refine ⟨Nat.le_of_ble_eq_true rfl, fun Jm hs => ?_⟩
    have loop : ∀ (n : Nat) (a : Int32), n ≤ 9 → K (some (.int (fcodeN x q n a))) w → Jm 5 [some (.int x), some (.int q), some (.int a), some (.int (nI n - nI 1))] [] w 0 0 := by
      intro n
      induction n with
      | zero =>
        intro a _ hk
        refine hs 400 5 _ _ _ _ _ ?_
        conv => whnf
        refine ⟨fun hc => ⟨trivial, hk⟩, fun hc => absurd (by decide) hc⟩
      | succ n ih =>
        intro a hn hk
        refine hs 400 5 _ _ _ _ _ ?_
        conv => whnf
        have e : nI (n + 1) - nI 1 = nI n := by rw [pk_sub (by omega)]; rfl
        rw [e]
        refine ⟨fun hc => absurd hc (nI_nlt (Nat.zero_le _) (by omega)), fun hc => ?_⟩
        exact ih _ (by omega) hk
    refine hs 400 0 _ _ _ _ _ ?_
    exact loop 9 (nI 0) (Nat.le_refl 9) h
def fplaces (x : Int32) : Int32 := (x ||| z_sar x (nI 9)) &&& nI 511
def sp_X2_placesOf : zSp := fun av w K => match av with
  | [.int x] => K (some (.int (fplaces x))) w
  | _ => False
def rm_X2_placesOf : Room := { frames := 0, cells := 0, slots := 0, locals := 0 }
def M_X2_placesOf : zM := (k_X2_placesOf, f_X2, [], ([], [], []), [], [], 1, false, (false, 0, fun _ => 0), (0, 0))
theorem O_X2_placesOf (l : Launch) : z_OK l RX2 cX2_placesOf (headSpec (.code yX2_placesOf cX2_placesOf 1 (some .int) :: zTT) rm_X2_placesOf).room M_X2_placesOf := ⟨ok_X2_placesOf, fo_X2, fun _ h => absurd h List.not_mem_nil, fun _ h => absurd h List.not_mem_nil, fun _ h => absurd h List.not_mem_nil, fun _ h => absurd h List.not_mem_nil, fun _ h => absurd h List.not_mem_nil, rfl, rfl⟩
theorem c_X2_placesOf (l : Launch) : z_CS l yX2_placesOf cX2_placesOf 1 (some .int) rm_X2_placesOf sp_X2_placesOf := by
  refine z_meth (by decide) (Or.inr (Or.inl ⟨rfl, rfl⟩)) (fun h => by cases h) rfl (O_X2_placesOf l) ?_
  intro av w K h
  match av, h with
  | [.int x], h => exact ⟨Nat.le_of_ble_eq_true rfl, fun Jm hs => hs 400 0 _ _ _ _ _ ⟨trivial, h⟩⟩
end
section
/-! numbers: bits and packed forms -/
theorem fa_and (a b : Nat) : nI a &&& nI b = nI (a &&& b) := by
  apply Int32.toBitVec_inj.1
  show BitVec.ofNat 32 a &&& BitVec.ofNat 32 b = BitVec.ofNat 32 (a &&& b)
  apply BitVec.eq_of_getLsbD_eq
  intro i hi
  simp [hi]
theorem fa_or (a b : Nat) : nI a ||| nI b = nI (a ||| b) := by
  apply Int32.toBitVec_inj.1
  show BitVec.ofNat 32 a ||| BitVec.ofNat 32 b = BitVec.ofNat 32 (a ||| b)
  apply BitVec.eq_of_getLsbD_eq
  intro i hi
  simp [hi]
theorem fb_xorI (a b : Nat) : nI a ^^^ nI b = nI (a ^^^ b) := by
  apply Int32.toBitVec_inj.1
  show BitVec.ofNat 32 a ^^^ BitVec.ofNat 32 b = BitVec.ofNat 32 (a ^^^ b)
  apply BitVec.eq_of_getLsbD_eq
  intro i hi
  simp [hi]
theorem mI_1 : mI 1 = nI 4294967295 := by decide
theorem z_smod : ∀ k, k < 32 → ((nI k &&& 31).toBitVec.smod 32).toNat = k := by decide
theorem z_sarN {n k : Nat} (h : n < 2 ^ 31) (hk : k < 32) : z_sar (nI n) (nI k) = nI (n / 2 ^ k) := pk_shrN h _ k (z_smod k hk)
theorem z_shlN {n k : Nat} (hk : k < 32) (h : n * 2 ^ k < 2 ^ 32) : z_shl (nI n) (nI k) = nI (n * 2 ^ k) := pk_shlN _ k (z_smod k hk) h
theorem nI_eq2 {a b : Nat} (ha : a < 2 ^ 32) (hb : b < 2 ^ 32) : nI a = nI b ↔ a = b := by
  constructor
  · intro h
    have h1 : (BitVec.ofNat 32 a).toNat = (BitVec.ofNat 32 b).toNat := congrArg (fun x : Int32 => x.toBitVec.toNat) h
    rw [BitVec.toNat_ofNat, BitVec.toNat_ofNat, Nat.mod_eq_of_lt (by omega), Nat.mod_eq_of_lt (by omega)] at h1
    exact h1
  · rintro rfl; rfl
/-- a number out of bits -/
def bs (f : Nat → Bool) : Nat → Nat
  | 0 => 0
  | n + 1 => bs f n + (if f n then 2 ^ n else 0)
theorem bs_lt (f : Nat → Bool) : ∀ n, bs f n < 2 ^ n
  | 0 => by simp [bs]
  | n + 1 => by
    have := bs_lt f n
    rw [bs, Nat.pow_succ]
    split <;> omega
theorem bs_bit (f : Nat → Bool) : ∀ n j, (bs f n).testBit j = (decide (j < n) && f j)
  | 0, j => by simp [bs]
  | n + 1, j => by
    have ih := bs_bit f n j
    have hl := bs_lt f n
    rw [bs]
    by_cases hf : f n = true
    · rw [if_pos hf, Nat.add_comm]
      rcases Nat.lt_trichotomy j n with h | h | h
      · rw [Nat.testBit_two_pow_add_gt h, ih]; simp [h, Nat.lt_succ_of_lt h]
      · subst h; rw [Nat.testBit_two_pow_add_eq, ih]; simp [hf]
      · have h2 : 2 ^ (n + 1) ≤ 2 ^ j := Nat.pow_le_pow_right (by decide) h
        rw [Nat.pow_succ] at h2
        rw [Nat.testBit_lt_two_pow (by omega)]
        have : ¬ j < n + 1 := by omega
        simp [this]
    · rw [if_neg hf, Nat.add_zero, ih]
      by_cases h : j = n
      · subst h; simp [hf]
      · have : (j < n + 1) = (j < n) := by apply propext; omega
        simp [this]
theorem bs_congr {f g : Nat → Bool} : ∀ {n : Nat}, (∀ j, j < n → f j = g j) → bs f n = bs g n
  | 0, _ => rfl
  | n + 1, h => by rw [bs, bs, bs_congr (fun j hj => h j (by omega)), h n (by omega)]
/-- a form, packed: bits 0 .. 8 the places with 1, bits 9 .. 17 those with 2 -/
def pN (a : Nat → Nat) : Nat := bs (fun j => if j < 9 then a j == 1 else a (j - 9) == 2) 18
def pk (a : Nat → Nat) : Int32 := nI (pN a)
theorem pN_lt (a : Nat → Nat) : pN a < 262144 := bs_lt _ 18
theorem pN_bit (a : Nat → Nat) (j : Nat) : (pN a).testBit j = (decide (j < 18) && if j < 9 then a j == 1 else a (j - 9) == 2) := bs_bit _ 18 j
theorem pN_low (a : Nat → Nat) {j : Nat} (h : j < 9) : (pN a).testBit j = (a j == 1) := by
  rw [pN_bit]; simp [h, show j < 18 by omega]
theorem pN_high (a : Nat → Nat) {j : Nat} (h : j < 9) : (pN a).testBit (j + 9) = (a j == 2) := by
  rw [pN_bit]; simp [show ¬ j + 9 < 9 by omega, show j + 9 < 18 by omega]
theorem pN_none (a : Nat → Nat) {j : Nat} (h : 18 ≤ j) : (pN a).testBit j = false := by
  rw [pN_bit]; simp [show ¬ j < 18 by omega]
theorem pN_ext {v : Nat} {a : Nat → Nat} (h1 : ∀ j, j < 9 → v.testBit j = (a j == 1)) (h2 : ∀ j, j < 9 → v.testBit (j + 9) = (a j == 2)) (h3 : ∀ j, 18 ≤ j → v.testBit j = false) : v = pN a := by
  apply Nat.eq_of_testBit_eq
  intro j
  rcases Nat.lt_or_ge j 9 with h | h
  · rw [h1 j h, pN_low a h]
  · rcases Nat.lt_or_ge j 18 with h' | h'
    · have e : j = j - 9 + 9 := by omega
      rw [e, h2 _ (by omega), pN_high a (by omega)]
    · rw [h3 j h', pN_none a h']
theorem pk_congr {a b : Nat → Nat} (h : ∀ p, p < 9 → a p = b p) : pk a = pk b := by
  unfold pk
  rw [pN_ext (v := pN a) (a := b) (fun j hj => by rw [pN_low a hj, h j hj]) (fun j hj => by rw [pN_high a hj, h j hj]) (fun j hj => pN_none a hj)]
theorem pk_inj {a b : Nat → Nat} (ha : ∀ p, p < 9 → a p < 3) (hb : ∀ p, p < 9 → b p < 3) : pk a = pk b ↔ ∀ p, p < 9 → a p = b p := by
  constructor
  · intro h p hp
    unfold pk at h
    have h := (nI_eq2 (by have := pN_lt a; omega) (by have := pN_lt b; omega)).mp h
    have e1 := pN_low a hp
    have e2 := pN_high a hp
    rw [h, pN_low b hp] at e1
    rw [h, pN_high b hp] at e2
    have q1 := ha p hp
    have q2 := hb p hp
    rcases (show a p = 0 ∨ a p = 1 ∨ a p = 2 by omega) with r | r | r <;> rcases (show b p = 0 ∨ b p = 1 ∨ b p = 2 by omega) with r2 | r2 | r2 <;> simp_all
  · exact pk_congr
theorem pk_zero : pk (fun _ => 0) = nI 0 := by decide
theorem pk_eq0 {a : Nat → Nat} (ha : ∀ p, p < 9 → a p < 3) : pk a = nI 0 ↔ ∀ p, p < 9 → a p = 0 := by
  rw [← pk_zero]
  exact pk_inj ha (fun _ _ => by decide)
theorem and_1 (n : Nat) : n &&& 1 = if n.testBit 0 then 1 else 0 := by
  rw [show (1 : Nat) = 2 ^ 1 - 1 from rfl, Nat.and_two_pow_sub_one_eq_mod]
  have : n % 2 = 0 ∨ n % 2 = 1 := by omega
  rcases this with h | h <;> simp [Nat.testBit_zero, h]
theorem fnum_pk {a : Nat → Nat} (ha : ∀ p, p < 9 → a p < 3) {k : Nat} (hk : k < 9) : fnum (pk a) (nI k) = nI (a k) := by
  unfold fnum pk
  have hl := pN_lt a
  rw [nI_add, z_sarN (by omega) (by omega), z_sarN (by omega) (by omega), fa_and, fa_and, and_1, and_1, Nat.testBit_div_two_pow, Nat.testBit_div_two_pow, Nat.zero_add, Nat.zero_add, pN_low a hk, pN_high a hk, pk_mul, nI_add]
  have := ha k hk
  rcases (show a k = 0 ∨ a k = 1 ∨ a k = 2 by omega) with r | r | r <;> rw [r] <;> rfl
theorem flo_pk (a : Nat → Nat) : flo (pk a) = nI (pN a % 512) := by
  unfold flo pk
  rw [fa_and, show (511 : Nat) = 2 ^ 9 - 1 from rfl, Nat.and_two_pow_sub_one_eq_mod]
theorem fhi_pk (a : Nat → Nat) : fhi (pk a) = nI (pN a / 512) := by
  unfold fhi pk
  have hl := pN_lt a
  rw [z_sarN (by omega) (by omega)]
theorem fnot_N (n : Nat) : fnot (nI n) = nI (n ^^^ 4294967295) := by
  unfold fnot
  rw [mI_1, fb_xorI]
theorem tb_ones {j : Nat} (h : j < 32) : (4294967295 : Nat).testBit j = true := by
  rw [show (4294967295 : Nat) = 2 ^ 32 - 1 from rfl, Nat.testBit_two_pow_sub_one]
  simp [h]
theorem tb_lo (a : Nat → Nat) (j : Nat) : (pN a % 512).testBit j = (decide (j < 9) && a j == 1) := by
  rw [show (512 : Nat) = 2 ^ 9 from rfl, Nat.testBit_mod_two_pow]
  by_cases h : j < 9
  · rw [pN_low a h]
  · simp [h]
theorem tb_hi (a : Nat → Nat) (j : Nat) : (pN a / 512).testBit j = (decide (j < 9) && a j == 2) := by
  rw [show (512 : Nat) = 2 ^ 9 from rfl, Nat.testBit_div_two_pow]
  by_cases h : j < 9
  · rw [pN_high a h]; simp [h]
  · rw [pN_none a (by omega)]; simp [h]
theorem sum3 {x y : Nat} (hx : x < 3) (hy : y < 3) : ((((x == 1) && !((y == 1) || (y == 2))) || ((y == 1) && !((x == 1) || (x == 2)))) || ((x == 2) && (y == 2))) = ((x + y) % 3 == 1) ∧ ((((x == 2) && !((y == 1) || (y == 2))) || ((y == 2) && !((x == 1) || (x == 2)))) || ((x == 1) && (y == 1))) = ((x + y) % 3 == 2) := by
  rcases (show x = 0 ∨ x = 1 ∨ x = 2 by omega) with r | r | r <;> rcases (show y = 0 ∨ y = 1 ∨ y = 2 by omega) with r2 | r2 | r2 <;> subst r <;> subst r2 <;> decide
theorem tb_shl9 (n j : Nat) : (n * 2 ^ 9).testBit j = (decide (9 ≤ j) && n.testBit (j - 9)) := Nat.testBit_mul_two_pow n j 9
theorem lt_of_bits {n m : Nat} (h : ∀ j, m ≤ j → n.testBit j = false) : n < 2 ^ m := Nat.lt_pow_two_of_testBit n h
/-- sums, modulo 2 or 3 -/
theorem fsum_pk {q : Nat} (hq : q = 2 ∨ q = 3) {a b : Nat → Nat} (ha : ∀ p, p < 9 → a p < q) (hb : ∀ p, p < 9 → b p < q) : fsum (pk a) (pk b) (nI q) = pk (fun p => (a p + b p) % q) := by
  unfold fsum
  rcases hq with rfl | rfl
  · rw [if_pos rfl]
    unfold pk
    rw [fb_xorI]
    congr 1
    refine pN_ext (fun j hj => ?_) (fun j hj => ?_) (fun j hj => ?_)
    · rw [Nat.testBit_xor, pN_low a hj, pN_low b hj]
      have := ha j hj
      have := hb j hj
      rcases (show a j = 0 ∨ a j = 1 by omega) with r | r <;> rcases (show b j = 0 ∨ b j = 1 by omega) with r2 | r2 <;> simp [r, r2]
    · rw [Nat.testBit_xor, pN_high a hj, pN_high b hj]
      have := ha j hj
      have := hb j hj
      rcases (show a j = 0 ∨ a j = 1 by omega) with r | r <;> rcases (show b j = 0 ∨ b j = 1 by omega) with r2 | r2 <;> simp [r, r2]
    · rw [Nat.testBit_xor, pN_none a hj, pN_none b hj]; rfl
  · rw [if_neg (by decide)]
    simp only [flo_pk, fhi_pk, fnot_N, fa_or, fa_and]
    rw [z_shlN (by decide) ?_, fa_or]
    · unfold pk
      congr 1
      have low : ∀ j, j < 9 → ((((pN a % 512 &&& ((pN b % 512 ||| pN b / 512) ^^^ 4294967295)) ||| (pN b % 512 &&& ((pN a % 512 ||| pN a / 512) ^^^ 4294967295))) ||| (pN a / 512 &&& pN b / 512))).testBit j = ((a j + b j) % 3 == 1) := by
        intro j hj
        simp only [Nat.testBit_or, Nat.testBit_and, Nat.testBit_xor, tb_lo, tb_hi, tb_ones (show j < 32 by omega), hj, decide_true, Bool.true_and, Bool.xor_true]
        exact (sum3 (ha j hj) (hb j hj)).1
      have high : ∀ j, j < 9 → ((((pN a / 512 &&& ((pN b % 512 ||| pN b / 512) ^^^ 4294967295)) ||| (pN b / 512 &&& ((pN a % 512 ||| pN a / 512) ^^^ 4294967295))) ||| (pN a % 512 &&& pN b % 512))).testBit j = ((a j + b j) % 3 == 2) := by
        intro j hj
        simp only [Nat.testBit_or, Nat.testBit_and, Nat.testBit_xor, tb_lo, tb_hi, tb_ones (show j < 32 by omega), hj, decide_true, Bool.true_and, Bool.xor_true]
        exact (sum3 (ha j hj) (hb j hj)).2
      refine pN_ext (fun j hj => ?_) (fun j hj => ?_) (fun j hj => ?_)
      · rw [Nat.testBit_or, low j hj, tb_shl9]; simp [show ¬ 9 ≤ j by omega]
      · rw [Nat.testBit_or, tb_shl9, Nat.add_sub_cancel, high j hj]
        simp [Nat.testBit_or, Nat.testBit_and, tb_lo, tb_hi, show ¬ j + 9 < 9 by omega]
      · rw [Nat.testBit_or, tb_shl9]
        simp [Nat.testBit_or, Nat.testBit_and, tb_lo, tb_hi, show ¬ j < 9 by omega, show ¬ j - 9 < 9 by omega]
    · have : ((((pN a / 512 &&& ((pN b % 512 ||| pN b / 512) ^^^ 4294967295)) ||| (pN b / 512 &&& ((pN a % 512 ||| pN a / 512) ^^^ 4294967295))) ||| (pN a % 512 &&& pN b % 512))) < 2 ^ 9 := lt_of_bits (fun j hj => by simp [Nat.testBit_or, Nat.testBit_and, tb_lo, tb_hi, show ¬ j < 9 by omega])
      omega
theorem ftimes_pk {q f : Nat} (hq : q = 2 ∨ q = 3) (hf : f < q) {a : Nat → Nat} (ha : ∀ p, p < 9 → a p < q) : ftimes (nI f) (pk a) = pk (fun p => f * a p % q) := by
  unfold ftimes
  have h3 : f = 0 ∨ f = 1 ∨ f = 2 := by omega
  rcases h3 with rfl | rfl | rfl
  · rw [if_neg (by decide), if_neg (by decide), ← pk_zero]
    exact pk_congr (fun p _ => by simp)
  · rw [if_neg (by decide), if_pos rfl]
    refine pk_congr (fun p hp => ?_)
    rw [Nat.one_mul, Nat.mod_eq_of_lt (ha p hp)]
  · have hq3 : q = 3 := by omega
    subst hq3
    rw [if_pos rfl, flo_pk, fhi_pk, z_shlN (by decide) (by have := Nat.mod_lt (pN a) (show 512 > 0 by decide); omega), fa_or]
    unfold pk
    congr 1
    refine pN_ext (fun j hj => ?_) (fun j hj => ?_) (fun j hj => ?_)
    · rw [Nat.testBit_or, tb_shl9, tb_hi]
      have := ha j hj
      rcases (show a j = 0 ∨ a j = 1 ∨ a j = 2 by omega) with r | r | r <;> simp [r, hj, show ¬ 9 ≤ j by omega]
    · rw [Nat.testBit_or, tb_shl9, Nat.add_sub_cancel, tb_hi, tb_lo]
      have := ha j hj
      rcases (show a j = 0 ∨ a j = 1 ∨ a j = 2 by omega) with r | r | r <;> simp [r, hj, show ¬ j + 9 < 9 by omega]
    · rw [Nat.testBit_or, tb_shl9, tb_hi, tb_lo]
      simp [show ¬ j < 9 by omega, show ¬ j - 9 < 9 by omega]
theorem fless_pk {q : Nat} (hq : q = 2 ∨ q = 3) {a b : Nat → Nat} (ha : ∀ p, p < 9 → a p < q) (hb : ∀ p, p < 9 → b p < q) : fless (pk a) (pk b) (nI q) = pk (fun p => (a p + (q - b p)) % q) := by
  unfold fless
  rw [pk_sub (by omega), ftimes_pk hq (by omega) hb, fsum_pk hq ha (fun p _ => Nat.mod_lt _ (by omega))]
  refine pk_congr (fun p hp => ?_)
  have := ha p hp
  have := hb p hp
  rcases hq with rfl | rfl
  · rcases (show b p = 0 ∨ b p = 1 by omega) with r | r <;> rw [r] <;> omega
  · rcases (show b p = 0 ∨ b p = 1 ∨ b p = 2 by omega) with r | r | r <;> rw [r] <;> omega
theorem fmod_N {q n : Nat} (hq : q = 2 ∨ q = 3) (hn : n < 2 ^ 31) : fmod (nI n) (nI q) = nI (n % q) := by
  unfold fmod
  rcases hq with rfl | rfl
  · rw [if_neg (by decide), fa_and]
    congr 1
    rw [show (1 : Nat) = 2 ^ 1 - 1 from rfl, Nat.and_two_pow_sub_one_eq_mod]
  · rw [if_pos rfl]
    unfold fmodJ z_rem
    rw [pk_rem hn (by decide) (by decide), if_neg]
    rintro ⟨h, -⟩
    rw [fb_xorI] at h
    have h2 : n ^^^ 3 < 2 ^ 31 := Nat.xor_lt_two_pow hn (by decide)
    exact nI_nlt (Nat.zero_le _) h2 h
/-- LIKE: by which f the second is f times the first; 0: by none -/
def likeN (q : Nat) (a b : Nat → Nat) : Nat :=
  if (∀ p : Nat, p < 9 → a p = 0) ∨ (∀ p : Nat, p < 9 → b p = 0) then 0 else if ∀ p : Nat, p < 9 → b p = a p then 1 else if q = 3 ∧ ∀ p : Nat, p < 9 → b p = 2 * a p % 3 then 2 else 0
theorem flike_pk {q : Nat} (hq : q = 2 ∨ q = 3) {a b : Nat → Nat} (ha : ∀ p, p < 9 → a p < q) (hb : ∀ p, p < 9 → b p < q) : flike (pk a) (pk b) (nI q) = nI (likeN q a b) := by
  have ha3 : ∀ p, p < 9 → a p < 3 := fun p hp => by have := ha p hp; omega
  have hb3 : ∀ p, p < 9 → b p < 3 := fun p hp => by have := hb p hp; omega
  unfold flike likeN
  simp only [pk_eq0 ha3, pk_eq0 hb3, pk_inj ha3 hb3]
  by_cases h1 : (∀ p, p < 9 → a p = 0) ∨ (∀ p, p < 9 → b p = 0)
  · rw [if_pos h1, if_pos h1]
  · rw [if_neg h1, if_neg h1]
    by_cases h2 : ∀ p, p < 9 → a p = b p
    · rw [if_pos h2, if_pos (fun p hp => (h2 p hp).symm)]
    · have h2' : ¬ ∀ p : Nat, p < 9 → b p = a p := fun h => h2 (fun p hp => (h p hp).symm)
      rw [if_neg h2, if_neg h2']
      rcases hq with rfl | rfl
      · have n1 : ¬ (nI 2 = nI 3 ∧ ftimes (nI 2) (pk a) = pk b) := fun h => absurd h.1 (by decide)
        have n2 : ¬ ((2 : Nat) = 3 ∧ ∀ p : Nat, p < 9 → b p = 2 * a p % 3) := fun h => absurd h.1 (by decide)
        rw [if_neg n1, if_neg n2]
      · have e := ftimes_pk (q := 3) (f := 2) (Or.inr rfl) (by decide) ha
        have e2 : pk (fun p => 2 * a p % 3) = pk b ↔ ∀ p, p < 9 → 2 * a p % 3 = b p := pk_inj (fun p _ => Nat.mod_lt _ (by decide)) hb3
        rw [e]
        by_cases h3 : ∀ p, p < 9 → 2 * a p % 3 = b p
        · have y2 : (3 : Nat) = 3 ∧ ∀ p : Nat, p < 9 → b p = 2 * a p % 3 := ⟨rfl, fun p hp => (h3 p hp).symm⟩
          rw [if_pos ⟨rfl, e2.mpr h3⟩, if_pos y2]
        · have n1 : ¬ (nI 3 = nI 3 ∧ pk (fun p => 2 * a p % 3) = pk b) := fun h => h3 (e2.mp h.2)
          have n2 : ¬ ((3 : Nat) = 3 ∧ ∀ p : Nat, p < 9 → b p = 2 * a p % 3) := fun h => h3 (fun p hp => (h.2 p hp).symm)
          rw [if_neg n1, if_neg n2]
theorem likeN_lt (q : Nat) (a b : Nat → Nat) : likeN q a b < 3 := by
  unfold likeN
  split
  · decide
  · split
    · decide
    · split <;> decide
theorem likeN_lt_q {q : Nat} (hq : q = 2 ∨ q = 3) (a b : Nat → Nat) : likeN q a b < q := by
  unfold likeN
  rcases hq with rfl | rfl
  · split
    · decide
    · split
      · decide
      · split
        · rename_i h; exact absurd h.1 (by decide)
        · decide
  · exact likeN_lt 3 a b
/-- a place set -/
def setp (a : Nat → Nat) (k n : Nat) : Nat → Nat := fun p => if p = k then n else a p
theorem fwith_pk {a : Nat → Nat} (ha : ∀ p, p < 9 → a p < 3) {k n : Nat} (hk : k < 9) (hn : n < 3) : fwith (pk a) (nI k) (nI n) = pk (setp a k n) := by
  have hl := pN_lt a
  have p1 : 1 * 2 ^ k < 2 ^ 9 := by rw [Nat.one_mul]; exact Nat.pow_lt_pow_right (by decide) hk
  have p2 : 1 * 2 ^ (k + 9) < 2 ^ 18 := by rw [Nat.one_mul]; exact Nat.pow_lt_pow_right (by decide) (by omega)
  have e1 : z_shl (nI 1) (nI k) = nI (2 ^ k) := by rw [z_shlN (by omega) (by omega), Nat.one_mul]
  have e2 : z_shl (nI 1) (nI (k + 9)) = nI (2 ^ (k + 9)) := by rw [z_shlN (by omega) (by omega), Nat.one_mul]
  have hclr : fclr (pk a) (nI k) = nI (pN a &&& ((2 ^ k ||| 2 ^ (k + 9)) ^^^ 4294967295)) := by
    unfold fclr pk
    rw [nI_add, e1, e2, fa_or, mI_1, fb_xorI, fa_and]
  have clr : ∀ j, (pN a &&& ((2 ^ k ||| 2 ^ (k + 9)) ^^^ 4294967295)).testBit j = ((pN a).testBit j && !(decide (k = j) || decide (k + 9 = j))) := by
    intro j
    rw [Nat.testBit_and, Nat.testBit_xor, Nat.testBit_or, Nat.testBit_two_pow, Nat.testBit_two_pow]
    by_cases h : j < 18
    · rw [tb_ones (by omega), Bool.xor_true]
    · rw [pN_none a (by omega)]; rfl
  unfold fwith
  rw [hclr, nI_add, e1, e2, fa_or, fa_or]
  rcases (show n = 0 ∨ n = 1 ∨ n = 2 by omega) with rfl | rfl | rfl
  · rw [if_neg (by decide), if_neg (by decide)]
    unfold pk
    congr 1
    refine pN_ext (fun j hj => ?_) (fun j hj => ?_) (fun j hj => ?_)
    · rw [clr, pN_low a hj]
      by_cases h : k = j
      · subst h; simp [setp]
      · simp [setp, h, fun q => h (Eq.symm q), show ¬ k + 9 = j by omega, show ¬ j = k from fun q => h q.symm]
    · rw [clr, pN_high a hj]
      by_cases h : k = j
      · subst h; simp [setp]
      · simp [setp, h, show ¬ k = j + 9 by omega, show ¬ j = k from fun q => h q.symm]
    · rw [clr, pN_none a hj]; rfl
  · rw [if_pos rfl]
    unfold pk
    congr 1
    refine pN_ext (fun j hj => ?_) (fun j hj => ?_) (fun j hj => ?_)
    · rw [Nat.testBit_or, Nat.testBit_two_pow, clr, pN_low a hj]
      by_cases h : k = j
      · subst h; simp [setp]
      · simp [setp, h, show ¬ k + 9 = j by omega, show ¬ j = k from fun q => h q.symm]
    · rw [Nat.testBit_or, Nat.testBit_two_pow, clr, pN_high a hj]
      by_cases h : k = j
      · subst h; simp [setp, show ¬ k = k + 9 by omega]
      · simp [setp, h, show ¬ k = j + 9 by omega, show ¬ j = k from fun q => h q.symm]
    · rw [Nat.testBit_or, Nat.testBit_two_pow, clr, pN_none a hj]
      simp [show ¬ k = j by omega]
  · rw [if_neg (by decide), if_pos rfl]
    unfold pk
    congr 1
    refine pN_ext (fun j hj => ?_) (fun j hj => ?_) (fun j hj => ?_)
    · rw [Nat.testBit_or, Nat.testBit_two_pow, clr, pN_low a hj]
      by_cases h : k = j
      · subst h; simp [setp]
      · simp [setp, h, show ¬ k + 9 = j by omega, show ¬ j = k from fun q => h q.symm]
    · rw [Nat.testBit_or, Nat.testBit_two_pow, clr, pN_high a hj]
      by_cases h : k = j
      · subst h; simp [setp]
      · simp [setp, h, show ¬ k = j + 9 by omega, show ¬ j = k from fun q => h q.symm]
    · rw [Nat.testBit_or, Nat.testBit_two_pow, clr, pN_none a hj]
      simp [show ¬ k + 9 = j by omega]
end
section
/-! the world of the class, and of the reference -/
def GC : List zSh := [.inl (9, [some (some 1), some (some 4), some (some 6), some (some 9), some (some 12), some (some 15), some (some 18), some (some 19), some (some 31), some (some 38), none]),
  .inl (7, [some (some 2), none, none, none]), .inl (2, [some (some 3)]), .inr (0, 400),
  .inl (8, [some (some 5), none]), .inr (1, 9),
  .inl (5, [some (some 7), none, none, none, none, none]), .inl (2, [some (some 8)]), .inr (0, 120),
  .inl (5, [some (some 10), none, none, none, none, none]), .inl (2, [some (some 11)]), .inr (0, 120),
  .inl (5, [some (some 13), none, none, none, none, none]), .inl (2, [some (some 14)]), .inr (0, 120),
  .inl (1, [some (some 16)]), .inl (2, [some (some 17)]), .inr (0, 18),
  .inl (3, [none, none]),
  .inl (6, [some (some 20), some (some 27), some (some 29)]),
  .inl (0, [some (some 21), some (some 23), some (some 25), none, none, none, none]), .inl (2, [some (some 22)]), .inr (0, 9), .inl (2, [some (some 24)]), .inr (0, 9), .inl (2, [some (some 26)]), .inr (0, 9),
  .inl (2, [some (some 28)]), .inr (0, 9), .inl (2, [some (some 30)]), .inr (0, 3),
  .inl (0, [some (some 32), some (some 34), some (some 36), none, none, none, none]), .inl (2, [some (some 33)]), .inr (0, 9), .inl (2, [some (some 35)]), .inr (0, 9), .inl (2, [some (some 37)]), .inr (0, 9),
  .inl (4, [some (some 39), some (some 40), some (some 42), some (some 43), none, none]), .inr (1, 8748), .inl (2, [some (some 41)]), .inr (0, 729), .inr (1, 12), .inl (2, [some (some 44)]), .inr (0, 3)]
def GM : List zSh := [.inl (10, [some (some 46), none, none, some (some 47), none, some (some 48), some (some 49), some (some 50), none, some (some 51), none, none, none, none, none, some (some 52), none, none, none, some (some 53), none, none, some (some 54), some (some 55), none, some (some 56), some (some 57), some (some 58), some (some 59), none, some (some 60), some (some 61), none]),
  .inr (0, 3), .inr (0, 1080), .inr (0, 3), .inr (0, 1080), .inr (2, 400), .inr (1, 16), .inr (0, 1080), .inr (0, 18), .inr (0, 180), .inr (0, 9), .inr (0, 3), .inr (0, 1080), .inr (3, 40), .inr (0, 81), .inr (1, 13122), .inr (0, 729)]
/-- a world in which the class's cells stand -/
def zG (G : List zSh) : Prop := ∃ r, G = GC ++ r
theorem zG_of (r : List zSh) : zG (GC ++ r) := ⟨r, rfl⟩
/-- a world in which the reference's cells stand, too -/
def zH (G : List zSh) : Prop := ∃ r, G = GC ++ (GM ++ r)
theorem zH_of (r : List zSh) : zH (GC ++ (GM ++ r)) := ⟨r, rfl⟩

/-! loops that count up; truth as a number -/
theorem up_ind {P : Nat → Prop} (N : Nat) (h : ∀ i, i ≤ N → (i < N → P (i + 1)) → P i) : ∀ i, i ≤ N → P i := by
  intro i hi
  have H : ∀ m i, i + m = N → P i := by
    intro m
    induction m with
    | zero => intro i e; exact h i (by omega) (fun q => by omega)
    | succ m ih => intro i e; exact h i (by omega) (fun _ => ih (i + 1) (by omega))
  exact H (N - i) i (by omega)
def bI (p : Prop) [Decidable p] : Int32 := if p then nI 1 else nI 0
theorem bI_t {p : Prop} [Decidable p] (h : p) : bI p = nI 1 := if_pos h
theorem bI_f {p : Prop} [Decidable p] (h : ¬ p) : bI p = nI 0 := if_neg h
theorem bI_0 {p : Prop} [Decidable p] : bI p = nI 0 ↔ ¬ p := by
  unfold bI
  by_cases h : p
  · rw [if_pos h]; exact ⟨fun q => absurd q (by decide), fun q => absurd h q⟩
  · rw [if_neg h]; exact ⟨fun _ => h, fun _ => rfl⟩
theorem bI_or {p : Prop} [Decidable p] : bI p = nI 0 ∨ bI p = nI 1 := by
  unfold bI
  split
  · exact Or.inr rfl
  · exact Or.inl rfl
theorem ltN {i n : Nat} (hi : i < 2 ^ 31) (hn : n < 2 ^ 31) : nI i < nI n ↔ i < n := nI_ltI hi hn
/-! a method that has no loop: its walk is its contract -/
def z_au (M : zM) (nL : Nat) : zSp := fun av w K => match Nat.ble (z_szs av) nL with
  | true => z_wp M K (fun _ _ _ _ _ _ => False) 1000 (z_from M.1 0) (z_arl av nL) [] w 0 0
  | false => False
theorem z_wp_nocut {M : zM} (hM : M.2.2.2.2.2.1 = []) (post : Option Value → zW → Prop) (Jm Jm' : zJ) : ∀ n, z_wp M post Jm n = z_wp M post Jm' n
  | 0 => by
    funext l al st w c1 c2
    rfl
  | n + 1 => by
    have ih := z_wp_nocut hM post Jm Jm' n
    have hn : z_nxt M Jm = z_nxt M Jm' := by
      funext go l pc' al' st' w' c1' c2'
      unfold z_nxt
      rw [hM]
      rfl
    funext l al st w c1 c2
    cases l with
    | nil => rfl
    | cons e l =>
      show z_step M post _ e al st w c1 c2 = z_step M post _ e al st w c1 c2
      rw [ih, hn]
theorem z_au_ok {M : zM} {nL : Nat} {K : Option Value → zW → Prop} {av : List Value} {w : zW} (hM : M.2.2.2.2.2.1 = []) (h : z_au M nL av w K) : z_PO M nL K av w := by
  unfold z_au at h
  split at h
  · rename_i e
    refine ⟨Nat.le_of_ble_eq_true e, fun Jm hs => hs 1000 0 _ _ _ _ _ ?_⟩
    rw [z_wp_nocut hM K Jm (fun _ _ _ _ _ _ => False)]
    exact h
  · exact h.elim
/-! a field, an element of an object that is not told by its number -/
theorem z_fld_of {M : zM} {i ci j tc : Nat} {b : Bool} {w : zW} {o : Nat} {fs : List (Option (Option Nat))} {f : Option (Option Nat)} {k : Nat → Nat → List (Option (Option Nat)) → Nat → Option (Option Nat) → Prop} (h0 : z_look M.2.1 i = some (ci, j, tc, b)) (h1 : z_nth w.1 o = some (.inl (ci, fs))) (h2 : z_nth fs j = some f) (h : k tc ci fs j f) : z_fld M i w o k := by
  unfold z_fld
  rw [h0]
  dsimp only
  rw [h1]
  dsimp only
  rw [Nat.beq_refl]
  dsimp only
  rw [h2]
  exact h
theorem z_arr_of {w : zW} {o t n : Nat} {k : Nat → Nat → Prop} (h1 : z_nth w.1 o = some (.inr (t, n))) (h : k t n) : z_arr w o k := by
  unfold z_arr
  rw [h1]
  exact h
/-! Ints -/
def gI (G : List zSh) (o : Nat) (k : Nat → Nat → Prop) : Prop := match z_nth G o with
  | some (.inl (c, [some (some a)])) => (match Nat.beq c 2 with
    | true => (match z_nth G a with
      | some (.inr (t, n)) => (match Nat.beq t 0 with
        | true => k a n
        | false => False)
      | _ => False)
    | false => False)
  | _ => False
theorem gI_ok {G : List zSh} {o : Nat} {k : Nat → Nat → Prop} (h : gI G o k) : ∃ a n, z_nth G o = some (.inl (2, [some (some a)])) ∧ z_nth G a = some (.inr (0, n)) ∧ k a n := by
  unfold gI at h
  split at h
  · rename_i c a e
    split at h
    · rename_i hc
      split at h
      · rename_i t n e2
        split at h
        · rename_i ht
          have := Nat.eq_of_beq_eq_true hc
          have := Nat.eq_of_beq_eq_true ht
          subst_vars
          exact ⟨a, n, e, e2, h⟩
        · exact h.elim
      · exact h.elim
    · exact h.elim
  · exact h.elim
def atF (f : Nat → Int32) (n : Nat) (i : Int32) : Int32 := if ¬ i < nI 0 ∧ i < nI n then f i.toNatClampNeg else nI 0
theorem atF_in {f : Nat → Int32} {n k : Nat} (h : k < n) (hn : n < 2 ^ 31) : atF f n (nI k) = f k := by
  unfold atF
  rw [if_pos ⟨nI_nlt (Nat.zero_le _) (by omega), nI_lt h hn⟩, nI_clamp (by omega)]
theorem vp_in_N {i : Int32} {n : Nat} (h0 : ¬ i < nI 0) (h1 : i < nI n) (hn : n < 2 ^ 31) : vp_in i n := by
  rw [vp_in_iff]
  rw [Int32.lt_iff_toInt_lt, nI_toInt (by decide)] at h0
  rw [Int32.lt_iff_toInt_lt, nI_toInt hn] at h1
  omega
def sp_X3_at : zSp := fun av w K => match av with
  | [.ref o, .int i] => gI w.1 o (fun a n => match Nat.ble n 100000 with
    | true => K (some (.int (atF (w.2.1 a) n i))) w
    | false => False)
  | _ => False
def rm_X3_at : Room := { frames := 0, cells := 0, slots := 0, locals := 0 }
def M_X3_at : zM := (k_X3_at, f_X3, [], ([], [], []), [], [], 1, false, (false, 0, fun _ => 0), (0, 0))
theorem O_X3_at (l : Launch) : z_OK l RX3 cX3_at (headSpec (.code yX3_at cX3_at 2 (some .int) :: zTT) rm_X3_at).room M_X3_at := ⟨ok_X3_at, fo_X3, fun _ h => absurd h List.not_mem_nil, fun _ h => absurd h List.not_mem_nil, fun _ h => absurd h List.not_mem_nil, fun _ h => absurd h List.not_mem_nil, fun _ h => absurd h List.not_mem_nil, rfl, rfl⟩
theorem c_X3_at (l : Launch) : z_CS l yX3_at cX3_at 2 (some .int) rm_X3_at sp_X3_at := by
  refine z_meth (by decide) (Or.inr (Or.inl ⟨rfl, rfl⟩)) (fun h => by cases h) rfl (O_X3_at l) ?_
  intro av w K h
  match av, h with
  | [.ref o, .int i], h =>
    obtain ⟨a, n, h1, h2, h⟩ := gI_ok h
    split at h
    case h_2 => exact h.elim
    rename_i hn
    have hn := Nat.le_of_ble_eq_true hn
    obtain ⟨G, wi, wl⟩ := w
    refine ⟨Nat.le_of_ble_eq_true rfl, fun Jm hs => hs 400 0 _ _ _ _ _ ?_⟩
    conv => whnf
    unfold atF at h
    refine ⟨fun hc => ?_, fun hc => ?_⟩
    · rw [if_neg (fun q => q.1 hc)] at h
      exact ⟨trivial, h⟩
    · conv => whnf
      rw [h1]
      conv => whnf
      rw [h2]
      conv => whnf
      refine ⟨fun hc2 => ?_, fun hc2 => ?_⟩
      · rw [if_neg (fun q => hc2 q.2)] at h
        exact ⟨trivial, h⟩
      · rw [if_pos ⟨hc, hc2⟩] at h
        conv => whnf
        rw [h1]
        conv => whnf
        rw [h2]
        conv => whnf
        exact ⟨vp_in_N hc hc2 (by omega), trivial, h⟩
def putF (wi : Nat → Nat → Int32) (a n : Nat) (i v : Int32) : Nat → Nat → Int32 := if ¬ i < nI 0 ∧ i < nI n then z_up wi a i.toNatClampNeg v else wi
theorem putF_in {wi : Nat → Nat → Int32} {a n k : Nat} {v : Int32} (h : k < n) (hn : n < 2 ^ 31) : putF wi a n (nI k) v = z_up wi a k v := by
  unfold putF
  rw [if_pos ⟨nI_nlt (Nat.zero_le _) (by omega), nI_lt h hn⟩, nI_clamp (by omega)]
def sp_X3_put : zSp := fun av w K => match av with
  | [.ref o, .int i, .int v] => gI w.1 o (fun a n => match Nat.ble n 100000 with
    | true => K none (w.1, putF w.2.1 a n i v, w.2.2)
    | false => False)
  | _ => False
def rm_X3_put : Room := { frames := 0, cells := 0, slots := 0, locals := 0 }
def M_X3_put : zM := (k_X3_put, f_X3, [], ([], [], []), [], [], 0, false, (false, 0, fun _ => 0), (0, 0))
theorem O_X3_put (l : Launch) : z_OK l RX3 cX3_put (headSpec (.code yX3_put cX3_put 3 none :: zTT) rm_X3_put).room M_X3_put := ⟨ok_X3_put, fo_X3, fun _ h => absurd h List.not_mem_nil, fun _ h => absurd h List.not_mem_nil, fun _ h => absurd h List.not_mem_nil, fun _ h => absurd h List.not_mem_nil, fun _ h => absurd h List.not_mem_nil, rfl, rfl⟩
theorem c_X3_put (l : Launch) : z_CS l yX3_put cX3_put 3 none rm_X3_put sp_X3_put := by
  refine z_meth (by decide) (Or.inl ⟨rfl, rfl⟩) (fun h => by cases h) rfl (O_X3_put l) ?_
  intro av w K h
  match av, h with
  | [.ref o, .int i, .int v], h =>
    obtain ⟨a, n, h1, h2, h⟩ := gI_ok h
    split at h
    case h_2 => exact h.elim
    rename_i hn
    have hn := Nat.le_of_ble_eq_true hn
    obtain ⟨G, wi, wl⟩ := w
    refine ⟨Nat.le_of_ble_eq_true rfl, fun Jm hs => hs 400 0 _ _ _ _ _ ?_⟩
    conv => whnf
    unfold putF at h
    refine ⟨fun hc => ?_, fun hc => ?_⟩
    · rw [if_neg (fun q => q.1 hc)] at h
      exact h
    · conv => whnf
      rw [h1]
      conv => whnf
      rw [h2]
      conv => whnf
      refine ⟨fun hc2 => ?_, fun hc2 => ?_⟩
      · rw [if_neg (fun q => hc2 q.2)] at h
        exact h
      · rw [if_pos ⟨hc, hc2⟩] at h
        conv => whnf
        rw [h1]
        conv => whnf
        rw [h2]
        conv => whnf
        exact ⟨vp_in_N hc hc2 (by omega), h⟩
/-- a row of numbers that is 0 up to somewhere -/
def clrF (wi : Nat → Nat → Int32) (a n : Nat) : Nat → Nat → Int32 := fun o i => if o = a ∧ i < n then nI 0 else wi o i
theorem clrF_0 (wi : Nat → Nat → Int32) (a : Nat) : clrF wi a 0 = wi := by
  funext o i
  simp [clrF]
theorem clrF_up (wi : Nat → Nat → Int32) (a n : Nat) : z_up (clrF wi a n) a n (nI 0) = clrF wi a (n + 1) := by
  funext o i
  unfold z_up clrF
  by_cases h : o = a
  · by_cases h2 : i = n
    · simp [h, h2]
    · by_cases h3 : i < n
      · simp [h, h2, h3, show i < n + 1 by omega]
      · simp [h, h2, h3, show ¬ i < n + 1 by omega]
  · simp [h]
def sp_X3_clear : zSp := fun av w K => match av with
  | [.ref o] => gI w.1 o (fun a n => match Nat.ble n 100000 with
    | true => K none (w.1, clrF w.2.1 a n, w.2.2)
    | false => False)
  | _ => False
def rm_X3_clear : Room := { frames := 0, cells := 0, slots := 0, locals := 0 }
def M_X3_clear : zM := (k_X3_clear, f_X3, [], ([], [], []), [], [(2, [true, true])], 0, false, (false, 0, fun _ => 0), (0, 0))
theorem O_X3_clear (l : Launch) : z_OK l RX3 cX3_clear (headSpec (.code yX3_clear cX3_clear 2 none :: zTT) rm_X3_clear).room M_X3_clear := ⟨ok_X3_clear, fo_X3, fun _ h => absurd h List.not_mem_nil, fun _ h => absurd h List.not_mem_nil, fun _ h => absurd h List.not_mem_nil, fun _ h => absurd h List.not_mem_nil, fun _ h => absurd h List.not_mem_nil, rfl, rfl⟩
theorem c_X3_clear (l : Launch) : z_CS l yX3_clear cX3_clear 2 none rm_X3_clear sp_X3_clear := by
  refine z_meth (by decide) (Or.inl ⟨rfl, rfl⟩) (fun h => by cases h) rfl (O_X3_clear l) ?_
  intro av w K h
  match av, h with
  | [.ref o], h =>
    obtain ⟨a, n, h1, h2, h⟩ := gI_ok h
    split at h
    case h_2 => exact h.elim
    rename_i hn
    have hn := Nat.le_of_ble_eq_true hn
    obtain ⟨G, wi, wl⟩ := w
    refine ⟨Nat.le_of_ble_eq_true rfl, fun Jm hs => ?_⟩
    have loop := up_ind (P := fun i => Jm 2 [some (.ref o), some (.int (nI i))] [] (G, clrF wi a i, wl) 0 0) n (fun i hi ih => by
      refine hs 400 2 _ _ _ _ _ ?_
      conv => whnf
      rw [h1]
      conv => whnf
      rw [h2]
      conv => whnf
      rw [ltN (by omega) (by omega)]
      refine ⟨fun hc => ?_, fun hc => ?_⟩
      · have e : i = n := by omega
        subst e
        exact h
      · conv => whnf
        rw [h1]
        conv => whnf
        rw [h2]
        conv => whnf
        refine ⟨vp_in_nI hc (by omega), ?_⟩
        have ih := ih hc
        rw [← clrF_up, ← nI_1] at ih
        rw [nI_clamp (by omega)]
        exact ih)
    refine hs 400 0 _ _ _ _ _ ?_
    have l0 := loop 0 (Nat.zero_le _)
    rw [clrF_0] at l0
    exact l0
end
section
/-! what the methods without loops answer: tables, rows, places -/
def isTF (t : Int32) : Int32 := bI (¬ t < nI 0 ∧ t < nI 3)
def sp_X11_isTable : zSp := fun av w K => match av with
  | [.int t] => K (some (.int (isTF t))) w
  | _ => False
def rm_X11_isTable : Room := { frames := 0, cells := 0, slots := 0, locals := 0 }
def M_X11_isTable : zM := (k_X11_isTable, f_X11, [], ([], [], []), [], [], 2, false, (false, 0, fun _ => 0), (0, 0))
theorem O_X11_isTable (l : Launch) : z_OK l RX11 cX11_isTable (headSpec (.code yX11_isTable cX11_isTable 1 (some .boolean) :: zTT) rm_X11_isTable).room M_X11_isTable := ⟨ok_X11_isTable, fo_X11, fun _ h => absurd h List.not_mem_nil, fun _ h => absurd h List.not_mem_nil, fun _ h => absurd h List.not_mem_nil, fun _ h => absurd h List.not_mem_nil, fun _ h => absurd h List.not_mem_nil, rfl, rfl⟩
theorem c_X11_isTable (l : Launch) : z_CS l yX11_isTable cX11_isTable 1 (some .boolean) rm_X11_isTable sp_X11_isTable := by
  refine z_meth (by decide) (Or.inr (Or.inr (Or.inl ⟨rfl, rfl⟩))) (fun h => by cases h) rfl (O_X11_isTable l) ?_
  intro av w K h
  match av, h with
  | [.int t], h =>
    refine ⟨Nat.le_of_ble_eq_true rfl, fun Jm hs => hs 400 0 _ _ _ _ _ ?_⟩
    have h : K (some (.int (isTF t))) w := h
    conv => whnf
    refine ⟨fun hc => ?_, fun hc => ?_⟩
    · rw [isTF, bI_f (fun q => q.1 hc)] at h
      exact ⟨Or.inl rfl, h⟩
    · conv => whnf
      refine ⟨fun hc2 => ?_, fun hc2 => ?_⟩
      · rw [isTF, bI_f (fun q => hc2 q.2)] at h
        exact ⟨Or.inl rfl, h⟩
      · rw [isTF, bI_t ⟨hc, hc2⟩] at h
        exact ⟨Or.inr rfl, h⟩
def isSF (t : Int32) : Int32 := bI (¬ t < nI 1 ∧ ¬ nI 3 < t)
def sp_X11_isSize : zSp := fun av w K => match av with
  | [.int t] => K (some (.int (isSF t))) w
  | _ => False
def rm_X11_isSize : Room := { frames := 0, cells := 0, slots := 0, locals := 0 }
def M_X11_isSize : zM := (k_X11_isSize, f_X11, [], ([], [], []), [], [], 2, false, (false, 0, fun _ => 0), (0, 0))
theorem O_X11_isSize (l : Launch) : z_OK l RX11 cX11_isSize (headSpec (.code yX11_isSize cX11_isSize 1 (some .boolean) :: zTT) rm_X11_isSize).room M_X11_isSize := ⟨ok_X11_isSize, fo_X11, fun _ h => absurd h List.not_mem_nil, fun _ h => absurd h List.not_mem_nil, fun _ h => absurd h List.not_mem_nil, fun _ h => absurd h List.not_mem_nil, fun _ h => absurd h List.not_mem_nil, rfl, rfl⟩
theorem c_X11_isSize (l : Launch) : z_CS l yX11_isSize cX11_isSize 1 (some .boolean) rm_X11_isSize sp_X11_isSize := by
  refine z_meth (by decide) (Or.inr (Or.inr (Or.inl ⟨rfl, rfl⟩))) (fun h => by cases h) rfl (O_X11_isSize l) ?_
  intro av w K h
  match av, h with
  | [.int t], h =>
    refine ⟨Nat.le_of_ble_eq_true rfl, fun Jm hs => hs 400 0 _ _ _ _ _ ?_⟩
    have h : K (some (.int (isSF t))) w := h
    conv => whnf
    refine ⟨fun hc => ?_, fun hc => ?_⟩
    · rw [isSF, bI_f (fun q => q.1 hc)] at h
      exact ⟨Or.inl rfl, h⟩
    · conv => whnf
      refine ⟨fun hc2 => ?_, fun hc2 => ?_⟩
      · rw [isSF, bI_f (fun q => q.2 hc2)] at h
        exact ⟨Or.inl rfl, h⟩
      · rw [isSF, bI_t ⟨hc, hc2⟩] at h
        exact ⟨Or.inr rfl, h⟩
def behF (t : Int32) : Int32 := if t < nI 2 then t + nI 1 else nI 0
def sp_X11_behind : zSp := fun av w K => match av with
  | [.int t] => K (some (.int (behF t))) w
  | _ => False
def rm_X11_behind : Room := { frames := 0, cells := 0, slots := 0, locals := 0 }
def M_X11_behind : zM := (k_X11_behind, f_X11, [], ([], [], []), [], [], 1, false, (false, 0, fun _ => 0), (0, 0))
theorem O_X11_behind (l : Launch) : z_OK l RX11 cX11_behind (headSpec (.code yX11_behind cX11_behind 1 (some .int) :: zTT) rm_X11_behind).room M_X11_behind := ⟨ok_X11_behind, fo_X11, fun _ h => absurd h List.not_mem_nil, fun _ h => absurd h List.not_mem_nil, fun _ h => absurd h List.not_mem_nil, fun _ h => absurd h List.not_mem_nil, fun _ h => absurd h List.not_mem_nil, rfl, rfl⟩
theorem c_X11_behind (l : Launch) : z_CS l yX11_behind cX11_behind 1 (some .int) rm_X11_behind sp_X11_behind := by
  refine z_meth (by decide) (Or.inr (Or.inl ⟨rfl, rfl⟩)) (fun h => by cases h) rfl (O_X11_behind l) ?_
  intro av w K h
  match av, h with
  | [.int t], h =>
    refine ⟨Nat.le_of_ble_eq_true rfl, fun Jm hs => hs 400 0 _ _ _ _ _ ?_⟩
    have h : K (some (.int (behF t))) w := h
    conv => whnf
    refine ⟨fun hc => ?_, fun hc => ?_⟩
    · rw [behF, if_pos hc] at h
      exact ⟨trivial, h⟩
    · rw [behF, if_neg hc] at h
      exact ⟨trivial, h⟩
def ahdF (t : Int32) : Int32 := if nI 0 < t then t - nI 1 else nI 2
def sp_X11_ahead : zSp := fun av w K => match av with
  | [.int t] => K (some (.int (ahdF t))) w
  | _ => False
def rm_X11_ahead : Room := { frames := 0, cells := 0, slots := 0, locals := 0 }
def M_X11_ahead : zM := (k_X11_ahead, f_X11, [], ([], [], []), [], [], 1, false, (false, 0, fun _ => 0), (0, 0))
theorem O_X11_ahead (l : Launch) : z_OK l RX11 cX11_ahead (headSpec (.code yX11_ahead cX11_ahead 1 (some .int) :: zTT) rm_X11_ahead).room M_X11_ahead := ⟨ok_X11_ahead, fo_X11, fun _ h => absurd h List.not_mem_nil, fun _ h => absurd h List.not_mem_nil, fun _ h => absurd h List.not_mem_nil, fun _ h => absurd h List.not_mem_nil, fun _ h => absurd h List.not_mem_nil, rfl, rfl⟩
theorem c_X11_ahead (l : Launch) : z_CS l yX11_ahead cX11_ahead 1 (some .int) rm_X11_ahead sp_X11_ahead := by
  refine z_meth (by decide) (Or.inr (Or.inl ⟨rfl, rfl⟩)) (fun h => by cases h) rfl (O_X11_ahead l) ?_
  intro av w K h
  match av, h with
  | [.int t], h =>
    refine ⟨Nat.le_of_ble_eq_true rfl, fun Jm hs => hs 400 0 _ _ _ _ _ ?_⟩
    have h : K (some (.int (ahdF t))) w := h
    conv => whnf
    refine ⟨fun hc => ?_, fun hc => ?_⟩
    · rw [ahdF, if_pos hc] at h
      exact ⟨trivial, h⟩
    · rw [ahdF, if_neg hc] at h
      exact ⟨trivial, h⟩
def lessF (t : Int32) : Int32 := if nI 0 < t then t - nI 1 else nI 0
def sp_X11_lessOne : zSp := fun av w K => match av with
  | [.int t] => K (some (.int (lessF t))) w
  | _ => False
def rm_X11_lessOne : Room := { frames := 0, cells := 0, slots := 0, locals := 0 }
def M_X11_lessOne : zM := (k_X11_lessOne, f_X11, [], ([], [], []), [], [], 1, false, (false, 0, fun _ => 0), (0, 0))
theorem O_X11_lessOne (l : Launch) : z_OK l RX11 cX11_lessOne (headSpec (.code yX11_lessOne cX11_lessOne 1 (some .int) :: zTT) rm_X11_lessOne).room M_X11_lessOne := ⟨ok_X11_lessOne, fo_X11, fun _ h => absurd h List.not_mem_nil, fun _ h => absurd h List.not_mem_nil, fun _ h => absurd h List.not_mem_nil, fun _ h => absurd h List.not_mem_nil, fun _ h => absurd h List.not_mem_nil, rfl, rfl⟩
theorem c_X11_lessOne (l : Launch) : z_CS l yX11_lessOne cX11_lessOne 1 (some .int) rm_X11_lessOne sp_X11_lessOne := by
  refine z_meth (by decide) (Or.inr (Or.inl ⟨rfl, rfl⟩)) (fun h => by cases h) rfl (O_X11_lessOne l) ?_
  intro av w K h
  match av, h with
  | [.int t], h =>
    refine ⟨Nat.le_of_ble_eq_true rfl, fun Jm hs => hs 400 0 _ _ _ _ _ ?_⟩
    have h : K (some (.int (lessF t))) w := h
    conv => whnf
    refine ⟨fun hc => ?_, fun hc => ?_⟩
    · rw [lessF, if_neg hc] at h
      exact ⟨trivial, h⟩
    · rw [lessF, if_pos hc] at h
      exact ⟨trivial, h⟩
def bitF (i : Int32) : Int64 := z_lshl (lN 1) i
def sp_X11_bit : zSp := fun av w K => match av with
  | [.int t] => K (some (.long (bitF t))) w
  | _ => False
def rm_X11_bit : Room := { frames := 0, cells := 0, slots := 0, locals := 0 }
def M_X11_bit : zM := (k_X11_bit, f_X11, [], ([], [], []), [], [], 3, false, (false, 0, fun _ => 0), (0, 0))
theorem O_X11_bit (l : Launch) : z_OK l RX11 cX11_bit (headSpec (.code yX11_bit cX11_bit 1 (some .long) :: zTT) rm_X11_bit).room M_X11_bit := ⟨ok_X11_bit, fo_X11, fun _ h => absurd h List.not_mem_nil, fun _ h => absurd h List.not_mem_nil, fun _ h => absurd h List.not_mem_nil, fun _ h => absurd h List.not_mem_nil, fun _ h => absurd h List.not_mem_nil, rfl, rfl⟩
theorem c_X11_bit (l : Launch) : z_CS l yX11_bit cX11_bit 1 (some .long) rm_X11_bit sp_X11_bit := by
  refine z_meth (by decide) (Or.inr (Or.inr (Or.inr ⟨rfl, rfl⟩))) (fun h => by cases h) rfl (O_X11_bit l) ?_
  intro av w K h
  match av, h with
  | [.int t], h => exact ⟨Nat.le_of_ble_eq_true rfl, fun Jm hs => hs 400 0 _ _ _ _ _ h⟩
/-! Scheme -/
def gS (G : List zSh) (o : Nat) (k : Prop) : Prop := match z_nth G o with
  | some (.inl (c, [some (some _), none, none, none, none, none])) => (match Nat.beq c 5 with
    | true => k
    | false => False)
  | _ => False
theorem gS_ok {G : List zSh} {o : Nat} {k : Prop} (h : gS G o k) : ∃ a, z_nth G o = some (.inl (5, [some (some a), none, none, none, none, none])) ∧ k := by
  unfold gS at h
  split at h
  · rename_i c a e
    split at h
    · rename_i hc
      have := Nat.eq_of_beq_eq_true hc
      subst this
      exact ⟨a, e, h⟩
    · exact h.elim
  · exact h.elim
def rowsF (wi : Nat → Nat → Int32) (o : Nat) (t : Int32) : Int32 := if t = nI 0 then wi o 1 else if t = nI 1 then wi o 2 else wi o 3
def sp_X6_rows : zSp := fun av w K => match av with
  | [.ref o, .int t] => gS w.1 o (K (some (.int (rowsF w.2.1 o t))) w)
  | _ => False
def rm_X6_rows : Room := { frames := 0, cells := 0, slots := 0, locals := 0 }
def M_X6_rows : zM := (k_X6_rows, f_X6, [], ([], [], []), [], [], 1, false, (false, 0, fun _ => 0), (0, 0))
theorem O_X6_rows (l : Launch) : z_OK l RX6 cX6_rows (headSpec (.code yX6_rows cX6_rows 2 (some .int) :: zTT) rm_X6_rows).room M_X6_rows := ⟨ok_X6_rows, fo_X6, fun _ h => absurd h List.not_mem_nil, fun _ h => absurd h List.not_mem_nil, fun _ h => absurd h List.not_mem_nil, fun _ h => absurd h List.not_mem_nil, fun _ h => absurd h List.not_mem_nil, rfl, rfl⟩
theorem c_X6_rows (l : Launch) : z_CS l yX6_rows cX6_rows 2 (some .int) rm_X6_rows sp_X6_rows := by
  refine z_meth (by decide) (Or.inr (Or.inl ⟨rfl, rfl⟩)) (fun h => by cases h) rfl (O_X6_rows l) ?_
  intro av w K h
  match av, h with
  | [.ref o, .int t], h =>
    obtain ⟨a, h1, h⟩ := gS_ok h
    refine ⟨Nat.le_of_ble_eq_true rfl, fun Jm hs => hs 400 0 _ _ _ _ _ ?_⟩
    unfold rowsF at h
    conv => whnf
    refine ⟨fun hc => ?_, fun hc => ?_⟩
    · rw [if_neg hc] at h
      conv => whnf
      refine ⟨fun hc2 => ?_, fun hc2 => ?_⟩
      · rw [if_neg hc2] at h
        conv => whnf
        rw [h1]
        conv => whnf
        exact ⟨trivial, h⟩
      · rw [if_pos hc2] at h
        conv => whnf
        rw [h1]
        conv => whnf
        exact ⟨trivial, h⟩
    · rw [if_pos hc] at h
      conv => whnf
      rw [h1]
      conv => whnf
      exact ⟨trivial, h⟩
def isPF (wi : Nat → Nat → Int32) (o : Nat) (i : Int32) : Int32 := bI (¬ i < nI 0 ∧ i < wi o 5)
def sp_X6_isProduct : zSp := fun av w K => match av with
  | [.ref o, .int i] => gS w.1 o (K (some (.int (isPF w.2.1 o i))) w)
  | _ => False
def rm_X6_isProduct : Room := { frames := 0, cells := 0, slots := 0, locals := 0 }
def M_X6_isProduct : zM := (k_X6_isProduct, f_X6, [], ([], [], []), [], [], 2, false, (false, 0, fun _ => 0), (0, 0))
theorem O_X6_isProduct (l : Launch) : z_OK l RX6 cX6_isProduct (headSpec (.code yX6_isProduct cX6_isProduct 2 (some .boolean) :: zTT) rm_X6_isProduct).room M_X6_isProduct := ⟨ok_X6_isProduct, fo_X6, fun _ h => absurd h List.not_mem_nil, fun _ h => absurd h List.not_mem_nil, fun _ h => absurd h List.not_mem_nil, fun _ h => absurd h List.not_mem_nil, fun _ h => absurd h List.not_mem_nil, rfl, rfl⟩
theorem c_X6_isProduct (l : Launch) : z_CS l yX6_isProduct cX6_isProduct 2 (some .boolean) rm_X6_isProduct sp_X6_isProduct := by
  refine z_meth (by decide) (Or.inr (Or.inr (Or.inl ⟨rfl, rfl⟩))) (fun h => by cases h) rfl (O_X6_isProduct l) ?_
  intro av w K h
  match av, h with
  | [.ref o, .int t], h =>
    obtain ⟨a, h1, h⟩ := gS_ok h
    refine ⟨Nat.le_of_ble_eq_true rfl, fun Jm hs => hs 400 0 _ _ _ _ _ ?_⟩
    unfold isPF at h
    conv => whnf
    refine ⟨fun hc => ?_, fun hc => ?_⟩
    · rw [bI_f (fun q => q.1 hc)] at h
      exact ⟨Or.inl rfl, h⟩
    · conv => whnf
      rw [h1]
      conv => whnf
      refine ⟨fun hc2 => ?_, fun hc2 => ?_⟩
      · rw [bI_f (fun q => hc2 q.2)] at h
        exact ⟨Or.inl rfl, h⟩
      · rw [bI_t ⟨hc, hc2⟩] at h
        exact ⟨Or.inr rfl, h⟩
def fullF (wi : Nat → Nat → Int32) (o : Nat) : Int32 := bI (¬ wi o 5 < nI 40)
def sp_X6_isFull : zSp := fun av w K => match av with
  | [.ref o] => gS w.1 o (K (some (.int (fullF w.2.1 o))) w)
  | _ => False
def rm_X6_isFull : Room := { frames := 0, cells := 0, slots := 0, locals := 0 }
def M_X6_isFull : zM := (k_X6_isFull, f_X6, [], ([], [], []), [], [], 2, false, (false, 0, fun _ => 0), (0, 0))
theorem O_X6_isFull (l : Launch) : z_OK l RX6 cX6_isFull (headSpec (.code yX6_isFull cX6_isFull 1 (some .boolean) :: zTT) rm_X6_isFull).room M_X6_isFull := ⟨ok_X6_isFull, fo_X6, fun _ h => absurd h List.not_mem_nil, fun _ h => absurd h List.not_mem_nil, fun _ h => absurd h List.not_mem_nil, fun _ h => absurd h List.not_mem_nil, fun _ h => absurd h List.not_mem_nil, rfl, rfl⟩
theorem c_X6_isFull (l : Launch) : z_CS l yX6_isFull cX6_isFull 1 (some .boolean) rm_X6_isFull sp_X6_isFull := by
  refine z_meth (by decide) (Or.inr (Or.inr (Or.inl ⟨rfl, rfl⟩))) (fun h => by cases h) rfl (O_X6_isFull l) ?_
  intro av w K h
  match av, h with
  | [.ref o], h =>
    obtain ⟨a, h1, h⟩ := gS_ok h
    refine ⟨Nat.le_of_ble_eq_true rfl, fun Jm hs => hs 400 0 _ _ _ _ _ ?_⟩
    unfold fullF at h
    conv => whnf
    rw [h1]
    conv => whnf
    refine ⟨fun hc => ?_, fun hc => ?_⟩
    · rw [bI_f (fun q => q hc)] at h
      exact ⟨Or.inl rfl, h⟩
    · rw [bI_t hc] at h
      exact ⟨Or.inr rfl, h⟩
def shapeF (wi : Nat → Nat → Int32) (o o2 : Nat) : Int32 := bI (wi o 1 = wi o2 1 ∧ wi o 2 = wi o2 2 ∧ wi o 3 = wi o2 3)
def sp_X6_hasShapeOf : zSp := fun av w K => match av with
  | [.ref o, .ref o2] => gS w.1 o (gS w.1 o2 (K (some (.int (shapeF w.2.1 o o2))) w))
  | _ => False
def rm_X6_hasShapeOf : Room := { frames := 0, cells := 0, slots := 0, locals := 0 }
def M_X6_hasShapeOf : zM := (k_X6_hasShapeOf, f_X6, [], ([], [], []), [], [], 2, false, (false, 0, fun _ => 0), (0, 0))
theorem O_X6_hasShapeOf (l : Launch) : z_OK l RX6 cX6_hasShapeOf (headSpec (.code yX6_hasShapeOf cX6_hasShapeOf 2 (some .boolean) :: zTT) rm_X6_hasShapeOf).room M_X6_hasShapeOf := ⟨ok_X6_hasShapeOf, fo_X6, fun _ h => absurd h List.not_mem_nil, fun _ h => absurd h List.not_mem_nil, fun _ h => absurd h List.not_mem_nil, fun _ h => absurd h List.not_mem_nil, fun _ h => absurd h List.not_mem_nil, rfl, rfl⟩
theorem c_X6_hasShapeOf (l : Launch) : z_CS l yX6_hasShapeOf cX6_hasShapeOf 2 (some .boolean) rm_X6_hasShapeOf sp_X6_hasShapeOf := by
  refine z_meth (by decide) (Or.inr (Or.inr (Or.inl ⟨rfl, rfl⟩))) (fun h => by cases h) rfl (O_X6_hasShapeOf l) ?_
  intro av w K h
  match av, h with
  | [.ref o, .ref o2], h =>
    obtain ⟨a, h1, h⟩ := gS_ok h
    obtain ⟨a2, h2, h⟩ := gS_ok h
    refine ⟨Nat.le_of_ble_eq_true rfl, fun Jm hs => hs 400 0 _ _ _ _ _ ?_⟩
    unfold shapeF at h
    conv => whnf
    rw [h1]
    conv => whnf
    rw [h2]
    conv => whnf
    refine ⟨fun hc => ?_, fun hc => ?_⟩
    · rw [bI_f (fun q => hc q.1)] at h
      exact ⟨Or.inl rfl, h⟩
    · conv => whnf
      rw [h1]
      conv => whnf
      rw [h2]
      conv => whnf
      refine ⟨fun hc2 => ?_, fun hc2 => ?_⟩
      · rw [bI_f (fun q => hc2 q.2.1)] at h
        exact ⟨Or.inl rfl, h⟩
      · conv => whnf
        rw [h1]
        conv => whnf
        rw [h2]
        conv => whnf
        refine ⟨fun hc3 => ?_, fun hc3 => ?_⟩
        · rw [bI_f (fun q => hc3 q.2.2)] at h
          exact ⟨Or.inl rfl, h⟩
        · rw [bI_t ⟨hc, hc2, hc3⟩] at h
          exact ⟨Or.inr rfl, h⟩
def rm_X6_columns : Room := { frames := 1, cells := 0, slots := 0, locals := 21 }
def M_X6_columns : zM := (k_X6_columns, f_X6, [(85, 2, 0, 1, 0, 0, sp_X11_behind), (88, 4, 5, 2, 0, 0, sp_X6_rows)], ([], [], []), [], [], 1, false, (false, 0, fun _ => 0), (0, 0))
theorem ca_X6_columns_0 (l : Launch) : z_cok l RX6 (headSpec (.code yX6_columns cX6_columns 2 (some .int) :: zTT) rm_X6_columns).room (85, 2, 0, 1, 0, 0, sp_X11_behind) := z_ca2 (host := "FewProducts") (c_X11_behind l) mb_X11_behind (by decide +kernel) wt_464 (by decide)
theorem ca_X6_columns_1 (l : Launch) : z_cok l RX6 (headSpec (.code yX6_columns cX6_columns 2 (some .int) :: zTT) rm_X6_columns).room (88, 4, 5, 2, 0, 0, sp_X6_rows) := z_ca4 (c_X6_rows l) mb_X6_rows ⟨_, rfl, rfl⟩ wt_466 wt_456 wt_457 (by decide)
theorem O_X6_columns (l : Launch) : z_OK l RX6 cX6_columns (headSpec (.code yX6_columns cX6_columns 2 (some .int) :: zTT) rm_X6_columns).room M_X6_columns := ⟨ok_X6_columns, fo_X6, List.forall_mem_cons.mpr ⟨ca_X6_columns_0 l, List.forall_mem_cons.mpr ⟨ca_X6_columns_1 l, fun _ h => absurd h List.not_mem_nil⟩⟩, fun _ h => absurd h List.not_mem_nil, fun _ h => absurd h List.not_mem_nil, fun _ h => absurd h List.not_mem_nil, fun _ h => absurd h List.not_mem_nil, rfl, rfl⟩
def sp_X6_columns : zSp := z_au M_X6_columns 2
theorem c_X6_columns (l : Launch) : z_CS l yX6_columns cX6_columns 2 (some .int) rm_X6_columns sp_X6_columns := by
  refine z_meth (by decide) (Or.inr (Or.inl ⟨rfl, rfl⟩)) (fun h => by cases h) rfl (O_X6_columns l) ?_
  intro av w K h
  exact z_au_ok rfl h
def rm_X6_places : Room := { frames := 2, cells := 0, slots := 0, locals := 42 }
def M_X6_places : zM := (k_X6_places, f_X6, [(88, 4, 5, 2, 0, 0, sp_X6_rows), (91, 4, 5, 2, 0, 0, sp_X6_columns)], ([], [], []), [], [], 1, false, (false, 0, fun _ => 0), (0, 0))
theorem ca_X6_places_0 (l : Launch) : z_cok l RX6 (headSpec (.code yX6_places cX6_places 2 (some .int) :: zTT) rm_X6_places).room (88, 4, 5, 2, 0, 0, sp_X6_rows) := z_ca4 (c_X6_rows l) mb_X6_rows ⟨_, rfl, rfl⟩ wt_466 wt_456 wt_457 (by decide)
theorem ca_X6_places_1 (l : Launch) : z_cok l RX6 (headSpec (.code yX6_places cX6_places 2 (some .int) :: zTT) rm_X6_places).room (91, 4, 5, 2, 0, 0, sp_X6_columns) := z_ca4 (c_X6_columns l) mb_X6_columns ⟨_, rfl, rfl⟩ wt_541 wt_460 wt_461 (by decide)
theorem O_X6_places (l : Launch) : z_OK l RX6 cX6_places (headSpec (.code yX6_places cX6_places 2 (some .int) :: zTT) rm_X6_places).room M_X6_places := ⟨ok_X6_places, fo_X6, List.forall_mem_cons.mpr ⟨ca_X6_places_0 l, List.forall_mem_cons.mpr ⟨ca_X6_places_1 l, fun _ h => absurd h List.not_mem_nil⟩⟩, fun _ h => absurd h List.not_mem_nil, fun _ h => absurd h List.not_mem_nil, fun _ h => absurd h List.not_mem_nil, fun _ h => absurd h List.not_mem_nil, rfl, rfl⟩
def sp_X6_places : zSp := z_au M_X6_places 2
theorem c_X6_places (l : Launch) : z_CS l yX6_places cX6_places 2 (some .int) rm_X6_places sp_X6_places := by
  refine z_meth (by decide) (Or.inr (Or.inl ⟨rfl, rfl⟩)) (fun h => by cases h) rfl (O_X6_places l) ?_
  intro av w K h
  exact z_au_ok rfl h
def rm_X6_formAt : Room := { frames := 1, cells := 0, slots := 0, locals := 21 }
def M_X6_formAt : zM := (k_X6_formAt, f_X6, [(67, 4, 2, 2, 0, 0, sp_X3_at)], ([], [], []), [], [], 1, false, (false, 0, fun _ => 0), (0, 0))
theorem ca_X6_formAt_0 (l : Launch) : z_cok l RX6 (headSpec (.code yX6_formAt cX6_formAt 3 (some .int) :: zTT) rm_X6_formAt).room (67, 4, 2, 2, 0, 0, sp_X3_at) := z_ca4 (c_X3_at l) mb_X3_at ⟨_, rfl, rfl⟩ wt_485 wt_444 wt_445 (by decide)
theorem O_X6_formAt (l : Launch) : z_OK l RX6 cX6_formAt (headSpec (.code yX6_formAt cX6_formAt 3 (some .int) :: zTT) rm_X6_formAt).room M_X6_formAt := ⟨ok_X6_formAt, fo_X6, List.forall_mem_cons.mpr ⟨ca_X6_formAt_0 l, fun _ h => absurd h List.not_mem_nil⟩, fun _ h => absurd h List.not_mem_nil, fun _ h => absurd h List.not_mem_nil, fun _ h => absurd h List.not_mem_nil, fun _ h => absurd h List.not_mem_nil, rfl, rfl⟩
def sp_X6_formAt : zSp := z_au M_X6_formAt 3
theorem c_X6_formAt (l : Launch) : z_CS l yX6_formAt cX6_formAt 3 (some .int) rm_X6_formAt sp_X6_formAt := by
  refine z_meth (by decide) (Or.inr (Or.inl ⟨rfl, rfl⟩)) (fun h => by cases h) rfl (O_X6_formAt l) ?_
  intro av w K h
  exact z_au_ok rfl h
def rm_X6_setForm : Room := { frames := 1, cells := 0, slots := 0, locals := 22 }
def M_X6_setForm : zM := (k_X6_setForm, f_X6, [(71, 4, 2, 3, 0, 0, sp_X3_put)], ([], [], []), [], [], 0, false, (false, 0, fun _ => 0), (0, 0))
theorem ca_X6_setForm_0 (l : Launch) : z_cok l RX6 (headSpec (.code yX6_setForm cX6_setForm 4 none :: zTT) rm_X6_setForm).room (71, 4, 2, 3, 0, 0, sp_X3_put) := z_ca4 (c_X3_put l) mb_X3_put ⟨_, rfl, rfl⟩ wt_353 wt_354 wt_355 (by decide)
theorem O_X6_setForm (l : Launch) : z_OK l RX6 cX6_setForm (headSpec (.code yX6_setForm cX6_setForm 4 none :: zTT) rm_X6_setForm).room M_X6_setForm := ⟨ok_X6_setForm, fo_X6, List.forall_mem_cons.mpr ⟨ca_X6_setForm_0 l, fun _ h => absurd h List.not_mem_nil⟩, fun _ h => absurd h List.not_mem_nil, fun _ h => absurd h List.not_mem_nil, fun _ h => absurd h List.not_mem_nil, fun _ h => absurd h List.not_mem_nil, rfl, rfl⟩
def sp_X6_setForm : zSp := z_au M_X6_setForm 4
theorem c_X6_setForm (l : Launch) : z_CS l yX6_setForm cX6_setForm 4 none rm_X6_setForm sp_X6_setForm := by
  refine z_meth (by decide) (Or.inl ⟨rfl, rfl⟩) (fun h => by cases h) rfl (O_X6_setForm l) ?_
  intro av w K h
  exact z_au_ok rfl h
def rm_X6_likeBy : Room := { frames := 2, cells := 0, slots := 0, locals := 43 }
def M_X6_likeBy : zM := (k_X6_likeBy, f_X6, [(59, 4, 5, 3, 0, 0, sp_X6_formAt), (123, 0, 0, 3, 0, 0, sp_X2_likeBy)], ([], [], []), [], [], 1, false, (false, 0, fun _ => 0), (0, 0))
theorem ca_X6_likeBy_0 (l : Launch) : z_cok l RX6 (headSpec (.code yX6_likeBy cX6_likeBy 4 (some .int) :: zTT) rm_X6_likeBy).room (59, 4, 5, 3, 0, 0, sp_X6_formAt) := z_ca4 (c_X6_formAt l) mb_X6_formAt ⟨_, rfl, rfl⟩ wt_499 wt_500 wt_501 (by decide)
theorem ca_X6_likeBy_1 (l : Launch) : z_cok l RX6 (headSpec (.code yX6_likeBy cX6_likeBy 4 (some .int) :: zTT) rm_X6_likeBy).room (123, 0, 0, 3, 0, 0, sp_X2_likeBy) := z_ca0 (c_X2_likeBy l) mb_X2_likeBy wt_647 wt_648 (by decide)
theorem O_X6_likeBy (l : Launch) : z_OK l RX6 cX6_likeBy (headSpec (.code yX6_likeBy cX6_likeBy 4 (some .int) :: zTT) rm_X6_likeBy).room M_X6_likeBy := ⟨ok_X6_likeBy, fo_X6, List.forall_mem_cons.mpr ⟨ca_X6_likeBy_0 l, List.forall_mem_cons.mpr ⟨ca_X6_likeBy_1 l, fun _ h => absurd h List.not_mem_nil⟩⟩, fun _ h => absurd h List.not_mem_nil, fun _ h => absurd h List.not_mem_nil, fun _ h => absurd h List.not_mem_nil, fun _ h => absurd h List.not_mem_nil, rfl, rfl⟩
def sp_X6_likeBy : zSp := z_au M_X6_likeBy 4
theorem c_X6_likeBy (l : Launch) : z_CS l yX6_likeBy cX6_likeBy 4 (some .int) rm_X6_likeBy sp_X6_likeBy := by
  refine z_meth (by decide) (Or.inr (Or.inl ⟨rfl, rfl⟩)) (fun h => by cases h) rfl (O_X6_likeBy l) ?_
  intro av w K h
  exact z_au_ok rfl h
def rm_X6_takeShape : Room := { frames := 0, cells := 0, slots := 0, locals := 0 }
def M_X6_takeShape : zM := (k_X6_takeShape, f_X6, [], ([], [], []), [], [], 0, false, (false, 0, fun _ => 0), (0, 0))
theorem O_X6_takeShape (l : Launch) : z_OK l RX6 cX6_takeShape (headSpec (.code yX6_takeShape cX6_takeShape 2 none :: zTT) rm_X6_takeShape).room M_X6_takeShape := ⟨ok_X6_takeShape, fo_X6, fun _ h => absurd h List.not_mem_nil, fun _ h => absurd h List.not_mem_nil, fun _ h => absurd h List.not_mem_nil, fun _ h => absurd h List.not_mem_nil, fun _ h => absurd h List.not_mem_nil, rfl, rfl⟩
def sp_X6_takeShape : zSp := z_au M_X6_takeShape 2
theorem c_X6_takeShape (l : Launch) : z_CS l yX6_takeShape cX6_takeShape 2 none rm_X6_takeShape sp_X6_takeShape := by
  refine z_meth (by decide) (Or.inl ⟨rfl, rfl⟩) (fun h => by cases h) rfl (O_X6_takeShape l) ?_
  intro av w K h
  exact z_au_ok rfl h
def colF (wi : Nat → Nat → Int32) (o : Nat) (t : Int32) : Int32 := rowsF wi o (behF t)
def plF (wi : Nat → Nat → Int32) (o : Nat) (t : Int32) : Int32 := rowsF wi o t * colF wi o t
def rowOfF (wi : Nat → Nat → Int32) (o : Nat) (t p : Int32) : Int32 := if nI 0 < colF wi o t then p / colF wi o t else nI 0
def sp_X6_rowOf : zSp := fun av w K => match av with
  | [.ref o, .int t, .int p] => o = 6 ∧ zG w.1 ∧ K (some (.int (rowOfF w.2.1 6 t p))) w
  | _ => False
theorem pos_n0 {x : Int32} (h : nI 0 < x) : ¬ x = 0 := by
  rintro rfl
  exact absurd h (by decide)
def rm_X6_rowOf : Room := { frames := 2, cells := 0, slots := 0, locals := 42 }
def M_X6_rowOf : zM := (k_X6_rowOf, f_X6, [(91, 4, 5, 2, 0, 0, sp_X6_columns)], ([], [], []), [], [], 1, false, (false, 0, fun _ => 0), (0, 0))
theorem ca_X6_rowOf_0 (l : Launch) : z_cok l RX6 (headSpec (.code yX6_rowOf cX6_rowOf 4 (some .int) :: zTT) rm_X6_rowOf).room (91, 4, 5, 2, 0, 0, sp_X6_columns) := z_ca4 (c_X6_columns l) mb_X6_columns ⟨_, rfl, rfl⟩ wt_541 wt_460 wt_461 (by decide)
theorem O_X6_rowOf (l : Launch) : z_OK l RX6 cX6_rowOf (headSpec (.code yX6_rowOf cX6_rowOf 4 (some .int) :: zTT) rm_X6_rowOf).room M_X6_rowOf := ⟨ok_X6_rowOf, fo_X6, List.forall_mem_cons.mpr ⟨ca_X6_rowOf_0 l, fun _ h => absurd h List.not_mem_nil⟩, fun _ h => absurd h List.not_mem_nil, fun _ h => absurd h List.not_mem_nil, fun _ h => absurd h List.not_mem_nil, fun _ h => absurd h List.not_mem_nil, rfl, rfl⟩
theorem c_X6_rowOf (l : Launch) : z_CS l yX6_rowOf cX6_rowOf 4 (some .int) rm_X6_rowOf sp_X6_rowOf := by
  refine z_meth (by decide) (Or.inr (Or.inl ⟨rfl, rfl⟩)) (fun h => by cases h) rfl (O_X6_rowOf l) ?_
  intro av w K h
  match av, h with
  | [.ref o, .int t, .int p], h =>
    obtain ⟨rfl, ⟨r, hG⟩, h⟩ := h
    obtain ⟨G, wi, wl⟩ := w
    subst hG
    try dsimp only at h
    refine ⟨Nat.le_of_ble_eq_true rfl, fun Jm hs => hs 400 0 _ _ _ _ _ ?_⟩
    unfold rowOfF colF at h
    conv => whnf
    repeat ((first | refine ⟨zG_of _, ?_⟩ | refine ⟨trivial, ?_⟩ | refine ⟨rfl, ?_⟩ | refine ⟨fun hc => absurd hc (by decide), fun _ => ?_⟩ | refine ⟨fun _ => ?_, fun hc => absurd (by decide) hc⟩); conv => whnf)
    try dsimp only
    refine ⟨fun hc => ?_, fun hc => ?_⟩
    · rw [if_neg hc] at h
      exact ⟨trivial, h⟩
    · rw [if_pos hc] at h
      exact ⟨pos_n0 hc, trivial, h⟩
def colOfF (wi : Nat → Nat → Int32) (o : Nat) (t p : Int32) : Int32 := if nI 0 < colF wi o t then z_rem p (colF wi o t) else nI 0
def sp_X6_columnOf : zSp := fun av w K => match av with
  | [.ref o, .int t, .int p] => o = 6 ∧ zG w.1 ∧ K (some (.int (colOfF w.2.1 6 t p))) w
  | _ => False
def rm_X6_columnOf : Room := { frames := 2, cells := 0, slots := 0, locals := 42 }
def M_X6_columnOf : zM := (k_X6_columnOf, f_X6, [(91, 4, 5, 2, 0, 0, sp_X6_columns)], ([], [], []), [], [], 1, false, (false, 0, fun _ => 0), (0, 0))
theorem ca_X6_columnOf_0 (l : Launch) : z_cok l RX6 (headSpec (.code yX6_columnOf cX6_columnOf 4 (some .int) :: zTT) rm_X6_columnOf).room (91, 4, 5, 2, 0, 0, sp_X6_columns) := z_ca4 (c_X6_columns l) mb_X6_columns ⟨_, rfl, rfl⟩ wt_541 wt_460 wt_461 (by decide)
theorem O_X6_columnOf (l : Launch) : z_OK l RX6 cX6_columnOf (headSpec (.code yX6_columnOf cX6_columnOf 4 (some .int) :: zTT) rm_X6_columnOf).room M_X6_columnOf := ⟨ok_X6_columnOf, fo_X6, List.forall_mem_cons.mpr ⟨ca_X6_columnOf_0 l, fun _ h => absurd h List.not_mem_nil⟩, fun _ h => absurd h List.not_mem_nil, fun _ h => absurd h List.not_mem_nil, fun _ h => absurd h List.not_mem_nil, fun _ h => absurd h List.not_mem_nil, rfl, rfl⟩
theorem c_X6_columnOf (l : Launch) : z_CS l yX6_columnOf cX6_columnOf 4 (some .int) rm_X6_columnOf sp_X6_columnOf := by
  refine z_meth (by decide) (Or.inr (Or.inl ⟨rfl, rfl⟩)) (fun h => by cases h) rfl (O_X6_columnOf l) ?_
  intro av w K h
  match av, h with
  | [.ref o, .int t, .int p], h =>
    obtain ⟨rfl, ⟨r, hG⟩, h⟩ := h
    obtain ⟨G, wi, wl⟩ := w
    subst hG
    try dsimp only at h
    refine ⟨Nat.le_of_ble_eq_true rfl, fun Jm hs => hs 400 0 _ _ _ _ _ ?_⟩
    unfold colOfF colF at h
    conv => whnf
    repeat ((first | refine ⟨zG_of _, ?_⟩ | refine ⟨trivial, ?_⟩ | refine ⟨rfl, ?_⟩ | refine ⟨fun hc => absurd hc (by decide), fun _ => ?_⟩ | refine ⟨fun _ => ?_, fun hc => absurd (by decide) hc⟩); conv => whnf)
    try dsimp only
    refine ⟨fun hc => ?_, fun hc => ?_⟩
    · rw [if_neg hc] at h
      exact ⟨trivial, h⟩
    · rw [if_pos hc] at h
      exact ⟨pos_n0 hc, trivial, h⟩
def needF (wi : Nat → Nat → Int32) (x y z : Int32) : Int32 := bI (colOfF wi 6 (nI 0) x = rowOfF wi 6 (nI 1) y ∧ colOfF wi 6 (nI 1) y = rowOfF wi 6 (nI 2) z ∧ colOfF wi 6 (nI 2) z = rowOfF wi 6 (nI 0) x)
def sp_X6_neededAt : zSp := fun av w K => match av with
  | [.ref o, .int x, .int y, .int z] => o = 6 ∧ zG w.1 ∧ K (some (.int (needF w.2.1 x y z))) w
  | _ => False
def rm_X6_neededAt : Room := { frames := 3, cells := 0, slots := 0, locals := 65 }
def M_X6_neededAt : zM := (k_X6_neededAt, f_X6, [(100, 4, 5, 3, 0, 0, sp_X6_columnOf), (103, 4, 5, 3, 0, 0, sp_X6_rowOf)], ([], [], []), [], [], 1, false, (false, 0, fun _ => 0), (0, 0))
theorem ca_X6_neededAt_0 (l : Launch) : z_cok l RX6 (headSpec (.code yX6_neededAt cX6_neededAt 4 (some .int) :: zTT) rm_X6_neededAt).room (100, 4, 5, 3, 0, 0, sp_X6_columnOf) := z_ca4 (c_X6_columnOf l) mb_X6_columnOf ⟨_, rfl, rfl⟩ wt_567 wt_568 wt_569 (by decide)
theorem ca_X6_neededAt_1 (l : Launch) : z_cok l RX6 (headSpec (.code yX6_neededAt cX6_neededAt 4 (some .int) :: zTT) rm_X6_neededAt).room (103, 4, 5, 3, 0, 0, sp_X6_rowOf) := z_ca4 (c_X6_rowOf l) mb_X6_rowOf ⟨_, rfl, rfl⟩ wt_571 wt_572 wt_573 (by decide)
theorem O_X6_neededAt (l : Launch) : z_OK l RX6 cX6_neededAt (headSpec (.code yX6_neededAt cX6_neededAt 4 (some .int) :: zTT) rm_X6_neededAt).room M_X6_neededAt := ⟨ok_X6_neededAt, fo_X6, List.forall_mem_cons.mpr ⟨ca_X6_neededAt_0 l, List.forall_mem_cons.mpr ⟨ca_X6_neededAt_1 l, fun _ h => absurd h List.not_mem_nil⟩⟩, fun _ h => absurd h List.not_mem_nil, fun _ h => absurd h List.not_mem_nil, fun _ h => absurd h List.not_mem_nil, fun _ h => absurd h List.not_mem_nil, rfl, rfl⟩
theorem c_X6_neededAt (l : Launch) : z_CS l yX6_neededAt cX6_neededAt 4 (some .int) rm_X6_neededAt sp_X6_neededAt := by
  refine z_meth (by decide) (Or.inr (Or.inl ⟨rfl, rfl⟩)) (fun h => by cases h) rfl (O_X6_neededAt l) ?_
  intro av w K h
  match av, h with
  | [.ref o, .int x, .int y, .int z], h =>
    obtain ⟨rfl, ⟨r, hG⟩, h⟩ := h
    obtain ⟨G, wi, wl⟩ := w
    subst hG
    try dsimp only at h
    refine ⟨Nat.le_of_ble_eq_true rfl, fun Jm hs => hs 400 0 _ _ _ _ _ ?_⟩
    unfold needF at h
    conv => whnf
    repeat ((first | refine ⟨zG_of _, ?_⟩ | refine ⟨trivial, ?_⟩ | refine ⟨rfl, ?_⟩ | refine ⟨fun hc => absurd hc (by decide), fun _ => ?_⟩ | refine ⟨fun _ => ?_, fun hc => absurd (by decide) hc⟩); conv => whnf)
    try dsimp only
    refine ⟨fun hc => ?_, fun hc => ?_⟩
    · rw [bI_f (fun q => hc q.1)] at h
      exact ⟨trivial, h⟩
    · conv => whnf
      repeat ((first | refine ⟨zG_of _, ?_⟩ | refine ⟨trivial, ?_⟩ | refine ⟨rfl, ?_⟩ | refine ⟨fun hc => absurd hc (by decide), fun _ => ?_⟩ | refine ⟨fun _ => ?_, fun hc => absurd (by decide) hc⟩); conv => whnf)
      try dsimp only
      refine ⟨fun hc2 => ?_, fun hc2 => ?_⟩
      · rw [bI_f (fun q => hc2 q.2.1)] at h
        exact ⟨trivial, h⟩
      · conv => whnf
        repeat ((first | refine ⟨zG_of _, ?_⟩ | refine ⟨trivial, ?_⟩ | refine ⟨rfl, ?_⟩ | refine ⟨fun hc => absurd hc (by decide), fun _ => ?_⟩ | refine ⟨fun _ => ?_, fun hc => absurd (by decide) hc⟩); conv => whnf)
        try dsimp only
        refine ⟨fun hc3 => ?_, fun hc3 => ?_⟩
        · rw [bI_f (fun q => hc3 q.2.2)] at h
          exact ⟨trivial, h⟩
        · rw [bI_t ⟨hc, hc2, hc3⟩] at h
          exact ⟨trivial, h⟩
def isPlF (wi : Nat → Nat → Int32) (t p : Int32) : Int32 := bI ((¬ t < nI 0 ∧ t < nI 3) ∧ ¬ p < nI 0 ∧ p < plF wi 6 t)
def sp_X6_isPlace : zSp := fun av w K => match av with
  | [.ref o, .int t, .int p] => o = 6 ∧ zG w.1 ∧ K (some (.int (isPlF w.2.1 t p))) w
  | _ => False
def rm_X6_isPlace : Room := { frames := 3, cells := 0, slots := 0, locals := 63 }
def M_X6_isPlace : zM := (k_X6_isPlace, f_X6, [(79, 2, 0, 1, 0, 0, sp_X11_isTable), (82, 4, 5, 2, 0, 0, sp_X6_places)], ([], [], []), [], [], 2, false, (false, 0, fun _ => 0), (0, 0))
theorem ca_X6_isPlace_0 (l : Launch) : z_cok l RX6 (headSpec (.code yX6_isPlace cX6_isPlace 3 (some .boolean) :: zTT) rm_X6_isPlace).room (79, 2, 0, 1, 0, 0, sp_X11_isTable) := z_ca2 (host := "FewProducts") (c_X11_isTable l) mb_X11_isTable (by decide +kernel) wt_521 (by decide)
theorem ca_X6_isPlace_1 (l : Launch) : z_cok l RX6 (headSpec (.code yX6_isPlace cX6_isPlace 3 (some .boolean) :: zTT) rm_X6_isPlace).room (82, 4, 5, 2, 0, 0, sp_X6_places) := z_ca4 (c_X6_places l) mb_X6_places ⟨_, rfl, rfl⟩ wt_537 wt_538 wt_539 (by decide)
theorem O_X6_isPlace (l : Launch) : z_OK l RX6 cX6_isPlace (headSpec (.code yX6_isPlace cX6_isPlace 3 (some .boolean) :: zTT) rm_X6_isPlace).room M_X6_isPlace := ⟨ok_X6_isPlace, fo_X6, List.forall_mem_cons.mpr ⟨ca_X6_isPlace_0 l, List.forall_mem_cons.mpr ⟨ca_X6_isPlace_1 l, fun _ h => absurd h List.not_mem_nil⟩⟩, fun _ h => absurd h List.not_mem_nil, fun _ h => absurd h List.not_mem_nil, fun _ h => absurd h List.not_mem_nil, fun _ h => absurd h List.not_mem_nil, rfl, rfl⟩
theorem c_X6_isPlace (l : Launch) : z_CS l yX6_isPlace cX6_isPlace 3 (some .boolean) rm_X6_isPlace sp_X6_isPlace := by
  refine z_meth (by decide) (Or.inr (Or.inr (Or.inl ⟨rfl, rfl⟩))) (fun h => by cases h) rfl (O_X6_isPlace l) ?_
  intro av w K h
  match av, h with
  | [.ref o, .int t, .int p], h =>
    obtain ⟨rfl, ⟨r, hG⟩, h⟩ := h
    obtain ⟨G, wi, wl⟩ := w
    subst hG
    try dsimp only at h
    refine ⟨Nat.le_of_ble_eq_true rfl, fun Jm hs => hs 400 0 _ _ _ _ _ ?_⟩
    unfold isPlF at h
    conv => whnf
    repeat ((first | refine ⟨zG_of _, ?_⟩ | refine ⟨trivial, ?_⟩ | refine ⟨rfl, ?_⟩ | refine ⟨fun hc => absurd hc (by decide), fun _ => ?_⟩ | refine ⟨fun _ => ?_, fun hc => absurd (by decide) hc⟩); conv => whnf)
    try dsimp only
    refine ⟨fun hc => ?_, fun hc => ?_⟩
    · rw [isTF, bI_0] at hc
      rw [bI_f (fun q => hc q.1)] at h
      exact ⟨Or.inl rfl, h⟩
    · rw [isTF, bI_0] at hc
      conv => whnf
      repeat ((first | refine ⟨zG_of _, ?_⟩ | refine ⟨trivial, ?_⟩ | refine ⟨rfl, ?_⟩ | refine ⟨fun hc => absurd hc (by decide), fun _ => ?_⟩ | refine ⟨fun _ => ?_, fun hc => absurd (by decide) hc⟩); conv => whnf)
      try dsimp only
      refine ⟨fun hc2 => ?_, fun hc2 => ?_⟩
      · rw [bI_f (fun q => q.2.1 hc2)] at h
        exact ⟨Or.inl rfl, h⟩
      · conv => whnf
        repeat ((first | refine ⟨zG_of _, ?_⟩ | refine ⟨trivial, ?_⟩ | refine ⟨rfl, ?_⟩ | refine ⟨fun hc => absurd hc (by decide), fun _ => ?_⟩ | refine ⟨fun _ => ?_, fun hc => absurd (by decide) hc⟩); conv => whnf)
        try dsimp only
        refine ⟨fun hc3 => ?_, fun hc3 => ?_⟩
        · rw [bI_f (fun q => hc3 q.2.2)] at h
          exact ⟨Or.inl rfl, h⟩
        · rw [bI_t ⟨Classical.not_not.mp hc, hc2, hc3⟩] at h
          exact ⟨Or.inr rfl, h⟩
def fmF (wi : Nat → Nat → Int32) (o : Nat) (i t : Int32) : Int32 := atF (wi (o + 2)) 120 (nI 3 * i + t)
def hzF (wi : Nat → Nat → Int32) (i : Int32) : Int32 := bI (fmF wi 6 i (nI 0) = nI 0 ∨ fmF wi 6 i (nI 1) = nI 0 ∨ fmF wi 6 i (nI 2) = nI 0)
def sp_X6_hasZero : zSp := fun av w K => match av with
  | [.ref o, .int i] => o = 6 ∧ zG w.1 ∧ K (some (.int (hzF w.2.1 i))) w
  | _ => False
def rm_X6_hasZero : Room := { frames := 2, cells := 0, slots := 0, locals := 43 }
def M_X6_hasZero : zM := (k_X6_hasZero, f_X6, [(59, 4, 5, 3, 0, 0, sp_X6_formAt)], ([], [], []), [], [], 2, false, (false, 0, fun _ => 0), (0, 0))
theorem ca_X6_hasZero_0 (l : Launch) : z_cok l RX6 (headSpec (.code yX6_hasZero cX6_hasZero 2 (some .boolean) :: zTT) rm_X6_hasZero).room (59, 4, 5, 3, 0, 0, sp_X6_formAt) := z_ca4 (c_X6_formAt l) mb_X6_formAt ⟨_, rfl, rfl⟩ wt_499 wt_500 wt_501 (by decide)
theorem O_X6_hasZero (l : Launch) : z_OK l RX6 cX6_hasZero (headSpec (.code yX6_hasZero cX6_hasZero 2 (some .boolean) :: zTT) rm_X6_hasZero).room M_X6_hasZero := ⟨ok_X6_hasZero, fo_X6, List.forall_mem_cons.mpr ⟨ca_X6_hasZero_0 l, fun _ h => absurd h List.not_mem_nil⟩, fun _ h => absurd h List.not_mem_nil, fun _ h => absurd h List.not_mem_nil, fun _ h => absurd h List.not_mem_nil, fun _ h => absurd h List.not_mem_nil, rfl, rfl⟩
theorem c_X6_hasZero (l : Launch) : z_CS l yX6_hasZero cX6_hasZero 2 (some .boolean) rm_X6_hasZero sp_X6_hasZero := by
  refine z_meth (by decide) (Or.inr (Or.inr (Or.inl ⟨rfl, rfl⟩))) (fun h => by cases h) rfl (O_X6_hasZero l) ?_
  intro av w K h
  match av, h with
  | [.ref o, .int i], h =>
    obtain ⟨rfl, ⟨r, hG⟩, h⟩ := h
    obtain ⟨G, wi, wl⟩ := w
    subst hG
    try dsimp only at h
    refine ⟨Nat.le_of_ble_eq_true rfl, fun Jm hs => hs 400 0 _ _ _ _ _ ?_⟩
    conv => whnf
    repeat ((first | refine ⟨zG_of _, ?_⟩ | refine ⟨trivial, ?_⟩ | refine ⟨rfl, ?_⟩ | refine ⟨fun hc => absurd hc (by decide), fun _ => ?_⟩ | refine ⟨fun _ => ?_, fun hc => absurd (by decide) hc⟩); conv => whnf)
    try dsimp only
    refine ⟨fun hc => ?_, fun hc => ?_⟩
    · rw [show hzF wi i = nI 1 from bI_t (Or.inl hc)] at h
      exact ⟨Or.inr rfl, h⟩
    · conv => whnf
      repeat ((first | refine ⟨zG_of _, ?_⟩ | refine ⟨trivial, ?_⟩ | refine ⟨rfl, ?_⟩ | refine ⟨fun hc => absurd hc (by decide), fun _ => ?_⟩ | refine ⟨fun _ => ?_, fun hc => absurd (by decide) hc⟩); conv => whnf)
      try dsimp only
      refine ⟨fun hc2 => ?_, fun hc2 => ?_⟩
      · rw [show hzF wi i = nI 1 from bI_t (Or.inr (Or.inl hc2))] at h
        exact ⟨Or.inr rfl, h⟩
      · conv => whnf
        repeat ((first | refine ⟨zG_of _, ?_⟩ | refine ⟨trivial, ?_⟩ | refine ⟨rfl, ?_⟩ | refine ⟨fun hc => absurd hc (by decide), fun _ => ?_⟩ | refine ⟨fun _ => ?_, fun hc => absurd (by decide) hc⟩); conv => whnf)
        try dsimp only
        refine ⟨fun hc3 => ?_, fun hc3 => ?_⟩
        · rw [show hzF wi i = nI 0 from bI_f (fun q => q.elim hc (fun q => q.elim hc2 hc3))] at h
          exact ⟨Or.inl rfl, h⟩
        · rw [show hzF wi i = nI 1 from bI_t (Or.inr (Or.inr hc3))] at h
          exact ⟨Or.inr rfl, h⟩
/-! the object itself: lines, factors, what is told -/
def isLF (wi : Nat → Nat → Int32) (t r : Int32) : Int32 := bI (¬ r < nI 1 ∧ ¬ rowsF wi 6 t < r)
def sp_X11_isLine : zSp := fun av w K => match av with
  | [.ref o, .int t, .int r] => o = 0 ∧ zG w.1 ∧ K (some (.int (isLF w.2.1 t r))) w
  | _ => False
def rm_X11_isLine : Room := { frames := 1, cells := 0, slots := 0, locals := 21 }
def M_X11_isLine : zM := (k_X11_isLine, f_X11, [(270, 4, 5, 2, 0, 0, sp_X6_rows)], ([], [], []), [], [], 2, false, (false, 0, fun _ => 0), (0, 0))
theorem ca_X11_isLine_0 (l : Launch) : z_cok l RX11 (headSpec (.code yX11_isLine cX11_isLine 3 (some .boolean) :: zTT) rm_X11_isLine).room (270, 4, 5, 2, 0, 0, sp_X6_rows) := z_ca4 (c_X6_rows l) mb_X6_rows ⟨_, rfl, rfl⟩ wt_806 wt_456 wt_457 (by decide)
theorem O_X11_isLine (l : Launch) : z_OK l RX11 cX11_isLine (headSpec (.code yX11_isLine cX11_isLine 3 (some .boolean) :: zTT) rm_X11_isLine).room M_X11_isLine := ⟨ok_X11_isLine, fo_X11, List.forall_mem_cons.mpr ⟨ca_X11_isLine_0 l, fun _ h => absurd h List.not_mem_nil⟩, fun _ h => absurd h List.not_mem_nil, fun _ h => absurd h List.not_mem_nil, fun _ h => absurd h List.not_mem_nil, fun _ h => absurd h List.not_mem_nil, rfl, rfl⟩
theorem c_X11_isLine (l : Launch) : z_CS l yX11_isLine cX11_isLine 3 (some .boolean) rm_X11_isLine sp_X11_isLine := by
  refine z_meth (by decide) (Or.inr (Or.inr (Or.inl ⟨rfl, rfl⟩))) (fun h => by cases h) rfl (O_X11_isLine l) ?_
  intro av w K h
  match av, h with
  | [.ref o, .int t, .int r], h =>
    obtain ⟨rfl, ⟨r0, hG⟩, h⟩ := h
    obtain ⟨G, wi, wl⟩ := w
    subst hG
    try dsimp only at h
    refine ⟨Nat.le_of_ble_eq_true rfl, fun Jm hs => hs 400 0 _ _ _ _ _ ?_⟩
    unfold isLF at h
    conv => whnf
    repeat ((first | refine ⟨zG_of _, ?_⟩ | refine ⟨trivial, ?_⟩ | refine ⟨rfl, ?_⟩ | refine ⟨fun hc => absurd hc (by decide), fun _ => ?_⟩ | refine ⟨fun _ => ?_, fun hc => absurd (by decide) hc⟩); conv => whnf)
    try dsimp only
    refine ⟨fun hc => ?_, fun hc => ?_⟩
    · rw [bI_f (fun q => q.1 hc)] at h
      exact ⟨Or.inl rfl, h⟩
    · conv => whnf
      repeat ((first | refine ⟨zG_of _, ?_⟩ | refine ⟨trivial, ?_⟩ | refine ⟨rfl, ?_⟩ | refine ⟨fun hc => absurd hc (by decide), fun _ => ?_⟩ | refine ⟨fun _ => ?_, fun hc => absurd (by decide) hc⟩); conv => whnf)
      try dsimp only
      refine ⟨fun hc2 => ?_, fun hc2 => ?_⟩
      · rw [bI_f (fun q => q.2 hc2)] at h
        exact ⟨Or.inl rfl, h⟩
      · rw [bI_t ⟨hc, hc2⟩] at h
        exact ⟨Or.inr rfl, h⟩
def isFF (wi : Nat → Nat → Int32) (f : Int32) : Int32 := bI (¬ f < nI 1 ∧ f < wi 6 4)
def sp_X11_isFactor : zSp := fun av w K => match av with
  | [.ref o, .int r] => o = 0 ∧ zG w.1 ∧ K (some (.int (isFF w.2.1 r))) w
  | _ => False
def rm_X11_isFactor : Room := { frames := 0, cells := 0, slots := 0, locals := 0 }
def M_X11_isFactor : zM := (k_X11_isFactor, f_X11, [], ([], [], []), [], [], 2, false, (false, 0, fun _ => 0), (0, 0))
theorem O_X11_isFactor (l : Launch) : z_OK l RX11 cX11_isFactor (headSpec (.code yX11_isFactor cX11_isFactor 2 (some .boolean) :: zTT) rm_X11_isFactor).room M_X11_isFactor := ⟨ok_X11_isFactor, fo_X11, fun _ h => absurd h List.not_mem_nil, fun _ h => absurd h List.not_mem_nil, fun _ h => absurd h List.not_mem_nil, fun _ h => absurd h List.not_mem_nil, fun _ h => absurd h List.not_mem_nil, rfl, rfl⟩
theorem c_X11_isFactor (l : Launch) : z_CS l yX11_isFactor cX11_isFactor 2 (some .boolean) rm_X11_isFactor sp_X11_isFactor := by
  refine z_meth (by decide) (Or.inr (Or.inr (Or.inl ⟨rfl, rfl⟩))) (fun h => by cases h) rfl (O_X11_isFactor l) ?_
  intro av w K h
  match av, h with
  | [.ref o, .int r], h =>
    obtain ⟨rfl, ⟨r0, hG⟩, h⟩ := h
    obtain ⟨G, wi, wl⟩ := w
    subst hG
    try dsimp only at h
    refine ⟨Nat.le_of_ble_eq_true rfl, fun Jm hs => hs 400 0 _ _ _ _ _ ?_⟩
    unfold isFF at h
    conv => whnf
    repeat ((first | refine ⟨zG_of _, ?_⟩ | refine ⟨trivial, ?_⟩ | refine ⟨rfl, ?_⟩ | refine ⟨fun hc => absurd hc (by decide), fun _ => ?_⟩ | refine ⟨fun _ => ?_, fun hc => absurd (by decide) hc⟩); conv => whnf)
    try dsimp only
    refine ⟨fun hc => ?_, fun hc => ?_⟩
    · rw [bI_f (fun q => q.1 hc)] at h
      exact ⟨Or.inl rfl, h⟩
    · conv => whnf
      repeat ((first | refine ⟨zG_of _, ?_⟩ | refine ⟨trivial, ?_⟩ | refine ⟨rfl, ?_⟩ | refine ⟨fun hc => absurd hc (by decide), fun _ => ?_⟩ | refine ⟨fun _ => ?_, fun hc => absurd (by decide) hc⟩); conv => whnf)
      try dsimp only
      refine ⟨fun hc2 => ?_, fun hc2 => ?_⟩
      · rw [bI_f (fun q => hc2 q.2)] at h
        exact ⟨Or.inl rfl, h⟩
      · rw [bI_t ⟨hc, hc2⟩] at h
        exact ⟨Or.inr rfl, h⟩
def gT (G : List zSh) (o : Nat) (k : Nat → Prop) : Prop := match z_nth G o with
  | some (.inl (c, [some (some a), none])) => (match Nat.beq c 8 with
    | true => (match z_nth G a with
      | some (.inr (t, n)) => (match Nat.beq t 1 && Nat.beq n 9 with
        | true => k a
        | false => False)
      | _ => False)
    | false => False)
  | _ => False
theorem gT_ok {G : List zSh} {o : Nat} {k : Nat → Prop} (h : gT G o k) : ∃ a, z_nth G o = some (.inl (8, [some (some a), none])) ∧ z_nth G a = some (.inr (1, 9)) ∧ k a := by
  unfold gT at h
  split at h
  · rename_i c a e
    split at h
    · rename_i hc
      split at h
      · rename_i t n e2
        split at h
        · rename_i ht
          rw [Bool.and_eq_true] at ht
          have := Nat.eq_of_beq_eq_true hc
          have := Nat.eq_of_beq_eq_true ht.1
          have := Nat.eq_of_beq_eq_true ht.2
          subst_vars
          exact ⟨a, e, e2, h⟩
        · exact h.elim
      · exact h.elim
    · exact h.elim
  · exact h.elim
def rm_X9_clear : Room := { frames := 0, cells := 0, slots := 0, locals := 0 }
def M_X9_clear : zM := (k_X9_clear, f_X9, [], ([], [], []), [], [], 0, false, (false, 0, fun _ => 0), (0, 0))
theorem O_X9_clear (l : Launch) : z_OK l RX9 cX9_clear (headSpec (.code yX9_clear cX9_clear 1 none :: zTT) rm_X9_clear).room M_X9_clear := ⟨ok_X9_clear, fo_X9, fun _ h => absurd h List.not_mem_nil, fun _ h => absurd h List.not_mem_nil, fun _ h => absurd h List.not_mem_nil, fun _ h => absurd h List.not_mem_nil, fun _ h => absurd h List.not_mem_nil, rfl, rfl⟩
def sp_X9_clear : zSp := z_au M_X9_clear 1
theorem c_X9_clear (l : Launch) : z_CS l yX9_clear cX9_clear 1 none rm_X9_clear sp_X9_clear := by
  refine z_meth (by decide) (Or.inl ⟨rfl, rfl⟩) (fun h => by cases h) rfl (O_X9_clear l) ?_
  intro av w K h
  exact z_au_ok rfl h
def addI (wi : Nat → Nat → Int32) (o : Nat) : Nat → Nat → Int32 := if ¬ wi o 1 < nI 0 ∧ wi o 1 < nI 9 then z_up wi o 1 (wi o 1 + nI 1) else wi
def addL (wi : Nat → Nat → Int32) (wl : Nat → Nat → Int64) (o a : Nat) (v : Int64) : Nat → Nat → Int64 := if ¬ wi o 1 < nI 0 ∧ wi o 1 < nI 9 then z_up wl a (wi o 1).toNatClampNeg v else wl
def sp_X9_add : zSp := fun av w K => match av with
  | [.ref o, .long v] => gT w.1 o (fun a => K none (w.1, addI w.2.1 o, addL w.2.1 w.2.2 o a v))
  | _ => False
def rm_X9_add : Room := { frames := 0, cells := 0, slots := 0, locals := 0 }
def M_X9_add : zM := (k_X9_add, f_X9, [], ([], [], []), [], [], 0, false, (false, 0, fun _ => 0), (0, 0))
theorem O_X9_add (l : Launch) : z_OK l RX9 cX9_add (headSpec (.code yX9_add cX9_add 3 none :: zTT) rm_X9_add).room M_X9_add := ⟨ok_X9_add, fo_X9, fun _ h => absurd h List.not_mem_nil, fun _ h => absurd h List.not_mem_nil, fun _ h => absurd h List.not_mem_nil, fun _ h => absurd h List.not_mem_nil, fun _ h => absurd h List.not_mem_nil, rfl, rfl⟩
theorem c_X9_add (l : Launch) : z_CS l yX9_add cX9_add 3 none rm_X9_add sp_X9_add := by
  refine z_meth (by decide) (Or.inl ⟨rfl, rfl⟩) (fun h => by cases h) rfl (O_X9_add l) ?_
  intro av w K h
  match av, h with
  | [.ref o, .long v], h =>
    obtain ⟨a, h1, h2, h⟩ := gT_ok h
    obtain ⟨G, wi, wl⟩ := w
    refine ⟨Nat.le_of_ble_eq_true rfl, fun Jm hs => hs 400 0 _ _ _ _ _ ?_⟩
    unfold addI addL at h
    conv => whnf
    rw [h1]
    conv => whnf
    refine ⟨fun hc => ?_, fun hc => ?_⟩
    · rw [if_neg (fun q => q.1 hc), if_neg (fun q => q.1 hc)] at h
      exact h
    · conv => whnf
      rw [h1]
      conv => whnf
      rw [h1]
      conv => whnf
      rw [h2]
      conv => whnf
      refine ⟨fun hc2 => ?_, fun hc2 => ?_⟩
      · rw [if_neg (fun q => hc2 q.2), if_neg (fun q => hc2 q.2)] at h
        exact h
      · rw [if_pos ⟨hc, hc2⟩, if_pos ⟨hc, hc2⟩] at h
        conv => whnf
        rw [h1]
        conv => whnf
        rw [h1]
        conv => whnf
        rw [h2]
        conv => whnf
        refine ⟨vp_in_N hc hc2 (by omega), ?_⟩
        conv => whnf
        rw [h1]
        conv => whnf
        rw [h1]
        conv => whnf
        exact h
def tatF (f : Nat → Int64) (i : Int32) : Int64 := if ¬ i < nI 0 ∧ i < nI 9 then f i.toNatClampNeg else lN 0
def sp_X9_at : zSp := fun av w K => match av with
  | [.ref o, .int i] => gT w.1 o (fun a => K (some (.long (tatF (w.2.2 a) i))) w)
  | _ => False
def rm_X9_at : Room := { frames := 0, cells := 0, slots := 0, locals := 0 }
def M_X9_at : zM := (k_X9_at, f_X9, [], ([], [], []), [], [], 3, false, (false, 0, fun _ => 0), (0, 0))
theorem O_X9_at (l : Launch) : z_OK l RX9 cX9_at (headSpec (.code yX9_at cX9_at 2 (some .long) :: zTT) rm_X9_at).room M_X9_at := ⟨ok_X9_at, fo_X9, fun _ h => absurd h List.not_mem_nil, fun _ h => absurd h List.not_mem_nil, fun _ h => absurd h List.not_mem_nil, fun _ h => absurd h List.not_mem_nil, fun _ h => absurd h List.not_mem_nil, rfl, rfl⟩
theorem c_X9_at (l : Launch) : z_CS l yX9_at cX9_at 2 (some .long) rm_X9_at sp_X9_at := by
  refine z_meth (by decide) (Or.inr (Or.inr (Or.inr ⟨rfl, rfl⟩))) (fun h => by cases h) rfl (O_X9_at l) ?_
  intro av w K h
  match av, h with
  | [.ref o, .int i], h =>
    obtain ⟨a, h1, h2, h⟩ := gT_ok h
    refine ⟨Nat.le_of_ble_eq_true rfl, fun Jm hs => hs 400 0 _ _ _ _ _ ?_⟩
    unfold tatF at h
    conv => whnf
    refine ⟨fun hc => ?_, fun hc => ?_⟩
    · rw [if_neg (fun q => q.1 hc)] at h
      exact h
    · conv => whnf
      rw [h1]
      conv => whnf
      rw [h2]
      conv => whnf
      refine ⟨fun hc2 => ?_, fun hc2 => ?_⟩
      · rw [if_neg (fun q => hc2 q.2)] at h
        exact h
      · rw [if_pos ⟨hc, hc2⟩] at h
        conv => whnf
        rw [h1]
        conv => whnf
        rw [h2]
        conv => whnf
        exact ⟨vp_in_N hc hc2 (by omega), h⟩
def rm_X11_tellThree : Room := { frames := 1, cells := 0, slots := 0, locals := 22 }
def M_X11_tellThree : zM := (k_X11_tellThree, f_X11, [(150, 4, 8, 1, 0, 0, sp_X9_clear), (167, 4, 8, 2, 0, 0, sp_X9_add)], ([], [], []), [], [], 0, false, (false, 0, fun _ => 0), (0, 0))
theorem ca_X11_tellThree_0 (l : Launch) : z_cok l RX11 (headSpec (.code yX11_tellThree cX11_tellThree 4 none :: zTT) rm_X11_tellThree).room (150, 4, 8, 1, 0, 0, sp_X9_clear) := z_ca4 (c_X9_clear l) mb_X9_clear ⟨_, rfl, rfl⟩ wt_547 wt_548 wt_549 (by decide)
theorem ca_X11_tellThree_1 (l : Launch) : z_cok l RX11 (headSpec (.code yX11_tellThree cX11_tellThree 4 none :: zTT) rm_X11_tellThree).room (167, 4, 8, 2, 0, 0, sp_X9_add) := z_ca4 (c_X9_add l) mb_X9_add ⟨_, rfl, rfl⟩ wt_583 wt_584 wt_585 (by decide)
theorem O_X11_tellThree (l : Launch) : z_OK l RX11 cX11_tellThree (headSpec (.code yX11_tellThree cX11_tellThree 4 none :: zTT) rm_X11_tellThree).room M_X11_tellThree := ⟨ok_X11_tellThree, fo_X11, List.forall_mem_cons.mpr ⟨ca_X11_tellThree_0 l, List.forall_mem_cons.mpr ⟨ca_X11_tellThree_1 l, fun _ h => absurd h List.not_mem_nil⟩⟩, fun _ h => absurd h List.not_mem_nil, fun _ h => absurd h List.not_mem_nil, fun _ h => absurd h List.not_mem_nil, fun _ h => absurd h List.not_mem_nil, rfl, rfl⟩
def sp_X11_tellThree : zSp := z_au M_X11_tellThree 4
theorem c_X11_tellThree (l : Launch) : z_CS l yX11_tellThree cX11_tellThree 4 none rm_X11_tellThree sp_X11_tellThree := by
  refine z_meth (by decide) (Or.inl ⟨rfl, rfl⟩) (fun h => by cases h) rfl (O_X11_tellThree l) ?_
  intro av w K h
  exact z_au_ok rfl h
def rm_X11_tellFirst : Room := { frames := 2, cells := 0, slots := 0, locals := 45 }
def M_X11_tellFirst : zM := (k_X11_tellFirst, f_X11, [(200, 4, 9, 4, 0, 0, sp_X11_tellThree)], ([], [], []), [], [], 0, false, (false, 0, fun _ => 0), (0, 0))
theorem ca_X11_tellFirst_0 (l : Launch) : z_cok l RX11 (headSpec (.code yX11_tellFirst cX11_tellFirst 5 none :: zTT) rm_X11_tellFirst).room (200, 4, 9, 4, 0, 0, sp_X11_tellThree) := z_ca4 (c_X11_tellThree l) mb_X11_tellThree ⟨_, rfl, rfl⟩ wt_579 wt_581 wt_8 (by decide)
theorem O_X11_tellFirst (l : Launch) : z_OK l RX11 cX11_tellFirst (headSpec (.code yX11_tellFirst cX11_tellFirst 5 none :: zTT) rm_X11_tellFirst).room M_X11_tellFirst := ⟨ok_X11_tellFirst, fo_X11, List.forall_mem_cons.mpr ⟨ca_X11_tellFirst_0 l, fun _ h => absurd h List.not_mem_nil⟩, fun _ h => absurd h List.not_mem_nil, fun _ h => absurd h List.not_mem_nil, fun _ h => absurd h List.not_mem_nil, fun _ h => absurd h List.not_mem_nil, rfl, rfl⟩
def sp_X11_tellFirst : zSp := z_au M_X11_tellFirst 5
theorem c_X11_tellFirst (l : Launch) : z_CS l yX11_tellFirst cX11_tellFirst 5 none rm_X11_tellFirst sp_X11_tellFirst := by
  refine z_meth (by decide) (Or.inl ⟨rfl, rfl⟩) (fun h => by cases h) rfl (O_X11_tellFirst l) ?_
  intro av w K h
  exact z_au_ok rfl h
end
section
/-! ===== how many places have a property ===== -/
def fb_ct (p : Nat → Bool) : Nat → Nat
  | 0 => 0
  | n + 1 => fb_ct p n + (if p n then 1 else 0)
theorem fb_ct_succ (p : Nat → Bool) (n : Nat) : fb_ct p (n + 1) = fb_ct p n + (if p n then 1 else 0) := rfl
theorem fb_ct_le (p : Nat → Bool) : ∀ n, fb_ct p n ≤ n
  | 0 => Nat.le_refl _
  | n + 1 => by
    have h := fb_ct_le p n
    rw [fb_ct_succ]
    split <;> omega
theorem fb_ct_step (p : Nat → Bool) (m : Nat) : ∀ n, fb_ct p m ≤ fb_ct p (m + n)
  | 0 => Nat.le_refl _
  | n + 1 => by
    have h := fb_ct_step p m n
    show fb_ct p m ≤ fb_ct p (m + n + 1)
    rw [fb_ct_succ]
    omega
theorem fb_ct_mono (p : Nat → Bool) {m n : Nat} (h : m ≤ n) : fb_ct p m ≤ fb_ct p n := by
  have := fb_ct_step p m (n - m)
  rwa [Nat.add_sub_cancel' h] at this
theorem fb_ct_cong {p q : Nat → Bool} : ∀ {n : Nat}, (∀ k, k < n → p k = q k) → fb_ct p n = fb_ct q n
  | 0, _ => rfl
  | n + 1, h => by
    rw [fb_ct_succ, fb_ct_succ, fb_ct_cong (fun k hk => h k (by omega)), h n (by omega)]
/-- one place changed -/
theorem fb_ct_out (p : Nat → Bool) (b : Bool) {i n : Nat} (h : n ≤ i) : fb_ct (fun k => if k = i then b else p k) n = fb_ct p n :=
  fb_ct_cong fun k hk => if_neg (by omega)
theorem fb_ct_upd (p : Nat → Bool) (b : Bool) {i : Nat} : ∀ {n : Nat}, i < n → fb_ct (fun k => if k = i then b else p k) n + (if p i then 1 else 0) = fb_ct p n + (if b then 1 else 0)
  | 0, h => absurd h (Nat.not_lt_zero i)
  | n + 1, h => by
    rw [fb_ct_succ, fb_ct_succ]
    rcases Nat.lt_or_ge i n with q | q
    · have := fb_ct_upd p b q
      have e : (if n = i then b else p n) = p n := if_neg (by omega)
      rw [e]
      omega
    · have e : i = n := by omega
      subst e
      rw [fb_ct_out p b (Nat.le_refl _)]
      simp only [if_true]
      omega
theorem fb_ct_sub {p q : Nat → Bool} : ∀ {n : Nat}, (∀ k, k < n → p k = true → q k = true) → fb_ct p n ≤ fb_ct q n
  | 0, _ => Nat.le_refl _
  | n + 1, h => by
    have h1 := fb_ct_sub (n := n) (p := p) (q := q) (fun k hk => h k (by omega))
    have h2 := h n (by omega)
    rw [fb_ct_succ, fb_ct_succ]
    cases hp : p n <;> cases hq : q n <;> simp_all <;> omega
theorem fb_ct_or {p q : Nat → Bool} : ∀ {n : Nat}, (∀ k, k < n → ¬ (p k = true ∧ q k = true)) → fb_ct (fun k => p k || q k) n = fb_ct p n + fb_ct q n
  | 0, _ => rfl
  | n + 1, h => by
    have h1 := fb_ct_or (n := n) (p := p) (q := q) (fun k hk => h k (by omega))
    have h2 := h n (by omega)
    rw [fb_ct_succ, fb_ct_succ, fb_ct_succ, h1]
    cases hp : p n <;> cases hq : q n <;> simp_all <;> omega
theorem fb_ct_not (p : Nat → Bool) : ∀ n, fb_ct p n + fb_ct (fun k => !p k) n = n
  | 0 => rfl
  | n + 1 => by
    have h := fb_ct_not p n
    rw [fb_ct_succ, fb_ct_succ]
    cases p n <;> simp <;> omega
theorem fb_ct_split (p : Nat → Bool) (m : Nat) : ∀ n, fb_ct p (m + n) = fb_ct p m + fb_ct (fun k => p (m + k)) n
  | 0 => rfl
  | n + 1 => by
    have h := fb_ct_split p m n
    show fb_ct p (m + n + 1) = _
    rw [fb_ct_succ, fb_ct_succ, h, Nat.add_assoc]
theorem fb_ct_zero {p : Nat → Bool} : ∀ {n : Nat}, fb_ct p n = 0 ↔ ∀ k, k < n → p k = false
  | 0 => ⟨fun _ k hk => absurd hk (Nat.not_lt_zero k), fun _ => rfl⟩
  | n + 1 => by
    have h := fb_ct_zero (p := p) (n := n)
    rw [fb_ct_succ]
    constructor
    · intro e k hk
      have e1 : fb_ct p n = 0 := by omega
      rcases Nat.lt_or_ge k n with q | q
      · exact h.mp e1 k q
      · have ek : k = n := by omega
        subst ek
        cases hp : p k
        · rfl
        · simp [hp] at e
    · intro a
      rw [h.mpr (fun k hk => a k (by omega)), a n (by omega)]
      rfl
theorem fb_ct_pos {p : Nat → Bool} {n : Nat} : 0 < fb_ct p n ↔ ∃ k, k < n ∧ p k = true := by
  constructor
  · intro h
    refine Classical.byContradiction fun hx => ?_
    have := fb_ct_zero.mpr (fun k hk => by
      cases hp : p k
      · rfl
      · exact absurd ⟨k, hk, hp⟩ hx : ∀ k, k < n → p k = false)
    omega
  · rintro ⟨k, hk, hp⟩
    rcases Nat.eq_zero_or_pos (fb_ct p n) with e | e
    · have := fb_ct_zero.mp e k hk
      rw [this] at hp
      cases hp
    · exact e
theorem fb_ct_all {p : Nat → Bool} {n : Nat} : fb_ct p n = n ↔ ∀ k, k < n → p k = true := by
  have h := fb_ct_not p n
  constructor
  · intro e k hk
    have z : fb_ct (fun k => !p k) n = 0 := by omega
    have := fb_ct_zero.mp z k hk
    cases hp : p k
    · simp [hp] at this
    · rfl
  · intro a
    have z : fb_ct (fun k => !p k) n = 0 := fb_ct_zero.mpr (fun k hk => by simp [a k hk])
    omega
/-- the k-th place with the property -/
theorem fb_ct_kth {p : Nat → Bool} {k : Nat} : ∀ {n : Nat}, k < fb_ct p n → ∃ i, i < n ∧ p i = true ∧ fb_ct p i = k
  | 0, h => absurd h (Nat.not_lt_zero k)
  | n + 1, h => by
    rcases Nat.lt_or_ge k (fb_ct p n) with q | q
    · obtain ⟨i, h1, h2⟩ := fb_ct_kth q
      exact ⟨i, by omega, h2⟩
    · rw [fb_ct_succ] at h
      cases hp : p n
      · simp [hp] at h; omega
      · simp [hp] at h
        exact ⟨n, by omega, hp, by omega⟩
theorem fb_ct_kth_one {p : Nat → Bool} {i j : Nat} (hi : p i = true) (hj : p j = true) (e : fb_ct p i = fb_ct p j) : i = j := by
  have key : ∀ a b : Nat, a < b → p a = true → fb_ct p a < fb_ct p b := by
    intro a b hab ha
    have h := fb_ct_mono p (show a + 1 ≤ b from hab)
    rw [fb_ct_succ, ha] at h
    simp at h
    omega
  rcases Nat.lt_trichotomy i j with q | q | q
  · have := key i j q hi; omega
  · exact q
  · have := key j i q hj; omega
/-! ===== sums over a range: one place changed, parts, bounds ===== -/
def fb_sm (f : Nat → Nat) : Nat → Nat
  | 0 => 0
  | n + 1 => fb_sm f n + f n
theorem fb_sm_succ (f : Nat → Nat) (n : Nat) : fb_sm f (n + 1) = fb_sm f n + f n := rfl
theorem fb_sm_cong {f g : Nat → Nat} : ∀ {n : Nat}, (∀ k, k < n → f k = g k) → fb_sm f n = fb_sm g n
  | 0, _ => rfl
  | n + 1, h => by rw [fb_sm_succ, fb_sm_succ, fb_sm_cong (fun k hk => h k (by omega)), h n (by omega)]
theorem fb_sm_out (f : Nat → Nat) (v : Nat) {i n : Nat} (h : n ≤ i) : fb_sm (fun k => if k = i then v else f k) n = fb_sm f n :=
  fb_sm_cong fun k hk => if_neg (by omega)
theorem fb_sm_upd (f : Nat → Nat) (v : Nat) {i : Nat} : ∀ {n : Nat}, i < n → fb_sm (fun k => if k = i then v else f k) n + f i = fb_sm f n + v
  | 0, h => absurd h (Nat.not_lt_zero i)
  | n + 1, h => by
    rw [fb_sm_succ, fb_sm_succ]
    rcases Nat.lt_or_ge i n with q | q
    · have := fb_sm_upd f v q
      have e : (if n = i then v else f n) = f n := if_neg (by omega)
      rw [e]
      omega
    · have e : i = n := by omega
      subst e
      rw [fb_sm_out f v (Nat.le_refl _)]
      simp only [if_true]
      omega
theorem fb_sm_add (f g : Nat → Nat) : ∀ n, fb_sm (fun k => f k + g k) n = fb_sm f n + fb_sm g n
  | 0 => rfl
  | n + 1 => by
    have h := fb_sm_add f g n
    rw [fb_sm_succ, fb_sm_succ, fb_sm_succ, h]
    omega
theorem fb_sm_le {f g : Nat → Nat} : ∀ {n : Nat}, (∀ k, k < n → f k ≤ g k) → fb_sm f n ≤ fb_sm g n
  | 0, _ => Nat.le_refl _
  | n + 1, h => by
    have h1 := fb_sm_le (n := n) (f := f) (g := g) (fun k hk => h k (by omega))
    have h2 := h n (by omega)
    rw [fb_sm_succ, fb_sm_succ]
    omega
theorem fb_sm_const (c : Nat) : ∀ n, fb_sm (fun _ => c) n = n * c
  | 0 => by rw [Nat.zero_mul]; rfl
  | n + 1 => by rw [fb_sm_succ, fb_sm_const c n, Nat.succ_mul]
theorem fb_sm_bound {f : Nat → Nat} {c n : Nat} (h : ∀ k, k < n → f k ≤ c) : fb_sm f n ≤ n * c := by
  rw [← fb_sm_const c n]
  exact fb_sm_le h
theorem fb_sm_mono (f : Nat → Nat) (m : Nat) : ∀ n, fb_sm f m ≤ fb_sm f (m + n)
  | 0 => Nat.le_refl _
  | n + 1 => by
    have h := fb_sm_mono f m n
    show fb_sm f m ≤ fb_sm f (m + n + 1)
    rw [fb_sm_succ]
    omega
theorem fb_sm_part (f : Nat → Nat) {i n : Nat} (h : i < n) : fb_sm f i + f i ≤ fb_sm f n := by
  have := fb_sm_mono f (i + 1) (n - (i + 1))
  rw [fb_sm_succ, show i + 1 + (n - (i + 1)) = n by omega] at this
  exact this
theorem fb_sm_split (f : Nat → Nat) (m : Nat) : ∀ n, fb_sm f (m + n) = fb_sm f m + fb_sm (fun k => f (m + k)) n
  | 0 => rfl
  | n + 1 => by
    have h := fb_sm_split f m n
    show fb_sm f (m + n + 1) = _
    rw [fb_sm_succ, fb_sm_succ, h, Nat.add_assoc]
theorem fb_sm_zero {f : Nat → Nat} {n : Nat} (h : fb_sm f n = 0) : ∀ k, k < n → f k = 0 := fun k hk => by
  have := fb_sm_part f hk
  omega
/-- the same over whole numbers -/
def fb_si (f : Nat → Int) : Nat → Int
  | 0 => 0
  | n + 1 => fb_si f n + f n
theorem fb_si_succ (f : Nat → Int) (n : Nat) : fb_si f (n + 1) = fb_si f n + f n := rfl
theorem fb_si_cong {f g : Nat → Int} : ∀ {n : Nat}, (∀ k, k < n → f k = g k) → fb_si f n = fb_si g n
  | 0, _ => rfl
  | n + 1, h => by rw [fb_si_succ, fb_si_succ, fb_si_cong (fun k hk => h k (by omega)), h n (by omega)]
theorem fb_si_out (f : Nat → Int) (v : Int) {i n : Nat} (h : n ≤ i) : fb_si (fun k => if k = i then v else f k) n = fb_si f n :=
  fb_si_cong fun k hk => if_neg (by omega)
theorem fb_si_upd (f : Nat → Int) (v : Int) {i : Nat} : ∀ {n : Nat}, i < n → fb_si (fun k => if k = i then v else f k) n = fb_si f n - f i + v
  | 0, h => absurd h (Nat.not_lt_zero i)
  | n + 1, h => by
    rw [fb_si_succ, fb_si_succ]
    rcases Nat.lt_or_ge i n with q | q
    · have := fb_si_upd f v q
      have e : (if n = i then v else f n) = f n := if_neg (by omega)
      rw [e]
      omega
    · have e : i = n := by omega
      subst e
      rw [fb_si_out f v (Nat.le_refl _)]
      simp only [if_true]
      omega
theorem fb_si_add (f g : Nat → Int) : ∀ n, fb_si (fun k => f k + g k) n = fb_si f n + fb_si g n
  | 0 => rfl
  | n + 1 => by
    have h := fb_si_add f g n
    rw [fb_si_succ, fb_si_succ, fb_si_succ, h]
    omega
theorem fb_si_sub (f g : Nat → Int) : ∀ n, fb_si (fun k => f k - g k) n = fb_si f n - fb_si g n
  | 0 => rfl
  | n + 1 => by
    have h := fb_si_sub f g n
    rw [fb_si_succ, fb_si_succ, fb_si_succ, h]
    omega
theorem fb_si_mul (c : Int) (f : Nat → Int) : ∀ n, fb_si (fun k => c * f k) n = c * fb_si f n
  | 0 => (Int.mul_zero c).symm
  | n + 1 => by
    have h := fb_si_mul c f n
    rw [fb_si_succ, fb_si_succ, h, Int.mul_add]
theorem fb_si_split (f : Nat → Int) (m : Nat) : ∀ n, fb_si f (m + n) = fb_si f m + fb_si (fun k => f (m + k)) n
  | 0 => (Int.add_zero _).symm
  | n + 1 => by
    have h := fb_si_split f m n
    show fb_si f (m + n + 1) = _
    rw [fb_si_succ, fb_si_succ, h, Int.add_assoc]
theorem fb_si_nat (f : Nat → Nat) : ∀ n, fb_si (fun k => (f k : Int)) n = (fb_sm f n : Int)
  | 0 => rfl
  | n + 1 => by
    have h := fb_si_nat f n
    rw [fb_si_succ, fb_sm_succ, h]
    omega
theorem fb_si_bound {f : Nat → Int} {c : Int} (hc : 0 ≤ c) : ∀ {n : Nat}, (∀ k, k < n → -c ≤ f k ∧ f k ≤ c) → -(n * c) ≤ fb_si f n ∧ fb_si f n ≤ n * c
  | 0, _ => by simp [fb_si]
  | n + 1, h => by
    have h1 := fb_si_bound (n := n) (f := f) hc (fun k hk => h k (by omega))
    have h2 := h n (by omega)
    have e : ((n + 1 : Nat) : Int) * c = n * c + c := by rw [Int.natCast_add, Int.add_mul]; simp
    rw [fb_si_succ, e]
    omega
/-! ===== bits of a long that isn't negative ===== -/
theorem fb_andL (a b : Nat) : lN a &&& lN b = lN (a &&& b) := by
  apply Int64.toBitVec_inj.1
  show BitVec.ofNat 64 a &&& BitVec.ofNat 64 b = BitVec.ofNat 64 (a &&& b)
  apply BitVec.eq_of_getLsbD_eq
  intro i hi
  simp [hi]
theorem fb_orL (a b : Nat) : lN a ||| lN b = lN (a ||| b) := by
  apply Int64.toBitVec_inj.1
  show BitVec.ofNat 64 a ||| BitVec.ofNat 64 b = BitVec.ofNat 64 (a ||| b)
  apply BitVec.eq_of_getLsbD_eq
  intro i hi
  simp [hi]
theorem fb_xorL (a b : Nat) : lN a ^^^ lN b = lN (a ^^^ b) := by
  apply Int64.toBitVec_inj.1
  show BitVec.ofNat 64 a ^^^ BitVec.ofNat 64 b = BitVec.ofNat 64 (a ^^^ b)
  apply BitVec.eq_of_getLsbD_eq
  intro i hi
  simp [hi]
theorem fb_maskL (n k : Nat) : lN n &&& lN (2 ^ k - 1) = lN (n % 2 ^ k) := by rw [fb_andL, Nat.and_two_pow_sub_one_eq_mod]
theorem fb_or_sumL {a k : Nat} (b : Nat) (h : a < 2 ^ k) : lN (2 ^ k * b) ||| lN a = lN (2 ^ k * b + a) := by rw [fb_orL, Nat.two_pow_add_eq_or_of_lt h]
theorem fb_lN_inj {a b : Nat} (ha : a < 2 ^ 63) (hb : b < 2 ^ 63) : lN a = lN b ↔ a = b := by
  constructor
  · intro h
    have h1 : (BitVec.ofNat 64 a).toNat = (BitVec.ofNat 64 b).toNat := congrArg (fun x : Int64 => x.toBitVec.toNat) h
    rw [BitVec.toNat_ofNat, BitVec.toNat_ofNat, Nat.mod_eq_of_lt (by omega), Nat.mod_eq_of_lt (by omega)] at h1
    exact h1
  · rintro rfl; rfl
theorem fb_bit_nat (n j : Nat) : n &&& 2 ^ j = 0 ↔ n.testBit j = false := by
  constructor
  · intro h
    have h1 : (n &&& 2 ^ j).testBit j = false := by rw [h]; simp
    rw [Nat.testBit_and] at h1
    simpa using h1
  · intro h
    apply Nat.eq_of_testBit_eq
    intro i
    rw [Nat.testBit_and]
    by_cases hi : j = i
    · subst hi; simp [h]
    · first | (simp [Nat.testBit_two_pow, hi]; done) | (simp [Nat.testBit_two_pow_of_ne hi]; done)
/-- one bit of a long -/
theorem fb_bitL {n j : Nat} (hj : j < 63) : lN n &&& lN (2 ^ j) = 0 ↔ n.testBit j = false := by
  have h2 : (2 : Nat) ^ j < 2 ^ 63 := Nat.pow_lt_pow_right (by decide) hj
  have hle : n &&& 2 ^ j ≤ 2 ^ j := Nat.and_le_right
  rw [fb_andL, ← fb_bit_nat, show (0 : Int64) = lN 0 from rfl]
  exact fb_lN_inj (by omega) (by decide)
/-- a bit set, a bit taken off -/
theorem fb_bit_set (n j i : Nat) : (n ||| 2 ^ j).testBit i = (n.testBit i || decide (i = j)) := by
  rw [Nat.testBit_or]
  by_cases h : j = i
  · subst h; simp
  · have h2 : ¬ i = j := fun e => h e.symm
    first | (simp [Nat.testBit_two_pow, h, h2]; done) | (simp [Nat.testBit_two_pow_of_ne h, h2]; done)
theorem fb_bit_flip (n j i : Nat) : (n ^^^ 2 ^ j).testBit i = (n.testBit i ^^ decide (i = j)) := by
  rw [Nat.testBit_xor]
  by_cases h : j = i
  · subst h; simp
  · have h2 : ¬ i = j := fun e => h e.symm
    first | (simp [Nat.testBit_two_pow, h, h2]; done) | (simp [Nat.testBit_two_pow_of_ne h, h2]; done)
/-! ===== the least, the first, the best so far; that there is one alone ===== -/
theorem fb_first {p : Nat → Prop} [DecidablePred p] : ∀ {n : Nat}, (∃ i, i < n ∧ p i) → ∃ i, i < n ∧ p i ∧ ∀ j, j < i → ¬ p j
  | 0, h => by obtain ⟨i, hi, -⟩ := h; exact absurd hi (Nat.not_lt_zero i)
  | n + 1, h => by
    by_cases q : ∃ i, i < n ∧ p i
    · obtain ⟨i, h1, h2⟩ := fb_first q
      exact ⟨i, by omega, h2⟩
    · obtain ⟨i, h1, h2⟩ := h
      have e : i = n := by
        rcases Nat.lt_or_ge i n with r | r
        · exact absurd ⟨i, r, h2⟩ q
        · omega
      subst e
      exact ⟨i, by omega, h2, fun j hj hp => q ⟨j, hj, hp⟩⟩
theorem fb_first_one {p : Nat → Prop} {i j : Nat} (hi : p i) (hi2 : ∀ k, k < i → ¬ p k) (hj : p j) (hj2 : ∀ k, k < j → ¬ p k) : i = j := by
  rcases Nat.lt_trichotomy i j with q | q | q
  · exact absurd hi (hj2 i q)
  · exact q
  · exact absurd hj (hi2 j q)
theorem fb_last {p : Nat → Prop} [DecidablePred p] : ∀ {n : Nat}, (∃ i, i < n ∧ p i) → ∃ i, i < n ∧ p i ∧ ∀ j, i < j → j < n → ¬ p j
  | 0, h => by obtain ⟨i, hi, -⟩ := h; exact absurd hi (Nat.not_lt_zero i)
  | n + 1, h => by
    by_cases q : p n
    · exact ⟨n, by omega, q, fun j h1 h2 => by omega⟩
    · obtain ⟨i, h1, h2⟩ := h
      have hi : i < n := by
        rcases Nat.lt_or_ge i n with r | r
        · exact r
        · have e : i = n := by omega
          subst e
          exact absurd h2 q
      obtain ⟨i2, a1, a2, a3⟩ := fb_last (n := n) ⟨i, hi, h2⟩
      refine ⟨i2, by omega, a2, fun j b1 b2 => ?_⟩
      rcases Nat.lt_or_ge j n with r | r
      · exact a3 j b1 r
      · have e : j = n := by omega
        subst e
        exact q
/-- the first greatest -/
theorem fb_best (f : Nat → Int) : ∀ {n : Nat}, 0 < n → ∃ i, i < n ∧ (∀ j, j < n → f j ≤ f i) ∧ ∀ j, j < i → f j < f i
  | 0, h => absurd h (Nat.lt_irrefl 0)
  | 1, _ => ⟨0, by omega, fun j hj => by have e : j = 0 := by omega
                                         subst e; exact Int.le_refl _, fun j hj => absurd hj (Nat.not_lt_zero j)⟩
  | n + 2, _ => by
    obtain ⟨i, h1, h2, h3⟩ := fb_best f (n := n + 1) (by omega)
    by_cases q : f i < f (n + 1)
    · refine ⟨n + 1, by omega, fun j hj => ?_, fun j hj => ?_⟩
      · rcases Nat.lt_or_ge j (n + 1) with r | r
        · have := h2 j r; omega
        · have e : j = n + 1 := by omega
          subst e; exact Int.le_refl _
      · have := h2 j hj; omega
    · refine ⟨i, by omega, fun j hj => ?_, h3⟩
      rcases Nat.lt_or_ge j (n + 1) with r | r
      · exact h2 j r
      · have e : j = n + 1 := by omega
        subst e; omega
theorem fb_best_one {f : Nat → Int} {n i j : Nat} (hi : i < n) (hi2 : ∀ k, k < n → f k ≤ f i) (hi3 : ∀ k, k < i → f k < f i) (hj : j < n) (hj2 : ∀ k, k < n → f k ≤ f j) (hj3 : ∀ k, k < j → f k < f j) : i = j := by
  rcases Nat.lt_trichotomy i j with q | q | q
  · have a := hj3 i q
    have b := hi2 j hj
    omega
  · exact q
  · have a := hi3 j q
    have b := hj2 i hi
    omega
/-- the first least -/
theorem fb_low (f : Nat → Int) {n : Nat} (h : 0 < n) : ∃ i, i < n ∧ (∀ j, j < n → f i ≤ f j) ∧ ∀ j, j < i → f i < f j := by
  obtain ⟨i, h1, h2, h3⟩ := fb_best (fun k => -f k) h
  exact ⟨i, h1, fun j hj => by have := h2 j hj; omega, fun j hj => by have := h3 j hj; omega⟩
/-! ===== lN n to 2^64: shifts, and, or, masks, one bit ===== -/
theorem wb_tb (n : Nat) : (lN n).toBitVec = BitVec.ofNat 64 n := rfl
theorem wb_inj {a b : Int64} (h : a.toBitVec = b.toBitVec) : a = b := Int64.toBitVec_inj.mp h
theorem wb_tn {n : Nat} (h : n < 2 ^ 64) : (lN n).toBitVec.toNat = n := by rw [wb_tb, BitVec.toNat_ofNat, Nat.mod_eq_of_lt h]
theorem wb_of (x : Int64) : ∃ n, n < 2 ^ 64 ∧ x = lN n := ⟨x.toBitVec.toNat, x.toBitVec.isLt, wb_inj (by rw [wb_tb]; simp)⟩
theorem wb_of32 (x : Int32) : ∃ n, n < 2 ^ 32 ∧ x = nI n := ⟨x.toBitVec.toNat, x.toBitVec.isLt, Int32.toBitVec_inj.mp (by show _ = BitVec.ofNat 32 _; simp)⟩
theorem wb_c : ∀ k, k < 64 → ((nI k).toInt64 &&& 63) = lN k := by decide +kernel
theorem wb_cu : ∀ k, k < 64 → ((nI k).toInt64.toUInt64 &&& Int64.toUInt64 63) = UInt64.ofNat k := by decide +kernel
theorem wb_sm : ∀ k, k < 64 → (BitVec.ofNat 64 k).smod 64 = BitVec.ofNat 64 k := by decide +kernel
theorem wb_pw {a b : Nat} (h : a ≤ b) : 2 ^ b = 2 ^ a * 2 ^ (b - a) := by rw [← Nat.pow_add]; congr 1; omega
theorem wb_lt2 {a b : Nat} (h : a < b) : 2 ^ a < 2 ^ b := Nat.pow_lt_pow_right (by decide) h
theorem wb_mod (n : Nat) : lN n = lN (n % 2 ^ 64) := wb_inj (by rw [wb_tb, wb_tb]; apply BitVec.eq_of_toNat_eq; rw [BitVec.toNat_ofNat, BitVec.toNat_ofNat, Nat.mod_mod])
theorem wb_shr {n k : Nat} (hn : n < 2 ^ 64) (hk : k < 64) : ((lN n).toUInt64 >>> ((nI k).toInt64.toUInt64 &&& Int64.toUInt64 63)).toInt64 = lN (n / 2 ^ k) := by
  rw [wb_cu k hk]
  apply wb_inj
  apply BitVec.eq_of_toNat_eq
  show ((lN n).toUInt64 >>> UInt64.ofNat k).toNat = (BitVec.ofNat 64 _).toNat
  have h1 : (UInt64.ofNat k).toNat = k := by
    show (BitVec.ofNat 64 k).toNat = k
    rw [BitVec.toNat_ofNat, Nat.mod_eq_of_lt (by omega)]
  have h2 : (lN n).toUInt64.toNat = n := wb_tn hn
  rw [UInt64.toNat_shiftRight, h1, h2, Nat.mod_eq_of_lt hk, Nat.shiftRight_eq_div_pow, BitVec.toNat_ofNat, Nat.mod_eq_of_lt (Nat.lt_of_le_of_lt (Nat.div_le_self _ _) hn)]
theorem wb_shl (n : Nat) {k : Nat} (hk : k < 64) : lN n <<< ((nI k).toInt64 &&& 63) = lN (n * 2 ^ k) := by
  rw [wb_c k hk]
  apply wb_inj
  rw [Int64.toBitVec_shiftLeft, wb_tb, wb_tb, wb_tb, wb_sm k hk]
  apply BitVec.eq_of_toNat_eq
  rw [BitVec.shiftLeft_eq', BitVec.toNat_shiftLeft, BitVec.toNat_ofNat, BitVec.toNat_ofNat, BitVec.toNat_ofNat, Nat.mod_eq_of_lt (show k < 2 ^ 64 by omega), Nat.shiftLeft_eq, Nat.mul_mod, Nat.mod_mod, ← Nat.mul_mod]
theorem wb_and {a b : Nat} (ha : a < 2 ^ 64) (hb : b < 2 ^ 64) : lN a &&& lN b = lN (a &&& b) := by
  apply wb_inj
  rw [Int64.toBitVec_and, wb_tb, wb_tb, wb_tb]
  apply BitVec.eq_of_toNat_eq
  rw [BitVec.toNat_and, BitVec.toNat_ofNat, BitVec.toNat_ofNat, BitVec.toNat_ofNat, Nat.mod_eq_of_lt ha, Nat.mod_eq_of_lt hb, Nat.mod_eq_of_lt (Nat.and_lt_two_pow _ hb)]
theorem wb_or {a b : Nat} (ha : a < 2 ^ 64) (hb : b < 2 ^ 64) : lN a ||| lN b = lN (a ||| b) := by
  apply wb_inj
  rw [Int64.toBitVec_or, wb_tb, wb_tb, wb_tb]
  apply BitVec.eq_of_toNat_eq
  rw [BitVec.toNat_or, BitVec.toNat_ofNat, BitVec.toNat_ofNat, BitVec.toNat_ofNat, Nat.mod_eq_of_lt ha, Nat.mod_eq_of_lt hb, Nat.mod_eq_of_lt (Nat.or_lt_two_pow ha hb)]
theorem wb_mask {n k : Nat} (hn : n < 2 ^ 64) (hk : k < 64) : lN n &&& lN (2 ^ k - 1) = lN (n % 2 ^ k) := by
  rw [wb_and hn (by have := wb_lt2 hk; omega), Nat.and_two_pow_sub_one_eq_mod]
theorem wb_a1 {n : Nat} (hn : n < 2 ^ 64) : lN n &&& 1 = lN (n % 2) := wb_mask (k := 1) hn (by decide)
theorem wb_bit {n k : Nat} (hn : n < 2 ^ 64) (hk : k < 64) : ((lN n).toUInt64 >>> ((nI k).toInt64.toUInt64 &&& Int64.toUInt64 63)).toInt64 &&& 1 = lN (n / 2 ^ k % 2) := by
  rw [wb_shr hn hk, wb_a1 (Nat.lt_of_le_of_lt (Nat.div_le_self _ _) hn)]
theorem wb_xor {q k : Nat} (hk : k < 63) (h : 2 ^ k ≤ q) (h2 : q < 2 ^ (k + 1)) : lN q ^^^ lN (2 ^ k) = lN (q - 2 ^ k) := by
  obtain ⟨r, rfl⟩ : ∃ r, q = 2 ^ k + r := ⟨q - 2 ^ k, by omega⟩
  have hr : r < 2 ^ k := by rw [Nat.pow_succ] at h2; omega
  have hx : (2 ^ k + r) ^^^ 2 ^ k = r := by
    apply Nat.eq_of_testBit_eq
    intro i
    rw [Nat.testBit_xor, Nat.testBit_two_pow]
    rcases Nat.lt_trichotomy i k with h | h | h
    · rw [Nat.testBit_two_pow_add_gt h]
      simp [show ¬ k = i by omega]
    · subst h
      rw [Nat.testBit_two_pow_add_eq]
      simp
    · have a1 : 2 ^ (k + 1) ≤ 2 ^ i := Nat.pow_le_pow_right (by decide) h
      rw [Nat.testBit_lt_two_pow (show 2 ^ k + r < 2 ^ i by omega), Nat.testBit_lt_two_pow (show r < 2 ^ i by omega)]
      simp [show ¬ k = i by omega]
  have b1 := wb_lt2 (show k + 1 < 64 by omega)
  have b2 := wb_lt2 (show k < 64 by omega)
  apply wb_inj
  rw [Int64.toBitVec_xor, wb_tb, wb_tb, wb_tb]
  apply BitVec.eq_of_toNat_eq
  rw [BitVec.toNat_xor, BitVec.toNat_ofNat, BitVec.toNat_ofNat, BitVec.toNat_ofNat, Nat.mod_eq_of_lt (by omega : 2 ^ k + r < 2 ^ 64), Nat.mod_eq_of_lt b2, hx, Nat.add_sub_cancel_left, Nat.mod_eq_of_lt (by omega)]
end
section
/-! counts -/
theorem ct_t {f : Nat → Bool} {n : Nat} (h : f n = true) : fb_ct f (n + 1) = fb_ct f n + 1 := by
  rw [fb_ct_succ, if_pos h]
theorem ct_f {f : Nat → Bool} {n : Nat} (h : ¬ f n = true) : fb_ct f (n + 1) = fb_ct f n := by
  rw [fb_ct_succ, if_neg h, Nat.add_zero]
/-- the first index below n with a property, or n -/
def fi (f : Nat → Bool) : Nat → Nat
  | 0 => 0
  | n + 1 => if fi f n < n then fi f n else if f n = true then n else n + 1
theorem fi_none {f : Nat → Bool} : ∀ {n : Nat}, (∀ j, j < n → ¬ f j = true) → fi f n = n
  | 0, _ => rfl
  | n + 1, h => by
    have ih := fi_none (n := n) (fun j hj => h j (by omega))
    rw [fi, ih, if_neg (by omega), if_neg (h n (by omega))]
theorem fi_at {f : Nat → Bool} {i : Nat} : ∀ {n : Nat}, i < n → f i = true → (∀ j, j < i → ¬ f j = true) → fi f n = i
  | 0, h, _, _ => absurd h (Nat.not_lt_zero i)
  | n + 1, h, hi, hj => by
    rcases Nat.lt_or_ge i n with h1 | h1
    · rw [fi, fi_at h1 hi hj, if_pos h1]
    · obtain rfl : i = n := by omega
      rw [fi, fi_none hj, if_neg (by omega), if_pos hi]
theorem fi_le (f : Nat → Bool) : ∀ n, fi f n ≤ n
  | 0 => Nat.le_refl 0
  | n + 1 => by
    have := fi_le f n
    rw [fi]
    split
    · omega
    · split <;> omega
theorem fi_lt {f : Nat → Bool} {n : Nat} (h : fi f n < n) : f (fi f n) = true ∧ ∀ j, j < fi f n → ¬ f j = true := by
  by_cases q : ∃ i, i < n ∧ f i = true
  · obtain ⟨i, h1, h2, h3⟩ := fb_first q
    rw [fi_at h1 h2 h3]
    exact ⟨h2, h3⟩
  · rw [fi_none (fun j hj q2 => q ⟨j, hj, q2⟩)] at h
    omega
theorem fi_ge {f : Nat → Bool} {n : Nat} (h : ¬ fi f n < n) : ∀ j, j < n → ¬ f j = true := by
  intro j hj q
  obtain ⟨i, h1, h2, h3⟩ := fb_first (p := fun k => f k = true) ⟨j, hj, q⟩
  rw [fi_at h1 h2 h3] at h
  exact h h1
def nO (f : Nat → Bool) (n : Nat) : Int32 := if fi f n < n then nI (fi f n) else mI 1
/-! a scheme, in the class's cells: tables' sides d, field q, c products, form k = 3 i + t of numbers A k p -/
def pl (d : Nat → Nat) (t : Nat) : Nat := d t * d ((t + 1) % 3)
def CS (wi : Nat → Nat → Int32) (o : Nat) (d : Nat → Nat) (q c : Nat) (A : Nat → Nat → Nat) : Prop :=
  (wi o 1 = nI (d 0) ∧ wi o 2 = nI (d 1) ∧ wi o 3 = nI (d 2) ∧ wi o 4 = nI q ∧ wi o 5 = nI c) ∧ (∀ k, k < 3 * c → wi (o + 2) k = pk (A k)) ∧ (q = 2 ∨ q = 3) ∧ (∀ t, t < 3 → 1 ≤ d t ∧ d t ≤ 3) ∧ c ≤ 40 ∧ ∀ k, k < 3 * c → ∀ p, p < 9 → A k p < q
/-- a form that is 0; two that are the same; a product with a form that is 0 -/
def zB (a : Nat → Nat) : Bool := decide (∀ p : Nat, p < 9 → a p = 0)
def eqB (a b : Nat → Nat) : Bool := decide (∀ p : Nat, p < 9 → a p = b p)
def hzB (A : Nat → Nat → Nat) (i : Nat) : Bool := zB (A (3 * i)) || zB (A (3 * i + 1)) || zB (A (3 * i + 2))
theorem zB_pk {a : Nat → Nat} (ha : ∀ p, p < 9 → a p < 3) : pk a = nI 0 ↔ zB a = true := by
  rw [pk_eq0 ha]
  exact decide_eq_true_iff.symm
theorem eqB_pk {a b : Nat → Nat} (ha : ∀ p, p < 9 → a p < 3) (hb : ∀ p, p < 9 → b p < 3) : pk a = pk b ↔ eqB a b = true := by
  rw [pk_inj ha hb]
  exact decide_eq_true_iff.symm
section
variable {wi : Nat → Nat → Int32} {o : Nat} {d : Nat → Nat} {q c : Nat} {A : Nat → Nat → Nat}
theorem cs_1 (h : CS wi o d q c A) : wi o 1 = nI (d 0) := h.1.1
theorem cs_2 (h : CS wi o d q c A) : wi o 2 = nI (d 1) := h.1.2.1
theorem cs_3 (h : CS wi o d q c A) : wi o 3 = nI (d 2) := h.1.2.2.1
theorem cs_q (h : CS wi o d q c A) : wi o 4 = nI q := h.1.2.2.2.1
theorem cs_c (h : CS wi o d q c A) : wi o 5 = nI c := h.1.2.2.2.2
theorem cs_f (h : CS wi o d q c A) : ∀ k, k < 3 * c → wi (o + 2) k = pk (A k) := h.2.1
theorem cs_q23 (h : CS wi o d q c A) : q = 2 ∨ q = 3 := h.2.2.1
theorem cs_d (h : CS wi o d q c A) : ∀ t, t < 3 → 1 ≤ d t ∧ d t ≤ 3 := h.2.2.2.1
theorem cs_40 (h : CS wi o d q c A) : c ≤ 40 := h.2.2.2.2.1
theorem cs_A (h : CS wi o d q c A) : ∀ k, k < 3 * c → ∀ p, p < 9 → A k p < q := h.2.2.2.2.2
theorem cs_A3 (h : CS wi o d q c A) : ∀ k, k < 3 * c → ∀ p, p < 9 → A k p < 3 := fun k hk p hp => by
  have := cs_A h k hk p hp
  have := cs_q23 h
  omega
theorem lt3 {t : Nat} (h : t < 3) : t = 0 ∨ t = 1 ∨ t = 2 := by omega
theorem beh_N {t : Nat} (h : t < 3) : behF (nI t) = nI ((t + 1) % 3) := by
  rcases lt3 h with rfl | rfl | rfl <;> decide
theorem ahd_N {t : Nat} (h : t < 3) : ahdF (nI t) = nI ((t + 2) % 3) := by
  rcases lt3 h with rfl | rfl | rfl <;> decide
theorem mod3_lt (t : Nat) : t % 3 < 3 := Nat.mod_lt _ (by decide)
theorem rows_S (h : CS wi o d q c A) {t : Nat} (ht : t < 3) : rowsF wi o (nI t) = nI (d t) := by
  unfold rowsF
  rcases lt3 ht with rfl | rfl | rfl
  · rw [if_pos rfl]; exact cs_1 h
  · rw [if_neg (by decide), if_pos rfl]; exact cs_2 h
  · rw [if_neg (by decide), if_neg (by decide)]; exact cs_3 h
theorem col_S (h : CS wi o d q c A) {t : Nat} (ht : t < 3) : colF wi o (nI t) = nI (d ((t + 1) % 3)) := by
  unfold colF
  rw [beh_N ht, rows_S h (mod3_lt _)]
theorem pl_S (h : CS wi o d q c A) {t : Nat} (ht : t < 3) : plF wi o (nI t) = nI (pl d t) := by
  unfold plF pl
  rw [col_S h ht, rows_S h ht, pk_mul]
theorem pl_le (h : ∀ t, t < 3 → 1 ≤ d t ∧ d t ≤ 3) {t : Nat} (ht : t < 3) : 1 ≤ pl d t ∧ pl d t ≤ 9 := by
  have h1 := h t ht
  have h2 := h ((t + 1) % 3) (mod3_lt _)
  exact ⟨Nat.mul_le_mul h1.1 h2.1, Nat.mul_le_mul h1.2 h2.2⟩
theorem fm_S (h : CS wi o d q c A) {i t : Nat} (hi : i < c) (ht : t < 3) : fmF wi o (nI i) (nI t) = pk (A (3 * i + t)) := by
  have := cs_40 h
  unfold fmF
  rw [pk_mul, nI_add, atF_in (by omega) (by decide)]
  exact cs_f h _ (by omega)
theorem at_S (h : CS wi o d q c A) {k : Nat} (hk : k < 3 * c) : atF (wi (o + 2)) 120 (nI k) = pk (A k) := by
  have := cs_40 h
  rw [atF_in (by omega) (by decide)]
  exact cs_f h _ hk
theorem fn_S (h : CS wi o d q c A) {i t p : Nat} (hi : i < c) (ht : t < 3) (hp : p < 9) : fnum (fmF wi o (nI i) (nI t)) (nI p) = nI (A (3 * i + t) p) := by
  rw [fm_S h hi ht]
  exact fnum_pk (cs_A3 h _ (by omega)) hp
theorem lk_S (h : CS wi o d q c A) {i j t : Nat} (hi : i < c) (hj : j < c) (ht : t < 3) : flike (fmF wi o (nI i) (nI t)) (fmF wi o (nI j) (nI t)) (wi o 4) = nI (likeN q (A (3 * i + t)) (A (3 * j + t))) := by
  rw [fm_S h hi ht, fm_S h hj ht, cs_q h]
  exact flike_pk (cs_q23 h) (cs_A h _ (by omega)) (cs_A h _ (by omega))
theorem hz_S (h : CS wi 6 d q c A) {i : Nat} (hi : i < c) : hzF wi (nI i) = bI (hzB A i = true) := by
  unfold hzF
  rw [fm_S h hi (by decide), fm_S h hi (by decide), fm_S h hi (by decide)]
  unfold bI hzB
  have e0 := zB_pk (cs_A3 h (3 * i) (by omega))
  have e1 := zB_pk (cs_A3 h (3 * i + 1) (by omega))
  have e2 := zB_pk (cs_A3 h (3 * i + 2) (by omega))
  simp only [Nat.add_zero, e0, e1, e2, Bool.or_eq_true, or_assoc]
end
/-! what is counted over a scheme's products -/
def sp_X6_zeros : zSp := fun av w K => match av with
  | [.ref o] => o = 6 ∧ zG w.1 ∧ ∃ d q c A, CS w.2.1 6 d q c A ∧ K (some (.int (nI (fb_ct (hzB A) c)))) w
  | _ => False
def rm_X6_zeros : Room := { frames := 3, cells := 0, slots := 0, locals := 64 }
def M_X6_zeros : zM := (k_X6_zeros, f_X6, [(112, 4, 5, 2, 0, 0, sp_X6_hasZero)], ([], [], []), [], [(4, [true, true, true])], 1, false, (false, 0, fun _ => 0), (0, 0))
theorem ca_X6_zeros_0 (l : Launch) : z_cok l RX6 (headSpec (.code yX6_zeros cX6_zeros 3 (some .int) :: zTT) rm_X6_zeros).room (112, 4, 5, 2, 0, 0, sp_X6_hasZero) := z_ca4 (c_X6_hasZero l) mb_X6_hasZero ⟨_, rfl, rfl⟩ wt_682 wt_683 wt_684 (by decide)
theorem O_X6_zeros (l : Launch) : z_OK l RX6 cX6_zeros (headSpec (.code yX6_zeros cX6_zeros 3 (some .int) :: zTT) rm_X6_zeros).room M_X6_zeros := ⟨ok_X6_zeros, fo_X6, List.forall_mem_cons.mpr ⟨ca_X6_zeros_0 l, fun _ h => absurd h List.not_mem_nil⟩, fun _ h => absurd h List.not_mem_nil, fun _ h => absurd h List.not_mem_nil, fun _ h => absurd h List.not_mem_nil, fun _ h => absurd h List.not_mem_nil, rfl, rfl⟩
theorem c_X6_zeros (l : Launch) : z_CS l yX6_zeros cX6_zeros 3 (some .int) rm_X6_zeros sp_X6_zeros := by
  refine z_meth (by decide) (Or.inr (Or.inl ⟨rfl, rfl⟩)) (fun h => by cases h) rfl (O_X6_zeros l) ?_
  intro av w K h
  match av, h with
  | [.ref o], h =>
    obtain ⟨rfl, ⟨r, hG⟩, d, q, c, A, hS, h⟩ := h
    obtain ⟨G, wi, wl⟩ := w
    subst hG
    try dsimp only at h hS
    have h40 := cs_40 hS
    refine ⟨Nat.le_of_ble_eq_true rfl, fun Jm hs => ?_⟩
    have loop := up_ind (P := fun i => Jm 4 [some (.ref 6), some (.int (nI (fb_ct (hzB A) i))), some (.int (nI i))] [] (GC ++ r, wi, wl) 0 0) c (fun i hi ih => by
      refine hs 400 4 _ _ _ _ _ ?_
      conv => whnf
      repeat ((first | refine ⟨zG_of _, ?_⟩ | refine ⟨trivial, ?_⟩ | refine ⟨rfl, ?_⟩ | refine ⟨fun hc => absurd hc (by decide), fun _ => ?_⟩ | refine ⟨fun _ => ?_, fun hc => absurd (by decide) hc⟩); conv => whnf)
      try dsimp only
      rw [cs_c hS, ltN (by omega) (by omega)]
      refine ⟨fun hc => ?_, fun hc => ?_⟩
      · obtain rfl : i = c := by omega
        exact ⟨trivial, h⟩
      · have ih := ih hc
        conv => whnf
        repeat ((first | refine ⟨zG_of _, ?_⟩ | refine ⟨trivial, ?_⟩ | refine ⟨rfl, ?_⟩ | refine ⟨fun hc => absurd hc (by decide), fun _ => ?_⟩ | refine ⟨fun _ => ?_, fun hc => absurd (by decide) hc⟩); conv => whnf)
        try dsimp only
        rw [hz_S hS hc]
        refine ⟨fun hz => ?_, fun hz => ?_⟩
        · rw [bI_0] at hz
          rw [ct_f hz] at ih
          conv => whnf
          repeat ((first | refine ⟨zG_of _, ?_⟩ | refine ⟨trivial, ?_⟩ | refine ⟨rfl, ?_⟩ | refine ⟨fun hc => absurd hc (by decide), fun _ => ?_⟩ | refine ⟨fun _ => ?_, fun hc => absurd (by decide) hc⟩); conv => whnf)
          try dsimp only
          rw [nI_add]
          exact ih
        · rw [bI_0, Classical.not_not] at hz
          rw [ct_t hz] at ih
          conv => whnf
          repeat ((first | refine ⟨zG_of _, ?_⟩ | refine ⟨trivial, ?_⟩ | refine ⟨rfl, ?_⟩ | refine ⟨fun hc => absurd hc (by decide), fun _ => ?_⟩ | refine ⟨fun _ => ?_, fun hc => absurd (by decide) hc⟩); conv => whnf)
          try dsimp only
          rw [nI_add, nI_add]
          exact ih)
    exact hs 400 0 _ _ _ _ _ (loop 0 (Nat.zero_le _))
def sp_X6_firstZero : zSp := fun av w K => match av with
  | [.ref o] => o = 6 ∧ zG w.1 ∧ ∃ d q c A, CS w.2.1 6 d q c A ∧ K (some (.int (nO (hzB A) c))) w
  | _ => False
def rm_X6_firstZero : Room := { frames := 3, cells := 0, slots := 0, locals := 64 }
def M_X6_firstZero : zM := (k_X6_firstZero, f_X6, [(112, 4, 5, 2, 0, 0, sp_X6_hasZero)], ([], [], []), [], [(2, [true, true])], 1, false, (false, 0, fun _ => 0), (0, 0))
theorem ca_X6_firstZero_0 (l : Launch) : z_cok l RX6 (headSpec (.code yX6_firstZero cX6_firstZero 2 (some .int) :: zTT) rm_X6_firstZero).room (112, 4, 5, 2, 0, 0, sp_X6_hasZero) := z_ca4 (c_X6_hasZero l) mb_X6_hasZero ⟨_, rfl, rfl⟩ wt_682 wt_683 wt_684 (by decide)
theorem O_X6_firstZero (l : Launch) : z_OK l RX6 cX6_firstZero (headSpec (.code yX6_firstZero cX6_firstZero 2 (some .int) :: zTT) rm_X6_firstZero).room M_X6_firstZero := ⟨ok_X6_firstZero, fo_X6, List.forall_mem_cons.mpr ⟨ca_X6_firstZero_0 l, fun _ h => absurd h List.not_mem_nil⟩, fun _ h => absurd h List.not_mem_nil, fun _ h => absurd h List.not_mem_nil, fun _ h => absurd h List.not_mem_nil, fun _ h => absurd h List.not_mem_nil, rfl, rfl⟩
theorem c_X6_firstZero (l : Launch) : z_CS l yX6_firstZero cX6_firstZero 2 (some .int) rm_X6_firstZero sp_X6_firstZero := by
  refine z_meth (by decide) (Or.inr (Or.inl ⟨rfl, rfl⟩)) (fun h => by cases h) rfl (O_X6_firstZero l) ?_
  intro av w K h
  match av, h with
  | [.ref o], h =>
    obtain ⟨rfl, ⟨r, hG⟩, d, q, c, A, hS, h⟩ := h
    obtain ⟨G, wi, wl⟩ := w
    subst hG
    try dsimp only at h hS
    have h40 := cs_40 hS
    refine ⟨Nat.le_of_ble_eq_true rfl, fun Jm hs => ?_⟩
    have loop := up_ind (P := fun i => (∀ j, j < i → ¬ hzB A j = true) → Jm 2 [some (.ref 6), some (.int (nI i))] [] (GC ++ r, wi, wl) 0 0) c (fun i hi ih hno => by
      refine hs 400 2 _ _ _ _ _ ?_
      conv => whnf
      repeat ((first | refine ⟨zG_of _, ?_⟩ | refine ⟨trivial, ?_⟩ | refine ⟨rfl, ?_⟩ | refine ⟨fun hc => absurd hc (by decide), fun _ => ?_⟩ | refine ⟨fun _ => ?_, fun hc => absurd (by decide) hc⟩); conv => whnf)
      try dsimp only
      rw [cs_c hS, ltN (by omega) (by omega)]
      refine ⟨fun hc => ?_, fun hc => ?_⟩
      · obtain rfl : i = c := by omega
        rw [nO, fi_none hno, if_neg (Nat.lt_irrefl _)] at h
        exact ⟨trivial, h⟩
      · have ih := ih hc
        conv => whnf
        repeat ((first | refine ⟨zG_of _, ?_⟩ | refine ⟨trivial, ?_⟩ | refine ⟨rfl, ?_⟩ | refine ⟨fun hc => absurd hc (by decide), fun _ => ?_⟩ | refine ⟨fun _ => ?_, fun hc => absurd (by decide) hc⟩); conv => whnf)
        try dsimp only
        rw [hz_S hS hc]
        refine ⟨fun hz => ?_, fun hz => ?_⟩
        · rw [bI_0] at hz
          conv => whnf
          repeat ((first | refine ⟨zG_of _, ?_⟩ | refine ⟨trivial, ?_⟩ | refine ⟨rfl, ?_⟩ | refine ⟨fun hc => absurd hc (by decide), fun _ => ?_⟩ | refine ⟨fun _ => ?_, fun hc => absurd (by decide) hc⟩); conv => whnf)
          try dsimp only
          rw [nI_add]
          exact ih (fun j hj => by
            rcases Nat.lt_or_ge j i with q | q
            · exact hno j q
            · obtain rfl : j = i := by omega
              exact hz)
        · rw [bI_0, Classical.not_not] at hz
          rw [nO, fi_at hc hz hno, if_pos hc] at h
          exact ⟨trivial, h⟩)
    exact hs 400 0 _ _ _ _ _ (loop 0 (Nat.zero_le _) (fun j hj => absurd hj (Nat.not_lt_zero j)))
def sp_X6_usersOf : zSp := fun av w K => match av with
  | [.ref o, .int t, .int p, .int v] => o = 6 ∧ zG w.1 ∧ ∃ d q c A t' p' v', CS w.2.1 6 d q c A ∧ t = nI t' ∧ t' < 3 ∧ p = nI p' ∧ p' < 9 ∧ v = nI v' ∧ v' < 3 ∧ K (some (.int (nI (fb_ct (fun i => A (3 * i + t') p' == v') c)))) w
  | _ => False
def rm_X6_usersOf : Room := { frames := 2, cells := 0, slots := 0, locals := 43 }
def M_X6_usersOf : zM := (k_X6_usersOf, f_X6, [(59, 4, 5, 3, 0, 0, sp_X6_formAt), (94, 0, 0, 2, 0, 0, sp_X2_numberAt)], ([], [], []), [], [(6, [true, true, true, true, true, true])], 1, false, (false, 0, fun _ => 0), (0, 0))
theorem ca_X6_usersOf_0 (l : Launch) : z_cok l RX6 (headSpec (.code yX6_usersOf cX6_usersOf 6 (some .int) :: zTT) rm_X6_usersOf).room (59, 4, 5, 3, 0, 0, sp_X6_formAt) := z_ca4 (c_X6_formAt l) mb_X6_formAt ⟨_, rfl, rfl⟩ wt_499 wt_500 wt_501 (by decide)
theorem ca_X6_usersOf_1 (l : Launch) : z_cok l RX6 (headSpec (.code yX6_usersOf cX6_usersOf 6 (some .int) :: zTT) rm_X6_usersOf).room (94, 0, 0, 2, 0, 0, sp_X2_numberAt) := z_ca0 (c_X2_numberAt l) mb_X2_numberAt wt_556 wt_468 (by decide)
theorem O_X6_usersOf (l : Launch) : z_OK l RX6 cX6_usersOf (headSpec (.code yX6_usersOf cX6_usersOf 6 (some .int) :: zTT) rm_X6_usersOf).room M_X6_usersOf := ⟨ok_X6_usersOf, fo_X6, List.forall_mem_cons.mpr ⟨ca_X6_usersOf_0 l, List.forall_mem_cons.mpr ⟨ca_X6_usersOf_1 l, fun _ h => absurd h List.not_mem_nil⟩⟩, fun _ h => absurd h List.not_mem_nil, fun _ h => absurd h List.not_mem_nil, fun _ h => absurd h List.not_mem_nil, fun _ h => absurd h List.not_mem_nil, rfl, rfl⟩
theorem c_X6_usersOf (l : Launch) : z_CS l yX6_usersOf cX6_usersOf 6 (some .int) rm_X6_usersOf sp_X6_usersOf := by
  refine z_meth (by decide) (Or.inr (Or.inl ⟨rfl, rfl⟩)) (fun h => by cases h) rfl (O_X6_usersOf l) ?_
  intro av w K h
  match av, h with
  | [.ref o, .int t, .int p, .int v], h =>
    obtain ⟨rfl, ⟨r, hG⟩, d, q, c, A, t', p', v', hS, rfl, ht, rfl, hp, rfl, hv, h⟩ := h
    obtain ⟨G, wi, wl⟩ := w
    subst hG
    try dsimp only at h hS
    have h40 := cs_40 hS
    refine ⟨Nat.le_of_ble_eq_true rfl, fun Jm hs => ?_⟩
    have loop := up_ind (P := fun i => Jm 6 [some (.ref 6), some (.int (nI t')), some (.int (nI p')), some (.int (nI v')), some (.int (nI (fb_ct (fun i => A (3 * i + t') p' == v') i))), some (.int (nI i))] [] (GC ++ r, wi, wl) 0 0) c (fun i hi ih => by
      refine hs 400 6 _ _ _ _ _ ?_
      conv => whnf
      repeat ((first | refine ⟨zG_of _, ?_⟩ | refine ⟨trivial, ?_⟩ | refine ⟨rfl, ?_⟩ | refine ⟨fun hc => absurd hc (by decide), fun _ => ?_⟩ | refine ⟨fun _ => ?_, fun hc => absurd (by decide) hc⟩); conv => whnf)
      try dsimp only
      rw [cs_c hS, ltN (by omega) (by omega)]
      refine ⟨fun hc => ?_, fun hc => ?_⟩
      · obtain rfl : i = c := by omega
        exact ⟨trivial, h⟩
      · have ih := ih hc
        conv => whnf
        repeat ((first | refine ⟨zG_of _, ?_⟩ | refine ⟨trivial, ?_⟩ | refine ⟨rfl, ?_⟩ | refine ⟨fun hc => absurd hc (by decide), fun _ => ?_⟩ | refine ⟨fun _ => ?_, fun hc => absurd (by decide) hc⟩); conv => whnf)
        try dsimp only
        have e := fn_S hS hc ht hp
        have hA := cs_A3 hS (3 * i + t') (by omega) p' hp
        refine ⟨fun hz => ?_, fun hz => ?_⟩
        · have hz := fun q => hz (e.trans q)
          rw [nI_eq2 (by omega) (by omega)] at hz
          rw [ct_f (by simpa using hz)] at ih
          conv => whnf
          repeat ((first | refine ⟨zG_of _, ?_⟩ | refine ⟨trivial, ?_⟩ | refine ⟨rfl, ?_⟩ | refine ⟨fun hc => absurd hc (by decide), fun _ => ?_⟩ | refine ⟨fun _ => ?_, fun hc => absurd (by decide) hc⟩); conv => whnf)
          try dsimp only
          rw [nI_add]
          exact ih
        · have hz := e.symm.trans hz
          rw [nI_eq2 (by omega) (by omega)] at hz
          rw [ct_t (by simpa using hz)] at ih
          conv => whnf
          repeat ((first | refine ⟨zG_of _, ?_⟩ | refine ⟨trivial, ?_⟩ | refine ⟨rfl, ?_⟩ | refine ⟨fun hc => absurd hc (by decide), fun _ => ?_⟩ | refine ⟨fun _ => ?_, fun hc => absurd (by decide) hc⟩); conv => whnf)
          try dsimp only
          rw [nI_add, nI_add]
          exact ih)
    exact hs 400 0 _ _ _ _ _ (loop 0 (Nat.zero_le _))
end
section
/-! the bits of a number counted lane by lane, as the JDK does -/
def vl (w : Nat) (c : Nat → Nat) (n : Nat) : Nat := fb_sm (fun j => c j * 2 ^ (w * j)) n
theorem vl_succ (w : Nat) (c : Nat → Nat) (n : Nat) : vl w c (n + 1) = vl w c n + c n * 2 ^ (w * n) := rfl
theorem vl_lt {w : Nat} {c : Nat → Nat} : ∀ {n : Nat}, (∀ j, j < n → c j < 2 ^ w) → vl w c n < 2 ^ (w * n)
  | 0, _ => by simp [vl, fb_sm]
  | n + 1, h => by
    have ih := vl_lt (n := n) (fun j hj => h j (by omega))
    have h1 : (c n + 1) * 2 ^ (w * n) ≤ 2 ^ w * 2 ^ (w * n) := Nat.mul_le_mul_right _ (h n (by omega))
    rw [Nat.add_mul, Nat.one_mul] at h1
    rw [vl_succ, Nat.mul_succ, Nat.pow_add, Nat.mul_comm (2 ^ (w * n))]
    omega
theorem vl_congr {w : Nat} {c c' : Nat → Nat} : ∀ {n : Nat}, (∀ j, j < n → c j = c' j) → vl w c n = vl w c' n
  | 0, _ => rfl
  | n + 1, h => by rw [vl_succ, vl_succ, vl_congr (fun j hj => h j (by omega)), h n (by omega)]
theorem and_split {a b x y k : Nat} (ha : a < 2 ^ k) (hb : b < 2 ^ k) : (a + x * 2 ^ k) &&& (b + y * 2 ^ k) = (a &&& b) + (x &&& y) * 2 ^ k := by
  have hab : a &&& b < 2 ^ k := Nat.and_lt_two_pow _ hb
  rw [Nat.add_comm a, Nat.add_comm b, Nat.add_comm (a &&& b), Nat.mul_comm x, Nat.mul_comm y, Nat.mul_comm (x &&& y)]
  apply Nat.eq_of_testBit_eq
  intro j
  rw [Nat.testBit_and, Nat.testBit_two_pow_mul_add _ ha, Nat.testBit_two_pow_mul_add _ hb, Nat.testBit_two_pow_mul_add _ hab]
  split
  · rw [Nat.testBit_and]
  · rw [Nat.testBit_and]
theorem vl_and {w : Nat} {c m : Nat → Nat} : ∀ {n : Nat}, (∀ j, j < n → c j < 2 ^ w) → (∀ j, j < n → m j < 2 ^ w) → vl w c n &&& vl w m n = vl w (fun j => c j &&& m j) n
  | 0, _, _ => by simp [vl, fb_sm]
  | n + 1, h, h2 => by
    rw [vl_succ, vl_succ, vl_succ, and_split (vl_lt (fun j hj => h j (by omega))) (vl_lt (fun j hj => h2 j (by omega))), vl_and (fun j hj => h j (by omega)) (fun j hj => h2 j (by omega))]
theorem vl_even (w : Nat) (c : Nat → Nat) : ∀ n, vl w c (2 * n) = vl (2 * w) (fun j => c (2 * j) + c (2 * j + 1) * 2 ^ w) n
  | 0 => rfl
  | n + 1 => by
    rw [Nat.mul_succ, vl_succ, vl_succ, vl_even w c n, vl_succ, Nat.add_mul, Nat.mul_assoc (c (2 * n + 1)), ← Nat.pow_add]
    have e1 : w * (2 * n) = 2 * w * n := by rw [← Nat.mul_assoc, Nat.mul_comm w 2]
    have e2 : w * (2 * n + 1) = w + 2 * w * n := by rw [Nat.mul_succ, e1, Nat.add_comm]
    rw [e1, e2, Nat.add_assoc]
theorem vl_shift (w : Nat) (c : Nat → Nat) : ∀ n, vl w c (n + 1) = c 0 + 2 ^ w * vl w (fun j => c (j + 1)) n
  | 0 => by simp [vl, fb_sm]
  | n + 1 => by
    have e : c (n + 1) * (2 ^ (w * n) * 2 ^ w) = 2 ^ w * (c (n + 1) * 2 ^ (w * n)) := by rw [← Nat.mul_assoc, Nat.mul_comm]
    rw [vl_succ, vl_shift w c n, vl_succ, Nat.mul_add (2 ^ w), Nat.mul_add w, Nat.mul_one, Nat.pow_add, Nat.add_assoc, e]
theorem vl_dv {w : Nat} {c : Nat → Nat} {n : Nat} (h : c 0 < 2 ^ w) (hn : c n = 0) : vl w c n / 2 ^ w = vl w (fun j => c (j + 1)) n := by
  have e : vl w c n = vl w c (n + 1) := by rw [vl_succ, hn, Nat.zero_mul, Nat.add_zero]
  rw [e, vl_shift, Nat.add_mul_div_left _ _ (Nat.two_pow_pos w), Nat.div_eq_of_lt h, Nat.zero_add]
theorem vl_add (w : Nat) (a b : Nat → Nat) (n : Nat) : vl w a n + vl w b n = vl w (fun j => a j + b j) n := by
  unfold vl
  rw [← fb_sm_add]
  congr 1
  funext j
  rw [Nat.add_mul]
theorem vl_sub {w : Nat} {a b e : Nat → Nat} {n : Nat} (h : ∀ j, j < n → a j = e j + b j) : vl w a n - vl w b n = vl w e n := by
  rw [vl_congr h, ← vl_add, Nat.add_sub_cancel]
theorem sw1 {b : Nat → Nat} (h : ∀ j, b j ≤ 1) (n : Nat) : vl 1 b (2 * n) - (vl 1 (fun j => b (j + 1)) (2 * n) &&& vl 2 (fun _ => 1) n) = vl 2 (fun j => b (2 * j) + b (2 * j + 1)) n := by
  rw [vl_even, vl_even, vl_and]
  · refine vl_sub (fun j _ => ?_)
    have h1 := h (2 * j)
    have h2 := h (2 * j + 1)
    have h3 := h (2 * j + 1 + 1)
    rcases (show b (2 * j + 1) = 0 ∨ b (2 * j + 1) = 1 by omega) with e | e <;> rcases (show b (2 * j + 1 + 1) = 0 ∨ b (2 * j + 1 + 1) = 1 by omega) with e2 | e2 <;> simp [e, e2]
  · intro j _
    have h2 := h (2 * j + 1)
    have h3 := h (2 * j + 1 + 1)
    show b (2 * j + 1) + b (2 * j + 1 + 1) * 2 < 4
    omega
  · intro j _
    decide
theorem and3 (n : Nat) : n &&& 3 = n % 4 := Nat.and_two_pow_sub_one_eq_mod n 2
theorem and15 (n : Nat) : n &&& 15 = n % 16 := Nat.and_two_pow_sub_one_eq_mod n 4
theorem and63 (n : Nat) : n &&& 63 = n % 64 := Nat.and_two_pow_sub_one_eq_mod n 6
theorem and127 (n : Nat) : n &&& 127 = n % 128 := Nat.and_two_pow_sub_one_eq_mod n 7
theorem sw2 {s : Nat → Nat} (h : ∀ j, s j ≤ 2) (n : Nat) : (vl 2 s (2 * n) &&& vl 4 (fun _ => 3) n) + (vl 2 (fun j => s (j + 1)) (2 * n) &&& vl 4 (fun _ => 3) n) = vl 4 (fun j => s (2 * j) + s (2 * j + 1)) n := by
  rw [vl_even, vl_even, vl_and, vl_and, vl_add]
  · refine vl_congr (fun j _ => ?_)
    show (s (2 * j) + s (2 * j + 1) * 4 &&& 3) + (s (2 * j + 1) + s (2 * j + 1 + 1) * 4 &&& 3) = _
    have h1 := h (2 * j)
    have h2 := h (2 * j + 1)
    rw [and3, and3]
    omega
  · intro j _
    have h1 := h (2 * j + 1)
    have h2 := h (2 * j + 1 + 1)
    show s (2 * j + 1) + s (2 * j + 1 + 1) * 4 < 16
    omega
  · intro j _
    decide
  · intro j _
    have h1 := h (2 * j)
    have h2 := h (2 * j + 1)
    show s (2 * j) + s (2 * j + 1) * 4 < 16
    omega
  · intro j _
    decide
theorem sw3 {s : Nat → Nat} (h : ∀ j, s j ≤ 4) (n : Nat) : (vl 4 s (2 * n) + vl 4 (fun j => s (j + 1)) (2 * n)) &&& vl 8 (fun _ => 15) n = vl 8 (fun j => s (2 * j) + s (2 * j + 1)) n := by
  rw [vl_add, vl_even, vl_and]
  · refine vl_congr (fun j _ => ?_)
    show (s (2 * j) + s (2 * j + 1) + (s (2 * j + 1) + s (2 * j + 1 + 1)) * 16 &&& 15) = _
    have h1 := h (2 * j)
    have h2 := h (2 * j + 1)
    rw [and15]
    omega
  · intro j _
    have h1 := h (2 * j)
    have h2 := h (2 * j + 1)
    have h3 := h (2 * j + 1 + 1)
    show s (2 * j) + s (2 * j + 1) + (s (2 * j + 1) + s (2 * j + 1 + 1)) * 16 < 256
    omega
  · intro j _
    decide
/-- bits as digits -/
def bd (f : Nat → Bool) (n : Nat) : Nat → Nat := fun j => if j < n ∧ f j = true then 1 else 0
theorem bd_le (f : Nat → Bool) (n j : Nat) : bd f n j ≤ 1 := by
  unfold bd
  split <;> omega
theorem bd_out (f : Nat → Bool) {n j : Nat} (h : n ≤ j) : bd f n j = 0 := if_neg (fun q => by omega)
theorem bs_vl (f : Nat → Bool) (n : Nat) : ∀ m, m ≤ n → bs f m = vl 1 (bd f n) m
  | 0, _ => rfl
  | m + 1, h => by
    rw [vl_succ, ← bs_vl f n m (by omega), bs, Nat.one_mul]
    unfold bd
    by_cases q : f m = true
    · rw [if_pos q, if_pos ⟨by omega, q⟩, Nat.one_mul]
    · rw [if_neg q, if_neg (fun z => q z.2), Nat.zero_mul]
theorem bs_ext (f : Nat → Bool) {n : Nat} : ∀ k, bs f n = vl 1 (bd f n) (n + k)
  | 0 => bs_vl f n n (Nat.le_refl n)
  | k + 1 => by
    rw [← Nat.add_assoc, vl_succ, ← bs_ext f k, bd_out f (by omega), Nat.zero_mul, Nat.add_zero]
theorem ct_bd (f : Nat → Bool) (n : Nat) : ∀ m, m ≤ n → fb_ct f m = fb_sm (bd f n) m
  | 0, _ => rfl
  | m + 1, h => by
    rw [fb_ct_succ, fb_sm_succ, ct_bd f n m (by omega)]
    unfold bd
    by_cases q : f m = true
    · rw [if_pos q, if_pos ⟨by omega, q⟩]
    · rw [if_neg q, if_neg (fun z => q z.2)]
theorem ct_bde (f : Nat → Bool) (n : Nat) : ∀ k, fb_ct f n = fb_sm (bd f n) (n + k)
  | 0 => ct_bd f n n (Nat.le_refl n)
  | k + 1 => by
    rw [← Nat.add_assoc, fb_sm_succ, ← ct_bde f n k, bd_out f (by omega), Nat.add_zero]
/-- lanes of eight bits, sixteen -/
theorem sw_lanes {b : Nat → Nat} (h : ∀ j, b j ≤ 1) (n : Nat) (h0 : ∀ j, 8 * n ≤ j → b j = 0) {x y z : Nat} (hx : x = vl 1 b (8 * n)) (hy : y = x - (x / 2 &&& vl 2 (fun _ => 1) (4 * n))) (hz : z = (y &&& vl 4 (fun _ => 3) (2 * n)) + (y / 4 &&& vl 4 (fun _ => 3) (2 * n))) :
    y ≤ x ∧ (z + z / 16) &&& vl 8 (fun _ => 15) n = vl 8 (fun j => b (8 * j) + b (8 * j + 1) + (b (8 * j + 2) + b (8 * j + 3)) + (b (8 * j + 4) + b (8 * j + 5) + (b (8 * j + 6) + b (8 * j + 7)))) n := by
  have a1 : x / 2 = vl 1 (fun j => b (j + 1)) (8 * n) := by
    rw [hx]
    exact vl_dv (w := 1) (by have := h 0; omega) (h0 _ (Nat.le_refl _))
  have a2 : y = vl 2 (fun j => b (2 * j) + b (2 * j + 1)) (4 * n) := by
    rw [hy, a1, hx, show 8 * n = 2 * (4 * n) by omega]
    exact sw1 h (4 * n)
  have a3 : y / 4 = vl 2 (fun j => b (2 * (j + 1)) + b (2 * (j + 1) + 1)) (4 * n) := by
    rw [a2]
    refine vl_dv (w := 2) (c := fun j => b (2 * j) + b (2 * j + 1)) ?_ ?_
    · have h1 := h (2 * 0)
      have h2 := h (2 * 0 + 1)
      show b (2 * 0) + b (2 * 0 + 1) < 4
      omega
    · show b (2 * (4 * n)) + b (2 * (4 * n) + 1) = 0
      rw [h0 _ (by omega), h0 _ (by omega)]
  have a4 : z = vl 4 (fun j => b (2 * (2 * j)) + b (2 * (2 * j) + 1) + (b (2 * (2 * j + 1)) + b (2 * (2 * j + 1) + 1))) (2 * n) := by
    rw [hz, a3, a2, show 4 * n = 2 * (2 * n) by omega]
    exact sw2 (s := fun j => b (2 * j) + b (2 * j + 1)) (fun j => by
      have h1 := h (2 * j)
      have h2 := h (2 * j + 1)
      show b (2 * j) + b (2 * j + 1) ≤ 2
      omega) (2 * n)
  have four : ∀ j, b (2 * (2 * j)) + b (2 * (2 * j) + 1) + (b (2 * (2 * j + 1)) + b (2 * (2 * j + 1) + 1)) ≤ 4 := fun j => by
    have h1 := h (2 * (2 * j))
    have h2 := h (2 * (2 * j) + 1)
    have h3 := h (2 * (2 * j + 1))
    have h4 := h (2 * (2 * j + 1) + 1)
    omega
  have a5 : z / 16 = vl 4 (fun j => b (2 * (2 * (j + 1))) + b (2 * (2 * (j + 1)) + 1) + (b (2 * (2 * (j + 1) + 1)) + b (2 * (2 * (j + 1) + 1) + 1))) (2 * n) := by
    rw [a4]
    refine vl_dv (w := 4) (c := fun j => b (2 * (2 * j)) + b (2 * (2 * j) + 1) + (b (2 * (2 * j + 1)) + b (2 * (2 * j + 1) + 1))) ?_ ?_
    · have := four 0
      show _ < 16
      omega
    · show b (2 * (2 * (2 * n))) + b (2 * (2 * (2 * n)) + 1) + (b (2 * (2 * (2 * n) + 1)) + b (2 * (2 * (2 * n) + 1) + 1)) = 0
      rw [h0 _ (by omega), h0 _ (by omega), h0 _ (by omega), h0 _ (by omega)]
  refine ⟨by omega, ?_⟩
  rw [a5, a4, sw3 (s := fun j => b (2 * (2 * j)) + b (2 * (2 * j) + 1) + (b (2 * (2 * j + 1)) + b (2 * (2 * j + 1) + 1))) four]
  refine vl_congr (fun j _ => ?_)
  show b (2 * (2 * (2 * j))) + b (2 * (2 * (2 * j)) + 1) + (b (2 * (2 * (2 * j) + 1)) + b (2 * (2 * (2 * j) + 1) + 1)) + (b (2 * (2 * (2 * j + 1))) + b (2 * (2 * (2 * j + 1)) + 1) + (b (2 * (2 * (2 * j + 1) + 1)) + b (2 * (2 * (2 * j + 1) + 1) + 1))) = _
  rw [show 2 * (2 * (2 * j)) = 8 * j by omega, show 2 * (2 * (2 * j) + 1) = 8 * j + 2 by omega, show 2 * (2 * (2 * j + 1)) = 8 * j + 4 by omega, show 2 * (2 * (2 * j + 1) + 1) = 8 * j + 6 by omega]
theorem vl_dk {w : Nat} {c : Nat → Nat} {n : Nat} (h : ∀ j, c j < 2 ^ w) (h0 : ∀ j, n ≤ j → c j = 0) : ∀ k, vl w c n / 2 ^ (w * k) = vl w (fun j => c (j + k)) n
  | 0 => by simp
  | k + 1 => by
    rw [Nat.mul_succ, Nat.pow_add, ← Nat.div_div_eq_div_mul, vl_dk h h0 k, vl_dv (c := fun j => c (j + k)) (h _) (h0 _ (by omega))]
    refine vl_congr (fun j _ => ?_)
    rw [show j + 1 + k = j + (k + 1) by omega]
theorem sw_f32 {s : Nat → Nat} {u v : Nat} (h : ∀ j, s j ≤ 8) (h0 : ∀ j, 4 ≤ j → s j = 0) (hu : u = vl 8 s 4) (hv : v = u + u / 256) : (v + v / 65536) % 64 = s 0 + s 1 + s 2 + s 3 := by
  have e1 : v = vl 8 (fun j => s j + s (j + 1)) 4 := by
    rw [hv, hu, show (256 : Nat) = 2 ^ (8 * 1) from rfl, vl_dk (fun j => by have := h j; omega) h0 1, vl_add]
  have e2 : v / 65536 = vl 8 (fun j => s (j + 2) + s (j + 2 + 1)) 4 := by
    rw [e1, show (65536 : Nat) = 2 ^ (8 * 2) from rfl, vl_dk (c := fun j => s j + s (j + 1)) (fun j => by have := h j; have := h (j + 1); show _ < 256; omega) (fun j hj => by show _ + _ = 0; rw [h0 _ hj, h0 _ (by omega)]) 2]
  rw [e2, e1, vl_add, vl_shift]
  have := h 0; have := h 1; have := h 2; have := h 3
  show (s 0 + s 1 + (s 2 + s 3) + 256 * _) % 64 = _
  omega
theorem sw_f64 {s : Nat → Nat} {u v r : Nat} (h : ∀ j, s j ≤ 8) (h0 : ∀ j, 8 ≤ j → s j = 0) (hu : u = vl 8 s 8) (hv : v = u + u / 256) (hr : r = v + v / 65536) : (r + r / 4294967296) % 128 = s 0 + s 1 + s 2 + s 3 + s 4 + s 5 + s 6 + s 7 := by
  have e1 : v = vl 8 (fun j => s j + s (j + 1)) 8 := by
    rw [hv, hu, show (256 : Nat) = 2 ^ (8 * 1) from rfl, vl_dk (fun j => by have := h j; omega) h0 1, vl_add]
  have e2 : r = vl 8 (fun j => s j + s (j + 1) + (s (j + 2) + s (j + 2 + 1))) 8 := by
    rw [hr, e1, show (65536 : Nat) = 2 ^ (8 * 2) from rfl, vl_dk (c := fun j => s j + s (j + 1)) (fun j => by have := h j; have := h (j + 1); show _ < 256; omega) (fun j hj => by show _ + _ = 0; rw [h0 _ hj, h0 _ (by omega)]) 2, vl_add]
  have e3 : r / 4294967296 = vl 8 (fun j => s (j + 4) + s (j + 4 + 1) + (s (j + 4 + 2) + s (j + 4 + 2 + 1))) 8 := by
    rw [e2, show (4294967296 : Nat) = 2 ^ (8 * 4) from rfl, vl_dk (c := fun j => s j + s (j + 1) + (s (j + 2) + s (j + 2 + 1))) (fun j => by have := h j; have := h (j + 1); have := h (j + 2); have := h (j + 2 + 1); show _ < 256; omega) (fun j hj => by show _ + _ + (_ + _) = 0; rw [h0 _ hj, h0 _ (by omega), h0 _ (by omega), h0 _ (by omega)]) 4]
  rw [e3, e2, vl_add, vl_shift]
  have := h 0; have := h 1; have := h 2; have := h 3; have := h 4; have := h 5; have := h 6; have := h 7
  show (s 0 + s 1 + (s 2 + s 3) + (s 4 + s 5 + (s 6 + s 7)) + 256 * _) % 128 = _
  omega
theorem sw_le {b : Nat → Nat} (h : ∀ j, b j ≤ 1) (j : Nat) : b (8 * j) + b (8 * j + 1) + (b (8 * j + 2) + b (8 * j + 3)) + (b (8 * j + 4) + b (8 * j + 5) + (b (8 * j + 6) + b (8 * j + 7))) ≤ 8 := by
  have h0 := h (8 * j); have h1 := h (8 * j + 1); have h2 := h (8 * j + 2); have h3 := h (8 * j + 3)
  have h4 := h (8 * j + 4); have h5 := h (8 * j + 5); have h6 := h (8 * j + 6); have h7 := h (8 * j + 7)
  omega
theorem sm_8 (b : Nat → Nat) : ∀ n, fb_sm b (8 * n) = fb_sm (fun j => b (8 * j) + b (8 * j + 1) + (b (8 * j + 2) + b (8 * j + 3)) + (b (8 * j + 4) + b (8 * j + 5) + (b (8 * j + 6) + b (8 * j + 7)))) n
  | 0 => rfl
  | n + 1 => by
    rw [show 8 * (n + 1) = 8 * n + 1 + 1 + 1 + 1 + 1 + 1 + 1 + 1 by omega, fb_sm_succ, fb_sm_succ, fb_sm_succ, fb_sm_succ, fb_sm_succ, fb_sm_succ, fb_sm_succ, fb_sm_succ, sm_8 b n, fb_sm_succ]
    omega
theorem sw_32 (f : Nat → Bool) {n x y z u v : Nat} (hn : n ≤ 32) (hx : x = bs f n) (hy : y = x - (x / 2 &&& 1431655765)) (hz : z = (y &&& 858993459) + (y / 4 &&& 858993459)) (hu : u = (z + z / 16) &&& 252645135) (hv : v = u + u / 256) : (v + v / 65536) &&& 63 = fb_ct f n := by
  have hb := bd_le f n
  have e := bs_ext f (n := n) (32 - n)
  rw [show n + (32 - n) = 8 * 4 by omega] at e
  have h := sw_lanes hb 4 (fun j hj => bd_out f (by omega)) (hx.trans e) (y := y) (z := z) (by rw [hy]; congr 2) (by rw [hz]; congr 2)
  have hc := ct_bde f n (32 - n)
  rw [show n + (32 - n) = 8 * 4 by omega, sm_8] at hc
  have hm : 252645135 = vl 8 (fun _ => 15) 4 := by decide
  rw [hm, h.2] at hu
  have g := sw_le hb
  rw [and63, hc]
  have k := sw_f32 g (fun j hj => by show _ + _ + (_ + _) + (_ + _ + (_ + _)) = 0; simp only [bd_out f (show n ≤ 8 * j by omega), bd_out f (show n ≤ 8 * j + 1 by omega), bd_out f (show n ≤ 8 * j + 2 by omega), bd_out f (show n ≤ 8 * j + 3 by omega), bd_out f (show n ≤ 8 * j + 4 by omega), bd_out f (show n ≤ 8 * j + 5 by omega), bd_out f (show n ≤ 8 * j + 6 by omega), bd_out f (show n ≤ 8 * j + 7 by omega)]) hu hv
  rw [k]
  simp only [fb_sm, Nat.zero_add]
theorem sw_64 (f : Nat → Bool) {n x y z u v r : Nat} (hn : n ≤ 64) (hx : x = bs f n) (hy : y = x - (x / 2 &&& 6148914691236517205)) (hz : z = (y &&& 3689348814741910323) + (y / 4 &&& 3689348814741910323)) (hu : u = (z + z / 16) &&& 1085102592571150095) (hv : v = u + u / 256) (hr : r = v + v / 65536) : (r + r / 4294967296) &&& 127 = fb_ct f n := by
  have hb := bd_le f n
  have e := bs_ext f (n := n) (64 - n)
  rw [show n + (64 - n) = 8 * 8 by omega] at e
  have h := sw_lanes hb 8 (fun j hj => bd_out f (by omega)) (hx.trans e) (y := y) (z := z) (by rw [hy]; congr 2) (by rw [hz]; congr 2)
  have hc := ct_bde f n (64 - n)
  rw [show n + (64 - n) = 8 * 8 by omega, sm_8] at hc
  have hm : 1085102592571150095 = vl 8 (fun _ => 15) 8 := by decide
  rw [hm, h.2] at hu
  have g := sw_le hb
  rw [and127, hc]
  have k := sw_f64 g (fun j hj => by show _ + _ + (_ + _) + (_ + _ + (_ + _)) = 0; simp only [bd_out f (show n ≤ 8 * j by omega), bd_out f (show n ≤ 8 * j + 1 by omega), bd_out f (show n ≤ 8 * j + 2 by omega), bd_out f (show n ≤ 8 * j + 3 by omega), bd_out f (show n ≤ 8 * j + 4 by omega), bd_out f (show n ≤ 8 * j + 5 by omega), bd_out f (show n ≤ 8 * j + 6 by omega), bd_out f (show n ≤ 8 * j + 7 by omega)]) hu hv hr
  rw [k]
  simp only [fb_sm, Nat.zero_add]
end
section
/-! the JDK's counts of bits -/
theorem z_umod : ∀ k, k < 32 → (((nI k).toUInt32 &&& Int32.toUInt32 31).toBitVec % 32).toNat = k := by decide
theorem z_shrN {n k : Nat} (h : n < 2 ^ 32) (hk : k < 32) : z_shr (nI n) (nI k) = nI (n / 2 ^ k) := pk_ushrN h _ k (z_umod k hk)
theorem z_lshrN {n k : Nat} (h : n < 2 ^ 64) (hk : k < 64) : z_lshr (lN n) (nI k) = lN (n / 2 ^ k) := wb_shr h hk
def bc1 (x : Int32) : Int32 := x - (z_shr x (nI 1) &&& nI 1431655765)
def bc2 (x : Int32) : Int32 := (x &&& nI 858993459) + (z_shr x (nI 2) &&& nI 858993459)
def bc3 (x : Int32) : Int32 := (x + z_shr x (nI 4)) &&& nI 252645135
def bc4 (x : Int32) : Int32 := x + z_shr x (nI 8)
def bc5 (x : Int32) : Int32 := x + z_shr x (nI 16)
def bcF (x : Int32) : Int32 := bc5 (bc4 (bc3 (bc2 (bc1 x)))) &&& nI 63
def sp_J6_bitCount_0f7a4 : zSp := fun av w K => match av with
  | [.int x] => K (some (.int (bcF x))) w
  | _ => False
def rm_J6_bitCount_0f7a4 : Room := { frames := 0, cells := 0, slots := 0, locals := 0 }
def M_J6_bitCount_0f7a4 : zM := (k_J6_bitCount_0f7a4, [], [], ([(265, 1431655765), (266, 858993459), (267, 252645135)], [], []), [], [], 1, false, (false, 0, fun _ => 0), (0, 0))
theorem O_J6_bitCount_0f7a4 (l : Launch) : z_OK l RJ6 cJ6_bitCount_0f7a4 (headSpec (.code yJ6_bitCount_0f7a4 cJ6_bitCount_0f7a4 1 (some .int) :: zTT) rm_J6_bitCount_0f7a4).room M_J6_bitCount_0f7a4 := ⟨ok_J6_bitCount_0f7a4, fun _ h => absurd h List.not_mem_nil, fun _ h => absurd h List.not_mem_nil, List.forall_mem_cons.mpr ⟨wt_629, List.forall_mem_cons.mpr ⟨wt_630, List.forall_mem_cons.mpr ⟨wt_631, fun _ h => absurd h List.not_mem_nil⟩⟩⟩, fun _ h => absurd h List.not_mem_nil, fun _ h => absurd h List.not_mem_nil, fun _ h => absurd h List.not_mem_nil, rfl, rfl⟩
theorem c_J6_bitCount_0f7a4 (l : Launch) : z_CS l yJ6_bitCount_0f7a4 cJ6_bitCount_0f7a4 1 (some .int) rm_J6_bitCount_0f7a4 sp_J6_bitCount_0f7a4 := by
  refine z_methF (by decide +kernel) (Or.inr (Or.inl ⟨rfl, rfl⟩)) (fun h => by cases h) rfl (O_J6_bitCount_0f7a4 l) ?_
  intro av w K h
  match av, h with
  | [.int x], h => exact ⟨Nat.le_of_ble_eq_true rfl, fun Jm hs => hs 400 0 _ _ _ _ _ ⟨trivial, h⟩⟩
def bd1 (x : Int64) : Int64 := x - (z_lshr x (nI 1) &&& lN 6148914691236517205)
def bd2 (x : Int64) : Int64 := (x &&& lN 3689348814741910323) + (z_lshr x (nI 2) &&& lN 3689348814741910323)
def bd3 (x : Int64) : Int64 := (x + z_lshr x (nI 4)) &&& lN 1085102592571150095
def bd4 (x : Int64) : Int64 := x + z_lshr x (nI 8)
def bd5 (x : Int64) : Int64 := x + z_lshr x (nI 16)
def bd6 (x : Int64) : Int64 := x + z_lshr x (nI 32)
def bcL (x : Int64) : Int32 := (bd6 (bd5 (bd4 (bd3 (bd2 (bd1 x)))))).toInt32 &&& nI 127
def sp_J13_bitCount_95d88 : zSp := fun av w K => match av with
  | [.long x] => K (some (.int (bcL x))) w
  | _ => False
def rm_J13_bitCount_95d88 : Room := { frames := 0, cells := 0, slots := 0, locals := 0 }
def M_J13_bitCount_95d88 : zM := (k_J13_bitCount_95d88, [], [], ([], [(314, lN 6148914691236517205), (316, lN 3689348814741910323), (318, lN 1085102592571150095)], []), [], [], 1, false, (false, 0, fun _ => 0), (0, 0))
theorem O_J13_bitCount_95d88 (l : Launch) : z_OK l RJ13 cJ13_bitCount_95d88 (headSpec (.code yJ13_bitCount_95d88 cJ13_bitCount_95d88 2 (some .int) :: zTT) rm_J13_bitCount_95d88).room M_J13_bitCount_95d88 := ⟨ok_J13_bitCount_95d88, fun _ h => absurd h List.not_mem_nil, fun _ h => absurd h List.not_mem_nil, fun _ h => absurd h List.not_mem_nil, List.forall_mem_cons.mpr ⟨wt_925, List.forall_mem_cons.mpr ⟨wt_926, List.forall_mem_cons.mpr ⟨wt_927, fun _ h => absurd h List.not_mem_nil⟩⟩⟩, fun _ h => absurd h List.not_mem_nil, fun _ h => absurd h List.not_mem_nil, rfl, rfl⟩
theorem c_J13_bitCount_95d88 (l : Launch) : z_CS l yJ13_bitCount_95d88 cJ13_bitCount_95d88 2 (some .int) rm_J13_bitCount_95d88 sp_J13_bitCount_95d88 := by
  refine z_methF (by decide +kernel) (Or.inr (Or.inl ⟨rfl, rfl⟩)) (fun h => by cases h) rfl (O_J13_bitCount_95d88 l) ?_
  intro av w K h
  match av, h with
  | [.long x], h => exact ⟨Nat.le_of_ble_eq_true rfl, fun Jm hs => hs 400 0 _ _ _ _ _ ⟨trivial, h⟩⟩
theorem and_leL (a b : Nat) : a &&& b ≤ a := Nat.and_le_left
theorem bcF_N (f : Nat → Bool) {n : Nat} (hn : n ≤ 20) : bcF (nI (bs f n)) = nI (fb_ct f n) := by
  have hl : bs f n < 2 ^ 20 := Nat.lt_of_lt_of_le (bs_lt f n) (Nat.pow_le_pow_right (by decide) hn)
  generalize hx : bs f n = x at *
  have l1 := and_leL (x / 2) 1431655765
  have e1 : bc1 (nI x) = nI (x - (x / 2 &&& 1431655765)) := by
    unfold bc1
    rw [z_shrN (by omega) (by decide), fa_and, show 2 ^ 1 = 2 from rfl, pk_sub (by omega)]
  generalize hy : x - (x / 2 &&& 1431655765) = y at *
  have l2 := and_leL y 858993459
  have l3 := and_leL (y / 4) 858993459
  have e2 : bc2 (nI y) = nI ((y &&& 858993459) + (y / 4 &&& 858993459)) := by
    unfold bc2
    rw [z_shrN (by omega) (by decide), fa_and, fa_and, show 2 ^ 2 = 4 from rfl, nI_add]
  generalize hz : (y &&& 858993459) + (y / 4 &&& 858993459) = z at *
  have l4 := and_leL (z + z / 16) 252645135
  have e3 : bc3 (nI z) = nI ((z + z / 16) &&& 252645135) := by
    unfold bc3
    rw [z_shrN (by omega) (by decide), show 2 ^ 4 = 16 from rfl, nI_add, fa_and]
  generalize hu : (z + z / 16) &&& 252645135 = u at *
  have e4 : bc4 (nI u) = nI (u + u / 256) := by
    unfold bc4
    rw [z_shrN (by omega) (by decide), show 2 ^ 8 = 256 from rfl, nI_add]
  generalize hv : u + u / 256 = v at *
  have e5 : bc5 (nI v) = nI (v + v / 65536) := by
    unfold bc5
    rw [z_shrN (by omega) (by decide), show 2 ^ 16 = 65536 from rfl, nI_add]
  unfold bcF
  rw [e1, e2, e3, e4, e5, fa_and, sw_32 f (by omega) hx.symm hy.symm hz.symm hu.symm hv.symm]
theorem bcL_N (f : Nat → Bool) {n : Nat} (hn : n ≤ 60) : bcL (lN (bs f n)) = nI (fb_ct f n) := by
  have hl : bs f n < 2 ^ 60 := Nat.lt_of_lt_of_le (bs_lt f n) (Nat.pow_le_pow_right (by decide) hn)
  generalize hx : bs f n = x at *
  have l1 := and_leL (x / 2) 6148914691236517205
  have e1 : bd1 (lN x) = lN (x - (x / 2 &&& 6148914691236517205)) := by
    unfold bd1
    rw [z_lshrN (by omega) (by decide), fb_andL, show 2 ^ 1 = 2 from rfl, lN_sub (by omega)]
  generalize hy : x - (x / 2 &&& 6148914691236517205) = y at *
  have l2 := and_leL y 3689348814741910323
  have l3 := and_leL (y / 4) 3689348814741910323
  have e2 : bd2 (lN y) = lN ((y &&& 3689348814741910323) + (y / 4 &&& 3689348814741910323)) := by
    unfold bd2
    rw [z_lshrN (by omega) (by decide), fb_andL, fb_andL, show 2 ^ 2 = 4 from rfl, lN_add]
  generalize hz : (y &&& 3689348814741910323) + (y / 4 &&& 3689348814741910323) = z at *
  have l4 := and_leL (z + z / 16) 1085102592571150095
  have e3 : bd3 (lN z) = lN ((z + z / 16) &&& 1085102592571150095) := by
    unfold bd3
    rw [z_lshrN (by omega) (by decide), show 2 ^ 4 = 16 from rfl, lN_add, fb_andL]
  generalize hu : (z + z / 16) &&& 1085102592571150095 = u at *
  have e4 : bd4 (lN u) = lN (u + u / 256) := by
    unfold bd4
    rw [z_lshrN (by omega) (by decide), show 2 ^ 8 = 256 from rfl, lN_add]
  generalize hv : u + u / 256 = v at *
  have e5 : bd5 (lN v) = lN (v + v / 65536) := by
    unfold bd5
    rw [z_lshrN (by omega) (by decide), show 2 ^ 16 = 65536 from rfl, lN_add]
  generalize hr : v + v / 65536 = r at *
  have e6 : bd6 (lN r) = lN (r + r / 4294967296) := by
    unfold bd6
    rw [z_lshrN (by omega) (by decide), show 2 ^ 32 = 4294967296 from rfl, lN_add]
  unfold bcL
  rw [e1, e2, e3, e4, e5, e6, lN_i, fa_and, sw_64 f (by omega) hx.symm hy.symm hz.symm hu.symm hv.symm hr.symm]
/-- how many numbers of a form aren't 0 -/
def nzc (a : Nat → Nat) : Nat := fb_ct (fun p => a p != 0) 9
theorem bc_pk {a : Nat → Nat} (ha : ∀ p, p < 9 → a p < 3) : bcF (pk a) = nI (nzc a) := by
  unfold pk pN
  rw [bcF_N _ (by decide)]
  congr 1
  rw [show (18 : Nat) = 9 + 9 from rfl, fb_ct_split]
  have e1 : fb_ct (fun j => if j < 9 then a j == 1 else a (j - 9) == 2) 9 = fb_ct (fun p => a p == 1) 9 := fb_ct_cong (fun k hk => by simp [hk])
  have e2 : fb_ct (fun k => (fun j => if j < 9 then a j == 1 else a (j - 9) == 2) (9 + k)) 9 = fb_ct (fun p => a p == 2) 9 := fb_ct_cong (fun k hk => by simp [show ¬ 9 + k < 9 by omega, show 9 + k - 9 = k by omega])
  rw [e1, e2, ← fb_ct_or (fun k hk h => by
    have h1 := h.1
    have h2 := h.2
    simp only [beq_iff_eq] at h1 h2
    omega)]
  exact fb_ct_cong (fun k hk => by
    have := ha k hk
    rcases (show a k = 0 ∨ a k = 1 ∨ a k = 2 by omega) with r | r | r <;> simp [r])
theorem bs_or1 {f : Nat → Bool} {n k : Nat} (h : k < n) : bs (fun j => f j || j == k) n = bs f n ||| 2 ^ k := by
  apply Nat.eq_of_testBit_eq
  intro j
  rw [fb_bit_set, bs_bit, bs_bit]
  by_cases q : j = k
  · subst q; simp [h]
  · have e : (j == k) = false := by simpa using q
    rw [e]
    simp [q]
theorem bs_orf (f g : Nat → Bool) (n : Nat) : bs f n ||| bs g n = bs (fun j => f j || g j) n := by
  apply Nat.eq_of_testBit_eq
  intro j
  rw [Nat.testBit_or, bs_bit, bs_bit, bs_bit]
  by_cases q : j < n <;> simp [q]
theorem bit_N {k : Nat} (h : k < 64) : bitF (nI k) = lN (2 ^ k) := by
  have := wb_shl 1 h
  rw [Nat.one_mul] at this
  exact this
theorem bs_t {f : Nat → Bool} {n : Nat} (h : f n = true) : bs f (n + 1) = bs f n ||| 2 ^ n := by
  have hl := bs_lt f n
  rw [bs, if_pos h]
  have := Nat.two_pow_add_eq_or_of_lt hl 1
  rw [Nat.mul_one] at this
  rw [Nat.add_comm, this, Nat.or_comm]
theorem bs_f {f : Nat → Bool} {n : Nat} (h : ¬ f n = true) : bs f (n + 1) = bs f n := by
  rw [bs, if_neg h, Nat.add_zero]
/-- the places that a form has, as bits -/
theorem fplaces_pk {a : Nat → Nat} (ha : ∀ p, p < 9 → a p < 3) : fplaces (pk a) = nI (bs (fun p => a p != 0) 9) := by
  unfold fplaces pk
  have hl := pN_lt a
  rw [z_sarN (by omega) (by decide), fa_or, fa_and]
  congr 1
  apply Nat.eq_of_testBit_eq
  intro j
  rw [bs_bit, Nat.testBit_and, Nat.testBit_or, show (511 : Nat) = 2 ^ 9 - 1 from rfl, Nat.testBit_two_pow_sub_one, show pN a / 2 ^ 9 = pN a / 512 from rfl, tb_hi]
  by_cases h : j < 9
  · rw [pN_low a h]
    have := ha j h
    rcases (show a j = 0 ∨ a j = 1 ∨ a j = 2 by omega) with r | r | r <;> simp [r, h]
  · simp [h]
end
section
/-! more that is counted over a scheme's products -/
theorem z_remN {a d : Nat} (ha : a < 2 ^ 31) (h0 : 0 < d) (hd : d < 2 ^ 31) : z_rem (nI a) (nI d) = nI (a % d) := pk_rem ha h0 hd
theorem eq0N {a : Nat} (h : a < 2 ^ 31) : nI a = nI 0 ↔ a = 0 := nI_eq h (by decide)
def mtB (A : Nat → Nat → Nat) (x y z i : Nat) : Bool := A (3 * i) x != 0 && A (3 * i + 1) y != 0 && A (3 * i + 2) z != 0
def gvN (A : Nat → Nat → Nat) (c x y z : Nat) : Nat := fb_sm (fun i => A (3 * i) x * A (3 * i + 1) y * A (3 * i + 2) z) c
def lkB (q : Nat) (A : Nat → Nat → Nat) (t i k : Nat) : Bool := likeN q (A (3 * i + t)) (A (3 * k + t)) != 0
def flN (q : Nat) (A : Nat → Nat → Nat) (t c : Nat) : Nat := fb_sm (fun i => 2 * fb_ct (lkB q A t i) i) c
section
variable {wi : Nat → Nat → Int32} {o : Nat} {d : Nat → Nat} {q c : Nat} {A : Nat → Nat → Nat}
theorem row_S (h : CS wi 6 d q c A) {t p : Nat} (ht : t < 3) (hp : p < 9) : rowOfF wi 6 (nI t) (nI p) = nI (p / d ((t + 1) % 3)) := by
  have hd := cs_d h _ (mod3_lt (t + 1))
  unfold rowOfF
  rw [col_S h ht, if_pos (nI_lt (by omega) (by omega)), pk_div (by omega) (by omega) (by omega)]
theorem colO_S (h : CS wi 6 d q c A) {t p : Nat} (ht : t < 3) (hp : p < 9) : colOfF wi 6 (nI t) (nI p) = nI (p % d ((t + 1) % 3)) := by
  have hd := cs_d h _ (mod3_lt (t + 1))
  unfold colOfF
  rw [col_S h ht, if_pos (nI_lt (by omega) (by omega)), z_remN (by omega) (by omega) (by omega)]
end
/-- what is needed at three places -/
def ndB (d : Nat → Nat) (x y z : Nat) : Bool := x % d 1 == y / d 2 && y % d 2 == z / d 0 && z % d 0 == x / d 1
def ndN (d : Nat → Nat) (x y z : Nat) : Nat := if ndB d x y z = true then 1 else 0
theorem need_S {wi : Nat → Nat → Int32} {d : Nat → Nat} {q c : Nat} {A : Nat → Nat → Nat} (h : CS wi 6 d q c A) {x y z : Nat} (hx : x < 9) (hy : y < 9) (hz : z < 9) : needF wi (nI x) (nI y) (nI z) = nI (ndN d x y z) := by
  have d0 := cs_d h 0 (by decide)
  have d1 := cs_d h 1 (by decide)
  have d2 := cs_d h 2 (by decide)
  have e0 : colOfF wi 6 (nI 0) (nI x) = nI (x % d 1) := colO_S h (by decide) hx
  have e1 : rowOfF wi 6 (nI 1) (nI y) = nI (y / d 2) := row_S h (by decide) hy
  have e2 : colOfF wi 6 (nI 1) (nI y) = nI (y % d 2) := colO_S h (by decide) hy
  have e3 : rowOfF wi 6 (nI 2) (nI z) = nI (z / d 0) := row_S h (by decide) hz
  have e4 : colOfF wi 6 (nI 2) (nI z) = nI (z % d 0) := colO_S h (by decide) hz
  have e5 : rowOfF wi 6 (nI 0) (nI x) = nI (x / d 1) := row_S h (by decide) hx
  have l0 : x % d 1 < 3 := Nat.lt_of_lt_of_le (Nat.mod_lt _ (by omega)) d1.2
  have l1 : y % d 2 < 3 := Nat.lt_of_lt_of_le (Nat.mod_lt _ (by omega)) d2.2
  have l2 : z % d 0 < 3 := Nat.lt_of_lt_of_le (Nat.mod_lt _ (by omega)) d0.2
  have k0 := Nat.div_le_self y (d 2)
  have k1 := Nat.div_le_self z (d 0)
  have k2 := Nat.div_le_self x (d 1)
  unfold needF ndN ndB bI
  have p0 := nI_eq (a := x % d 1) (b := y / d 2) (by omega) (by omega)
  have p1 := nI_eq (a := y % d 2) (b := z / d 0) (by omega) (by omega)
  have p2 := nI_eq (a := z % d 0) (b := x / d 1) (by omega) (by omega)
  simp only [e0, e1, e2, e3, e4, e5, p0, p1, p2, Bool.and_eq_true, beq_iff_eq, and_assoc]
  split
  · rfl
  · rfl
def sp_X6_meetAt : zSp := fun av w K => match av with
  | [.ref o, .int x, .int y, .int z] => o = 6 ∧ zG w.1 ∧ ∃ d q c A x' y' z', CS w.2.1 6 d q c A ∧ x = nI x' ∧ x' < 9 ∧ y = nI y' ∧ y' < 9 ∧ z = nI z' ∧ z' < 9 ∧ K (some (.int (nI (fb_ct (mtB A x' y' z') c)))) w
  | _ => False
def rm_X6_meetAt : Room := { frames := 2, cells := 0, slots := 0, locals := 43 }
def M_X6_meetAt : zM := (k_X6_meetAt, f_X6, [(59, 4, 5, 3, 0, 0, sp_X6_formAt), (94, 0, 0, 2, 0, 0, sp_X2_numberAt)], ([], [], []), [], [(6, [true, true, true, true, true, true])], 1, false, (false, 0, fun _ => 0), (0, 0))
theorem ca_X6_meetAt_0 (l : Launch) : z_cok l RX6 (headSpec (.code yX6_meetAt cX6_meetAt 6 (some .int) :: zTT) rm_X6_meetAt).room (59, 4, 5, 3, 0, 0, sp_X6_formAt) := z_ca4 (c_X6_formAt l) mb_X6_formAt ⟨_, rfl, rfl⟩ wt_499 wt_500 wt_501 (by decide)
theorem ca_X6_meetAt_1 (l : Launch) : z_cok l RX6 (headSpec (.code yX6_meetAt cX6_meetAt 6 (some .int) :: zTT) rm_X6_meetAt).room (94, 0, 0, 2, 0, 0, sp_X2_numberAt) := z_ca0 (c_X2_numberAt l) mb_X2_numberAt wt_556 wt_468 (by decide)
theorem O_X6_meetAt (l : Launch) : z_OK l RX6 cX6_meetAt (headSpec (.code yX6_meetAt cX6_meetAt 6 (some .int) :: zTT) rm_X6_meetAt).room M_X6_meetAt := ⟨ok_X6_meetAt, fo_X6, List.forall_mem_cons.mpr ⟨ca_X6_meetAt_0 l, List.forall_mem_cons.mpr ⟨ca_X6_meetAt_1 l, fun _ h => absurd h List.not_mem_nil⟩⟩, fun _ h => absurd h List.not_mem_nil, fun _ h => absurd h List.not_mem_nil, fun _ h => absurd h List.not_mem_nil, fun _ h => absurd h List.not_mem_nil, rfl, rfl⟩
theorem c_X6_meetAt (l : Launch) : z_CS l yX6_meetAt cX6_meetAt 6 (some .int) rm_X6_meetAt sp_X6_meetAt := by
  refine z_meth (by decide) (Or.inr (Or.inl ⟨rfl, rfl⟩)) (fun h => by cases h) rfl (O_X6_meetAt l) ?_
  intro av w K h
  match av, h with
  | [.ref o, .int x, .int y, .int z], h =>
    obtain ⟨rfl, ⟨r, hG⟩, d, q, c, A, x', y', z', hS, rfl, hx, rfl, hy, rfl, hz, h⟩ := h
    obtain ⟨G, wi, wl⟩ := w
    subst hG
    try dsimp only at h hS
    have h40 := cs_40 hS
    refine ⟨Nat.le_of_ble_eq_true rfl, fun Jm hs => ?_⟩
    have loop := up_ind (P := fun i => Jm 6 [some (.ref 6), some (.int (nI x')), some (.int (nI y')), some (.int (nI z')), some (.int (nI (fb_ct (mtB A x' y' z') i))), some (.int (nI i))] [] (GC ++ r, wi, wl) 0 0) c (fun i hi ih => by
      refine hs 400 6 _ _ _ _ _ ?_
      conv => whnf
      repeat ((first | refine ⟨zG_of _, ?_⟩ | refine ⟨trivial, ?_⟩ | refine ⟨rfl, ?_⟩ | refine ⟨fun hc => absurd hc (by decide), fun _ => ?_⟩ | refine ⟨fun _ => ?_, fun hc => absurd (by decide) hc⟩); conv => whnf)
      try dsimp only
      rw [cs_c hS, ltN (by omega) (by omega)]
      refine ⟨fun hc => ?_, fun hc => ?_⟩
      · obtain rfl : i = c := by omega
        exact ⟨trivial, h⟩
      · have ih := ih hc
        have e0 : fnum (fmF wi 6 (nI i) (nI 0)) (nI x') = nI (A (3 * i) x') := fn_S hS hc (by decide) hx
        have e1 : fnum (fmF wi 6 (nI i) (nI 1)) (nI y') = nI (A (3 * i + 1) y') := fn_S hS hc (by decide) hy
        have e2 : fnum (fmF wi 6 (nI i) (nI 2)) (nI z') = nI (A (3 * i + 2) z') := fn_S hS hc (by decide) hz
        have a0 := cs_A3 hS (3 * i) (by omega) x' hx
        have a1 := cs_A3 hS (3 * i + 1) (by omega) y' hy
        have a2 := cs_A3 hS (3 * i + 2) (by omega) z' hz
        conv => whnf
        repeat ((first | refine ⟨zG_of _, ?_⟩ | refine ⟨trivial, ?_⟩ | refine ⟨rfl, ?_⟩ | refine ⟨fun hc => absurd hc (by decide), fun _ => ?_⟩ | refine ⟨fun _ => ?_, fun hc => absurd (by decide) hc⟩); conv => whnf)
        try dsimp only
        refine ⟨fun hq => ?_, fun hq => ?_⟩
        · have hq := e0.symm.trans hq
          rw [eq0N (by omega)] at hq
          rw [ct_f (by simp [mtB, hq])] at ih
          conv => whnf
          repeat ((first | refine ⟨zG_of _, ?_⟩ | refine ⟨trivial, ?_⟩ | refine ⟨rfl, ?_⟩ | refine ⟨fun hc => absurd hc (by decide), fun _ => ?_⟩ | refine ⟨fun _ => ?_, fun hc => absurd (by decide) hc⟩); conv => whnf)
          try dsimp only
          rw [nI_add]
          exact ih
        · have hq := fun k => hq (e0.trans k)
          rw [eq0N (by omega)] at hq
          conv => whnf
          repeat ((first | refine ⟨zG_of _, ?_⟩ | refine ⟨trivial, ?_⟩ | refine ⟨rfl, ?_⟩ | refine ⟨fun hc => absurd hc (by decide), fun _ => ?_⟩ | refine ⟨fun _ => ?_, fun hc => absurd (by decide) hc⟩); conv => whnf)
          try dsimp only
          refine ⟨fun hq1 => ?_, fun hq1 => ?_⟩
          · have hq1 := e1.symm.trans hq1
            rw [eq0N (by omega)] at hq1
            rw [ct_f (by simp [mtB, hq1])] at ih
            conv => whnf
            repeat ((first | refine ⟨zG_of _, ?_⟩ | refine ⟨trivial, ?_⟩ | refine ⟨rfl, ?_⟩ | refine ⟨fun hc => absurd hc (by decide), fun _ => ?_⟩ | refine ⟨fun _ => ?_, fun hc => absurd (by decide) hc⟩); conv => whnf)
            try dsimp only
            rw [nI_add]
            exact ih
          · have hq1 := fun k => hq1 (e1.trans k)
            rw [eq0N (by omega)] at hq1
            conv => whnf
            repeat ((first | refine ⟨zG_of _, ?_⟩ | refine ⟨trivial, ?_⟩ | refine ⟨rfl, ?_⟩ | refine ⟨fun hc => absurd hc (by decide), fun _ => ?_⟩ | refine ⟨fun _ => ?_, fun hc => absurd (by decide) hc⟩); conv => whnf)
            try dsimp only
            refine ⟨fun hq2 => ?_, fun hq2 => ?_⟩
            · have hq2 := e2.symm.trans hq2
              rw [eq0N (by omega)] at hq2
              rw [ct_f (by simp [mtB, hq2])] at ih
              conv => whnf
              repeat ((first | refine ⟨zG_of _, ?_⟩ | refine ⟨trivial, ?_⟩ | refine ⟨rfl, ?_⟩ | refine ⟨fun hc => absurd hc (by decide), fun _ => ?_⟩ | refine ⟨fun _ => ?_, fun hc => absurd (by decide) hc⟩); conv => whnf)
              try dsimp only
              rw [nI_add]
              exact ih
            · have hq2 := fun k => hq2 (e2.trans k)
              rw [eq0N (by omega)] at hq2
              rw [ct_t (by simpa [mtB] using And.intro (And.intro hq hq1) hq2)] at ih
              conv => whnf
              repeat ((first | refine ⟨zG_of _, ?_⟩ | refine ⟨trivial, ?_⟩ | refine ⟨rfl, ?_⟩ | refine ⟨fun hc => absurd hc (by decide), fun _ => ?_⟩ | refine ⟨fun _ => ?_, fun hc => absurd (by decide) hc⟩); conv => whnf)
              try dsimp only
              rw [nI_add, nI_add]
              exact ih)
    exact hs 400 0 _ _ _ _ _ (loop 0 (Nat.zero_le _))
theorem gvN_lt {A : Nat → Nat → Nat} {c x y z : Nat} (h : ∀ i, i < c → A (3 * i) x < 3 ∧ A (3 * i + 1) y < 3 ∧ A (3 * i + 2) z < 3) : gvN A c x y z ≤ c * 8 :=
  fb_sm_bound (fun i hi => by
    have h3 := h i hi
    exact Nat.mul_le_mul (Nat.mul_le_mul (show A (3 * i) x ≤ 2 by omega) (show A (3 * i + 1) y ≤ 2 by omega)) (show A (3 * i + 2) z ≤ 2 by omega))
def sp_X6_givenAt : zSp := fun av w K => match av with
  | [.ref o, .int x, .int y, .int z] => (o = 6 ∨ o = 9) ∧ zG w.1 ∧ ∃ d q c A x' y' z', CS w.2.1 o d q c A ∧ x = nI x' ∧ x' < 9 ∧ y = nI y' ∧ y' < 9 ∧ z = nI z' ∧ z' < 9 ∧ K (some (.int (nI (gvN A c x' y' z' % q)))) w
  | _ => False
def rm_X6_givenAt : Room := { frames := 2, cells := 0, slots := 0, locals := 43 }
def M_X6_givenAt : zM := (k_X6_givenAt, f_X6, [(59, 4, 5, 3, 0, 0, sp_X6_formAt), (94, 0, 0, 2, 0, 0, sp_X2_numberAt), (97, 0, 0, 2, 0, 0, sp_X2_mod)], ([], [], []), [], [(6, [true, true, true, true, true, true, false])], 1, false, (false, 0, fun _ => 0), (0, 0))
theorem ca_X6_givenAt_0 (l : Launch) : z_cok l RX6 (headSpec (.code yX6_givenAt cX6_givenAt 7 (some .int) :: zTT) rm_X6_givenAt).room (59, 4, 5, 3, 0, 0, sp_X6_formAt) := z_ca4 (c_X6_formAt l) mb_X6_formAt ⟨_, rfl, rfl⟩ wt_499 wt_500 wt_501 (by decide)
theorem ca_X6_givenAt_1 (l : Launch) : z_cok l RX6 (headSpec (.code yX6_givenAt cX6_givenAt 7 (some .int) :: zTT) rm_X6_givenAt).room (94, 0, 0, 2, 0, 0, sp_X2_numberAt) := z_ca0 (c_X2_numberAt l) mb_X2_numberAt wt_556 wt_468 (by decide)
theorem ca_X6_givenAt_2 (l : Launch) : z_cok l RX6 (headSpec (.code yX6_givenAt cX6_givenAt 7 (some .int) :: zTT) rm_X6_givenAt).room (97, 0, 0, 2, 0, 0, sp_X2_mod) := z_ca0 (c_X2_mod l) mb_X2_mod wt_557 wt_558 (by decide)
theorem O_X6_givenAt (l : Launch) : z_OK l RX6 cX6_givenAt (headSpec (.code yX6_givenAt cX6_givenAt 7 (some .int) :: zTT) rm_X6_givenAt).room M_X6_givenAt := ⟨ok_X6_givenAt, fo_X6, List.forall_mem_cons.mpr ⟨ca_X6_givenAt_0 l, List.forall_mem_cons.mpr ⟨ca_X6_givenAt_1 l, List.forall_mem_cons.mpr ⟨ca_X6_givenAt_2 l, fun _ h => absurd h List.not_mem_nil⟩⟩⟩, fun _ h => absurd h List.not_mem_nil, fun _ h => absurd h List.not_mem_nil, fun _ h => absurd h List.not_mem_nil, fun _ h => absurd h List.not_mem_nil, rfl, rfl⟩
theorem c_X6_givenAt (l : Launch) : z_CS l yX6_givenAt cX6_givenAt 7 (some .int) rm_X6_givenAt sp_X6_givenAt := by
  refine z_meth (by decide) (Or.inr (Or.inl ⟨rfl, rfl⟩)) (fun h => by cases h) rfl (O_X6_givenAt l) ?_
  intro av w K h
  match av, h with
  | [.ref o, .int x, .int y, .int z], h =>
    obtain ⟨ho, ⟨r, hG⟩, d, q, c, A, x', y', z', hS, rfl, hx, rfl, hy, rfl, hz, h⟩ := h
    obtain ⟨G, wi, wl⟩ := w
    subst hG
    try dsimp only at h hS
    have h40 := cs_40 hS
    rcases ho with rfl | rfl
    · refine ⟨Nat.le_of_ble_eq_true rfl, fun Jm hs => ?_⟩
      have loop := up_ind (P := fun i => Jm 6 [some (.ref 6), some (.int (nI x')), some (.int (nI y')), some (.int (nI z')), some (.int (nI (gvN A i x' y' z'))), some (.int (nI i)), none] [] (GC ++ r, wi, wl) 0 0) c (fun i hi ih => by
        refine hs 400 6 _ _ _ _ _ ?_
        conv => whnf
        repeat ((first | refine ⟨zG_of _, ?_⟩ | refine ⟨trivial, ?_⟩ | refine ⟨rfl, ?_⟩ | refine ⟨fun hc => absurd hc (by decide), fun _ => ?_⟩ | refine ⟨fun _ => ?_, fun hc => absurd (by decide) hc⟩); conv => whnf)
        try dsimp only
        rw [cs_c hS, ltN (by omega) (by omega)]
        refine ⟨fun hc => ?_, fun hc => ?_⟩
        · obtain rfl : i = c := by omega
          have hl := gvN_lt (A := A) (c := i) (x := x') (y := y') (z := z') (fun k hk => ⟨cs_A3 hS _ (by omega) _ hx, cs_A3 hS _ (by omega) _ hy, cs_A3 hS _ (by omega) _ hz⟩)
          conv => whnf
          repeat ((first | refine ⟨zG_of _, ?_⟩ | refine ⟨trivial, ?_⟩ | refine ⟨rfl, ?_⟩ | refine ⟨fun hc => absurd hc (by decide), fun _ => ?_⟩ | refine ⟨fun _ => ?_, fun hc => absurd (by decide) hc⟩); conv => whnf)
          try dsimp only
          rw [cs_q hS, fmod_N (cs_q23 hS) (by omega)]
          exact h
        · have ih := ih hc
          have e0 : fnum (fmF wi 6 (nI i) (nI 0)) (nI x') = nI (A (3 * i) x') := fn_S hS hc (by decide) hx
          have e1 : fnum (fmF wi 6 (nI i) (nI 1)) (nI y') = nI (A (3 * i + 1) y') := fn_S hS hc (by decide) hy
          have e2 : fnum (fmF wi 6 (nI i) (nI 2)) (nI z') = nI (A (3 * i + 2) z') := fn_S hS hc (by decide) hz
          have a0 := cs_A3 hS (3 * i) (by omega) x' hx
          have g1 : gvN A (i + 1) x' y' z' = gvN A i x' y' z' + A (3 * i) x' * A (3 * i + 1) y' * A (3 * i + 2) z' := rfl
          have g2 : nI (gvN A (i + 1) x' y' z') = nI (gvN A i x' y' z') + fnum (fmF wi 6 (nI i) (nI 0)) (nI x') * fnum (fmF wi 6 (nI i) (nI 1)) (nI y') * fnum (fmF wi 6 (nI i) (nI 2)) (nI z') := by
            rw [e0, e1, e2, pk_mul, pk_mul, nI_add, g1]
          conv => whnf
          repeat ((first | refine ⟨zG_of _, ?_⟩ | refine ⟨trivial, ?_⟩ | refine ⟨rfl, ?_⟩ | refine ⟨fun hc => absurd hc (by decide), fun _ => ?_⟩ | refine ⟨fun _ => ?_, fun hc => absurd (by decide) hc⟩); conv => whnf)
          try dsimp only
          refine ⟨fun hq => ?_, fun hq => ?_⟩
          · have hq := e0.symm.trans hq
            rw [eq0N (by omega)] at hq
            rw [g1, hq, Nat.zero_mul, Nat.zero_mul, Nat.add_zero] at ih
            conv => whnf
            repeat ((first | refine ⟨zG_of _, ?_⟩ | refine ⟨trivial, ?_⟩ | refine ⟨rfl, ?_⟩ | refine ⟨fun hc => absurd hc (by decide), fun _ => ?_⟩ | refine ⟨fun _ => ?_, fun hc => absurd (by decide) hc⟩); conv => whnf)
            try dsimp only
            rw [nI_add]
            exact ih
          · rw [g2] at ih
            conv => whnf
            repeat ((first | refine ⟨zG_of _, ?_⟩ | refine ⟨trivial, ?_⟩ | refine ⟨rfl, ?_⟩ | refine ⟨fun hc => absurd hc (by decide), fun _ => ?_⟩ | refine ⟨fun _ => ?_, fun hc => absurd (by decide) hc⟩); conv => whnf)
            try dsimp only
            rw [nI_add]
            exact ih)
      exact hs 400 0 _ _ _ _ _ (loop 0 (Nat.zero_le _))
    · refine ⟨Nat.le_of_ble_eq_true rfl, fun Jm hs => ?_⟩
      have loop := up_ind (P := fun i => Jm 6 [some (.ref 9), some (.int (nI x')), some (.int (nI y')), some (.int (nI z')), some (.int (nI (gvN A i x' y' z'))), some (.int (nI i)), none] [] (GC ++ r, wi, wl) 0 0) c (fun i hi ih => by
        refine hs 400 6 _ _ _ _ _ ?_
        conv => whnf
        repeat ((first | refine ⟨zG_of _, ?_⟩ | refine ⟨trivial, ?_⟩ | refine ⟨rfl, ?_⟩ | refine ⟨fun hc => absurd hc (by decide), fun _ => ?_⟩ | refine ⟨fun _ => ?_, fun hc => absurd (by decide) hc⟩); conv => whnf)
        try dsimp only
        rw [cs_c hS, ltN (by omega) (by omega)]
        refine ⟨fun hc => ?_, fun hc => ?_⟩
        · obtain rfl : i = c := by omega
          have hl := gvN_lt (A := A) (c := i) (x := x') (y := y') (z := z') (fun k hk => ⟨cs_A3 hS _ (by omega) _ hx, cs_A3 hS _ (by omega) _ hy, cs_A3 hS _ (by omega) _ hz⟩)
          conv => whnf
          repeat ((first | refine ⟨zG_of _, ?_⟩ | refine ⟨trivial, ?_⟩ | refine ⟨rfl, ?_⟩ | refine ⟨fun hc => absurd hc (by decide), fun _ => ?_⟩ | refine ⟨fun _ => ?_, fun hc => absurd (by decide) hc⟩); conv => whnf)
          try dsimp only
          rw [cs_q hS, fmod_N (cs_q23 hS) (by omega)]
          exact h
        · have ih := ih hc
          have e0 : fnum (fmF wi 9 (nI i) (nI 0)) (nI x') = nI (A (3 * i) x') := fn_S hS hc (by decide) hx
          have e1 : fnum (fmF wi 9 (nI i) (nI 1)) (nI y') = nI (A (3 * i + 1) y') := fn_S hS hc (by decide) hy
          have e2 : fnum (fmF wi 9 (nI i) (nI 2)) (nI z') = nI (A (3 * i + 2) z') := fn_S hS hc (by decide) hz
          have a0 := cs_A3 hS (3 * i) (by omega) x' hx
          have g1 : gvN A (i + 1) x' y' z' = gvN A i x' y' z' + A (3 * i) x' * A (3 * i + 1) y' * A (3 * i + 2) z' := rfl
          have g2 : nI (gvN A (i + 1) x' y' z') = nI (gvN A i x' y' z') + fnum (fmF wi 9 (nI i) (nI 0)) (nI x') * fnum (fmF wi 9 (nI i) (nI 1)) (nI y') * fnum (fmF wi 9 (nI i) (nI 2)) (nI z') := by
            rw [e0, e1, e2, pk_mul, pk_mul, nI_add, g1]
          conv => whnf
          repeat ((first | refine ⟨zG_of _, ?_⟩ | refine ⟨trivial, ?_⟩ | refine ⟨rfl, ?_⟩ | refine ⟨fun hc => absurd hc (by decide), fun _ => ?_⟩ | refine ⟨fun _ => ?_, fun hc => absurd (by decide) hc⟩); conv => whnf)
          try dsimp only
          refine ⟨fun hq => ?_, fun hq => ?_⟩
          · have hq := e0.symm.trans hq
            rw [eq0N (by omega)] at hq
            rw [g1, hq, Nat.zero_mul, Nat.zero_mul, Nat.add_zero] at ih
            conv => whnf
            repeat ((first | refine ⟨zG_of _, ?_⟩ | refine ⟨trivial, ?_⟩ | refine ⟨rfl, ?_⟩ | refine ⟨fun hc => absurd hc (by decide), fun _ => ?_⟩ | refine ⟨fun _ => ?_, fun hc => absurd (by decide) hc⟩); conv => whnf)
            try dsimp only
            rw [nI_add]
            exact ih
          · rw [g2] at ih
            conv => whnf
            repeat ((first | refine ⟨zG_of _, ?_⟩ | refine ⟨trivial, ?_⟩ | refine ⟨rfl, ?_⟩ | refine ⟨fun hc => absurd hc (by decide), fun _ => ?_⟩ | refine ⟨fun _ => ?_, fun hc => absurd (by decide) hc⟩); conv => whnf)
            try dsimp only
            rw [nI_add]
            exact ih)
      exact hs 400 0 _ _ _ _ _ (loop 0 (Nat.zero_le _))
def sp_X6_groupOf : zSp := fun av w K => match av with
  | [.ref o, .int i, .int t] => o = 6 ∧ zG w.1 ∧ ∃ d q c A i' t', CS w.2.1 6 d q c A ∧ i = nI i' ∧ i' < c ∧ t = nI t' ∧ t' < 3 ∧ K (some (.long (lN (bs (lkB q A t' i') c)))) w
  | _ => False
def rm_X6_groupOf : Room := { frames := 3, cells := 0, slots := 0, locals := 66 }
def M_X6_groupOf : zM := (k_X6_groupOf, f_X6, [(139, 4, 5, 4, 0, 0, sp_X6_likeBy), (126, 2, 0, 1, 0, 0, sp_X11_bit)], ([], [], []), [], [(5, [true, true, true, true, true, true])], 3, false, (false, 0, fun _ => 0), (0, 0))
theorem ca_X6_groupOf_0 (l : Launch) : z_cok l RX6 (headSpec (.code yX6_groupOf cX6_groupOf 6 (some .long) :: zTT) rm_X6_groupOf).room (139, 4, 5, 4, 0, 0, sp_X6_likeBy) := z_ca4 (c_X6_likeBy l) mb_X6_likeBy ⟨_, rfl, rfl⟩ wt_661 wt_644 wt_645 (by decide)
theorem ca_X6_groupOf_1 (l : Launch) : z_cok l RX6 (headSpec (.code yX6_groupOf cX6_groupOf 6 (some .long) :: zTT) rm_X6_groupOf).room (126, 2, 0, 1, 0, 0, sp_X11_bit) := z_ca2 (host := "FewProducts") (c_X11_bit l) mb_X11_bit (by decide +kernel) wt_919 (by decide)
theorem O_X6_groupOf (l : Launch) : z_OK l RX6 cX6_groupOf (headSpec (.code yX6_groupOf cX6_groupOf 6 (some .long) :: zTT) rm_X6_groupOf).room M_X6_groupOf := ⟨ok_X6_groupOf, fo_X6, List.forall_mem_cons.mpr ⟨ca_X6_groupOf_0 l, List.forall_mem_cons.mpr ⟨ca_X6_groupOf_1 l, fun _ h => absurd h List.not_mem_nil⟩⟩, fun _ h => absurd h List.not_mem_nil, fun _ h => absurd h List.not_mem_nil, fun _ h => absurd h List.not_mem_nil, fun _ h => absurd h List.not_mem_nil, rfl, rfl⟩
theorem c_X6_groupOf (l : Launch) : z_CS l yX6_groupOf cX6_groupOf 6 (some .long) rm_X6_groupOf sp_X6_groupOf := by
  refine z_meth (by decide) (Or.inr (Or.inr (Or.inr ⟨rfl, rfl⟩))) (fun h => by cases h) rfl (O_X6_groupOf l) ?_
  intro av w K h
  match av, h with
  | [.ref o, .int i, .int t], h =>
    obtain ⟨rfl, ⟨r, hG⟩, d, q, c, A, i', t', hS, rfl, hi', rfl, ht, h⟩ := h
    obtain ⟨G, wi, wl⟩ := w
    subst hG
    try dsimp only at h hS
    have h40 := cs_40 hS
    refine ⟨Nat.le_of_ble_eq_true rfl, fun Jm hs => ?_⟩
    have loop := up_ind (P := fun k => Jm 5 [some (.ref 6), some (.int (nI i')), some (.int (nI t')), some (.long (lN (bs (lkB q A t' i') k))), none, some (.int (nI k))] [] (GC ++ r, wi, wl) 0 0) c (fun k hk ih => by
      refine hs 400 5 _ _ _ _ _ ?_
      conv => whnf
      repeat ((first | refine ⟨zG_of _, ?_⟩ | refine ⟨trivial, ?_⟩ | refine ⟨rfl, ?_⟩ | refine ⟨fun hc => absurd hc (by decide), fun _ => ?_⟩ | refine ⟨fun _ => ?_, fun hc => absurd (by decide) hc⟩); conv => whnf)
      try dsimp only
      rw [cs_c hS, ltN (by omega) (by omega)]
      refine ⟨fun hc => ?_, fun hc => ?_⟩
      · obtain rfl : k = c := by omega
        exact h
      · have ih := ih hc
        have e0 := lk_S hS hi' hc ht
        have a0 := likeN_lt q (A (3 * i' + t')) (A (3 * k + t'))
        conv => whnf
        repeat ((first | refine ⟨zG_of _, ?_⟩ | refine ⟨trivial, ?_⟩ | refine ⟨rfl, ?_⟩ | refine ⟨fun hc => absurd hc (by decide), fun _ => ?_⟩ | refine ⟨fun _ => ?_, fun hc => absurd (by decide) hc⟩); conv => whnf)
        try dsimp only
        refine ⟨fun hq => ?_, fun hq => ?_⟩
        · have hq : ¬ nI 0 < nI (likeN q (A (3 * i' + t')) (A (3 * k + t'))) := fun z => hq (by have z2 := z; rw [← e0] at z2; exact z2)
          rw [ltN (by omega) (by omega)] at hq
          rw [bs_f (by simpa [lkB] using (show likeN q (A (3 * i' + t')) (A (3 * k + t')) = 0 by omega))] at ih
          conv => whnf
          repeat ((first | refine ⟨zG_of _, ?_⟩ | refine ⟨trivial, ?_⟩ | refine ⟨rfl, ?_⟩ | refine ⟨fun hc => absurd hc (by decide), fun _ => ?_⟩ | refine ⟨fun _ => ?_, fun hc => absurd (by decide) hc⟩); conv => whnf)
          try dsimp only
          rw [nI_add]
          exact ih
        · have hq : nI 0 < nI (likeN q (A (3 * i' + t')) (A (3 * k + t'))) := by rw [← e0]; exact hq
          rw [ltN (by omega) (by omega)] at hq
          rw [bs_t (by simpa [lkB] using (show ¬ likeN q (A (3 * i' + t')) (A (3 * k + t')) = 0 by omega)), ← fb_orL, ← bit_N (by omega)] at ih
          conv => whnf
          repeat ((first | refine ⟨zG_of _, ?_⟩ | refine ⟨trivial, ?_⟩ | refine ⟨rfl, ?_⟩ | refine ⟨fun hc => absurd hc (by decide), fun _ => ?_⟩ | refine ⟨fun _ => ?_, fun hc => absurd (by decide) hc⟩); conv => whnf)
          try dsimp only
          rw [nI_add]
          exact ih)
    exact hs 400 0 _ _ _ _ _ (loop 0 (Nat.zero_le _))
def sp_X6_flipsAt : zSp := fun av w K => match av with
  | [.ref o, .int t] => o = 6 ∧ zG w.1 ∧ ∃ d q c A t', CS w.2.1 6 d q c A ∧ t = nI t' ∧ t' < 3 ∧ K (some (.int (nI (flN q A t' c)))) w
  | _ => False
def rm_X6_flipsAt : Room := { frames := 3, cells := 0, slots := 0, locals := 66 }
def M_X6_flipsAt : zM := (k_X6_flipsAt, f_X6, [(139, 4, 5, 4, 0, 0, sp_X6_likeBy)], ([], [], []), [], [(4, [true, true, true, true, false]), (15, [true, true, true, true, true])], 1, false, (false, 0, fun _ => 0), (0, 0))
theorem ca_X6_flipsAt_0 (l : Launch) : z_cok l RX6 (headSpec (.code yX6_flipsAt cX6_flipsAt 5 (some .int) :: zTT) rm_X6_flipsAt).room (139, 4, 5, 4, 0, 0, sp_X6_likeBy) := z_ca4 (c_X6_likeBy l) mb_X6_likeBy ⟨_, rfl, rfl⟩ wt_661 wt_644 wt_645 (by decide)
theorem O_X6_flipsAt (l : Launch) : z_OK l RX6 cX6_flipsAt (headSpec (.code yX6_flipsAt cX6_flipsAt 5 (some .int) :: zTT) rm_X6_flipsAt).room M_X6_flipsAt := ⟨ok_X6_flipsAt, fo_X6, List.forall_mem_cons.mpr ⟨ca_X6_flipsAt_0 l, fun _ h => absurd h List.not_mem_nil⟩, fun _ h => absurd h List.not_mem_nil, fun _ h => absurd h List.not_mem_nil, fun _ h => absurd h List.not_mem_nil, fun _ h => absurd h List.not_mem_nil, rfl, rfl⟩
theorem c_X6_flipsAt (l : Launch) : z_CS l yX6_flipsAt cX6_flipsAt 5 (some .int) rm_X6_flipsAt sp_X6_flipsAt := by
  refine z_meth (by decide) (Or.inr (Or.inl ⟨rfl, rfl⟩)) (fun h => by cases h) rfl (O_X6_flipsAt l) ?_
  intro av w K h
  match av, h with
  | [.ref o, .int t], h =>
    obtain ⟨rfl, ⟨r, hG⟩, d, q, c, A, t', hS, rfl, ht, h⟩ := h
    obtain ⟨G, wi, wl⟩ := w
    subst hG
    try dsimp only at h hS
    have h40 := cs_40 hS
    refine ⟨Nat.le_of_ble_eq_true rfl, fun Jm hs => ?_⟩
    have loop := up_ind (P := fun i => Jm 4 [some (.ref 6), some (.int (nI t')), some (.int (nI (flN q A t' i))), some (.int (nI i)), none] [] (GC ++ r, wi, wl) 0 0) c (fun i hi ih => by
      refine hs 400 4 _ _ _ _ _ ?_
      conv => whnf
      repeat ((first | refine ⟨zG_of _, ?_⟩ | refine ⟨trivial, ?_⟩ | refine ⟨rfl, ?_⟩ | refine ⟨fun hc => absurd hc (by decide), fun _ => ?_⟩ | refine ⟨fun _ => ?_, fun hc => absurd (by decide) hc⟩); conv => whnf)
      try dsimp only
      rw [cs_c hS, ltN (by omega) (by omega)]
      refine ⟨fun hc => ?_, fun hc => ?_⟩
      · obtain rfl : i = c := by omega
        exact ⟨trivial, h⟩
      · have ih := ih hc
        have inner := up_ind (P := fun j => Jm 15 [some (.ref 6), some (.int (nI t')), some (.int (nI (flN q A t' i + 2 * fb_ct (lkB q A t' i) j))), some (.int (nI i)), some (.int (nI j))] [] (GC ++ r, wi, wl) 0 0) i (fun j hj ihj => by
          refine hs 400 15 _ _ _ _ _ ?_
          conv => whnf
          repeat ((first | refine ⟨zG_of _, ?_⟩ | refine ⟨trivial, ?_⟩ | refine ⟨rfl, ?_⟩ | refine ⟨fun hc => absurd hc (by decide), fun _ => ?_⟩ | refine ⟨fun _ => ?_, fun hc => absurd (by decide) hc⟩); conv => whnf)
          try dsimp only
          rw [ltN (by omega) (by omega)]
          refine ⟨fun hc2 => ?_, fun hc2 => ?_⟩
          · obtain rfl : j = i := by omega
            conv => whnf
            repeat ((first | refine ⟨zG_of _, ?_⟩ | refine ⟨trivial, ?_⟩ | refine ⟨rfl, ?_⟩ | refine ⟨fun hc => absurd hc (by decide), fun _ => ?_⟩ | refine ⟨fun _ => ?_, fun hc => absurd (by decide) hc⟩); conv => whnf)
            try dsimp only
            rw [nI_add]
            exact ih
          · have ihj := ihj hc2
            have e0 := lk_S hS hc (show j < c by omega) ht
            have a0 := likeN_lt q (A (3 * i + t')) (A (3 * j + t'))
            conv => whnf
            repeat ((first | refine ⟨zG_of _, ?_⟩ | refine ⟨trivial, ?_⟩ | refine ⟨rfl, ?_⟩ | refine ⟨fun hc => absurd hc (by decide), fun _ => ?_⟩ | refine ⟨fun _ => ?_, fun hc => absurd (by decide) hc⟩); conv => whnf)
            try dsimp only
            refine ⟨fun hq => ?_, fun hq => ?_⟩
            · have hq : ¬ nI 0 < nI (likeN q (A (3 * i + t')) (A (3 * j + t'))) := fun z => hq (by have z2 := z; rw [← e0] at z2; exact z2)
              rw [ltN (by omega) (by omega)] at hq
              rw [ct_f (by simpa [lkB] using (show likeN q (A (3 * i + t')) (A (3 * j + t')) = 0 by omega))] at ihj
              conv => whnf
              repeat ((first | refine ⟨zG_of _, ?_⟩ | refine ⟨trivial, ?_⟩ | refine ⟨rfl, ?_⟩ | refine ⟨fun hc => absurd hc (by decide), fun _ => ?_⟩ | refine ⟨fun _ => ?_, fun hc => absurd (by decide) hc⟩); conv => whnf)
              try dsimp only
              rw [nI_add]
              exact ihj
            · have hq : nI 0 < nI (likeN q (A (3 * i + t')) (A (3 * j + t'))) := by rw [← e0]; exact hq
              rw [ltN (by omega) (by omega)] at hq
              rw [ct_t (by simpa [lkB] using (show ¬ likeN q (A (3 * i + t')) (A (3 * j + t')) = 0 by omega)), Nat.mul_add, Nat.mul_one, ← Nat.add_assoc] at ihj
              conv => whnf
              repeat ((first | refine ⟨zG_of _, ?_⟩ | refine ⟨trivial, ?_⟩ | refine ⟨rfl, ?_⟩ | refine ⟨fun hc => absurd hc (by decide), fun _ => ?_⟩ | refine ⟨fun _ => ?_, fun hc => absurd (by decide) hc⟩); conv => whnf)
              try dsimp only
              rw [nI_add, nI_add]
              exact ihj)
        conv => whnf
        repeat ((first | refine ⟨zG_of _, ?_⟩ | refine ⟨trivial, ?_⟩ | refine ⟨rfl, ?_⟩ | refine ⟨fun hc => absurd hc (by decide), fun _ => ?_⟩ | refine ⟨fun _ => ?_, fun hc => absurd (by decide) hc⟩); conv => whnf)
        try dsimp only
        exact inner 0 (Nat.zero_le _))
    exact hs 400 0 _ _ _ _ _ (loop 0 (Nat.zero_le _))
end
