-- ===== PART A: goes FIRST, ahead of the names: the tables' words, and 'selects' of the private methods out of them =====
/-- a private method of a class that the tables say can be made, by its rows of tables_1 -/
def lw_okq (q : MethodName × Nat) : Prop := (q.1.cls ≠ "java/lang/invoke/MethodHandle" ∧ q.1.cls ≠ "java/lang/invoke/VarHandle") ∧ Cond.instantiable q.1.cls q.2 ∈ tables_1 ∧ Cond.privateMethod q.1 ∈ tables_1 ∧ Cond.instanceMethod q.1 ∈ tables_1
theorem lw_p0 : lw_okq (⟨"FewProducts$Scheme", "addOnes", "(III)V"⟩, 6) := ⟨⟨by decide +kernel, by decide +kernel⟩, List.mem_of_getElem? (i := 86) (by decide +kernel), List.mem_of_getElem? (i := 252) (by decide +kernel), List.mem_of_getElem? (i := 253) (by decide +kernel)⟩
theorem lw_p1 : lw_okq (⟨"FewProducts$Text", "takeProduct", "(LFewProducts$Scheme;)Z"⟩, 4) := ⟨⟨by decide +kernel, by decide +kernel⟩, List.mem_of_getElem? (i := 39) (by decide +kernel), List.mem_of_getElem? (i := 328) (by decide +kernel), List.mem_of_getElem? (i := 329) (by decide +kernel)⟩
theorem lw_p2 : lw_okq (⟨"FewProducts$Text", "take", "(C)Z"⟩, 4) := ⟨⟨by decide +kernel, by decide +kernel⟩, List.mem_of_getElem? (i := 39) (by decide +kernel), List.mem_of_getElem? (i := 333) (by decide +kernel), List.mem_of_getElem? (i := 334) (by decide +kernel)⟩
theorem lw_p3 : lw_okq (⟨"FewProducts$Text", "peek", "()I"⟩, 4) := ⟨⟨by decide +kernel, by decide +kernel⟩, List.mem_of_getElem? (i := 39) (by decide +kernel), List.mem_of_getElem? (i := 337) (by decide +kernel), List.mem_of_getElem? (i := 338) (by decide +kernel)⟩
theorem lw_p4 : lw_okq (⟨"FewProducts$Text", "takeForm", "(LFewProducts$Scheme;I)Z"⟩, 4) := ⟨⟨by decide +kernel, by decide +kernel⟩, List.mem_of_getElem? (i := 39) (by decide +kernel), List.mem_of_getElem? (i := 345) (by decide +kernel), List.mem_of_getElem? (i := 346) (by decide +kernel)⟩
theorem lw_p5 : lw_okq (⟨"FewProducts$Text", "takeTerm", "(LFewProducts$Scheme;II)Z"⟩, 4) := ⟨⟨by decide +kernel, by decide +kernel⟩, List.mem_of_getElem? (i := 39) (by decide +kernel), List.mem_of_getElem? (i := 349) (by decide +kernel), List.mem_of_getElem? (i := 350) (by decide +kernel)⟩
theorem lw_p6 : lw_okq (⟨"FewProducts$Text", "restFault", "()I"⟩, 4) := ⟨⟨by decide +kernel, by decide +kernel⟩, List.mem_of_getElem? (i := 39) (by decide +kernel), List.mem_of_getElem? (i := 370) (by decide +kernel), List.mem_of_getElem? (i := 371) (by decide +kernel)⟩
theorem lw_p7 : lw_okq (⟨"FewProducts", "tellFirst", "(IIII)V"⟩, 11) := ⟨⟨by decide +kernel, by decide +kernel⟩, List.mem_of_getElem? (i := 31) (by decide +kernel), List.mem_of_getElem? (i := 437) (by decide +kernel), List.mem_of_getElem? (i := 438) (by decide +kernel)⟩
theorem lw_p8 : lw_okq (⟨"FewProducts", "tellThree", "(III)V"⟩, 11) := ⟨⟨by decide +kernel, by decide +kernel⟩, List.mem_of_getElem? (i := 31) (by decide +kernel), List.mem_of_getElem? (i := 441) (by decide +kernel), List.mem_of_getElem? (i := 442) (by decide +kernel)⟩
theorem lw_p9 : lw_okq (⟨"FewProducts$Factors", "weigh", "(III)I"⟩, 1) := ⟨⟨by decide +kernel, by decide +kernel⟩, List.mem_of_getElem? (i := 134) (by decide +kernel), List.mem_of_getElem? (i := 465) (by decide +kernel), List.mem_of_getElem? (i := 466) (by decide +kernel)⟩
theorem lw_p10 : lw_okq (⟨"FewProducts$Shedder", "isSumOfAhead", "(LFewProducts$Scheme;III)Z"⟩, 3) := ⟨⟨by decide +kernel, by decide +kernel⟩, List.mem_of_getElem? (i := 162) (by decide +kernel), List.mem_of_getElem? (i := 558) (by decide +kernel), List.mem_of_getElem? (i := 559) (by decide +kernel)⟩
theorem lw_p11 : lw_okq (⟨"FewProducts$Basis", "reduce", "(I)V"⟩, 7) := ⟨⟨by decide +kernel, by decide +kernel⟩, List.mem_of_getElem? (i := 168) (by decide +kernel), List.mem_of_getElem? (i := 573) (by decide +kernel), List.mem_of_getElem? (i := 574) (by decide +kernel)⟩
theorem lw_p12 : lw_okq (⟨"FewProducts$Shedder", "share", "(LFewProducts$Scheme;II)V"⟩, 3) := ⟨⟨by decide +kernel, by decide +kernel⟩, List.mem_of_getElem? (i := 162) (by decide +kernel), List.mem_of_getElem? (i := 592) (by decide +kernel), List.mem_of_getElem? (i := 593) (by decide +kernel)⟩
theorem lw_p13 : lw_okq (⟨"FewProducts", "isLine", "(II)Z"⟩, 11) := ⟨⟨by decide +kernel, by decide +kernel⟩, List.mem_of_getElem? (i := 31) (by decide +kernel), List.mem_of_getElem? (i := 623) (by decide +kernel), List.mem_of_getElem? (i := 624) (by decide +kernel)⟩
theorem lw_p14 : lw_okq (⟨"FewProducts", "isFactor", "(I)Z"⟩, 11) := ⟨⟨by decide +kernel, by decide +kernel⟩, List.mem_of_getElem? (i := 31) (by decide +kernel), List.mem_of_getElem? (i := 697) (by decide +kernel), List.mem_of_getElem? (i := 698) (by decide +kernel)⟩
theorem lw_p15 : lw_okq (⟨"FewProducts$Lifting", "start", "(LFewProducts$Scheme;)V"⟩, 6) := ⟨⟨by decide +kernel, by decide +kernel⟩, List.mem_of_getElem? (i := 216) (by decide +kernel), List.mem_of_getElem? (i := 785) (by decide +kernel), List.mem_of_getElem? (i := 786) (by decide +kernel)⟩
def lw_privs_1 : List (MethodName × Nat) := [(⟨"FewProducts$Scheme", "addOnes", "(III)V"⟩, 6), (⟨"FewProducts$Text", "takeProduct", "(LFewProducts$Scheme;)Z"⟩, 4), (⟨"FewProducts$Text", "take", "(C)Z"⟩, 4), (⟨"FewProducts$Text", "peek", "()I"⟩, 4), (⟨"FewProducts$Text", "takeForm", "(LFewProducts$Scheme;I)Z"⟩, 4), (⟨"FewProducts$Text", "takeTerm", "(LFewProducts$Scheme;II)Z"⟩, 4), (⟨"FewProducts$Text", "restFault", "()I"⟩, 4), (⟨"FewProducts", "tellFirst", "(IIII)V"⟩, 11), (⟨"FewProducts", "tellThree", "(III)V"⟩, 11), (⟨"FewProducts$Factors", "weigh", "(III)I"⟩, 1), (⟨"FewProducts$Shedder", "isSumOfAhead", "(LFewProducts$Scheme;III)Z"⟩, 3), (⟨"FewProducts$Basis", "reduce", "(I)V"⟩, 7), (⟨"FewProducts$Shedder", "share", "(LFewProducts$Scheme;II)V"⟩, 3), (⟨"FewProducts", "isLine", "(II)Z"⟩, 11), (⟨"FewProducts", "isFactor", "(I)Z"⟩, 11), (⟨"FewProducts$Lifting", "start", "(LFewProducts$Scheme;)V"⟩, 6)]
theorem lw_r1 : ∀ q ∈ lw_privs_1, lw_okq q := List.forall_mem_cons.mpr ⟨lw_p0, List.forall_mem_cons.mpr ⟨lw_p1, List.forall_mem_cons.mpr ⟨lw_p2, List.forall_mem_cons.mpr ⟨lw_p3, List.forall_mem_cons.mpr ⟨lw_p4, List.forall_mem_cons.mpr ⟨lw_p5, List.forall_mem_cons.mpr ⟨lw_p6, List.forall_mem_cons.mpr ⟨lw_p7, List.forall_mem_cons.mpr ⟨lw_p8, List.forall_mem_cons.mpr ⟨lw_p9, List.forall_mem_cons.mpr ⟨lw_p10, List.forall_mem_cons.mpr ⟨lw_p11, List.forall_mem_cons.mpr ⟨lw_p12, List.forall_mem_cons.mpr ⟨lw_p13, List.forall_mem_cons.mpr ⟨lw_p14, List.forall_mem_cons.mpr ⟨lw_p15, fun _ h => absurd h List.not_mem_nil⟩⟩⟩⟩⟩⟩⟩⟩⟩⟩⟩⟩⟩⟩⟩⟩
theorem lw_p16 : lw_okq (⟨"FewProducts$Lifting", "setUnknown", "(LFewProducts$Scheme;III)V"⟩, 6) := ⟨⟨by decide +kernel, by decide +kernel⟩, List.mem_of_getElem? (i := 216) (by decide +kernel), List.mem_of_getElem? (i := 792) (by decide +kernel), List.mem_of_getElem? (i := 793) (by decide +kernel)⟩
theorem lw_p17 : lw_okq (⟨"FewProducts$Lifting", "clearColumn", "()V"⟩, 6) := ⟨⟨by decide +kernel, by decide +kernel⟩, List.mem_of_getElem? (i := 216) (by decide +kernel), List.mem_of_getElem? (i := 796) (by decide +kernel), List.mem_of_getElem? (i := 797) (by decide +kernel)⟩
theorem lw_p18 : lw_okq (⟨"FewProducts$Lifting", "setBit", "(I)V"⟩, 6) := ⟨⟨by decide +kernel, by decide +kernel⟩, List.mem_of_getElem? (i := 216) (by decide +kernel), List.mem_of_getElem? (i := 804) (by decide +kernel), List.mem_of_getElem? (i := 805) (by decide +kernel)⟩
theorem lw_p19 : lw_okq (⟨"FewProducts$Lifting", "takeColumn", "()V"⟩, 6) := ⟨⟨by decide +kernel, by decide +kernel⟩, List.mem_of_getElem? (i := 216) (by decide +kernel), List.mem_of_getElem? (i := 809) (by decide +kernel), List.mem_of_getElem? (i := 810) (by decide +kernel)⟩
theorem lw_p20 : lw_okq (⟨"FewProducts$Lifting", "reduce", "()I"⟩, 6) := ⟨⟨by decide +kernel, by decide +kernel⟩, List.mem_of_getElem? (i := 216) (by decide +kernel), List.mem_of_getElem? (i := 813) (by decide +kernel), List.mem_of_getElem? (i := 814) (by decide +kernel)⟩
theorem lw_p21 : lw_okq (⟨"FewProducts$Lifting", "hasBit", "(I)Z"⟩, 6) := ⟨⟨by decide +kernel, by decide +kernel⟩, List.mem_of_getElem? (i := 216) (by decide +kernel), List.mem_of_getElem? (i := 817) (by decide +kernel), List.mem_of_getElem? (i := 818) (by decide +kernel)⟩
theorem lw_p22 : lw_okq (⟨"FewProducts$Lifting", "lessPivot", "(I)V"⟩, 6) := ⟨⟨by decide +kernel, by decide +kernel⟩, List.mem_of_getElem? (i := 216) (by decide +kernel), List.mem_of_getElem? (i := 821) (by decide +kernel), List.mem_of_getElem? (i := 822) (by decide +kernel)⟩
theorem lw_p23 : lw_okq (⟨"FewProducts$Lifting", "setRightSides", "(LFewProducts$Scheme;)V"⟩, 6) := ⟨⟨by decide +kernel, by decide +kernel⟩, List.mem_of_getElem? (i := 216) (by decide +kernel), List.mem_of_getElem? (i := 825) (by decide +kernel), List.mem_of_getElem? (i := 826) (by decide +kernel)⟩
theorem lw_p24 : lw_okq (⟨"java/lang/Throwable", "fillInStackTrace", "(I)Ljava/lang/Throwable;"⟩, 6) := ⟨⟨by decide +kernel, by decide +kernel⟩, List.mem_of_getElem? (i := 897) (by decide +kernel), List.mem_of_getElem? (i := 895) (by decide +kernel), List.mem_of_getElem? (i := 896) (by decide +kernel)⟩
def lw_privs_2 : List (MethodName × Nat) := [(⟨"FewProducts$Lifting", "setUnknown", "(LFewProducts$Scheme;III)V"⟩, 6), (⟨"FewProducts$Lifting", "clearColumn", "()V"⟩, 6), (⟨"FewProducts$Lifting", "setBit", "(I)V"⟩, 6), (⟨"FewProducts$Lifting", "takeColumn", "()V"⟩, 6), (⟨"FewProducts$Lifting", "reduce", "()I"⟩, 6), (⟨"FewProducts$Lifting", "hasBit", "(I)Z"⟩, 6), (⟨"FewProducts$Lifting", "lessPivot", "(I)V"⟩, 6), (⟨"FewProducts$Lifting", "setRightSides", "(LFewProducts$Scheme;)V"⟩, 6), (⟨"java/lang/Throwable", "fillInStackTrace", "(I)Ljava/lang/Throwable;"⟩, 6)]
theorem lw_r2 : ∀ q ∈ lw_privs_2, lw_okq q := List.forall_mem_cons.mpr ⟨lw_p16, List.forall_mem_cons.mpr ⟨lw_p17, List.forall_mem_cons.mpr ⟨lw_p18, List.forall_mem_cons.mpr ⟨lw_p19, List.forall_mem_cons.mpr ⟨lw_p20, List.forall_mem_cons.mpr ⟨lw_p21, List.forall_mem_cons.mpr ⟨lw_p22, List.forall_mem_cons.mpr ⟨lw_p23, List.forall_mem_cons.mpr ⟨lw_p24, fun _ h => absurd h List.not_mem_nil⟩⟩⟩⟩⟩⟩⟩⟩⟩
def lw_privs : List (MethodName × Nat) := lw_privs_1 ++ (lw_privs_2)
def lw_tbl : List Cond := k2_sels lw_privs ++ tables_1
theorem lw_privs_ok : ∀ q ∈ lw_privs, lw_okq q := by
  show ∀ q ∈ lw_privs_1 ++ (lw_privs_2), lw_okq q
  exact List.forall_mem_append.mpr ⟨lw_r1, lw_r2⟩
def RX0 : String := "FewProducts$Basis"
def TX0 : u_T := fun k => match k with
  | 0 => ("FewProducts$Basis", "reduced", "LFewProducts$Ints;", true)
  | 1 => ("FewProducts$Basis", "made", "LFewProducts$Ints;", true)
  | 2 => ("FewProducts$Basis", "pivots", "LFewProducts$Ints;", true)
  | 3 => ("FewProducts$Basis", "q", "I", false)
  | 4 => ("FewProducts$Basis", "size", "I", false)
  | 5 => ("FewProducts$Basis", "rest", "I", false)
  | _ => ("FewProducts$Basis", "parts", "I", false)
def tyX0 : Nat → FieldType := fun k => match k with
  | 0 => .object "FewProducts$Ints"
  | 1 => .object "FewProducts$Ints"
  | 2 => .object "FewProducts$Ints"
  | 3 => .int
  | 4 => .int
  | 5 => .int
  | _ => .int
theorem nmX0 : ∀ a, a < 7 → ∀ b, b < 7 → a ≠ b → (TX0 a).2.1 ≠ (TX0 b).2.1 := by decide +kernel
theorem tyX0_ok : ∀ k, k < 7 → parseFieldDescriptor (TX0 k).2.2.1 = some (tyX0 k) := by decide +kernel
abbrev cX0_init : ByteArray := prog_2_method_1_code
def yX0_init : MethodName := ⟨RX0, "<init>", "()V"⟩
abbrev cX0_start : ByteArray := prog_2_method_2_code
def yX0_start : MethodName := ⟨RX0, "start", "(I)V"⟩
abbrev cX0_take : ByteArray := prog_2_method_3_code
def yX0_take : MethodName := ⟨RX0, "take", "(I)Z"⟩
abbrev cX0_isSum : ByteArray := prog_2_method_4_code
def yX0_isSum : MethodName := ⟨RX0, "isSum", "(I)Z"⟩
abbrev cX0_reduce : ByteArray := prog_2_method_5_code
def yX0_reduce : MethodName := ⟨RX0, "reduce", "(I)V"⟩
abbrev cX0_firstPlace : ByteArray := prog_2_method_6_code
def yX0_firstPlace : MethodName := ⟨RX0, "firstPlace", "(I)I"⟩
def RX1 : String := "FewProducts$Factors"
def TX1 : u_T := fun k => match k with
  | _ => ("FewProducts$Factors", "numbers", "LFewProducts$Ints;", true)
def tyX1 : Nat → FieldType := fun k => match k with
  | _ => .object "FewProducts$Ints"
theorem nmX1 : ∀ a, a < 1 → ∀ b, b < 1 → a ≠ b → (TX1 a).2.1 ≠ (TX1 b).2.1 := by decide +kernel
theorem tyX1_ok : ∀ k, k < 1 → parseFieldDescriptor (TX1 k).2.2.1 = some (tyX1 k) := by decide +kernel
abbrev cX1_init : ByteArray := prog_3_method_1_code
def yX1_init : MethodName := ⟨RX1, "<init>", "()V"⟩
abbrev cX1_comesAt : ByteArray := prog_3_method_2_code
def yX1_comesAt : MethodName := ⟨RX1, "comesAt", "(LFewProducts$Scheme;I)I"⟩
abbrev cX1_weigh : ByteArray := prog_3_method_3_code
def yX1_weigh : MethodName := ⟨RX1, "weigh", "(III)I"⟩
abbrev cX1_dueAt : ByteArray := prog_3_method_4_code
def yX1_dueAt : MethodName := ⟨RX1, "dueAt", "(LFewProducts$Scheme;I)I"⟩
def RX2 : String := "FewProducts$Forms"
def TX2 : u_T := fun k => match k with
  | _ => ("", "", "", false)
def tyX2 : Nat → FieldType := fun k => match k with
  | _ => .int
theorem nmX2 : ∀ a, a < 0 → ∀ b, b < 0 → a ≠ b → (TX2 a).2.1 ≠ (TX2 b).2.1 := by decide +kernel
theorem tyX2_ok : ∀ k, k < 0 → parseFieldDescriptor (TX2 k).2.2.1 = some (tyX2 k) := by decide +kernel
abbrev cX2_mod : ByteArray := prog_4_method_2_code
def yX2_mod : MethodName := ⟨RX2, "mod", "(II)I"⟩
abbrev cX2_numberAt : ByteArray := prog_4_method_3_code
def yX2_numberAt : MethodName := ⟨RX2, "numberAt", "(II)I"⟩
abbrev cX2_with : ByteArray := prog_4_method_4_code
def yX2_with : MethodName := ⟨RX2, "with", "(III)I"⟩
abbrev cX2_sum : ByteArray := prog_4_method_5_code
def yX2_sum : MethodName := ⟨RX2, "sum", "(III)I"⟩
abbrev cX2_times : ByteArray := prog_4_method_6_code
def yX2_times : MethodName := ⟨RX2, "times", "(II)I"⟩
abbrev cX2_less : ByteArray := prog_4_method_7_code
def yX2_less : MethodName := ⟨RX2, "less", "(III)I"⟩
abbrev cX2_likeBy : ByteArray := prog_4_method_8_code
def yX2_likeBy : MethodName := ⟨RX2, "likeBy", "(III)I"⟩
def RX3 : String := "FewProducts$Ints"
def TX3 : u_T := fun k => match k with
  | _ => ("FewProducts$Ints", "cells", "[I", true)
def tyX3 : Nat → FieldType := fun k => match k with
  | _ => .array .int
theorem nmX3 : ∀ a, a < 1 → ∀ b, b < 1 → a ≠ b → (TX3 a).2.1 ≠ (TX3 b).2.1 := by decide +kernel
theorem tyX3_ok : ∀ k, k < 1 → parseFieldDescriptor (TX3 k).2.2.1 = some (tyX3 k) := by decide +kernel
abbrev cX3_init : ByteArray := prog_5_method_1_code
def yX3_init : MethodName := ⟨RX3, "<init>", "(I)V"⟩
abbrev cX3_at : ByteArray := prog_5_method_2_code
def yX3_at : MethodName := ⟨RX3, "at", "(I)I"⟩
abbrev cX3_put : ByteArray := prog_5_method_3_code
def yX3_put : MethodName := ⟨RX3, "put", "(II)V"⟩
abbrev cX3_clear : ByteArray := prog_5_method_4_code
def yX3_clear : MethodName := ⟨RX3, "clear", "()V"⟩
def RX4 : String := "FewProducts$Joiner"
def TX4 : u_T := fun k => match k with
  | 0 => ("FewProducts$Joiner", "byZero", "I", false)
  | _ => ("FewProducts$Joiner", "byLike", "I", false)
def tyX4 : Nat → FieldType := fun k => match k with
  | 0 => .int
  | _ => .int
theorem nmX4 : ∀ a, a < 2 → ∀ b, b < 2 → a ≠ b → (TX4 a).2.1 ≠ (TX4 b).2.1 := by decide +kernel
theorem tyX4_ok : ∀ k, k < 2 → parseFieldDescriptor (TX4 k).2.2.1 = some (tyX4 k) := by decide +kernel
abbrev cX4_init : ByteArray := prog_6_method_1_code
def yX4_init : MethodName := ⟨RX4, "<init>", "()V"⟩
abbrev cX4_join : ByteArray := prog_6_method_2_code
def yX4_join : MethodName := ⟨RX4, "join", "(LFewProducts$Scheme;)V"⟩
abbrev cX4_joinFirst : ByteArray := prog_6_method_3_code
def yX4_joinFirst : MethodName := ⟨RX4, "joinFirst", "(LFewProducts$Scheme;)Z"⟩
abbrev cX4_joinTwo : ByteArray := prog_6_method_4_code
def yX4_joinTwo : MethodName := ⟨RX4, "joinTwo", "(LFewProducts$Scheme;III)Z"⟩
abbrev cX4_flipDrawn : ByteArray := prog_6_method_5_code
def yX4_flipDrawn : MethodName := ⟨RX4, "flipDrawn", "(LFewProducts$Scheme;J)Z"⟩
abbrev cX4_flipAt : ByteArray := prog_6_method_6_code
def yX4_flipAt : MethodName := ⟨RX4, "flipAt", "(LFewProducts$Scheme;II)V"⟩
def RX5 : String := "FewProducts$Lifting"
def TX5 : u_T := fun k => match k with
  | 0 => ("FewProducts$Lifting", "reduced", "[J", true)
  | 1 => ("FewProducts$Lifting", "isPivot", "LFewProducts$Ints;", true)
  | 2 => ("FewProducts$Lifting", "column", "[J", true)
  | 3 => ("FewProducts$Lifting", "strides", "LFewProducts$Ints;", true)
  | 4 => ("FewProducts$Lifting", "equations", "I", false)
  | _ => ("FewProducts$Lifting", "rank", "I", false)
def tyX5 : Nat → FieldType := fun k => match k with
  | 0 => .array .long
  | 1 => .object "FewProducts$Ints"
  | 2 => .array .long
  | 3 => .object "FewProducts$Ints"
  | 4 => .int
  | _ => .int
theorem nmX5 : ∀ a, a < 6 → ∀ b, b < 6 → a ≠ b → (TX5 a).2.1 ≠ (TX5 b).2.1 := by decide +kernel
theorem tyX5_ok : ∀ k, k < 6 → parseFieldDescriptor (TX5 k).2.2.1 = some (tyX5 k) := by decide +kernel
abbrev cX5_init : ByteArray := prog_7_method_1_code
def yX5_init : MethodName := ⟨RX5, "<init>", "()V"⟩
abbrev cX5_solve : ByteArray := prog_7_method_2_code
def yX5_solve : MethodName := ⟨RX5, "solve", "(LFewProducts$Scheme;)Z"⟩
abbrev cX5_start : ByteArray := prog_7_method_3_code
def yX5_start : MethodName := ⟨RX5, "start", "(LFewProducts$Scheme;)V"⟩
abbrev cX5_clearColumn : ByteArray := prog_7_method_4_code
def yX5_clearColumn : MethodName := ⟨RX5, "clearColumn", "()V"⟩
abbrev cX5_setBit : ByteArray := prog_7_method_5_code
def yX5_setBit : MethodName := ⟨RX5, "setBit", "(I)V"⟩
abbrev cX5_hasBit : ByteArray := prog_7_method_6_code
def yX5_hasBit : MethodName := ⟨RX5, "hasBit", "(I)Z"⟩
abbrev cX5_setUnknown : ByteArray := prog_7_method_7_code
def yX5_setUnknown : MethodName := ⟨RX5, "setUnknown", "(LFewProducts$Scheme;III)V"⟩
abbrev cX5_setRightSides : ByteArray := prog_7_method_8_code
def yX5_setRightSides : MethodName := ⟨RX5, "setRightSides", "(LFewProducts$Scheme;)V"⟩
abbrev cX5_takeColumn : ByteArray := prog_7_method_9_code
def yX5_takeColumn : MethodName := ⟨RX5, "takeColumn", "()V"⟩
abbrev cX5_reduce : ByteArray := prog_7_method_10_code
def yX5_reduce : MethodName := ⟨RX5, "reduce", "()I"⟩
abbrev cX5_lessPivot : ByteArray := prog_7_method_11_code
def yX5_lessPivot : MethodName := ⟨RX5, "lessPivot", "(I)V"⟩
def RX6 : String := "FewProducts$Scheme"
def TX6 : u_T := fun k => match k with
  | 0 => ("FewProducts$Scheme", "forms", "LFewProducts$Ints;", true)
  | 1 => ("FewProducts$Scheme", "n", "I", false)
  | 2 => ("FewProducts$Scheme", "m", "I", false)
  | 3 => ("FewProducts$Scheme", "p", "I", false)
  | 4 => ("FewProducts$Scheme", "q", "I", false)
  | _ => ("FewProducts$Scheme", "size", "I", false)
def tyX6 : Nat → FieldType := fun k => match k with
  | 0 => .object "FewProducts$Ints"
  | 1 => .int
  | 2 => .int
  | 3 => .int
  | 4 => .int
  | _ => .int
theorem nmX6 : ∀ a, a < 6 → ∀ b, b < 6 → a ≠ b → (TX6 a).2.1 ≠ (TX6 b).2.1 := by decide +kernel
theorem tyX6_ok : ∀ k, k < 6 → parseFieldDescriptor (TX6 k).2.2.1 = some (tyX6 k) := by decide +kernel
abbrev cX6_init : ByteArray := prog_8_method_1_code
def yX6_init : MethodName := ⟨RX6, "<init>", "()V"⟩
abbrev cX6_makePlain : ByteArray := prog_8_method_2_code
def yX6_makePlain : MethodName := ⟨RX6, "makePlain", "(IIII)V"⟩
abbrev cX6_addPlain : ByteArray := prog_8_method_3_code
def yX6_addPlain : MethodName := ⟨RX6, "addPlain", "(I)V"⟩
abbrev cX6_addOnes : ByteArray := prog_8_method_4_code
def yX6_addOnes : MethodName := ⟨RX6, "addOnes", "(III)V"⟩
abbrev cX6_addZero : ByteArray := prog_8_method_5_code
def yX6_addZero : MethodName := ⟨RX6, "addZero", "()Z"⟩
abbrev cX6_addFrom : ByteArray := prog_8_method_6_code
def yX6_addFrom : MethodName := ⟨RX6, "addFrom", "(LFewProducts$Scheme;I)V"⟩
abbrev cX6_remove : ByteArray := prog_8_method_7_code
def yX6_remove : MethodName := ⟨RX6, "remove", "(I)V"⟩
abbrev cX6_takeShape : ByteArray := prog_8_method_8_code
def yX6_takeShape : MethodName := ⟨RX6, "takeShape", "(LFewProducts$Scheme;)V"⟩
abbrev cX6_takeAll : ByteArray := prog_8_method_9_code
def yX6_takeAll : MethodName := ⟨RX6, "takeAll", "(LFewProducts$Scheme;)V"⟩
abbrev cX6_hasShapeOf : ByteArray := prog_8_method_10_code
def yX6_hasShapeOf : MethodName := ⟨RX6, "hasShapeOf", "(LFewProducts$Scheme;)Z"⟩
abbrev cX6_isFull : ByteArray := prog_8_method_11_code
def yX6_isFull : MethodName := ⟨RX6, "isFull", "()Z"⟩
abbrev cX6_isProduct : ByteArray := prog_8_method_12_code
def yX6_isProduct : MethodName := ⟨RX6, "isProduct", "(I)Z"⟩
abbrev cX6_rows : ByteArray := prog_8_method_14_code
def yX6_rows : MethodName := ⟨RX6, "rows", "(I)I"⟩
abbrev cX6_columns : ByteArray := prog_8_method_15_code
def yX6_columns : MethodName := ⟨RX6, "columns", "(I)I"⟩
abbrev cX6_places : ByteArray := prog_8_method_16_code
def yX6_places : MethodName := ⟨RX6, "places", "(I)I"⟩
abbrev cX6_rowOf : ByteArray := prog_8_method_17_code
def yX6_rowOf : MethodName := ⟨RX6, "rowOf", "(II)I"⟩
abbrev cX6_columnOf : ByteArray := prog_8_method_18_code
def yX6_columnOf : MethodName := ⟨RX6, "columnOf", "(II)I"⟩
abbrev cX6_formAt : ByteArray := prog_8_method_19_code
def yX6_formAt : MethodName := ⟨RX6, "formAt", "(II)I"⟩
abbrev cX6_setForm : ByteArray := prog_8_method_20_code
def yX6_setForm : MethodName := ⟨RX6, "setForm", "(III)V"⟩
abbrev cX6_givenAt : ByteArray := prog_8_method_21_code
def yX6_givenAt : MethodName := ⟨RX6, "givenAt", "(III)I"⟩
abbrev cX6_meetAt : ByteArray := prog_8_method_22_code
def yX6_meetAt : MethodName := ⟨RX6, "meetAt", "(III)I"⟩
abbrev cX6_neededAt : ByteArray := prog_8_method_23_code
def yX6_neededAt : MethodName := ⟨RX6, "neededAt", "(III)I"⟩
abbrev cX6_isRight : ByteArray := prog_8_method_24_code
def yX6_isRight : MethodName := ⟨RX6, "isRight", "()Z"⟩
abbrev cX6_hasZero : ByteArray := prog_8_method_25_code
def yX6_hasZero : MethodName := ⟨RX6, "hasZero", "(I)Z"⟩
abbrev cX6_firstZero : ByteArray := prog_8_method_26_code
def yX6_firstZero : MethodName := ⟨RX6, "firstZero", "()I"⟩
abbrev cX6_zeros : ByteArray := prog_8_method_27_code
def yX6_zeros : MethodName := ⟨RX6, "zeros", "()I"⟩
abbrev cX6_notZero : ByteArray := prog_8_method_28_code
def yX6_notZero : MethodName := ⟨RX6, "notZero", "()I"⟩
abbrev cX6_singles : ByteArray := prog_8_method_29_code
def yX6_singles : MethodName := ⟨RX6, "singles", "()I"⟩
abbrev cX6_likeBy : ByteArray := prog_8_method_32_code
def yX6_likeBy : MethodName := ⟨RX6, "likeBy", "(III)I"⟩
abbrev cX6_isLike : ByteArray := prog_8_method_33_code
def yX6_isLike : MethodName := ⟨RX6, "isLike", "(ILFewProducts$Scheme;I)Z"⟩
abbrev cX6_matches : ByteArray := prog_8_method_34_code
def yX6_matches : MethodName := ⟨RX6, "matches", "(LFewProducts$Scheme;)I"⟩
abbrev cX6_othersThan : ByteArray := prog_8_method_35_code
def yX6_othersThan : MethodName := ⟨RX6, "othersThan", "(LFewProducts$Scheme;)I"⟩
abbrev cX6_groupOf : ByteArray := prog_8_method_36_code
def yX6_groupOf : MethodName := ⟨RX6, "groupOf", "(II)J"⟩
abbrev cX6_unlikeForms : ByteArray := prog_8_method_37_code
def yX6_unlikeForms : MethodName := ⟨RX6, "unlikeForms", "(I)I"⟩
abbrev cX6_flipsAt : ByteArray := prog_8_method_38_code
def yX6_flipsAt : MethodName := ⟨RX6, "flipsAt", "(I)I"⟩
abbrev cX6_turnFlip : ByteArray := prog_8_method_39_code
def yX6_turnFlip : MethodName := ⟨RX6, "turnFlip", "(III)V"⟩
def RX7 : String := "FewProducts$Shedder"
def TX7 : u_T := fun k => match k with
  | 0 => ("FewProducts$Shedder", "basis", "LFewProducts$Basis;", true)
  | 1 => ("FewProducts$Shedder", "taken", "LFewProducts$Ints;", true)
  | _ => ("FewProducts$Shedder", "went", "LFewProducts$Ints;", true)
def tyX7 : Nat → FieldType := fun k => match k with
  | 0 => .object "FewProducts$Basis"
  | 1 => .object "FewProducts$Ints"
  | _ => .object "FewProducts$Ints"
theorem nmX7 : ∀ a, a < 3 → ∀ b, b < 3 → a ≠ b → (TX7 a).2.1 ≠ (TX7 b).2.1 := by decide +kernel
theorem tyX7_ok : ∀ k, k < 3 → parseFieldDescriptor (TX7 k).2.2.1 = some (tyX7 k) := by decide +kernel
abbrev cX7_init : ByteArray := prog_9_method_1_code
def yX7_init : MethodName := ⟨RX7, "<init>", "()V"⟩
abbrev cX7_shedFirst : ByteArray := prog_9_method_2_code
def yX7_shedFirst : MethodName := ⟨RX7, "shedFirst", "(LFewProducts$Scheme;)Z"⟩
abbrev cX7_isSumOfAhead : ByteArray := prog_9_method_3_code
def yX7_isSumOfAhead : MethodName := ⟨RX7, "isSumOfAhead", "(LFewProducts$Scheme;III)Z"⟩
abbrev cX7_share : ByteArray := prog_9_method_4_code
def yX7_share : MethodName := ⟨RX7, "share", "(LFewProducts$Scheme;II)V"⟩
def RX8 : String := "FewProducts$Text"
def TX8 : u_T := fun k => match k with
  | 0 => ("FewProducts$Text", "signs", "LFewProducts$Ints;", true)
  | 1 => ("FewProducts$Text", "length", "I", false)
  | 2 => ("FewProducts$Text", "at", "I", false)
  | _ => ("FewProducts$Text", "form", "I", false)
def tyX8 : Nat → FieldType := fun k => match k with
  | 0 => .object "FewProducts$Ints"
  | 1 => .int
  | 2 => .int
  | _ => .int
theorem nmX8 : ∀ a, a < 4 → ∀ b, b < 4 → a ≠ b → (TX8 a).2.1 ≠ (TX8 b).2.1 := by decide +kernel
theorem tyX8_ok : ∀ k, k < 4 → parseFieldDescriptor (TX8 k).2.2.1 = some (tyX8 k) := by decide +kernel
abbrev cX8_init : ByteArray := prog_10_method_1_code
def yX8_init : MethodName := ⟨RX8, "<init>", "()V"⟩
abbrev cX8_addFour : ByteArray := prog_10_method_2_code
def yX8_addFour : MethodName := ⟨RX8, "addFour", "(I)Z"⟩
abbrev cX8_cut : ByteArray := prog_10_method_3_code
def yX8_cut : MethodName := ⟨RX8, "cut", "(I)Z"⟩
abbrev cX8_empty : ByteArray := prog_10_method_4_code
def yX8_empty : MethodName := ⟨RX8, "empty", "()V"⟩
abbrev cX8_readProduct : ByteArray := prog_10_method_6_code
def yX8_readProduct : MethodName := ⟨RX8, "readProduct", "(LFewProducts$Scheme;)I"⟩
abbrev cX8_readForm : ByteArray := prog_10_method_7_code
def yX8_readForm : MethodName := ⟨RX8, "readForm", "(LFewProducts$Scheme;I)I"⟩
abbrev cX8_readNumbers : ByteArray := prog_10_method_8_code
def yX8_readNumbers : MethodName := ⟨RX8, "readNumbers", "(LFewProducts$Ints;II)I"⟩
abbrev cX8_restFault : ByteArray := prog_10_method_9_code
def yX8_restFault : MethodName := ⟨RX8, "restFault", "()I"⟩
abbrev cX8_peek : ByteArray := prog_10_method_10_code
def yX8_peek : MethodName := ⟨RX8, "peek", "()I"⟩
abbrev cX8_take : ByteArray := prog_10_method_11_code
def yX8_take : MethodName := ⟨RX8, "take", "(C)Z"⟩
abbrev cX8_takeProduct : ByteArray := prog_10_method_12_code
def yX8_takeProduct : MethodName := ⟨RX8, "takeProduct", "(LFewProducts$Scheme;)Z"⟩
abbrev cX8_takeForm : ByteArray := prog_10_method_13_code
def yX8_takeForm : MethodName := ⟨RX8, "takeForm", "(LFewProducts$Scheme;I)Z"⟩
abbrev cX8_takeTerm : ByteArray := prog_10_method_14_code
def yX8_takeTerm : MethodName := ⟨RX8, "takeTerm", "(LFewProducts$Scheme;II)Z"⟩
def RX9 : String := "FewProducts$Told"
def TX9 : u_T := fun k => match k with
  | 0 => ("FewProducts$Told", "numbers", "[J", true)
  | _ => ("FewProducts$Told", "size", "I", false)
def tyX9 : Nat → FieldType := fun k => match k with
  | 0 => .array .long
  | _ => .int
theorem nmX9 : ∀ a, a < 2 → ∀ b, b < 2 → a ≠ b → (TX9 a).2.1 ≠ (TX9 b).2.1 := by decide +kernel
theorem tyX9_ok : ∀ k, k < 2 → parseFieldDescriptor (TX9 k).2.2.1 = some (tyX9 k) := by decide +kernel
abbrev cX9_init : ByteArray := prog_11_method_1_code
def yX9_init : MethodName := ⟨RX9, "<init>", "()V"⟩
abbrev cX9_clear : ByteArray := prog_11_method_2_code
def yX9_clear : MethodName := ⟨RX9, "clear", "()V"⟩
abbrev cX9_add : ByteArray := prog_11_method_3_code
def yX9_add : MethodName := ⟨RX9, "add", "(J)V"⟩
abbrev cX9_at : ByteArray := prog_11_method_4_code
def yX9_at : MethodName := ⟨RX9, "at", "(I)J"⟩
def RX10 : String := "FewProducts$Turns"
def TX10 : u_T := fun k => match k with
  | _ => ("", "", "", false)
def tyX10 : Nat → FieldType := fun k => match k with
  | _ => .int
theorem nmX10 : ∀ a, a < 0 → ∀ b, b < 0 → a ≠ b → (TX10 a).2.1 ≠ (TX10 b).2.1 := by decide +kernel
theorem tyX10_ok : ∀ k, k < 0 → parseFieldDescriptor (TX10 k).2.2.1 = some (tyX10 k) := by decide +kernel
abbrev cX10_roll : ByteArray := prog_12_method_2_code
def yX10_roll : MethodName := ⟨RX10, "roll", "(LFewProducts$Scheme;)V"⟩
abbrev cX10_mirror : ByteArray := prog_12_method_3_code
def yX10_mirror : MethodName := ⟨RX10, "mirror", "(LFewProducts$Scheme;)V"⟩
abbrev cX10_transposed : ByteArray := prog_12_method_4_code
def yX10_transposed : MethodName := ⟨RX10, "transposed", "(III)I"⟩
abbrev cX10_shear : ByteArray := prog_12_method_5_code
def yX10_shear : MethodName := ⟨RX10, "shear", "(LFewProducts$Scheme;IIII)V"⟩
abbrev cX10_addTimes : ByteArray := prog_12_method_6_code
def yX10_addTimes : MethodName := ⟨RX10, "addTimes", "(IIIII)I"⟩
abbrev cX10_narrow : ByteArray := prog_12_method_9_code
def yX10_narrow : MethodName := ⟨RX10, "narrow", "(LFewProducts$Scheme;II)V"⟩
abbrev cX10_withoutRow : ByteArray := prog_12_method_10_code
def yX10_withoutRow : MethodName := ⟨RX10, "withoutRow", "(III)I"⟩
abbrev cX10_withoutColumn : ByteArray := prog_12_method_11_code
def yX10_withoutColumn : MethodName := ⟨RX10, "withoutColumn", "(IIII)I"⟩
abbrev cX10_widen : ByteArray := prog_12_method_12_code
def yX10_widen : MethodName := ⟨RX10, "widen", "(LFewProducts$Scheme;I)V"⟩
abbrev cX10_stretch : ByteArray := prog_12_method_13_code
def yX10_stretch : MethodName := ⟨RX10, "stretch", "(LFewProducts$Scheme;II)V"⟩
def RX11 : String := "FewProducts"
def TX11 : u_T := fun k => match k with
  | 0 => ("FewProducts", "text", "LFewProducts$Text;", true)
  | 1 => ("FewProducts", "told", "LFewProducts$Told;", true)
  | 2 => ("FewProducts", "now", "LFewProducts$Scheme;", true)
  | 3 => ("FewProducts", "kept", "LFewProducts$Scheme;", true)
  | 4 => ("FewProducts", "spare", "LFewProducts$Scheme;", true)
  | 5 => ("FewProducts", "factors", "LFewProducts$Factors;", true)
  | 6 => ("FewProducts", "joiner", "LFewProducts$Joiner;", true)
  | 7 => ("FewProducts", "shedder", "LFewProducts$Shedder;", true)
  | 8 => ("FewProducts", "basis", "LFewProducts$Basis;", true)
  | 9 => ("FewProducts", "lifting", "LFewProducts$Lifting;", true)
  | _ => ("FewProducts", "isKept", "Z", false)
def tyX11 : Nat → FieldType := fun k => match k with
  | 0 => .object "FewProducts$Text"
  | 1 => .object "FewProducts$Told"
  | 2 => .object "FewProducts$Scheme"
  | 3 => .object "FewProducts$Scheme"
  | 4 => .object "FewProducts$Scheme"
  | 5 => .object "FewProducts$Factors"
  | 6 => .object "FewProducts$Joiner"
  | 7 => .object "FewProducts$Shedder"
  | 8 => .object "FewProducts$Basis"
  | 9 => .object "FewProducts$Lifting"
  | _ => .boolean
theorem nmX11 : ∀ a, a < 11 → ∀ b, b < 11 → a ≠ b → (TX11 a).2.1 ≠ (TX11 b).2.1 := by decide +kernel
theorem tyX11_ok : ∀ k, k < 11 → parseFieldDescriptor (TX11 k).2.2.1 = some (tyX11 k) := by decide +kernel
abbrev cX11_init : ByteArray := prog_1_method_1_code
def yX11_init : MethodName := ⟨RX11, "<init>", "()V"⟩
abbrev cX11_format : ByteArray := prog_1_method_2_code
def yX11_format : MethodName := ⟨RX11, "format", "(IIII)I"⟩
abbrev cX11_sign : ByteArray := prog_1_method_3_code
def yX11_sign : MethodName := ⟨RX11, "sign", "(I)I"⟩
abbrev cX11_end : ByteArray := prog_1_method_4_code
def yX11_end : MethodName := ⟨RX11, "end", "(I)Z"⟩
abbrev cX11_adds : ByteArray := prog_1_method_6_code
def yX11_adds : MethodName := ⟨RX11, "adds", "()I"⟩
abbrev cX11_drops : ByteArray := prog_1_method_7_code
def yX11_drops : MethodName := ⟨RX11, "drops", "(I)I"⟩
abbrev cX11_checks : ByteArray := prog_1_method_10_code
def yX11_checks : MethodName := ⟨RX11, "checks", "()I"⟩
abbrev cX11_multiplies : ByteArray := prog_1_method_12_code
def yX11_multiplies : MethodName := ⟨RX11, "multiplies", "()I"⟩
abbrev cX11_like : ByteArray := prog_1_method_14_code
def yX11_like : MethodName := ⟨RX11, "like", "(III)I"⟩
abbrev cX11_flip : ByteArray := prog_1_method_16_code
def yX11_flip : MethodName := ⟨RX11, "flip", "(III)I"⟩
abbrev cX11_joins : ByteArray := prog_1_method_17_code
def yX11_joins : MethodName := ⟨RX11, "joins", "()I"⟩
abbrev cX11_sheds : ByteArray := prog_1_method_18_code
def yX11_sheds : MethodName := ⟨RX11, "sheds", "()I"⟩
abbrev cX11_splits : ByteArray := prog_1_method_19_code
def yX11_splits : MethodName := ⟨RX11, "splits", "(II)I"⟩
abbrev cX11_plus : ByteArray := prog_1_method_20_code
def yX11_plus : MethodName := ⟨RX11, "plus", "(III)I"⟩
abbrev cX11_narrows : ByteArray := prog_1_method_22_code
def yX11_narrows : MethodName := ⟨RX11, "narrows", "(II)I"⟩
abbrev cX11_widens : ByteArray := prog_1_method_23_code
def yX11_widens : MethodName := ⟨RX11, "widens", "(I)I"⟩
abbrev cX11_walks : ByteArray := prog_1_method_24_code
def yX11_walks : MethodName := ⟨RX11, "walks", "(II)I"⟩
abbrev cX11_rolls : ByteArray := prog_1_method_25_code
def yX11_rolls : MethodName := ⟨RX11, "rolls", "()I"⟩
abbrev cX11_mirrors : ByteArray := prog_1_method_26_code
def yX11_mirrors : MethodName := ⟨RX11, "mirrors", "()I"⟩
abbrev cX11_shears : ByteArray := prog_1_method_27_code
def yX11_shears : MethodName := ⟨RX11, "shears", "(IIII)I"⟩
abbrev cX11_groups : ByteArray := prog_1_method_32_code
def yX11_groups : MethodName := ⟨RX11, "groups", "(I)I"⟩
abbrev cX11_spans : ByteArray := prog_1_method_33_code
def yX11_spans : MethodName := ⟨RX11, "spans", "(I)I"⟩
abbrev cX11_keeps : ByteArray := prog_1_method_34_code
def yX11_keeps : MethodName := ⟨RX11, "keeps", "()I"⟩
abbrev cX11_others : ByteArray := prog_1_method_35_code
def yX11_others : MethodName := ⟨RX11, "others", "()I"⟩
abbrev cX11_unlikes : ByteArray := prog_1_method_36_code
def yX11_unlikes : MethodName := ⟨RX11, "unlikes", "()I"⟩
abbrev cX11_back : ByteArray := prog_1_method_37_code
def yX11_back : MethodName := ⟨RX11, "back", "()I"⟩
abbrev cX11_lifts : ByteArray := prog_1_method_38_code
def yX11_lifts : MethodName := ⟨RX11, "lifts", "()I"⟩
abbrev cX11_count : ByteArray := prog_1_method_39_code
def yX11_count : MethodName := ⟨RX11, "count", "(I)I"⟩
abbrev cX11_row : ByteArray := prog_1_method_40_code
def yX11_row : MethodName := ⟨RX11, "row", "(I)J"⟩
abbrev cX11_isSize : ByteArray := prog_1_method_41_code
def yX11_isSize : MethodName := ⟨RX11, "isSize", "(I)Z"⟩
abbrev cX11_isTable : ByteArray := prog_1_method_42_code
def yX11_isTable : MethodName := ⟨RX11, "isTable", "(I)Z"⟩
abbrev cX11_isLine : ByteArray := prog_1_method_43_code
def yX11_isLine : MethodName := ⟨RX11, "isLine", "(II)Z"⟩
abbrev cX11_isFactor : ByteArray := prog_1_method_44_code
def yX11_isFactor : MethodName := ⟨RX11, "isFactor", "(I)Z"⟩
abbrev cX11_behind : ByteArray := prog_1_method_45_code
def yX11_behind : MethodName := ⟨RX11, "behind", "(I)I"⟩
abbrev cX11_ahead : ByteArray := prog_1_method_46_code
def yX11_ahead : MethodName := ⟨RX11, "ahead", "(I)I"⟩
abbrev cX11_bit : ByteArray := prog_1_method_47_code
def yX11_bit : MethodName := ⟨RX11, "bit", "(I)J"⟩
abbrev cX11_tellFirst : ByteArray := prog_1_method_49_code
def yX11_tellFirst : MethodName := ⟨RX11, "tellFirst", "(IIII)V"⟩
abbrev cX11_tellThree : ByteArray := prog_1_method_50_code
def yX11_tellThree : MethodName := ⟨RX11, "tellThree", "(III)V"⟩
def RX12 : String := "FewProductsModel"
def TX12 : u_T := fun k => match k with
  | _ => ("", "", "", false)
def tyX12 : Nat → FieldType := fun k => match k with
  | _ => .int
theorem nmX12 : ∀ a, a < 0 → ∀ b, b < 0 → a ≠ b → (TX12 a).2.1 ≠ (TX12 b).2.1 := by decide +kernel
theorem tyX12_ok : ∀ k, k < 0 → parseFieldDescriptor (TX12 k).2.2.1 = some (tyX12 k) := by decide +kernel
def RJx145de : String := "java/io/Serializable"
def RJ5 : String := "java/lang/AbstractStringBuilder"
abbrev cJ5_init_d00df : ByteArray := prog_16_method_2_code
def yJ5_init_d00df : MethodName := ⟨RJ5, "<init>", "(I)V"⟩
abbrev cJ5_init_a7421 : ByteArray := prog_16_method_3_code
def yJ5_init_a7421 : MethodName := ⟨RJ5, "<init>", "(Ljava/lang/String;)V"⟩
abbrev cJ5_length_8abf5 : ByteArray := prog_16_method_6_code
def yJ5_length_8abf5 : MethodName := ⟨RJ5, "length", "()I"⟩
abbrev cJ5_ensureCapacityInternal_d00df : ByteArray := prog_16_method_9_code
def yJ5_ensureCapacityInternal_d00df : MethodName := ⟨RJ5, "ensureCapacityInternal", "(I)V"⟩
abbrev cJ5_newCapacity_0f7a4 : ByteArray := prog_16_method_10_code
def yJ5_newCapacity_0f7a4 : MethodName := ⟨RJ5, "newCapacity", "(I)I"⟩
abbrev cJ5_inflate_da8c8 : ByteArray := prog_16_method_11_code
def yJ5_inflate_da8c8 : MethodName := ⟨RJ5, "inflate", "()V"⟩
abbrev cJ5_append_cf1ce : ByteArray := prog_16_method_22_code
def yJ5_append_cf1ce : MethodName := ⟨RJ5, "append", "(Ljava/lang/String;)Ljava/lang/AbstractStringBuilder;"⟩
abbrev cJ5_appendNull_278bc : ByteArray := prog_16_method_26_code
def yJ5_appendNull_278bc : MethodName := ⟨RJ5, "appendNull", "()Ljava/lang/AbstractStringBuilder;"⟩
abbrev cJ5_append_3fe6f : ByteArray := prog_16_method_31_code
def yJ5_append_3fe6f : MethodName := ⟨RJ5, "append", "(C)Ljava/lang/AbstractStringBuilder;"⟩
abbrev cJ5_append_c97b9 : ByteArray := prog_16_method_32_code
def yJ5_append_c97b9 : MethodName := ⟨RJ5, "append", "(I)Ljava/lang/AbstractStringBuilder;"⟩
abbrev cJ5_getValue_6d5f1 : ByteArray := prog_16_method_64_code
def yJ5_getValue_6d5f1 : MethodName := ⟨RJ5, "getValue", "()[B"⟩
abbrev cJ5_isLatin1_aae02 : ByteArray := prog_16_method_68_code
def yJ5_isLatin1_aae02 : MethodName := ⟨RJ5, "isLatin1", "()Z"⟩
abbrev cJ5_inflateIfNeededFor_a7421 : ByteArray := prog_16_method_71_code
def yJ5_inflateIfNeededFor_a7421 : MethodName := ⟨RJ5, "inflateIfNeededFor", "(Ljava/lang/String;)V"⟩
abbrev cJ5_putStringAt_47b60 : ByteArray := prog_16_method_73_code
def yJ5_putStringAt_47b60 : MethodName := ⟨RJ5, "putStringAt", "(ILjava/lang/String;)V"⟩
def RJx2cfe8 : String := "java/lang/Appendable"
def RJx9f9b0 : String := "java/lang/CharSequence"
def RJx8e188 : String := "java/lang/Cloneable"
def RJxb160c : String := "java/lang/Comparable"
def RJ6 : String := "java/lang/Integer"
abbrev cJ6_getChars_ba4f3 : ByteArray := prog_22_method_12_code
def yJ6_getChars_ba4f3 : MethodName := ⟨RJ6, "getChars", "(II[B)I"⟩
abbrev cJ6_stringSize_0f7a4 : ByteArray := prog_22_method_13_code
def yJ6_stringSize_0f7a4 : MethodName := ⟨RJ6, "stringSize", "(I)I"⟩
abbrev cJ6_bitCount_0f7a4 : ByteArray := prog_22_method_49_code
def yJ6_bitCount_0f7a4 : MethodName := ⟨RJ6, "bitCount", "(I)I"⟩
def RJ13 : String := "java/lang/Long"
abbrev cJ13_bitCount_95d88 : ByteArray := prog_23_method_50_code
def yJ13_bitCount_95d88 : MethodName := ⟨RJ13, "bitCount", "(J)I"⟩
def RJ9 : String := "java/lang/Math"
abbrev cJ9_floorMod_7cf53 : ByteArray := prog_24_method_50_code
def yJ9_floorMod_7cf53 : MethodName := ⟨RJ9, "floorMod", "(II)I"⟩
abbrev cJ9_max_7cf53 : ByteArray := prog_24_method_65_code
def yJ9_max_7cf53 : MethodName := ⟨RJ9, "max", "(II)I"⟩
abbrev cJ9_min_7cf53 : ByteArray := prog_24_method_69_code
def yJ9_min_7cf53 : MethodName := ⟨RJ9, "min", "(II)I"⟩
def RJxd2413 : String := "java/lang/Number"
def RJ0 : String := "java/lang/String"
def TJ0 : u_T := fun k => match k with
  | 0 => ("java/lang/String", "value", "[B", true)
  | 1 => ("java/lang/String", "coder", "B", true)
  | 2 => ("java/lang/String", "hash", "I", false)
  | _ => ("java/lang/String", "hashIsZero", "Z", false)
def tyJ0 : Nat → FieldType := fun k => match k with
  | 0 => .array .byte
  | 1 => .byte
  | 2 => .int
  | _ => .boolean
theorem nmJ0 : ∀ a, a < 4 → ∀ b, b < 4 → a ≠ b → (TJ0 a).2.1 ≠ (TJ0 b).2.1 := by decide +kernel
theorem tyJ0_ok : ∀ k, k < 4 → parseFieldDescriptor (TJ0 k).2.2.1 = some (tyJ0 k) := by decide +kernel
abbrev cJ0_init_81219 : ByteArray := prog_27_method_53_code
def yJ0_init_81219 : MethodName := ⟨RJ0, "<init>", "(Ljava/lang/StringBuilder;)V"⟩
abbrev cJ0_length_8abf5 : ByteArray := prog_27_method_54_code
def yJ0_length_8abf5 : MethodName := ⟨RJ0, "length", "()I"⟩
abbrev cJ0_charAt_5068e : ByteArray := prog_27_method_56_code
def yJ0_charAt_5068e : MethodName := ⟨RJ0, "charAt", "(I)C"⟩
abbrev cJ0_getBytes_840e7 : ByteArray := prog_27_method_147_code
def yJ0_getBytes_840e7 : MethodName := ⟨RJ0, "getBytes", "([BIB)V"⟩
abbrev cJ0_init_db425 : ByteArray := prog_27_method_150_code
def yJ0_init_db425 : MethodName := ⟨RJ0, "<init>", "(Ljava/lang/AbstractStringBuilder;Ljava/lang/Void;)V"⟩
abbrev cJ0_coder_7d493 : ByteArray := prog_27_method_152_code
def yJ0_coder_7d493 : MethodName := ⟨RJ0, "coder", "()B"⟩
abbrev cJ0_isLatin1_aae02 : ByteArray := prog_27_method_154_code
def yJ0_isLatin1_aae02 : MethodName := ⟨RJ0, "isLatin1", "()Z"⟩
abbrev cJ0_checkIndex_df160 : ByteArray := prog_27_method_155_code
def yJ0_checkIndex_df160 : MethodName := ⟨RJ0, "checkIndex", "(II)V"⟩
abbrev cJ0_checkBoundsOffCount_cabcc : ByteArray := prog_27_method_157_code
def yJ0_checkBoundsOffCount_cabcc : MethodName := ⟨RJ0, "checkBoundsOffCount", "(III)I"⟩
abbrev cJ0_checkBoundsBeginEnd_23922 : ByteArray := prog_27_method_158_code
def yJ0_checkBoundsBeginEnd_23922 : MethodName := ⟨RJ0, "checkBoundsBeginEnd", "(III)V"⟩
def RJ4 : String := "java/lang/StringBuilder"
def TJ4 : u_T := fun k => match k with
  | 0 => ("java/lang/AbstractStringBuilder", "value", "[B", false)
  | 1 => ("java/lang/AbstractStringBuilder", "coder", "B", false)
  | 2 => ("java/lang/AbstractStringBuilder", "maybeLatin1", "Z", false)
  | _ => ("java/lang/AbstractStringBuilder", "count", "I", false)
def tyJ4 : Nat → FieldType := fun k => match k with
  | 0 => .array .byte
  | 1 => .byte
  | 2 => .boolean
  | _ => .int
theorem nmJ4 : ∀ a, a < 4 → ∀ b, b < 4 → a ≠ b → (TJ4 a).2.1 ≠ (TJ4 b).2.1 := by decide +kernel
theorem tyJ4_ok : ∀ k, k < 4 → parseFieldDescriptor (TJ4 k).2.2.1 = some (tyJ4 k) := by decide +kernel
abbrev cJ4_init_da8c8 : ByteArray := prog_28_method_1_code
def yJ4_init_da8c8 : MethodName := ⟨RJ4, "<init>", "()V"⟩
abbrev cJ4_init_a7421 : ByteArray := prog_28_method_3_code
def yJ4_init_a7421 : MethodName := ⟨RJ4, "<init>", "(Ljava/lang/String;)V"⟩
abbrev cJ4_append_15ec4 : ByteArray := prog_28_method_7_code
def yJ4_append_15ec4 : MethodName := ⟨RJ4, "append", "(Ljava/lang/String;)Ljava/lang/StringBuilder;"⟩
abbrev cJ4_append_cf468 : ByteArray := prog_28_method_14_code
def yJ4_append_cf468 : MethodName := ⟨RJ4, "append", "(C)Ljava/lang/StringBuilder;"⟩
abbrev cJ4_append_bf812 : ByteArray := prog_28_method_15_code
def yJ4_append_bf812 : MethodName := ⟨RJ4, "append", "(I)Ljava/lang/StringBuilder;"⟩
abbrev cJ4_toString_0e30d : ByteArray := prog_28_method_42_code
def yJ4_toString_0e30d : MethodName := ⟨RJ4, "toString", "()Ljava/lang/String;"⟩
abbrev cJ4_append_cf1ce : ByteArray := prog_28_method_80_code
def yJ4_append_cf1ce : MethodName := ⟨RJ4, "append", "(Ljava/lang/String;)Ljava/lang/AbstractStringBuilder;"⟩
abbrev cJ4_length_8abf5 : ByteArray := prog_28_method_93_code
def yJ4_length_8abf5 : MethodName := ⟨RJ4, "length", "()I"⟩
def RJ1 : String := "java/lang/StringLatin1"
abbrev cJ1_charAt_3b067 : ByteArray := prog_29_method_2_code
def yJ1_charAt_3b067 : MethodName := ⟨RJ1, "charAt", "([BI)C"⟩
abbrev cJ1_canEncode_fc78d : ByteArray := prog_29_method_3_code
def yJ1_canEncode_fc78d : MethodName := ⟨RJ1, "canEncode", "(C)Z"⟩
abbrev cJ1_inflate_0e8fd : ByteArray := prog_29_method_50_code
def yJ1_inflate_0e8fd : MethodName := ⟨RJ1, "inflate", "([BI[BII)V"⟩
def RJ2 : String := "java/lang/StringUTF16"
abbrev cJ2_newBytesFor_77867 : ByteArray := prog_30_method_2_code
def yJ2_newBytesFor_77867 : MethodName := ⟨RJ2, "newBytesFor", "(I)[B"⟩
abbrev cJ2_newBytesLength_0f7a4 : ByteArray := prog_30_method_3_code
def yJ2_newBytesLength_0f7a4 : MethodName := ⟨RJ2, "newBytesLength", "(I)I"⟩
abbrev cJ2_putChar_b72d1 : ByteArray := prog_30_method_4_code
def yJ2_putChar_b72d1 : MethodName := ⟨RJ2, "putChar", "([BII)V"⟩
abbrev cJ2_getChar_3b067 : ByteArray := prog_30_method_5_code
def yJ2_getChar_3b067 : MethodName := ⟨RJ2, "getChar", "([BI)C"⟩
abbrev cJ2_length_9d52b : ByteArray := prog_30_method_6_code
def yJ2_length_9d52b : MethodName := ⟨RJ2, "length", "([B)I"⟩
abbrev cJ2_coderFromArrayLen_85cad : ByteArray := prog_30_method_15_code
def yJ2_coderFromArrayLen_85cad : MethodName := ⟨RJ2, "coderFromArrayLen", "([BI)B"⟩
abbrev cJ2_compress_39247 : ByteArray := prog_30_method_17_code
def yJ2_compress_39247 : MethodName := ⟨RJ2, "compress", "([BII)[B"⟩
abbrev cJ2_compress_5af95 : ByteArray := prog_30_method_22_code
def yJ2_compress_5af95 : MethodName := ⟨RJ2, "compress", "([BI[BII)I"⟩
abbrev cJ2_putCharSB_b72d1 : ByteArray := prog_30_method_71_code
def yJ2_putCharSB_b72d1 : MethodName := ⟨RJ2, "putCharSB", "([BII)V"⟩
abbrev cJ2_getChars_46870 : ByteArray := prog_30_method_77_code
def yJ2_getChars_46870 : MethodName := ⟨RJ2, "getChars", "(III[B)I"⟩
abbrev cJ2_putCharsAt_cd4e5 : ByteArray := prog_30_method_81_code
def yJ2_putCharsAt_cd4e5 : MethodName := ⟨RJ2, "putCharsAt", "([BICCCC)I"⟩
abbrev cJ2_charAt_3b067 : ByteArray := prog_30_method_83_code
def yJ2_charAt_3b067 : MethodName := ⟨RJ2, "charAt", "([BI)C"⟩
abbrev cJ2_inflate_0e8fd : ByteArray := prog_30_method_86_code
def yJ2_inflate_0e8fd : MethodName := ⟨RJ2, "inflate", "([BI[BII)V"⟩
abbrev cJ2_getChars_ba4f3 : ByteArray := prog_30_method_89_code
def yJ2_getChars_ba4f3 : MethodName := ⟨RJ2, "getChars", "(II[B)I"⟩
abbrev cJ2_checkIndex_2214a : ByteArray := prog_30_method_91_code
def yJ2_checkIndex_2214a : MethodName := ⟨RJ2, "checkIndex", "(I[B)V"⟩
abbrev cJ2_checkBoundsBeginEnd_d044e : ByteArray := prog_30_method_93_code
def yJ2_checkBoundsBeginEnd_d044e : MethodName := ⟨RJ2, "checkBoundsBeginEnd", "(II[B)V"⟩
abbrev cJ2_checkBoundsOffCount_d044e : ByteArray := prog_30_method_94_code
def yJ2_checkBoundsOffCount_d044e : MethodName := ⟨RJ2, "checkBoundsOffCount", "(II[B)V"⟩
def RJ10 : String := "java/lang/System"
def RJxfd54e : String := "java/lang/constant/Constable"
def RJx3cf43 : String := "java/lang/constant/ConstantDesc"
def RJ7 : String := "java/util/Arrays"
abbrev cJ7_copyOf_9075b : ByteArray := prog_35_method_121_code
def yJ7_copyOf_9075b : MethodName := ⟨RJ7, "copyOf", "([BI)[B"⟩
abbrev cJ7_checkLength_df160 : ByteArray := prog_35_method_131_code
def yJ7_checkLength_df160 : MethodName := ⟨RJ7, "checkLength", "(II)V"⟩
abbrev cJ7_copyOfRange_39247 : ByteArray := prog_35_method_132_code
def yJ7_copyOfRange_39247 : MethodName := ⟨RJ7, "copyOfRange", "([BII)[B"⟩
abbrev cJ7_copyOfRangeByte_39247 : ByteArray := prog_35_method_133_code
def yJ7_copyOfRangeByte_39247 : MethodName := ⟨RJ7, "copyOfRangeByte", "([BII)[B"⟩
def RJ8 : String := "jdk/internal/util/ArraysSupport"
abbrev cJ8_newLength_cabcc : ByteArray := prog_37_method_27_code
def yJ8_newLength_cabcc : MethodName := ⟨RJ8, "newLength", "(III)I"⟩
abbrev cJ8_hugeLength_7cf53 : ByteArray := prog_37_method_28_code
def yJ8_hugeLength_7cf53 : MethodName := ⟨RJ8, "hugeLength", "(II)I"⟩
def RJ3 : String := "jdk/internal/util/Preconditions"
abbrev cJ3_checkIndex_8e157 : ByteArray := prog_38_method_11_code
def yJ3_checkIndex_8e157 : MethodName := ⟨RJ3, "checkIndex", "(IILjava/util/function/BiFunction;)I"⟩
abbrev cJ3_checkFromToIndex_8c36e : ByteArray := prog_38_method_12_code
def yJ3_checkFromToIndex_8c36e : MethodName := ⟨RJ3, "checkFromToIndex", "(IIILjava/util/function/BiFunction;)I"⟩
abbrev cJ3_checkFromIndexSize_8c36e : ByteArray := prog_38_method_13_code
def yJ3_checkFromIndexSize_8c36e : MethodName := ⟨RJ3, "checkFromIndexSize", "(IIILjava/util/function/BiFunction;)I"⟩
def RL : String := "FewProductsLaw"
abbrev cL_cell : ByteArray := method_2_code
def yL_cell : MethodName := ⟨RL, "cell", "([II)I"⟩
abbrev cL_say : ByteArray := method_3_code
def yL_say : MethodName := ⟨RL, "say", "(LFewProducts;Ljava/lang/String;)V"⟩
abbrev cL_form : ByteArray := method_4_code
def yL_form : MethodName := ⟨RL, "form", "(LFewProducts;II)Ljava/lang/String;"⟩
abbrev cL_law : ByteArray := code
def yL_law : MethodName := ⟨RL, "law", "([I)Z"⟩
abbrev vwCl : List vw_C := [(RX0, TX0, 7), (RX1, TX1, 1), (RX3, TX3, 1), (RX4, TX4, 2), (RX5, TX5, 6), (RX6, TX6, 6), (RX7, TX7, 3), (RX8, TX8, 4), (RX9, TX9, 2), (RX11, TX11, 11), (RJ0, TJ0, 4), (RJ4, TJ4, 4)]
/-- the words on private members of nest mates -/
def zNW : List Cond := [.methodLinkNest "FewProducts" 9 ⟨"FewProducts$Text", "<init>", "()V"⟩ "FewProducts", .fieldLinkNest "FewProducts" 90 "FewProducts$Text" "length" "I" "FewProducts", .fieldLinkNest "FewProducts" 242 "FewProducts$Text" "form" "I" "FewProducts", .methodLinkNest "FewProducts" 18 ⟨"FewProducts$Told", "<init>", "()V"⟩ "FewProducts", .fieldLinkNest "FewProducts" 361 "FewProducts$Told" "size" "I" "FewProducts", .methodLinkNest "FewProducts" 25 ⟨"FewProducts$Scheme", "<init>", "()V"⟩ "FewProducts", .fieldLinkNest "FewProducts$Turns" 23 "FewProducts$Scheme" "n" "I" "FewProducts", .fieldLinkNest "FewProducts" 314 "FewProducts$Scheme" "n" "I" "FewProducts", .fieldLinkNest "FewProducts$Turns" 26 "FewProducts$Scheme" "m" "I" "FewProducts", .fieldLinkNest "FewProducts$Factors" 58 "FewProducts$Scheme" "m" "I" "FewProducts", .fieldLinkNest "FewProducts" 317 "FewProducts$Scheme" "m" "I" "FewProducts", .fieldLinkNest "FewProducts$Turns" 29 "FewProducts$Scheme" "p" "I" "FewProducts", .fieldLinkNest "FewProducts$Factors" 61 "FewProducts$Scheme" "p" "I" "FewProducts", .fieldLinkNest "FewProducts" 320 "FewProducts$Scheme" "p" "I" "FewProducts", .fieldLinkNest "FewProducts$Factors" 43 "FewProducts$Scheme" "q" "I" "FewProducts", .fieldLinkNest "FewProducts$Shedder" 62 "FewProducts$Scheme" "q" "I" "FewProducts", .fieldLinkNest "FewProducts$Joiner" 56 "FewProducts$Scheme" "q" "I" "FewProducts", .fieldLinkNest "FewProducts$Turns" 56 "FewProducts$Scheme" "q" "I" "FewProducts", .fieldLinkNest "FewProducts" 135 "FewProducts$Scheme" "q" "I" "FewProducts", .fieldLinkNest "FewProducts$Text" 69 "FewProducts$Scheme" "q" "I" "FewProducts", .fieldLinkNest "FewProducts$Turns" 9 "FewProducts$Scheme" "size" "I" "FewProducts", .fieldLinkNest "FewProducts$Factors" 20 "FewProducts$Scheme" "size" "I" "FewProducts", .fieldLinkNest "FewProducts$Lifting" 34 "FewProducts$Scheme" "size" "I" "FewProducts", .fieldLinkNest "FewProducts$Shedder" 34 "FewProducts$Scheme" "size" "I" "FewProducts", .fieldLinkNest "FewProducts" 83 "FewProducts$Scheme" "size" "I" "FewProducts", .fieldLinkNest "FewProducts$Joiner" 32 "FewProducts$Scheme" "size" "I" "FewProducts", .fieldLinkNest "FewProducts$Text" 59 "FewProducts$Scheme" "size" "I" "FewProducts", .methodLinkNest "FewProducts" 38 ⟨"FewProducts$Factors", "<init>", "()V"⟩ "FewProducts", .fieldLinkNest "FewProducts" 174 "FewProducts$Factors" "numbers" "LFewProducts$Ints;" "FewProducts", .methodLinkNest "FewProducts" 45 ⟨"FewProducts$Joiner", "<init>", "()V"⟩ "FewProducts", .fieldLinkNest "FewProducts" 220 "FewProducts$Joiner" "byZero" "I" "FewProducts", .fieldLinkNest "FewProducts" 223 "FewProducts$Joiner" "byLike" "I" "FewProducts", .methodLinkNest "FewProducts" 52 ⟨"FewProducts$Shedder", "<init>", "()V"⟩ "FewProducts", .methodLinkNest "FewProducts$Shedder" 11 ⟨"FewProducts$Basis", "<init>", "()V"⟩ "FewProducts", .fieldLinkNest "FewProducts$Shedder" 84 "FewProducts$Basis" "size" "I" "FewProducts", .fieldLinkNest "FewProducts" 345 "FewProducts$Basis" "size" "I" "FewProducts", .fieldLinkNest "FewProducts$Shedder" 88 "FewProducts$Basis" "parts" "I" "FewProducts", .fieldLinkNest "FewProducts" 226 "FewProducts$Shedder" "went" "LFewProducts$Ints;" "FewProducts", .methodLinkNest "FewProducts" 59 ⟨"FewProducts$Basis", "<init>", "()V"⟩ "FewProducts", .methodLinkNest "FewProducts" 66 ⟨"FewProducts$Lifting", "<init>", "()V"⟩ "FewProducts", .fieldLinkNest "FewProducts" 358 "FewProducts$Lifting" "rank" "I" "FewProducts", .methodLinkNest "FewProducts$Scheme" 85 ⟨"FewProducts", "behind", "(I)I"⟩ "FewProducts", .methodLinkNest "FewProducts$Joiner" 39 ⟨"FewProducts", "behind", "(I)I"⟩ "FewProducts", .methodLinkNest "FewProducts$Shedder" 30 ⟨"FewProducts", "behind", "(I)I"⟩ "FewProducts", .methodLinkNest "FewProducts$Turns" 46 ⟨"FewProducts", "ahead", "(I)I"⟩ "FewProducts", .methodLinkNest "FewProducts$Scheme" 126 ⟨"FewProducts", "bit", "(I)J"⟩ "FewProducts", .methodLinkNest "FewProducts$Lifting" 78 ⟨"FewProducts", "behind", "(I)I"⟩ "FewProducts", .methodLinkNest "FewProducts$Lifting" 71 ⟨"FewProducts", "bit", "(I)J"⟩ "FewProducts"]
/-- private methods, called on a StringBuilder -/
def zXP : List MethodName := [yJ5_ensureCapacityInternal_d00df, yJ5_newCapacity_0f7a4, yJ5_putStringAt_47b60, yJ5_inflateIfNeededFor_a7421]
def zXT : List Cond := zXP.map (fun y => Cond.selects RJ4 y y)
def zTBL : List Cond := zXT ++ lw_tbl
def zTT : List Cond := zTBL.filter goodWord
theorem zTT_good {w : Cond} (h : w ∈ zTT) : goodWord w = true := (List.mem_filter.mp h).2
theorem zTT_tbl {w : Cond} (h : w ∈ zTT) : w ∈ zTBL := (List.mem_filter.mp h).1
theorem zTT_in {w : Cond} (h : w ∈ lw_tbl) (g : goodWord w = true) : w ∈ zTT := List.mem_filter.mpr ⟨List.mem_append_right _ h, g⟩
theorem zTT_of {w : Cond} (i : Nat) (h : lw_tbl[i]? = some w) (g : goodWord w = true) : w ∈ zTT := zTT_in (List.mem_of_getElem? h) g
theorem zTT_x {y : MethodName} (h : y ∈ zXP) : Cond.selects RJ4 y y ∈ zTT := List.mem_filter.mpr ⟨List.mem_append_left _ (List.mem_map.mpr ⟨y, h, rfl⟩), rfl⟩
