section
-- ===== PART A: goes FIRST, ahead of the names: the tables' words, and 'selects' of the private methods out of them =====
/-- a private method of a class that the tables say can be made, by its rows of tables_1 -/
def lw_okq (q : MethodName × Nat) : Prop := (q.1.cls ≠ "java/lang/invoke/MethodHandle" ∧ q.1.cls ≠ "java/lang/invoke/VarHandle") ∧ Cond.instantiable q.1.cls q.2 ∈ tables_1 ∧ Cond.privateMethod q.1 ∈ tables_1 ∧ Cond.instanceMethod q.1 ∈ tables_1
theorem lw_p0 : lw_okq (⟨"FewProducts$Scheme", "addOnes", "(III)V"⟩, 6) := ⟨⟨by decide +kernel, by decide +kernel⟩, List.mem_of_getElem? (i := 86) (by decide +kernel), List.mem_of_getElem? (i := 252) (by decide +kernel), List.mem_of_getElem? (i := 253) (by decide +kernel)⟩
theorem lw_p1 : lw_okq (⟨"FewProducts$Text", "takeProduct", "(LFewProducts$Scheme;)Z"⟩, 4) := ⟨⟨by decide +kernel, by decide +kernel⟩, List.mem_of_getElem? (i := 39) (by decide +kernel), List.mem_of_getElem? (i := 328) (by decide +kernel), List.mem_of_getElem? (i := 329) (by decide +kernel)⟩
theorem lw_p2 : lw_okq (⟨"FewProducts$Text", "take", "(C)Z"⟩, 4) := ⟨⟨by decide +kernel, by decide +kernel⟩, List.mem_of_getElem? (i := 39) (by decide +kernel), List.mem_of_getElem? (i := 333) (by decide +kernel), List.mem_of_getElem? (i := 334) (by decide +kernel)⟩
theorem lw_p3 : lw_okq (⟨"FewProducts$Text", "peek", "()I"⟩, 4) := ⟨⟨by decide +kernel, by decide +kernel⟩, List.mem_of_getElem? (i := 39) (by decide +kernel), List.mem_of_getElem? (i := 337) (by decide +kernel), List.mem_of_getElem? (i := 338) (by decide +kernel)⟩
theorem lw_p4 : lw_okq (⟨"FewProducts$Text", "takeForm", "(LFewProducts$Scheme;I)Z"⟩, 4) := ⟨⟨by decide +kernel, by decide +kernel⟩, List.mem_of_getElem? (i := 39) (by decide +kernel), List.mem_of_getElem? (i := 345) (by decide +kernel), List.mem_of_getElem? (i := 346) (by decide +kernel)⟩
theorem lw_p5 : lw_okq (⟨"FewProducts$Text", "takeTerm", "(LFewProducts$Scheme;II)Z"⟩, 4) := ⟨⟨by decide +kernel, by decide +kernel⟩, List.mem_of_getElem? (i := 39) (by decide +kernel), List.mem_of_getElem? (i := 349) (by decide +kernel), List.mem_of_getElem? (i := 350) (by decide +kernel)⟩
theorem lw_p6 : lw_okq (⟨"FewProducts$Text", "restFault", "()I"⟩, 4) := ⟨⟨by decide +kernel, by decide +kernel⟩, List.mem_of_getElem? (i := 39) (by decide +kernel), List.mem_of_getElem? (i := 370) (by decide +kernel), List.mem_of_getElem? (i := 371) (by decide +kernel)⟩
theorem lw_p7 : lw_okq (⟨"FewProducts", "tellFirst", "(IIII)V"⟩, 11) := ⟨⟨by decide +kernel, by decide +kernel⟩, List.mem_of_getElem? (i := 31) (by decide +kernel), List.mem_of_getElem? (i := 437) (by decide +kernel), List.mem_of_getElem? (i := 438) (by decide +kernel)⟩
theorem lw_p8 : lw_okq (⟨"FewProducts", "tellThree", "(III)V"⟩, 11) := ⟨⟨by decide +kernel, by decide +kernel⟩, List.mem_of_getElem? (i := 31) (by decide +kernel), List.mem_of_getElem? (i := 441) (by decide +kernel), List.mem_of_getElem? (i := 442) (by decide +kernel)⟩
theorem lw_p9 : lw_okq (⟨"FewProducts$Factors", "weigh", "(III)I"⟩, 1) := ⟨⟨by decide +kernel, by decide +kernel⟩, List.mem_of_getElem? (i := 134) (by decide +kernel), List.mem_of_getElem? (i := 465) (by decide +kernel), List.mem_of_getElem? (i := 466) (by decide +kernel)⟩
theorem lw_p10 : lw_okq (⟨"FewProducts$Shedder", "isSumOfAhead", "(LFewProducts$Scheme;III)Z"⟩, 3) := ⟨⟨by decide +kernel, by decide +kernel⟩, List.mem_of_getElem? (i := 162) (by decide +kernel), List.mem_of_getElem? (i := 558) (by decide +kernel), List.mem_of_getElem? (i := 559) (by decide +kernel)⟩
theorem lw_p11 : lw_okq (⟨"FewProducts$Basis", "reduce", "(I)V"⟩, 7) := ⟨⟨by decide +kernel, by decide +kernel⟩, List.mem_of_getElem? (i := 168) (by decide +kernel), List.mem_of_getElem? (i := 573) (by decide +kernel), List.mem_of_getElem? (i := 574) (by decide +kernel)⟩
theorem lw_p12 : lw_okq (⟨"FewProducts$Shedder", "share", "(LFewProducts$Scheme;II)V"⟩, 3) := ⟨⟨by decide +kernel, by decide +kernel⟩, List.mem_of_getElem? (i := 162) (by decide +kernel), List.mem_of_getElem? (i := 592) (by decide +kernel), List.mem_of_getElem? (i := 593) (by decide +kernel)⟩
theorem lw_p13 : lw_okq (⟨"FewProducts", "isLine", "(II)Z"⟩, 11) := ⟨⟨by decide +kernel, by decide +kernel⟩, List.mem_of_getElem? (i := 31) (by decide +kernel), List.mem_of_getElem? (i := 623) (by decide +kernel), List.mem_of_getElem? (i := 624) (by decide +kernel)⟩
theorem lw_p14 : lw_okq (⟨"FewProducts", "isFactor", "(I)Z"⟩, 11) := ⟨⟨by decide +kernel, by decide +kernel⟩, List.mem_of_getElem? (i := 31) (by decide +kernel), List.mem_of_getElem? (i := 697) (by decide +kernel), List.mem_of_getElem? (i := 698) (by decide +kernel)⟩
theorem lw_p15 : lw_okq (⟨"FewProducts$Lifting", "start", "(LFewProducts$Scheme;)V"⟩, 6) := ⟨⟨by decide +kernel, by decide +kernel⟩, List.mem_of_getElem? (i := 216) (by decide +kernel), List.mem_of_getElem? (i := 785) (by decide +kernel), List.mem_of_getElem? (i := 786) (by decide +kernel)⟩
def lw_privs_1 : List (MethodName × Nat) := [(⟨"FewProducts$Scheme", "addOnes", "(III)V"⟩, 6), (⟨"FewProducts$Text", "takeProduct", "(LFewProducts$Scheme;)Z"⟩, 4), (⟨"FewProducts$Text", "take", "(C)Z"⟩, 4), (⟨"FewProducts$Text", "peek", "()I"⟩, 4), (⟨"FewProducts$Text", "takeForm", "(LFewProducts$Scheme;I)Z"⟩, 4), (⟨"FewProducts$Text", "takeTerm", "(LFewProducts$Scheme;II)Z"⟩, 4), (⟨"FewProducts$Text", "restFault", "()I"⟩, 4), (⟨"FewProducts", "tellFirst", "(IIII)V"⟩, 11), (⟨"FewProducts", "tellThree", "(III)V"⟩, 11), (⟨"FewProducts$Factors", "weigh", "(III)I"⟩, 1), (⟨"FewProducts$Shedder", "isSumOfAhead", "(LFewProducts$Scheme;III)Z"⟩, 3), (⟨"FewProducts$Basis", "reduce", "(I)V"⟩, 7), (⟨"FewProducts$Shedder", "share", "(LFewProducts$Scheme;II)V"⟩, 3), (⟨"FewProducts", "isLine", "(II)Z"⟩, 11), (⟨"FewProducts", "isFactor", "(I)Z"⟩, 11), (⟨"FewProducts$Lifting", "start", "(LFewProducts$Scheme;)V"⟩, 6)]
theorem lw_r1 : ∀ q ∈ lw_privs_1, lw_okq q := List.forall_mem_cons.mpr ⟨lw_p0, List.forall_mem_cons.mpr ⟨lw_p1, List.forall_mem_cons.mpr ⟨lw_p2, List.forall_mem_cons.mpr ⟨lw_p3, List.forall_mem_cons.mpr ⟨lw_p4, List.forall_mem_cons.mpr ⟨lw_p5, List.forall_mem_cons.mpr ⟨lw_p6, List.forall_mem_cons.mpr ⟨lw_p7, List.forall_mem_cons.mpr ⟨lw_p8, List.forall_mem_cons.mpr ⟨lw_p9, List.forall_mem_cons.mpr ⟨lw_p10, List.forall_mem_cons.mpr ⟨lw_p11, List.forall_mem_cons.mpr ⟨lw_p12, List.forall_mem_cons.mpr ⟨lw_p13, List.forall_mem_cons.mpr ⟨lw_p14, List.forall_mem_cons.mpr ⟨lw_p15, fun _ h => absurd h List.not_mem_nil⟩⟩⟩⟩⟩⟩⟩⟩⟩⟩⟩⟩⟩⟩⟩⟩
theorem lw_p16 : lw_okq (⟨"FewProducts$Lifting", "setUnknown", "(LFewProducts$Scheme;III)V"⟩, 6) := ⟨⟨by decide +kernel, by decide +kernel⟩, List.mem_of_getElem? (i := 216) (by decide +kernel), List.mem_of_getElem? (i := 792) (by decide +kernel), List.mem_of_getElem? (i := 793) (by decide +kernel)⟩
theorem lw_p17 : lw_okq (⟨"FewProducts$Lifting", "clearColumn", "()V"⟩, 6) := ⟨⟨by decide +kernel, by decide +kernel⟩, List.mem_of_getElem? (i := 216) (by decide +kernel), List.mem_of_getElem? (i := 796) (by decide +kernel), List.mem_of_getElem? (i := 797) (by decide +kernel)⟩
theorem lw_p18 : lw_okq (⟨"FewProducts$Lifting", "setBit", "(I)V"⟩, 6) := ⟨⟨by decide +kernel, by decide +kernel⟩, List.mem_of_getElem? (i := 216) (by decide +kernel), List.mem_of_getElem? (i := 804) (by decide +kernel), List.mem_of_getElem? (i := 805) (by decide +kernel)⟩
theorem lw_p19 : lw_okq (⟨"FewProducts$Lifting", "takeColumn", "()V"⟩, 6) := ⟨⟨by decide +kernel, by decide +kernel⟩, List.mem_of_getElem? (i := 216) (by decide +kernel), List.mem_of_getElem? (i := 809) (by decide +kernel), List.mem_of_getElem? (i := 810) (by decide +kernel)⟩
theorem lw_p20 : lw_okq (⟨"FewProducts$Lifting", "reduce", "()I"⟩, 6) := ⟨⟨by decide +kernel, by decide +kernel⟩, List.mem_of_getElem? (i := 216) (by decide +kernel), List.mem_of_getElem? (i := 813) (by decide +kernel), List.mem_of_getElem? (i := 814) (by decide +kernel)⟩
theorem lw_p21 : lw_okq (⟨"FewProducts$Lifting", "hasBit", "(I)Z"⟩, 6) := ⟨⟨by decide +kernel, by decide +kernel⟩, List.mem_of_getElem? (i := 216) (by decide +kernel), List.mem_of_getElem? (i := 817) (by decide +kernel), List.mem_of_getElem? (i := 818) (by decide +kernel)⟩
theorem lw_p22 : lw_okq (⟨"FewProducts$Lifting", "lessPivot", "(I)V"⟩, 6) := ⟨⟨by decide +kernel, by decide +kernel⟩, List.mem_of_getElem? (i := 216) (by decide +kernel), List.mem_of_getElem? (i := 821) (by decide +kernel), List.mem_of_getElem? (i := 822) (by decide +kernel)⟩
theorem lw_p23 : lw_okq (⟨"FewProducts$Lifting", "setRightSides", "(LFewProducts$Scheme;)V"⟩, 6) := ⟨⟨by decide +kernel, by decide +kernel⟩, List.mem_of_getElem? (i := 216) (by decide +kernel), List.mem_of_getElem? (i := 825) (by decide +kernel), List.mem_of_getElem? (i := 826) (by decide +kernel)⟩
theorem lw_p24 : lw_okq (⟨"java/lang/Throwable", "fillInStackTrace", "(I)Ljava/lang/Throwable;"⟩, 6) := ⟨⟨by decide +kernel, by decide +kernel⟩, List.mem_of_getElem? (i := 897) (by decide +kernel), List.mem_of_getElem? (i := 895) (by decide +kernel), List.mem_of_getElem? (i := 896) (by decide +kernel)⟩
def lw_privs_2 : List (MethodName × Nat) := [(⟨"FewProducts$Lifting", "setUnknown", "(LFewProducts$Scheme;III)V"⟩, 6), (⟨"FewProducts$Lifting", "clearColumn", "()V"⟩, 6), (⟨"FewProducts$Lifting", "setBit", "(I)V"⟩, 6), (⟨"FewProducts$Lifting", "takeColumn", "()V"⟩, 6), (⟨"FewProducts$Lifting", "reduce", "()I"⟩, 6), (⟨"FewProducts$Lifting", "hasBit", "(I)Z"⟩, 6), (⟨"FewProducts$Lifting", "lessPivot", "(I)V"⟩, 6), (⟨"FewProducts$Lifting", "setRightSides", "(LFewProducts$Scheme;)V"⟩, 6), (⟨"java/lang/Throwable", "fillInStackTrace", "(I)Ljava/lang/Throwable;"⟩, 6)]
theorem lw_r2 : ∀ q ∈ lw_privs_2, lw_okq q := List.forall_mem_cons.mpr ⟨lw_p16, List.forall_mem_cons.mpr ⟨lw_p17, List.forall_mem_cons.mpr ⟨lw_p18, List.forall_mem_cons.mpr ⟨lw_p19, List.forall_mem_cons.mpr ⟨lw_p20, List.forall_mem_cons.mpr ⟨lw_p21, List.forall_mem_cons.mpr ⟨lw_p22, List.forall_mem_cons.mpr ⟨lw_p23, List.forall_mem_cons.mpr ⟨lw_p24, fun _ h => absurd h List.not_mem_nil⟩⟩⟩⟩⟩⟩⟩⟩⟩
def lw_privs : List (MethodName × Nat) := lw_privs_1 ++ (lw_privs_2)
def lw_tbl : List Cond := k2_sels lw_privs ++ tables_1
theorem lw_privs_ok : ∀ q ∈ lw_privs, lw_okq q := by
  show ∀ q ∈ lw_privs_1 ++ (lw_privs_2), lw_okq q
  exact List.forall_mem_append.mpr ⟨lw_r1, lw_r2⟩
def RX0 : String := "FewProducts$Basis"
def TX0 : u_T := fun k => match k with
  | 0 => ("FewProducts$Basis", "reduced", "LFewProducts$Ints;", true)
  | 1 => ("FewProducts$Basis", "made", "LFewProducts$Ints;", true)
  | 2 => ("FewProducts$Basis", "pivots", "LFewProducts$Ints;", true)
  | 3 => ("FewProducts$Basis", "q", "I", false)
  | 4 => ("FewProducts$Basis", "size", "I", false)
  | 5 => ("FewProducts$Basis", "rest", "I", false)
  | _ => ("FewProducts$Basis", "parts", "I", false)
def tyX0 : Nat → FieldType := fun k => match k with
  | 0 => .object "FewProducts$Ints"
  | 1 => .object "FewProducts$Ints"
  | 2 => .object "FewProducts$Ints"
  | 3 => .int
  | 4 => .int
  | 5 => .int
  | _ => .int
theorem nmX0 : ∀ a, a < 7 → ∀ b, b < 7 → a ≠ b → (TX0 a).2.1 ≠ (TX0 b).2.1 := by decide +kernel
theorem tyX0_ok : ∀ k, k < 7 → parseFieldDescriptor (TX0 k).2.2.1 = some (tyX0 k) := by decide +kernel
abbrev cX0_init : ByteArray := prog_2_method_1_code
def yX0_init : MethodName := ⟨RX0, "<init>", "()V"⟩
abbrev cX0_start : ByteArray := prog_2_method_2_code
def yX0_start : MethodName := ⟨RX0, "start", "(I)V"⟩
abbrev cX0_take : ByteArray := prog_2_method_3_code
def yX0_take : MethodName := ⟨RX0, "take", "(I)Z"⟩
abbrev cX0_isSum : ByteArray := prog_2_method_4_code
def yX0_isSum : MethodName := ⟨RX0, "isSum", "(I)Z"⟩
abbrev cX0_reduce : ByteArray := prog_2_method_5_code
def yX0_reduce : MethodName := ⟨RX0, "reduce", "(I)V"⟩
abbrev cX0_firstPlace : ByteArray := prog_2_method_6_code
def yX0_firstPlace : MethodName := ⟨RX0, "firstPlace", "(I)I"⟩
def RX1 : String := "FewProducts$Factors"
def TX1 : u_T := fun k => match k with
  | _ => ("FewProducts$Factors", "numbers", "LFewProducts$Ints;", true)
def tyX1 : Nat → FieldType := fun k => match k with
  | _ => .object "FewProducts$Ints"
theorem nmX1 : ∀ a, a < 1 → ∀ b, b < 1 → a ≠ b → (TX1 a).2.1 ≠ (TX1 b).2.1 := by decide +kernel
theorem tyX1_ok : ∀ k, k < 1 → parseFieldDescriptor (TX1 k).2.2.1 = some (tyX1 k) := by decide +kernel
abbrev cX1_init : ByteArray := prog_3_method_1_code
def yX1_init : MethodName := ⟨RX1, "<init>", "()V"⟩
abbrev cX1_comesAt : ByteArray := prog_3_method_2_code
def yX1_comesAt : MethodName := ⟨RX1, "comesAt", "(LFewProducts$Scheme;I)I"⟩
abbrev cX1_weigh : ByteArray := prog_3_method_3_code
def yX1_weigh : MethodName := ⟨RX1, "weigh", "(III)I"⟩
abbrev cX1_dueAt : ByteArray := prog_3_method_4_code
def yX1_dueAt : MethodName := ⟨RX1, "dueAt", "(LFewProducts$Scheme;I)I"⟩
def RX2 : String := "FewProducts$Forms"
def TX2 : u_T := fun k => match k with
  | _ => ("", "", "", false)
def tyX2 : Nat → FieldType := fun k => match k with
  | _ => .int
theorem nmX2 : ∀ a, a < 0 → ∀ b, b < 0 → a ≠ b → (TX2 a).2.1 ≠ (TX2 b).2.1 := by decide +kernel
theorem tyX2_ok : ∀ k, k < 0 → parseFieldDescriptor (TX2 k).2.2.1 = some (tyX2 k) := by decide +kernel
abbrev cX2_mod : ByteArray := prog_4_method_2_code
def yX2_mod : MethodName := ⟨RX2, "mod", "(II)I"⟩
abbrev cX2_numberAt : ByteArray := prog_4_method_3_code
def yX2_numberAt : MethodName := ⟨RX2, "numberAt", "(II)I"⟩
abbrev cX2_with : ByteArray := prog_4_method_4_code
def yX2_with : MethodName := ⟨RX2, "with", "(III)I"⟩
abbrev cX2_sum : ByteArray := prog_4_method_5_code
def yX2_sum : MethodName := ⟨RX2, "sum", "(III)I"⟩
abbrev cX2_times : ByteArray := prog_4_method_6_code
def yX2_times : MethodName := ⟨RX2, "times", "(II)I"⟩
abbrev cX2_less : ByteArray := prog_4_method_7_code
def yX2_less : MethodName := ⟨RX2, "less", "(III)I"⟩
abbrev cX2_likeBy : ByteArray := prog_4_method_8_code
def yX2_likeBy : MethodName := ⟨RX2, "likeBy", "(III)I"⟩
def RX3 : String := "FewProducts$Ints"
def TX3 : u_T := fun k => match k with
  | _ => ("FewProducts$Ints", "cells", "[I", true)
def tyX3 : Nat → FieldType := fun k => match k with
  | _ => .array .int
theorem nmX3 : ∀ a, a < 1 → ∀ b, b < 1 → a ≠ b → (TX3 a).2.1 ≠ (TX3 b).2.1 := by decide +kernel
theorem tyX3_ok : ∀ k, k < 1 → parseFieldDescriptor (TX3 k).2.2.1 = some (tyX3 k) := by decide +kernel
abbrev cX3_init : ByteArray := prog_5_method_1_code
def yX3_init : MethodName := ⟨RX3, "<init>", "(I)V"⟩
abbrev cX3_at : ByteArray := prog_5_method_2_code
def yX3_at : MethodName := ⟨RX3, "at", "(I)I"⟩
abbrev cX3_put : ByteArray := prog_5_method_3_code
def yX3_put : MethodName := ⟨RX3, "put", "(II)V"⟩
abbrev cX3_clear : ByteArray := prog_5_method_4_code
def yX3_clear : MethodName := ⟨RX3, "clear", "()V"⟩
def RX4 : String := "FewProducts$Joiner"
def TX4 : u_T := fun k => match k with
  | 0 => ("FewProducts$Joiner", "byZero", "I", false)
  | _ => ("FewProducts$Joiner", "byLike", "I", false)
def tyX4 : Nat → FieldType := fun k => match k with
  | 0 => .int
  | _ => .int
theorem nmX4 : ∀ a, a < 2 → ∀ b, b < 2 → a ≠ b → (TX4 a).2.1 ≠ (TX4 b).2.1 := by decide +kernel
theorem tyX4_ok : ∀ k, k < 2 → parseFieldDescriptor (TX4 k).2.2.1 = some (tyX4 k) := by decide +kernel
abbrev cX4_init : ByteArray := prog_6_method_1_code
def yX4_init : MethodName := ⟨RX4, "<init>", "()V"⟩
abbrev cX4_join : ByteArray := prog_6_method_2_code
def yX4_join : MethodName := ⟨RX4, "join", "(LFewProducts$Scheme;)V"⟩
abbrev cX4_joinFirst : ByteArray := prog_6_method_3_code
def yX4_joinFirst : MethodName := ⟨RX4, "joinFirst", "(LFewProducts$Scheme;)Z"⟩
abbrev cX4_joinTwo : ByteArray := prog_6_method_4_code
def yX4_joinTwo : MethodName := ⟨RX4, "joinTwo", "(LFewProducts$Scheme;III)Z"⟩
abbrev cX4_flipDrawn : ByteArray := prog_6_method_5_code
def yX4_flipDrawn : MethodName := ⟨RX4, "flipDrawn", "(LFewProducts$Scheme;J)Z"⟩
abbrev cX4_flipAt : ByteArray := prog_6_method_6_code
def yX4_flipAt : MethodName := ⟨RX4, "flipAt", "(LFewProducts$Scheme;II)V"⟩
def RX5 : String := "FewProducts$Lifting"
def TX5 : u_T := fun k => match k with
  | 0 => ("FewProducts$Lifting", "reduced", "[J", true)
  | 1 => ("FewProducts$Lifting", "isPivot", "LFewProducts$Ints;", true)
  | 2 => ("FewProducts$Lifting", "column", "[J", true)
  | 3 => ("FewProducts$Lifting", "strides", "LFewProducts$Ints;", true)
  | 4 => ("FewProducts$Lifting", "equations", "I", false)
  | _ => ("FewProducts$Lifting", "rank", "I", false)
def tyX5 : Nat → FieldType := fun k => match k with
  | 0 => .array .long
  | 1 => .object "FewProducts$Ints"
  | 2 => .array .long
  | 3 => .object "FewProducts$Ints"
  | 4 => .int
  | _ => .int
theorem nmX5 : ∀ a, a < 6 → ∀ b, b < 6 → a ≠ b → (TX5 a).2.1 ≠ (TX5 b).2.1 := by decide +kernel
theorem tyX5_ok : ∀ k, k < 6 → parseFieldDescriptor (TX5 k).2.2.1 = some (tyX5 k) := by decide +kernel
abbrev cX5_init : ByteArray := prog_7_method_1_code
def yX5_init : MethodName := ⟨RX5, "<init>", "()V"⟩
abbrev cX5_solve : ByteArray := prog_7_method_2_code
def yX5_solve : MethodName := ⟨RX5, "solve", "(LFewProducts$Scheme;)Z"⟩
abbrev cX5_start : ByteArray := prog_7_method_3_code
def yX5_start : MethodName := ⟨RX5, "start", "(LFewProducts$Scheme;)V"⟩
abbrev cX5_clearColumn : ByteArray := prog_7_method_4_code
def yX5_clearColumn : MethodName := ⟨RX5, "clearColumn", "()V"⟩
abbrev cX5_setBit : ByteArray := prog_7_method_5_code
def yX5_setBit : MethodName := ⟨RX5, "setBit", "(I)V"⟩
abbrev cX5_hasBit : ByteArray := prog_7_method_6_code
def yX5_hasBit : MethodName := ⟨RX5, "hasBit", "(I)Z"⟩
abbrev cX5_setUnknown : ByteArray := prog_7_method_7_code
def yX5_setUnknown : MethodName := ⟨RX5, "setUnknown", "(LFewProducts$Scheme;III)V"⟩
abbrev cX5_setRightSides : ByteArray := prog_7_method_8_code
def yX5_setRightSides : MethodName := ⟨RX5, "setRightSides", "(LFewProducts$Scheme;)V"⟩
abbrev cX5_takeColumn : ByteArray := prog_7_method_9_code
def yX5_takeColumn : MethodName := ⟨RX5, "takeColumn", "()V"⟩
abbrev cX5_reduce : ByteArray := prog_7_method_10_code
def yX5_reduce : MethodName := ⟨RX5, "reduce", "()I"⟩
abbrev cX5_lessPivot : ByteArray := prog_7_method_11_code
def yX5_lessPivot : MethodName := ⟨RX5, "lessPivot", "(I)V"⟩
def RX6 : String := "FewProducts$Scheme"
def TX6 : u_T := fun k => match k with
  | 0 => ("FewProducts$Scheme", "forms", "LFewProducts$Ints;", true)
  | 1 => ("FewProducts$Scheme", "n", "I", false)
  | 2 => ("FewProducts$Scheme", "m", "I", false)
  | 3 => ("FewProducts$Scheme", "p", "I", false)
  | 4 => ("FewProducts$Scheme", "q", "I", false)
  | _ => ("FewProducts$Scheme", "size", "I", false)
def tyX6 : Nat → FieldType := fun k => match k with
  | 0 => .object "FewProducts$Ints"
  | 1 => .int
  | 2 => .int
  | 3 => .int
  | 4 => .int
  | _ => .int
theorem nmX6 : ∀ a, a < 6 → ∀ b, b < 6 → a ≠ b → (TX6 a).2.1 ≠ (TX6 b).2.1 := by decide +kernel
theorem tyX6_ok : ∀ k, k < 6 → parseFieldDescriptor (TX6 k).2.2.1 = some (tyX6 k) := by decide +kernel
abbrev cX6_init : ByteArray := prog_8_method_1_code
def yX6_init : MethodName := ⟨RX6, "<init>", "()V"⟩
abbrev cX6_makePlain : ByteArray := prog_8_method_2_code
def yX6_makePlain : MethodName := ⟨RX6, "makePlain", "(IIII)V"⟩
abbrev cX6_addPlain : ByteArray := prog_8_method_3_code
def yX6_addPlain : MethodName := ⟨RX6, "addPlain", "(I)V"⟩
abbrev cX6_addOnes : ByteArray := prog_8_method_4_code
def yX6_addOnes : MethodName := ⟨RX6, "addOnes", "(III)V"⟩
abbrev cX6_addZero : ByteArray := prog_8_method_5_code
def yX6_addZero : MethodName := ⟨RX6, "addZero", "()Z"⟩
abbrev cX6_addFrom : ByteArray := prog_8_method_6_code
def yX6_addFrom : MethodName := ⟨RX6, "addFrom", "(LFewProducts$Scheme;I)V"⟩
abbrev cX6_remove : ByteArray := prog_8_method_7_code
def yX6_remove : MethodName := ⟨RX6, "remove", "(I)V"⟩
abbrev cX6_takeShape : ByteArray := prog_8_method_8_code
def yX6_takeShape : MethodName := ⟨RX6, "takeShape", "(LFewProducts$Scheme;)V"⟩
abbrev cX6_takeAll : ByteArray := prog_8_method_9_code
def yX6_takeAll : MethodName := ⟨RX6, "takeAll", "(LFewProducts$Scheme;)V"⟩
abbrev cX6_hasShapeOf : ByteArray := prog_8_method_10_code
def yX6_hasShapeOf : MethodName := ⟨RX6, "hasShapeOf", "(LFewProducts$Scheme;)Z"⟩
abbrev cX6_isFull : ByteArray := prog_8_method_11_code
def yX6_isFull : MethodName := ⟨RX6, "isFull", "()Z"⟩
abbrev cX6_isProduct : ByteArray := prog_8_method_12_code
def yX6_isProduct : MethodName := ⟨RX6, "isProduct", "(I)Z"⟩
abbrev cX6_rows : ByteArray := prog_8_method_14_code
def yX6_rows : MethodName := ⟨RX6, "rows", "(I)I"⟩
abbrev cX6_columns : ByteArray := prog_8_method_15_code
def yX6_columns : MethodName := ⟨RX6, "columns", "(I)I"⟩
abbrev cX6_places : ByteArray := prog_8_method_16_code
def yX6_places : MethodName := ⟨RX6, "places", "(I)I"⟩
abbrev cX6_rowOf : ByteArray := prog_8_method_17_code
def yX6_rowOf : MethodName := ⟨RX6, "rowOf", "(II)I"⟩
abbrev cX6_columnOf : ByteArray := prog_8_method_18_code
def yX6_columnOf : MethodName := ⟨RX6, "columnOf", "(II)I"⟩
abbrev cX6_formAt : ByteArray := prog_8_method_19_code
def yX6_formAt : MethodName := ⟨RX6, "formAt", "(II)I"⟩
abbrev cX6_setForm : ByteArray := prog_8_method_20_code
def yX6_setForm : MethodName := ⟨RX6, "setForm", "(III)V"⟩
abbrev cX6_givenAt : ByteArray := prog_8_method_21_code
def yX6_givenAt : MethodName := ⟨RX6, "givenAt", "(III)I"⟩
abbrev cX6_meetAt : ByteArray := prog_8_method_22_code
def yX6_meetAt : MethodName := ⟨RX6, "meetAt", "(III)I"⟩
abbrev cX6_neededAt : ByteArray := prog_8_method_23_code
def yX6_neededAt : MethodName := ⟨RX6, "neededAt", "(III)I"⟩
abbrev cX6_isRight : ByteArray := prog_8_method_24_code
def yX6_isRight : MethodName := ⟨RX6, "isRight", "()Z"⟩
abbrev cX6_hasZero : ByteArray := prog_8_method_25_code
def yX6_hasZero : MethodName := ⟨RX6, "hasZero", "(I)Z"⟩
abbrev cX6_firstZero : ByteArray := prog_8_method_26_code
def yX6_firstZero : MethodName := ⟨RX6, "firstZero", "()I"⟩
abbrev cX6_zeros : ByteArray := prog_8_method_27_code
def yX6_zeros : MethodName := ⟨RX6, "zeros", "()I"⟩
abbrev cX6_notZero : ByteArray := prog_8_method_28_code
def yX6_notZero : MethodName := ⟨RX6, "notZero", "()I"⟩
abbrev cX6_singles : ByteArray := prog_8_method_29_code
def yX6_singles : MethodName := ⟨RX6, "singles", "()I"⟩
abbrev cX6_likeBy : ByteArray := prog_8_method_32_code
def yX6_likeBy : MethodName := ⟨RX6, "likeBy", "(III)I"⟩
abbrev cX6_isLike : ByteArray := prog_8_method_33_code
def yX6_isLike : MethodName := ⟨RX6, "isLike", "(ILFewProducts$Scheme;I)Z"⟩
abbrev cX6_matches : ByteArray := prog_8_method_34_code
def yX6_matches : MethodName := ⟨RX6, "matches", "(LFewProducts$Scheme;)I"⟩
abbrev cX6_othersThan : ByteArray := prog_8_method_35_code
def yX6_othersThan : MethodName := ⟨RX6, "othersThan", "(LFewProducts$Scheme;)I"⟩
abbrev cX6_groupOf : ByteArray := prog_8_method_36_code
def yX6_groupOf : MethodName := ⟨RX6, "groupOf", "(II)J"⟩
abbrev cX6_unlikeForms : ByteArray := prog_8_method_37_code
def yX6_unlikeForms : MethodName := ⟨RX6, "unlikeForms", "(I)I"⟩
abbrev cX6_flipsAt : ByteArray := prog_8_method_38_code
def yX6_flipsAt : MethodName := ⟨RX6, "flipsAt", "(I)I"⟩
abbrev cX6_turnFlip : ByteArray := prog_8_method_39_code
def yX6_turnFlip : MethodName := ⟨RX6, "turnFlip", "(III)V"⟩
def RX7 : String := "FewProducts$Shedder"
def TX7 : u_T := fun k => match k with
  | 0 => ("FewProducts$Shedder", "basis", "LFewProducts$Basis;", true)
  | 1 => ("FewProducts$Shedder", "taken", "LFewProducts$Ints;", true)
  | _ => ("FewProducts$Shedder", "went", "LFewProducts$Ints;", true)
def tyX7 : Nat → FieldType := fun k => match k with
  | 0 => .object "FewProducts$Basis"
  | 1 => .object "FewProducts$Ints"
  | _ => .object "FewProducts$Ints"
theorem nmX7 : ∀ a, a < 3 → ∀ b, b < 3 → a ≠ b → (TX7 a).2.1 ≠ (TX7 b).2.1 := by decide +kernel
theorem tyX7_ok : ∀ k, k < 3 → parseFieldDescriptor (TX7 k).2.2.1 = some (tyX7 k) := by decide +kernel
abbrev cX7_init : ByteArray := prog_9_method_1_code
def yX7_init : MethodName := ⟨RX7, "<init>", "()V"⟩
abbrev cX7_shedFirst : ByteArray := prog_9_method_2_code
def yX7_shedFirst : MethodName := ⟨RX7, "shedFirst", "(LFewProducts$Scheme;)Z"⟩
abbrev cX7_isSumOfAhead : ByteArray := prog_9_method_3_code
def yX7_isSumOfAhead : MethodName := ⟨RX7, "isSumOfAhead", "(LFewProducts$Scheme;III)Z"⟩
abbrev cX7_share : ByteArray := prog_9_method_4_code
def yX7_share : MethodName := ⟨RX7, "share", "(LFewProducts$Scheme;II)V"⟩
def RX8 : String := "FewProducts$Text"
def TX8 : u_T := fun k => match k with
  | 0 => ("FewProducts$Text", "signs", "LFewProducts$Ints;", true)
  | 1 => ("FewProducts$Text", "length", "I", false)
  | 2 => ("FewProducts$Text", "at", "I", false)
  | _ => ("FewProducts$Text", "form", "I", false)
def tyX8 : Nat → FieldType := fun k => match k with
  | 0 => .object "FewProducts$Ints"
  | 1 => .int
  | 2 => .int
  | _ => .int
theorem nmX8 : ∀ a, a < 4 → ∀ b, b < 4 → a ≠ b → (TX8 a).2.1 ≠ (TX8 b).2.1 := by decide +kernel
theorem tyX8_ok : ∀ k, k < 4 → parseFieldDescriptor (TX8 k).2.2.1 = some (tyX8 k) := by decide +kernel
abbrev cX8_init : ByteArray := prog_10_method_1_code
def yX8_init : MethodName := ⟨RX8, "<init>", "()V"⟩
abbrev cX8_addFour : ByteArray := prog_10_method_2_code
def yX8_addFour : MethodName := ⟨RX8, "addFour", "(I)Z"⟩
abbrev cX8_cut : ByteArray := prog_10_method_3_code
def yX8_cut : MethodName := ⟨RX8, "cut", "(I)Z"⟩
abbrev cX8_empty : ByteArray := prog_10_method_4_code
def yX8_empty : MethodName := ⟨RX8, "empty", "()V"⟩
abbrev cX8_readProduct : ByteArray := prog_10_method_6_code
def yX8_readProduct : MethodName := ⟨RX8, "readProduct", "(LFewProducts$Scheme;)I"⟩
abbrev cX8_readForm : ByteArray := prog_10_method_7_code
def yX8_readForm : MethodName := ⟨RX8, "readForm", "(LFewProducts$Scheme;I)I"⟩
abbrev cX8_readNumbers : ByteArray := prog_10_method_8_code
def yX8_readNumbers : MethodName := ⟨RX8, "readNumbers", "(LFewProducts$Ints;II)I"⟩
abbrev cX8_restFault : ByteArray := prog_10_method_9_code
def yX8_restFault : MethodName := ⟨RX8, "restFault", "()I"⟩
abbrev cX8_peek : ByteArray := prog_10_method_10_code
def yX8_peek : MethodName := ⟨RX8, "peek", "()I"⟩
abbrev cX8_take : ByteArray := prog_10_method_11_code
def yX8_take : MethodName := ⟨RX8, "take", "(C)Z"⟩
abbrev cX8_takeProduct : ByteArray := prog_10_method_12_code
def yX8_takeProduct : MethodName := ⟨RX8, "takeProduct", "(LFewProducts$Scheme;)Z"⟩
abbrev cX8_takeForm : ByteArray := prog_10_method_13_code
def yX8_takeForm : MethodName := ⟨RX8, "takeForm", "(LFewProducts$Scheme;I)Z"⟩
abbrev cX8_takeTerm : ByteArray := prog_10_method_14_code
def yX8_takeTerm : MethodName := ⟨RX8, "takeTerm", "(LFewProducts$Scheme;II)Z"⟩
def RX9 : String := "FewProducts$Told"
def TX9 : u_T := fun k => match k with
  | 0 => ("FewProducts$Told", "numbers", "[J", true)
  | _ => ("FewProducts$Told", "size", "I", false)
def tyX9 : Nat → FieldType := fun k => match k with
  | 0 => .array .long
  | _ => .int
theorem nmX9 : ∀ a, a < 2 → ∀ b, b < 2 → a ≠ b → (TX9 a).2.1 ≠ (TX9 b).2.1 := by decide +kernel
theorem tyX9_ok : ∀ k, k < 2 → parseFieldDescriptor (TX9 k).2.2.1 = some (tyX9 k) := by decide +kernel
abbrev cX9_init : ByteArray := prog_11_method_1_code
def yX9_init : MethodName := ⟨RX9, "<init>", "()V"⟩
abbrev cX9_clear : ByteArray := prog_11_method_2_code
def yX9_clear : MethodName := ⟨RX9, "clear", "()V"⟩
abbrev cX9_add : ByteArray := prog_11_method_3_code
def yX9_add : MethodName := ⟨RX9, "add", "(J)V"⟩
abbrev cX9_at : ByteArray := prog_11_method_4_code
def yX9_at : MethodName := ⟨RX9, "at", "(I)J"⟩
def RX10 : String := "FewProducts$Turns"
def TX10 : u_T := fun k => match k with
  | _ => ("", "", "", false)
def tyX10 : Nat → FieldType := fun k => match k with
  | _ => .int
theorem nmX10 : ∀ a, a < 0 → ∀ b, b < 0 → a ≠ b → (TX10 a).2.1 ≠ (TX10 b).2.1 := by decide +kernel
theorem tyX10_ok : ∀ k, k < 0 → parseFieldDescriptor (TX10 k).2.2.1 = some (tyX10 k) := by decide +kernel
abbrev cX10_roll : ByteArray := prog_12_method_2_code
def yX10_roll : MethodName := ⟨RX10, "roll", "(LFewProducts$Scheme;)V"⟩
abbrev cX10_mirror : ByteArray := prog_12_method_3_code
def yX10_mirror : MethodName := ⟨RX10, "mirror", "(LFewProducts$Scheme;)V"⟩
abbrev cX10_transposed : ByteArray := prog_12_method_4_code
def yX10_transposed : MethodName := ⟨RX10, "transposed", "(III)I"⟩
abbrev cX10_shear : ByteArray := prog_12_method_5_code
def yX10_shear : MethodName := ⟨RX10, "shear", "(LFewProducts$Scheme;IIII)V"⟩
abbrev cX10_addTimes : ByteArray := prog_12_method_6_code
def yX10_addTimes : MethodName := ⟨RX10, "addTimes", "(IIIII)I"⟩
abbrev cX10_narrow : ByteArray := prog_12_method_9_code
def yX10_narrow : MethodName := ⟨RX10, "narrow", "(LFewProducts$Scheme;II)V"⟩
abbrev cX10_withoutRow : ByteArray := prog_12_method_10_code
def yX10_withoutRow : MethodName := ⟨RX10, "withoutRow", "(III)I"⟩
abbrev cX10_withoutColumn : ByteArray := prog_12_method_11_code
def yX10_withoutColumn : MethodName := ⟨RX10, "withoutColumn", "(IIII)I"⟩
abbrev cX10_widen : ByteArray := prog_12_method_12_code
def yX10_widen : MethodName := ⟨RX10, "widen", "(LFewProducts$Scheme;I)V"⟩
abbrev cX10_stretch : ByteArray := prog_12_method_13_code
def yX10_stretch : MethodName := ⟨RX10, "stretch", "(LFewProducts$Scheme;II)V"⟩
def RX11 : String := "FewProducts"
def TX11 : u_T := fun k => match k with
  | 0 => ("FewProducts", "text", "LFewProducts$Text;", true)
  | 1 => ("FewProducts", "told", "LFewProducts$Told;", true)
  | 2 => ("FewProducts", "now", "LFewProducts$Scheme;", true)
  | 3 => ("FewProducts", "kept", "LFewProducts$Scheme;", true)
  | 4 => ("FewProducts", "spare", "LFewProducts$Scheme;", true)
  | 5 => ("FewProducts", "factors", "LFewProducts$Factors;", true)
  | 6 => ("FewProducts", "joiner", "LFewProducts$Joiner;", true)
  | 7 => ("FewProducts", "shedder", "LFewProducts$Shedder;", true)
  | 8 => ("FewProducts", "basis", "LFewProducts$Basis;", true)
  | 9 => ("FewProducts", "lifting", "LFewProducts$Lifting;", true)
  | _ => ("FewProducts", "isKept", "Z", false)
def tyX11 : Nat → FieldType := fun k => match k with
  | 0 => .object "FewProducts$Text"
  | 1 => .object "FewProducts$Told"
  | 2 => .object "FewProducts$Scheme"
  | 3 => .object "FewProducts$Scheme"
  | 4 => .object "FewProducts$Scheme"
  | 5 => .object "FewProducts$Factors"
  | 6 => .object "FewProducts$Joiner"
  | 7 => .object "FewProducts$Shedder"
  | 8 => .object "FewProducts$Basis"
  | 9 => .object "FewProducts$Lifting"
  | _ => .boolean
theorem nmX11 : ∀ a, a < 11 → ∀ b, b < 11 → a ≠ b → (TX11 a).2.1 ≠ (TX11 b).2.1 := by decide +kernel
theorem tyX11_ok : ∀ k, k < 11 → parseFieldDescriptor (TX11 k).2.2.1 = some (tyX11 k) := by decide +kernel
abbrev cX11_init : ByteArray := prog_1_method_1_code
def yX11_init : MethodName := ⟨RX11, "<init>", "()V"⟩
abbrev cX11_format : ByteArray := prog_1_method_2_code
def yX11_format : MethodName := ⟨RX11, "format", "(IIII)I"⟩
abbrev cX11_sign : ByteArray := prog_1_method_3_code
def yX11_sign : MethodName := ⟨RX11, "sign", "(I)I"⟩
abbrev cX11_end : ByteArray := prog_1_method_4_code
def yX11_end : MethodName := ⟨RX11, "end", "(I)Z"⟩
abbrev cX11_adds : ByteArray := prog_1_method_6_code
def yX11_adds : MethodName := ⟨RX11, "adds", "()I"⟩
abbrev cX11_drops : ByteArray := prog_1_method_7_code
def yX11_drops : MethodName := ⟨RX11, "drops", "(I)I"⟩
abbrev cX11_checks : ByteArray := prog_1_method_10_code
def yX11_checks : MethodName := ⟨RX11, "checks", "()I"⟩
abbrev cX11_multiplies : ByteArray := prog_1_method_12_code
def yX11_multiplies : MethodName := ⟨RX11, "multiplies", "()I"⟩
abbrev cX11_like : ByteArray := prog_1_method_14_code
def yX11_like : MethodName := ⟨RX11, "like", "(III)I"⟩
abbrev cX11_flip : ByteArray := prog_1_method_16_code
def yX11_flip : MethodName := ⟨RX11, "flip", "(III)I"⟩
abbrev cX11_joins : ByteArray := prog_1_method_17_code
def yX11_joins : MethodName := ⟨RX11, "joins", "()I"⟩
abbrev cX11_sheds : ByteArray := prog_1_method_18_code
def yX11_sheds : MethodName := ⟨RX11, "sheds", "()I"⟩
abbrev cX11_splits : ByteArray := prog_1_method_19_code
def yX11_splits : MethodName := ⟨RX11, "splits", "(II)I"⟩
abbrev cX11_plus : ByteArray := prog_1_method_20_code
def yX11_plus : MethodName := ⟨RX11, "plus", "(III)I"⟩
abbrev cX11_narrows : ByteArray := prog_1_method_22_code
def yX11_narrows : MethodName := ⟨RX11, "narrows", "(II)I"⟩
abbrev cX11_widens : ByteArray := prog_1_method_23_code
def yX11_widens : MethodName := ⟨RX11, "widens", "(I)I"⟩
abbrev cX11_walks : ByteArray := prog_1_method_24_code
def yX11_walks : MethodName := ⟨RX11, "walks", "(II)I"⟩
abbrev cX11_rolls : ByteArray := prog_1_method_25_code
def yX11_rolls : MethodName := ⟨RX11, "rolls", "()I"⟩
abbrev cX11_mirrors : ByteArray := prog_1_method_26_code
def yX11_mirrors : MethodName := ⟨RX11, "mirrors", "()I"⟩
abbrev cX11_shears : ByteArray := prog_1_method_27_code
def yX11_shears : MethodName := ⟨RX11, "shears", "(IIII)I"⟩
abbrev cX11_groups : ByteArray := prog_1_method_32_code
def yX11_groups : MethodName := ⟨RX11, "groups", "(I)I"⟩
abbrev cX11_spans : ByteArray := prog_1_method_33_code
def yX11_spans : MethodName := ⟨RX11, "spans", "(I)I"⟩
abbrev cX11_keeps : ByteArray := prog_1_method_34_code
def yX11_keeps : MethodName := ⟨RX11, "keeps", "()I"⟩
abbrev cX11_others : ByteArray := prog_1_method_35_code
def yX11_others : MethodName := ⟨RX11, "others", "()I"⟩
abbrev cX11_unlikes : ByteArray := prog_1_method_36_code
def yX11_unlikes : MethodName := ⟨RX11, "unlikes", "()I"⟩
abbrev cX11_back : ByteArray := prog_1_method_37_code
def yX11_back : MethodName := ⟨RX11, "back", "()I"⟩
abbrev cX11_lifts : ByteArray := prog_1_method_38_code
def yX11_lifts : MethodName := ⟨RX11, "lifts", "()I"⟩
abbrev cX11_count : ByteArray := prog_1_method_39_code
def yX11_count : MethodName := ⟨RX11, "count", "(I)I"⟩
abbrev cX11_row : ByteArray := prog_1_method_40_code
def yX11_row : MethodName := ⟨RX11, "row", "(I)J"⟩
abbrev cX11_isSize : ByteArray := prog_1_method_41_code
def yX11_isSize : MethodName := ⟨RX11, "isSize", "(I)Z"⟩
abbrev cX11_isTable : ByteArray := prog_1_method_42_code
def yX11_isTable : MethodName := ⟨RX11, "isTable", "(I)Z"⟩
abbrev cX11_isLine : ByteArray := prog_1_method_43_code
def yX11_isLine : MethodName := ⟨RX11, "isLine", "(II)Z"⟩
abbrev cX11_isFactor : ByteArray := prog_1_method_44_code
def yX11_isFactor : MethodName := ⟨RX11, "isFactor", "(I)Z"⟩
abbrev cX11_behind : ByteArray := prog_1_method_45_code
def yX11_behind : MethodName := ⟨RX11, "behind", "(I)I"⟩
abbrev cX11_ahead : ByteArray := prog_1_method_46_code
def yX11_ahead : MethodName := ⟨RX11, "ahead", "(I)I"⟩
abbrev cX11_bit : ByteArray := prog_1_method_47_code
def yX11_bit : MethodName := ⟨RX11, "bit", "(I)J"⟩
abbrev cX11_tellFirst : ByteArray := prog_1_method_49_code
def yX11_tellFirst : MethodName := ⟨RX11, "tellFirst", "(IIII)V"⟩
abbrev cX11_tellThree : ByteArray := prog_1_method_50_code
def yX11_tellThree : MethodName := ⟨RX11, "tellThree", "(III)V"⟩
def RX12 : String := "FewProductsModel"
def TX12 : u_T := fun k => match k with
  | _ => ("", "", "", false)
def tyX12 : Nat → FieldType := fun k => match k with
  | _ => .int
theorem nmX12 : ∀ a, a < 0 → ∀ b, b < 0 → a ≠ b → (TX12 a).2.1 ≠ (TX12 b).2.1 := by decide +kernel
theorem tyX12_ok : ∀ k, k < 0 → parseFieldDescriptor (TX12 k).2.2.1 = some (tyX12 k) := by decide +kernel
def RJx145de : String := "java/io/Serializable"
def RJ5 : String := "java/lang/AbstractStringBuilder"
abbrev cJ5_init_d00df : ByteArray := prog_16_method_2_code
def yJ5_init_d00df : MethodName := ⟨RJ5, "<init>", "(I)V"⟩
abbrev cJ5_init_a7421 : ByteArray := prog_16_method_3_code
def yJ5_init_a7421 : MethodName := ⟨RJ5, "<init>", "(Ljava/lang/String;)V"⟩
abbrev cJ5_length_8abf5 : ByteArray := prog_16_method_6_code
def yJ5_length_8abf5 : MethodName := ⟨RJ5, "length", "()I"⟩
abbrev cJ5_ensureCapacityInternal_d00df : ByteArray := prog_16_method_9_code
def yJ5_ensureCapacityInternal_d00df : MethodName := ⟨RJ5, "ensureCapacityInternal", "(I)V"⟩
abbrev cJ5_newCapacity_0f7a4 : ByteArray := prog_16_method_10_code
def yJ5_newCapacity_0f7a4 : MethodName := ⟨RJ5, "newCapacity", "(I)I"⟩
abbrev cJ5_inflate_da8c8 : ByteArray := prog_16_method_11_code
def yJ5_inflate_da8c8 : MethodName := ⟨RJ5, "inflate", "()V"⟩
abbrev cJ5_append_cf1ce : ByteArray := prog_16_method_22_code
def yJ5_append_cf1ce : MethodName := ⟨RJ5, "append", "(Ljava/lang/String;)Ljava/lang/AbstractStringBuilder;"⟩
abbrev cJ5_appendNull_278bc : ByteArray := prog_16_method_26_code
def yJ5_appendNull_278bc : MethodName := ⟨RJ5, "appendNull", "()Ljava/lang/AbstractStringBuilder;"⟩
abbrev cJ5_append_3fe6f : ByteArray := prog_16_method_31_code
def yJ5_append_3fe6f : MethodName := ⟨RJ5, "append", "(C)Ljava/lang/AbstractStringBuilder;"⟩
abbrev cJ5_append_c97b9 : ByteArray := prog_16_method_32_code
def yJ5_append_c97b9 : MethodName := ⟨RJ5, "append", "(I)Ljava/lang/AbstractStringBuilder;"⟩
abbrev cJ5_getValue_6d5f1 : ByteArray := prog_16_method_64_code
def yJ5_getValue_6d5f1 : MethodName := ⟨RJ5, "getValue", "()[B"⟩
abbrev cJ5_isLatin1_aae02 : ByteArray := prog_16_method_68_code
def yJ5_isLatin1_aae02 : MethodName := ⟨RJ5, "isLatin1", "()Z"⟩
abbrev cJ5_inflateIfNeededFor_a7421 : ByteArray := prog_16_method_71_code
def yJ5_inflateIfNeededFor_a7421 : MethodName := ⟨RJ5, "inflateIfNeededFor", "(Ljava/lang/String;)V"⟩
abbrev cJ5_putStringAt_47b60 : ByteArray := prog_16_method_73_code
def yJ5_putStringAt_47b60 : MethodName := ⟨RJ5, "putStringAt", "(ILjava/lang/String;)V"⟩
def RJx2cfe8 : String := "java/lang/Appendable"
def RJx9f9b0 : String := "java/lang/CharSequence"
def RJx8e188 : String := "java/lang/Cloneable"
def RJxb160c : String := "java/lang/Comparable"
def RJ6 : String := "java/lang/Integer"
abbrev cJ6_getChars_ba4f3 : ByteArray := prog_22_method_12_code
def yJ6_getChars_ba4f3 : MethodName := ⟨RJ6, "getChars", "(II[B)I"⟩
abbrev cJ6_stringSize_0f7a4 : ByteArray := prog_22_method_13_code
def yJ6_stringSize_0f7a4 : MethodName := ⟨RJ6, "stringSize", "(I)I"⟩
abbrev cJ6_bitCount_0f7a4 : ByteArray := prog_22_method_49_code
def yJ6_bitCount_0f7a4 : MethodName := ⟨RJ6, "bitCount", "(I)I"⟩
def RJ13 : String := "java/lang/Long"
abbrev cJ13_bitCount_95d88 : ByteArray := prog_23_method_50_code
def yJ13_bitCount_95d88 : MethodName := ⟨RJ13, "bitCount", "(J)I"⟩
def RJ9 : String := "java/lang/Math"
abbrev cJ9_floorMod_7cf53 : ByteArray := prog_24_method_50_code
def yJ9_floorMod_7cf53 : MethodName := ⟨RJ9, "floorMod", "(II)I"⟩
abbrev cJ9_max_7cf53 : ByteArray := prog_24_method_65_code
def yJ9_max_7cf53 : MethodName := ⟨RJ9, "max", "(II)I"⟩
abbrev cJ9_min_7cf53 : ByteArray := prog_24_method_69_code
def yJ9_min_7cf53 : MethodName := ⟨RJ9, "min", "(II)I"⟩
def RJxd2413 : String := "java/lang/Number"
def RJ0 : String := "java/lang/String"
def TJ0 : u_T := fun k => match k with
  | 0 => ("java/lang/String", "value", "[B", true)
  | 1 => ("java/lang/String", "coder", "B", true)
  | 2 => ("java/lang/String", "hash", "I", false)
  | _ => ("java/lang/String", "hashIsZero", "Z", false)
def tyJ0 : Nat → FieldType := fun k => match k with
  | 0 => .array .byte
  | 1 => .byte
  | 2 => .int
  | _ => .boolean
theorem nmJ0 : ∀ a, a < 4 → ∀ b, b < 4 → a ≠ b → (TJ0 a).2.1 ≠ (TJ0 b).2.1 := by decide +kernel
theorem tyJ0_ok : ∀ k, k < 4 → parseFieldDescriptor (TJ0 k).2.2.1 = some (tyJ0 k) := by decide +kernel
abbrev cJ0_init_81219 : ByteArray := prog_27_method_53_code
def yJ0_init_81219 : MethodName := ⟨RJ0, "<init>", "(Ljava/lang/StringBuilder;)V"⟩
abbrev cJ0_length_8abf5 : ByteArray := prog_27_method_54_code
def yJ0_length_8abf5 : MethodName := ⟨RJ0, "length", "()I"⟩
abbrev cJ0_charAt_5068e : ByteArray := prog_27_method_56_code
def yJ0_charAt_5068e : MethodName := ⟨RJ0, "charAt", "(I)C"⟩
abbrev cJ0_getBytes_840e7 : ByteArray := prog_27_method_147_code
def yJ0_getBytes_840e7 : MethodName := ⟨RJ0, "getBytes", "([BIB)V"⟩
abbrev cJ0_init_db425 : ByteArray := prog_27_method_150_code
def yJ0_init_db425 : MethodName := ⟨RJ0, "<init>", "(Ljava/lang/AbstractStringBuilder;Ljava/lang/Void;)V"⟩
abbrev cJ0_coder_7d493 : ByteArray := prog_27_method_152_code
def yJ0_coder_7d493 : MethodName := ⟨RJ0, "coder", "()B"⟩
abbrev cJ0_isLatin1_aae02 : ByteArray := prog_27_method_154_code
def yJ0_isLatin1_aae02 : MethodName := ⟨RJ0, "isLatin1", "()Z"⟩
abbrev cJ0_checkIndex_df160 : ByteArray := prog_27_method_155_code
def yJ0_checkIndex_df160 : MethodName := ⟨RJ0, "checkIndex", "(II)V"⟩
abbrev cJ0_checkBoundsOffCount_cabcc : ByteArray := prog_27_method_157_code
def yJ0_checkBoundsOffCount_cabcc : MethodName := ⟨RJ0, "checkBoundsOffCount", "(III)I"⟩
abbrev cJ0_checkBoundsBeginEnd_23922 : ByteArray := prog_27_method_158_code
def yJ0_checkBoundsBeginEnd_23922 : MethodName := ⟨RJ0, "checkBoundsBeginEnd", "(III)V"⟩
def RJ4 : String := "java/lang/StringBuilder"
def TJ4 : u_T := fun k => match k with
  | 0 => ("java/lang/AbstractStringBuilder", "value", "[B", false)
  | 1 => ("java/lang/AbstractStringBuilder", "coder", "B", false)
  | 2 => ("java/lang/AbstractStringBuilder", "maybeLatin1", "Z", false)
  | _ => ("java/lang/AbstractStringBuilder", "count", "I", false)
def tyJ4 : Nat → FieldType := fun k => match k with
  | 0 => .array .byte
  | 1 => .byte
  | 2 => .boolean
  | _ => .int
theorem nmJ4 : ∀ a, a < 4 → ∀ b, b < 4 → a ≠ b → (TJ4 a).2.1 ≠ (TJ4 b).2.1 := by decide +kernel
theorem tyJ4_ok : ∀ k, k < 4 → parseFieldDescriptor (TJ4 k).2.2.1 = some (tyJ4 k) := by decide +kernel
abbrev cJ4_init_da8c8 : ByteArray := prog_28_method_1_code
def yJ4_init_da8c8 : MethodName := ⟨RJ4, "<init>", "()V"⟩
abbrev cJ4_init_a7421 : ByteArray := prog_28_method_3_code
def yJ4_init_a7421 : MethodName := ⟨RJ4, "<init>", "(Ljava/lang/String;)V"⟩
abbrev cJ4_append_15ec4 : ByteArray := prog_28_method_7_code
def yJ4_append_15ec4 : MethodName := ⟨RJ4, "append", "(Ljava/lang/String;)Ljava/lang/StringBuilder;"⟩
abbrev cJ4_append_cf468 : ByteArray := prog_28_method_14_code
def yJ4_append_cf468 : MethodName := ⟨RJ4, "append", "(C)Ljava/lang/StringBuilder;"⟩
abbrev cJ4_append_bf812 : ByteArray := prog_28_method_15_code
def yJ4_append_bf812 : MethodName := ⟨RJ4, "append", "(I)Ljava/lang/StringBuilder;"⟩
abbrev cJ4_toString_0e30d : ByteArray := prog_28_method_42_code
def yJ4_toString_0e30d : MethodName := ⟨RJ4, "toString", "()Ljava/lang/String;"⟩
abbrev cJ4_append_cf1ce : ByteArray := prog_28_method_80_code
def yJ4_append_cf1ce : MethodName := ⟨RJ4, "append", "(Ljava/lang/String;)Ljava/lang/AbstractStringBuilder;"⟩
abbrev cJ4_length_8abf5 : ByteArray := prog_28_method_93_code
def yJ4_length_8abf5 : MethodName := ⟨RJ4, "length", "()I"⟩
def RJ1 : String := "java/lang/StringLatin1"
abbrev cJ1_charAt_3b067 : ByteArray := prog_29_method_2_code
def yJ1_charAt_3b067 : MethodName := ⟨RJ1, "charAt", "([BI)C"⟩
abbrev cJ1_canEncode_fc78d : ByteArray := prog_29_method_3_code
def yJ1_canEncode_fc78d : MethodName := ⟨RJ1, "canEncode", "(C)Z"⟩
abbrev cJ1_inflate_0e8fd : ByteArray := prog_29_method_50_code
def yJ1_inflate_0e8fd : MethodName := ⟨RJ1, "inflate", "([BI[BII)V"⟩
def RJ2 : String := "java/lang/StringUTF16"
abbrev cJ2_newBytesFor_77867 : ByteArray := prog_30_method_2_code
def yJ2_newBytesFor_77867 : MethodName := ⟨RJ2, "newBytesFor", "(I)[B"⟩
abbrev cJ2_newBytesLength_0f7a4 : ByteArray := prog_30_method_3_code
def yJ2_newBytesLength_0f7a4 : MethodName := ⟨RJ2, "newBytesLength", "(I)I"⟩
abbrev cJ2_putChar_b72d1 : ByteArray := prog_30_method_4_code
def yJ2_putChar_b72d1 : MethodName := ⟨RJ2, "putChar", "([BII)V"⟩
abbrev cJ2_getChar_3b067 : ByteArray := prog_30_method_5_code
def yJ2_getChar_3b067 : MethodName := ⟨RJ2, "getChar", "([BI)C"⟩
abbrev cJ2_length_9d52b : ByteArray := prog_30_method_6_code
def yJ2_length_9d52b : MethodName := ⟨RJ2, "length", "([B)I"⟩
abbrev cJ2_coderFromArrayLen_85cad : ByteArray := prog_30_method_15_code
def yJ2_coderFromArrayLen_85cad : MethodName := ⟨RJ2, "coderFromArrayLen", "([BI)B"⟩
abbrev cJ2_compress_39247 : ByteArray := prog_30_method_17_code
def yJ2_compress_39247 : MethodName := ⟨RJ2, "compress", "([BII)[B"⟩
abbrev cJ2_compress_5af95 : ByteArray := prog_30_method_22_code
def yJ2_compress_5af95 : MethodName := ⟨RJ2, "compress", "([BI[BII)I"⟩
abbrev cJ2_putCharSB_b72d1 : ByteArray := prog_30_method_71_code
def yJ2_putCharSB_b72d1 : MethodName := ⟨RJ2, "putCharSB", "([BII)V"⟩
abbrev cJ2_getChars_46870 : ByteArray := prog_30_method_77_code
def yJ2_getChars_46870 : MethodName := ⟨RJ2, "getChars", "(III[B)I"⟩
abbrev cJ2_putCharsAt_cd4e5 : ByteArray := prog_30_method_81_code
def yJ2_putCharsAt_cd4e5 : MethodName := ⟨RJ2, "putCharsAt", "([BICCCC)I"⟩
abbrev cJ2_charAt_3b067 : ByteArray := prog_30_method_83_code
def yJ2_charAt_3b067 : MethodName := ⟨RJ2, "charAt", "([BI)C"⟩
abbrev cJ2_inflate_0e8fd : ByteArray := prog_30_method_86_code
def yJ2_inflate_0e8fd : MethodName := ⟨RJ2, "inflate", "([BI[BII)V"⟩
abbrev cJ2_getChars_ba4f3 : ByteArray := prog_30_method_89_code
def yJ2_getChars_ba4f3 : MethodName := ⟨RJ2, "getChars", "(II[B)I"⟩
abbrev cJ2_checkIndex_2214a : ByteArray := prog_30_method_91_code
def yJ2_checkIndex_2214a : MethodName := ⟨RJ2, "checkIndex", "(I[B)V"⟩
abbrev cJ2_checkBoundsBeginEnd_d044e : ByteArray := prog_30_method_93_code
def yJ2_checkBoundsBeginEnd_d044e : MethodName := ⟨RJ2, "checkBoundsBeginEnd", "(II[B)V"⟩
abbrev cJ2_checkBoundsOffCount_d044e : ByteArray := prog_30_method_94_code
def yJ2_checkBoundsOffCount_d044e : MethodName := ⟨RJ2, "checkBoundsOffCount", "(II[B)V"⟩
def RJ10 : String := "java/lang/System"
def RJxfd54e : String := "java/lang/constant/Constable"
def RJx3cf43 : String := "java/lang/constant/ConstantDesc"
def RJ7 : String := "java/util/Arrays"
abbrev cJ7_copyOf_9075b : ByteArray := prog_35_method_121_code
def yJ7_copyOf_9075b : MethodName := ⟨RJ7, "copyOf", "([BI)[B"⟩
abbrev cJ7_checkLength_df160 : ByteArray := prog_35_method_131_code
def yJ7_checkLength_df160 : MethodName := ⟨RJ7, "checkLength", "(II)V"⟩
abbrev cJ7_copyOfRange_39247 : ByteArray := prog_35_method_132_code
def yJ7_copyOfRange_39247 : MethodName := ⟨RJ7, "copyOfRange", "([BII)[B"⟩
abbrev cJ7_copyOfRangeByte_39247 : ByteArray := prog_35_method_133_code
def yJ7_copyOfRangeByte_39247 : MethodName := ⟨RJ7, "copyOfRangeByte", "([BII)[B"⟩
def RJ8 : String := "jdk/internal/util/ArraysSupport"
abbrev cJ8_newLength_cabcc : ByteArray := prog_37_method_27_code
def yJ8_newLength_cabcc : MethodName := ⟨RJ8, "newLength", "(III)I"⟩
abbrev cJ8_hugeLength_7cf53 : ByteArray := prog_37_method_28_code
def yJ8_hugeLength_7cf53 : MethodName := ⟨RJ8, "hugeLength", "(II)I"⟩
def RJ3 : String := "jdk/internal/util/Preconditions"
abbrev cJ3_checkIndex_8e157 : ByteArray := prog_38_method_11_code
def yJ3_checkIndex_8e157 : MethodName := ⟨RJ3, "checkIndex", "(IILjava/util/function/BiFunction;)I"⟩
abbrev cJ3_checkFromToIndex_8c36e : ByteArray := prog_38_method_12_code
def yJ3_checkFromToIndex_8c36e : MethodName := ⟨RJ3, "checkFromToIndex", "(IIILjava/util/function/BiFunction;)I"⟩
abbrev cJ3_checkFromIndexSize_8c36e : ByteArray := prog_38_method_13_code
def yJ3_checkFromIndexSize_8c36e : MethodName := ⟨RJ3, "checkFromIndexSize", "(IIILjava/util/function/BiFunction;)I"⟩
def RL : String := "FewProductsLaw"
abbrev cL_cell : ByteArray := method_2_code
def yL_cell : MethodName := ⟨RL, "cell", "([II)I"⟩
abbrev cL_say : ByteArray := method_3_code
def yL_say : MethodName := ⟨RL, "say", "(LFewProducts;Ljava/lang/String;)V"⟩
abbrev cL_form : ByteArray := method_4_code
def yL_form : MethodName := ⟨RL, "form", "(LFewProducts;II)Ljava/lang/String;"⟩
abbrev cL_law : ByteArray := code
def yL_law : MethodName := ⟨RL, "law", "([I)Z"⟩
abbrev vwCl : List vw_C := [(RX0, TX0, 7), (RX1, TX1, 1), (RX3, TX3, 1), (RX4, TX4, 2), (RX5, TX5, 6), (RX6, TX6, 6), (RX7, TX7, 3), (RX8, TX8, 4), (RX9, TX9, 2), (RX11, TX11, 11), (RJ0, TJ0, 4), (RJ4, TJ4, 4)]
/-- the words on private members of nest mates -/
def zNW : List Cond := [.methodLinkNest "FewProducts" 9 ⟨"FewProducts$Text", "<init>", "()V"⟩ "FewProducts", .fieldLinkNest "FewProducts" 90 "FewProducts$Text" "length" "I" "FewProducts", .fieldLinkNest "FewProducts" 242 "FewProducts$Text" "form" "I" "FewProducts", .methodLinkNest "FewProducts" 18 ⟨"FewProducts$Told", "<init>", "()V"⟩ "FewProducts", .fieldLinkNest "FewProducts" 361 "FewProducts$Told" "size" "I" "FewProducts", .methodLinkNest "FewProducts" 25 ⟨"FewProducts$Scheme", "<init>", "()V"⟩ "FewProducts", .fieldLinkNest "FewProducts$Turns" 23 "FewProducts$Scheme" "n" "I" "FewProducts", .fieldLinkNest "FewProducts" 314 "FewProducts$Scheme" "n" "I" "FewProducts", .fieldLinkNest "FewProducts$Turns" 26 "FewProducts$Scheme" "m" "I" "FewProducts", .fieldLinkNest "FewProducts$Factors" 58 "FewProducts$Scheme" "m" "I" "FewProducts", .fieldLinkNest "FewProducts" 317 "FewProducts$Scheme" "m" "I" "FewProducts", .fieldLinkNest "FewProducts$Turns" 29 "FewProducts$Scheme" "p" "I" "FewProducts", .fieldLinkNest "FewProducts$Factors" 61 "FewProducts$Scheme" "p" "I" "FewProducts", .fieldLinkNest "FewProducts" 320 "FewProducts$Scheme" "p" "I" "FewProducts", .fieldLinkNest "FewProducts$Factors" 43 "FewProducts$Scheme" "q" "I" "FewProducts", .fieldLinkNest "FewProducts$Shedder" 62 "FewProducts$Scheme" "q" "I" "FewProducts", .fieldLinkNest "FewProducts$Joiner" 56 "FewProducts$Scheme" "q" "I" "FewProducts", .fieldLinkNest "FewProducts$Turns" 56 "FewProducts$Scheme" "q" "I" "FewProducts", .fieldLinkNest "FewProducts" 135 "FewProducts$Scheme" "q" "I" "FewProducts", .fieldLinkNest "FewProducts$Text" 69 "FewProducts$Scheme" "q" "I" "FewProducts", .fieldLinkNest "FewProducts$Turns" 9 "FewProducts$Scheme" "size" "I" "FewProducts", .fieldLinkNest "FewProducts$Factors" 20 "FewProducts$Scheme" "size" "I" "FewProducts", .fieldLinkNest "FewProducts$Lifting" 34 "FewProducts$Scheme" "size" "I" "FewProducts", .fieldLinkNest "FewProducts$Shedder" 34 "FewProducts$Scheme" "size" "I" "FewProducts", .fieldLinkNest "FewProducts" 83 "FewProducts$Scheme" "size" "I" "FewProducts", .fieldLinkNest "FewProducts$Joiner" 32 "FewProducts$Scheme" "size" "I" "FewProducts", .fieldLinkNest "FewProducts$Text" 59 "FewProducts$Scheme" "size" "I" "FewProducts", .methodLinkNest "FewProducts" 38 ⟨"FewProducts$Factors", "<init>", "()V"⟩ "FewProducts", .fieldLinkNest "FewProducts" 174 "FewProducts$Factors" "numbers" "LFewProducts$Ints;" "FewProducts", .methodLinkNest "FewProducts" 45 ⟨"FewProducts$Joiner", "<init>", "()V"⟩ "FewProducts", .fieldLinkNest "FewProducts" 220 "FewProducts$Joiner" "byZero" "I" "FewProducts", .fieldLinkNest "FewProducts" 223 "FewProducts$Joiner" "byLike" "I" "FewProducts", .methodLinkNest "FewProducts" 52 ⟨"FewProducts$Shedder", "<init>", "()V"⟩ "FewProducts", .methodLinkNest "FewProducts$Shedder" 11 ⟨"FewProducts$Basis", "<init>", "()V"⟩ "FewProducts", .fieldLinkNest "FewProducts$Shedder" 84 "FewProducts$Basis" "size" "I" "FewProducts", .fieldLinkNest "FewProducts" 345 "FewProducts$Basis" "size" "I" "FewProducts", .fieldLinkNest "FewProducts$Shedder" 88 "FewProducts$Basis" "parts" "I" "FewProducts", .fieldLinkNest "FewProducts" 226 "FewProducts$Shedder" "went" "LFewProducts$Ints;" "FewProducts", .methodLinkNest "FewProducts" 59 ⟨"FewProducts$Basis", "<init>", "()V"⟩ "FewProducts", .methodLinkNest "FewProducts" 66 ⟨"FewProducts$Lifting", "<init>", "()V"⟩ "FewProducts", .fieldLinkNest "FewProducts" 358 "FewProducts$Lifting" "rank" "I" "FewProducts", .methodLinkNest "FewProducts$Scheme" 85 ⟨"FewProducts", "behind", "(I)I"⟩ "FewProducts", .methodLinkNest "FewProducts$Joiner" 39 ⟨"FewProducts", "behind", "(I)I"⟩ "FewProducts", .methodLinkNest "FewProducts$Shedder" 30 ⟨"FewProducts", "behind", "(I)I"⟩ "FewProducts", .methodLinkNest "FewProducts$Turns" 46 ⟨"FewProducts", "ahead", "(I)I"⟩ "FewProducts", .methodLinkNest "FewProducts$Scheme" 126 ⟨"FewProducts", "bit", "(I)J"⟩ "FewProducts", .methodLinkNest "FewProducts$Lifting" 78 ⟨"FewProducts", "behind", "(I)I"⟩ "FewProducts", .methodLinkNest "FewProducts$Lifting" 71 ⟨"FewProducts", "bit", "(I)J"⟩ "FewProducts"]
/-- private methods, called on a StringBuilder -/
def zXP : List MethodName := [yJ5_ensureCapacityInternal_d00df, yJ5_newCapacity_0f7a4, yJ5_putStringAt_47b60, yJ5_inflateIfNeededFor_a7421]
def zXT : List Cond := zXP.map (fun y => Cond.selects RJ4 y y)
def zTBL : List Cond := zXT ++ lw_tbl
def zTT : List Cond := zTBL.filter goodWord
theorem zTT_good {w : Cond} (h : w ∈ zTT) : goodWord w = true := (List.mem_filter.mp h).2
theorem zTT_tbl {w : Cond} (h : w ∈ zTT) : w ∈ zTBL := (List.mem_filter.mp h).1
theorem zTT_in {w : Cond} (h : w ∈ lw_tbl) (g : goodWord w = true) : w ∈ zTT := List.mem_filter.mpr ⟨List.mem_append_right _ h, g⟩
theorem zTT_of {w : Cond} (i : Nat) (h : lw_tbl[i]? = some w) (g : goodWord w = true) : w ∈ zTT := zTT_in (List.mem_of_getElem? h) g
theorem zTT_x {y : MethodName} (h : y ∈ zXP) : Cond.selects RJ4 y y ∈ zTT := List.mem_filter.mpr ⟨List.mem_append_left _ (List.mem_map.mpr ⟨y, h, rfl⟩), rfl⟩
end
section

/-! ===== the walker: a method walked by computation over abstract worlds ===== -/
/-- shapes of the cells: an object (its class's number in vwCl, for each field none: a number, some r: a reference), or an array (0 int, 1 long, 2 byte, 3 boolean; its length) -/
abbrev zSh : Type := (Nat × List (Option (Option Nat))) ⊕ (Nat × Nat)
/-- a world: shapes, the numbers of 32 bits by cell and slot, those of 64 bits -/
abbrev zW : Type := List zSh × (Nat → Nat → Int32) × (Nat → Nat → Int64)
abbrev zX : Type := va_G × ClassId × ClassId × ClassId × ClassId
abbrev zAL : Type := List (Option Value)
abbrev zI : Type := Nat × Nat × Nat × Instr
abbrev zSp : Type := List Value → zW → (Option Value → zW → Prop) → Prop
abbrev zCall : Type := Nat × Nat × Nat × Nat × Nat × Nat × zSp
abbrev zJ : Type := Nat → zAL → List Value → zW → Nat → Nat → Prop
abbrev zM : Type := List zI × List (Nat × Nat × Nat × Nat × Bool) × List zCall × (List (Nat × Int32) × List (Nat × Int64) × List (Nat × Nat × List (Option (Option Nat)))) × List (Nat × Int × Nat × List Nat) × List (Nat × List Bool) × Nat × Bool × (Bool × Nat × (Nat → Int32)) × (Nat × Nat × List (Nat × Value))
def z_tys (x : zX) : List (ClassId × FieldType) := [(x.2.1, .int), (x.2.2.1, .long), (x.2.2.2.1, .byte)]
def z_up {α : Type} (f : Nat → Nat → α) (o i : Nat) (v : α) : Nat → Nat → α := fun o' i' => if o' = o ∧ i' = i then v else f o' i'
def z_row {α : Type} (f : Nat → Nat → α) (o : Nat) (g : Nat → α) : Nat → Nat → α := fun o' i' => if o' = o then g i' else f o' i'
def z_fv (ad : Nat → Nat) (wi : Nat → Int32) (k : Nat) (f : Option (Option Nat)) : Value := match f with
  | none => .int (wi k)
  | some none => .null
  | some (some r) => .ref (ad r)
def z_ce (x : zX) (ad : Nat → Nat) (wi : Nat → Int32) (wl : Nat → Int64) (sh : zSh) : va_E := match sh with
  | .inl (ci, fs) => .inr (ci, fs.mapIdx (fun k f => z_fv ad wi k f))
  | .inr (0, n) => .inl (x.2.1, n, .inl wi)
  | .inr (1, n) => .inl (x.2.2.1, n, .inr (.inl wl))
  | .inr (2, n) => .inl (x.2.2.2.1, n, .inl wi)
  | .inr (_, n) => .inl (x.2.2.2.1, n, .inl wi)
def z_ws (x : zX) (ad : Nat → Nat) (w : zW) : va_W := w.1.mapIdx (fun o sh => (ad o, z_ce x ad (w.2.1 o) (w.2.2 o) sh))
theorem z_ws_at {x : zX} {ad : Nat → Nat} {w : zW} {o : Nat} {sh : zSh} (h : w.1[o]? = some sh) : (z_ws x ad w)[o]? = some (ad o, z_ce x ad (w.2.1 o) (w.2.2 o) sh) := by
  simp [z_ws, List.getElem?_mapIdx, h]
theorem z_ws_set {x : zX} {ad : Nat → Nat} {G G' : List zSh} {wi wi' : Nat → Nat → Int32} {wl wl' : Nat → Nat → Int64} {o : Nat} {sh' : zSh} {E : va_E} (h : o < G.length) (hG : G' = G.set o sh') (hi : ∀ o', o' ≠ o → wi' o' = wi o') (hl : ∀ o', o' ≠ o → wl' o' = wl o') (he : z_ce x ad (wi' o) (wl' o) sh' = E) : (z_ws x ad (G, wi, wl)).set o (ad o, E) = z_ws x ad (G', wi', wl') := by
  subst hG
  apply List.ext_getElem?
  intro k
  by_cases hk : k = o
  · subst hk
    rw [List.getElem?_set_self (by simpa [z_ws] using h), ← he, z_ws_at (sh := sh') (by show (G.set k sh')[k]? = _; rw [List.getElem?_set_self h])]
  · rw [List.getElem?_set_ne (fun q => hk q.symm)]
    simp only [z_ws, List.getElem?_mapIdx, List.getElem?_set_ne (fun q : o = k => hk q.symm), hi k hk, hl k hk]
theorem z_set_same {G : List zSh} {o : Nat} {sh : zSh} (h : G[o]? = some sh) : G = G.set o sh := by
  apply List.ext_getElem?
  intro k
  by_cases hk : k = o
  · subst hk
    rw [List.getElem?_set_self (List.getElem?_eq_some_iff.mp h).1, h]
  · rw [List.getElem?_set_ne (fun q => hk q.symm)]
/-- a number of 32 bits is written: into a field of numbers, or an array of ints -/
theorem z_ws_upi {x : zX} {ad : Nat → Nat} {G : List zSh} {wi : Nat → Nat → Int32} {wl : Nat → Nat → Int64} {o i : Nat} {v : Int32} {sh : zSh} {E : va_E} (h : G[o]? = some sh) (he : z_ce x ad (upd (wi o) i v) (wl o) sh = E) : (z_ws x ad (G, wi, wl)).set o (ad o, E) = z_ws x ad (G, z_up wi o i v, wl) := by
  refine z_ws_set (List.getElem?_eq_some_iff.mp h).1 (z_set_same h) (fun o' ho => ?_) (fun o' _ => rfl) ?_
  · funext j; simp [z_up, ho]
  · rw [← he]
    congr 1
    funext j; simp [z_up, upd]
theorem z_ws_upl {x : zX} {ad : Nat → Nat} {G : List zSh} {wi : Nat → Nat → Int32} {wl : Nat → Nat → Int64} {o i : Nat} {v : Int64} {sh : zSh} {E : va_E} (h : G[o]? = some sh) (he : z_ce x ad (wi o) (vp_updL (wl o) i v) sh = E) : (z_ws x ad (G, wi, wl)).set o (ad o, E) = z_ws x ad (G, wi, z_up wl o i v) := by
  refine z_ws_set (List.getElem?_eq_some_iff.mp h).1 (z_set_same h) (fun o' _ => rfl) (fun o' ho => ?_) ?_
  · funext j; simp [z_up, ho]
  · rw [← he]
    congr 1
    funext j; simp [z_up, vp_updL]
theorem z_fv_upd {ad : Nat → Nat} {wi : Nat → Int32} {fs : List (Option (Option Nat))} {k : Nat} {v : Int32} (h : fs[k]? = some none) : fs.mapIdx (fun j f => z_fv ad (upd wi k v) j f) = (fs.mapIdx (fun j f => z_fv ad wi j f)).set k (.int v) := by
  apply List.ext_getElem?
  intro j
  by_cases hj : j = k
  · subst hj
    rw [List.getElem?_set_self (by simpa using (List.getElem?_eq_some_iff.mp h).1)]
    simp [List.getElem?_mapIdx, h, z_fv, upd]
  · rw [List.getElem?_set_ne (fun q => hj q.symm)]
    simp only [List.getElem?_mapIdx]
    cases fs[j]? with
    | none => rfl
    | some f => cases f with
      | none => simp [z_fv, upd, hj]
      | some r => cases r <;> rfl
theorem z_fv_ref {ad : Nat → Nat} {wi : Nat → Int32} {fs : List (Option (Option Nat))} {k r : Nat} (h : k < fs.length) : (fs.set k (some (some r))).mapIdx (fun j f => z_fv ad wi j f) = (fs.mapIdx (fun j f => z_fv ad wi j f)).set k (.ref (ad r)) := by
  apply List.ext_getElem?
  intro j
  by_cases hj : j = k
  · subst hj
    rw [List.getElem?_set_self (by simpa using h), List.getElem?_mapIdx, List.getElem?_set_self h]
    rfl
  · rw [List.getElem?_set_ne (fun q => hj q.symm)]
    simp only [List.getElem?_mapIdx, List.getElem?_set_ne (fun q : k = j => hj q.symm)]
/-! values and locals -/
def z_cv (b : Nat → Nat) (ad : Nat → Nat) (v : Value) : Value := match v with
  | .ref k => .ref (ad k)
  | .float _ => .ref (b 0)
  | .retAddr k => .ref (b k)
  | v => v
theorem z_cv_cat (b : Nat → Nat) (ad : Nat → Nat) (v : Value) : (z_cv b ad v).category = v.category := by cases v <;> rfl
def z_nth {α : Type} : List α → Nat → Option α
  | [], _ => none
  | a :: _, 0 => some a
  | _ :: l, n + 1 => z_nth l n
theorem z_nth_eq {α : Type} : ∀ (l : List α) (i : Nat), z_nth l i = l[i]?
  | [], _ => by simp [z_nth]
  | _ :: _, 0 => by simp [z_nth]
  | _ :: l, n + 1 => by simpa [z_nth] using z_nth_eq l n
def z_look {α : Type} : List (Nat × α) → Nat → Option α
  | [], _ => none
  | (k, a) :: l, i => match Nat.beq k i with
    | true => some a
    | false => z_look l i
theorem z_look_mem {α : Type} : ∀ {l : List (Nat × α)} {i : Nat} {a : α}, z_look l i = some a → (i, a) ∈ l
  | [], _, _, h => by cases h
  | (k, a') :: l, i, a, h => by
    unfold z_look at h
    split at h
    · rename_i e
      have := Nat.eq_of_beq_eq_true e
      subst this
      cases h
      exact List.mem_cons_self
    · exact List.mem_cons_of_mem _ (z_look_mem h)
def z_set : zAL → Nat → Option Value → zAL
  | [], _, _ => []
  | _ :: l, 0, v => v :: l
  | a :: l, n + 1, v => a :: z_set l n v
theorem z_set_eq : ∀ (l : zAL) (i : Nat) (v : Option Value), z_set l i v = l.set i v
  | [], _, _ => by simp [z_set]
  | _ :: _, 0, _ => by simp [z_set]
  | a :: l, n + 1, v => by simpa [z_set] using z_set_eq l n v
def z_setk : zAL → Nat → Option Value → (zAL → Prop) → Prop
  | [], _, _, k => k []
  | _ :: l, 0, v, k => k (v :: l)
  | a :: l, n + 1, v, k => z_setk l n v (fun l' => k (a :: l'))
theorem z_setk_eq : ∀ (l : zAL) (i : Nat) (v : Option Value) (k : zAL → Prop), z_setk l i v k = k (z_set l i v)
  | [], _, _, _ => rfl
  | _ :: _, 0, _, _ => rfl
  | a :: l, n + 1, v, k => by rw [z_setk, z_setk_eq l n v]; rfl
def z_c2 (o : Option (Option Value)) : Bool := match o with
  | some (some (.long _)) => true
  | some (some (.double _)) => true
  | _ => false
def z_kill (al : zAL) (i : Nat) : zAL := match i with
  | 0 => al
  | j + 1 => match z_c2 (z_nth al j) with
    | true => z_set al j none
    | false => al
def z_killk (al : zAL) (i : Nat) (k : zAL → Prop) : Prop := match i with
  | 0 => k al
  | j + 1 => match z_c2 (z_nth al j) with
    | true => z_setk al j none k
    | false => k al
theorem z_killk_eq (al : zAL) (i : Nat) (k : zAL → Prop) : z_killk al i k = k (z_kill al i) := by
  cases i with
  | zero => rfl
  | succ j =>
    unfold z_killk z_kill
    dsimp only
    generalize z_c2 (z_nth al j) = q
    cases q with
    | true => exact z_setk_eq al j none k
    | false => rfl
/-- a value of one slot, of two slots, is stored -/
def z_st1 (al : zAL) (i : Nat) (v : Value) (k : zAL → Prop) : Prop := match z_nth al i with
  | some _ => z_killk al i (fun al1 => z_setk al1 i (some v) k)
  | none => False
def z_st2 (al : zAL) (i : Nat) (v : Value) (k : zAL → Prop) : Prop := match z_nth al (i + 1) with
  | some _ => z_killk al i (fun al1 => z_setk al1 i (some v) (fun al2 => z_setk al2 (i + 1) none k))
  | none => False
def z_LH (b : Nat → Nat) (ad : Nat → Nat) (ls : Array Slot) (nL : Nat) (al : zAL) : Prop := ls.size = nL ∧ lv_wf ls ∧ al.length ≤ nL ∧ ∀ (i : Nat) (v : Value), al[i]? = some (some v) → ls[i]? = some (Slot.val (z_cv b ad v))
def z_ll (b : Nat → Nat) (ad : Nat → Nat) : Nat → zAL → List (Nat × Value)
  | _, [] => []
  | i, none :: l => z_ll b ad (i + 1) l
  | i, some v :: l => (i, z_cv b ad v) :: z_ll b ad (i + 1) l
theorem z_ll_mem {b : Nat → Nat} {ad : Nat → Nat} : ∀ (al : zAL) (i j : Nat) (u : Value), (j, u) ∈ z_ll b ad i al ↔ ∃ k v, j = i + k ∧ al[k]? = some (some v) ∧ u = z_cv b ad v
  | [], i, j, u => by simp [z_ll]
  | none :: l, i, j, u => by
    rw [z_ll, z_ll_mem l]
    constructor
    · rintro ⟨k, v, h1, h2, h3⟩
      exact ⟨k + 1, v, by omega, by simpa using h2, h3⟩
    · rintro ⟨k, v, h1, h2, h3⟩
      cases k with
      | zero => simp at h2
      | succ k => exact ⟨k, v, by omega, by simpa using h2, h3⟩
  | some v0 :: l, i, j, u => by
    rw [z_ll, List.mem_cons, z_ll_mem l]
    constructor
    · rintro (h | ⟨k, v, h1, h2, h3⟩)
      · cases h
        exact ⟨0, v0, by omega, by simp, rfl⟩
      · exact ⟨k + 1, v, by omega, by simpa using h2, h3⟩
    · rintro ⟨k, v, h1, h2, h3⟩
      cases k with
      | zero =>
        simp only [List.getElem?_cons_zero, Option.some.injEq] at h2
        subst h2
        exact Or.inl (by rw [h3]; simp [h1])
      | succ k => exact Or.inr ⟨k, v, by omega, by simpa using h2, h3⟩
theorem z_LH.has {b : Nat → Nat} {ad : Nat → Nat} {ls : Array Slot} {nL : Nat} {al : zAL} (h : z_LH b ad ls nL al) : lv_has ls nL (z_ll b ad 0 al) := by
  refine ⟨h.1, h.2.1, ?_⟩
  rintro ⟨j, u⟩ hq
  obtain ⟨k, v, rfl, h2, rfl⟩ := (z_ll_mem al 0 j u).mp hq
  simpa using h.2.2.2 k v h2
theorem z_LH.at {b : Nat → Nat} {ad : Nat → Nat} {ls : Array Slot} {nL : Nat} {al : zAL} (h : z_LH b ad ls nL al) {i : Nat} {v : Value} (hv : z_nth al i = some (some v)) : ls[i]? = some (.val (z_cv b ad v)) := h.2.2.2 i v (by rw [← z_nth_eq]; exact hv)
theorem z_kill_at {al : zAL} {i k : Nat} {u : Value} (h : (z_kill al i)[k]? = some (some u)) : al[k]? = some (some u) ∧ ¬ (k + 1 = i ∧ u.category = 2) := by
  unfold z_kill at h
  split at h
  · exact ⟨h, fun q => by omega⟩
  · rename_i j
    split at h
    · rw [z_set_eq] at h
      by_cases hk : k = j
      · subst hk
        rw [List.getElem?_set] at h
        simp at h
      · rw [List.getElem?_set_ne (fun q => hk q.symm)] at h
        exact ⟨h, fun q => hk (by omega)⟩
    · rename_i e
      refine ⟨h, fun q => ?_⟩
      have hj : k = j := by omega
      subst hj
      rw [z_nth_eq, h] at e
      cases u <;> simp [z_c2, Value.category] at e q
theorem z_kill_len (al : zAL) (i : Nat) : (z_kill al i).length = al.length := by
  unfold z_kill
  split
  · rfl
  · split <;> simp [z_set_eq]
theorem z_LH.st1 {b : Nat → Nat} {ad : Nat → Nat} {ls ls' : Array Slot} {nL : Nat} {al : zAL} (h : z_LH b ad ls nL al) {i : Nat} {v : Value} (h' : lv_has ls' nL ((i, z_cv b ad v) :: (z_ll b ad 0 al).filter (fun q => !(q.1 == i) && !(q.1 + 1 == i && q.2.category == 2)))) : z_LH b ad ls' nL (z_set (z_kill al i) i (some v)) := by
  refine ⟨h'.1, h'.2.1, by rw [z_set_eq, List.length_set, z_kill_len]; exact h.2.2.1, fun k u hu => ?_⟩
  rw [z_set_eq] at hu
  by_cases hk : k = i
  · subst hk
    have hlt : k < (z_kill al k).length := by
      have := (List.getElem?_eq_some_iff.mp hu).1
      simpa using this
    rw [List.getElem?_set_self hlt] at hu
    cases hu
    exact h'.2.2 (k, z_cv b ad v) List.mem_cons_self
  · rw [List.getElem?_set_ne (fun q => hk q.symm)] at hu
    obtain ⟨h1, h2⟩ := z_kill_at hu
    refine h'.2.2 (k, z_cv b ad u) (List.mem_cons_of_mem _ (List.mem_filter.mpr ⟨(z_ll_mem al 0 k _).mpr ⟨k, u, by omega, h1, rfl⟩, ?_⟩))
    simp only [z_cv_cat, Bool.and_eq_true, Bool.not_eq_true', beq_eq_false_iff_ne, ne_eq, Bool.and_eq_false_iff]
    exact ⟨hk, by by_cases e : k + 1 = i; exact Or.inr (fun q => h2 ⟨e, q⟩); exact Or.inl e⟩
theorem z_LH.st2 {b : Nat → Nat} {ad : Nat → Nat} {ls ls' : Array Slot} {nL : Nat} {al : zAL} (h : z_LH b ad ls nL al) {i : Nat} {v : Value} (h' : lv_has ls' nL ((i, z_cv b ad v) :: (z_ll b ad 0 al).filter (fun q => !(q.1 == i) && (!(q.1 == i + 1) && !(q.1 + 1 == i && q.2.category == 2))))) : z_LH b ad ls' nL (z_set (z_set (z_kill al i) i (some v)) (i + 1) none) := by
  refine ⟨h'.1, h'.2.1, by rw [z_set_eq, z_set_eq, List.length_set, List.length_set, z_kill_len]; exact h.2.2.1, fun k u hu => ?_⟩
  rw [z_set_eq, z_set_eq] at hu
  by_cases hk1 : k = i + 1
  · subst hk1
    rw [List.getElem?_set] at hu
    simp at hu
  rw [List.getElem?_set_ne (fun q => hk1 q.symm)] at hu
  by_cases hk : k = i
  · subst hk
    have hlt : k < (z_kill al k).length := by
      have := (List.getElem?_eq_some_iff.mp hu).1
      simpa using this
    rw [List.getElem?_set_self hlt] at hu
    cases hu
    exact h'.2.2 (k, z_cv b ad v) List.mem_cons_self
  · rw [List.getElem?_set_ne (fun q => hk q.symm)] at hu
    obtain ⟨h1, h2⟩ := z_kill_at hu
    refine h'.2.2 (k, z_cv b ad u) (List.mem_cons_of_mem _ (List.mem_filter.mpr ⟨(z_ll_mem al 0 k _).mpr ⟨k, u, by omega, h1, rfl⟩, ?_⟩))
    simp only [z_cv_cat, Bool.and_eq_true, Bool.not_eq_true', beq_eq_false_iff_ne, ne_eq, Bool.and_eq_false_iff]
    exact ⟨hk, hk1, by by_cases e : k + 1 = i; exact Or.inr (fun q => h2 ⟨e, q⟩); exact Or.inl e⟩
def z_msk : List Bool → zAL → (zAL → Prop) → Prop
  | true :: ms, a :: l, k => z_msk ms l (fun l' => k (a :: l'))
  | false :: ms, _ :: l, k => z_msk ms l (fun l' => k (none :: l'))
  | _, l, k => k l
theorem z_msk_ok : ∀ (ms : List Bool) (l : zAL) (k : zAL → Prop), z_msk ms l k → ∃ l' : zAL, k l' ∧ l'.length = l.length ∧ ∀ (i : Nat) (v : Value), l'[i]? = some (some v) → l[i]? = some (some v)
  | [], l, k, h => ⟨l, by cases l <;> exact h, rfl, fun _ _ q => q⟩
  | true :: ms, [], k, h => ⟨[], h, rfl, fun _ _ q => q⟩
  | false :: ms, [], k, h => ⟨[], h, rfl, fun _ _ q => q⟩
  | true :: ms, a :: l, k, h => by
    obtain ⟨l', h1, h2, h3⟩ := z_msk_ok ms l _ h
    refine ⟨a :: l', h1, by simp [h2], fun i v q => ?_⟩
    cases i with
    | zero => simpa using q
    | succ i => simpa using h3 i v (by simpa using q)
  | false :: ms, a :: l, k, h => by
    obtain ⟨l', h1, h2, h3⟩ := z_msk_ok ms l _ h
    refine ⟨none :: l', h1, by simp [h2], fun i v q => ?_⟩
    cases i with
    | zero => simp at q
    | succ i => simpa using h3 i v (by simpa using q)
theorem z_LH.weaken {b : Nat → Nat} {ad : Nat → Nat} {ls : Array Slot} {nL : Nat} {al al' : zAL} (h : z_LH b ad ls nL al) (hl : al'.length = al.length) (hs : ∀ (i : Nat) (v : Value), al'[i]? = some (some v) → al[i]? = some (some v)) : z_LH b ad ls nL al' := ⟨h.1, h.2.1, by rw [hl]; exact h.2.2.1, fun i v q => h.2.2.2 i v (hs i v q)⟩
/-! the step -/
def mI (n : Nat) : Int32 := -(nI n)
def z_rem (x y : Int32) : Int32 := x - x / y * y
def z_lrem (x y : Int64) : Int64 := x - x / y * y
def z_shl (x y : Int32) : Int32 := x <<< (y &&& 31)
def z_sar (x y : Int32) : Int32 := x >>> (y &&& 31)
def z_shr (x y : Int32) : Int32 := (x.toUInt32 >>> (y.toUInt32 &&& Int32.toUInt32 31)).toInt32
def z_lshl (x : Int64) (y : Int32) : Int64 := x <<< (y.toInt64 &&& 63)
def z_lsar (x : Int64) (y : Int32) : Int64 := x >>> (y.toInt64 &&& 63)
def z_lshr (x : Int64) (y : Int32) : Int64 := (x.toUInt64 >>> (y.toInt64.toUInt64 &&& Int64.toUInt64 63)).toInt64
def z_i1 (st : List Value) (k : Int32 → List Value → Prop) : Prop := match st with
  | .int a :: r => k a r
  | _ => False
def z_l1 (st : List Value) (k : Int64 → List Value → Prop) : Prop := match st with
  | .long a :: r => k a r
  | _ => False
def z_i2 (st : List Value) (k : Int32 → Int32 → List Value → Prop) : Prop := match st with
  | .int y :: .int a :: r => k a y r
  | _ => False
def z_l2 (st : List Value) (k : Int64 → Int64 → List Value → Prop) : Prop := match st with
  | .long y :: .long a :: r => k a y r
  | _ => False
def z_li (st : List Value) (k : Int64 → Int32 → List Value → Prop) : Prop := match st with
  | .int y :: .long a :: r => k a y r
  | _ => False
def z_ldi (al : zAL) (i : Nat) (k : Int32 → Prop) : Prop := match z_nth al i with
  | some (some (.int a)) => k a
  | _ => False
def z_ldl (al : zAL) (i : Nat) (k : Int64 → Prop) : Prop := match z_nth al i with
  | some (some (.long a)) => k a
  | _ => False
def z_lda (al : zAL) (i : Nat) (k : Value → Prop) : Prop := match z_nth al i with
  | some (some (.ref a)) => k (.ref a)
  | some (some (.float a)) => k (.float a)
  | some (some (.retAddr a)) => k (.retAddr a)
  | some (some .null) => k .null
  | _ => False
def z_sti (al : zAL) (i : Nat) (st : List Value) (k : zAL → List Value → Prop) : Prop := match st with
  | .int a :: r => z_st1 al i (.int a) (fun al' => k al' r)
  | _ => False
def z_stl (al : zAL) (i : Nat) (st : List Value) (k : zAL → List Value → Prop) : Prop := match st with
  | .long a :: r => z_st2 al i (.long a) (fun al' => k al' r)
  | _ => False
def z_sta (al : zAL) (i : Nat) (st : List Value) (k : zAL → List Value → Prop) : Prop := match st with
  | .ref a :: r => z_st1 al i (.ref a) (fun al' => k al' r)
  | _ => False
def z_one (v : Value) (k : Prop) : Prop := match v with
  | .int _ => k
  | .ref _ => k
  | .float _ => k
  | .null => k
  | .retAddr _ => k
  | _ => False
def z_pop : Nat → List Value → List Value → (List Value → List Value → Prop) → Prop
  | 0, st, acc, k => k acc st
  | n + 1, v :: st, acc, k => z_pop n st (v :: acc) k
  | _ + 1, [], _, _ => False
def z_cats (st : List Value) : Nat := match st with
  | [] => 0
  | v :: r => v.category + z_cats r
def z_rlt (n : Nat) (v : Value) : Bool := match v with
  | .ref k => Nat.blt k n
  | _ => true
def z_wfl (n : Nat) (al : zAL) : Bool := al.all (fun o => match o with
  | none => true
  | some v => z_rlt n v)
def z_wfs (n : Nat) (st : List Value) : Bool := st.all (z_rlt n)
def z_wfg (n : Nat) (G : List zSh) : Bool := G.all (fun s => match s with
  | .inl (_, fs) => fs.all (fun f => match f with
    | some (some r) => Nat.blt r n
    | _ => true)
  | _ => true)
def z_psh : List zSh → zSh → Nat → (List zSh → Nat → Prop) → Prop
  | [], s, n, k => k [s] n
  | a :: l, s, n, k => z_psh l s (n + 1) (fun l' m => k (a :: l') m)
def z_fld (M : zM) (i : Nat) (w : zW) (o : Nat) (k : Nat → Nat → List (Option (Option Nat)) → Nat → Option (Option Nat) → Prop) : Prop := match z_look M.2.1 i with
  | some (ci, j, tc, _) => match z_nth w.1 o with
    | some (.inl (ci', fs)) => match Nat.beq ci' ci with
      | true => match z_nth fs j with
        | some f => k tc ci fs j f
        | none => False
      | false => False
    | _ => False
  | none => False
/-! constant cells: 1, 3, 5 Strings, 2, 4, 6 their bytes, 7 the digits' table, 8 what is never looked at -/
def z_cl : Nat → List Int32
  | 2 => [42]
  | 4 => [49]
  | 6 => [44, 49]
  | _ => []
def dOnes (j : Nat) : Int32 := nI (48 + j % 10)
def z_cv1 : Nat → Nat
  | 1 => 2
  | 3 => 4
  | 5 => 6
  | _ => 0
def z_cs : Nat → Bool
  | 1 => true
  | 3 => true
  | 5 => true
  | _ => false
def z_cb : Nat → Bool
  | 2 => true
  | 4 => true
  | 6 => true
  | _ => false
/-- a field of a String that is a constant -/
def z_cf (M : zM) (i c : Nat) (k : Value → Prop) : Prop := match z_look M.2.1 i with
  | some (ci, j, _, nest) => match Nat.beq ci 10 && (!nest && z_cs c) with
    | true => match j with
      | 0 => k (.retAddr (z_cv1 c))
      | 1 => k (.int (nI 0))
      | _ => False
    | false => False
  | none => False
def z_arr (w : zW) (o : Nat) (k : Nat → Nat → Prop) : Prop := match z_nth w.1 o with
  | some (.inr (t, n)) => k t n
  | _ => False
def z_gset : List zSh → Nat → Nat → Nat → Nat → (List zSh → Prop) → Prop
  | .inl (ci, fs) :: l, 0, j, r, _, k => k (.inl (ci, fs.set j (some (some r))) :: l)
  | a :: l, n + 1, j, r, q, k => z_gset l n j r q (fun l' => k (a :: l'))
  | _, _, _, _, _, _ => False
def z_sw (pc : Nat) (a : Int32) (st : List Value) (J : Nat → Prop) : Int → List Nat → Prop
  | _, [] => True
  | lo, t :: ts => (a = Int32.ofInt lo → J t) ∧ z_sw pc a st J (lo + 1) ts
def z_ret (rc : Nat) (a : Int32) : Prop := match rc with
  | 1 => True
  | 2 => a = nI 0 ∨ a = nI 1
  | 5 => vp_nar .byte a = a
  | 6 => vp_nar .char a = a
  | _ => False
/-- how a call is told: 0 static, 1 a constructor, 2 static of a nest mate, 3 a constructor of a nest mate, 4 virtual, 5 virtual of a nest mate, 6 Object's constructor, 7 System.arraycopy, 8 the law's cell, 9 an array's clone, 10 virtual and inherited, 11 super's, 13 virtual and overridden -/
def z_kk (ik kd : Nat) : Bool := match ik, kd with
  | 0, 0 => true
  | 0, 2 => true
  | 1, 4 => true
  | 1, 5 => true
  | 2, 1 => true
  | 2, 3 => true
  | 2, 6 => true
  | 0, 7 => true
  | 0, 8 => true
  | 1, 9 => true
  | 1, 10 => true
  | 2, 11 => true
  | 1, 13 => true
  | _, _ => false
def z_hdo (ci : Nat) (av : List Value) (w : zW) : Bool := match av with
  | .ref o :: _ => match z_nth w.1 o with
    | some (.inl (c', _)) => Nat.beq c' ci
    | _ => false
  | .retAddr c :: _ => Nat.beq ci 10 && z_cs c
  | _ => false
def z_hdr (av : List Value) : Bool := match av with
  | .ref _ :: _ => true
  | _ => false
def z_rcv (kd ci : Nat) (av : List Value) (w : zW) : Bool := match kd with
  | 0 => true
  | 2 => true
  | 4 => z_hdo ci av w
  | 5 => z_hdo ci av w
  | 7 => true
  | 8 => true
  | 9 => true
  | 10 => z_hdo ci av w
  | 11 => z_hdo ci av w
  | 13 => z_hdo ci av w
  | _ => z_hdr av
def z_bk (J : zJ) (nx : Nat) (al : zAL) (r : List Value) (c1 c2 : Nat) (v : Option Value) (w' : zW) : Prop := match v with
  | none => J nx al r w' c1 c2
  | some v => J nx al (v :: r) w' c1 c2
def z_cgo (M : zM) (J : zJ) (nx : Nat) (al : zAL) (r : List Value) (w : zW) (c1 c2 mc ms : Nat) (sp : zSp) (av : List Value) : Prop := match mc with
  | 0 => match ms with
    | 0 => sp av w (fun v w' => z_bk J nx al r c1 c2 v w')
    | _ => False
  | mc' + 1 => (c1 + (mc' + 1) ≤ M.2.2.2.2.2.2.2.2.2.1 ∧ c2 + ms ≤ M.2.2.2.2.2.2.2.2.2.2.1) ∧ ((z_wfl w.1.length al && z_wfs w.1.length r) = true ∧ sp av w (fun v w' => z_bk J nx al r (c1 + (mc' + 1)) (c2 + ms) v w'))
/-- bytes are copied, out of an array or a constant -/
def z_cpyk (_ : zM) (J : zJ) (nx : Nat) (al : zAL) (r : List Value) (w : zW) (c1 c2 : Nat) (av : List Value) : Prop := match av with
  | [.ref o, .int sp, .ref o2, .int dp, .int n] => z_arr w o (fun t N => z_arr w o2 (fun t2 N2 => match t with
    | 2 => match t2 with
      | 2 => (¬ sp < 0 ∧ ¬ dp < 0 ∧ ¬ n < 0 ∧ sp.toNatClampNeg + n.toNatClampNeg ≤ N ∧ dp.toNatClampNeg + n.toNatClampNeg ≤ N2 ∧ ∀ i : Nat, i < n.toNatClampNeg → fits .byte (.int (w.2.1 o (sp.toNatClampNeg + i))) = true) ∧ J nx al r (w.1, z_row w.2.1 o2 (va_cpy (w.2.1 o) (w.2.1 o2) sp.toNatClampNeg dp.toNatClampNeg n.toNatClampNeg), w.2.2) c1 c2
      | _ => False
    | _ => False))
  | [.retAddr c, .int sp, .ref o2, .int dp, .int n] => match z_cb c with
    | true => z_arr w o2 (fun t2 N2 => match t2 with
      | 2 => (¬ sp < 0 ∧ ¬ dp < 0 ∧ ¬ n < 0 ∧ sp.toNatClampNeg + n.toNatClampNeg ≤ (z_cl c).length ∧ dp.toNatClampNeg + n.toNatClampNeg ≤ N2) ∧ J nx al r (w.1, z_row w.2.1 o2 (va_cpy (fun j => (z_cl c).getD j 0) (w.2.1 o2) sp.toNatClampNeg dp.toNatClampNeg n.toNatClampNeg), w.2.2) c1 c2
      | _ => False)
    | false => False
  | _ => False
def z_clnk (M : zM) (J : zJ) (nx : Nat) (al : zAL) (r : List Value) (w : zW) (c1 c2 : Nat) (av : List Value) : Prop := match av with
  | [.ref o] => z_arr w o (fun t N => match t with
    | 2 => (c1 + 1 ≤ M.2.2.2.2.2.2.2.2.2.1 ∧ c2 + N ≤ M.2.2.2.2.2.2.2.2.2.2.1) ∧ ((z_wfl w.1.length al && (z_wfs w.1.length r && z_wfg w.1.length w.1)) = true ∧ (∀ i : Nat, i < N → fits .byte (.int (w.2.1 o i)) = true) ∧ z_psh w.1 (.inr (2, N)) 0 (fun G' n => J nx al (.ref n :: r) (G', z_row w.2.1 n (w.2.1 o), w.2.2) (c1 + 1) (c2 + N)))
    | _ => False)
  | _ => False
def z_call (M : zM) (J : zJ) (ik i nx : Nat) (al : zAL) (st : List Value) (w : zW) (c1 c2 : Nat) : Prop := match z_look M.2.2.1 i with
  | some (kd, ci, na, mc, ms, sp) => z_pop na st [] (fun av r => match z_kk ik kd && (Nat.ble (z_cats r) 8 && z_rcv kd ci av w) with
    | true => match kd with
      | 6 => J nx al r w c1 c2
      | 7 => z_cpyk M J nx al r w c1 c2 av
      | 9 => z_clnk M J nx al r w c1 c2 av
      | _ => z_cgo M J nx al r w c1 c2 mc ms sp av
    | false => False)
  | none => False
def z_step (M : zM) (post : Option Value → zW → Prop) (J : zJ) (e : zI) (al : zAL) (st : List Value) (w : zW) (c1 c2 : Nat) : Prop := match e with
  | (pc, nx, tg, ins) => match ins with
    | .aload i => z_lda al i (fun v => J nx al (v :: st) w c1 c2)
    | .aload_n i => z_lda al i.val (fun v => J nx al (v :: st) w c1 c2)
    | .iload i => z_ldi al i (fun a => J nx al (.int a :: st) w c1 c2)
    | .iload_n i => z_ldi al i.val (fun a => J nx al (.int a :: st) w c1 c2)
    | .lload i => z_ldl al i (fun a => J nx al (.long a :: st) w c1 c2)
    | .lload_n i => z_ldl al i.val (fun a => J nx al (.long a :: st) w c1 c2)
    | .istore i => z_sti al i st (fun al' r => J nx al' r w c1 c2)
    | .istore_n i => z_sti al i.val st (fun al' r => J nx al' r w c1 c2)
    | .lstore i => z_stl al i st (fun al' r => J nx al' r w c1 c2)
    | .lstore_n i => z_stl al i.val st (fun al' r => J nx al' r w c1 c2)
    | .astore i => z_sta al i st (fun al' r => J nx al' r w c1 c2)
    | .astore_n i => z_sta al i.val st (fun al' r => J nx al' r w c1 c2)
    | .iinc i n => z_ldi al i (fun a => match n with
      | .ofNat _ => z_st1 al i (.int (a + nI tg)) (fun al' => J nx al' st w c1 c2)
      | .negSucc _ => z_st1 al i (.int (a - nI tg)) (fun al' => J nx al' st w c1 c2))
    | .iconst n => match n with
      | .ofNat _ => J nx al (.int (nI tg) :: st) w c1 c2
      | .negSucc _ => J nx al (.int (mI tg) :: st) w c1 c2
    | .bipush n => match n with
      | .ofNat _ => J nx al (.int (nI tg) :: st) w c1 c2
      | .negSucc _ => J nx al (.int (mI tg) :: st) w c1 c2
    | .sipush n => match n with
      | .ofNat _ => J nx al (.int (nI tg) :: st) w c1 c2
      | .negSucc _ => J nx al (.int (mI tg) :: st) w c1 c2
    | .lconst _ => J nx al (.long (lN tg) :: st) w c1 c2
    | .ldc_w i => match z_look M.2.2.2.1.1 i with
      | some a => J nx al (.int a :: st) w c1 c2
      | none => False
    | .ldc i => match z_look M.2.2.2.1.1 i with
      | some a => J nx al (.int a :: st) w c1 c2
      | none => match z_look M.2.2.2.2.2.2.2.2.2.2.2 i with
        | some (.retAddr c) => match z_cs c with
          | true => J nx al (.retAddr c :: st) w c1 c2
          | false => False
        | _ => False
    | .getstatic i => match z_look M.2.2.2.2.2.2.2.2.2.2.2 i with
      | some (.int a) => J nx al (.int a :: st) w c1 c2
      | some (.retAddr 7) => J nx al (.retAddr 7 :: st) w c1 c2
      | some (.long _) => J nx al (.null :: st) w c1 c2 ∧ J nx al (.retAddr 8 :: st) w c1 c2
      | _ => False
    | .aconst_null => J nx al (.null :: st) w c1 c2
    | .ifnonnull _ => match st with
      | .ref _ :: r => J tg al r w c1 c2
      | .retAddr _ :: r => J tg al r w c1 c2
      | _ => False
    | .checkcast i => match st with
      | .ref o :: r => match z_look M.2.2.2.2.2.2.2.2.2.2.2 i with
        | some .null => z_arr w o (fun t _ => match t with
          | 2 => J nx al (.ref o :: r) w c1 c2
          | _ => False)
        | _ => False
      | _ => False
    | .areturn => match st with
      | [.ref q] => match M.2.2.2.2.2.2.1 with
        | 4 => post (some (.ref q)) w
        | _ => False
      | _ => False
    | .ldc2_w i => match z_look M.2.2.2.1.2.1 i with
      | some a => J nx al (.long a :: st) w c1 c2
      | none => False
    | .iadd => z_i2 st (fun a y r => J nx al (.int (a + y) :: r) w c1 c2)
    | .isub => z_i2 st (fun a y r => J nx al (.int (a - y) :: r) w c1 c2)
    | .imul => z_i2 st (fun a y r => J nx al (.int (a * y) :: r) w c1 c2)
    | .iand => z_i2 st (fun a y r => J nx al (.int (a &&& y) :: r) w c1 c2)
    | .ior => z_i2 st (fun a y r => J nx al (.int (a ||| y) :: r) w c1 c2)
    | .ixor => z_i2 st (fun a y r => J nx al (.int (a ^^^ y) :: r) w c1 c2)
    | .ishl => z_i2 st (fun a y r => J nx al (.int (z_shl a y) :: r) w c1 c2)
    | .ishr => z_i2 st (fun a y r => J nx al (.int (z_sar a y) :: r) w c1 c2)
    | .iushr => z_i2 st (fun a y r => J nx al (.int (z_shr a y) :: r) w c1 c2)
    | .idiv => z_i2 st (fun a y r => ¬ y = 0 ∧ J nx al (.int (a / y) :: r) w c1 c2)
    | .irem => z_i2 st (fun a y r => ¬ y = 0 ∧ J nx al (.int (z_rem a y) :: r) w c1 c2)
    | .ineg => z_i1 st (fun a r => J nx al (.int (-a) :: r) w c1 c2)
    | .i2l => z_i1 st (fun a r => J nx al (.long a.toInt64 :: r) w c1 c2)
    | .i2b => z_i1 st (fun a r => J nx al (.int a.toInt8.toInt32 :: r) w c1 c2)
    | .i2c => z_i1 st (fun a r => J nx al (.int (a.toUInt32 % 65536).toInt32 :: r) w c1 c2)
    | .l2i => z_l1 st (fun a r => J nx al (.int a.toInt32 :: r) w c1 c2)
    | .ladd => z_l2 st (fun a y r => J nx al (.long (a + y) :: r) w c1 c2)
    | .lsub => z_l2 st (fun a y r => J nx al (.long (a - y) :: r) w c1 c2)
    | .lmul => z_l2 st (fun a y r => J nx al (.long (a * y) :: r) w c1 c2)
    | .land => z_l2 st (fun a y r => J nx al (.long (a &&& y) :: r) w c1 c2)
    | .lor => z_l2 st (fun a y r => J nx al (.long (a ||| y) :: r) w c1 c2)
    | .lxor => z_l2 st (fun a y r => J nx al (.long (a ^^^ y) :: r) w c1 c2)
    | .lrem => z_l2 st (fun a y r => ¬ y = 0 ∧ J nx al (.long (z_lrem a y) :: r) w c1 c2)
    | .lcmp => z_l2 st (fun a y r => J nx al (.int (lg_cmp a y) :: r) w c1 c2)
    | .lshl => z_li st (fun a y r => J nx al (.long (z_lshl a y) :: r) w c1 c2)
    | .lshr => z_li st (fun a y r => J nx al (.long (z_lsar a y) :: r) w c1 c2)
    | .lushr => z_li st (fun a y r => J nx al (.long (z_lshr a y) :: r) w c1 c2)
    | .dup => match st with
      | v :: r => z_one v (J nx al (v :: v :: r) w c1 c2)
      | _ => False
    | .pop => match st with
      | v :: r => z_one v (J nx al r w c1 c2)
      | _ => False
    | .dup_x1 => match st with
      | v :: u :: r => z_one v (z_one u (J nx al (v :: u :: v :: r) w c1 c2))
      | _ => False
    | .dup2 => match st with
      | v :: u :: r => z_one v (z_one u (J nx al (v :: u :: v :: u :: r) w c1 c2))
      | _ => False
    | .goto _ => J tg al st w c1 c2
    | .ifCond .eq _ => z_i1 st (fun a r => (a = nI 0 → J tg al r w c1 c2) ∧ (¬ a = nI 0 → J nx al r w c1 c2))
    | .ifCond .ne _ => z_i1 st (fun a r => (¬ a = nI 0 → J tg al r w c1 c2) ∧ (a = nI 0 → J nx al r w c1 c2))
    | .ifCond .lt _ => z_i1 st (fun a r => (a < nI 0 → J tg al r w c1 c2) ∧ (¬ a < nI 0 → J nx al r w c1 c2))
    | .ifCond .ge _ => z_i1 st (fun a r => (¬ a < nI 0 → J tg al r w c1 c2) ∧ (a < nI 0 → J nx al r w c1 c2))
    | .ifCond .gt _ => z_i1 st (fun a r => (nI 0 < a → J tg al r w c1 c2) ∧ (¬ nI 0 < a → J nx al r w c1 c2))
    | .ifCond .le _ => z_i1 st (fun a r => (¬ nI 0 < a → J tg al r w c1 c2) ∧ (nI 0 < a → J nx al r w c1 c2))
    | .if_icmp .eq _ => z_i2 st (fun a y r => (a = y → J tg al r w c1 c2) ∧ (¬ a = y → J nx al r w c1 c2))
    | .if_icmp .ne _ => z_i2 st (fun a y r => (¬ a = y → J tg al r w c1 c2) ∧ (a = y → J nx al r w c1 c2))
    | .if_icmp .lt _ => z_i2 st (fun a y r => (a < y → J tg al r w c1 c2) ∧ (¬ a < y → J nx al r w c1 c2))
    | .if_icmp .ge _ => z_i2 st (fun a y r => (¬ a < y → J tg al r w c1 c2) ∧ (a < y → J nx al r w c1 c2))
    | .if_icmp .gt _ => z_i2 st (fun a y r => (y < a → J tg al r w c1 c2) ∧ (¬ y < a → J nx al r w c1 c2))
    | .if_icmp .le _ => z_i2 st (fun a y r => (¬ y < a → J tg al r w c1 c2) ∧ (y < a → J nx al r w c1 c2))
    | .getfield i => match st with
      | .ref o :: r => z_fld M i w o (fun _ _ _ j f => match f with
        | none => J nx al (.int (w.2.1 o j) :: r) w c1 c2
        | some (some q) => J nx al (.ref q :: r) w c1 c2
        | some none => False)
      | .retAddr c :: r => z_cf M i c (fun v => J nx al (v :: r) w c1 c2)
      | _ => False
    | .putfield i => match st with
      | .int a :: .ref o :: r => z_fld M i w o (fun tc _ _ j f => match f with
        | none => match tc with
          | 0 => J nx al r (w.1, z_up w.2.1 o j a, w.2.2) c1 c2
          | 1 => (a = nI 0 ∨ a = nI 1) ∧ J nx al r (w.1, z_up w.2.1 o j a, w.2.2) c1 c2
          | 4 => (vp_nar .byte a = a ∧ fits .byte (.int a) = true) ∧ J nx al r (w.1, z_up w.2.1 o j a, w.2.2) c1 c2
          | 5 => match M.2.2.2.2.2.2.2.1 with
            | true => (vp_nar .byte a = a ∧ fits .byte (.int a) = true) ∧ J nx al r (w.1, z_up w.2.1 o j a, w.2.2) c1 c2
            | false => False
          | _ => False
        | _ => False)
      | .ref q :: .ref o :: r => z_fld M i w o (fun tc _ _ j f => match tc with
        | 2 => match M.2.2.2.2.2.2.2.1 with
          | true => match f with
            | some _ => z_gset w.1 o j q 0 (fun G' => J nx al r (G', w.2.1, w.2.2) c1 c2)
            | none => False
          | false => False
        | 6 => match f with
          | some _ => z_gset w.1 o j q 0 (fun G' => J nx al r (G', w.2.1, w.2.2) c1 c2)
          | none => False
        | _ => False)
      | _ => False
    | .iaload => match st with
      | .int i :: .ref o :: r => z_arr w o (fun t n => match t with
        | 0 => vp_in i n ∧ J nx al (.int (w.2.1 o i.toNatClampNeg) :: r) w c1 c2
        | _ => False)
      | .int i :: .float _ :: r => match M.2.2.2.2.2.2.2.2.1.1 with
        | true => vp_in i M.2.2.2.2.2.2.2.2.1.2.1 ∧ J nx al (.int (M.2.2.2.2.2.2.2.2.1.2.2 i.toNatClampNeg) :: r) w c1 c2
        | false => False
      | _ => False
    | .baload => match st with
      | .int i :: .ref o :: r => z_arr w o (fun t n => match t with
        | 2 => vp_in i n ∧ J nx al (.int (w.2.1 o i.toNatClampNeg) :: r) w c1 c2
        | _ => False)
      | .int i :: .retAddr 7 :: r => vp_in i 100 ∧ J nx al (.int (dOnes i.toNatClampNeg) :: r) w c1 c2
      | _ => False
    | .laload => match st with
      | .int i :: .ref o :: r => z_arr w o (fun t n => match t with
        | 1 => vp_in i n ∧ J nx al (.long (w.2.2 o i.toNatClampNeg) :: r) w c1 c2
        | _ => False)
      | _ => False
    | .iastore => match st with
      | .int a :: .int i :: .ref o :: r => z_arr w o (fun t n => match t with
        | 0 => vp_in i n ∧ J nx al r (w.1, z_up w.2.1 o i.toNatClampNeg a, w.2.2) c1 c2
        | _ => False)
      | _ => False
    | .bastore => match st with
      | .int a :: .int i :: .ref o :: r => z_arr w o (fun t n => match t with
        | 2 => vp_in i n ∧ J nx al r (w.1, z_up w.2.1 o i.toNatClampNeg (vp_nar .byte a), w.2.2) c1 c2
        | _ => False)
      | _ => False
    | .lastore => match st with
      | .long a :: .int i :: .ref o :: r => z_arr w o (fun t n => match t with
        | 1 => vp_in i n ∧ J nx al r (w.1, w.2.1, z_up w.2.2 o i.toNatClampNeg a) c1 c2
        | _ => False)
      | _ => False
    | .arraylength => match st with
      | .ref o :: r => z_arr w o (fun _ n => J nx al (.int (nI n) :: r) w c1 c2)
      | .float _ :: r => match M.2.2.2.2.2.2.2.2.1.1 with
        | true => J nx al (.int (nI M.2.2.2.2.2.2.2.2.1.2.1) :: r) w c1 c2
        | false => False
      | .retAddr c :: r => match z_cb c with
        | true => J nx al (.int (nI (z_cl c).length) :: r) w c1 c2
        | false => False
      | _ => False
    | .new i => match z_look M.2.2.2.1.2.2 i with
      | some (ci, fs) => (c1 + 1 ≤ M.2.2.2.2.2.2.2.2.2.1 ∧ c2 + fs.length ≤ M.2.2.2.2.2.2.2.2.2.2.1) ∧ ((z_wfl w.1.length al && (z_wfs w.1.length st && z_wfg w.1.length w.1)) = true ∧ z_psh w.1 (.inl (ci, fs)) 0 (fun G' n => J nx al (.ref n :: st) (G', z_row w.2.1 n (fun _ => 0), w.2.2) (c1 + 1) (c2 + fs.length)))
      | none => False
    | .newarray t => z_i1 st (fun a r => ∃ N : Nat, a = nI N ∧ N ≤ 100000 ∧ (c1 + 1 ≤ M.2.2.2.2.2.2.2.2.2.1 ∧ c2 + N ≤ M.2.2.2.2.2.2.2.2.2.2.1) ∧ ((z_wfl w.1.length al && (z_wfs w.1.length r && z_wfg w.1.length w.1)) = true ∧ match t with
        | .int => z_psh w.1 (.inr (0, N)) 0 (fun G' n => J nx al (.ref n :: r) (G', z_row w.2.1 n (fun _ => 0), w.2.2) (c1 + 1) (c2 + N))
        | .long => z_psh w.1 (.inr (1, N)) 0 (fun G' n => J nx al (.ref n :: r) (G', w.2.1, z_row w.2.2 n (fun _ => 0)) (c1 + 1) (c2 + N))
        | .byte => z_psh w.1 (.inr (2, N)) 0 (fun G' n => J nx al (.ref n :: r) (G', z_row w.2.1 n (fun _ => 0), w.2.2) (c1 + 1) (c2 + N))
        | _ => False))
    | .invokestatic i => z_call M J 0 i nx al st w c1 c2
    | .invokevirtual i => z_call M J 1 i nx al st w c1 c2
    | .invokespecial i => z_call M J 2 i nx al st w c1 c2
    | .tableswitch _ _ _ _ => match z_look M.2.2.2.2.1 pc with
      | some (lo, d, ts) => z_i1 st (fun a r => z_sw pc a r (fun t => J t al r w c1 c2) lo ts ∧ ((a.toInt < lo ∨ lo + ts.length ≤ a.toInt) → J d al r w c1 c2))
      | none => False
    | .ireturn => match st with
      | [.int a] => z_ret M.2.2.2.2.2.2.1 a ∧ post (some (.int a)) w
      | _ => False
    | .lreturn => match st with
      | [.long a] => match M.2.2.2.2.2.2.1 with
        | 3 => post (some (.long a)) w
        | _ => False
      | _ => False
    | .return_ => match st with
      | [] => match M.2.2.2.2.2.2.1 with
        | 0 => post none w
        | _ => False
      | _ => False
    | _ => False
def z_from : List zI → Nat → List zI
  | [], _ => []
  | e :: l, pc => match Nat.beq e.1 pc with
    | true => e :: l
    | false => z_from l pc
def z_nxt (M : zM) (Jm : zJ) (go : List zI → zAL → List Value → zW → Nat → Nat → Prop) (l : List zI) (pc' : Nat) (al' : zAL) (st' : List Value) (w' : zW) (c1' c2' : Nat) : Prop := match z_look M.2.2.2.2.2.1 pc' with
  | some ms => z_msk ms al' (fun al2 => Jm pc' al2 st' w' c1' c2')
  | none => match l with
    | e' :: _ => match Nat.beq e'.1 pc' with
      | true => go l al' st' w' c1' c2'
      | false => go (z_from M.1 pc') al' st' w' c1' c2'
    | [] => go (z_from M.1 pc') al' st' w' c1' c2'
def z_wp (M : zM) (post : Option Value → zW → Prop) (Jm : zJ) : Nat → List zI → zAL → List Value → zW → Nat → Nat → Prop
  | 0, _, _, _, _, _, _ => False
  | _ + 1, [], _, _, _, _, _ => False
  | n + 1, e :: l, al, st, w, c1, c2 => z_step M post (fun pc' al' st' w' c1' c2' => z_nxt M Jm (z_wp M post Jm n) l pc' al' st' w' c1' c2') e al st w c1 c2
end
section
/-! the contract, and that the step is right -/
def z_isN (w : Cond) : Bool := match w with
  | .fieldLinkNest _ _ _ _ _ _ => true
  | .methodLinkNest _ _ _ _ => true
  | _ => false
theorem zNW_isN : ∀ w ∈ zNW, z_isN w = true := by
  have h : zNW.all z_isN = true := by decide +kernel
  exact fun w hw => List.all_eq_true.mp h w hw
def z_KK (x : zX) (U : State) : Prop := va_K x.1 vwCl (z_tys x) U ∧ ∀ w ∈ zNW, va_Nw w U
theorem z_KK.moved {x : zX} {s U : State} (h : z_KK x s) (hW : s.WarmedH U.vm) : z_KK x U := by
  refine ⟨va_K.moved hW.alike h.1, fun w hw => ?_⟩
  have h1 := zNW_isN w hw
  have h2 := h.2 w hw
  cases w <;> first | exact va_Nw.warmF hW h2 | exact va_Nw.warmM hW h2 | exact absurd h1 (by simp [z_isN])
theorem z_KK.same {x : zX} {u U : State} (h : z_KK x u) (hvm : u.vm = U.vm) : z_KK x U := by
  refine ⟨va_K.moved (by rw [hvm]; exact Vm.Alike.refl _) h.1, fun w hw => ?_⟩
  have h1 := zNW_isN w hw
  have h2 := h.2 w hw
  cases w <;> first | exact va_Nw.same rfl hvm h2 | exact absurd h1 (by simp [z_isN])
/-! the constants: Strings, their bytes, the digits' table; what the statics hold -/
def zCon (b : Nat → Nat) (A : Nat → Prop) (U : State) (H : Heap) : Prop :=
  vk_S 3 [1, 1, 2] [[42], [49], [44, 49]] (fun i => b (2 * i + 1)) (fun i => b (2 * i + 2)) A U H ∧ (vk_R RL 116 "*" (b 1) U ∧ vk_R RL 127 "1" (b 3) U ∧ vk_R RL 132 ",1" (b 5) U) ∧
  va_Z "java/lang/String" "COMPACT_STRINGS" "Z" (.int 1) A U H ∧ (va_Z "java/lang/Integer" "DigitOnes" "[B" (.ref (b 7)) A U H ∧ va_T .byte (b 7) 100 (fun j => .int (dOnes j)) A U H) ∧
  (va_Z "jdk/internal/util/Preconditions" "SIOOBE_FORMATTER" "Ljava/util/function/BiFunction;" .null A U H ∨ va_Z "jdk/internal/util/Preconditions" "SIOOBE_FORMATTER" "Ljava/util/function/BiFunction;" (.ref (b 8)) A U H) ∧ va_Nw (.castable "[B" "java/lang/Cloneable") U
theorem zCon.moved {b : Nat → Nat} {A : Nat → Prop} {s U : State} {H : Heap} (h : zCon b A s H) (hW : s.WarmedH U.vm) : zCon b A U H := by
  obtain ⟨h1, ⟨h2, h3, h4⟩, h5, ⟨h6, h7⟩, h8, h9⟩ := h
  exact ⟨h1.moved hW.alike, ⟨h2.warm hW, h3.warm hW, h4.warm hW⟩, h5.moved hW.alike, ⟨h6.moved hW.alike, h7.moved hW.alike⟩, h8.imp (fun h => h.moved hW.alike) (fun h => h.moved hW.alike), va_Nw.warmC hW h9⟩
theorem zCon.same {b : Nat → Nat} {A : Nat → Prop} {u U : State} {H : Heap} (h : zCon b A u H) (hvm : U.vm = u.vm) : zCon b A U H := by
  obtain ⟨h1, ⟨h2, h3, h4⟩, h5, ⟨h6, h7⟩, h8, h9⟩ := h
  have ha : u.vm.Alike U.vm := by rw [hvm]; exact Vm.Alike.refl _
  exact ⟨h1.moved ha, ⟨h2.same hvm, h3.same hvm, h4.same hvm⟩, h5.moved ha, ⟨h6.moved ha, h7.moved ha⟩, h8.imp (fun h => h.moved ha) (fun h => h.moved ha), va_Nw.same rfl hvm.symm h9⟩
theorem zCon.kept {b : Nat → Nat} {A : Nat → Prop} {U : State} {H H1 : Heap} (h : zCon b A U H) (hq : ∀ a : Nat, a < H.size → ¬ A a → H1[a]? = H[a]?) : zCon b A U H1 := by
  obtain ⟨h1, h2, h5, ⟨h6, h7⟩, h8, h9⟩ := h
  exact ⟨h1.kept hq, h2, h5.kept hq, ⟨h6.kept hq, h7.kept hq⟩, h8.imp (fun h => h.kept hq) (fun h => h.kept hq), h9⟩
theorem zCon.narrow {b : Nat → Nat} {A B : Nat → Prop} {U : State} {H : Heap} (h : zCon b A U H) (hAB : ∀ q, B q → A q) : zCon b B U H := by
  obtain ⟨h1, h2, h5, ⟨h6, h7⟩, h8, h9⟩ := h
  exact ⟨h1.narrow hAB, h2, h5.narrow hAB, ⟨h6.narrow hAB, h7.narrow hAB⟩, h8.imp (fun h => h.narrow hAB) (fun h => h.narrow hAB), h9⟩
def z_AG (ad0 ad : Nat → Nat) (n0 mc : Nat) : Prop := (∀ k, k < n0 → ad k = ad0 k) ∧ (mc = 0 → ad = ad0)
def z_A (x : zX) (ad : Nat → Nat) (w : zW) (sz : Nat) : Nat → Prop := va_A (z_ws x ad w) sz
def z_Pc (x : zX) (b : Nat → Nat) (ad : Nat → Nat) (av : List Value) (w : zW) (sz : Nat) : Array Value → State → Prop := va_Pc (av.map (z_cv b ad)) (fun U => U.heap.size = sz ∧ va_P x.1 vwCl (z_ws x ad w) U.heap ∧ z_KK x U ∧ va_D (fun _ => True) (z_ws x ad w) ∧ zCon b (z_A x ad w sz) U U.heap)
def z_Qc (x : zX) (b : Nat → Nat) (ad : Nat → Nat) (w : zW) (K : Option Value → zW → Prop) (sz mc : Nat) : Array Value → State → Outcome → State → Prop := fun _ st oc t => (∃ (r : Option Value) (w' : zW) (ad' : Nat → Nat), oc = .returned (r.map (z_cv b ad')) ∧ K r w' ∧ w.1.length ≤ w'.1.length ∧ z_AG ad ad' w.1.length mc ∧ va_P x.1 vwCl (z_ws x ad' w') t.heap ∧ va_D (z_A x ad w sz) (z_ws x ad' w')) ∧ va_F (z_A x ad w sz) st t
/-- the contract of a method: from each world of which sp says so, it ends in a world and with an answer of which K holds -/
def z_CS (l : Launch) (y : MethodName) (cc : ByteArray) (maxL : Nat) (ret : Option FieldType) (rm : Room) (sp : zSp) : Prop :=
  ∀ (x : zX) (b : Nat → Nat) (ad : Nat → Nat) (av : List Value) (w : zW) (K : Option Value → zW → Prop) (sz : Nat), sp av w K → Met l y (.code y cc maxL ret :: zTT) rm (z_Pc x b ad av w sz) (z_Qc x b ad w K sz rm.cells) rm.cells rm.slots (z_A x ad w sz)
def z_len (i : Instr) : Nat := match i with
  | .bipush _ => 2
  | .iload _ => 2
  | .lload _ => 2
  | .aload _ => 2
  | .istore _ => 2
  | .lstore _ => 2
  | .astore _ => 2
  | .newarray _ => 2
  | .ldc _ => 2
  | .getstatic _ => 3
  | .ifnonnull _ => 3
  | .checkcast _ => 3
  | .sipush _ => 3
  | .iinc _ _ => 3
  | .getfield _ => 3
  | .putfield _ => 3
  | .goto _ => 3
  | .ifCond _ _ => 3
  | .if_icmp _ _ => 3
  | .invokestatic _ => 3
  | .invokevirtual _ => 3
  | .invokespecial _ => 3
  | .ldc_w _ => 3
  | .ldc2_w _ => 3
  | .new _ => 3
  | _ => 1
def z_isw (i : Instr) : Bool := match i with
  | .tableswitch _ _ _ _ => true
  | _ => false
def z_cst (n : Int) (v : Int32) (tg : Nat) : Bool := match n with
  | .ofNat _ => decide (v = nI tg)
  | .negSucc _ => decide (v = mI tg)
def z_tb (pc tg : Nat) (i : Instr) : Bool := match i with
  | .goto o => decide ((pc : Int) + o = (tg : Int))
  | .ifCond _ o => decide ((pc : Int) + o = (tg : Int))
  | .if_icmp _ o => decide ((pc : Int) + o = (tg : Int))
  | .ifnonnull o => decide ((pc : Int) + o = (tg : Int))
  | .iconst n => z_cst n (Int32.ofInt n) tg
  | .bipush n => z_cst n (Int8.ofInt n).toInt32 tg
  | .sipush n => z_cst n (Int16.ofInt n).toInt32 tg
  | .lconst k => decide (Int64.ofNat (k : Nat) = lN tg)
  | .iinc _ n => z_cst n (Int32.ofInt n) tg
  | _ => true
def z_okb (cc : ByteArray) (e : zI) : Bool := match decode cc e.1 with
  | .ok (i, len) => decide (i = e.2.2.2) && (z_tb e.1 e.2.2.1 e.2.2.2 && (z_isw e.2.2.2 || (Nat.beq len (z_len e.2.2.2) && Nat.beq e.2.1 (e.1 + len))))
  | .error _ => false
theorem z_dec {cc : ByteArray} {pc nx tg : Nat} {ins : Instr} (h : z_okb cc (pc, nx, tg, ins) = true) (hw : z_isw ins = false) : decode cc pc = .ok (ins, z_len ins) ∧ nx = pc + z_len ins ∧ z_tb pc tg ins = true := by
  unfold z_okb at h
  dsimp only at h
  split at h
  · rename_i i len e
    rw [hw] at h
    simp only [Bool.and_eq_true, decide_eq_true_eq, Bool.false_or] at h
    obtain ⟨rfl, h2, h3, h4⟩ := h
    have e3 := Nat.eq_of_beq_eq_true h3
    have e4 := Nat.eq_of_beq_eq_true h4
    subst e3
    exact ⟨e, e4, h2⟩
  · cases h
theorem z_decw {cc : ByteArray} {pc nx tg : Nat} {ins : Instr} (h : z_okb cc (pc, nx, tg, ins) = true) : ∃ len, decode cc pc = .ok (ins, len) := by
  unfold z_okb at h
  dsimp only at h
  split at h
  · rename_i i len e
    simp only [Bool.and_eq_true, decide_eq_true_eq] at h
    obtain ⟨rfl, -⟩ := h
    exact ⟨len, e⟩
  · cases h
theorem z_cst_n {n : Nat} {v : Int32} {tg : Nat} (h : z_cst (.ofNat n) v tg = true) : v = nI tg := by simpa [z_cst] using h
theorem z_cst_m {n : Nat} {v : Int32} {tg : Nat} (h : z_cst (.negSucc n) v tg = true) : v = mI tg := by simpa [z_cst] using h
/-- what a table of fields must say -/
def z_fok (own : String) (q : Nat × Nat × Nat × Nat × Bool) : Prop := ∃ (C : String) (T : u_T) (N : Nat) (ty : Nat → FieldType), vwCl[q.2.1]? = some (C, T, N) ∧ q.2.2.1 < N ∧ (∀ w ∈ u_ws C T N, w ∈ zTT) ∧ (∀ k, k < N → parseFieldDescriptor (T k).2.2.1 = some (ty k)) ∧ (∀ a, a < N → ∀ b, b < N → a ≠ b → (T a).2.1 ≠ (T b).2.1) ∧
  ((q.2.2.2.2 = false ∧ Cond.fieldLink own q.1 (T q.2.2.1).1 (T q.2.2.1).2.1 (T q.2.2.1).2.2.1 ∈ zTT) ∨ (q.2.2.2.2 = true ∧ ∃ host, Cond.fieldLinkNest own q.1 (T q.2.2.1).1 (T q.2.2.1).2.1 (T q.2.2.1).2.2.1 host ∈ zNW)) ∧
  (q.2.2.2.1 = 0 → ty q.2.2.1 = .int ∧ (T q.2.2.1).2.2.2 = false) ∧ (q.2.2.2.1 = 1 → ty q.2.2.1 = .boolean ∧ (T q.2.2.1).2.2.2 = false) ∧ (q.2.2.2.1 = 2 → ((∃ n, ty q.2.2.1 = .object n) ∨ ∃ t, ty q.2.2.1 = .array t) ∧ (T q.2.2.1).2.2.2 = true ∧ (T q.2.2.1).1 = own ∧ q.2.2.2.2 = false) ∧ (q.2.2.2.1 = 4 → ty q.2.2.1 = .byte ∧ (T q.2.2.1).2.2.2 = false) ∧ (q.2.2.2.1 = 5 → ty q.2.2.1 = .byte ∧ (T q.2.2.1).2.2.2 = true ∧ (T q.2.2.1).1 = own ∧ q.2.2.2.2 = false) ∧ (q.2.2.2.1 = 6 → ((∃ n, ty q.2.2.1 = .object n) ∨ ∃ t, ty q.2.2.1 = .array t) ∧ (T q.2.2.1).2.2.2 = false)
/-- a contract that stands on the script, too -/
def z_Pcs (x : zX) (b : Nat → Nat) (ad : Nat → Nat) (av : List Value) (w : zW) (sz L : Nat) (xs : Nat → Int32) : Array Value → State → Prop := fun a U => z_Pc x b ad av w sz a U ∧ (va_X (b 0) L xs U U.heap ∧ b 0 < sz ∧ ¬ z_A x ad w sz (b 0))
def z_CSs (l : Launch) (y : MethodName) (cc : ByteArray) (maxL : Nat) (ret : Option FieldType) (rm : Room) (L : Nat) (xs : Nat → Int32) (sp : zSp) : Prop :=
  ∀ (x : zX) (b : Nat → Nat) (ad : Nat → Nat) (av : List Value) (w : zW) (K : Option Value → zW → Prop) (sz : Nat), sp av w K → Met l y (.code y cc maxL ret :: zTT) rm (z_Pcs x b ad av w sz L xs) (z_Qc x b ad w K sz rm.cells) rm.cells rm.slots (z_A x ad w sz)
abbrev acN : MethodName := arraycopyName
abbrev clB : MethodName := ⟨"[B", "clone", "()Ljava/lang/Object;"⟩
abbrev clO : MethodName := ⟨"java/lang/Object", "clone", "()Ljava/lang/Object;"⟩
def z_cok (l : Launch) (own : String) (R : Room) (scr : Bool × Nat × (Nat → Int32)) (q : zCall) : Prop :=
  (q.2.1 = 7 ∧ Cond.methodLink own q.1 acN ∈ zTT ∧ Cond.native acN ∈ zTT ∧ Cond.static acN ∈ zTT ∧ Cond.initialized "java/lang/System" ∈ zTT ∧ 1 ≤ R.frames ∧ 26 ≤ R.locals) ∨
  (q.2.1 = 9 ∧ Cond.methodLink own q.1 clB ∈ zTT ∧ Cond.sameMethod "[B" "java/lang/Object" "clone" "()Ljava/lang/Object;" ∈ zTT ∧ Cond.native clO ∈ zTT ∧ Cond.instanceMethod clO ∈ zTT ∧ Cond.selects "[B" clB clO ∈ zTT ∧ 1 ≤ R.frames ∧ 22 ≤ R.locals) ∨
  (q.2.1 = 8 ∧ scr.1 = true ∧ ∃ (y : MethodName) (bytes : ByteArray) (maxL n : Nat) (ret : Option FieldType) (rm : Room), z_CSs l y bytes maxL ret rm scr.2.1 scr.2.2 q.2.2.2.2.2.2 ∧ rm.cells = q.2.2.2.2.1 ∧ rm.slots = q.2.2.2.2.2.1 ∧ (rm.frames + 1 ≤ R.frames ∧ 8 + (maxL + 11) + rm.locals ≤ R.locals) ∧
    Cond.code y bytes maxL ret ∈ zTT ∧ Cond.initialized y.cls ∈ zTT ∧ (y.cls ≠ "java/lang/invoke/MethodHandle" ∧ y.cls ≠ "java/lang/invoke/VarHandle" ∧ (parseMethodDescriptor y.desc).map (fun d => d.parameters.length) = some n) ∧ q.2.2.2.1 = n ∧ Cond.methodLink own q.1 y ∈ zTT ∧ Cond.static y ∈ zTT) ∨
  (q.2.1 = 6 ∧ Cond.methodLink own q.1 objectInit ∈ zTT ∧ Cond.instanceMethod objectInit ∈ zTT ∧ Cond.code objectInit ⟨#[0xb1]⟩ 1 none ∈ zTT ∧ 1 ≤ R.frames ∧ 20 ≤ R.locals ∧ q.2.2.2.1 = 1) ∨
  (q.2.1 ≠ 6 ∧ q.2.1 ≠ 7 ∧ q.2.1 ≠ 8 ∧ q.2.1 ≠ 9 ∧ ∃ (y : MethodName) (bytes : ByteArray) (maxL n : Nat) (ret : Option FieldType) (rm : Room), z_CS l y bytes maxL ret rm q.2.2.2.2.2.2 ∧ rm.cells = q.2.2.2.2.1 ∧ rm.slots = q.2.2.2.2.2.1 ∧ (rm.frames + 1 ≤ R.frames ∧ 8 + (maxL + 11) + rm.locals ≤ R.locals) ∧
    Cond.code y bytes maxL ret ∈ zTT ∧ Cond.initialized y.cls ∈ zTT ∧ (y.cls ≠ "java/lang/invoke/MethodHandle" ∧ y.cls ≠ "java/lang/invoke/VarHandle" ∧ (parseMethodDescriptor y.desc).map (fun d => d.parameters.length) = some n) ∧
    ((q.2.1 = 0 ∧ q.2.2.2.1 = n ∧ Cond.methodLink own q.1 y ∈ zTT ∧ Cond.static y ∈ zTT) ∨
     (q.2.1 = 2 ∧ q.2.2.2.1 = n ∧ (∃ host, Cond.methodLinkNest own q.1 y host ∈ zNW) ∧ Cond.static y ∈ zTT) ∨
     (q.2.1 = 1 ∧ q.2.2.2.1 = n + 1 ∧ y.name = "<init>" ∧ ret = none ∧ Cond.methodLink own q.1 y ∈ zTT ∧ Cond.instanceMethod y ∈ zTT) ∨
     (q.2.1 = 3 ∧ q.2.2.2.1 = n + 1 ∧ y.name = "<init>" ∧ ret = none ∧ (∃ host, Cond.methodLinkNest own q.1 y host ∈ zNW) ∧ Cond.instanceMethod y ∈ zTT) ∨
     (q.2.1 = 4 ∧ q.2.2.2.1 = n + 1 ∧ (∃ v, vwCl[q.2.2.1]? = some v ∧ v.1 = y.cls) ∧ Cond.methodLink own q.1 y ∈ zTT ∧ Cond.instanceMethod y ∈ zTT ∧ Cond.selects y.cls y y ∈ zTT) ∨
     (q.2.1 = 5 ∧ q.2.2.2.1 = n + 1 ∧ (∃ v, vwCl[q.2.2.1]? = some v ∧ v.1 = y.cls) ∧ (∃ host, Cond.methodLinkNest own q.1 y host ∈ zNW) ∧ Cond.instanceMethod y ∈ zTT ∧ Cond.selects y.cls y y ∈ zTT) ∨
     (q.2.1 = 10 ∧ q.2.2.2.1 = n + 1 ∧ (∃ v, vwCl[q.2.2.1]? = some v ∧ Cond.selects v.1 y y ∈ zTT) ∧ Cond.methodLink own q.1 y ∈ zTT ∧ Cond.sameMethod y.cls y.cls y.name y.desc ∈ zTT ∧ Cond.instanceMethod y ∈ zTT) ∨
     (q.2.1 = 13 ∧ q.2.2.2.1 = n + 1 ∧ ∃ (v : vw_C) (z : MethodName) (b0 : ByteArray) (m0 : Nat) (r0 : Option FieldType), vwCl[q.2.2.1]? = some v ∧ Cond.selects v.1 z y ∈ zTT ∧ Cond.methodLink own q.1 z ∈ zTT ∧ Cond.sameMethod z.cls z.cls z.name z.desc ∈ zTT ∧ Cond.instanceMethod z ∈ zTT ∧ Cond.instanceMethod y ∈ zTT ∧ Cond.code z b0 m0 r0 ∈ zTT ∧ (z.cls ≠ "java/lang/invoke/MethodHandle" ∧ z.cls ≠ "java/lang/invoke/VarHandle" ∧ (parseMethodDescriptor z.desc).map (fun d => d.parameters.length) = some n)) ∨
     (q.2.1 = 11 ∧ q.2.2.2.1 = n + 1 ∧ (∃ v, vwCl[q.2.2.1]? = some v) ∧ y.name ≠ "<init>" ∧ Cond.methodLink own q.1 y ∈ zTT ∧ Cond.sameMethod y.cls y.cls y.name y.desc ∈ zTT ∧ Cond.superclass own y.cls ∈ zTT ∧ Cond.instanceMethod y ∈ zTT)))
def z_nok (own : String) (q : Nat × Nat × List (Option (Option Nat))) : Prop := ∃ (C : String) (T : u_T) (N : Nat) (ty : Nat → FieldType), vwCl[q.2.1]? = some (C, T, N) ∧ (∀ w ∈ u_ws C T N, w ∈ zTT) ∧ (∀ k, k < N → parseFieldDescriptor (T k).2.2.1 = some (ty k)) ∧ Cond.classLink own q.1 C ∈ zTT ∧ Cond.instantiable C N ∈ zTT ∧ Cond.initialized C ∈ zTT ∧ q.2.2.length = N ∧
  ∀ k, k < N → (q.2.2[k]? = some none ∧ (ty k = .int ∨ ty k = .boolean ∨ ty k = .byte)) ∨ (q.2.2[k]? = some (some none) ∧ ((∃ n, ty k = .object n) ∨ ∃ t, ty k = .array t))
def z_sokb (cc : ByteArray) (q : Nat × Int × Nat × List Nat) : Bool := match decode cc q.1 with
  | .ok (.tableswitch d lo hi offs, _) => decide (lo = q.2.1) && (decide (hi + 1 = lo + (q.2.2.2.length : Int)) && (decide ((q.1 : Int) + d = (q.2.2.1 : Int)) && decide (offs.toList.map (fun o => (q.1 : Int) + o) = q.2.2.2.map Int.ofNat)))
  | _ => false
/-- what the constants' table must say: statics, Strings, casts to an array of bytes -/
def z_kok (own : String) (q : Nat × Value) : Prop := match q.2 with
  | .int a => a = 1 ∧ Cond.fieldLink own q.1 "java/lang/String" "COMPACT_STRINGS" "Z" ∈ zTT
  | .retAddr 7 => Cond.fieldLink own q.1 "java/lang/Integer" "DigitOnes" "[B" ∈ zTT
  | .retAddr 1 => own = RL ∧ q.1 = 116
  | .retAddr 3 => own = RL ∧ q.1 = 127
  | .retAddr 5 => own = RL ∧ q.1 = 132
  | .long _ => Cond.fieldLink own q.1 "jdk/internal/util/Preconditions" "SIOOBE_FORMATTER" "Ljava/util/function/BiFunction;" ∈ zTT
  | .null => Cond.classLink own q.1 "[B" ∈ zTT
  | _ => False
def z_OK (l : Launch) (own : String) (cc : ByteArray) (R : Room) (M : zM) : Prop := (∀ e ∈ M.1, z_okb cc e = true) ∧ (∀ q ∈ M.2.1, z_fok own q) ∧ (∀ q ∈ M.2.2.1, z_cok l own R M.2.2.2.2.2.2.2.2.1 q) ∧ (∀ q ∈ M.2.2.2.1.1, Cond.constant own q.1 q.2 ∈ zTT) ∧ (∀ q ∈ M.2.2.2.1.2.1, Cond.constantLong own q.1 q.2 ∈ zTT) ∧ (∀ q ∈ M.2.2.2.1.2.2, z_nok own q) ∧ (∀ q ∈ M.2.2.2.2.1, z_sokb cc q = true) ∧ M.2.2.2.2.2.2.2.2.2.1 = R.cells ∧ M.2.2.2.2.2.2.2.2.2.2.1 = R.slots ∧ ∀ q ∈ M.2.2.2.2.2.2.2.2.2.2.2, z_kok own q
/-! what the forms of the step give -/
theorem z_i1_ok {st : List Value} {k : Int32 → List Value → Prop} (h : z_i1 st k) : ∃ a r, st = .int a :: r ∧ k a r := by
  unfold z_i1 at h
  split at h
  · exact ⟨_, _, rfl, h⟩
  · exact h.elim
theorem z_l1_ok {st : List Value} {k : Int64 → List Value → Prop} (h : z_l1 st k) : ∃ a r, st = .long a :: r ∧ k a r := by
  unfold z_l1 at h
  split at h
  · exact ⟨_, _, rfl, h⟩
  · exact h.elim
theorem z_i2_ok {st : List Value} {k : Int32 → Int32 → List Value → Prop} (h : z_i2 st k) : ∃ a y r, st = .int y :: .int a :: r ∧ k a y r := by
  unfold z_i2 at h
  split at h
  · exact ⟨_, _, _, rfl, h⟩
  · exact h.elim
theorem z_l2_ok {st : List Value} {k : Int64 → Int64 → List Value → Prop} (h : z_l2 st k) : ∃ a y r, st = .long y :: .long a :: r ∧ k a y r := by
  unfold z_l2 at h
  split at h
  · exact ⟨_, _, _, rfl, h⟩
  · exact h.elim
theorem z_li_ok {st : List Value} {k : Int64 → Int32 → List Value → Prop} (h : z_li st k) : ∃ a y r, st = .int y :: .long a :: r ∧ k a y r := by
  unfold z_li at h
  split at h
  · exact ⟨_, _, _, rfl, h⟩
  · exact h.elim
theorem z_ldi_ok {al : zAL} {i : Nat} {k : Int32 → Prop} (h : z_ldi al i k) : ∃ a, z_nth al i = some (some (.int a)) ∧ k a := by
  unfold z_ldi at h
  split at h
  · rename_i e; exact ⟨_, e, h⟩
  · exact h.elim
theorem z_ldl_ok {al : zAL} {i : Nat} {k : Int64 → Prop} (h : z_ldl al i k) : ∃ a, z_nth al i = some (some (.long a)) ∧ k a := by
  unfold z_ldl at h
  split at h
  · rename_i e; exact ⟨_, e, h⟩
  · exact h.elim
theorem z_lda_ok {b : Nat → Nat} {ad : Nat → Nat} {al : zAL} {i : Nat} {k : Value → Prop} (h : z_lda al i k) : ∃ v, z_nth al i = some (some v) ∧ ((∃ q, z_cv b ad v = .ref q) ∨ z_cv b ad v = .null) ∧ k v := by
  unfold z_lda at h
  split at h
  · rename_i e; exact ⟨_, e, Or.inl ⟨_, rfl⟩, h⟩
  · rename_i e; exact ⟨_, e, Or.inl ⟨_, rfl⟩, h⟩
  · rename_i e; exact ⟨_, e, Or.inl ⟨_, rfl⟩, h⟩
  · rename_i e; exact ⟨_, e, Or.inr rfl, h⟩
  · exact h.elim
theorem z_st1_ok {al : zAL} {i : Nat} {v : Value} {k : zAL → Prop} (h : z_st1 al i v k) : i < al.length ∧ k (z_set (z_kill al i) i (some v)) := by
  unfold z_st1 at h
  split at h
  · rename_i e
    rw [z_killk_eq, z_setk_eq] at h
    rw [z_nth_eq] at e
    exact ⟨(List.getElem?_eq_some_iff.mp e).1, h⟩
  · exact h.elim
theorem z_st2_ok {al : zAL} {i : Nat} {v : Value} {k : zAL → Prop} (h : z_st2 al i v k) : i + 1 < al.length ∧ k (z_set (z_set (z_kill al i) i (some v)) (i + 1) none) := by
  unfold z_st2 at h
  split at h
  · rename_i e
    rw [z_killk_eq, z_setk_eq, z_setk_eq] at h
    rw [z_nth_eq] at e
    exact ⟨(List.getElem?_eq_some_iff.mp e).1, h⟩
  · exact h.elim
theorem z_sti_ok {al : zAL} {i : Nat} {st : List Value} {k : zAL → List Value → Prop} (h : z_sti al i st k) : ∃ a r, st = .int a :: r ∧ i < al.length ∧ k (z_set (z_kill al i) i (some (.int a))) r := by
  unfold z_sti at h
  split at h
  · exact ⟨_, _, rfl, z_st1_ok h⟩
  · exact h.elim
theorem z_stl_ok {al : zAL} {i : Nat} {st : List Value} {k : zAL → List Value → Prop} (h : z_stl al i st k) : ∃ a r, st = .long a :: r ∧ i + 1 < al.length ∧ k (z_set (z_set (z_kill al i) i (some (.long a))) (i + 1) none) r := by
  unfold z_stl at h
  split at h
  · exact ⟨_, _, rfl, z_st2_ok h⟩
  · exact h.elim
theorem z_sta_ok {al : zAL} {i : Nat} {st : List Value} {k : zAL → List Value → Prop} (h : z_sta al i st k) : ∃ a r, st = .ref a :: r ∧ i < al.length ∧ k (z_set (z_kill al i) i (some (.ref a))) r := by
  unfold z_sta at h
  split at h
  · exact ⟨_, _, rfl, z_st1_ok h⟩
  · exact h.elim
theorem z_one_ok {v : Value} {k : Prop} (h : z_one v k) : v.category = 1 ∧ k := by
  unfold z_one at h
  split at h <;> first | exact ⟨rfl, h⟩ | exact h.elim
theorem z_fld_ok {M : zM} {i : Nat} {w : zW} {o : Nat} {k : Nat → Nat → List (Option (Option Nat)) → Nat → Option (Option Nat) → Prop} (h : z_fld M i w o k) : ∃ ci j tc nest fs f, (i, ci, j, tc, nest) ∈ M.2.1 ∧ w.1[o]? = some (.inl (ci, fs)) ∧ fs[j]? = some f ∧ k tc ci fs j f := by
  unfold z_fld at h
  split at h
  · rename_i ci j tc nest e1
    split at h
    · rename_i ci' fs e2
      split at h
      · rename_i e3
        split at h
        · rename_i f e4
          have := Nat.eq_of_beq_eq_true e3
          subst this
          exact ⟨_, j, tc, nest, fs, f, z_look_mem e1, by rw [← z_nth_eq]; exact e2, by rw [← z_nth_eq]; exact e4, h⟩
        · exact h.elim
      · exact h.elim
    · exact h.elim
  · exact h.elim
theorem z_arr_ok {w : zW} {o : Nat} {k : Nat → Nat → Prop} (h : z_arr w o k) : ∃ t n, w.1[o]? = some (.inr (t, n)) ∧ k t n := by
  unfold z_arr at h
  split at h
  · rename_i t n e; exact ⟨t, n, by rw [← z_nth_eq]; exact e, h⟩
  · exact h.elim
theorem z_gset_ok : ∀ {G : List zSh} {o j r q : Nat} {k : List zSh → Prop}, z_gset G o j r q k → ∃ ci fs, G[o]? = some (.inl (ci, fs)) ∧ k (G.set o (.inl (ci, fs.set j (some (some r)))))
  | .inl (ci, fs) :: l, 0, j, r, q, k, h => ⟨ci, fs, by simp, by simpa [z_gset] using h⟩
  | .inr y :: l, 0, j, r, q, k, h => by simp [z_gset] at h
  | a :: l, n + 1, j, r, q, k, h => by
    have h' : z_gset l n j r q (fun l' => k (a :: l')) := by
      cases a with
      | inl y => simpa [z_gset] using h
      | inr y => simpa [z_gset] using h
    obtain ⟨ci, fs, h1, h2⟩ := z_gset_ok h'
    exact ⟨ci, fs, by simpa using h1, by simpa using h2⟩
  | [], o, j, r, q, k, h => by cases o <;> simp [z_gset] at h
theorem z_psh_ok : ∀ {G : List zSh} {sh : zSh} {n : Nat} {k : List zSh → Nat → Prop}, z_psh G sh n k → k (G ++ [sh]) (n + G.length)
  | [], sh, n, k, h => h
  | a :: l, sh, n, k, h => by
    have := z_psh_ok (G := l) (n := n + 1) (k := fun l' m => k (a :: l') m) h
    rw [List.length_cons, show n + (l.length + 1) = n + 1 + l.length by omega]
    exact this
theorem z_pop_ok : ∀ {n : Nat} {st acc : List Value} {k : List Value → List Value → Prop}, z_pop n st acc k → ∃ av r, st = av.reverse ++ r ∧ av.length = n ∧ k (av ++ acc) r
  | 0, st, acc, k, h => ⟨[], st, rfl, rfl, h⟩
  | n + 1, v :: st, acc, k, h => by
    obtain ⟨av, r, h1, h2, h3⟩ := z_pop_ok (n := n) (st := st) (acc := v :: acc) h
    refine ⟨av ++ [v], r, by simp [h1], by simp [h2], by simpa using h3⟩
  | _ + 1, [], _, _, h => h.elim
theorem z_cats_eq (b : Nat → Nat) (ad : Nat → Nat) : ∀ (st : List Value), ((st.map (z_cv b ad)).map fun v => v.category).sum = z_cats st
  | [] => rfl
  | v :: r => by
    rw [List.map_cons, List.map_cons, List.sum_cons, z_cats_eq b ad r, z_cv_cat]
    rfl
theorem z_cv_agree {b : Nat → Nat} {n : Nat} {ad ad' : Nat → Nat} (h : ∀ k, k < n → ad' k = ad k) {v : Value} (hv : z_rlt n v = true) : z_cv b ad' v = z_cv b ad v := by
  cases v <;> first | rfl | skip
  rename_i a
  show Value.ref (ad' a) = Value.ref (ad a)
  rw [h a (by simpa [z_rlt, Nat.blt_eq] using hv)]
theorem z_cvs_agree {b : Nat → Nat} {n : Nat} {ad ad' : Nat → Nat} (h : ∀ k, k < n → ad' k = ad k) {st : List Value} (hv : z_wfs n st = true) : st.map (z_cv b ad') = st.map (z_cv b ad) :=
  List.map_congr_left fun v hm => z_cv_agree h (List.all_eq_true.mp hv v hm)
theorem z_LH.agree {b : Nat → Nat} {n : Nat} {ad ad' : Nat → Nat} (h : ∀ k, k < n → ad' k = ad k) {ls : Array Slot} {nL : Nat} {al : zAL} (hl : z_LH b ad ls nL al) (hv : z_wfl n al = true) : z_LH b ad' ls nL al := by
  refine ⟨hl.1, hl.2.1, hl.2.2.1, fun i v q => ?_⟩
  rw [z_cv_agree h (by have := List.all_eq_true.mp hv (some v) (List.mem_of_getElem? q); simpa using this)]
  exact hl.2.2.2 i v q
theorem z_fv_agree {n : Nat} {ad ad' : Nat → Nat} (h : ∀ k, k < n → ad' k = ad k) {wi : Nat → Int32} {fs : List (Option (Option Nat))} (hf : fs.all (fun f => match f with
    | some (some r) => Nat.blt r n
    | _ => true) = true) : fs.mapIdx (fun k f => z_fv ad' wi k f) = fs.mapIdx (fun k f => z_fv ad wi k f) := by
  apply List.ext_getElem?
  intro j
  rw [List.getElem?_mapIdx, List.getElem?_mapIdx]
  cases hj : fs[j]? with
  | none => rfl
  | some f =>
    have h1 := List.all_eq_true.mp hf f (List.mem_of_getElem? hj)
    cases f with
    | none => rfl
    | some r => cases r with
      | none => rfl
      | some r =>
        show some (Value.ref (ad' r)) = some (Value.ref (ad r))
        rw [h r (by simpa [Nat.blt_eq] using h1)]
theorem z_ws_push {x : zX} {ad ad' : Nat → Nat} {G : List zSh} {wi wi' : Nat → Nat → Int32} {wl wl' : Nat → Nat → Int64} {q : Nat} {sh : zSh} {E : va_E} (hg : z_wfg G.length G = true) (ha : ∀ k, k < G.length → ad' k = ad k) (hq : ad' G.length = q) (hi : ∀ o, o < G.length → wi' o = wi o) (hl : ∀ o, o < G.length → wl' o = wl o) (he : z_ce x ad' (wi' G.length) (wl' G.length) sh = E) : z_ws x ad (G, wi, wl) ++ [(q, E)] = z_ws x ad' (G ++ [sh], wi', wl') := by
  apply List.ext_getElem?
  intro k
  have hlen : (z_ws x ad (G, wi, wl)).length = G.length := by simp [z_ws]
  by_cases hk : k < G.length
  · rw [List.getElem?_append_left (by rw [hlen]; exact hk)]
    have hs : G[k]? = some G[k] := List.getElem?_eq_getElem hk
    rw [z_ws_at (w := (G, wi, wl)) hs, z_ws_at (w := (G ++ [sh], wi', wl')) (sh := G[k]) (by show (G ++ [sh])[k]? = _; rw [List.getElem?_append_left hk]; exact hs)]
    dsimp only
    rw [ha k hk, hi k hk, hl k hk]
    have h1 := List.all_eq_true.mp hg G[k] (List.getElem_mem hk)
    congr 2
    revert h1
    cases G[k] with
    | inl y =>
      intro h1
      show Sum.inr (y.1, _) = Sum.inr (y.1, _)
      rw [z_fv_agree ha h1]
    | inr y =>
      intro _
      obtain ⟨t, n⟩ := y
      match t with
      | 0 => rfl
      | 1 => rfl
      | 2 => rfl
      | _ + 3 => rfl
  · by_cases hk2 : k = G.length
    · subst hk2
      rw [List.getElem?_append_right (by rw [hlen]; exact Nat.le_refl _), hlen, Nat.sub_self, z_ws_at (w := (G ++ [sh], wi', wl')) (sh := sh) (by show (G ++ [sh])[G.length]? = _; simp)]
      dsimp only
      rw [hq, he]
      rfl
    · rw [List.getElem?_eq_none (by simp [hlen]; omega), List.getElem?_eq_none (by simp [z_ws]; omega)]
theorem z_nIz {a : Int32} : a = nI 0 ↔ a = 0 := by rw [nI_0]
theorem z_ge {a y : Int32} (h : y ≤ a) : ¬ a < y := Int32.not_lt.mpr h
theorem z_nge {a y : Int32} (h : ¬ y ≤ a) : a < y := Int32.not_le.mp h
theorem z_psh_eq : ∀ (G : List zSh) (sh : zSh) (n : Nat) (k : List zSh → Nat → Prop), z_psh G sh n k = k (G ++ [sh]) (n + G.length)
  | [], _, _, _ => rfl
  | a :: l, sh, n, k => by
    show z_psh l sh (n + 1) (fun l' m => k (a :: l') m) = _
    rw [z_psh_eq l sh (n + 1), List.length_cons, show n + 1 + l.length = n + (l.length + 1) by omega]
    rfl
theorem z_gset_eq : ∀ {G : List zSh} {o : Nat} (j r q : Nat) (k : List zSh → Prop) {ci : Nat} {fs : List (Option (Option Nat))}, z_nth G o = some (.inl (ci, fs)) → z_gset G o j r q k = k (G.set o (.inl (ci, fs.set j (some (some r)))))
  | [], _, _, _, _, _, _, _, h => by cases h
  | .inl (c, f) :: l, 0, j, r, q, k, ci, fs, h => by
    simp only [z_nth, Option.some.injEq, Sum.inl.injEq, Prod.mk.injEq] at h
    obtain ⟨rfl, rfl⟩ := h
    rfl
  | .inr y :: l, 0, j, r, q, k, ci, fs, h => by
    simp [z_nth] at h
  | a :: l, n + 1, j, r, q, k, ci, fs, h => by
    have ih := z_gset_eq (G := l) (o := n) j r q (fun l' => k (a :: l')) h
    have e : z_gset (a :: l) (n + 1) j r q k = z_gset l n j r q (fun l' => k (a :: l')) := by
      cases a <;> rfl
    rw [e, ih]
    rfl
end
section
theorem z_sw_at {pc : Nat} {a : Int32} {st : List Value} {J : Nat → Prop} : ∀ (ts : List Nat) (lo : Int) (j : Nat), z_sw pc a st J lo ts → ∀ (hj : j < ts.length), a = Int32.ofInt (lo + (j : Int)) → J (ts[j]'hj)
  | t :: ts, lo, 0, h, _, e => h.1 (by rw [e, Int.natCast_zero, Int.add_zero])
  | t :: ts, lo, j + 1, h, hj, e => z_sw_at ts (lo + 1) j h.2 (by simpa using hj) (by rw [e]; congr 1; omega)
theorem zTT_int : Cond.arrayClass .int ∈ zTT := zTT_in (by decide +kernel) rfl
theorem zTT_long : Cond.arrayClass .long ∈ zTT := zTT_in (by decide +kernel) rfl
theorem zTT_byte : Cond.arrayClass .byte ∈ zTT := zTT_in (by decide +kernel) rfl
theorem z_cf_ok {M : zM} {i c : Nat} {k : Value → Prop} (h : z_cf M i c k) : ∃ j tc, (i, 10, j, tc, false) ∈ M.2.1 ∧ z_cs c = true ∧ ((j = 0 ∧ k (.retAddr (z_cv1 c))) ∨ (j = 1 ∧ k (.int (nI 0)))) := by
  unfold z_cf at h
  split at h
  · rename_i ci j tc nest e1
    split at h
    · rename_i e2
      simp only [Bool.and_eq_true, Bool.not_eq_true'] at e2
      obtain ⟨e3, e4, e5⟩ := e2
      have e3 := Nat.eq_of_beq_eq_true e3
      subst e3
      subst e4
      split at h
      · exact ⟨_, tc, z_look_mem e1, e5, Or.inl ⟨rfl, h⟩⟩
      · exact ⟨_, tc, z_look_mem e1, e5, Or.inr ⟨rfl, h⟩⟩
      · exact h.elim
    · exact h.elim
  · exact h.elim
/-! the step is right -/
section ZS
variable {p : Program} {l : Launch} {e : Env} {R : Room} {s : State} {m : MethodId} {args : Array Value} {below : List Frame} {meth : Method} {c : Code} {Q : State → Prop} {cc : ByteArray} {own : String} {Ts : List Cond} {x : zX} {b : Nat → Nat} {A0 : Nat → Prop} {ad0 : Nat → Nat} {n0 nL : Nat} {M : zM} {post : Option Value → zW → Prop}
/-- the machine, now at pc with these locals, this stack, this world, comes to a state with Q -/
def z_JJ (p : Program) (l : Launch) (e : Env) (R : Room) (s : State) (m : MethodId) (args : Array Value) (below : List Frame) (meth : Method) (c : Code) (Q : State → Prop) (x : zX) (b : Nat → Nat) (A0 : Nat → Prop) (ad0 : Nat → Nat) (n0 nL : Nat) : zJ := fun pc al st w c1 c2 =>
  c1 ≤ R.cells → c2 ≤ R.slots → n0 ≤ w.1.length → ∀ (ad : Nat → Nat) (H : Heap) (locs : List Loc) (ls : Array Slot), z_LH b ad ls nL al → va_P x.1 vwCl (z_ws x ad w) H → va_D A0 (z_ws x ad w) → va_S A0 s.heap H locs → z_AG ad0 ad n0 R.cells → W p l e R s m args below meth c H locs c1 c2 Q (F0 m pc ls (st.map (z_cv b ad)))
/-- what holds of the machine from a method's entry on -/
def z_En (p : Program) (s : State) (m : MethodId) (args : Array Value) (meth : Method) (c : Code) (cc : ByteArray) (nL : Nat) (own : String) (Ts : List Cond) (x : zX) (b : Nat → Nat) (A0 : Nat → Prop) (M : zM) : Prop :=
  CallFix p m c cc nL s args Ts own ∧ (∀ w ∈ zTT, w ∈ Ts) ∧ z_KK x s ∧ (∀ q : Nat, s.heap.size ≤ q → A0 q) ∧ (M.2.2.2.2.2.2.2.1 = true → meth.name = "<init>") ∧ zCon b A0 s s.heap ∧
  (M.2.2.2.2.2.2.2.2.1.1 = true → va_X (b 0) M.2.2.2.2.2.2.2.2.1.2.1 M.2.2.2.2.2.2.2.2.1.2.2 s s.heap ∧ b 0 < s.heap.size ∧ ¬ A0 (b 0))
/-- where a method ends as its post says, the machine comes to Q -/
def z_Rt (p : Program) (l : Launch) (e : Env) (R : Room) (s : State) (m : MethodId) (args : Array Value) (below : List Frame) (meth : Method) (c : Code) (Q : State → Prop) (x : zX) (b : Nat → Nat) (A0 : Nat → Prop) (ad0 : Nat → Nat) (n0 : Nat) (cc : ByteArray) (M : zM) (post : Option Value → zW → Prop) : Prop :=
  ∀ (r : Option Value) (w : zW), post r w → ∀ (ad : Nat → Nat) (H : Heap) (locs : List Loc) (ls : Array Slot) (pc c1 c2 : Nat), c1 ≤ R.cells → c2 ≤ R.slots → n0 ≤ w.1.length → va_P x.1 vwCl (z_ws x ad w) H → va_D A0 (z_ws x ad w) → va_S A0 s.heap H locs → z_AG ad0 ad n0 R.cells →
    ((∃ a, r = some (.int a) ∧ decode cc pc = .ok (.ireturn, 1) ∧ z_ret M.2.2.2.2.2.2.1 a) ∨ (∃ a, r = some (.long a) ∧ decode cc pc = .ok (.lreturn, 1) ∧ M.2.2.2.2.2.2.1 = 3) ∨ (r = none ∧ decode cc pc = .ok (.return_, 1) ∧ M.2.2.2.2.2.2.1 = 0) ∨ (∃ q, r = some (.ref q) ∧ decode cc pc = .ok (.areturn, 1) ∧ M.2.2.2.2.2.2.1 = 4)) →
    W p l e R s m args below meth c H locs c1 c2 Q (F0 m pc ls (r.toList.map (z_cv b ad)))
set_option maxHeartbeats 4000000 in
set_option maxRecDepth 20000 in
theorem z_step_ok (E : z_En p s m args meth c cc nL own Ts x b A0 M) (O : z_OK l own cc R M) (hR : z_Rt p l e R s m args below meth c Q x b A0 ad0 n0 cc M post) (hcall : ∀ (J : zJ), (∀ pc al st w c1 c2, J pc al st w c1 c2 → z_JJ p l e R s m args below meth c Q x b A0 ad0 n0 nL pc al st w c1 c2) → ∀ (ik i pc : Nat) (al : zAL) (st : List Value) (w : zW) (c1 c2 : Nat), z_call M J ik i (pc + 3) al st w c1 c2 → ((ik = 0 ∧ decode cc pc = .ok (.invokestatic i, 3)) ∨ (ik = 1 ∧ decode cc pc = .ok (.invokevirtual i, 3)) ∨ (ik = 2 ∧ decode cc pc = .ok (.invokespecial i, 3))) → z_JJ p l e R s m args below meth c Q x b A0 ad0 n0 nL pc al st w c1 c2) {J : zJ} (hJ : ∀ pc al st w c1 c2, J pc al st w c1 c2 → z_JJ p l e R s m args below meth c Q x b A0 ad0 n0 nL pc al st w c1 c2) {pc nx tg : Nat} {ins : Instr} (hok : z_okb cc (pc, nx, tg, ins) = true) {al : zAL} {st : List Value} {w : zW} {c1 c2 : Nat} (h : z_step M post J (pc, nx, tg, ins) al st w c1 c2) : z_JJ p l e R s m args below meth c Q x b A0 ad0 n0 nL pc al st w c1 c2 := by
  intro h1 h2 h3 ad H locs ls hl hP hD hS hG
  obtain ⟨⟨hx, hb, hml, hown, hts⟩, hTT, hK, hA, hI, hC, hX⟩ := id E
  have hlen : al.length ≤ nL := hl.2.2.1
  have go : ∀ {pc' : Nat} {al' : zAL} {st' : List Value} {ls' : Array Slot}, z_LH b ad ls' nL al' → J pc' al' st' w c1 c2 → W p l e R s m args below meth c H locs c1 c2 Q (F0 m pc' ls' (st'.map (z_cv b ad))) := fun hl' q => hJ _ _ _ _ _ _ q h1 h2 h3 ad H locs _ hl' hP hD hS hG
  have gi : ∀ {pc' : Nat} {al' : zAL} {st' : List Value} {ls' : Array Slot} {o i : Nat} {v : Int32} {H1 : Heap} {locs1 : List Loc}, z_LH b ad ls' nL al' → J pc' al' st' (w.1, z_up w.2.1 o i v, w.2.2) c1 c2 → va_P x.1 vwCl (z_ws x ad (w.1, z_up w.2.1 o i v, w.2.2)) H1 → va_D A0 (z_ws x ad (w.1, z_up w.2.1 o i v, w.2.2)) → va_S A0 s.heap H1 locs1 → W p l e R s m args below meth c H1 locs1 c1 c2 Q (F0 m pc' ls' (st'.map (z_cv b ad))) := fun hl' q a1 a2 a3 => hJ _ _ _ _ _ _ q h1 h2 h3 ad _ _ _ hl' a1 a2 a3 hG
  cases ins
  case iload i =>
    obtain ⟨hd, rfl, ht⟩ := z_dec hok rfl
    obtain ⟨a, e1, q⟩ := z_ldi_ok h
    exact lv_iload hx hb hd (hl.at e1) (go hl q)
  case iload_n i =>
    obtain ⟨hd, rfl, ht⟩ := z_dec hok rfl
    obtain ⟨a, e1, q⟩ := z_ldi_ok h
    exact lv_iload_n hx hb hd rfl (hl.at e1) (go hl q)
  case lload i =>
    obtain ⟨hd, rfl, ht⟩ := z_dec hok rfl
    obtain ⟨a, e1, q⟩ := z_ldl_ok h
    exact lv_lload hx hb hd (hl.at e1) (go hl q)
  case lload_n i =>
    obtain ⟨hd, rfl, ht⟩ := z_dec hok rfl
    obtain ⟨a, e1, q⟩ := z_ldl_ok h
    exact lv_lload_n hx hb hd rfl (hl.at e1) (go hl q)
  case aload i =>
    obtain ⟨hd, rfl, ht⟩ := z_dec hok rfl
    have h' : z_lda al i (fun v => J (pc + 2) al (v :: st) w c1 c2) := h
    obtain ⟨v, e1, e2, q⟩ := z_lda_ok (b := b) (ad := ad) h'
    have := go hl q
    rcases e2 with ⟨a, e2⟩ | e2
    · rw [List.map_cons, e2] at this
      exact lv_aload hx hb hd (by rw [hl.at e1, e2]) this
    · rw [List.map_cons, e2] at this
      exact lv_aloadN hx hb hd (by rw [hl.at e1, e2]) this
  case aload_n i =>
    obtain ⟨hd, rfl, ht⟩ := z_dec hok rfl
    have h' : z_lda al i.val (fun v => J (pc + 1) al (v :: st) w c1 c2) := h
    obtain ⟨v, e1, e2, q⟩ := z_lda_ok (b := b) (ad := ad) h'
    have := go hl q
    rcases e2 with ⟨a, e2⟩ | e2
    · rw [List.map_cons, e2] at this
      exact lv_aload_n hx hb hd rfl (by rw [hl.at e1, e2]) this
    · rw [List.map_cons, e2] at this
      exact lv_aload_nN hx hb hd rfl (by rw [hl.at e1, e2]) this
  case istore i =>
    obtain ⟨hd, rfl, ht⟩ := z_dec hok rfl
    obtain ⟨a, r, rfl, hi, q⟩ := z_sti_ok h
    exact lv_istore hx hb hd hl.has (by omega) rfl (fun ls1 hl1 => go (hl.st1 (v := .int a) hl1) q)
  case istore_n i =>
    obtain ⟨hd, rfl, ht⟩ := z_dec hok rfl
    obtain ⟨a, r, rfl, hi, q⟩ := z_sti_ok h
    exact lv_istore_n hx hb hd rfl hl.has (by omega) rfl (fun ls1 hl1 => go (hl.st1 (v := .int a) hl1) q)
  case lstore i =>
    obtain ⟨hd, rfl, ht⟩ := z_dec hok rfl
    obtain ⟨a, r, rfl, hi, q⟩ := z_stl_ok h
    exact lv_lstore hx hb hd hl.has (by omega) rfl (fun ls1 hl1 => go (hl.st2 (v := .long a) hl1) q)
  case lstore_n i =>
    obtain ⟨hd, rfl, ht⟩ := z_dec hok rfl
    obtain ⟨a, r, rfl, hi, q⟩ := z_stl_ok h
    exact lv_lstore_n hx hb hd rfl hl.has (by omega) rfl (fun ls1 hl1 => go (hl.st2 (v := .long a) hl1) q)
  case astore i =>
    obtain ⟨hd, rfl, ht⟩ := z_dec hok rfl
    obtain ⟨a, r, rfl, hi, q⟩ := z_sta_ok h
    exact lv_astore hx hb hd hl.has (by omega) rfl (fun ls1 hl1 => go (hl.st1 (v := .ref a) hl1) q)
  case astore_n i =>
    obtain ⟨hd, rfl, ht⟩ := z_dec hok rfl
    obtain ⟨a, r, rfl, hi, q⟩ := z_sta_ok h
    exact lv_astore_n hx hb hd rfl hl.has (by omega) rfl (fun ls1 hl1 => go (hl.st1 (v := .ref a) hl1) q)
  case iinc i n =>
    obtain ⟨hd, rfl, ht⟩ := z_dec hok rfl
    obtain ⟨a, e1, q⟩ := z_ldi_ok h
    have hm := (z_ll_mem (b := b) (ad := ad) al 0 i (.int a)).mpr ⟨i, .int a, by omega, by rw [← z_nth_eq]; exact e1, rfl⟩
    obtain ⟨k, hk⟩ := List.getElem?_of_mem hm
    cases n with
    | ofNat n =>
      obtain ⟨hi, q⟩ := z_st1_ok q
      have hc : Int32.ofInt (Int.ofNat n) = nI tg := z_cst_n (n := n) ht
      exact lv_iinc hx hb hd hl.has hk (by rw [hc]) (by omega) rfl (fun ls1 hl1 => go (hl.st1 (v := .int (a + nI tg)) hl1) q)
    | negSucc n =>
      obtain ⟨hi, q⟩ := z_st1_ok q
      have hc : Int32.ofInt (Int.negSucc n) = mI tg := z_cst_m (n := n) ht
      exact lv_iinc hx hb hd hl.has hk (by rw [hc, mI, ← Int32.sub_eq_add_neg]) (by omega) rfl (fun ls1 hl1 => go (hl.st1 (v := .int (a - nI tg)) hl1) q)
  case iconst n =>
    obtain ⟨hd, rfl, ht⟩ := z_dec hok rfl
    cases n with
    | ofNat n =>
      have hc : Int32.ofInt (Int.ofNat n) = nI tg := z_cst_n (n := n) ht
      exact lv_iconst hx hb hd hc (go hl h)
    | negSucc n =>
      have hc : Int32.ofInt (Int.negSucc n) = mI tg := z_cst_m (n := n) ht
      exact lv_iconst hx hb hd hc (go hl h)
  case bipush n =>
    obtain ⟨hd, rfl, ht⟩ := z_dec hok rfl
    cases n with
    | ofNat n =>
      have hc : (Int8.ofInt (Int.ofNat n)).toInt32 = nI tg := z_cst_n (n := n) ht
      exact lv_bipush hx hb hd hc (go hl h)
    | negSucc n =>
      have hc : (Int8.ofInt (Int.negSucc n)).toInt32 = mI tg := z_cst_m (n := n) ht
      exact lv_bipush hx hb hd hc (go hl h)
  case sipush n =>
    obtain ⟨hd, rfl, ht⟩ := z_dec hok rfl
    cases n with
    | ofNat n =>
      have hc : (Int16.ofInt (Int.ofNat n)).toInt32 = nI tg := z_cst_n (n := n) ht
      exact lv_sipush hx hb hd hc (go hl h)
    | negSucc n =>
      have hc : (Int16.ofInt (Int.negSucc n)).toInt32 = mI tg := z_cst_m (n := n) ht
      exact lv_sipush hx hb hd hc (go hl h)
  case lconst k =>
    obtain ⟨hd, rfl, ht⟩ := z_dec hok rfl
    exact lv_lconst hx hb hd (by simpa [z_tb] using ht) (go hl h)
  case ldc_w i =>
    obtain ⟨hd, rfl, ht⟩ := z_dec hok rfl
    have h' : match z_look M.2.2.2.1.1 i with
      | some a => J (pc + 3) al (.int a :: st) w c1 c2
      | none => False := h
    split at h'
    · rename_i a e1
      exact lv_ldcw hx hb hown (hts _ (hTT _ (O.2.2.2.1 _ (z_look_mem e1)))) hd (go hl h')
    · exact h'.elim
  case ldc i =>
    obtain ⟨hd, rfl, ht⟩ := z_dec hok rfl
    have h' : match z_look M.2.2.2.1.1 i with
      | some a => J (pc + 2) al (.int a :: st) w c1 c2
      | none => match z_look M.2.2.2.2.2.2.2.2.2.2.2 i with
        | some (.retAddr c) => match z_cs c with
          | true => J (pc + 2) al (.retAddr c :: st) w c1 c2
          | false => False
        | _ => False := h
    split at h'
    · rename_i a e1
      exact lv_ldc hx hb hown (hts _ (hTT _ (O.2.2.2.1 _ (z_look_mem e1)))) hd (go hl h')
    · split at h'
      · rename_i c e1
        split at h'
        · rename_i e2
          have hk := O.2.2.2.2.2.2.2.2.2 _ (z_look_mem e1)
          unfold z_cs at e2
          split at e2
          · obtain ⟨g1, g2⟩ : own = RL ∧ i = 116 := hk
            subst g1
            subst g2
            exact va_ldcS hx hb hown hC.2.1.1 hd (go hl h')
          · obtain ⟨g1, g2⟩ : own = RL ∧ i = 127 := hk
            subst g1
            subst g2
            exact va_ldcS hx hb hown hC.2.1.2.1 hd (go hl h')
          · obtain ⟨g1, g2⟩ : own = RL ∧ i = 132 := hk
            subst g1
            subst g2
            exact va_ldcS hx hb hown hC.2.1.2.2 hd (go hl h')
          · cases e2
        · exact h'.elim
      · exact h'.elim
  case getstatic i =>
    obtain ⟨hd, rfl, ht⟩ := z_dec hok rfl
    have h' : match z_look M.2.2.2.2.2.2.2.2.2.2.2 i with
      | some (.int a) => J (pc + 3) al (.int a :: st) w c1 c2
      | some (.retAddr 7) => J (pc + 3) al (.retAddr 7 :: st) w c1 c2
      | some (.long _) => J (pc + 3) al (.null :: st) w c1 c2 ∧ J (pc + 3) al (.retAddr 8 :: st) w c1 c2
      | _ => False := h
    split at h'
    · rename_i a e1
      obtain ⟨g1, g2⟩ := O.2.2.2.2.2.2.2.2.2 _ (z_look_mem e1)
      subst g1
      exact va_gets hx hb hC.2.2.1 hS hown (hts _ (hTT _ g2)) (fun _ z => z) hd (go hl h')
    · rename_i e1
      have g2 := O.2.2.2.2.2.2.2.2.2 _ (z_look_mem e1)
      exact va_gets hx hb hC.2.2.2.1.1 hS hown (hts _ (hTT _ g2)) (fun _ z => z) hd (go hl h')
    · rename_i e1
      have g2 := O.2.2.2.2.2.2.2.2.2 _ (z_look_mem e1)
      rcases hC.2.2.2.2.1 with hZ | hZ
      · exact va_gets hx hb hZ hS hown (hts _ (hTT _ g2)) (fun _ z => z) hd (go hl h'.1)
      · exact va_gets hx hb hZ hS hown (hts _ (hTT _ g2)) (fun _ z => z) hd (go hl h'.2)
    · exact h'.elim
  case aconst_null =>
    obtain ⟨hd, rfl, ht⟩ := z_dec hok rfl
    exact lv_null hx hb hd (go hl h)
  case ifnonnull o =>
    obtain ⟨hd, rfl, ht⟩ := z_dec hok rfl
    have hto : (pc : Int) + o = (tg : Int) := by simpa [z_tb] using ht
    match st, h with
    | .ref q :: r, h => exact lv_ifnonnull hx hb hd hto (go hl h)
    | .retAddr q :: r, h => exact lv_ifnonnull hx hb hd hto (go hl h)
    | [], h => exact h.elim
    | .int _ :: _, h => exact h.elim
    | .long _ :: _, h => exact h.elim
    | .float _ :: _, h => exact h.elim
    | .double _ :: _, h => exact h.elim
    | .null :: _, h => exact h.elim
  case checkcast i =>
    obtain ⟨hd, rfl, ht⟩ := z_dec hok rfl
    match st, h with
    | .ref o :: r, h =>
      have h' : match z_look M.2.2.2.2.2.2.2.2.2.2.2 i with
        | some .null => z_arr w o (fun t _ => match t with
          | 2 => J (pc + 3) al (.ref o :: r) w c1 c2
          | _ => False)
        | _ => False := h
      split at h'
      · rename_i e1
        have g2 := O.2.2.2.2.2.2.2.2.2 _ (z_look_mem e1)
        obtain ⟨t, n, hG1, q⟩ := z_arr_ok h'
        have he := z_ws_at (x := x) (ad := ad) hG1
        match t, q, he with
        | 0, q, _ => exact q.elim
        | 1, q, _ => exact q.elim
        | 2, q, he => exact va_castA hx hb hown (hts _ (hTT _ g2)) hP o he (hK.1.2 2 (x.2.2.2.1, .byte) rfl).2 hd (go hl q)
        | _ + 3, q, _ => exact q.elim
      · exact h'.elim
    | [], h => exact h.elim
    | .int _ :: _, h => exact h.elim
    | .long _ :: _, h => exact h.elim
    | .float _ :: _, h => exact h.elim
    | .double _ :: _, h => exact h.elim
    | .null :: _, h => exact h.elim
    | .retAddr _ :: _, h => exact h.elim
  case areturn =>
    obtain ⟨hd, rfl, ht⟩ := z_dec hok rfl
    match st, h with
    | [.ref q], h =>
      have h' : match M.2.2.2.2.2.2.1 with
        | 4 => post (some (.ref q)) w
        | _ => False := h
      split at h'
      · rename_i e1
        exact hR _ w h' ad H locs ls pc c1 c2 h1 h2 h3 hP hD hS hG (Or.inr (Or.inr (Or.inr ⟨q, rfl, hd, e1⟩)))
      · exact h'.elim
    | [], h => exact h.elim
    | .ref _ :: _ :: _, h => exact h.elim
    | .int _ :: _, h => exact h.elim
    | .long _ :: _, h => exact h.elim
    | .float _ :: _, h => exact h.elim
    | .double _ :: _, h => exact h.elim
    | .null :: _, h => exact h.elim
    | .retAddr _ :: _, h => exact h.elim
  case ldc2_w i =>
    obtain ⟨hd, rfl, ht⟩ := z_dec hok rfl
    have h' : match z_look M.2.2.2.1.2.1 i with
      | some a => J (pc + 3) al (.long a :: st) w c1 c2
      | none => False := h
    split at h'
    · rename_i a e1
      exact lv_ldc2 hx hb hown (hts _ (hTT _ (O.2.2.2.2.1 _ (z_look_mem e1)))) hd (go hl h')
    · exact h'.elim
  case iadd =>
    obtain ⟨hd, rfl, ht⟩ := z_dec hok rfl
    obtain ⟨a, y, r, rfl, q⟩ := z_i2_ok h
    exact lv_iadd hx hb hd (go hl q)
  case isub =>
    obtain ⟨hd, rfl, ht⟩ := z_dec hok rfl
    obtain ⟨a, y, r, rfl, q⟩ := z_i2_ok h
    exact lv_isub hx hb hd (go hl q)
  case imul =>
    obtain ⟨hd, rfl, ht⟩ := z_dec hok rfl
    obtain ⟨a, y, r, rfl, q⟩ := z_i2_ok h
    exact lv_imul hx hb hd (go hl q)
  case iand =>
    obtain ⟨hd, rfl, ht⟩ := z_dec hok rfl
    obtain ⟨a, y, r, rfl, q⟩ := z_i2_ok h
    exact lv_iand hx hb hd (go hl q)
  case ior =>
    obtain ⟨hd, rfl, ht⟩ := z_dec hok rfl
    obtain ⟨a, y, r, rfl, q⟩ := z_i2_ok h
    exact lv_ior hx hb hd (go hl q)
  case ixor =>
    obtain ⟨hd, rfl, ht⟩ := z_dec hok rfl
    obtain ⟨a, y, r, rfl, q⟩ := z_i2_ok h
    exact lv_ixor hx hb hd (go hl q)
  case ishl =>
    obtain ⟨hd, rfl, ht⟩ := z_dec hok rfl
    obtain ⟨a, y, r, rfl, q⟩ := z_i2_ok h
    exact lv_ishl hx hb hd (go hl q)
  case ishr =>
    obtain ⟨hd, rfl, ht⟩ := z_dec hok rfl
    obtain ⟨a, y, r, rfl, q⟩ := z_i2_ok h
    exact lv_ishr hx hb hd (go hl q)
  case iushr =>
    obtain ⟨hd, rfl, ht⟩ := z_dec hok rfl
    obtain ⟨a, y, r, rfl, q⟩ := z_i2_ok h
    exact lv_iushr hx hb hd rfl (go hl q)
  case idiv =>
    obtain ⟨hd, rfl, ht⟩ := z_dec hok rfl
    obtain ⟨a, y, r, rfl, hne, q⟩ := z_i2_ok h
    exact lv_idiv hx hb hd hne (go hl q)
  case irem =>
    obtain ⟨hd, rfl, ht⟩ := z_dec hok rfl
    obtain ⟨a, y, r, rfl, hne, q⟩ := z_i2_ok h
    exact lv_irem hx hb hd hne (go hl q)
  case ineg =>
    obtain ⟨hd, rfl, ht⟩ := z_dec hok rfl
    obtain ⟨a, r, rfl, q⟩ := z_i1_ok h
    exact lv_ineg hx hb hd (go hl q)
  case i2l =>
    obtain ⟨hd, rfl, ht⟩ := z_dec hok rfl
    obtain ⟨a, r, rfl, q⟩ := z_i1_ok h
    exact lv_i2l hx hb hd rfl (go hl q)
  case i2b =>
    obtain ⟨hd, rfl, ht⟩ := z_dec hok rfl
    obtain ⟨a, r, rfl, q⟩ := z_i1_ok h
    exact lv_i2b hx hb hd rfl (go hl q)
  case i2c =>
    obtain ⟨hd, rfl, ht⟩ := z_dec hok rfl
    obtain ⟨a, r, rfl, q⟩ := z_i1_ok h
    exact lv_i2c hx hb hd rfl (go hl q)
  case l2i =>
    obtain ⟨hd, rfl, ht⟩ := z_dec hok rfl
    obtain ⟨a, r, rfl, q⟩ := z_l1_ok h
    exact lv_l2i hx hb hd rfl (go hl q)
  case ladd =>
    obtain ⟨hd, rfl, ht⟩ := z_dec hok rfl
    obtain ⟨a, y, r, rfl, q⟩ := z_l2_ok h
    exact lv_ladd hx hb hd (go hl q)
  case lsub =>
    obtain ⟨hd, rfl, ht⟩ := z_dec hok rfl
    obtain ⟨a, y, r, rfl, q⟩ := z_l2_ok h
    exact lv_lsub hx hb hd (go hl q)
  case lmul =>
    obtain ⟨hd, rfl, ht⟩ := z_dec hok rfl
    obtain ⟨a, y, r, rfl, q⟩ := z_l2_ok h
    exact lv_lmul hx hb hd (go hl q)
  case land =>
    obtain ⟨hd, rfl, ht⟩ := z_dec hok rfl
    obtain ⟨a, y, r, rfl, q⟩ := z_l2_ok h
    exact lv_land hx hb hd (go hl q)
  case lor =>
    obtain ⟨hd, rfl, ht⟩ := z_dec hok rfl
    obtain ⟨a, y, r, rfl, q⟩ := z_l2_ok h
    exact lv_lor hx hb hd (go hl q)
  case lxor =>
    obtain ⟨hd, rfl, ht⟩ := z_dec hok rfl
    obtain ⟨a, y, r, rfl, q⟩ := z_l2_ok h
    exact lv_lxor hx hb hd (go hl q)
  case lrem =>
    obtain ⟨hd, rfl, ht⟩ := z_dec hok rfl
    obtain ⟨a, y, r, rfl, hne, q⟩ := z_l2_ok h
    exact lv_lrem hx hb hd hne (go hl q)
  case lcmp =>
    obtain ⟨hd, rfl, ht⟩ := z_dec hok rfl
    obtain ⟨a, y, r, rfl, q⟩ := z_l2_ok h
    exact W.lcmp hx hb hd (go hl q)
  case lshl =>
    obtain ⟨hd, rfl, ht⟩ := z_dec hok rfl
    obtain ⟨a, y, r, rfl, q⟩ := z_li_ok h
    exact lv_lshl hx hb hd rfl (go hl q)
  case lshr =>
    obtain ⟨hd, rfl, ht⟩ := z_dec hok rfl
    obtain ⟨a, y, r, rfl, q⟩ := z_li_ok h
    exact lv_lshr hx hb hd rfl (go hl q)
  case lushr =>
    obtain ⟨hd, rfl, ht⟩ := z_dec hok rfl
    obtain ⟨a, y, r, rfl, q⟩ := z_li_ok h
    exact lv_lushr hx hb hd rfl (go hl q)
  case dup =>
    obtain ⟨hd, rfl, ht⟩ := z_dec hok rfl
    match st, h with
    | v :: r, h =>
      obtain ⟨hc, q⟩ := z_one_ok h
      exact lv_dup hx hb hd (by rw [z_cv_cat]; exact hc) (go hl q)
    | [], h => exact h.elim
  case pop =>
    obtain ⟨hd, rfl, ht⟩ := z_dec hok rfl
    match st, h with
    | v :: r, h =>
      obtain ⟨hc, q⟩ := z_one_ok h
      exact lv_pop hx hb hd (by rw [z_cv_cat]; exact hc) (go hl q)
    | [], h => exact h.elim
  case dup_x1 =>
    obtain ⟨hd, rfl, ht⟩ := z_dec hok rfl
    match st, h with
    | v :: u :: r, h =>
      obtain ⟨hc, q⟩ := z_one_ok h
      obtain ⟨hc2, q⟩ := z_one_ok q
      exact lv_dup_x1 hx hb hd (by rw [z_cv_cat]; exact hc) (by rw [z_cv_cat]; exact hc2) (go hl q)
    | [], h => exact h.elim
    | [_], h => exact h.elim
  case dup2 =>
    obtain ⟨hd, rfl, ht⟩ := z_dec hok rfl
    match st, h with
    | v :: u :: r, h =>
      obtain ⟨hc, q⟩ := z_one_ok h
      obtain ⟨hc2, q⟩ := z_one_ok q
      exact lv_dup2_11 hx hb hd (by rw [z_cv_cat]; exact hc) (by rw [z_cv_cat]; exact hc2) (go hl q)
    | [], h => exact h.elim
    | [_], h => exact h.elim
  case goto o =>
    obtain ⟨hd, rfl, ht⟩ := z_dec hok rfl
    exact lv_goto hx hb hd (by simpa [z_tb] using ht) (go hl h)
  case ifCond cd o =>
    obtain ⟨hd, rfl, ht⟩ := z_dec hok rfl
    have hto : (pc : Int) + o = (tg : Int) := by simpa [z_tb] using ht
    cases cd
    · obtain ⟨a, r, rfl, q1, q2⟩ := z_i1_ok h
      exact lv_if_eq hx hb hd hto (fun z => go hl (q1 (z_nIz.mpr z))) (fun z => go hl (q2 (fun y => z (z_nIz.mp y))))
    · obtain ⟨a, r, rfl, q1, q2⟩ := z_i1_ok h
      exact lv_if_ne hx hb hd hto (fun z => go hl (q1 (fun y => z (z_nIz.mp y)))) (fun z => go hl (q2 (z_nIz.mpr z)))
    · obtain ⟨a, r, rfl, q1, q2⟩ := z_i1_ok h
      rw [nI_0] at q1 q2
      exact lv_if_lt hx hb hd hto (fun z => go hl (q1 z)) (fun z => go hl (q2 z))
    · obtain ⟨a, r, rfl, q1, q2⟩ := z_i1_ok h
      rw [nI_0] at q1 q2
      exact lv_if_ge hx hb hd hto (fun z => go hl (q1 (z_ge z))) (fun z => go hl (q2 (z_nge z)))
    · obtain ⟨a, r, rfl, q1, q2⟩ := z_i1_ok h
      rw [nI_0] at q1 q2
      exact lv_if_gt hx hb hd hto (fun z => go hl (q1 z)) (fun z => go hl (q2 z))
    · obtain ⟨a, r, rfl, q1, q2⟩ := z_i1_ok h
      rw [nI_0] at q1 q2
      exact lv_if_le hx hb hd hto (fun z => go hl (q1 (z_ge z))) (fun z => go hl (q2 (z_nge z)))
  case if_icmp cd o =>
    obtain ⟨hd, rfl, ht⟩ := z_dec hok rfl
    have hto : (pc : Int) + o = (tg : Int) := by simpa [z_tb] using ht
    cases cd
    · obtain ⟨a, y, r, rfl, q1, q2⟩ := z_i2_ok h
      exact lv_icmp_eq hx hb hd hto (fun z => go hl (q1 z)) (fun z => go hl (q2 z))
    · obtain ⟨a, y, r, rfl, q1, q2⟩ := z_i2_ok h
      exact lv_icmp_ne hx hb hd hto (fun z => go hl (q1 z)) (fun z => go hl (q2 z))
    · obtain ⟨a, y, r, rfl, q1, q2⟩ := z_i2_ok h
      exact lv_icmp_lt hx hb hd hto (fun z => go hl (q1 z)) (fun z => go hl (q2 z))
    · obtain ⟨a, y, r, rfl, q1, q2⟩ := z_i2_ok h
      exact lv_icmp_ge hx hb hd hto (fun z => go hl (q1 (z_ge z))) (fun z => go hl (q2 (z_nge z)))
    · obtain ⟨a, y, r, rfl, q1, q2⟩ := z_i2_ok h
      exact lv_icmp_gt hx hb hd hto (fun z => go hl (q1 z)) (fun z => go hl (q2 z))
    · obtain ⟨a, y, r, rfl, q1, q2⟩ := z_i2_ok h
      exact lv_icmp_le hx hb hd hto (fun z => go hl (q1 (z_ge z))) (fun z => go hl (q2 (z_nge z)))
  case getfield i =>
    obtain ⟨hd, rfl, ht⟩ := z_dec hok rfl
    match st, h with
    | .ref o :: r, h =>
      obtain ⟨ci, j, tc, nest, fs, f, hm, hG1, hf, q⟩ := z_fld_ok h
      obtain ⟨C, T, N, ty, g1, g2, g3, g4, g5, g6, -⟩ := O.2.1 _ hm
      have hin : ∀ w ∈ u_ws C T N, w ∈ Ts := fun w hw => hTT _ (g3 w hw)
      have he := z_ws_at (x := x) (ad := ad) hG1
      have key : ∀ {v : Value}, z_fv ad (w.2.1 o) j f = v → W p l e R s m args below meth c H locs c1 c2 Q (F0 m (pc + 3) ls (v :: r.map (z_cv b ad))) → W p l e R s m args below meth c H locs c1 c2 Q (F0 m pc ls (.ref (ad o) :: r.map (z_cv b ad))) := by
        intro v hv k
        have hfv : (fs.mapIdx (fun k f => z_fv ad (w.2.1 o) k f))[j]? = some v := by rw [List.getElem?_mapIdx, hf]; exact congrArg some hv
        rcases g6 with ⟨-, g6⟩ | ⟨-, host, g6⟩
        · exact va_get hx hb hts hin hown hK.1 hP o he g1 j g2 (hts _ (hTT _ g6)) (fun _ z => z) hfv hd k
        · exact va_getN hx hb hts hin hown hK.1 hP o he g1 j g2 (va_Nw.use rfl (hK.2 _ g6)) (fun _ z => z) hfv hd k
      match f, q with
      | none, q => exact key rfl (go hl q)
      | some (some a), q => exact key rfl (go hl q)
      | some none, q => exact q.elim
    | .retAddr c :: r, h =>
      have h' : z_cf M i c (fun v => J (pc + 3) al (v :: r) w c1 c2) := h
      obtain ⟨j, tc, hm, hc, q⟩ := z_cf_ok h'
      obtain ⟨C, T, N, ty, g1, g2, g3, g4, g5, g6, -⟩ := O.2.1 _ hm
      have g1 : some ((RJ0, TJ0, 4) : vw_C) = some (C, T, N) := g1
      cases g1
      have hi : ∃ k, k < 3 ∧ c = 2 * k + 1 ∧ z_cv1 c = 2 * k + 2 := by
        unfold z_cs at hc
        split at hc
        · exact ⟨0, by decide, rfl, rfl⟩
        · exact ⟨1, by decide, rfl, rfl⟩
        · exact ⟨2, by decide, rfl, rfl⟩
        · cases hc
      obtain ⟨k, hk, rfl, hk2⟩ := hi
      obtain ⟨-, f1, f2, -⟩ := hC.1.1 k hk
      rcases g6 with ⟨-, g6⟩ | ⟨g6, -⟩
      · rcases q with ⟨rfl, q⟩ | ⟨rfl, q⟩
        · rw [hk2] at q
          exact vk_getf hx hb f2 hS hown (hts _ (hTT _ g6)) (fun _ z => z) hd (go hl q)
        · exact vk_getf hx hb f1 hS hown (hts _ (hTT _ g6)) (fun _ z => z) hd (go hl q)
      · cases g6
    | [], h => exact h.elim
    | .int _ :: _, h => exact h.elim
    | .long _ :: _, h => exact h.elim
    | .float _ :: _, h => exact h.elim
    | .double _ :: _, h => exact h.elim
    | .null :: _, h => exact h.elim
  case putfield i =>
    obtain ⟨hd, rfl, ht⟩ := z_dec hok rfl
    have hput : ∀ (a : Int32) (o : Nat) (r : List Value), st = .int a :: .ref o :: r → z_fld M i w o (fun tc _ _ j f => match f with
            | none => match tc with
              | 0 => J (pc + 3) al r (w.1, z_up w.2.1 o j a, w.2.2) c1 c2
              | 1 => (a = nI 0 ∨ a = nI 1) ∧ J (pc + 3) al r (w.1, z_up w.2.1 o j a, w.2.2) c1 c2
              | 4 => (vp_nar .byte a = a ∧ fits .byte (.int a) = true) ∧ J (pc + 3) al r (w.1, z_up w.2.1 o j a, w.2.2) c1 c2
              | 5 => match M.2.2.2.2.2.2.2.1 with
                | true => (vp_nar .byte a = a ∧ fits .byte (.int a) = true) ∧ J (pc + 3) al r (w.1, z_up w.2.1 o j a, w.2.2) c1 c2
                | false => False
              | _ => False
            | _ => False) → W p l e R s m args below meth c H locs c1 c2 Q (F0 m pc ls (st.map (z_cv b ad))) := by
      intro a o r hst h
      subst hst
      obtain ⟨ci, j, tc, nest, fs, f, hm, hG1, hf, q⟩ := z_fld_ok h
      obtain ⟨C, T, N, ty, g1, g2, g3, g4, g5, g6, g7, g8, -, g10, g11, -⟩ := O.2.1 _ hm
      have hin : ∀ w ∈ u_ws C T N, w ∈ Ts := fun w hw => hTT _ (g3 w hw)
      have he := z_ws_at (x := x) (ad := ad) hG1
      match f, q, hf with
      | some _, q, _ => exact q.elim
      | none, q, hf =>
        have hset : (z_ws x ad w).set o (ad o, .inr (ci, (fs.mapIdx (fun k f => z_fv ad (w.2.1 o) k f)).set j (.int a))) = z_ws x ad (w.1, z_up w.2.1 o j a, w.2.2) := z_ws_upi hG1 (by show Sum.inr (ci, _) = Sum.inr (ci, _); rw [z_fv_upd hf])
        have hjl : j < (fs.mapIdx (fun k f => z_fv ad (w.2.1 o) k f)).length := by simpa using (List.getElem?_eq_some_iff.mp hf).1
        have key : ∀ (t : FieldType), ty j = t → (T j).2.2.2 = false → narrow t (.int a) = .int a → fits t (.int a) = true → J (pc + 3) al r (w.1, z_up w.2.1 o j a, w.2.2) c1 c2 → W p l e R s m args below meth c H locs c1 c2 Q (F0 m pc ls (.int a :: .ref (ad o) :: r.map (z_cv b ad))) := by
          intro t ht hfin hn hft q
          rcases g6 with ⟨-, g6⟩ | ⟨-, host, g6⟩
          · exact va_put hx hb hts hin ty g4 g5 hown hK.1 hP hD hS o he g1 j g2 (hts _ (hTT _ g6)) (fun _ z => z) hfin (by rw [g4 j g2, ht]) hn hft hjl hd (fun H1 locs1 a1 a2 a3 => by rw [hset] at a1 a2; exact gi hl q a1 a2 a3)
          · exact va_putN hx hb hts hin ty g4 g5 hown hK.1 hP hD hS o he g1 j g2 (va_Nw.use rfl (hK.2 _ g6)) (fun _ z => z) hfin (by rw [g4 j g2, ht]) hn hft hjl hd (fun H1 locs1 a1 a2 a3 => by rw [hset] at a1 a2; exact gi hl q a1 a2 a3)
        match tc, q, g7, g8, g10, g11 with
        | 0, q, g7, g8, _, _ => exact key .int (g7 rfl).1 (g7 rfl).2 rfl rfl q
        | 1, q, g7, g8, _, _ =>
          obtain ⟨hz, q⟩ := q
          exact key .boolean (g8 rfl).1 (g8 rfl).2 (by rcases hz with rfl | rfl <;> rfl) (by rcases hz with rfl | rfl <;> rfl) q
        | 2, q, _, _, _, _ => exact q.elim
        | 3, q, _, _, _, _ => exact q.elim
        | 4, q, _, _, g10, _ =>
          obtain ⟨hz, q⟩ := q
          exact key .byte (g10 rfl).1 (g10 rfl).2 (congrArg Value.int hz.1) hz.2 q
        | 5, q, _, _, _, g11 =>
          have q' : match M.2.2.2.2.2.2.2.1 with
                | true => (vp_nar .byte a = a ∧ fits .byte (.int a) = true) ∧ J (pc + 3) al r (w.1, z_up w.2.1 o j a, w.2.2) c1 c2
                | false => False := q
          split at q'
          · rename_i hini
            obtain ⟨hz, q⟩ := q'
            obtain ⟨g11a, g11b, g11c, g11d⟩ := g11 rfl
            rcases g6 with ⟨-, g6⟩ | ⟨g6, -⟩
            · exact va_putF (ty := .byte) (v := .int a) hx hb hts hin ty g4 g5 hown hK.1 hP hD hS o he g1 j g2 (hts _ (hTT _ g6)) (fun _ z => z) g11b (hI hini) g11c (by rw [g4 j g2, g11a]) (congrArg Value.int hz.1) hz.2 hjl hd (fun H1 locs1 a1 a2 a3 => by rw [hset] at a1 a2; exact gi hl q a1 a2 a3)
            · rw [g11d] at g6; cases g6
          · exact q'.elim
        | _ + 6, q, _, _, _, _ => exact q.elim
    match st, h with
    | .int a :: .ref o :: r, h => exact hput a o r rfl h
    | .ref q :: .ref o :: r, h =>
      have h' : z_fld M i w o (fun tc _ _ j f => match tc with
        | 2 => match M.2.2.2.2.2.2.2.1 with
          | true => match f with
            | some _ => z_gset w.1 o j q 0 (fun G' => J (pc + 3) al r (G', w.2.1, w.2.2) c1 c2)
            | none => False
          | false => False
        | 6 => match f with
          | some _ => z_gset w.1 o j q 0 (fun G' => J (pc + 3) al r (G', w.2.1, w.2.2) c1 c2)
          | none => False
        | _ => False) := h
      obtain ⟨ci, j, tc, nest, fs, f, hm, hG1, hf, k⟩ := z_fld_ok h'
      obtain ⟨C, T, N, ty, g1, g2, g3, g4, g5, g6, g7, g8, g9, -, -, g12⟩ := O.2.1 _ hm
      have hin : ∀ w ∈ u_ws C T N, w ∈ Ts := fun w hw => hTT _ (g3 w hw)
      have he := z_ws_at (x := x) (ad := ad) hG1
      have hset : j < fs.length → (z_ws x ad w).set o (ad o, .inr (ci, (fs.mapIdx (fun k f => z_fv ad (w.2.1 o) k f)).set j (.ref (ad q)))) = z_ws x ad (w.1.set o (.inl (ci, fs.set j (some (some q)))), w.2.1, w.2.2) := fun hj => z_ws_set (List.getElem?_eq_some_iff.mp hG1).1 rfl (fun _ _ => rfl) (fun _ _ => rfl) (by show Sum.inr (ci, _) = Sum.inr (ci, _); rw [z_fv_ref hj])
      show W p l e R s m args below meth c H locs c1 c2 Q (F0 m pc ls (.ref (ad q) :: .ref (ad o) :: r.map (z_cv b ad)))
      match tc, k, g9, g12 with
      | 0, k, _, _ => exact k.elim
      | 1, k, _, _ => exact k.elim
      | 2, k, g9, _ =>
        cases hini : M.2.2.2.2.2.2.2.1 with
        | false =>
          rw [hini] at k
          exact k.elim
        | true =>
          rw [hini] at k
          dsimp only at k
          match f, k, hf with
          | none, k, _ => exact k.elim
          | some _, k, hf =>
            obtain ⟨ci2, fs2, e1, k⟩ := z_gset_ok k
            rw [hG1] at e1
            cases e1
            obtain ⟨g9a, g9b, g9c, g9d⟩ := g9 rfl
            have hset := hset (List.getElem?_eq_some_iff.mp hf).1
            have hjl : j < (fs.mapIdx (fun k f => z_fv ad (w.2.1 o) k f)).length := by simpa using (List.getElem?_eq_some_iff.mp hf).1
            rcases g6 with ⟨-, g6⟩ | ⟨g6, -⟩
            · refine va_putF (ty := ty j) (v := .ref (ad q)) hx hb hts hin ty g4 g5 hown hK.1 hP hD hS o he g1 j g2 (hts _ (hTT _ g6)) (fun _ z => z) g9b (hI hini) g9c (g4 j g2) ?_ ?_ hjl hd (fun H1 locs1 a1 a2 a3 => by rw [hset] at a1 a2; exact hJ _ _ _ _ _ _ k h1 h2 (by rw [List.length_set]; exact h3) ad _ _ _ hl a1 a2 a3 hG)
              · rcases g9a with ⟨n, g⟩ | ⟨n, g⟩ <;> rw [g] <;> rfl
              · rcases g9a with ⟨n, g⟩ | ⟨n, g⟩ <;> rw [g] <;> rfl
            · rw [g9d] at g6; cases g6
      | 3, k, _, _ => exact k.elim
      | 4, k, _, _ => exact k.elim
      | 5, k, _, _ => exact k.elim
      | 6, k, _, g12 =>
        match f, k, hf with
        | none, k, _ => exact k.elim
        | some _, k, hf =>
          obtain ⟨ci2, fs2, e1, k⟩ := z_gset_ok k
          rw [hG1] at e1
          cases e1
          obtain ⟨g9a, g9b⟩ := g12 rfl
          have hset := hset (List.getElem?_eq_some_iff.mp hf).1
          have hjl : j < (fs.mapIdx (fun k f => z_fv ad (w.2.1 o) k f)).length := by simpa using (List.getElem?_eq_some_iff.mp hf).1
          rcases g6 with ⟨-, g6⟩ | ⟨-, host, g6⟩
          · refine va_put (ty := ty j) (v := .ref (ad q)) hx hb hts hin ty g4 g5 hown hK.1 hP hD hS o he g1 j g2 (hts _ (hTT _ g6)) (fun _ z => z) g9b (g4 j g2) ?_ ?_ hjl hd (fun H1 locs1 a1 a2 a3 => by rw [hset] at a1 a2; exact hJ _ _ _ _ _ _ k h1 h2 (by rw [List.length_set]; exact h3) ad _ _ _ hl a1 a2 a3 hG)
            · rcases g9a with ⟨n, g⟩ | ⟨n, g⟩ <;> rw [g] <;> rfl
            · rcases g9a with ⟨n, g⟩ | ⟨n, g⟩ <;> rw [g] <;> rfl
          · refine va_putN (ty := ty j) (v := .ref (ad q)) hx hb hts hin ty g4 g5 hown hK.1 hP hD hS o he g1 j g2 (va_Nw.use rfl (hK.2 _ g6)) (fun _ z => z) g9b (g4 j g2) ?_ ?_ hjl hd (fun H1 locs1 a1 a2 a3 => by rw [hset] at a1 a2; exact hJ _ _ _ _ _ _ k h1 h2 (by rw [List.length_set]; exact h3) ad _ _ _ hl a1 a2 a3 hG)
            · rcases g9a with ⟨n, g⟩ | ⟨n, g⟩ <;> rw [g] <;> rfl
            · rcases g9a with ⟨n, g⟩ | ⟨n, g⟩ <;> rw [g] <;> rfl
      | _ + 7, k, _, _ => exact k.elim
    | [], h => exact h.elim
    | [.int _], h => exact h.elim
    | .int _ :: .int _ :: _, h => exact h.elim
    | .int _ :: .long _ :: _, h => exact h.elim
    | .int _ :: .float _ :: _, h => exact h.elim
    | .int _ :: .double _ :: _, h => exact h.elim
    | .int _ :: .null :: _, h => exact h.elim
    | .int _ :: .retAddr _ :: _, h => exact h.elim
    | [.ref _], h => exact h.elim
    | .ref _ :: .int _ :: _, h => exact h.elim
    | .ref _ :: .long _ :: _, h => exact h.elim
    | .ref _ :: .float _ :: _, h => exact h.elim
    | .ref _ :: .double _ :: _, h => exact h.elim
    | .ref _ :: .null :: _, h => exact h.elim
    | .ref _ :: .retAddr _ :: _, h => exact h.elim
    | .long _ :: _, h => exact h.elim
    | .float _ :: _, h => exact h.elim
    | .double _ :: _, h => exact h.elim
    | .null :: _, h => exact h.elim
    | .retAddr _ :: _, h => exact h.elim
  case iaload =>
    obtain ⟨hd, rfl, ht⟩ := z_dec hok rfl
    have key : ∀ (i : Int32) (o : Nat) (r : List Value), st = .int i :: .ref o :: r → z_arr w o (fun t n => match t with
            | 0 => vp_in i n ∧ J (pc + 1) al (.int (w.2.1 o i.toNatClampNeg) :: r) w c1 c2
            | _ => False) → W p l e R s m args below meth c H locs c1 c2 Q (F0 m pc ls (st.map (z_cv b ad))) := by
      intro i o r hst h
      subst hst
      obtain ⟨t, n, hG1, q⟩ := z_arr_ok h
      have he := z_ws_at (x := x) (ad := ad) hG1
      match t, q, he with
      | 0, q, he => exact va_iald hx hb hK.1 hP o 0 he rfl q.1 hd (go hl q.2)
      | 1, q, _ => exact q.elim
      | 2, q, _ => exact q.elim
      | 3, q, _ => exact q.elim
      | _ + 4, q, _ => exact q.elim
    match st, h with
    | .int i :: .ref o :: r, h => exact key i o r rfl h
    | .int i :: .float f :: r, h =>
      have h' : match M.2.2.2.2.2.2.2.2.1.1 with
        | true => vp_in i M.2.2.2.2.2.2.2.2.1.2.1 ∧ J (pc + 1) al (.int (M.2.2.2.2.2.2.2.2.1.2.2 i.toNatClampNeg) :: r) w c1 c2
        | false => False := h
      split at h'
      · rename_i e1
        obtain ⟨hX, hbl, hbA⟩ := hX e1
        exact va_sld hx hb hX hbl hbA hS h'.1 hd (go hl h'.2)
      · exact h'.elim
    | [], h => exact h.elim
    | [.int _], h => exact h.elim
    | .int _ :: .int _ :: _, h => exact h.elim
    | .int _ :: .long _ :: _, h => exact h.elim
    | .int _ :: .double _ :: _, h => exact h.elim
    | .int _ :: .null :: _, h => exact h.elim
    | .int _ :: .retAddr _ :: _, h => exact h.elim
    | .ref _ :: _, h => exact h.elim
    | .long _ :: _, h => exact h.elim
    | .float _ :: _, h => exact h.elim
    | .double _ :: _, h => exact h.elim
    | .null :: _, h => exact h.elim
    | .retAddr _ :: _, h => exact h.elim
  case baload =>
    obtain ⟨hd, rfl, ht⟩ := z_dec hok rfl
    have key : ∀ (i : Int32) (o : Nat) (r : List Value), st = .int i :: .ref o :: r → z_arr w o (fun t n => match t with
            | 2 => vp_in i n ∧ J (pc + 1) al (.int (w.2.1 o i.toNatClampNeg) :: r) w c1 c2
            | _ => False) → W p l e R s m args below meth c H locs c1 c2 Q (F0 m pc ls (st.map (z_cv b ad))) := by
      intro i o r hst h
      subst hst
      obtain ⟨t, n, hG1, q⟩ := z_arr_ok h
      have he := z_ws_at (x := x) (ad := ad) hG1
      match t, q, he with
      | 0, q, _ => exact q.elim
      | 1, q, _ => exact q.elim
      | 2, q, he => exact va_bald hx hb hK.1 hP o 2 he rfl q.1 hd (go hl q.2)
      | _ + 3, q, _ => exact q.elim
    match st, h with
    | .int i :: .ref o :: r, h => exact key i o r rfl h
    | .int i :: .retAddr 7 :: r, h => exact va_tb hx hb hC.2.2.2.1.2 hS h.1 rfl hd (go hl h.2)
    | [], h => exact h.elim
    | [.int _], h => exact h.elim
    | .int _ :: .int _ :: _, h => exact h.elim
    | .int _ :: .long _ :: _, h => exact h.elim
    | .int _ :: .float _ :: _, h => exact h.elim
    | .int _ :: .double _ :: _, h => exact h.elim
    | .int _ :: .null :: _, h => exact h.elim
    | .int _ :: .retAddr 0 :: _, h => exact h.elim
    | .int _ :: .retAddr 1 :: _, h => exact h.elim
    | .int _ :: .retAddr 2 :: _, h => exact h.elim
    | .int _ :: .retAddr 3 :: _, h => exact h.elim
    | .int _ :: .retAddr 4 :: _, h => exact h.elim
    | .int _ :: .retAddr 5 :: _, h => exact h.elim
    | .int _ :: .retAddr 6 :: _, h => exact h.elim
    | .int _ :: .retAddr (_ + 8) :: _, h => exact h.elim
    | .ref _ :: _, h => exact h.elim
    | .long _ :: _, h => exact h.elim
    | .float _ :: _, h => exact h.elim
    | .double _ :: _, h => exact h.elim
    | .null :: _, h => exact h.elim
    | .retAddr _ :: _, h => exact h.elim
  case laload =>
    obtain ⟨hd, rfl, ht⟩ := z_dec hok rfl
    have key : ∀ (i : Int32) (o : Nat) (r : List Value), st = .int i :: .ref o :: r → z_arr w o (fun t n => match t with
            | 1 => vp_in i n ∧ J (pc + 1) al (.long (w.2.2 o i.toNatClampNeg) :: r) w c1 c2
            | _ => False) → W p l e R s m args below meth c H locs c1 c2 Q (F0 m pc ls (st.map (z_cv b ad))) := by
      intro i o r hst h
      subst hst
      obtain ⟨t, n, hG1, q⟩ := z_arr_ok h
      have he := z_ws_at (x := x) (ad := ad) hG1
      match t, q, he with
      | 0, q, _ => exact q.elim
      | 1, q, he => exact va_lald hx hb hK.1 hP o 1 he rfl q.1 hd (go hl q.2)
      | 2, q, _ => exact q.elim
      | 3, q, _ => exact q.elim
      | _ + 4, q, _ => exact q.elim
    match st, h with
    | .int i :: .ref o :: r, h => exact key i o r rfl h
    | [], h => exact h.elim
    | [.int _], h => exact h.elim
    | .int _ :: .int _ :: _, h => exact h.elim
    | .int _ :: .long _ :: _, h => exact h.elim
    | .int _ :: .float _ :: _, h => exact h.elim
    | .int _ :: .double _ :: _, h => exact h.elim
    | .int _ :: .null :: _, h => exact h.elim
    | .int _ :: .retAddr _ :: _, h => exact h.elim
    | .ref _ :: _, h => exact h.elim
    | .long _ :: _, h => exact h.elim
    | .float _ :: _, h => exact h.elim
    | .double _ :: _, h => exact h.elim
    | .null :: _, h => exact h.elim
    | .retAddr _ :: _, h => exact h.elim
  case iastore =>
    obtain ⟨hd, rfl, ht⟩ := z_dec hok rfl
    have key : ∀ (a : Int32) (i : Int32) (o : Nat) (r : List Value), st = .int a :: .int i :: .ref o :: r → z_arr w o (fun t n => match t with
            | 0 => vp_in i n ∧ J (pc + 1) al r (w.1, z_up w.2.1 o i.toNatClampNeg a, w.2.2) c1 c2
            | _ => False) → W p l e R s m args below meth c H locs c1 c2 Q (F0 m pc ls (st.map (z_cv b ad))) := by
      intro a i o r hst h
      subst hst
      obtain ⟨t, n, hG1, q⟩ := z_arr_ok h
      have he := z_ws_at (x := x) (ad := ad) hG1
      match t, q, he, hG1 with
      | 0, q, he, hG1 =>
        have hset := z_ws_upi (x := x) (ad := ad) (wi := w.2.1) (wl := w.2.2) (i := i.toNatClampNeg) (v := a) hG1 rfl
        exact va_iast hx hb hK.1 hP hD hS o 0 he rfl q.1 hd (fun H1 locs1 a1 a2 a3 => gi hl q.2 (by rw [← hset]; exact a1) (by rw [← hset]; exact a2) a3)
      | 1, q, _, _ => exact q.elim
      | 2, q, _, _ => exact q.elim
      | 3, q, _, _ => exact q.elim
      | _ + 4, q, _, _ => exact q.elim
    match st, h with
    | .int a :: .int i :: .ref o :: r, h => exact key a i o r rfl h
    | [], h => exact h.elim
    | [.int _], h => exact h.elim
    | [.int _, .int _], h => exact h.elim
    | .int _ :: .int _ :: .int _ :: _, h => exact h.elim
    | .int _ :: .int _ :: .long _ :: _, h => exact h.elim
    | .int _ :: .int _ :: .float _ :: _, h => exact h.elim
    | .int _ :: .int _ :: .double _ :: _, h => exact h.elim
    | .int _ :: .int _ :: .null :: _, h => exact h.elim
    | .int _ :: .int _ :: .retAddr _ :: _, h => exact h.elim
    | .int _ :: .long _ :: _, h => exact h.elim
    | .int _ :: .float _ :: _, h => exact h.elim
    | .int _ :: .double _ :: _, h => exact h.elim
    | .int _ :: .null :: _, h => exact h.elim
    | .int _ :: .ref _ :: _, h => exact h.elim
    | .int _ :: .retAddr _ :: _, h => exact h.elim
    | .long _ :: _, h => exact h.elim
    | .float _ :: _, h => exact h.elim
    | .double _ :: _, h => exact h.elim
    | .null :: _, h => exact h.elim
    | .ref _ :: _, h => exact h.elim
    | .retAddr _ :: _, h => exact h.elim
  case bastore =>
    obtain ⟨hd, rfl, ht⟩ := z_dec hok rfl
    have key : ∀ (a : Int32) (i : Int32) (o : Nat) (r : List Value), st = .int a :: .int i :: .ref o :: r → z_arr w o (fun t n => match t with
            | 2 => vp_in i n ∧ J (pc + 1) al r (w.1, z_up w.2.1 o i.toNatClampNeg (vp_nar .byte a), w.2.2) c1 c2
            | _ => False) → W p l e R s m args below meth c H locs c1 c2 Q (F0 m pc ls (st.map (z_cv b ad))) := by
      intro a i o r hst h
      subst hst
      obtain ⟨t, n, hG1, q⟩ := z_arr_ok h
      have he := z_ws_at (x := x) (ad := ad) hG1
      match t, q, he, hG1 with
      | 0, q, _, _ => exact q.elim
      | 1, q, _, _ => exact q.elim
      | 2, q, he, hG1 =>
        have hset := z_ws_upi (x := x) (ad := ad) (wi := w.2.1) (wl := w.2.2) (i := i.toNatClampNeg) (v := (vp_nar .byte a)) hG1 rfl
        exact va_bast hx hb hK.1 hP hD hS o 2 he rfl q.1 hd (fun H1 locs1 a1 a2 a3 => gi hl q.2 (by rw [← hset]; exact a1) (by rw [← hset]; exact a2) a3)
      | _ + 3, q, _, _ => exact q.elim
    match st, h with
    | .int a :: .int i :: .ref o :: r, h => exact key a i o r rfl h
    | [], h => exact h.elim
    | [.int _], h => exact h.elim
    | [.int _, .int _], h => exact h.elim
    | .int _ :: .int _ :: .int _ :: _, h => exact h.elim
    | .int _ :: .int _ :: .long _ :: _, h => exact h.elim
    | .int _ :: .int _ :: .float _ :: _, h => exact h.elim
    | .int _ :: .int _ :: .double _ :: _, h => exact h.elim
    | .int _ :: .int _ :: .null :: _, h => exact h.elim
    | .int _ :: .int _ :: .retAddr _ :: _, h => exact h.elim
    | .int _ :: .long _ :: _, h => exact h.elim
    | .int _ :: .float _ :: _, h => exact h.elim
    | .int _ :: .double _ :: _, h => exact h.elim
    | .int _ :: .null :: _, h => exact h.elim
    | .int _ :: .ref _ :: _, h => exact h.elim
    | .int _ :: .retAddr _ :: _, h => exact h.elim
    | .long _ :: _, h => exact h.elim
    | .float _ :: _, h => exact h.elim
    | .double _ :: _, h => exact h.elim
    | .null :: _, h => exact h.elim
    | .ref _ :: _, h => exact h.elim
    | .retAddr _ :: _, h => exact h.elim
  case lastore =>
    obtain ⟨hd, rfl, ht⟩ := z_dec hok rfl
    have key : ∀ (a : Int64) (i : Int32) (o : Nat) (r : List Value), st = .long a :: .int i :: .ref o :: r → z_arr w o (fun t n => match t with
            | 1 => vp_in i n ∧ J (pc + 1) al r (w.1, w.2.1, z_up w.2.2 o i.toNatClampNeg a) c1 c2
            | _ => False) → W p l e R s m args below meth c H locs c1 c2 Q (F0 m pc ls (st.map (z_cv b ad))) := by
      intro a i o r hst h
      subst hst
      obtain ⟨t, n, hG1, q⟩ := z_arr_ok h
      have he := z_ws_at (x := x) (ad := ad) hG1
      match t, q, he, hG1 with
      | 0, q, _, _ => exact q.elim
      | 1, q, he, hG1 =>
        have hset := z_ws_upl (x := x) (ad := ad) (wi := w.2.1) (wl := w.2.2) (i := i.toNatClampNeg) (v := a) hG1 rfl
        exact va_last hx hb hK.1 hP hD hS o 1 he rfl q.1 hd (fun H1 locs1 a1 a2 a3 => hJ _ _ _ _ _ _ q.2 h1 h2 h3 ad _ _ _ hl (by rw [← hset]; exact a1) (by rw [← hset]; exact a2) a3 hG)
      | 2, q, _, _ => exact q.elim
      | 3, q, _, _ => exact q.elim
      | _ + 4, q, _, _ => exact q.elim
    match st, h with
    | .long a :: .int i :: .ref o :: r, h => exact key a i o r rfl h
    | [], h => exact h.elim
    | [.long _], h => exact h.elim
    | [.long _, .int _], h => exact h.elim
    | .long _ :: .int _ :: .int _ :: _, h => exact h.elim
    | .long _ :: .int _ :: .long _ :: _, h => exact h.elim
    | .long _ :: .int _ :: .float _ :: _, h => exact h.elim
    | .long _ :: .int _ :: .double _ :: _, h => exact h.elim
    | .long _ :: .int _ :: .null :: _, h => exact h.elim
    | .long _ :: .int _ :: .retAddr _ :: _, h => exact h.elim
    | .long _ :: .long _ :: _, h => exact h.elim
    | .long _ :: .float _ :: _, h => exact h.elim
    | .long _ :: .double _ :: _, h => exact h.elim
    | .long _ :: .null :: _, h => exact h.elim
    | .long _ :: .ref _ :: _, h => exact h.elim
    | .long _ :: .retAddr _ :: _, h => exact h.elim
    | .int _ :: _, h => exact h.elim
    | .float _ :: _, h => exact h.elim
    | .double _ :: _, h => exact h.elim
    | .null :: _, h => exact h.elim
    | .ref _ :: _, h => exact h.elim
    | .retAddr _ :: _, h => exact h.elim
  case arraylength =>
    obtain ⟨hd, rfl, ht⟩ := z_dec hok rfl
    match st, h with
    | .ref o :: r, h =>
      obtain ⟨t, n, hG1, q⟩ := z_arr_ok h
      have he := z_ws_at (x := x) (ad := ad) hG1
      match t, he with
      | 0, he => exact va_alen hx hb hK.1 hP o 0 he rfl rfl hd (go hl q)
      | 1, he => exact va_alen hx hb hK.1 hP o 1 he rfl rfl hd (go hl q)
      | 2, he => exact va_alen hx hb hK.1 hP o 2 he rfl rfl hd (go hl q)
      | _ + 3, he => exact va_alen hx hb hK.1 hP o 2 he rfl rfl hd (go hl q)
    | .float f :: r, h =>
      have h' : match M.2.2.2.2.2.2.2.2.1.1 with
        | true => J (pc + 1) al (.int (nI M.2.2.2.2.2.2.2.2.1.2.1) :: r) w c1 c2
        | false => False := h
      split at h'
      · rename_i e1
        obtain ⟨hX, hbl, hbA⟩ := hX e1
        exact va_slen hx hb hX hbl hbA hS hd (go hl h')
      · exact h'.elim
    | .retAddr c :: r, h =>
      have h' : match z_cb c with
        | true => J (pc + 1) al (.int (nI (z_cl c).length) :: r) w c1 c2
        | false => False := h
      split at h'
      · rename_i e1
        unfold z_cb at e1
        split at e1
        · exact va_tlen hx hb (hC.1.1 0 (by decide)).2.2.2 hS rfl hd (go hl h')
        · exact va_tlen hx hb (hC.1.1 1 (by decide)).2.2.2 hS rfl hd (go hl h')
        · exact va_tlen hx hb (hC.1.1 2 (by decide)).2.2.2 hS rfl hd (go hl h')
        · cases e1
      · exact h'.elim
    | [], h => exact h.elim
    | .int _ :: _, h => exact h.elim
    | .long _ :: _, h => exact h.elim
    | .double _ :: _, h => exact h.elim
    | .null :: _, h => exact h.elim
  case tableswitch d0 lo0 hi0 offs =>
    obtain ⟨len, hd⟩ := z_decw hok
    have h' : match z_look M.2.2.2.2.1 pc with
      | some (lo, d, ts) => z_i1 st (fun a r => z_sw pc a r (fun t => J t al r w c1 c2) lo ts ∧ ((a.toInt < lo ∨ lo + ts.length ≤ a.toInt) → J d al r w c1 c2))
      | none => False := h
    split at h'
    · rename_i lo d ts e1
      have h4 := O.2.2.2.2.2.2.1 _ (z_look_mem e1)
      obtain ⟨a, r, rfl, q1, q2⟩ := z_i1_ok h'
      unfold z_sokb at h4
      dsimp only at h4
      rw [hd] at h4
      simp only [Bool.and_eq_true, decide_eq_true_eq] at h4
      obtain ⟨rfl, hhi, hdf, hof⟩ := h4
      by_cases hlo : a.toInt < lo0
      · exact lv_tableOut hx hb hd (Or.inl hlo) hdf (go hl (q2 (Or.inl hlo)))
      · by_cases hhi2 : hi0 < a.toInt
        · exact lv_tableOut hx hb hd (Or.inr hhi2) hdf (go hl (q2 (Or.inr (by omega))))
        · have hlen2 : offs.toList.length = ts.length := by have := congrArg List.length hof; simpa using this
          have hj : (a.toInt - lo0).toNat < offs.toList.length := by omega
          have ho : offs[(a.toInt - lo0).toNat]? = some (offs.toList[(a.toInt - lo0).toNat]'hj) := by rw [← Array.getElem?_toList, List.getElem?_eq_getElem hj]
          have ht2 : (pc : Int) + offs.toList[(a.toInt - lo0).toNat]'hj = ((ts[(a.toInt - lo0).toNat]'(by omega) : Nat) : Int) := by
            have h5 := congrArg (fun l => l[(a.toInt - lo0).toNat]?) hof
            simp only [List.getElem?_map] at h5
            rw [List.getElem?_eq_getElem hj, List.getElem?_eq_getElem (by omega)] at h5
            simpa using h5
          refine lv_tableIn hx hb hd hlo hhi2 ho ht2 (go hl (z_sw_at (a := a) (J := fun t => J t al r w c1 c2) ts lo0 _ q1 (by omega) ?_))
          rw [show lo0 + ((a.toInt - lo0).toNat : Int) = a.toInt by omega]
          exact (Int32.ofInt_toInt a).symm
    · exact h'.elim
  case ireturn =>
    obtain ⟨hd, rfl, ht⟩ := z_dec hok rfl
    match st, h with
    | [.int a], h => exact hR _ w h.2 ad H locs ls pc c1 c2 h1 h2 h3 hP hD hS hG (Or.inl ⟨a, rfl, hd, h.1⟩)
    | [], h => exact h.elim
    | .int _ :: _ :: _, h => exact h.elim
    | .long _ :: _, h => exact h.elim
    | .float _ :: _, h => exact h.elim
    | .double _ :: _, h => exact h.elim
    | .null :: _, h => exact h.elim
    | .ref _ :: _, h => exact h.elim
    | .retAddr _ :: _, h => exact h.elim
  case lreturn =>
    obtain ⟨hd, rfl, ht⟩ := z_dec hok rfl
    match st, h with
    | [.long a], h =>
      have h' : match M.2.2.2.2.2.2.1 with
        | 3 => post (some (.long a)) w
        | _ => False := h
      split at h'
      · rename_i e1
        exact hR _ w h' ad H locs ls pc c1 c2 h1 h2 h3 hP hD hS hG (Or.inr (Or.inl ⟨a, rfl, hd, e1⟩))
      · exact h'.elim
    | [], h => exact h.elim
    | .long _ :: _ :: _, h => exact h.elim
    | .int _ :: _, h => exact h.elim
    | .float _ :: _, h => exact h.elim
    | .double _ :: _, h => exact h.elim
    | .null :: _, h => exact h.elim
    | .ref _ :: _, h => exact h.elim
    | .retAddr _ :: _, h => exact h.elim
  case return_ =>
    obtain ⟨hd, rfl, ht⟩ := z_dec hok rfl
    match st, h with
    | [], h =>
      have h' : match M.2.2.2.2.2.2.1 with
        | 0 => post none w
        | _ => False := h
      split at h'
      · rename_i e1
        exact hR _ w h' ad H locs ls pc c1 c2 h1 h2 h3 hP hD hS hG (Or.inr (Or.inr (Or.inl ⟨rfl, hd, e1⟩)))
      · exact h'.elim
    | _ :: _, h => exact h.elim
  case invokestatic i =>
    obtain ⟨hd, rfl, ht⟩ := z_dec hok rfl
    exact hcall J hJ 0 i pc al st w c1 c2 h (Or.inl ⟨rfl, hd⟩) h1 h2 h3 ad H locs ls hl hP hD hS hG
  case invokevirtual i =>
    obtain ⟨hd, rfl, ht⟩ := z_dec hok rfl
    exact hcall J hJ 1 i pc al st w c1 c2 h (Or.inr (Or.inl ⟨rfl, hd⟩)) h1 h2 h3 ad H locs ls hl hP hD hS hG
  case invokespecial i =>
    obtain ⟨hd, rfl, ht⟩ := z_dec hok rfl
    exact hcall J hJ 2 i pc al st w c1 c2 h (Or.inr (Or.inr ⟨rfl, hd⟩)) h1 h2 h3 ad H locs ls hl hP hD hS hG
  case new i =>
    obtain ⟨hd, rfl, ht⟩ := z_dec hok rfl
    have h' : match z_look M.2.2.2.1.2.2 i with
      | some (ci, fs) => (c1 + 1 ≤ M.2.2.2.2.2.2.2.2.2.1 ∧ c2 + fs.length ≤ M.2.2.2.2.2.2.2.2.2.2.1) ∧ ((z_wfl w.1.length al && (z_wfs w.1.length st && z_wfg w.1.length w.1)) = true ∧ z_psh w.1 (.inl (ci, fs)) 0 (fun G' n => J (pc + 3) al (.ref n :: st) (G', z_row w.2.1 n (fun _ => 0), w.2.2) (c1 + 1) (c2 + fs.length)))
      | none => False := h
    split at h'
    · rename_i ci fs e1
      obtain ⟨C, T, N, ty, g1, g3, g4, g5, g6, g7, g8, g9⟩ := O.2.2.2.2.2.1 _ (z_look_mem e1)
      obtain ⟨⟨r1, r2⟩, hwf, q⟩ := h'
      rw [O.2.2.2.2.2.2.2.1] at r1
      rw [O.2.2.2.2.2.2.2.2.1] at r2
      · simp only [Bool.and_eq_true] at hwf
        obtain ⟨wf1, wf2, wf3⟩ := hwf
        have q := z_psh_ok q
        rw [Nat.zero_add] at q
        have hin : ∀ w ∈ u_ws C T N, w ∈ Ts := fun w hw => hTT _ (g3 w hw)
        dsimp only at g8
        have hdef : ∀ j, j < N → defaultValue (ty j) = vp_V (fs.mapIdx (fun k f => z_fv ad (fun _ => 0) k f)) j := by
          intro j hj
          have hz := g9 j hj
          dsimp only at hz
          rcases hz with ⟨z1, z2⟩ | ⟨z1, z2⟩
          · unfold vp_V
            rw [List.getD_eq_getElem?_getD, List.getElem?_mapIdx, z1]
            rcases z2 with z2 | z2 | z2 <;> rw [z2] <;> rfl
          · unfold vp_V
            rw [List.getD_eq_getElem?_getD, List.getElem?_mapIdx, z1]
            rcases z2 with ⟨n, z2⟩ | ⟨n, z2⟩ <;> rw [z2] <;> rfl
        refine va_new hx hb hts hin ty g4 hown (hts _ (hTT _ g5)) (hts _ (hTT _ g6)) (hts _ (hTT _ g7)) hK.1 hP hD hS hA g1 hdef r1 (by rw [← g8]; exact r2) hd (fun qn H1 a1 a2 a3 => ?_)
        have hag : ∀ k, k < w.1.length → (fun k => if k = w.1.length then qn else ad k) k = ad k := fun k hk => if_neg (by omega)
        have hfs : fs.mapIdx (fun k f => z_fv ad (fun _ => 0) k f) = fs.mapIdx (fun k f => z_fv (fun k => if k = w.1.length then qn else ad k) (fun _ => 0) k f) := by
          apply List.ext_getElem?
          intro j
          rw [List.getElem?_mapIdx, List.getElem?_mapIdx]
          by_cases hj : j < N
          · have hz := g9 j hj
            dsimp only at hz
            rcases hz with ⟨z1, -⟩ | ⟨z1, -⟩ <;> rw [z1] <;> rfl
          · rw [List.getElem?_eq_none (by omega)]; rfl
        have hz0 : z_row w.2.1 w.1.length (fun _ => (0 : Int32)) w.1.length = fun _ => 0 := by funext z; simp [z_row]
        have hpush := z_ws_push (x := x) (ad := ad) (ad' := fun k => if k = w.1.length then qn else ad k) (G := w.1) (wi := w.2.1) (wi' := z_row w.2.1 w.1.length (fun _ => 0)) (wl := w.2.2) (wl' := w.2.2) (q := qn) (sh := .inl (ci, fs)) (E := .inr (ci, fs.mapIdx (fun k f => z_fv ad (fun _ => 0) k f))) wf3 hag (if_pos rfl) (fun o ho => by funext i'; simp [z_row, Nat.ne_of_lt ho]) (fun _ _ => rfl) (by rw [hz0, hfs]; rfl)
        rw [hpush] at a1 a2
        have := hJ _ _ _ _ _ _ q r1 r2 (by show n0 ≤ (w.1 ++ [_]).length; rw [List.length_append]; omega) (fun k => if k = w.1.length then qn else ad k) H1 locs ls (hl.agree hag wf1) a1 a2 a3 ⟨fun k hk => (hag k (by omega)).trans (hG.1 k hk), fun hz => by omega⟩
        rw [List.map_cons, z_cvs_agree hag wf2] at this
        rw [← g8]
        have e9 : z_cv b (fun k => if k = w.1.length then qn else ad k) (Value.ref w.1.length) = Value.ref qn := by show Value.ref (if w.1.length = w.1.length then qn else ad w.1.length) = Value.ref qn; rw [if_pos rfl]
        rw [e9] at this
        exact this
    · exact h'.elim
  case newarray t =>
    obtain ⟨hd, rfl, ht⟩ := z_dec hok rfl
    obtain ⟨a, r, rfl, N, rfl, hN, ⟨r1, r2⟩, hwf, q⟩ := z_i1_ok h
    rw [O.2.2.2.2.2.2.2.1] at r1
    rw [O.2.2.2.2.2.2.2.2.1] at r2
    · simp only [Bool.and_eq_true] at hwf
      obtain ⟨wf1, wf2, wf3⟩ := hwf
      have hn : ¬ nI N < 0 := nI_pos (by omega)
      have hcl : (nI N).toNatClampNeg = N := nI_clamp (by omega)
      match t, q with
      | .int, q =>
        have q := z_psh_ok q
        rw [Nat.zero_add] at q
        refine va_newa (atype := .int) (ty := .int) (a0 := (N, .inl (fun _ => 0))) hx hb (hts _ (hTT _ zTT_int)) rfl hK.1 hP hD hS hA (fun cA => rfl) hn hcl (Nat.le_trans (Nat.mul_le_mul_right _ hN) (by decide)) r1 r2 hd (fun qn cA H1 hK1 a1 a2 a3 => ?_)
        have hcA : cA = x.2.1 := by
          have k1 := (hK1.2 3 (cA, .int) rfl).2
          have k2 := (hK.1.2 0 (x.2.1, .int) rfl).2
          exact Option.some.inj (k1.symm.trans k2)
        subst hcA
        have hag : ∀ k, k < w.1.length → (fun k => if k = w.1.length then qn else ad k) k = ad k := fun k hk => if_neg (by omega)
        have hz0 : z_row w.2.1 w.1.length (fun _ => (0 : Int32)) w.1.length = fun _ => 0 := by funext z; simp [z_row]
        have hpush := z_ws_push (x := x) (ad := ad) (ad' := fun k => if k = w.1.length then qn else ad k) (G := w.1) (wi := w.2.1) (wi' := z_row w.2.1 w.1.length (fun _ => 0)) (wl := w.2.2) (wl' := w.2.2) (q := qn) (sh := .inr (0, N)) (E := .inl (x.2.1, N, .inl (fun _ => 0))) wf3 hag (if_pos rfl) (fun o ho => by funext i'; simp [z_row, Nat.ne_of_lt ho]) (fun _ _ => rfl) (by rw [hz0]; rfl)
        rw [hpush] at a1 a2
        have := hJ _ _ _ _ _ _ q r1 r2 (by show n0 ≤ (w.1 ++ [_]).length; rw [List.length_append]; omega) (fun k => if k = w.1.length then qn else ad k) H1 locs ls (hl.agree hag wf1) a1 a2 a3 ⟨fun k hk => (hag k (by omega)).trans (hG.1 k hk), fun hz => by omega⟩
        rw [List.map_cons, z_cvs_agree hag wf2] at this
        have e9 : z_cv b (fun k => if k = w.1.length then qn else ad k) (Value.ref w.1.length) = Value.ref qn := by show Value.ref (if w.1.length = w.1.length then qn else ad w.1.length) = Value.ref qn; rw [if_pos rfl]
        rw [e9] at this
        exact this
      | .long, q =>
        have q := z_psh_ok q
        rw [Nat.zero_add] at q
        refine va_newa (atype := .long) (ty := .long) (a0 := (N, .inr (.inl (fun _ => 0)))) hx hb (hts _ (hTT _ zTT_long)) rfl hK.1 hP hD hS hA (fun cA => rfl) hn hcl (Nat.le_trans (Nat.mul_le_mul_right _ hN) (by decide)) r1 r2 hd (fun qn cA H1 hK1 a1 a2 a3 => ?_)
        have hcA : cA = x.2.2.1 := by
          have k1 := (hK1.2 3 (cA, .long) rfl).2
          have k2 := (hK.1.2 1 (x.2.2.1, .long) rfl).2
          exact Option.some.inj (k1.symm.trans k2)
        subst hcA
        have hag : ∀ k, k < w.1.length → (fun k => if k = w.1.length then qn else ad k) k = ad k := fun k hk => if_neg (by omega)
        have hz0 : z_row w.2.2 w.1.length (fun _ => (0 : Int64)) w.1.length = fun _ => 0 := by funext z; simp [z_row]
        have hpush := z_ws_push (x := x) (ad := ad) (ad' := fun k => if k = w.1.length then qn else ad k) (G := w.1) (wi := w.2.1) (wi' := w.2.1) (wl := w.2.2) (wl' := z_row w.2.2 w.1.length (fun _ => 0)) (q := qn) (sh := .inr (1, N)) (E := .inl (x.2.2.1, N, .inr (.inl (fun _ => 0)))) wf3 hag (if_pos rfl) (fun _ _ => rfl) (fun o ho => by funext i'; simp [z_row, Nat.ne_of_lt ho]) (by rw [hz0]; rfl)
        rw [hpush] at a1 a2
        have := hJ _ _ _ _ _ _ q r1 r2 (by show n0 ≤ (w.1 ++ [_]).length; rw [List.length_append]; omega) (fun k => if k = w.1.length then qn else ad k) H1 locs ls (hl.agree hag wf1) a1 a2 a3 ⟨fun k hk => (hag k (by omega)).trans (hG.1 k hk), fun hz => by omega⟩
        rw [List.map_cons, z_cvs_agree hag wf2] at this
        have e9 : z_cv b (fun k => if k = w.1.length then qn else ad k) (Value.ref w.1.length) = Value.ref qn := by show Value.ref (if w.1.length = w.1.length then qn else ad w.1.length) = Value.ref qn; rw [if_pos rfl]
        rw [e9] at this
        exact this
      | .byte, q =>
        have q := z_psh_ok q
        rw [Nat.zero_add] at q
        refine va_newa (atype := .byte) (ty := .byte) (a0 := (N, .inl (fun _ => 0))) hx hb (hts _ (hTT _ zTT_byte)) rfl hK.1 hP hD hS hA (fun cA => rfl) hn hcl (Nat.le_trans (Nat.mul_le_mul_right _ hN) (by decide)) r1 r2 hd (fun qn cA H1 hK1 a1 a2 a3 => ?_)
        have hcA : cA = x.2.2.2.1 := by
          have k1 := (hK1.2 3 (cA, .byte) rfl).2
          have k2 := (hK.1.2 2 (x.2.2.2.1, .byte) rfl).2
          exact Option.some.inj (k1.symm.trans k2)
        subst hcA
        have hag : ∀ k, k < w.1.length → (fun k => if k = w.1.length then qn else ad k) k = ad k := fun k hk => if_neg (by omega)
        have hz0 : z_row w.2.1 w.1.length (fun _ => (0 : Int32)) w.1.length = fun _ => 0 := by funext z; simp [z_row]
        have hpush := z_ws_push (x := x) (ad := ad) (ad' := fun k => if k = w.1.length then qn else ad k) (G := w.1) (wi := w.2.1) (wi' := z_row w.2.1 w.1.length (fun _ => 0)) (wl := w.2.2) (wl' := w.2.2) (q := qn) (sh := .inr (2, N)) (E := .inl (x.2.2.2.1, N, .inl (fun _ => 0))) wf3 hag (if_pos rfl) (fun o ho => by funext i'; simp [z_row, Nat.ne_of_lt ho]) (fun _ _ => rfl) (by rw [hz0]; rfl)
        rw [hpush] at a1 a2
        have := hJ _ _ _ _ _ _ q r1 r2 (by show n0 ≤ (w.1 ++ [_]).length; rw [List.length_append]; omega) (fun k => if k = w.1.length then qn else ad k) H1 locs ls (hl.agree hag wf1) a1 a2 a3 ⟨fun k hk => (hag k (by omega)).trans (hG.1 k hk), fun hz => by omega⟩
        rw [List.map_cons, z_cvs_agree hag wf2] at this
        have e9 : z_cv b (fun k => if k = w.1.length then qn else ad k) (Value.ref w.1.length) = Value.ref qn := by show Value.ref (if w.1.length = w.1.length then qn else ad w.1.length) = Value.ref qn; rw [if_pos rfl]
        rw [e9] at this
        exact this
      | .boolean, q => exact q.elim
      | .char, q => exact q.elim
      | .float, q => exact q.elim
      | .double, q => exact q.elim
      | .short, q => exact q.elim
  all_goals exact (h : False).elim
end ZS
end
section
/-! calls, and the whole walk -/
theorem zTT_inTs {Ts : List Cond} (hTT : ∀ w ∈ zTT, w ∈ Ts) {w : Cond} (h : w ∈ zTT) : w ∈ Ts ∧ ((w.onTables && w.keeps) = true ∨ ∃ ty, w = .arrayClass ty) := ⟨hTT _ h, good_of_word (zTT_good h)⟩
theorem z_good_ws {Ts : List Cond} (hTT : ∀ w ∈ zTT, w ∈ Ts) {y : MethodName} {bytes : ByteArray} {maxL : Nat} {ret : Option FieldType} (hc : Cond.code y bytes maxL ret ∈ zTT) : GoodIn Ts (.code y bytes maxL ret :: zTT) := by
  intro w hw
  rcases List.mem_cons.mp hw with rfl | hw
  · exact zTT_inTs hTT hc
  · exact zTT_inTs hTT hw
theorem z_good_app {Ts a ws : List Cond} (hTT : ∀ w ∈ zTT, w ∈ Ts) (h1 : ∀ w ∈ a, w ∈ zTT) (h2 : GoodIn Ts ws) : GoodIn Ts (a ++ ws) := by
  intro w hw
  rcases List.mem_append.mp hw with hw | hw
  · exact zTT_inTs hTT (h1 w hw)
  · exact h2 w hw
theorem z_Pc_blind {x : zX} {b : Nat → Nat} {ad : Nat → Nat} {av : List Value} {w : zW} {sz : Nat} : FrameBlind (z_Pc x b ad av w sz) := by
  rintro a U g mk ⟨q1, q2, q3, q4, q5, q6⟩
  exact ⟨q1, q2, q3, q4.same rfl, q5, q6.same rfl⟩
theorem z_Pcs_blind {x : zX} {b : Nat → Nat} {ad : Nat → Nat} {av : List Value} {w : zW} {sz L : Nat} {xs : Nat → Int32} : FrameBlind (z_Pcs x b ad av w sz L xs) := by
  rintro a U g mk ⟨h1, h2, h3⟩
  exact ⟨z_Pc_blind _ _ _ _ h1, va_X.moved (Vm.Alike.refl _) h2, h3⟩
section ZC
variable {p : Program} {l : Launch} {e : Env} {R : Room} {s : State} {m : MethodId} {args : Array Value} {below : List Frame} {meth : Method} {c : Code} {Q : State → Prop} {cc : ByteArray} {own : String} {Ts : List Cond} {x : zX} {b : Nat → Nat} {A0 : Nat → Prop} {ad0 : Nat → Nat} {n0 nL : Nat} {M : zM} {post : Option Value → zW → Prop}
/-- behind a call -/
theorem z_after {H : Heap} {locs : List Loc} {c1 c2 mc ms pc : Nat} {ls : Array Slot} {st0 rest : List Value} {a : Array Value} {ad : Nat → Nat} {w : zW} {K : Option Value → zW → Prop}
    (hr : va_Run p l e R s m args below meth c H locs c1 c2 mc ms (F0 m pc ls st0) rest (z_Qc x b ad w K H.size mc a) (z_A x ad w H.size)) (hD : va_D A0 (z_ws x ad w)) (hS : va_S A0 s.heap H locs) (hA : ∀ q : Nat, s.heap.size ≤ q → A0 q)
    (kk : ∀ (r : Option Value) (w' : zW) (ad' : Nat → Nat) (H1 : Heap) (locs1 : List Loc), K r w' → w.1.length ≤ w'.1.length → z_AG ad ad' w.1.length mc → va_P x.1 vwCl (z_ws x ad' w') H1 → va_D A0 (z_ws x ad' w') → va_S A0 s.heap H1 locs1 → W p l e R s m args below meth c H1 locs1 (c1 + mc) (c2 + ms) Q (F0 m (pc + 3) ls ((r.map (z_cv b ad')).toList ++ rest))) : W p l e R s m args below meth c H locs c1 c2 Q (F0 m pc ls st0) := by
  intro T hT X
  obtain ⟨v, st₀, t, T', L, h0, X', hL, e1, e2, ⟨⟨r, w', ad', hv, hk, hlen, hag, hP', hD'⟩, hz, hkeep⟩, st⟩ := hr T hT X
  cases hv
  rw [h0] at hz hkeep
  have hAA : ∀ q, z_A x ad w H.size q → A0 q := by
    intro q hq
    rcases hq with ⟨k, e, hq⟩ | hq
    · exact hD.2 k (q, e) hq
    · exact hA q (Nat.le_trans hS.1 hq)
  obtain ⟨t2, a1, b1⟩ := kk r w' ad' T'.heap (locs ++ L) hk hlen hag (by rw [e1]; exact hP') (hD'.weaken (fun k q _ h => hAA q.1 h))
    ⟨Nat.le_trans hS.1 (by rw [e1]; exact hz), fun q h1 h2 => by rw [e1, hkeep q (Nat.lt_of_lt_of_le h1 hS.1) (fun z => h2 (hAA q z))]; exact hS.2.1 q h1 h2, fun q hq => by
      rcases List.mem_append.mp hq with h | h
      · exact hS.2.2 q h
      · exact hAA _ (hL q h)⟩ T' rfl X'
  exact ⟨t2, st t2 a1, b1⟩
theorem z_kk_spec {ik kd : Nat} (h : z_kk ik kd = true) : (ik = 0 ∧ (kd = 0 ∨ kd = 2 ∨ kd = 7 ∨ kd = 8)) ∨ (ik = 1 ∧ (kd = 4 ∨ kd = 5 ∨ kd = 9 ∨ kd = 10 ∨ kd = 13)) ∨ (ik = 2 ∧ (kd = 1 ∨ kd = 3 ∨ kd = 6 ∨ kd = 11)) := by
  unfold z_kk at h
  split at h <;> simp at h ⊢
theorem z_aw {H : Heap} {locs : List Loc} {ad : Nat → Nat} {w : zW} (hD : va_D A0 (z_ws x ad w)) (hS : va_S A0 s.heap H locs) (hA : ∀ q : Nat, s.heap.size ≤ q → A0 q) : ∀ q, z_A x ad w H.size q → A0 q := by
  intro q hq
  rcases hq with ⟨k, e, hq⟩ | hq
  · exact hD.2 k (q, e) hq
  · exact hA q (Nat.le_trans hS.1 hq)
/-- who gets a virtual call: an object of the world, or a String that is a constant -/
theorem z_hdo_obj {ci : Nat} {av : List Value} {w : zW} (h : z_hdo ci av w = true) : (∃ o as fs, av = .ref o :: as ∧ w.1[o]? = some (.inl (ci, fs))) ∨ ∃ k as, av = .retAddr (2 * k + 1) :: as ∧ k < 3 ∧ ci = 10 := by
  unfold z_hdo at h
  split at h
  · rename_i o as
    split at h
    · rename_i c' fs e
      have := Nat.eq_of_beq_eq_true h
      subst this
      exact Or.inl ⟨o, as, fs, rfl, by rw [← z_nth_eq]; exact e⟩
    · cases h
  · rename_i c as
    rw [Bool.and_eq_true] at h
    have h1 := Nat.eq_of_beq_eq_true h.1
    have h2 := h.2
    unfold z_cs at h2
    split at h2
    · exact Or.inr ⟨0, as, rfl, by decide, h1⟩
    · exact Or.inr ⟨1, as, rfl, by decide, h1⟩
    · exact Or.inr ⟨2, as, rfl, by decide, h1⟩
    · cases h2
  · cases h
theorem z_rcv_ref {kd ci : Nat} {av : List Value} {w : zW} (hk : kd = 1 ∨ kd = 3 ∨ kd = 6) (h : z_rcv kd ci av w = true) : ∃ o as, av = .ref o :: as := by
  have h' : z_hdr av = true := by rcases hk with rfl | rfl | rfl <;> exact h
  unfold z_hdr at h'
  split at h'
  · exact ⟨_, _, rfl⟩
  · cases h'
theorem nfw_ac : nativeFrameWords "java/lang/System" "arraycopy" 5 = 7 := by decide
set_option maxHeartbeats 1000000 in
theorem z_cpyk_ok (E : z_En p s m args meth c cc nL own Ts x b A0 M) (J : zJ) (hJ : ∀ pc al st w c1 c2, J pc al st w c1 c2 → z_JJ p l e R s m args below meth c Q x b A0 ad0 n0 nL pc al st w c1 c2) {i pc : Nat} {al : zAL} {av r : List Value} {w : zW} {c1 c2 : Nat} (h : z_cpyk M J (pc + 3) al r w c1 c2 av) (hd : decode cc pc = .ok (.invokestatic i, 3)) (hk : Cond.methodLink own i acN ∈ zTT ∧ Cond.native acN ∈ zTT ∧ Cond.static acN ∈ zTT ∧ Cond.initialized "java/lang/System" ∈ zTT ∧ 1 ≤ R.frames ∧ 26 ≤ R.locals) (hcats : z_cats r ≤ 8) : z_JJ p l e R s m args below meth c Q x b A0 ad0 n0 nL pc al (av.reverse ++ r) w c1 c2 := by
  intro h1 h2 h3 ad H locs ls hl hP hD hS hG
  obtain ⟨⟨hx, hb, hml, hown, hts⟩, hTT, hK, hA, hI, hC, hX⟩ := id E
  obtain ⟨k1, k2, k3, k4, k5, k6⟩ := hk
  have hW8 : ((r.map (z_cv b ad)).map fun v => v.category).sum ≤ 8 := by rw [z_cats_eq]; exact hcats
  have hloc : ((r.map (z_cv b ad)).map fun v => v.category).sum + (nativeFrameWords "java/lang/System" "arraycopy" 5 + 11) ≤ R.locals := by rw [nfw_ac]; omega
  have fin : ∀ (o2 N2 : Nat) (g : Nat → Int32), w.1[o2]? = some (.inr (2, N2)) → (z_ws x ad w).set o2 (ad o2, .inl (x.2.2.2.1, N2, .inl g)) = z_ws x ad (w.1, z_row w.2.1 o2 g, w.2.2) := fun o2 N2 g hG2 => z_ws_set (sh' := .inr (2, N2)) (List.getElem?_eq_some_iff.mp hG2).1 (z_set_same hG2) (fun o' ho => by funext j; simp [z_row, ho]) (fun _ _ => rfl) (by
    have : z_row w.2.1 o2 g o2 = g := by funext j; simp [z_row]
    rw [this]
    rfl)
  unfold z_cpyk at h
  split at h
  · rename_i o sp o2 dp n
    obtain ⟨t, N, hG1, h⟩ := z_arr_ok h
    obtain ⟨t2, N2, hG2, h⟩ := z_arr_ok h
    have he1 := z_ws_at (x := x) (ad := ad) hG1
    have he2 := z_ws_at (x := x) (ad := ad) hG2
    split at h
    · split at h
      · obtain ⟨⟨a1, a2, a3, a4, a5, a6⟩, q⟩ := h
        refine va_copyi hx hb (hml.trans hl.1.symm) hown (hts _ (hTT _ k1)) (hts _ (hTT _ k2)) (hts _ (hTT _ k3)) (hts _ (hTT _ k4)) hK.1 hP hD hS o o2 2 2 he1 he2 rfl rfl rfl a1 a2 a3 a4 a5 a6 k5 hloc hd (fun H1 locs1 p1 p2 p3 => ?_)
        rw [fin o2 N2 _ hG2] at p1 p2
        exact hJ _ _ _ _ _ _ q h1 h2 h3 ad H1 locs1 ls hl p1 p2 p3 hG
      · exact h.elim
    · exact h.elim
  · rename_i k sp o2 dp n
    split at h
    · rename_i hcb
      obtain ⟨t2, N2, hG2, h⟩ := z_arr_ok h
      have he2 := z_ws_at (x := x) (ad := ad) hG2
      split at h
      · obtain ⟨⟨a1, a2, a3, a4, a5⟩, q⟩ := h
        have hk3 : ∃ j, j < 3 ∧ k = 2 * j + 2 ∧ ([1, 1, 2] : List Nat).getD j 0 = (z_cl k).length ∧ ([[42], [49], [44, 49]] : List (List Int32)).getD j [] = z_cl k ∧ ∀ i, fits .byte (.int ((z_cl k).getD i 0)) = true := by
          have fz : ∀ (l : List Int32), l.all (fun v => fits .byte (.int v)) = true → ∀ i, fits .byte (.int (l.getD i 0)) = true := by
            intro l hl i
            rw [List.getD_eq_getElem?_getD]
            cases hi : l[i]? with
            | none => rfl
            | some v => exact List.all_eq_true.mp hl v (List.mem_of_getElem? hi)
          unfold z_cb at hcb
          split at hcb
          · exact ⟨0, by decide, rfl, rfl, rfl, fz _ (by decide)⟩
          · exact ⟨1, by decide, rfl, rfl, rfl, fz _ (by decide)⟩
          · exact ⟨2, by decide, rfl, rfl, rfl, fz _ (by decide)⟩
          · cases hcb
        obtain ⟨j, hj, hkj, e1, e2, e3⟩ := hk3
        have hT := (hC.1.1 j hj).2.2.2
        rw [e1, e2] at hT
        have hcv : z_cv b ad (.retAddr k) = .ref (b (2 * j + 2)) := by rw [hkj]; rfl
        show W p l e R s m args below meth c H locs c1 c2 Q (F0 m pc ls (.int n :: .int dp :: .ref (ad o2) :: .int sp :: z_cv b ad (.retAddr k) :: r.map (z_cv b ad)))
        rw [hcv]
        refine vk_copyt hx hb (hml.trans hl.1.symm) hown (hts _ (hTT _ k1)) (hts _ (hTT _ k2)) (hts _ (hTT _ k3)) (hts _ (hTT _ k4)) hK.1 hP hD hS (f := fun i => (z_cl k).getD i 0) hT o2 2 he2 rfl a1 a2 a3 a4 a5 (fun i _ => e3 _) k5 hloc hd (fun H1 locs1 p1 p2 p3 => ?_)
        rw [fin o2 N2 _ hG2] at p1 p2
        exact hJ _ _ _ _ _ _ q h1 h2 h3 ad H1 locs1 ls hl p1 p2 p3 hG
      · exact h.elim
    · exact h.elim
  · exact h.elim
set_option maxHeartbeats 1000000 in
theorem z_clnk_ok (E : z_En p s m args meth c cc nL own Ts x b A0 M) (O : z_OK l own cc R M) (J : zJ) (hJ : ∀ pc al st w c1 c2, J pc al st w c1 c2 → z_JJ p l e R s m args below meth c Q x b A0 ad0 n0 nL pc al st w c1 c2) {i pc : Nat} {al : zAL} {av r : List Value} {w : zW} {c1 c2 : Nat} (h : z_clnk M J (pc + 3) al r w c1 c2 av) (hd : decode cc pc = .ok (.invokevirtual i, 3)) (hk : Cond.methodLink own i clB ∈ zTT ∧ Cond.sameMethod "[B" "java/lang/Object" "clone" "()Ljava/lang/Object;" ∈ zTT ∧ Cond.native clO ∈ zTT ∧ Cond.instanceMethod clO ∈ zTT ∧ Cond.selects "[B" clB clO ∈ zTT ∧ 1 ≤ R.frames ∧ 22 ≤ R.locals) (hcats : z_cats r ≤ 8) : z_JJ p l e R s m args below meth c Q x b A0 ad0 n0 nL pc al (av.reverse ++ r) w c1 c2 := by
  intro h1 h2 h3 ad H locs ls hl hP hD hS hG
  obtain ⟨⟨hx, hb, hml, hown, hts⟩, hTT, hK, hA, hI, hC, hX⟩ := id E
  obtain ⟨k1, k2, k3, k4, k5, k6, k7⟩ := hk
  have hW8 : ((r.map (z_cv b ad)).map fun v => v.category).sum ≤ 8 := by rw [z_cats_eq]; exact hcats
  unfold z_clnk at h
  split at h
  · rename_i o
    obtain ⟨t, N, hG1, h⟩ := z_arr_ok h
    have he := z_ws_at (x := x) (ad := ad) hG1
    split at h
    · obtain ⟨⟨r1, r2⟩, hwf, hfit, q⟩ := h
      rw [O.2.2.2.2.2.2.2.1] at r1
      rw [O.2.2.2.2.2.2.2.2.1] at r2
      simp only [Bool.and_eq_true] at hwf
      obtain ⟨wf1, wf2, wf3⟩ := hwf
      have q := z_psh_ok q
      rw [Nat.zero_add] at q
      refine va_clone (ad := "[B") (x := (N, .inl (w.2.1 o))) (ty := .byte) hx hb (hml.trans hl.1.symm) hown (hts _ (hTT _ k1)) (hts _ (hTT _ k2)) (hts _ (hTT _ k3)) (hts _ (hTT _ k4)) (hts _ (hTT _ k5)) hC.2.2.2.2.2 hK.1 hP hD hS hA o 2 he rfl (hK.1.2 2 (x.2.2.2.1, .byte) rfl).2 (fun i v hv => ?_) k6 (Nat.le_trans (Nat.add_le_add_right hW8 14) k7) r1 r2 hd (fun qn H1 hK1 a1 a2 a3 => ?_)
      · have hv : (arrV x.2.2.2.1 N (fun j => .int (w.2.1 o j))).slots[i]? = some v := hv
        have hi : i < N := by
          have := (Array.getElem?_eq_some_iff.mp hv).1
          rwa [arrV_size] at this
        rw [arrV_read _ _ hi] at hv
        cases hv
        exact hfit i hi
      · have hag : ∀ k, k < w.1.length → (fun k => if k = w.1.length then qn else ad k) k = ad k := fun k hk => if_neg (by omega)
        have hz0 : z_row w.2.1 w.1.length (w.2.1 o) w.1.length = w.2.1 o := by funext z; simp [z_row]
        have hpush := z_ws_push (x := x) (ad := ad) (ad' := fun k => if k = w.1.length then qn else ad k) (G := w.1) (wi := w.2.1) (wi' := z_row w.2.1 w.1.length (w.2.1 o)) (wl := w.2.2) (wl' := w.2.2) (q := qn) (sh := .inr (2, N)) (E := .inl (x.2.2.2.1, N, .inl (w.2.1 o))) wf3 hag (if_pos rfl) (fun o' ho => by funext i'; simp [z_row, Nat.ne_of_lt ho]) (fun _ _ => rfl) (by rw [hz0]; rfl)
        rw [hpush] at a1 a2
        have := hJ _ _ _ _ _ _ q r1 r2 (by show n0 ≤ (w.1 ++ [_]).length; rw [List.length_append]; omega) (fun k => if k = w.1.length then qn else ad k) H1 locs ls (hl.agree hag wf1) a1 a2 a3 ⟨fun k hk => (hag k (by omega)).trans (hG.1 k hk), fun hz => by omega⟩
        rw [List.map_cons, z_cvs_agree hag wf2] at this
        have e9 : z_cv b (fun k => if k = w.1.length then qn else ad k) (Value.ref w.1.length) = Value.ref qn := by show Value.ref (if w.1.length = w.1.length then qn else ad w.1.length) = Value.ref qn; rw [if_pos rfl]
        rw [e9] at this
        exact this
    · exact h.elim
  · exact h.elim
set_option maxHeartbeats 2000000 in
theorem z_call_ok (E : z_En p s m args meth c cc nL own Ts x b A0 M) (O : z_OK l own cc R M) (J : zJ) (hJ : ∀ pc al st w c1 c2, J pc al st w c1 c2 → z_JJ p l e R s m args below meth c Q x b A0 ad0 n0 nL pc al st w c1 c2) (ik i pc : Nat) (al : zAL) (st : List Value) (w : zW) (c1 c2 : Nat) (h : z_call M J ik i (pc + 3) al st w c1 c2) (hd : (ik = 0 ∧ decode cc pc = .ok (.invokestatic i, 3)) ∨ (ik = 1 ∧ decode cc pc = .ok (.invokevirtual i, 3)) ∨ (ik = 2 ∧ decode cc pc = .ok (.invokespecial i, 3))) : z_JJ p l e R s m args below meth c Q x b A0 ad0 n0 nL pc al st w c1 c2 := by
  unfold z_call at h
  split at h
  case h_2 => exact h.elim
  rename_i kd ci na mc ms sp e1
  obtain ⟨av, r, rfl, hna, h0⟩ := z_pop_ok h
  clear h
  rw [List.append_nil] at h0
  split at h0
  case h_2 => exact h0.elim
  rename_i hbo
  simp only [Bool.and_eq_true] at hbo
  obtain ⟨hkk, hcats, hrcv⟩ := hbo
  have hcats : z_cats r ≤ 8 := Nat.le_of_ble_eq_true hcats
  have hik := z_kk_spec hkk
  have hcok := O.2.2.1 _ (z_look_mem e1)
  rcases hcok with ⟨hkd, hk⟩ | ⟨hkd, hk⟩ | ⟨hkd, hscr, y, bytes, maxL, n, ret, rm, hCS, hmc, hms, hroom, hcode, hinit, hnames, k1, k2, k3⟩ | ⟨hkd, w1, w2, w3, w4, w5, w6⟩ | ⟨hkd, hkd7, hkd8, hkd9, y, bytes, maxL, n, ret, rm, hCS, hmc, hms, hroom, hcode, hinit, hnames, hkind⟩
  · dsimp only at hkd
    subst hkd
    have hd2 : decode cc pc = .ok (.invokestatic i, 3) := by rcases hd with ⟨-, q⟩ | ⟨q, -⟩ | ⟨q, -⟩ <;> first | exact q | omega
    exact z_cpyk_ok E J hJ h0 hd2 hk hcats
  · dsimp only at hkd
    subst hkd
    have hd2 : decode cc pc = .ok (.invokevirtual i, 3) := by rcases hd with ⟨q, -⟩ | ⟨-, q⟩ | ⟨q, -⟩ <;> first | exact q | omega
    exact z_clnk_ok E O J hJ h0 hd2 hk hcats
  all_goals
    intro h1 h2 h3 ad H locs ls hl hP hD hS hG
    obtain ⟨⟨hx, hb, hml, hown, hts⟩, hTT, hK, hA, hI, hC, hX⟩ := id E
    have hW8 : ((r.map (z_cv b ad)).map fun v => v.category).sum ≤ 8 := by rw [z_cats_eq]; exact hcats
  all_goals try
    -- what the call does, whatever its kind
    have hgo : z_cgo M J (pc + 3) al r w c1 c2 mc ms sp av → ∃ K, sp av w K ∧ (c1 + mc ≤ R.cells ∧ c2 + ms ≤ R.slots) ∧ ∀ (r' : Option Value) (w' : zW) (ad' : Nat → Nat) (H1 : Heap) (locs1 : List Loc), K r' w' → w.1.length ≤ w'.1.length → z_AG ad ad' w.1.length mc → va_P x.1 vwCl (z_ws x ad' w') H1 → va_D A0 (z_ws x ad' w') → va_S A0 s.heap H1 locs1 → W p l e R s m args below meth c H1 locs1 (c1 + mc) (c2 + ms) Q (F0 m (pc + 3) ls ((r'.map (z_cv b ad')).toList ++ r.map (z_cv b ad))) := by
      intro h
      unfold z_cgo at h
      match mc, h with
      | 0, h =>
        match ms, h with
        | _ + 1, h => exact h.elim
        | 0, h =>
          refine ⟨_, h, ⟨h1, h2⟩, fun r' w' ad' H1 locs1 hk hlen hag a1 a2 a3 => ?_⟩
          have := hag.2 rfl
          subst this
          match r', hk with
          | none, hk => exact hJ _ _ _ _ _ _ hk h1 h2 (by omega) _ H1 locs1 ls hl a1 a2 a3 hG
          | some v, hk => exact hJ _ _ _ _ _ _ hk h1 h2 (by omega) _ H1 locs1 ls hl a1 a2 a3 hG
      | mc' + 1, h =>
        obtain ⟨⟨r1, r2⟩, hwf, h⟩ := h
        rw [O.2.2.2.2.2.2.2.1] at r1
        rw [O.2.2.2.2.2.2.2.2.1] at r2
        simp only [Bool.and_eq_true] at hwf
        refine ⟨_, h, ⟨r1, r2⟩, fun r' w' ad' H1 locs1 hk hlen hag a1 a2 a3 => ?_⟩
        have hG' : z_AG ad0 ad' n0 R.cells := ⟨fun k hk => (hag.1 k (by omega)).trans (hG.1 k hk), fun hz => by omega⟩
        rw [← z_cvs_agree hag.1 hwf.2]
        match r', hk with
        | none, hk => exact hJ _ _ _ _ _ _ hk r1 r2 (by omega) ad' H1 locs1 ls (hl.agree hag.1 hwf.1) a1 a2 a3 hG'
        | some v, hk => exact hJ _ _ _ _ _ _ hk r1 r2 (by omega) ad' H1 locs1 ls (hl.agree hag.1 hwf.1) a1 a2 a3 hG'
  · -- a contract that stands on the script
    dsimp only at hkd hscr hCS hmc hms k1 k2
    subst hkd
    have hd2 : decode cc pc = .ok (.invokestatic i, 3) := by rcases hd with ⟨-, q⟩ | ⟨q, -⟩ | ⟨q, -⟩ <;> first | exact q | omega
    obtain ⟨K, hsp, hf, kk⟩ := hgo h0
    have hM := hCS x b ad av w K H.size hsp
    rw [hmc, hms] at hM
    obtain ⟨hX1, hX2, hX3⟩ := hX hscr
    have hpre : ∀ U : State, U.heap = H → s.WarmedH U.vm → z_Pcs x b ad av w H.size M.2.2.2.2.2.2.2.2.1.2.1 M.2.2.2.2.2.2.2.2.1.2.2 (av.map (z_cv b ad)).toArray U := fun U hU hWu => ⟨⟨rfl, by rw [hU], by rw [hU]; exact hP, hK.moved hWu, hD.weaken (fun _ _ _ _ => trivial), by rw [hU]; exact ((hC.kept hS.2.1).narrow (z_aw hD hS hA)).moved hWu⟩, by
      rw [hU]
      exact va_X.moved hWu.alike (va_X.kept hX1 (hS.2.1 _ hX2 hX3)), Nat.lt_of_lt_of_le hX2 hS.1, fun q => hX3 (z_aw hD hS hA _ q)⟩
    have hgw := z_good_ws (y := y) (bytes := bytes) (maxL := maxL) (ret := ret) hTT hcode
    refine z_after (va_runS (n := n) E.1 hM (va_cwS n hts (z_good_app hTT (fun w hw => ?_) hgw) rfl hmc hms hnames hroom) ⟨z_Pcs_blind, hpre⟩ rfl (by rw [List.length_map]; omega) hl.1 (by show (av.reverse ++ r).map (z_cv b ad) = _; simp) (lv_room hW8) hd2 hf) hD hS hA kk
    simp only [List.mem_cons, List.not_mem_nil, or_false] at hw
    rcases hw with rfl | rfl | rfl
    · exact k2
    · exact k3
    · exact hinit
  · dsimp only at hkd w6
    subst hkd
    have hik2 : ik = 2 := by omega
    subst hik2
    obtain ⟨o, as, rfl⟩ := z_rcv_ref (Or.inr (Or.inr rfl)) hrcv
    have has : as = [] := by
      rw [w6] at hna
      simpa using hna
    subst has
    have hd2 : decode cc pc = .ok (.invokespecial i, 3) := by
      rcases hd with ⟨q, -⟩ | ⟨q, -⟩ | ⟨-, q⟩
      · omega
      · omega
      · exact q
    refine W.objInit (g := F0 m pc ls _) (a := ad o) (rest := r.map (z_cv b ad)) hx hb hown (hts _ (hTT _ w1)) (hts _ (hTT _ w2)) (hts _ (hTT _ w3)) rfl (by rw [hml]; exact hl.1) rfl hd2 w4 ?_ ?_
    · show 2 * 0 + _ + 12 ≤ _
      omega
    · exact hJ _ _ _ _ _ _ h0 h1 h2 h3 ad H locs ls hl hP hD hS hG
  · dsimp only at hkd hkd7 hkd8 hkd9 hCS hmc hms hkind
    have h : z_cgo M J (pc + 3) al r w c1 c2 mc ms sp av := by
      match kd, hkd, hkd7, hkd9, h0 with
      | 0, _, _, _, h => exact h
      | 1, _, _, _, h => exact h
      | 2, _, _, _, h => exact h
      | 3, _, _, _, h => exact h
      | 4, _, _, _, h => exact h
      | 5, _, _, _, h => exact h
      | 6, hkd, _, _, _ => exact absurd rfl hkd
      | 7, _, hkd7, _, _ => exact absurd rfl hkd7
      | 8, _, _, _, h => exact h
      | 9, _, _, hkd9, _ => exact absurd rfl hkd9
      | _ + 10, _, _, _, h => exact h
    obtain ⟨K, hsp, hf, kk⟩ := hgo h
    have hM := hCS x b ad av w K H.size hsp
    rw [hmc, hms] at hM
    have hfree : ∀ {a : Array Value} {st0 : List Value}, va_Run p l e R s m args below meth c H locs c1 c2 mc ms (F0 m pc ls st0) (r.map (z_cv b ad)) (z_Qc x b ad w K H.size mc a) (z_A x ad w H.size) → W p l e R s m args below meth c H locs c1 c2 Q (F0 m pc ls st0) := fun hr => z_after hr hD hS hA kk
    have S : CallFix p m c cc nL s args Ts own := E.1
    have hpre : ∀ U : State, U.heap = H → s.WarmedH U.vm → z_Pc x b ad av w H.size (av.map (z_cv b ad)).toArray U := fun U hU hWu => ⟨rfl, by rw [hU], by rw [hU]; exact hP, hK.moved hWu, hD.weaken (fun _ _ _ _ => trivial), by rw [hU]; exact ((hC.kept hS.2.1).narrow (z_aw hD hS hA)).moved hWu⟩
    have hcats0 : 2 * (F0 m pc ls (((av.reverse ++ r)).map (z_cv b ad))).monitorRoom + ((r.map (z_cv b ad)).map fun v => v.category).sum ≤ 8 := lv_room hW8
    have hgw := z_good_ws (y := y) (bytes := bytes) (maxL := maxL) (ret := ret) hTT hcode
    have hst : ∀ {v : Value} {a : Nat} {as : List Value}, av = v :: as → z_cv b ad v = .ref a → ((av.reverse ++ r).map (z_cv b ad)) = (as.map (z_cv b ad)).reverse ++ .ref a :: r.map (z_cv b ad) := by
      intro v a as h h2
      subst h
      simp [h2]
    have hrecv : ∀ {C : String} {o : Nat} {fs : List (Option (Option Nat))}, w.1[o]? = some (.inl (ci, fs)) → (∃ v, vwCl[ci]? = some v ∧ v.1 = C) → ∃ cellB : Cell, H[ad o]? = some cellB ∧ cellB.vm.isStatics = false ∧ s.vm.findClass C = some cellB.cls := by
      rintro C o fs hw ⟨v, hv, hv2⟩
      have := va_recv hK.1 hP hv (z_ws_at (x := x) (ad := ad) hw)
      rw [hv2] at this
      exact this
    have hrecK : ∀ {C : String} {k : Nat}, k < 3 → ci = 10 → (∃ v, vwCl[ci]? = some v ∧ v.1 = C) → ∃ cellB : Cell, H[b (2 * k + 1)]? = some cellB ∧ cellB.vm.isStatics = false ∧ s.vm.findClass C = some cellB.cls := by
      rintro C k hk hc ⟨v, hv, hv2⟩
      subst hc
      have hv : some ((RJ0, TJ0, 4) : vw_C) = some v := hv
      cases hv
      subst hv2
      have := vk_recv (i := k) hC.1 hk hS
      exact this
    rcases hkind with ⟨k0, k1, k2, k3⟩ | ⟨k0, k1, ⟨host, k2⟩, k3⟩ | ⟨k0, k1, k4, k5, k2, k3⟩ | ⟨k0, k1, k4, k5, ⟨host, k2⟩, k3⟩ | ⟨k0, k1, k4, k2, k3, k5⟩ | ⟨k0, k1, k4, ⟨host, k2⟩, k3, k5⟩ | ⟨k0, k1, ⟨v, k4, k6⟩, k2, k5, k3⟩ | ⟨k0, k1, v, z, b0, m0, r0, k4, k6, k2, k5, k9, k3, k7, k8⟩ | ⟨k0, k1, ⟨v, k4⟩, k6, k2, k5, k7, k3⟩
    · have hd2 : decode cc pc = .ok (.invokestatic i, 3) := by rcases hd with ⟨-, q⟩ | ⟨q, -⟩ | ⟨q, -⟩ <;> first | exact q | omega
      refine hfree (va_runS (n := n) S hM (va_cwS n hts (z_good_app hTT (fun w hw => ?_) hgw) rfl hmc hms hnames hroom) ⟨z_Pc_blind, hpre⟩ rfl (by rw [List.length_map]; omega) hl.1 (by show (av.reverse ++ r).map (z_cv b ad) = _; simp) hcats0 hd2 hf)
      simp only [List.mem_cons, List.not_mem_nil, or_false] at hw
      rcases hw with rfl | rfl | rfl
      · exact k2
      · exact k3
      · exact hinit
    · have hd2 : decode cc pc = .ok (.invokestatic i, 3) := by rcases hd with ⟨-, q⟩ | ⟨q, -⟩ | ⟨q, -⟩ <;> first | exact q | omega
      exact hfree (va_runSN (n := n) S hM ⟨va_cnB n hts hgw rfl hmc hms (hK.2 _ k2) (hts _ (hTT _ hinit)) hnames hroom, hts _ (hTT _ k3), trivial⟩ ⟨z_Pc_blind, hpre⟩ rfl (by rw [List.length_map]; omega) hl.1 (by show (av.reverse ++ r).map (z_cv b ad) = _; simp) hcats0 hd2 hf)
    · have hd2 : decode cc pc = .ok (.invokespecial i, 3) := by rcases hd with ⟨q, -⟩ | ⟨q, -⟩ | ⟨-, q⟩ <;> first | exact q | omega
      obtain ⟨o, as, rfl⟩ := z_rcv_ref (Or.inl k0) hrcv
      subst k5
      exact hfree (va_runI (n := n) (As := as.map (z_cv b ad)) S hM (cwI n hts hgw rfl hmc hms (hts _ (hTT _ hinit)) (hts _ (hTT _ k2)) (hts _ (hTT _ k3)) k4 hnames hroom) ⟨z_Pc_blind, hpre⟩ rfl (by rw [List.length_map]; simp only [List.length_cons] at hna; omega) hl.1 (hst rfl rfl) hcats0 hd2 hf)
    · have hd2 : decode cc pc = .ok (.invokespecial i, 3) := by rcases hd with ⟨q, -⟩ | ⟨q, -⟩ | ⟨-, q⟩ <;> first | exact q | omega
      obtain ⟨o, as, rfl⟩ := z_rcv_ref (Or.inr (Or.inl k0)) hrcv
      subst k5
      exact hfree (va_runIN (n := n) (As := as.map (z_cv b ad)) S hM ⟨va_cnB n hts hgw rfl hmc hms (hK.2 _ k2) (hts _ (hTT _ hinit)) hnames hroom, k4, hts _ (hTT _ k3)⟩ ⟨z_Pc_blind, hpre⟩ rfl (by rw [List.length_map]; simp only [List.length_cons] at hna; omega) hl.1 (hst rfl rfl) hcats0 hd2 hf)
    · have hd2 : decode cc pc = .ok (.invokevirtual i, 3) := by rcases hd with ⟨q, -⟩ | ⟨-, q⟩ | ⟨q, -⟩ <;> first | exact q | omega
      subst k0
      have hcw := cwV (C := y.cls) n hts (z_good_app hTT (a := [.methodLink own i y, .instanceMethod y, .selects y.cls y y, .initialized y.cls]) (fun w hw => by
        simp only [List.mem_cons, List.not_mem_nil, or_false] at hw
        rcases hw with rfl | rfl | rfl | rfl
        · exact k2
        · exact k3
        · exact k5
        · exact hinit) hgw) rfl hmc hms ⟨rfl, hnames⟩ hroom
      rcases z_hdo_obj hrcv with ⟨o, as, fs, rfl, hw⟩ | ⟨k, as, rfl, hk3, hci⟩
      · exact hfree (va_runV (n := n) (C := y.cls) (As := as.map (z_cv b ad)) S hM hcw ⟨z_Pc_blind, hrecv hw k4, hpre⟩ rfl (by rw [List.length_map]; simp only [List.length_cons] at hna; omega) hl.1 (hst rfl rfl) hcats0 hd2 hf)
      · exact hfree (va_runV (n := n) (C := y.cls) (As := as.map (z_cv b ad)) S hM hcw ⟨z_Pc_blind, hrecK hk3 hci k4, hpre⟩ rfl (by rw [List.length_map]; simp only [List.length_cons] at hna; omega) hl.1 (hst rfl rfl) hcats0 hd2 hf)
    · have hd2 : decode cc pc = .ok (.invokevirtual i, 3) := by rcases hd with ⟨q, -⟩ | ⟨-, q⟩ | ⟨q, -⟩ <;> first | exact q | omega
      subst k0
      have hcw : va_CN R s args own i y host bytes maxL ret (Cond.code y bytes maxL ret :: zTT) rm mc ms n ∧ (Cond.instanceMethod y).before args s = true ∧ (Cond.selects y.cls y y).before args s = true := ⟨va_cnB n hts hgw rfl hmc hms (hK.2 _ k2) (hts _ (hTT _ hinit)) hnames hroom, hts _ (hTT _ k3), hts _ (hTT _ k5)⟩
      rcases z_hdo_obj hrcv with ⟨o, as, fs, rfl, hw⟩ | ⟨k, as, rfl, hk3, hci⟩
      · exact hfree (va_runVN (n := n) (C := y.cls) (As := as.map (z_cv b ad)) S hM hcw ⟨z_Pc_blind, hrecv hw k4, hpre⟩ rfl (by rw [List.length_map]; simp only [List.length_cons] at hna; omega) hl.1 (hst rfl rfl) hcats0 hd2 hf)
      · exact hfree (va_runVN (n := n) (C := y.cls) (As := as.map (z_cv b ad)) S hM hcw ⟨z_Pc_blind, hrecK hk3 hci k4, hpre⟩ rfl (by rw [List.length_map]; simp only [List.length_cons] at hna; omega) hl.1 (hst rfl rfl) hcats0 hd2 hf)
    · have hd2 : decode cc pc = .ok (.invokevirtual i, 3) := by rcases hd with ⟨q, -⟩ | ⟨-, q⟩ | ⟨q, -⟩ <;> first | exact q | omega
      subst k0
      have hcw := va_cwU (C := v.1) (owner := y.cls) (x := y) (y := y) (own := own) (index := i) n hts (z_good_app hTT (a := [.methodLink own i y, .sameMethod y.cls y.cls y.name y.desc, .selects v.1 y y, .instanceMethod y, .initialized y.cls]) (fun w hw => by
        simp only [List.mem_cons, List.not_mem_nil, or_false] at hw
        rcases hw with rfl | rfl | rfl | rfl | rfl
        · exact k2
        · exact k5
        · exact k6
        · exact k3
        · exact hinit) hgw) rfl hmc hms rfl hnames hroom
      rcases z_hdo_obj hrcv with ⟨o, as, fs, rfl, hw⟩ | ⟨k, as, rfl, hk3, hci⟩
      · exact hfree (va_runU (n := n) (As := as.map (z_cv b ad)) S hM hcw ⟨z_Pc_blind, hrecv hw ⟨v, k4, rfl⟩, hpre⟩ rfl (by rw [List.length_map]; simp only [List.length_cons] at hna; omega) hl.1 (hst rfl rfl) hcats0 hd2 hf)
      · exact hfree (va_runU (n := n) (As := as.map (z_cv b ad)) S hM hcw ⟨z_Pc_blind, hrecK hk3 hci ⟨v, k4, rfl⟩, hpre⟩ rfl (by rw [List.length_map]; simp only [List.length_cons] at hna; omega) hl.1 (hst rfl rfl) hcats0 hd2 hf)
    · have hd2 : decode cc pc = .ok (.invokevirtual i, 3) := by rcases hd with ⟨q, -⟩ | ⟨-, q⟩ | ⟨q, -⟩ <;> first | exact q | omega
      subst k0
      have hcw := va_cwO (C := v.1) (owner := z.cls) (x := z) (y := y) (own := own) (index := i) (b0 := b0) (m0 := m0) (r0 := r0) n hts (z_good_app hTT (a := [.methodLink own i z, .sameMethod z.cls z.cls z.name z.desc, .instanceMethod z, .selects v.1 z y, .instanceMethod y, .initialized y.cls]) (fun w hw => by
        simp only [List.mem_cons, List.not_mem_nil, or_false] at hw
        rcases hw with rfl | rfl | rfl | rfl | rfl | rfl
        · exact k2
        · exact k5
        · exact k9
        · exact k6
        · exact k3
        · exact hinit) hgw) rfl hmc hms (hTT _ k7) k8 hroom
      rcases z_hdo_obj hrcv with ⟨o, as, fs, rfl, hw⟩ | ⟨k, as, rfl, hk3, hci⟩
      · exact hfree (va_runU (n := n) (As := as.map (z_cv b ad)) S hM hcw ⟨z_Pc_blind, hrecv hw ⟨v, k4, rfl⟩, hpre⟩ rfl (by rw [List.length_map]; simp only [List.length_cons] at hna; omega) hl.1 (hst rfl rfl) hcats0 hd2 hf)
      · exact hfree (va_runU (n := n) (As := as.map (z_cv b ad)) S hM hcw ⟨z_Pc_blind, hrecK hk3 hci ⟨v, k4, rfl⟩, hpre⟩ rfl (by rw [List.length_map]; simp only [List.length_cons] at hna; omega) hl.1 (hst rfl rfl) hcats0 hd2 hf)
    · have hd2 : decode cc pc = .ok (.invokespecial i, 3) := by rcases hd with ⟨q, -⟩ | ⟨q, -⟩ | ⟨-, q⟩ <;> first | exact q | omega
      subst k0
      have hcw := va_cwSU (y := y) (own := own) (index := i) n hts (z_good_app hTT (a := [.methodLink own i y, .sameMethod y.cls y.cls y.name y.desc, .superclass own y.cls, .instanceMethod y, .initialized y.cls]) (fun w hw => by
        simp only [List.mem_cons, List.not_mem_nil, or_false] at hw
        rcases hw with rfl | rfl | rfl | rfl | rfl
        · exact k2
        · exact k5
        · exact k7
        · exact k3
        · exact hinit) hgw) rfl hmc hms ⟨k6, hnames.2.2⟩ hroom
      have hat := (hK.1.1 ci v k4).2
      rcases z_hdo_obj hrcv with ⟨o, as, fs, rfl, hw⟩ | ⟨k, as, rfl, hk3, hci⟩
      · exact hfree (va_runSU (n := n) (C := v.1) (As := as.map (z_cv b ad)) hat S hM hcw ⟨z_Pc_blind, hrecv hw ⟨v, k4, rfl⟩, hpre⟩ rfl (by rw [List.length_map]; simp only [List.length_cons] at hna; omega) hl.1 (hst rfl rfl) hcats0 hd2 hf)
      · exact hfree (va_runSU (n := n) (C := v.1) (As := as.map (z_cv b ad)) hat S hM hcw ⟨z_Pc_blind, hrecK hk3 hci ⟨v, k4, rfl⟩, hpre⟩ rfl (by rw [List.length_map]; simp only [List.length_cons] at hna; omega) hl.1 (hst rfl rfl) hcats0 hd2 hf)
/-- the walk from any row of the code on -/
theorem z_from_sub : ∀ (l : List zI) (pc : Nat), (∀ e ∈ z_from l pc, e ∈ l) ∧ ∀ e l', z_from l pc = e :: l' → e.1 = pc
  | [], pc => ⟨fun e h => h, fun e l' h => by cases h⟩
  | a :: l, pc => by
    obtain ⟨i1, i2⟩ := z_from_sub l pc
    unfold z_from
    cases h : Nat.beq a.1 pc with
    | true =>
      refine ⟨fun e he => he, fun e l' he => ?_⟩
      cases he
      exact Nat.eq_of_beq_eq_true h
    | false => exact ⟨fun e he => List.mem_cons_of_mem _ (i1 e he), i2⟩
theorem z_wp_ok (E : z_En p s m args meth c cc nL own Ts x b A0 M) (O : z_OK l own cc R M) (hR : z_Rt p l e R s m args below meth c Q x b A0 ad0 n0 cc M post) : ∀ (n : Nat) (cs : List zI) (pc : Nat) (al : zAL) (st : List Value) (w : zW) (c1 c2 : Nat), (∀ e ∈ cs, e ∈ M.1) → (∀ e l', cs = e :: l' → e.1 = pc) → z_wp M post (z_JJ p l e R s m args below meth c Q x b A0 ad0 n0 nL) n cs al st w c1 c2 → z_JJ p l e R s m args below meth c Q x b A0 ad0 n0 nL pc al st w c1 c2
  | 0, cs, pc, al, st, w, c1, c2, _, _, h => h.elim
  | n + 1, [], pc, al, st, w, c1, c2, _, _, h => h.elim
  | n + 1, (pc0, nx, tg, ins) :: cl, pc, al, st, w, c1, c2, hin, hpc, h => by
    have hpc0 : pc0 = pc := hpc _ _ rfl
    subst hpc0
    refine z_step_ok E O hR (z_call_ok E O) (J := fun pc' al' st' w' c1' c2' => z_nxt M (z_JJ p l e R s m args below meth c Q x b A0 ad0 n0 nL) (z_wp M post (z_JJ p l e R s m args below meth c Q x b A0 ad0 n0 nL) n) cl pc' al' st' w' c1' c2') (fun pc' al' st' w' c1' c2' hq => ?_) (O.1 _ (hin _ List.mem_cons_self)) h
    unfold z_nxt at hq
    have hfrom : z_wp M post (z_JJ p l e R s m args below meth c Q x b A0 ad0 n0 nL) n (z_from M.1 pc') al' st' w' c1' c2' → z_JJ p l e R s m args below meth c Q x b A0 ad0 n0 nL pc' al' st' w' c1' c2' := fun hq => z_wp_ok E O hR n _ pc' al' st' w' c1' c2' (z_from_sub M.1 pc').1 (z_from_sub M.1 pc').2 hq
    split at hq
    · obtain ⟨al2, q1, q2, q3⟩ := z_msk_ok _ _ _ hq
      intro g1 g2 g3 ad H locs ls hl
      exact q1 g1 g2 g3 ad H locs ls (hl.weaken q2 q3)
    · split at hq
      · rename_i e' l'
        split at hq
        · rename_i hbe
          refine z_wp_ok E O hR n _ pc' al' st' w' c1' c2' (fun e he => hin e (List.mem_cons_of_mem _ he)) (fun e l' he => ?_) hq
          cases he
          exact Nat.eq_of_beq_eq_true hbe
        · exact hfrom hq
      · exact hfrom hq
end ZC
/-! a method's contract out of its walk -/
def z_arl : List Value → Nat → zAL
  | [], n => List.replicate n none
  | .long a :: r, n => some (.long a) :: none :: z_arl r (n - 2)
  | .double a :: r, n => some (.double a) :: none :: z_arl r (n - 2)
  | v :: r, n => some v :: z_arl r (n - 1)
theorem z_arl_mem {b : Nat → Nat} {ad : Nat → Nat} : ∀ (vs : List Value) (n i k : Nat) (v : Value), (z_arl vs n)[k]? = some (some v) → (i + k, z_cv b ad v) ∈ lv_args i (vs.map (z_cv b ad))
  | [], n, i, k, v, h => by
    unfold z_arl at h
    rw [List.getElem?_replicate] at h
    split at h <;> simp at h
  | u :: r, n, i, k, v, h => by
    have two : ∀ (w1 : Value) (h2 : w1.category = 2), (some w1 :: none :: z_arl r (n - 2))[k]? = some (some v) → (i + k, z_cv b ad v) ∈ (i, z_cv b ad w1) :: lv_args (if (z_cv b ad w1).category = 2 then i + 2 else i + 1) (r.map (z_cv b ad)) := by
      intro w1 h2 h
      rw [z_cv_cat, if_pos h2]
      match k, h with
      | 0, h => simp only [List.getElem?_cons_zero, Option.some.injEq] at h; subst h; exact List.mem_cons_self
      | 1, h => simp at h
      | k + 2, h =>
        have := z_arl_mem (b := b) (ad := ad) r (n - 2) (i + 2) k v (by simpa using h)
        rw [show i + (k + 2) = i + 2 + k by omega]
        exact List.mem_cons_of_mem _ this
    have one : ∀ (w1 : Value) (h2 : w1.category = 1), (some w1 :: z_arl r (n - 1))[k]? = some (some v) → (i + k, z_cv b ad v) ∈ (i, z_cv b ad w1) :: lv_args (if (z_cv b ad w1).category = 2 then i + 2 else i + 1) (r.map (z_cv b ad)) := by
      intro w1 h2 h
      rw [z_cv_cat, if_neg (by omega)]
      match k, h with
      | 0, h => simp only [List.getElem?_cons_zero, Option.some.injEq] at h; subst h; exact List.mem_cons_self
      | k + 1, h =>
        have := z_arl_mem (b := b) (ad := ad) r (n - 1) (i + 1) k v (by simpa using h)
        rw [show i + (k + 1) = i + 1 + k by omega]
        exact List.mem_cons_of_mem _ this
    cases u with
    | long a => exact two _ rfl h
    | double a => exact two _ rfl h
    | int a => exact one _ rfl h
    | ref a => exact one _ rfl h
    | float a => exact one _ rfl h
    | null => exact one _ rfl h
    | retAddr a => exact one _ rfl h
def z_szs : List Value → Nat
  | [] => 0
  | v :: r => v.category + z_szs r
theorem z_szs_eq (b : Nat → Nat) (ad : Nat → Nat) : ∀ (vs : List Value), (lg_sl (vs.map (z_cv b ad))).length = z_szs vs
  | [] => rfl
  | v :: r => by
    have h := z_szs_eq b ad r
    have hc := z_cv_cat b ad v
    unfold lg_sl at h ⊢
    rw [List.map_cons, List.flatMap_cons, List.length_append, h]
    rcases lv_cat v with h1 | h1
    · rw [if_neg (by omega)]; show 1 + _ = v.category + _; omega
    · rw [if_pos (by omega)]; show 2 + _ = v.category + _; omega
theorem z_arl_len : ∀ (vs : List Value) (n : Nat), z_szs vs ≤ n → (z_arl vs n).length = n
  | [], n, _ => by simp [z_arl]
  | u :: r, n, h => by
    have two : 2 + z_szs r ≤ n → (z_arl r (n - 2)).length = n - 2 := fun h => z_arl_len r (n - 2) (by omega)
    have one : 1 + z_szs r ≤ n → (z_arl r (n - 1)).length = n - 1 := fun h => z_arl_len r (n - 1) (by omega)
    cases u with
    | long a => have := two h; show (_ :: _ :: z_arl r (n - 2)).length = n; simp only [List.length_cons]; have h' : 2 + z_szs r ≤ n := h; omega
    | double a => have := two h; show (_ :: _ :: z_arl r (n - 2)).length = n; simp only [List.length_cons]; have h' : 2 + z_szs r ≤ n := h; omega
    | int a => have := one h; show (_ :: z_arl r (n - 1)).length = n; simp only [List.length_cons]; have h' : 1 + z_szs r ≤ n := h; omega
    | ref a => have := one h; show (_ :: z_arl r (n - 1)).length = n; simp only [List.length_cons]; have h' : 1 + z_szs r ≤ n := h; omega
    | float a => have := one h; show (_ :: z_arl r (n - 1)).length = n; simp only [List.length_cons]; have h' : 1 + z_szs r ≤ n := h; omega
    | null => have := one h; show (_ :: z_arl r (n - 1)).length = n; simp only [List.length_cons]; have h' : 1 + z_szs r ≤ n := h; omega
    | retAddr a => have := one h; show (_ :: z_arl r (n - 1)).length = n; simp only [List.length_cons]; have h' : 1 + z_szs r ≤ n := h; omega
/-- what a method's walk must show: for any judgement at its cuts that the walk from there gives -/
def z_PO (M : zM) (nL : Nat) (post : Option Value → zW → Prop) (av : List Value) (w : zW) : Prop :=
  z_szs av ≤ nL ∧ ∀ Jm : zJ, (∀ (n pc : Nat) (al : zAL) (st : List Value) (w : zW) (c1 c2 : Nat), z_wp M post Jm n (z_from M.1 pc) al st w c1 c2 → Jm pc al st w c1 c2) → Jm 0 (z_arl av nL) [] w 0 0
def z_rcok (rc : Nat) (ret : Option FieldType) : Prop := (rc = 0 ∧ ret = none) ∨ (rc = 1 ∧ ret = some .int) ∨ (rc = 2 ∧ ret = some .boolean) ∨ (rc = 3 ∧ ret = some .long) ∨ (rc = 4 ∧ ∃ rt, ret = some rt ∧ ((∃ n, rt = .object n) ∨ ∃ t, rt = .array t)) ∨ (rc = 5 ∧ ret = some .byte) ∨ (rc = 6 ∧ ret = some .char)
/-- the end of a method, whatever it answers -/
theorem z_ends {p : Program} {l : Launch} {e : Env} {s : State} {m : MethodId} {args : Array Value} {below : List Frame} {meth : Method} {c : Code} {cc : ByteArray} {R : Room} {x : zX} {b : Nat → Nat} {A0 : Nat → Prop} {ad : Nat → Nat} {w : zW} {K : Option Value → zW → Prop} {rm : Room} {ret : Option FieldType} {M : zM} {sz : Nat} (hx : p.tables.exec = Jvm.exec) (hb : c.code = cc) (hr : meth.sig.returnType = ret) (hlocks : meth.locks = false) (hsz : s.heap.size = sz) (hA0 : A0 = z_A x ad w sz) (hR1 : R.cells = rm.cells) (hR2 : R.slots = rm.slots) (hrc : z_rcok M.2.2.2.2.2.2.1 ret) : z_Rt p l e R s m args below meth c (MQ below (z_Qc x b ad w K sz rm.cells) args s rm.cells rm.slots (z_A x ad w sz)) x b A0 ad w.1.length cc M K := by
  subst hA0
  intro r w' hk ad' H locs ls' pc c1 c2 g1 g2 g3 hP' hD' hS' hG' hend
  rw [hR1] at g1 hG'
  rw [hR2] at g2
  have hq : ∀ t : State, t.heap = H → s.WarmedH t.vm → z_Qc x b ad w K sz rm.cells args s (.returned (r.map (z_cv b ad'))) t := fun t ht _ => ⟨⟨r, w', ad', rfl, hk, g3, hG', by rw [ht]; exact hP', hD'⟩, hS'.F ht⟩
  refine W.widen (k := rm.cells) (n := rm.slots) g1 g2 ?_
  rcases hend with ⟨a, rfl, hd, hz⟩ | ⟨a, rfl, hd, hz⟩ | ⟨rfl, hd, hz⟩ | ⟨o, rfl, hd, hz⟩
  · rcases hrc with ⟨q1, q2⟩ | ⟨q1, q2⟩ | ⟨q1, q2⟩ | ⟨q1, q2⟩ | ⟨q1, q2⟩ | ⟨q1, q2⟩ | ⟨q1, q2⟩
    · rw [q1] at hz; exact hz.elim
    · exact W.iret hx hb (hr.trans q2) hq hS'.2.2 hd
    · rw [q1] at hz
      exact W.zret hx hb (hr.trans q2) (by rcases hz with rfl | rfl <;> rfl) hq hS'.2.2 hd
    · rw [q1] at hz; exact hz.elim
    · rw [q1] at hz; exact hz.elim
    · rw [q1] at hz
      exact W.zret hx hb (hr.trans q2) (congrArg Value.int hz) hq hS'.2.2 hd
    · rw [q1] at hz
      exact W.zret hx hb (hr.trans q2) (congrArg Value.int hz) hq hS'.2.2 hd
  · rcases hrc with ⟨q1, q2⟩ | ⟨q1, q2⟩ | ⟨q1, q2⟩ | ⟨q1, q2⟩ | ⟨q1, q2⟩ | ⟨q1, q2⟩ | ⟨q1, q2⟩
    · omega
    · omega
    · omega
    · exact W.lret hx hb (hr.trans q2) hq hS'.2.2 hd
    · omega
    · omega
    · omega
  · rcases hrc with ⟨q1, q2⟩ | ⟨q1, q2⟩ | ⟨q1, q2⟩ | ⟨q1, q2⟩ | ⟨q1, q2⟩ | ⟨q1, q2⟩ | ⟨q1, q2⟩
    · exact W.vret hx hb (hr.trans q2) hq hS'.2.2 hd
    · omega
    · omega
    · omega
    · omega
    · omega
    · omega
  · rcases hrc with ⟨q1, q2⟩ | ⟨q1, q2⟩ | ⟨q1, q2⟩ | ⟨q1, q2⟩ | ⟨q1, rt, q2, q3⟩ | ⟨q1, q2⟩ | ⟨q1, q2⟩
    · omega
    · omega
    · omega
    · omega
    · exact W.aret hx hb (hr.trans q2) q3 (Or.inr ⟨_, rfl⟩) hq hS'.2.2 hd
    · omega
    · omega
theorem z_meth {l : Launch} {y : MethodName} {cc : ByteArray} {nL : Nat} {ret : Option FieldType} {rm : Room} {sp : zSp} {M : zM} (hpl : plainName y.cls = true) (hrc : z_rcok M.2.2.2.2.2.2.1 ret) (hini : M.2.2.2.2.2.2.2.1 = true → y.name = "<init>") (hscr : M.2.2.2.2.2.2.2.2.1.1 = false) (O : z_OK l y.cls cc (headSpec (.code y cc nL ret :: zTT) rm).room M)
    (hPO : ∀ (av : List Value) (w : zW) (K : Option Value → zW → Prop), sp av w K → z_PO M nL K av w) : z_CS l y cc nL ret rm sp := by
  intro x b ad av w K sz hsp
  obtain ⟨hsz, hPO⟩ := hPO av w K hsp
  refine Met.ofW (cc := cc) (maxL := nL) (ret := ret) hpl rfl ?_
  intro p e s m args below meth c s₁ B hml hv
  obtain ⟨rfl, hsz2, hP, hK, hD0, hC⟩ := hv
  have hx := B.exec
  have hb := B.bytes
  have hr := B.returns
  have hts := atoms_spec (ws := .code y cc nL ret :: zTT) B.pre
  have hown : s.vm.findClass y.cls = some m.cls := findClass_of_methodNamed B.named
  have hlocks := B.notSynchronized
  have hname : meth.name = y.name := (name_of_methodNamed B.named B.method).1
  subst hsz2
  have hD : va_D (z_A x ad w s.heap.size) (z_ws x ad w) := hD0.self (sz := s.heap.size)
  have hA : ∀ q : Nat, s.heap.size ≤ q → z_A x ad w s.heap.size q := fun q h => Or.inr h
  have E : z_En p s m (av.map (z_cv b ad)).toArray meth c cc nL y.cls (.code y cc nL ret :: zTT) x b (z_A x ad w s.heap.size) M := ⟨⟨hx, hb, hml, hown, hts⟩, fun w hw => List.mem_cons_of_mem _ hw, hK, hA, fun h => hname.trans (hini h), hC, fun h => by rw [hscr] at h; cases h⟩
  have hl := lv_entry (av.map (z_cv b ad)) (n := nL) (by rw [z_szs_eq]; exact hsz)
  rw [lg_entry_eq]
  generalize (lg_sl (av.map (z_cv b ad)) ++ List.replicate (nL - (lg_sl (av.map (z_cv b ad))).length) Slot.unset).toArray = ls at hl ⊢
  have hLH : z_LH b ad ls nL (z_arl av nL) := ⟨hl.1, hl.2.1, Nat.le_of_eq (z_arl_len av nL hsz), fun i v q => by
    have := hl.2.2 _ (z_arl_mem (b := b) (ad := ad) av nL 0 i v q)
    simpa using this⟩
  have hR := z_ends (p := p) (l := l) (e := e) (s := s) (m := m) (args := (av.map (z_cv b ad)).toArray) (below := below) (R := (headSpec (.code y cc nL ret :: zTT) rm).room) (x := x) (b := b) (ad := ad) (w := w) (K := K) (rm := rm) (M := M) hx hb hr hlocks rfl rfl rfl rfl hrc
  have key := hPO (z_JJ p l e (headSpec (.code y cc nL ret :: zTT) rm).room s m (av.map (z_cv b ad)).toArray below meth c (MQ below (z_Qc x b ad w K s.heap.size rm.cells) (av.map (z_cv b ad)).toArray s rm.cells rm.slots (z_A x ad w s.heap.size)) x b (z_A x ad w s.heap.size) ad w.1.length nL)
    (fun n pc al st w' c1 c2 h => z_wp_ok E O hR n _ pc al st w' c1 c2 (z_from_sub M.1 pc).1 (z_from_sub M.1 pc).2 h)
  exact key (Nat.zero_le _) (Nat.zero_le _) (Nat.le_refl _) ad s.heap [] ls hLH hP hD va_S.rf ⟨fun _ _ => rfl, fun _ => rfl⟩
theorem z_methS {l : Launch} {y : MethodName} {cc : ByteArray} {nL L : Nat} {xs : Nat → Int32} {ret : Option FieldType} {rm : Room} {sp : zSp} {M : zM} (hpl : plainName y.cls = true) (hrc : z_rcok M.2.2.2.2.2.2.1 ret) (hini : M.2.2.2.2.2.2.2.1 = true → y.name = "<init>") (hscr : M.2.2.2.2.2.2.2.2.1 = (true, L, xs)) (O : z_OK l y.cls cc (headSpec (.code y cc nL ret :: zTT) rm).room M)
    (hPO : ∀ (av : List Value) (w : zW) (K : Option Value → zW → Prop), sp av w K → z_PO M nL K av w) : z_CSs l y cc nL ret rm L xs sp := by
  intro x b ad av w K sz hsp
  obtain ⟨hsz, hPO⟩ := hPO av w K hsp
  refine Met.ofW (cc := cc) (maxL := nL) (ret := ret) hpl rfl ?_
  intro p e s m args below meth c s₁ B hml hv
  obtain ⟨⟨rfl, hsz2, hP, hK, hD0, hC⟩, hX1, hX2, hX3⟩ := hv
  have hx := B.exec
  have hb := B.bytes
  have hr := B.returns
  have hts := atoms_spec (ws := .code y cc nL ret :: zTT) B.pre
  have hown : s.vm.findClass y.cls = some m.cls := findClass_of_methodNamed B.named
  have hlocks := B.notSynchronized
  have hname : meth.name = y.name := (name_of_methodNamed B.named B.method).1
  subst hsz2
  have hD : va_D (z_A x ad w s.heap.size) (z_ws x ad w) := hD0.self (sz := s.heap.size)
  have hA : ∀ q : Nat, s.heap.size ≤ q → z_A x ad w s.heap.size q := fun q h => Or.inr h
  have E : z_En p s m (av.map (z_cv b ad)).toArray meth c cc nL y.cls (.code y cc nL ret :: zTT) x b (z_A x ad w s.heap.size) M := ⟨⟨hx, hb, hml, hown, hts⟩, fun w hw => List.mem_cons_of_mem _ hw, hK, hA, fun h => hname.trans (hini h), hC, fun _ => by rw [hscr]; exact ⟨hX1, hX2, hX3⟩⟩
  have hl := lv_entry (av.map (z_cv b ad)) (n := nL) (by rw [z_szs_eq]; exact hsz)
  rw [lg_entry_eq]
  generalize (lg_sl (av.map (z_cv b ad)) ++ List.replicate (nL - (lg_sl (av.map (z_cv b ad))).length) Slot.unset).toArray = ls at hl ⊢
  have hLH : z_LH b ad ls nL (z_arl av nL) := ⟨hl.1, hl.2.1, Nat.le_of_eq (z_arl_len av nL hsz), fun i v q => by
    have := hl.2.2 _ (z_arl_mem (b := b) (ad := ad) av nL 0 i v q)
    simpa using this⟩
  have hR := z_ends (p := p) (l := l) (e := e) (s := s) (m := m) (args := (av.map (z_cv b ad)).toArray) (below := below) (R := (headSpec (.code y cc nL ret :: zTT) rm).room) (x := x) (b := b) (ad := ad) (w := w) (K := K) (rm := rm) (M := M) hx hb hr hlocks rfl rfl rfl rfl hrc
  have key := hPO (z_JJ p l e (headSpec (.code y cc nL ret :: zTT) rm).room s m (av.map (z_cv b ad)).toArray below meth c (MQ below (z_Qc x b ad w K s.heap.size rm.cells) (av.map (z_cv b ad)).toArray s rm.cells rm.slots (z_A x ad w s.heap.size)) x b (z_A x ad w s.heap.size) ad w.1.length nL)
    (fun n pc al st w' c1 c2 h => z_wp_ok E O hR n _ pc al st w' c1 c2 (z_from_sub M.1 pc).1 (z_from_sub M.1 pc).2 h)
  exact key (Nat.zero_le _) (Nat.zero_le _) (Nat.le_refl _) ad s.heap [] ls hLH hP hD va_S.rf ⟨fun _ _ => rfl, fun _ => rfl⟩
end
