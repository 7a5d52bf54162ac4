/-! the contract, and that the step is right -/
def z_isN (w : Cond) : Bool := match w with
  | .fieldLinkNest _ _ _ _ _ _ => true
  | .methodLinkNest _ _ _ _ => true
  | _ => false
theorem zNW_isN : ∀ w ∈ zNW, z_isN w = true := by
  have h : zNW.all z_isN = true := by decide +kernel
  exact fun w hw => List.all_eq_true.mp h w hw
def z_KK (x : zX) (U : State) : Prop := va_K x.1 vwCl (z_tys x) U ∧ ∀ w ∈ zNW, va_Nw w U
theorem z_KK.moved {x : zX} {s U : State} (h : z_KK x s) (hW : s.WarmedH U.vm) : z_KK x U := by
  refine ⟨va_K.moved hW.alike h.1, fun w hw => ?_⟩
  have h1 := zNW_isN w hw
  have h2 := h.2 w hw
  cases w <;> first | exact va_Nw.warmF hW h2 | exact va_Nw.warmM hW h2 | exact absurd h1 (by simp [z_isN])
theorem z_KK.same {x : zX} {u U : State} (h : z_KK x u) (hvm : u.vm = U.vm) : z_KK x U := by
  refine ⟨va_K.moved (by rw [hvm]; exact Vm.Alike.refl _) h.1, fun w hw => ?_⟩
  have h1 := zNW_isN w hw
  have h2 := h.2 w hw
  cases w <;> first | exact va_Nw.same rfl hvm h2 | exact absurd h1 (by simp [z_isN])
/-! the constants: Strings, their bytes, the digits' table; what the statics hold -/
def zCon (b : Nat → Nat) (A : Nat → Prop) (U : State) (H : Heap) : Prop :=
  vk_S 3 [1, 1, 2] [[42], [49], [44, 49]] (fun i => b (2 * i + 1)) (fun i => b (2 * i + 2)) A U H ∧ (vk_R RL 116 "*" (b 1) U ∧ vk_R RL 127 "1" (b 3) U ∧ vk_R RL 132 ",1" (b 5) U) ∧
  va_Z "java/lang/String" "COMPACT_STRINGS" "Z" (.int 1) A U H ∧ (va_Z "java/lang/Integer" "DigitOnes" "[B" (.ref (b 7)) A U H ∧ va_T .byte (b 7) 100 (fun j => .int (dOnes j)) A U H) ∧
  (va_Z "jdk/internal/util/Preconditions" "SIOOBE_FORMATTER" "Ljava/util/function/BiFunction;" .null A U H ∨ va_Z "jdk/internal/util/Preconditions" "SIOOBE_FORMATTER" "Ljava/util/function/BiFunction;" (.ref (b 8)) A U H) ∧ va_Nw (.castable "[B" "java/lang/Cloneable") U
theorem zCon.moved {b : Nat → Nat} {A : Nat → Prop} {s U : State} {H : Heap} (h : zCon b A s H) (hW : s.WarmedH U.vm) : zCon b A U H := by
  obtain ⟨h1, ⟨h2, h3, h4⟩, h5, ⟨h6, h7⟩, h8, h9⟩ := h
  exact ⟨h1.moved hW.alike, ⟨h2.warm hW, h3.warm hW, h4.warm hW⟩, h5.moved hW.alike, ⟨h6.moved hW.alike, h7.moved hW.alike⟩, h8.imp (fun h => h.moved hW.alike) (fun h => h.moved hW.alike), va_Nw.warmC hW h9⟩
theorem zCon.same {b : Nat → Nat} {A : Nat → Prop} {u U : State} {H : Heap} (h : zCon b A u H) (hvm : U.vm = u.vm) : zCon b A U H := by
  obtain ⟨h1, ⟨h2, h3, h4⟩, h5, ⟨h6, h7⟩, h8, h9⟩ := h
  have ha : u.vm.Alike U.vm := by rw [hvm]; exact Vm.Alike.refl _
  exact ⟨h1.moved ha, ⟨h2.same hvm, h3.same hvm, h4.same hvm⟩, h5.moved ha, ⟨h6.moved ha, h7.moved ha⟩, h8.imp (fun h => h.moved ha) (fun h => h.moved ha), va_Nw.same rfl hvm.symm h9⟩
theorem zCon.kept {b : Nat → Nat} {A : Nat → Prop} {U : State} {H H1 : Heap} (h : zCon b A U H) (hq : ∀ a : Nat, a < H.size → ¬ A a → H1[a]? = H[a]?) : zCon b A U H1 := by
  obtain ⟨h1, h2, h5, ⟨h6, h7⟩, h8, h9⟩ := h
  exact ⟨h1.kept hq, h2, h5.kept hq, ⟨h6.kept hq, h7.kept hq⟩, h8.imp (fun h => h.kept hq) (fun h => h.kept hq), h9⟩
theorem zCon.narrow {b : Nat → Nat} {A B : Nat → Prop} {U : State} {H : Heap} (h : zCon b A U H) (hAB : ∀ q, B q → A q) : zCon b B U H := by
  obtain ⟨h1, h2, h5, ⟨h6, h7⟩, h8, h9⟩ := h
  exact ⟨h1.narrow hAB, h2, h5.narrow hAB, ⟨h6.narrow hAB, h7.narrow hAB⟩, h8.imp (fun h => h.narrow hAB) (fun h => h.narrow hAB), h9⟩
def z_AG (ad0 ad : Nat → Nat) (n0 mc : Nat) : Prop := (∀ k, k < n0 → ad k = ad0 k) ∧ (mc = 0 → ad = ad0)
def z_A (x : zX) (ad : Nat → Nat) (w : zW) (sz : Nat) : Nat → Prop := va_A (z_ws x ad w) sz
def z_Pc (x : zX) (b : Nat → Nat) (ad : Nat → Nat) (av : List Value) (w : zW) (sz : Nat) : Array Value → State → Prop := va_Pc (av.map (z_cv b ad)) (fun U => U.heap.size = sz ∧ va_P x.1 vwCl (z_ws x ad w) U.heap ∧ z_KK x U ∧ va_D (fun _ => True) (z_ws x ad w) ∧ zCon b (z_A x ad w sz) U U.heap)
def z_Qc (x : zX) (b : Nat → Nat) (ad : Nat → Nat) (w : zW) (K : Option Value → zW → Prop) (sz mc : Nat) : Array Value → State → Outcome → State → Prop := fun _ st oc t => (∃ (r : Option Value) (w' : zW) (ad' : Nat → Nat), oc = .returned (r.map (z_cv b ad')) ∧ K r w' ∧ w.1.length ≤ w'.1.length ∧ z_AG ad ad' w.1.length mc ∧ va_P x.1 vwCl (z_ws x ad' w') t.heap ∧ va_D (z_A x ad w sz) (z_ws x ad' w')) ∧ va_F (z_A x ad w sz) st t
/-- the contract of a method: from each world of which sp says so, it ends in a world and with an answer of which K holds -/
def z_CS (l : Launch) (y : MethodName) (cc : ByteArray) (maxL : Nat) (ret : Option FieldType) (rm : Room) (sp : zSp) : Prop :=
  ∀ (x : zX) (b : Nat → Nat) (ad : Nat → Nat) (av : List Value) (w : zW) (K : Option Value → zW → Prop) (sz : Nat), sp av w K → Met l y (.code y cc maxL ret :: zTT) rm (z_Pc x b ad av w sz) (z_Qc x b ad w K sz rm.cells) rm.cells rm.slots (z_A x ad w sz)
def z_len (i : Instr) : Nat := match i with
  | .bipush _ => 2
  | .iload _ => 2
  | .lload _ => 2
  | .aload _ => 2
  | .istore _ => 2
  | .lstore _ => 2
  | .astore _ => 2
  | .newarray _ => 2
  | .ldc _ => 2
  | .getstatic _ => 3
  | .ifnonnull _ => 3
  | .checkcast _ => 3
  | .sipush _ => 3
  | .iinc _ _ => 3
  | .getfield _ => 3
  | .putfield _ => 3
  | .goto _ => 3
  | .ifCond _ _ => 3
  | .if_icmp _ _ => 3
  | .invokestatic _ => 3
  | .invokevirtual _ => 3
  | .invokespecial _ => 3
  | .ldc_w _ => 3
  | .ldc2_w _ => 3
  | .new _ => 3
  | _ => 1
def z_isw (i : Instr) : Bool := match i with
  | .tableswitch _ _ _ _ => true
  | _ => false
def z_cst (n : Int) (v : Int32) (tg : Nat) : Bool := match n with
  | .ofNat _ => decide (v = nI tg)
  | .negSucc _ => decide (v = mI tg)
def z_tb (pc tg : Nat) (i : Instr) : Bool := match i with
  | .goto o => decide ((pc : Int) + o = (tg : Int))
  | .ifCond _ o => decide ((pc : Int) + o = (tg : Int))
  | .if_icmp _ o => decide ((pc : Int) + o = (tg : Int))
  | .ifnonnull o => decide ((pc : Int) + o = (tg : Int))
  | .iconst n => z_cst n (Int32.ofInt n) tg
  | .bipush n => z_cst n (Int8.ofInt n).toInt32 tg
  | .sipush n => z_cst n (Int16.ofInt n).toInt32 tg
  | .lconst k => decide (Int64.ofNat (k : Nat) = lN tg)
  | .iinc _ n => z_cst n (Int32.ofInt n) tg
  | _ => true
def z_okb (cc : ByteArray) (e : zI) : Bool := match decode cc e.1 with
  | .ok (i, len) => decide (i = e.2.2.2) && (z_tb e.1 e.2.2.1 e.2.2.2 && (z_isw e.2.2.2 || (Nat.beq len (z_len e.2.2.2) && Nat.beq e.2.1 (e.1 + len))))
  | .error _ => false
theorem z_dec {cc : ByteArray} {pc nx tg : Nat} {ins : Instr} (h : z_okb cc (pc, nx, tg, ins) = true) (hw : z_isw ins = false) : decode cc pc = .ok (ins, z_len ins) ∧ nx = pc + z_len ins ∧ z_tb pc tg ins = true := by
  unfold z_okb at h
  dsimp only at h
  split at h
  · rename_i i len e
    rw [hw] at h
    simp only [Bool.and_eq_true, decide_eq_true_eq, Bool.false_or] at h
    obtain ⟨rfl, h2, h3, h4⟩ := h
    have e3 := Nat.eq_of_beq_eq_true h3
    have e4 := Nat.eq_of_beq_eq_true h4
    subst e3
    exact ⟨e, e4, h2⟩
  · cases h
theorem z_decw {cc : ByteArray} {pc nx tg : Nat} {ins : Instr} (h : z_okb cc (pc, nx, tg, ins) = true) : ∃ len, decode cc pc = .ok (ins, len) := by
  unfold z_okb at h
  dsimp only at h
  split at h
  · rename_i i len e
    simp only [Bool.and_eq_true, decide_eq_true_eq] at h
    obtain ⟨rfl, -⟩ := h
    exact ⟨len, e⟩
  · cases h
theorem z_cst_n {n : Nat} {v : Int32} {tg : Nat} (h : z_cst (.ofNat n) v tg = true) : v = nI tg := by simpa [z_cst] using h
theorem z_cst_m {n : Nat} {v : Int32} {tg : Nat} (h : z_cst (.negSucc n) v tg = true) : v = mI tg := by simpa [z_cst] using h
/-- what a table of fields must say -/
def z_fok (own : String) (q : Nat × Nat × Nat × Nat × Bool) : Prop := ∃ (C : String) (T : u_T) (N : Nat) (ty : Nat → FieldType), vwCl[q.2.1]? = some (C, T, N) ∧ q.2.2.1 < N ∧ (∀ w ∈ u_ws C T N, w ∈ zTT) ∧ (∀ k, k < N → parseFieldDescriptor (T k).2.2.1 = some (ty k)) ∧ (∀ a, a < N → ∀ b, b < N → a ≠ b → (T a).2.1 ≠ (T b).2.1) ∧
  ((q.2.2.2.2 = false ∧ Cond.fieldLink own q.1 (T q.2.2.1).1 (T q.2.2.1).2.1 (T q.2.2.1).2.2.1 ∈ zTT) ∨ (q.2.2.2.2 = true ∧ ∃ host, Cond.fieldLinkNest own q.1 (T q.2.2.1).1 (T q.2.2.1).2.1 (T q.2.2.1).2.2.1 host ∈ zNW)) ∧
  (q.2.2.2.1 = 0 → ty q.2.2.1 = .int ∧ (T q.2.2.1).2.2.2 = false) ∧ (q.2.2.2.1 = 1 → ty q.2.2.1 = .boolean ∧ (T q.2.2.1).2.2.2 = false) ∧ (q.2.2.2.1 = 2 → ((∃ n, ty q.2.2.1 = .object n) ∨ ∃ t, ty q.2.2.1 = .array t) ∧ (T q.2.2.1).2.2.2 = true ∧ (T q.2.2.1).1 = own ∧ q.2.2.2.2 = false) ∧ (q.2.2.2.1 = 4 → ty q.2.2.1 = .byte ∧ (T q.2.2.1).2.2.2 = false) ∧ (q.2.2.2.1 = 5 → ty q.2.2.1 = .byte ∧ (T q.2.2.1).2.2.2 = true ∧ (T q.2.2.1).1 = own ∧ q.2.2.2.2 = false) ∧ (q.2.2.2.1 = 6 → ((∃ n, ty q.2.2.1 = .object n) ∨ ∃ t, ty q.2.2.1 = .array t) ∧ (T q.2.2.1).2.2.2 = false)
/-- a contract that stands on the script, too -/
def z_Pcs (x : zX) (b : Nat → Nat) (ad : Nat → Nat) (av : List Value) (w : zW) (sz L : Nat) (xs : Nat → Int32) : Array Value → State → Prop := fun a U => z_Pc x b ad av w sz a U ∧ (va_X (b 0) L xs U U.heap ∧ b 0 < sz ∧ ¬ z_A x ad w sz (b 0))
def z_CSs (l : Launch) (y : MethodName) (cc : ByteArray) (maxL : Nat) (ret : Option FieldType) (rm : Room) (L : Nat) (xs : Nat → Int32) (sp : zSp) : Prop :=
  ∀ (x : zX) (b : Nat → Nat) (ad : Nat → Nat) (av : List Value) (w : zW) (K : Option Value → zW → Prop) (sz : Nat), sp av w K → Met l y (.code y cc maxL ret :: zTT) rm (z_Pcs x b ad av w sz L xs) (z_Qc x b ad w K sz rm.cells) rm.cells rm.slots (z_A x ad w sz)
abbrev acN : MethodName := arraycopyName
abbrev clB : MethodName := ⟨"[B", "clone", "()Ljava/lang/Object;"⟩
abbrev clO : MethodName := ⟨"java/lang/Object", "clone", "()Ljava/lang/Object;"⟩
def z_cok (l : Launch) (own : String) (R : Room) (scr : Bool × Nat × (Nat → Int32)) (q : zCall) : Prop :=
  (q.2.1 = 7 ∧ Cond.methodLink own q.1 acN ∈ zTT ∧ Cond.native acN ∈ zTT ∧ Cond.static acN ∈ zTT ∧ Cond.initialized "java/lang/System" ∈ zTT ∧ 1 ≤ R.frames ∧ 26 ≤ R.locals) ∨
  (q.2.1 = 9 ∧ Cond.methodLink own q.1 clB ∈ zTT ∧ Cond.sameMethod "[B" "java/lang/Object" "clone" "()Ljava/lang/Object;" ∈ zTT ∧ Cond.native clO ∈ zTT ∧ Cond.instanceMethod clO ∈ zTT ∧ Cond.selects "[B" clB clO ∈ zTT ∧ 1 ≤ R.frames ∧ 22 ≤ R.locals) ∨
  (q.2.1 = 8 ∧ scr.1 = true ∧ ∃ (y : MethodName) (bytes : ByteArray) (maxL n : Nat) (ret : Option FieldType) (rm : Room), z_CSs l y bytes maxL ret rm scr.2.1 scr.2.2 q.2.2.2.2.2.2 ∧ rm.cells = q.2.2.2.2.1 ∧ rm.slots = q.2.2.2.2.2.1 ∧ (rm.frames + 1 ≤ R.frames ∧ 8 + (maxL + 11) + rm.locals ≤ R.locals) ∧
    Cond.code y bytes maxL ret ∈ zTT ∧ Cond.initialized y.cls ∈ zTT ∧ (y.cls ≠ "java/lang/invoke/MethodHandle" ∧ y.cls ≠ "java/lang/invoke/VarHandle" ∧ (parseMethodDescriptor y.desc).map (fun d => d.parameters.length) = some n) ∧ q.2.2.2.1 = n ∧ Cond.methodLink own q.1 y ∈ zTT ∧ Cond.static y ∈ zTT) ∨
  (q.2.1 = 6 ∧ Cond.methodLink own q.1 objectInit ∈ zTT ∧ Cond.instanceMethod objectInit ∈ zTT ∧ Cond.code objectInit ⟨#[0xb1]⟩ 1 none ∈ zTT ∧ 1 ≤ R.frames ∧ 20 ≤ R.locals ∧ q.2.2.2.1 = 1) ∨
  (q.2.1 ≠ 6 ∧ q.2.1 ≠ 7 ∧ q.2.1 ≠ 8 ∧ q.2.1 ≠ 9 ∧ ∃ (y : MethodName) (bytes : ByteArray) (maxL n : Nat) (ret : Option FieldType) (rm : Room), z_CS l y bytes maxL ret rm q.2.2.2.2.2.2 ∧ rm.cells = q.2.2.2.2.1 ∧ rm.slots = q.2.2.2.2.2.1 ∧ (rm.frames + 1 ≤ R.frames ∧ 8 + (maxL + 11) + rm.locals ≤ R.locals) ∧
    Cond.code y bytes maxL ret ∈ zTT ∧ Cond.initialized y.cls ∈ zTT ∧ (y.cls ≠ "java/lang/invoke/MethodHandle" ∧ y.cls ≠ "java/lang/invoke/VarHandle" ∧ (parseMethodDescriptor y.desc).map (fun d => d.parameters.length) = some n) ∧
    ((q.2.1 = 0 ∧ q.2.2.2.1 = n ∧ Cond.methodLink own q.1 y ∈ zTT ∧ Cond.static y ∈ zTT) ∨
     (q.2.1 = 2 ∧ q.2.2.2.1 = n ∧ (∃ host, Cond.methodLinkNest own q.1 y host ∈ zNW) ∧ Cond.static y ∈ zTT) ∨
     (q.2.1 = 1 ∧ q.2.2.2.1 = n + 1 ∧ y.name = "<init>" ∧ ret = none ∧ Cond.methodLink own q.1 y ∈ zTT ∧ Cond.instanceMethod y ∈ zTT) ∨
     (q.2.1 = 3 ∧ q.2.2.2.1 = n + 1 ∧ y.name = "<init>" ∧ ret = none ∧ (∃ host, Cond.methodLinkNest own q.1 y host ∈ zNW) ∧ Cond.instanceMethod y ∈ zTT) ∨
     (q.2.1 = 4 ∧ q.2.2.2.1 = n + 1 ∧ (∃ v, vwCl[q.2.2.1]? = some v ∧ v.1 = y.cls) ∧ Cond.methodLink own q.1 y ∈ zTT ∧ Cond.instanceMethod y ∈ zTT ∧ Cond.selects y.cls y y ∈ zTT) ∨
     (q.2.1 = 5 ∧ q.2.2.2.1 = n + 1 ∧ (∃ v, vwCl[q.2.2.1]? = some v ∧ v.1 = y.cls) ∧ (∃ host, Cond.methodLinkNest own q.1 y host ∈ zNW) ∧ Cond.instanceMethod y ∈ zTT ∧ Cond.selects y.cls y y ∈ zTT) ∨
     (q.2.1 = 10 ∧ q.2.2.2.1 = n + 1 ∧ (∃ v, vwCl[q.2.2.1]? = some v ∧ Cond.selects v.1 y y ∈ zTT) ∧ Cond.methodLink own q.1 y ∈ zTT ∧ Cond.sameMethod y.cls y.cls y.name y.desc ∈ zTT ∧ Cond.instanceMethod y ∈ zTT) ∨
     (q.2.1 = 13 ∧ q.2.2.2.1 = n + 1 ∧ ∃ (v : vw_C) (z : MethodName) (b0 : ByteArray) (m0 : Nat) (r0 : Option FieldType), vwCl[q.2.2.1]? = some v ∧ Cond.selects v.1 z y ∈ zTT ∧ Cond.methodLink own q.1 z ∈ zTT ∧ Cond.sameMethod z.cls z.cls z.name z.desc ∈ zTT ∧ Cond.instanceMethod z ∈ zTT ∧ Cond.instanceMethod y ∈ zTT ∧ Cond.code z b0 m0 r0 ∈ zTT ∧ (z.cls ≠ "java/lang/invoke/MethodHandle" ∧ z.cls ≠ "java/lang/invoke/VarHandle" ∧ (parseMethodDescriptor z.desc).map (fun d => d.parameters.length) = some n)) ∨
     (q.2.1 = 11 ∧ q.2.2.2.1 = n + 1 ∧ (∃ v, vwCl[q.2.2.1]? = some v) ∧ y.name ≠ "<init>" ∧ Cond.methodLink own q.1 y ∈ zTT ∧ Cond.sameMethod y.cls y.cls y.name y.desc ∈ zTT ∧ Cond.superclass own y.cls ∈ zTT ∧ Cond.instanceMethod y ∈ zTT)))
def z_nok (own : String) (q : Nat × Nat × List (Option (Option Nat))) : Prop := ∃ (C : String) (T : u_T) (N : Nat) (ty : Nat → FieldType), vwCl[q.2.1]? = some (C, T, N) ∧ (∀ w ∈ u_ws C T N, w ∈ zTT) ∧ (∀ k, k < N → parseFieldDescriptor (T k).2.2.1 = some (ty k)) ∧ Cond.classLink own q.1 C ∈ zTT ∧ Cond.instantiable C N ∈ zTT ∧ Cond.initialized C ∈ zTT ∧ q.2.2.length = N ∧
  ∀ k, k < N → (q.2.2[k]? = some none ∧ (ty k = .int ∨ ty k = .boolean ∨ ty k = .byte)) ∨ (q.2.2[k]? = some (some none) ∧ ((∃ n, ty k = .object n) ∨ ∃ t, ty k = .array t))
def z_sokb (cc : ByteArray) (q : Nat × Int × Nat × List Nat) : Bool := match decode cc q.1 with
  | .ok (.tableswitch d lo hi offs, _) => decide (lo = q.2.1) && (decide (hi + 1 = lo + (q.2.2.2.length : Int)) && (decide ((q.1 : Int) + d = (q.2.2.1 : Int)) && decide (offs.toList.map (fun o => (q.1 : Int) + o) = q.2.2.2.map Int.ofNat)))
  | _ => false
/-- what the constants' table must say: statics, Strings, casts to an array of bytes -/
def z_kok (own : String) (q : Nat × Value) : Prop := match q.2 with
  | .int a => a = 1 ∧ Cond.fieldLink own q.1 "java/lang/String" "COMPACT_STRINGS" "Z" ∈ zTT
  | .retAddr 7 => Cond.fieldLink own q.1 "java/lang/Integer" "DigitOnes" "[B" ∈ zTT
  | .retAddr 1 => own = RL ∧ q.1 = 116
  | .retAddr 3 => own = RL ∧ q.1 = 127
  | .retAddr 5 => own = RL ∧ q.1 = 132
  | .long _ => Cond.fieldLink own q.1 "jdk/internal/util/Preconditions" "SIOOBE_FORMATTER" "Ljava/util/function/BiFunction;" ∈ zTT
  | .null => Cond.classLink own q.1 "[B" ∈ zTT
  | _ => False
def z_OK (l : Launch) (own : String) (cc : ByteArray) (R : Room) (M : zM) : Prop := (∀ e ∈ M.1, z_okb cc e = true) ∧ (∀ q ∈ M.2.1, z_fok own q) ∧ (∀ q ∈ M.2.2.1, z_cok l own R M.2.2.2.2.2.2.2.2.1 q) ∧ (∀ q ∈ M.2.2.2.1.1, Cond.constant own q.1 q.2 ∈ zTT) ∧ (∀ q ∈ M.2.2.2.1.2.1, Cond.constantLong own q.1 q.2 ∈ zTT) ∧ (∀ q ∈ M.2.2.2.1.2.2, z_nok own q) ∧ (∀ q ∈ M.2.2.2.2.1, z_sokb cc q = true) ∧ M.2.2.2.2.2.2.2.2.2.1 = R.cells ∧ M.2.2.2.2.2.2.2.2.2.2.1 = R.slots ∧ ∀ q ∈ M.2.2.2.2.2.2.2.2.2.2.2, z_kok own q
/-! what the forms of the step give -/
theorem z_i1_ok {st : List Value} {k : Int32 → List Value → Prop} (h : z_i1 st k) : ∃ a r, st = .int a :: r ∧ k a r := by
  unfold z_i1 at h
  split at h
  · exact ⟨_, _, rfl, h⟩
  · exact h.elim
theorem z_l1_ok {st : List Value} {k : Int64 → List Value → Prop} (h : z_l1 st k) : ∃ a r, st = .long a :: r ∧ k a r := by
  unfold z_l1 at h
  split at h
  · exact ⟨_, _, rfl, h⟩
  · exact h.elim
theorem z_i2_ok {st : List Value} {k : Int32 → Int32 → List Value → Prop} (h : z_i2 st k) : ∃ a y r, st = .int y :: .int a :: r ∧ k a y r := by
  unfold z_i2 at h
  split at h
  · exact ⟨_, _, _, rfl, h⟩
  · exact h.elim
theorem z_l2_ok {st : List Value} {k : Int64 → Int64 → List Value → Prop} (h : z_l2 st k) : ∃ a y r, st = .long y :: .long a :: r ∧ k a y r := by
  unfold z_l2 at h
  split at h
  · exact ⟨_, _, _, rfl, h⟩
  · exact h.elim
theorem z_li_ok {st : List Value} {k : Int64 → Int32 → List Value → Prop} (h : z_li st k) : ∃ a y r, st = .int y :: .long a :: r ∧ k a y r := by
  unfold z_li at h
  split at h
  · exact ⟨_, _, _, rfl, h⟩
  · exact h.elim
theorem z_ldi_ok {al : zAL} {i : Nat} {k : Int32 → Prop} (h : z_ldi al i k) : ∃ a, z_nth al i = some (some (.int a)) ∧ k a := by
  unfold z_ldi at h
  split at h
  · rename_i e; exact ⟨_, e, h⟩
  · exact h.elim
theorem z_ldl_ok {al : zAL} {i : Nat} {k : Int64 → Prop} (h : z_ldl al i k) : ∃ a, z_nth al i = some (some (.long a)) ∧ k a := by
  unfold z_ldl at h
  split at h
  · rename_i e; exact ⟨_, e, h⟩
  · exact h.elim
theorem z_lda_ok {b : Nat → Nat} {ad : Nat → Nat} {al : zAL} {i : Nat} {k : Value → Prop} (h : z_lda al i k) : ∃ v, z_nth al i = some (some v) ∧ ((∃ q, z_cv b ad v = .ref q) ∨ z_cv b ad v = .null) ∧ k v := by
  unfold z_lda at h
  split at h
  · rename_i e; exact ⟨_, e, Or.inl ⟨_, rfl⟩, h⟩
  · rename_i e; exact ⟨_, e, Or.inl ⟨_, rfl⟩, h⟩
  · rename_i e; exact ⟨_, e, Or.inl ⟨_, rfl⟩, h⟩
  · rename_i e; exact ⟨_, e, Or.inr rfl, h⟩
  · exact h.elim
theorem z_st1_ok {al : zAL} {i : Nat} {v : Value} {k : zAL → Prop} (h : z_st1 al i v k) : i < al.length ∧ k (z_set (z_kill al i) i (some v)) := by
  unfold z_st1 at h
  split at h
  · rename_i e
    rw [z_killk_eq, z_setk_eq] at h
    rw [z_nth_eq] at e
    exact ⟨(List.getElem?_eq_some_iff.mp e).1, h⟩
  · exact h.elim
theorem z_st2_ok {al : zAL} {i : Nat} {v : Value} {k : zAL → Prop} (h : z_st2 al i v k) : i + 1 < al.length ∧ k (z_set (z_set (z_kill al i) i (some v)) (i + 1) none) := by
  unfold z_st2 at h
  split at h
  · rename_i e
    rw [z_killk_eq, z_setk_eq, z_setk_eq] at h
    rw [z_nth_eq] at e
    exact ⟨(List.getElem?_eq_some_iff.mp e).1, h⟩
  · exact h.elim
theorem z_sti_ok {al : zAL} {i : Nat} {st : List Value} {k : zAL → List Value → Prop} (h : z_sti al i st k) : ∃ a r, st = .int a :: r ∧ i < al.length ∧ k (z_set (z_kill al i) i (some (.int a))) r := by
  unfold z_sti at h
  split at h
  · exact ⟨_, _, rfl, z_st1_ok h⟩
  · exact h.elim
theorem z_stl_ok {al : zAL} {i : Nat} {st : List Value} {k : zAL → List Value → Prop} (h : z_stl al i st k) : ∃ a r, st = .long a :: r ∧ i + 1 < al.length ∧ k (z_set (z_set (z_kill al i) i (some (.long a))) (i + 1) none) r := by
  unfold z_stl at h
  split at h
  · exact ⟨_, _, rfl, z_st2_ok h⟩
  · exact h.elim
theorem z_sta_ok {al : zAL} {i : Nat} {st : List Value} {k : zAL → List Value → Prop} (h : z_sta al i st k) : ∃ a r, st = .ref a :: r ∧ i < al.length ∧ k (z_set (z_kill al i) i (some (.ref a))) r := by
  unfold z_sta at h
  split at h
  · exact ⟨_, _, rfl, z_st1_ok h⟩
  · exact h.elim
theorem z_one_ok {v : Value} {k : Prop} (h : z_one v k) : v.category = 1 ∧ k := by
  unfold z_one at h
  split at h <;> first | exact ⟨rfl, h⟩ | exact h.elim
theorem z_fld_ok {M : zM} {i : Nat} {w : zW} {o : Nat} {k : Nat → Nat → List (Option (Option Nat)) → Nat → Option (Option Nat) → Prop} (h : z_fld M i w o k) : ∃ ci j tc nest fs f, (i, ci, j, tc, nest) ∈ M.2.1 ∧ w.1[o]? = some (.inl (ci, fs)) ∧ fs[j]? = some f ∧ k tc ci fs j f := by
  unfold z_fld at h
  split at h
  · rename_i ci j tc nest e1
    split at h
    · rename_i ci' fs e2
      split at h
      · rename_i e3
        split at h
        · rename_i f e4
          have := Nat.eq_of_beq_eq_true e3
          subst this
          exact ⟨_, j, tc, nest, fs, f, z_look_mem e1, by rw [← z_nth_eq]; exact e2, by rw [← z_nth_eq]; exact e4, h⟩
        · exact h.elim
      · exact h.elim
    · exact h.elim
  · exact h.elim
theorem z_arr_ok {w : zW} {o : Nat} {k : Nat → Nat → Prop} (h : z_arr w o k) : ∃ t n, w.1[o]? = some (.inr (t, n)) ∧ k t n := by
  unfold z_arr at h
  split at h
  · rename_i t n e; exact ⟨t, n, by rw [← z_nth_eq]; exact e, h⟩
  · exact h.elim
theorem z_gset_ok : ∀ {G : List zSh} {o j r q : Nat} {k : List zSh → Prop}, z_gset G o j r q k → ∃ ci fs, G[o]? = some (.inl (ci, fs)) ∧ k (G.set o (.inl (ci, fs.set j (some (some r)))))
  | .inl (ci, fs) :: l, 0, j, r, q, k, h => ⟨ci, fs, by simp, by simpa [z_gset] using h⟩
  | .inr y :: l, 0, j, r, q, k, h => by simp [z_gset] at h
  | a :: l, n + 1, j, r, q, k, h => by
    have h' : z_gset l n j r q (fun l' => k (a :: l')) := by
      cases a with
      | inl y => simpa [z_gset] using h
      | inr y => simpa [z_gset] using h
    obtain ⟨ci, fs, h1, h2⟩ := z_gset_ok h'
    exact ⟨ci, fs, by simpa using h1, by simpa using h2⟩
  | [], o, j, r, q, k, h => by cases o <;> simp [z_gset] at h
theorem z_psh_ok : ∀ {G : List zSh} {sh : zSh} {n : Nat} {k : List zSh → Nat → Prop}, z_psh G sh n k → k (G ++ [sh]) (n + G.length)
  | [], sh, n, k, h => h
  | a :: l, sh, n, k, h => by
    have := z_psh_ok (G := l) (n := n + 1) (k := fun l' m => k (a :: l') m) h
    rw [List.length_cons, show n + (l.length + 1) = n + 1 + l.length by omega]
    exact this
theorem z_pop_ok : ∀ {n : Nat} {st acc : List Value} {k : List Value → List Value → Prop}, z_pop n st acc k → ∃ av r, st = av.reverse ++ r ∧ av.length = n ∧ k (av ++ acc) r
  | 0, st, acc, k, h => ⟨[], st, rfl, rfl, h⟩
  | n + 1, v :: st, acc, k, h => by
    obtain ⟨av, r, h1, h2, h3⟩ := z_pop_ok (n := n) (st := st) (acc := v :: acc) h
    refine ⟨av ++ [v], r, by simp [h1], by simp [h2], by simpa using h3⟩
  | _ + 1, [], _, _, h => h.elim
theorem z_cats_eq (b : Nat → Nat) (ad : Nat → Nat) : ∀ (st : List Value), ((st.map (z_cv b ad)).map fun v => v.category).sum = z_cats st
  | [] => rfl
  | v :: r => by
    rw [List.map_cons, List.map_cons, List.sum_cons, z_cats_eq b ad r, z_cv_cat]
    rfl
theorem z_cv_agree {b : Nat → Nat} {n : Nat} {ad ad' : Nat → Nat} (h : ∀ k, k < n → ad' k = ad k) {v : Value} (hv : z_rlt n v = true) : z_cv b ad' v = z_cv b ad v := by
  cases v <;> first | rfl | skip
  rename_i a
  show Value.ref (ad' a) = Value.ref (ad a)
  rw [h a (by simpa [z_rlt, Nat.blt_eq] using hv)]
theorem z_cvs_agree {b : Nat → Nat} {n : Nat} {ad ad' : Nat → Nat} (h : ∀ k, k < n → ad' k = ad k) {st : List Value} (hv : z_wfs n st = true) : st.map (z_cv b ad') = st.map (z_cv b ad) :=
  List.map_congr_left fun v hm => z_cv_agree h (List.all_eq_true.mp hv v hm)
theorem z_LH.agree {b : Nat → Nat} {n : Nat} {ad ad' : Nat → Nat} (h : ∀ k, k < n → ad' k = ad k) {ls : Array Slot} {nL : Nat} {al : zAL} (hl : z_LH b ad ls nL al) (hv : z_wfl n al = true) : z_LH b ad' ls nL al := by
  refine ⟨hl.1, hl.2.1, hl.2.2.1, fun i v q => ?_⟩
  rw [z_cv_agree h (by have := List.all_eq_true.mp hv (some v) (List.mem_of_getElem? q); simpa using this)]
  exact hl.2.2.2 i v q
theorem z_fv_agree {n : Nat} {ad ad' : Nat → Nat} (h : ∀ k, k < n → ad' k = ad k) {wi : Nat → Int32} {fs : List (Option (Option Nat))} (hf : fs.all (fun f => match f with
    | some (some r) => Nat.blt r n
    | _ => true) = true) : fs.mapIdx (fun k f => z_fv ad' wi k f) = fs.mapIdx (fun k f => z_fv ad wi k f) := by
  apply List.ext_getElem?
  intro j
  rw [List.getElem?_mapIdx, List.getElem?_mapIdx]
  cases hj : fs[j]? with
  | none => rfl
  | some f =>
    have h1 := List.all_eq_true.mp hf f (List.mem_of_getElem? hj)
    cases f with
    | none => rfl
    | some r => cases r with
      | none => rfl
      | some r =>
        show some (Value.ref (ad' r)) = some (Value.ref (ad r))
        rw [h r (by simpa [Nat.blt_eq] using h1)]
theorem z_ws_push {x : zX} {ad ad' : Nat → Nat} {G : List zSh} {wi wi' : Nat → Nat → Int32} {wl wl' : Nat → Nat → Int64} {q : Nat} {sh : zSh} {E : va_E} (hg : z_wfg G.length G = true) (ha : ∀ k, k < G.length → ad' k = ad k) (hq : ad' G.length = q) (hi : ∀ o, o < G.length → wi' o = wi o) (hl : ∀ o, o < G.length → wl' o = wl o) (he : z_ce x ad' (wi' G.length) (wl' G.length) sh = E) : z_ws x ad (G, wi, wl) ++ [(q, E)] = z_ws x ad' (G ++ [sh], wi', wl') := by
  apply List.ext_getElem?
  intro k
  have hlen : (z_ws x ad (G, wi, wl)).length = G.length := by simp [z_ws]
  by_cases hk : k < G.length
  · rw [List.getElem?_append_left (by rw [hlen]; exact hk)]
    have hs : G[k]? = some G[k] := List.getElem?_eq_getElem hk
    rw [z_ws_at (w := (G, wi, wl)) hs, z_ws_at (w := (G ++ [sh], wi', wl')) (sh := G[k]) (by show (G ++ [sh])[k]? = _; rw [List.getElem?_append_left hk]; exact hs)]
    dsimp only
    rw [ha k hk, hi k hk, hl k hk]
    have h1 := List.all_eq_true.mp hg G[k] (List.getElem_mem hk)
    congr 2
    revert h1
    cases G[k] with
    | inl y =>
      intro h1
      show Sum.inr (y.1, _) = Sum.inr (y.1, _)
      rw [z_fv_agree ha h1]
    | inr y =>
      intro _
      obtain ⟨t, n⟩ := y
      match t with
      | 0 => rfl
      | 1 => rfl
      | 2 => rfl
      | _ + 3 => rfl
  · by_cases hk2 : k = G.length
    · subst hk2
      rw [List.getElem?_append_right (by rw [hlen]; exact Nat.le_refl _), hlen, Nat.sub_self, z_ws_at (w := (G ++ [sh], wi', wl')) (sh := sh) (by show (G ++ [sh])[G.length]? = _; simp)]
      dsimp only
      rw [hq, he]
      rfl
    · rw [List.getElem?_eq_none (by simp [hlen]; omega), List.getElem?_eq_none (by simp [z_ws]; omega)]
theorem z_nIz {a : Int32} : a = nI 0 ↔ a = 0 := by rw [nI_0]
theorem z_ge {a y : Int32} (h : y ≤ a) : ¬ a < y := Int32.not_lt.mpr h
theorem z_nge {a y : Int32} (h : ¬ y ≤ a) : a < y := Int32.not_le.mp h
theorem z_psh_eq : ∀ (G : List zSh) (sh : zSh) (n : Nat) (k : List zSh → Nat → Prop), z_psh G sh n k = k (G ++ [sh]) (n + G.length)
  | [], _, _, _ => rfl
  | a :: l, sh, n, k => by
    show z_psh l sh (n + 1) (fun l' m => k (a :: l') m) = _
    rw [z_psh_eq l sh (n + 1), List.length_cons, show n + 1 + l.length = n + (l.length + 1) by omega]
    rfl
theorem z_gset_eq : ∀ {G : List zSh} {o : Nat} (j r q : Nat) (k : List zSh → Prop) {ci : Nat} {fs : List (Option (Option Nat))}, z_nth G o = some (.inl (ci, fs)) → z_gset G o j r q k = k (G.set o (.inl (ci, fs.set j (some (some r)))))
  | [], _, _, _, _, _, _, _, h => by cases h
  | .inl (c, f) :: l, 0, j, r, q, k, ci, fs, h => by
    simp only [z_nth, Option.some.injEq, Sum.inl.injEq, Prod.mk.injEq] at h
    obtain ⟨rfl, rfl⟩ := h
    rfl
  | .inr y :: l, 0, j, r, q, k, ci, fs, h => by
    simp [z_nth] at h
  | a :: l, n + 1, j, r, q, k, ci, fs, h => by
    have ih := z_gset_eq (G := l) (o := n) j r q (fun l' => k (a :: l')) h
    have e : z_gset (a :: l) (n + 1) j r q k = z_gset l n j r q (fun l' => k (a :: l')) := by
      cases a <;> rfl
    rw [e, ih]
    rfl
