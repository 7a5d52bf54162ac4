/-- what the tables say of a method -/
def z_mb (y : MethodName) (bytes : ByteArray) (maxL : Nat) (ret : Option FieldType) (n : Nat) : Prop := Cond.code y bytes maxL ret ∈ zTT ∧ Cond.initialized y.cls ∈ zTT ∧ (y.cls ≠ "java/lang/invoke/MethodHandle" ∧ y.cls ≠ "java/lang/invoke/VarHandle" ∧ (parseMethodDescriptor y.desc).map (fun d => d.parameters.length) = some n)
section
variable {l : Launch} {own : String} {R rm : Room} {y : MethodName} {bytes : ByteArray} {maxL n i ci : Nat} {ret : Option FieldType} {sp : zSp}
theorem z_ca0 (h : z_CS l y bytes maxL ret rm sp) (mb : z_mb y bytes maxL ret n) (hl : Cond.methodLink own i y ∈ zTT) (hs : Cond.static y ∈ zTT) (hr : rm.frames + 1 ≤ R.frames ∧ 8 + (maxL + 11) + rm.locals ≤ R.locals) : z_cok l own R (i, 0, ci, n, rm.cells, rm.slots, sp) :=
  Or.inr ⟨fun h => absurd (show (0 : Nat) = 6 from h) (by decide), y, bytes, maxL, n, ret, rm, h, rfl, rfl, hr, mb.1, mb.2.1, mb.2.2, Or.inl ⟨rfl, rfl, hl, hs⟩⟩
theorem z_ca2 {host : String} (h : z_CS l y bytes maxL ret rm sp) (mb : z_mb y bytes maxL ret n) (hl : Cond.methodLinkNest own i y host ∈ zNW) (hs : Cond.static y ∈ zTT) (hr : rm.frames + 1 ≤ R.frames ∧ 8 + (maxL + 11) + rm.locals ≤ R.locals) : z_cok l own R (i, 2, ci, n, rm.cells, rm.slots, sp) :=
  Or.inr ⟨fun h => absurd (show (2 : Nat) = 6 from h) (by decide), y, bytes, maxL, n, ret, rm, h, rfl, rfl, hr, mb.1, mb.2.1, mb.2.2, Or.inr (Or.inl ⟨rfl, rfl, ⟨host, hl⟩, hs⟩)⟩
theorem z_ca1 (h : z_CS l y bytes maxL none rm sp) (mb : z_mb y bytes maxL none n) (hl : Cond.methodLink own i y ∈ zTT) (hs : Cond.instanceMethod y ∈ zTT) (hn : y.name = "<init>") (hr : rm.frames + 1 ≤ R.frames ∧ 8 + (maxL + 11) + rm.locals ≤ R.locals) : z_cok l own R (i, 1, ci, n + 1, rm.cells, rm.slots, sp) :=
  Or.inr ⟨fun h => absurd (show (1 : Nat) = 6 from h) (by decide), y, bytes, maxL, n, none, rm, h, rfl, rfl, hr, mb.1, mb.2.1, mb.2.2, Or.inr (Or.inr (Or.inl ⟨rfl, rfl, hn, rfl, hl, hs⟩))⟩
theorem z_ca3 {host : String} (h : z_CS l y bytes maxL none rm sp) (mb : z_mb y bytes maxL none n) (hl : Cond.methodLinkNest own i y host ∈ zNW) (hs : Cond.instanceMethod y ∈ zTT) (hn : y.name = "<init>") (hr : rm.frames + 1 ≤ R.frames ∧ 8 + (maxL + 11) + rm.locals ≤ R.locals) : z_cok l own R (i, 3, ci, n + 1, rm.cells, rm.slots, sp) :=
  Or.inr ⟨fun h => absurd (show (3 : Nat) = 6 from h) (by decide), y, bytes, maxL, n, none, rm, h, rfl, rfl, hr, mb.1, mb.2.1, mb.2.2, Or.inr (Or.inr (Or.inr (Or.inl ⟨rfl, rfl, hn, rfl, ⟨host, hl⟩, hs⟩)))⟩
theorem z_ca4 (h : z_CS l y bytes maxL ret rm sp) (mb : z_mb y bytes maxL ret n) (hv : ∃ v, vwCl[ci]? = some v ∧ v.1 = y.cls) (hl : Cond.methodLink own i y ∈ zTT) (hs : Cond.instanceMethod y ∈ zTT) (hq : Cond.selects y.cls y y ∈ zTT) (hr : rm.frames + 1 ≤ R.frames ∧ 8 + (maxL + 11) + rm.locals ≤ R.locals) : z_cok l own R (i, 4, ci, n + 1, rm.cells, rm.slots, sp) :=
  Or.inr ⟨fun h => absurd (show (4 : Nat) = 6 from h) (by decide), y, bytes, maxL, n, ret, rm, h, rfl, rfl, hr, mb.1, mb.2.1, mb.2.2, Or.inr (Or.inr (Or.inr (Or.inr (Or.inl ⟨rfl, rfl, hv, hl, hs, hq⟩))))⟩
theorem z_ca5 {host : String} (h : z_CS l y bytes maxL ret rm sp) (mb : z_mb y bytes maxL ret n) (hv : ∃ v, vwCl[ci]? = some v ∧ v.1 = y.cls) (hl : Cond.methodLinkNest own i y host ∈ zNW) (hs : Cond.instanceMethod y ∈ zTT) (hq : Cond.selects y.cls y y ∈ zTT) (hr : rm.frames + 1 ≤ R.frames ∧ 8 + (maxL + 11) + rm.locals ≤ R.locals) : z_cok l own R (i, 5, ci, n + 1, rm.cells, rm.slots, sp) :=
  Or.inr ⟨fun h => absurd (show (5 : Nat) = 6 from h) (by decide), y, bytes, maxL, n, ret, rm, h, rfl, rfl, hr, mb.1, mb.2.1, mb.2.2, Or.inr (Or.inr (Or.inr (Or.inr (Or.inr ⟨rfl, rfl, hv, ⟨host, hl⟩, hs, hq⟩))))⟩
theorem z_ca6 {mc ms : Nat} (hl : Cond.methodLink own i objectInit ∈ zTT) (h1 : Cond.instanceMethod objectInit ∈ zTT) (h2 : Cond.code objectInit ⟨#[0xb1]⟩ 1 none ∈ zTT) (hr : 1 ≤ R.frames ∧ 20 ≤ R.locals) : z_cok l own R (i, 6, ci, 1, mc, ms, sp) :=
  Or.inl ⟨rfl, hl, h1, h2, hr.1, hr.2, rfl⟩
end
def sp_none : zSp := fun _ _ _ => False
