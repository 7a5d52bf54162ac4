/-! the call that throws: what it stands on -/
abbrev nseN : String := "java/util/NoSuchElementException"
abbrev nseL : List String := ["java/lang/RuntimeException", "java/lang/Exception"]
abbrev nseU : String := "UNASSIGNED_STACK"
abbrev nseP : String := "SUPPRESSED_SENTINEL"
def zXW : List Cond := [.declares ⟨"java/lang/RuntimeException", "<init>", "()V"⟩, .declares ⟨"java/lang/Exception", "<init>", "()V"⟩, .declares ⟨"java/lang/Throwable", "<init>", "()V"⟩, .castable nseN nseN]
theorem zXW_tb : ∀ w ∈ zXW, w ∈ lw_tbl := by decide +kernel
theorem row_good : ∀ w ∈ (vx_at0 RX11 373 nseN nseL).filter goodWord, w ∈ zTT := fun w hw => List.mem_filter.mpr ⟨(by decide +kernel : ∀ w ∈ vx_at0 RX11 373 nseN nseL, w ∈ lw_tbl) w (List.mem_filter.mp hw).1, (List.mem_filter.mp hw).2⟩
theorem row_rest : ∀ w ∈ (vx_at0 RX11 373 nseN nseL).filter (fun w => !goodWord w), w ∈ zXW := by decide +kernel
theorem row_ot : ∀ w ∈ Cond.classLink RX11 371 nseN :: Cond.initialized nseN :: vx_at0 RX11 373 nseN nseL, vx_ot w = true := fun w hw => List.all_eq_true.mp (by decide +kernel : (Cond.classLink RX11 371 nseN :: Cond.initialized nseN :: vx_at0 RX11 373 nseN nseL).all vx_ot = true) w hw
theorem row_lk : Cond.classLink RX11 371 nseN ∈ zTT := List.mem_filter.mpr ⟨by decide +kernel, rfl⟩
theorem row_in : Cond.initialized nseN ∈ zTT := List.mem_filter.mpr ⟨by decide +kernel, rfl⟩
/-- what a throw needs of the machine -/
def zXs (A : Nat → Prop) (U : State) (H : Heap) : Prop := (∀ w ∈ zXW, va_Nw w U) ∧ vx_Zq Bundle.tN nseU Bundle.steD A U H ∧ vx_Zq Bundle.tN nseP Bundle.listD A U H
theorem zXW_ot : ∀ w ∈ zXW, w.onTables = true := by decide +kernel
theorem zXs.moved {A : Nat → Prop} {s U : State} {H : Heap} (h : zXs A s H) (hW : s.WarmedH U.vm) : zXs A U H := by
  refine ⟨fun w hw => ?_, vx_Zq.moved hW.alike h.2.1, vx_Zq.moved hW.alike h.2.2⟩
  have h1 := h.1 w hw
  simp only [zXW, List.mem_cons, List.not_mem_nil, or_false] at hw
  rcases hw with rfl | rfl | rfl | rfl
  · exact va_Nw.warmD hW h1
  · exact va_Nw.warmD hW h1
  · exact va_Nw.warmD hW h1
  · exact va_Nw.warmC hW h1
theorem zXs.same {A : Nat → Prop} {u U : State} {H : Heap} (h : zXs A u H) (hvm : u.vm = U.vm) : zXs A U H :=
  ⟨fun w hw => va_Nw.same (zXW_ot w hw) hvm (h.1 w hw), vx_Zq.moved (by rw [hvm]; exact Vm.Alike.refl _) h.2.1, vx_Zq.moved (by rw [hvm]; exact Vm.Alike.refl _) h.2.2⟩
theorem zXs.kept {A : Nat → Prop} {U : State} {H H1 : Heap} (h : zXs A U H) (hq : ∀ a : Nat, a < H.size → ¬ A a → H1[a]? = H[a]?) : zXs A U H1 := ⟨h.1, h.2.1.kept hq, h.2.2.kept hq⟩
theorem zXs.narrow {A B : Nat → Prop} {U : State} {H : Heap} (h : zXs A U H) (hAB : ∀ q, B q → A q) : zXs B U H := ⟨h.1, h.2.1.narrow hAB, h.2.2.narrow hAB⟩
def z_Pc2 (x : zX) (b : Nat) (ad : Nat → Nat) (av : List Value) (w : zW) (sz : Nat) : Array Value → State → Prop := fun a U => z_Pc x b ad av w sz a U ∧ zXs (z_A x ad w sz) U U.heap
theorem z_Pc2_blind {x : zX} {b : Nat} {ad : Nat → Nat} {av : List Value} {w : zW} {sz : Nat} : FrameBlind (z_Pc2 x b ad av w sz) := by
  rintro a U g mk ⟨h1, h2⟩
  exact ⟨z_Pc_blind _ _ _ _ h1, h2.same rfl⟩
/-- what the machine is after the throw -/
def z_XC (x : zX) (ad : Nat → Nat) (w : zW) (sz : Nat) (X : Prop) : String → State → State → Prop := fun E st t => E = nseN ∧ X ∧ (∃ ad' : Nat → Nat, z_AG ad ad' w.1.length 1 ∧ va_P x.1 vwCl (z_ws x ad' w) t.heap ∧ va_D (z_A x ad w sz) (z_ws x ad' w)) ∧ va_F (z_A x ad w sz) st t
def rm_X11_row : Room := { frames := 6, cells := 1, slots := 6, locals := 81 }
def M_X11_row : zM := (k_X11_row, f_X11, [(374, 4, 8, 2, 0, 0, sp_X9_at)], ([], [], []), [], [(15, [true, true])], 3, false, (false, 0, fun _ => 0), (1, 6))
theorem ca_X11_row_0 (l : Launch) : z_cok l RX11 rm_X11_row (374, 4, 8, 2, 0, 0, sp_X9_at) := z_ca4 (c_X9_at l) mb_X9_at ⟨_, rfl, rfl⟩ wt_1114 wt_1115 wt_1116 (by decide)
theorem O_X11_row (l : Launch) : z_OK l RX11 cX11_row rm_X11_row M_X11_row := ⟨ok_X11_row, fo_X11, List.forall_mem_cons.mpr ⟨ca_X11_row_0 l, fun _ h => absurd h List.not_mem_nil⟩, fun _ h => absurd h List.not_mem_nil, fun _ h => absurd h List.not_mem_nil, fun _ h => absurd h List.not_mem_nil, fun _ h => absurd h List.not_mem_nil, rfl, rfl⟩
def sp_X11_row (i : Int32) (w : zW) (K : Option Value → zW → Prop) (X : Prop) : Prop := zG w.1 ∧ ∃ T : zT, CT w.2.1 w.2.2 T ∧ (idx T.2.2.2.2.2.2.1 i → K (some (.long (T.2.2.2.2.2.2.2 i.toNatClampNeg))) w) ∧ (¬ idx T.2.2.2.2.2.2.1 i → X)
theorem w_X11_row {i : Int32} {w : zW} {K : Option Value → zW → Prop} {X : Prop} (h : sp_X11_row i w K X) : ∀ Jm : zJ, (∀ (n pc : Nat) (al : zAL) (st : List Value) (w : zW) (c1 c2 : Nat), z_wp M_X11_row K Jm n (z_from M_X11_row.1 pc) al st w c1 c2 → Jm pc al st w c1 c2) → (X → Jm 15 [some (.ref 0), some (.int i)] [] w 0 0) → Jm 0 [some (.ref 0), some (.int i)] [] w 0 0 := by
  intro Jm hs hx
  obtain ⟨⟨r, hG⟩, ⟨d, q, c, A, kp, tx, n, xs⟩, hC, hY, hN⟩ := h
  obtain ⟨G, wi, wl⟩ := w
  dsimp only at hG
  subst hG
  dsimp only at hC hY hN
  have hT := ct_T hC
  have hn : n ≤ 9 := hT.2.1
  refine hs 400 0 _ _ _ _ _ ?_
  conv => whnf
  repeat ((first | refine ⟨zG_of _, ?_⟩ | refine ⟨trivial, ?_⟩ | refine ⟨rfl, ?_⟩ | refine ⟨fun hc => absurd hc (by decide), fun _ => ?_⟩ | refine ⟨fun _ => ?_, fun hc => absurd (by decide) hc⟩ | refine ⟨fun _ => ?_, fun hc => absurd hc (by decide)⟩ | refine ⟨fun hc => absurd (by decide) hc, fun _ => ?_⟩); conv => whnf)
  try dsimp only
  refine ⟨fun hc => hx (hN (fun q => q.1 hc)), fun hc => ?_⟩
  conv => whnf
  repeat ((first | refine ⟨zG_of _, ?_⟩ | refine ⟨trivial, ?_⟩ | refine ⟨rfl, ?_⟩ | refine ⟨fun hc => absurd hc (by decide), fun _ => ?_⟩ | refine ⟨fun _ => ?_, fun hc => absurd (by decide) hc⟩ | refine ⟨fun _ => ?_, fun hc => absurd hc (by decide)⟩ | refine ⟨fun hc => absurd (by decide) hc, fun _ => ?_⟩); conv => whnf)
  try dsimp only
  rw [show wi 4 1 = nI n from hT.1]
  refine ⟨fun hc2 => ?_, fun hc2 => hx (hN (fun q => hc2 q.2))⟩
  conv => whnf
  repeat ((first | refine ⟨zG_of _, ?_⟩ | refine ⟨trivial, ?_⟩ | refine ⟨rfl, ?_⟩ | refine ⟨fun hc => absurd hc (by decide), fun _ => ?_⟩ | refine ⟨fun _ => ?_, fun hc => absurd (by decide) hc⟩ | refine ⟨fun _ => ?_, fun hc => absurd hc (by decide)⟩ | refine ⟨fun hc => absurd (by decide) hc, fun _ => ?_⟩); conv => whnf)
  try dsimp only
  obtain ⟨k, hk, rfl⟩ := idx_N ⟨hc, hc2⟩ (by omega)
  have := hY ⟨hc, hc2⟩
  rw [nI_clamp (by omega)] at this
  rw [show tatF (wl 5) (nI k) = xs k from ?_]
  · exact this
  · unfold tatF
    rw [if_pos ⟨nI_nlt (Nat.zero_le _) (by omega), nI_lt (by omega) (by decide)⟩, nI_clamp (by omega)]
    exact hT.2.2 k hk

