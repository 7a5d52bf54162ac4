/-! THE CLAIM OUT OF ONE WALK OF THE LAW'S BODY. Your part is whole_start (and what it stands on); all else here is the same for every law, but numbers. -/
def R_law : String := "FewProductsLaw"
def lw_P (b : Addr) (xs : List Int32) (args : Array Value) (s : State) : Prop := args = #[.ref b] ∧ s.IntsAt b xs ∧ xs.length ≤ 2560 ∧ (Jvm.Cond.and given_1 narrow_1).before args s = true
def lw_Q (_ : Array Value) (s : State) (o : Outcome) (t : State) : Prop := o = .returned (some (.int 1)) ∧ Framed s o t [] 1088 36001
def lw_Z (below : List Frame) (a : Array Value) (s : State) : State → Prop := fun t => ∃ o, t.status = .running ∧ Ended t below o ∧ lw_Q a s o t
/-- the law's own end, with 1 on the stack, nothing written that was there before, its room as the claim has it -/
theorem lw_ret {p : Program} {l : Launch} {e : Env} {s : State} {m : MethodId} {below : List Frame} {meth : Method} {c : Code} {b : Nat} (hx : p.tables.exec = Jvm.exec) (hb : c.code = code) (hr : meth.sig.returnType = ret) (hlocks : meth.locks = false) {pc : Nat} {H : Heap} {ls : Array Slot} (hdg : decode code pc = .ok (.ireturn, 1)) : W p l e room_1 s m #[Value.ref b] below meth c H [] 1088 36001 (lw_Z below #[Value.ref b] s) (F0 m pc ls [.int 1]) := by
  intro T hT X
  obtain ⟨fs, hret, hrun, hended, hW, hframe⟩ := X.leave (v := some (.int 1)) (hlocks := hlocks) (fun h => by rw [hr] at h; cases h)
  have hmeth' : T.vm.method? m = some meth := X.method'
  refine ⟨T.setFrames fs, ?_, .returned (some (.int 1)), hrun, hended, rfl, ⟨_, rfl⟩, hW, hframe⟩
  jvm_step X.here [X.here.top, hx, hb, hdg, hmeth', hr, ret, narrow_b1]
  (try refine ⟨rfl, ?_⟩); (try refine ⟨rfl, ?_⟩)
  first | (intro acts; rw [hret _ acts rfl rfl rfl]) | rw [hret _ _ rfl rfl rfl]
  exact Steps.refl _
/-- what holds at the law's entry: the machine, the code, the tables' words (any of lw_tbl by 'hts w (by decide +kernel)'), the script of L ints xs at the cell b, what the Statement gives of the start (any of its parts by flat_of_before) -/
def lw_At (p : Program) (s : State) (m : MethodId) (meth : Method) (c : Code) (b L : Nat) (xs : Nat → Int32) : Prop :=
  p.tables.exec = Jvm.exec ∧ c.code = code ∧ meth.sig.returnType = ret ∧ c.maxLocals = 8 ∧ s.vm.findClass R_law = some m.cls ∧ (∀ w ∈ lw_tbl, w.before #[Value.ref b] s = true) ∧ va_X b L xs s s.heap ∧ b < s.heap.size ∧ meth.locks = false ∧ (Jvm.Cond.and given_1 narrow_1).before #[Value.ref b] s = true
theorem hts_flags {l : Launch} (h : l.flags = flags0) : l.stackTraces = false := by
  unfold Launch.stackTraces
  rw [h]
  decide +kernel
theorem law_wsS : ∀ w ∈ va_wsS RL 177 yL_row (.codeWith yL_row cL_row 4 (some .int) [(0, 8, 11, 13)] :: zTT), w ∈ zTT := by
  intro w hw
  unfold va_wsS at hw
  simp only [List.cons_append, List.nil_append, List.mem_cons] at hw
  rcases hw with rfl | rfl | rfl | rfl | hw
  · exact wt_1045
  · exact wt_1046
  · exact zTT_of 95 (by decide +kernel) rfl
  · exact zTT_of 1047 (by decide +kernel) rfl
  · exact hw
set_option maxHeartbeats 4000000 in
set_option maxRecDepth 100000 in
theorem whole_start {p : Program} {e : Env} {s : State} {m : MethodId} {below : List Frame} {meth : Method} {c : Code} (l : Launch) (hflags : l.flags = flags0) {b L : Nat} {xs : Nat → Int32} (hL : L ≤ 2560) (C0 : lw_At p s m meth c b L xs) : W p l e room_1 s m #[Value.ref b] below meth c s.heap [] 0 0 (lw_Z below #[Value.ref b] s) (entryFrame m ([Value.ref b] : List Value).toArray 8) := by
  obtain ⟨hx, hb, hr, hml, hown, hts, hX, hbl, hlocks, hgv⟩ := id C0
  have hl := hts_flags hflags
  obtain ⟨x, hK⟩ := law_K hts
  have hz : ∀ w ∈ zTT, w ∈ lw_tbl := fun w hw => zTT_tbl hw
  have hA : ∀ q : Nat, s.heap.size ≤ q → (fun q : Nat => s.heap.size ≤ q) q := fun _ h => h
  have hbA : ¬ (fun q : Nat => s.heap.size ≤ q) b := Nat.not_le.mpr hbl
  have hgs := flat_of_before _ hgv
  have hXs : zXs (fun q : Nat => s.heap.size ≤ q) s s.heap := ⟨fun w hw => va_Nw.of (zXW_ot w hw) (hts w (zXW_tb w hw)),
    vx_Zqof (hts (.laysStatic Bundle.tN nseU Bundle.steD) (by decide +kernel)) (hts (.initialized Bundle.tN) (by decide +kernel)) (hgs (.isRef (.static Bundle.tN nseU Bundle.steD)) (by decide +kernel)) (fun a ha => Nat.not_le.mpr ha),
    vx_Zqof (hts (.laysStatic Bundle.tN nseP Bundle.listD) (by decide +kernel)) (hts (.initialized Bundle.tN) (by decide +kernel)) (hgs (.isRef (.static Bundle.tN nseP Bundle.listD)) (by decide +kernel)) (fun a ha => Nat.not_le.mpr ha)⟩
  have S : CallFix p m c cL_law 8 s #[Value.ref b] lw_tbl RL := ⟨hx, hb, hml, hown, hts⟩
  have E : z_En p s m #[Value.ref b] meth c cL_law 8 RL lw_tbl x b (fun q : Nat => s.heap.size ≤ q) (M_L_law L xs) := ⟨S, hz, hK, hA, fun h => (by cases h), fun _ => ⟨hX, hbl, hbA⟩⟩
  have hl0 := lv_entry ([.ref b] : List Value) (n := 8) (Nat.le_of_ble_eq_true rfl)
  rw [lg_entry_eq]
  generalize (lg_sl ([.ref b] : List Value) ++ List.replicate (8 - (lg_sl ([.ref b] : List Value)).length) Slot.unset).toArray = ls at hl0 ⊢
  have hLH : z_LH b (fun k => k) ls 8 (z_arl [.float 0] 8) := ⟨hl0.1, hl0.2.1, Nat.le_of_eq (z_arl_len [.float 0] 8 (by exact (by decide : 1 ≤ 8))), fun i1 v q => by
    have h2 : (0 + i1, z_cv b (fun k => k) v) ∈ lv_args 0 [.ref b] := z_arl_mem (b := b) (ad := fun k => k) [.float 0] 8 0 i1 v q
    have := hl0.2.2 _ h2
    simpa using this⟩
  have hR : z_Rt p l e room_1 s m #[Value.ref b] below meth c (lw_Z below #[Value.ref b] s) x b (fun q : Nat => s.heap.size ≤ q) (fun k => k) 0 cL_law (M_L_law L xs) lawK := by
    intro r1 w' hk ad' H locs ls' pc c1 c2 g1 g2 g3 hP' hD' hS' hG' hend
    have hk : r1 = some (.int (nI 1)) := hk
    subst hk
    rcases hend with ⟨a, ha, hd, hz⟩ | ⟨a, ha, hd, hz⟩ | ⟨ha, hd, hz⟩
    · refine va_forget (fun q hq => hS'.2.2 q hq) ?_
      refine W.widen (k := 1088) (n := 36001) g1 g2 ?_
      exact lw_ret hx hb hr hlocks hd
    · cases ha
    · cases ha
  obtain ⟨J, hJ⟩ : ∃ J : zJ, J = z_JJ p l e room_1 s m #[Value.ref b] below meth c (lw_Z below #[Value.ref b] s) x b (fun q : Nat => s.heap.size ≤ q) (fun k => k) 0 8 := ⟨_, rfl⟩
  have hs : ∀ (n pc : Nat) (al : zAL) (st : List Value) (w : zW) (c1 c2 : Nat), z_wp (M_L_law L xs) lawK J n (z_from (M_L_law L xs).1 pc) al st w c1 c2 → J pc al st w c1 c2 := by
    rw [hJ]
    exact fun n pc al st w' c1 c2 h => z_wp_ok E (O_L_law l L xs) hR n _ pc al st w' c1 c2 (z_from_sub (M_L_law L xs).1 pc).1 (z_from_sub (M_L_law L xs).1 pc).2 h
  have hrow : ∀ (k : Nat) (a : Int32) (w : zW) (c1 c2 : Nat) (K : Option Value → zW → Prop), sp_L_row a 62 w K → c1 + 1 ≤ 1088 → c2 + 6 ≤ 36001 → (∀ r w', K r w' → ∃ v, r = some v ∧ J 1265 (alk k) [v] w' (c1 + 1) (c2 + 6)) → J 1262 (alk k) [.ref 62, .int a, .ref 0] w c1 c2 := by
    rw [hJ]
    intro k a w c1 c2 K hsp hc1 hc2 hk g1 g2 g3 ad H locs ls' hl' hP' hD' hS' hG'
    have h62 : 62 < w.1.length := by
      have := hsp.1
      rw [z_nth_eq] at this
      exact (List.getElem?_eq_some_iff.mp this).1
    have hpre : ∀ U : State, U.heap = H → s.WarmedH U.vm → z_Pc2 x b ad [.ref 0, .int a, .ref 62] w H.size (([.ref 0, .int a, .ref 62] : List Value).map (z_cv b ad)).toArray U := fun U hU hWu => ⟨⟨rfl, by rw [hU], by rw [hU]; exact hP', hK.moved hWu, hD'.weaken (fun _ _ _ _ => trivial)⟩, by
      rw [hU]
      exact ((hXs.kept hS'.2.1).narrow (z_aw hD' hS' hA)).moved hWu⟩
    refine z_after (K := K) (rest := []) (vx_runSW (n := 3) (index := 177) (As := ([.ref 0, .int a, .ref 62] : List Value).map (z_cv b ad)) (rest := []) S (cx_L_row l hl (x := x) (b := b) (ad := ad) (sz := H.size) hsp) (vx_cwSW 3 hts (fun w hw => zTT_inTs hz (law_wsS w hw)) rfl rfl rfl ⟨by decide, by decide, by decide +kernel⟩ ⟨by decide, by decide⟩) ⟨z_Pc2_blind, hpre⟩ rfl rfl hl'.1 rfl (lv_room (by exact (by decide : 0 ≤ 8))) (by decide +kernel : decode cL_law 1262 = .ok (.invokestatic 177, 3)) ⟨hc1, hc2⟩) hD' hS' hA ?_
    intro r w' ad2 H1 locs1 hkr hlen hag q1 q2 q3
    obtain ⟨v, rfl, hj⟩ := hk r w' hkr
    exact hj hc1 hc2 (Nat.zero_le _) ad2 H1 locs1 ls' (hl'.agree hag.1 (by simp [alk, z_wfl, z_rlt, Nat.blt]; omega)) q1 q2 q3 ⟨fun k hk => absurd hk (Nat.not_lt_zero k), fun h => by cases h⟩
  have key := law_0 (wi0 := fun _ _ => 0) (wl0 := fun _ _ => 0) hs (fun wi2 wl2 a1 a2 => law_loop hs hL hrow 0 (Nat.zero_le _) wi2 wl2 T0 63 30111 (Nat.le_refl _) (Nat.le_refl _) a1 a2)
  rw [hJ] at key
  exact key (Nat.zero_le _) (Nat.zero_le _) (Nat.le_refl _) (fun k => k) s.heap [] ls hLH (fun k q h => by simp [z_ws] at h) ⟨fun i j p q h => by simp [z_ws] at h, fun k q h => by simp [z_ws] at h⟩ va_S.rf ⟨fun _ _ => rfl, fun _ => rfl⟩
set_option maxHeartbeats 4000000 in
theorem lw_walk (l : Launch) (hflags : l.flags = flags0) (b : Addr) (xs : List Int32) : MetFree l x (headSpec (Jvm.Cond.code x code maxLocals ret :: tables_1) room_1) (lw_P b xs) (fun _ _ _ _ _ => True) lw_Q := by
  refine MetFree.of_bodyS (code := code) (maxLocals := maxLocals) (ret := ret) (by decide) ?_ ?_
  · intro args s m h hn
    obtain ⟨meth, c, h1, h2, h3, h4, h5, h6, -, -⟩ := Cond.code_spec hn (atoms_spec (ws := Jvm.Cond.code x code maxLocals ret :: tables_1) h _ List.mem_cons_self)
    exact ⟨meth, c, h1, h2, h3, h4, h5, h6⟩
  · intro p e s m args below meth c s₁ B hml0 hP _
    obtain ⟨rfl, hx, hbd, hgv⟩ := hP
    obtain ⟨scr, harrAt, hlist, hof, hsmall⟩ := hx
    obtain ⟨hcb, hkn, -, -⟩ := State.arrayAt?_spec harrAt
    have hown : s.vm.findClass R_law = some m.cls := findClass_of_methodNamed B.named
    have hts0 : ∀ c ∈ (Jvm.Cond.code x code maxLocals ret :: tables_1), c.before #[Value.ref b] s = true := atoms_spec (ws := Jvm.Cond.code x code maxLocals ret :: tables_1) B.pre
    have hts : ∀ w ∈ lw_tbl, w.before #[Value.ref b] s = true := k2_hts_sels lw_privs (fun w hw => hts0 w (List.mem_cons_of_mem _ hw)) lw_privs_ok
    have hml : c.maxLocals = 8 := B.maxLocals_eq (hts0 _ List.mem_cons_self)
    have X₀ : Stand p l e room_1 s m #[Value.ref b] below meth c s₁ [] 0 0 := Stand.of_body B
    have hh0 : s₁.heap = s.heap := by rw [B.state]; rfl
    have hsz : scr.slots.size = xs.length := by rw [← Array.length_toList, hlist, List.length_map]
    have hval : ∀ j : Nat, j < xs.length → scr.slots[j]? = some (.int (xs.getD j 0)) := fun j hj => by
      rw [← Array.getElem?_toList, hlist]
      simp [hj]
    have hbl : b < s.heap.size := (Array.getElem?_eq_some_iff.mp hcb).1
    have hX : va_X b xs.length (fun j => xs.getD j 0) s s.heap := ⟨scr, hcb, hof, hkn, hsz, hval⟩
    have K : W p l e room_1 s m #[Value.ref b] below meth c s₁.heap [] 0 0 (lw_Z below #[Value.ref b] s) (entryFrame m ([Value.ref b] : List Value).toArray 8) := by
      rw [hh0]
      exact whole_start l hflags hbd ⟨B.exec, B.bytes, B.returns, hml, hown, hts, hX, hbl, B.notSynchronized, hgv⟩
    obtain ⟨t, a1, o, b1, b2, b3⟩ := K s₁ rfl X₀
    exact ⟨t, o, a1, b1, b2, b3⟩
theorem lw_pre_spec {args : Array Value} {s : State} (h : (Jvm.Cond.and given_1 narrow_1).before args s = true) (hr : rest_1_c.before args s = true) : ∃ (b : Addr) (xs : List Int32), lw_P b xs args s := by
  have hs := flat_of_before _ h
  have hq := flat_of_before _ hr
  have hc : (Cond.count 1).before args s = true := hs _ (by decide +kernel)
  have harr : (Cond.arrayOf (.arg 0) .int).before args s = true := hs _ (by decide +kernel)
  have hle : (Cond.le (.length (.arg 0)) (.int 2560)).before args s = true := hs _ (by decide +kernel)
  have hlen : (Cond.isInt (.length (.arg 0))).before args s = true := hq _ (by decide +kernel)
  have hall : (Cond.all (.arg 0) (.isInt (.elem (.arg 0) (.index 0)))).before args s = true := hq _ (by decide +kernel)
  obtain ⟨b, xs, hb, hx⟩ := State.ints_of_pre rfl harr hlen hall
  have hsm : xs.length < 2 ^ 31 := hx.choose_spec.2.2.2
  have hev : (Term.length (.arg 0)).eval args s none [] s = some (.int xs.length.toInt32) := hx.length_eval hb
  have hv := Cond.le_ints hev (show (Term.int 2560).eval args s none [] s = some (.int 2560) from rfl)
  have hd : xs.length.toInt32 ≤ 2560 := by
    simpa [Cond.before, Cond.holds, hv] using hle
  have hN : xs.length ≤ 2560 := (Int32.ofNat_le_ofNat hsm (by decide)).mp (show Int32.ofNat xs.length ≤ Int32.ofNat 2560 from hd)
  exact ⟨b, xs, Cond.one_arg hc (show args[0]? = some (.ref b) from hb), hx, hN, h⟩
theorem lw_comes (l : Launch) (hflags : l.flags = flags0) : Comes l x (Jvm.Cond.code x code maxLocals ret :: tables_1) room_1 (fun tb e args s => Calls_1 tb e args s ∧ rest_1 tb e args s ∧ Pre_1 tb e args s)
    (fun _ _ args s o t => lw_Q args s o t) := by
  intro p e ha hc hk s m args below hf hfit hheap happ hpre
  obtain ⟨b, xs, hP⟩ := lw_pre_spec hpre.2.2 hpre.2.1
  obtain ⟨k, o, h1, h2, h3, hQ⟩ := lw_walk l hflags b xs p e ha hc hk s m args below hf ((Spec.applies_iff_loose hf).mp happ).1 hP trivial
  exact ⟨k, o, h1, h2, h3, hQ⟩
theorem lw_frame {s t : State} {o : Outcome} {args : Array Value} (h : Framed s o t [] 1088 36001) :
    Framed s o t (fieldLocs frame_1_writes args s ++ arrayLocs frame_1_arrays args s ++ staticLocs frame_1_statics s) 1088 36001 := h
theorem lw_limb (L : Cond) (hL : ∀ (args : Array Value) (s t : State), L.after args s (.returned (some (.int 1))) t = true) :
    ArmFor flags0 classFile x code maxLocals ret World_1 tables_1 room_1 Calls_1 rest_1 Pre_1
      (fun tb e a s o t => postC L tb e a s o t ∧ Framed s o t (fieldLocs frame_1_writes a s ++ arrayLocs frame_1_arrays a s ++ staticLocs frame_1_statics s) 1088 36001) := by
  intro l hflags _ _ p e ha hc hk s m args below hf hfit hheap happ hpre
  obtain ⟨k, o, h1, h2, h3, rfl, hF⟩ := lw_comes l hflags p e ha hc hk s m args below hf hfit hheap happ hpre
  exact ⟨k, _, h1, h2, h3, hL args s _, lw_frame hF⟩
theorem i_vc : Claimed_1_1 ∧ Claimed_1_2 := ⟨lw_limb limb_1_1 (fun args s t => by simp [limb_1_1, Cond.after, Cond.holds, Cond.value]), lw_limb limb_1_2 (fun args s t => Cond.after_iff.mpr (by
  first | (rw [show limb_1_2 = Cond.eq .result (.int 1) from rfl, Cond.eq_ints (x := 1) (y := 1) rfl rfl]; simp; done) | (simp [limb_1_2, Cond.value, Term.eval]; done)))⟩

