/-! a method of the JDK: its class isn't plainly named -/
theorem z_metW {l : Launch} {y : MethodName} {ws ws' : List Cond} {rm : Room} {Pc : Array Value → State → Prop} {Qc : Array Value → State → Outcome → State → Prop} {mc ms : Nat} {free : Addr → Prop} {cc : ByteArray} {maxL : Nat} {ret : Option FieldType}
    (hy : plainFor y = true) (hw : ws = Cond.code y cc maxL ret :: ws')
    (body : ∀ p e s m args below meth c s₁, BodyLoose p l y (headSpec ws rm) cc maxL ret e s m args below meth c s₁ → c.maxLocals = maxL → Pc args s →
      W p l e (headSpec ws rm).room s m args below meth c s.heap [] 0 0 (MQ below Qc args s mc ms free) (entryFrame m args maxL)) : Met l y ws rm Pc Qc mc ms free := by
  refine MetFree.of_bodySF (code := cc) (maxLocals := maxL) (ret := ret) hy ?_ ?_
  · intro args s m h hn
    obtain ⟨meth, c, h1, h2, h3, h4, h5, h6, -, -⟩ := Cond.code_spec hn (atoms_spec (ws := ws) h _ (by rw [hw]; exact List.mem_cons_self))
    exact ⟨meth, c, h1, h2, h3, h4, h5, h6⟩
  · intro p e s m args below meth c s₁ B hml hP _
    have hh0 : s₁.heap = s.heap := by rw [B.state]; rfl
    obtain ⟨t, a1, o, b1, b2, b3⟩ := body p e s m args below meth c s₁ B hml hP s₁ hh0 (Stand.of_body B)
    exact ⟨t, o, a1, b1, b2, ⟨b3.1, b3.2⟩⟩
theorem z_methF {l : Launch} {y : MethodName} {cc : ByteArray} {nL : Nat} {ret : Option FieldType} {rm : Room} {sp : zSp} {M : zM} (hpl : plainFor y = true) (hrc : z_rcok M.2.2.2.2.2.2.1 ret) (hini : M.2.2.2.2.2.2.2.1 = true → y.name = "<init>") (hscr : M.2.2.2.2.2.2.2.2.1.1 = false) (O : z_OK l y.cls cc (headSpec (.code y cc nL ret :: zTT) rm).room M)
    (hPO : ∀ (av : List Value) (w : zW) (K : Option Value → zW → Prop), sp av w K → z_PO M nL K av w) : z_CS l y cc nL ret rm sp := by
  intro x b ad av w K sz hsp
  obtain ⟨hsz, hPO⟩ := hPO av w K hsp
  refine z_metW (cc := cc) (maxL := nL) (ret := ret) hpl rfl ?_
  intro p e s m args below meth c s₁ B hml hv
  obtain ⟨rfl, hsz2, hP, hK, hD0, hC⟩ := hv
  have hx := B.exec
  have hb := B.bytes
  have hr := B.returns
  have hts := atoms_spec (ws := .code y cc nL ret :: zTT) B.pre
  have hown : s.vm.findClass y.cls = some m.cls := findClass_of_methodNamed B.named
  have hlocks := B.notSynchronized
  have hname : meth.name = y.name := (name_of_methodNamed B.named B.method).1
  subst hsz2
  have hD : va_D (z_A x ad w s.heap.size) (z_ws x ad w) := hD0.self (sz := s.heap.size)
  have hA : ∀ q : Nat, s.heap.size ≤ q → z_A x ad w s.heap.size q := fun q h => Or.inr h
  have E : z_En p s m (av.map (z_cv b ad)).toArray meth c cc nL y.cls (.code y cc nL ret :: zTT) x b (z_A x ad w s.heap.size) M := ⟨⟨hx, hb, hml, hown, hts⟩, fun w hw => List.mem_cons_of_mem _ hw, hK, hA, fun h => hname.trans (hini h), hC, fun h => by rw [hscr] at h; cases h⟩
  have hl := lv_entry (av.map (z_cv b ad)) (n := nL) (by rw [z_szs_eq]; exact hsz)
  rw [lg_entry_eq]
  generalize (lg_sl (av.map (z_cv b ad)) ++ List.replicate (nL - (lg_sl (av.map (z_cv b ad))).length) Slot.unset).toArray = ls at hl ⊢
  have hLH : z_LH b ad ls nL (z_arl av nL) := ⟨hl.1, hl.2.1, Nat.le_of_eq (z_arl_len av nL hsz), fun i v q => by
    have := hl.2.2 _ (z_arl_mem (b := b) (ad := ad) av nL 0 i v q)
    simpa using this⟩
  have hR := z_ends (p := p) (l := l) (e := e) (s := s) (m := m) (args := (av.map (z_cv b ad)).toArray) (below := below) (R := (headSpec (.code y cc nL ret :: zTT) rm).room) (x := x) (b := b) (ad := ad) (w := w) (K := K) (rm := rm) (M := M) hx hb hr hlocks rfl rfl rfl rfl hrc
  have key := hPO (z_JJ p l e (headSpec (.code y cc nL ret :: zTT) rm).room s m (av.map (z_cv b ad)).toArray below meth c (MQ below (z_Qc x b ad w K s.heap.size rm.cells) (av.map (z_cv b ad)).toArray s rm.cells rm.slots (z_A x ad w s.heap.size)) x b (z_A x ad w s.heap.size) ad w.1.length nL)
    (fun n pc al st w' c1 c2 h => z_wp_ok E O hR n _ pc al st w' c1 c2 (z_from_sub M.1 pc).1 (z_from_sub M.1 pc).2 h)
  exact key (Nat.zero_le _) (Nat.zero_le _) (Nat.le_refl _) ad s.heap [] ls hLH hP hD va_S.rf ⟨fun _ _ => rfl, fun _ => rfl⟩
/-! Forms: what its methods answer, as written -/
def fmodJ (x y : Int32) : Int32 := if x ^^^ y < nI 0 ∧ ¬ z_rem x y = nI 0 then z_rem x y + y else z_rem x y
def sp_J9_floorMod_7cf53 : zSp := fun av w K => match av with
  | [.int x, .int y] => ¬ y = 0 ∧ K (some (.int (fmodJ x y))) w
  | _ => False
def rm_J9_floorMod_7cf53 : Room := { frames := 0, cells := 0, slots := 0, locals := 0 }
def M_J9_floorMod_7cf53 : zM := (k_J9_floorMod_7cf53, [], [], ([], [], []), [], [], 1, false, (false, 0, fun _ => 0), (0, 0, []))
theorem O_J9_floorMod_7cf53 (l : Launch) : z_OK l RJ9 cJ9_floorMod_7cf53 (headSpec (.code yJ9_floorMod_7cf53 cJ9_floorMod_7cf53 3 (some .int) :: zTT) rm_J9_floorMod_7cf53).room M_J9_floorMod_7cf53 := ⟨ok_J9_floorMod_7cf53, fun _ h => absurd h List.not_mem_nil, fun _ h => absurd h List.not_mem_nil, fun _ h => absurd h List.not_mem_nil, fun _ h => absurd h List.not_mem_nil, fun _ h => absurd h List.not_mem_nil, fun _ h => absurd h List.not_mem_nil, rfl, rfl, fun _ h => absurd h List.not_mem_nil⟩
theorem c_J9_floorMod_7cf53 (l : Launch) : z_CS l yJ9_floorMod_7cf53 cJ9_floorMod_7cf53 3 (some .int) rm_J9_floorMod_7cf53 sp_J9_floorMod_7cf53 := by
  refine z_methF (by decide +kernel) (Or.inr (Or.inl ⟨rfl, rfl⟩)) (fun h => by cases h) rfl (O_J9_floorMod_7cf53 l) ?_
  intro av w K h
  match av, h with
  | [.int x, .int y], h =>
    refine ⟨Nat.le_of_ble_eq_true rfl, fun Jm hs => hs 400 0 _ _ _ _ _ ?_⟩
    obtain ⟨hy, h⟩ := h
    refine ⟨hy, ?_⟩
    conv => whnf
    refine ⟨fun hc => ?_, fun hc => ?_⟩
    · refine ⟨trivial, ?_⟩
      unfold fmodJ at h
      rw [if_neg (fun q => hc q.1)] at h
      exact h
    · conv => whnf
      refine ⟨fun hc2 => ?_, fun hc2 => ?_⟩
      · refine ⟨trivial, ?_⟩
        unfold fmodJ at h
        rw [if_neg (fun q => q.2 hc2)] at h
        exact h
      · refine ⟨trivial, ?_⟩
        unfold fmodJ at h
        rw [if_pos ⟨hc, hc2⟩] at h
        exact h
def fmod (x q : Int32) : Int32 := if q = nI 3 then fmodJ x (nI 3) else x &&& nI 1
def sp_X2_mod : zSp := fun av w K => match av with
  | [.int x, .int q] => K (some (.int (fmod x q))) w
  | _ => False
def rm_X2_mod : Room := { frames := 1, cells := 0, slots := 0, locals := 22 }
def M_X2_mod : zM := (k_X2_mod, f_X2, [(9, 0, 0, 2, 0, 0, sp_J9_floorMod_7cf53)], ([], [], []), [], [], 1, false, (false, 0, fun _ => 0), (0, 0, []))
theorem ca_X2_mod_0 (l : Launch) : z_cok l RX2 (headSpec (.code yX2_mod cX2_mod 2 (some .int) :: zTT) rm_X2_mod).room (false, 0, fun _ => 0) (9, 0, 0, 2, 0, 0, sp_J9_floorMod_7cf53) := z_ca0 (c_J9_floorMod_7cf53 l) mb_J9_floorMod_7cf53 wt_446 wt_447 (by decide)
theorem O_X2_mod (l : Launch) : z_OK l RX2 cX2_mod (headSpec (.code yX2_mod cX2_mod 2 (some .int) :: zTT) rm_X2_mod).room M_X2_mod := ⟨ok_X2_mod, fo_X2, List.forall_mem_cons.mpr ⟨ca_X2_mod_0 l, fun _ h => absurd h List.not_mem_nil⟩, fun _ h => absurd h List.not_mem_nil, fun _ h => absurd h List.not_mem_nil, fun _ h => absurd h List.not_mem_nil, fun _ h => absurd h List.not_mem_nil, rfl, rfl, fun _ h => absurd h List.not_mem_nil⟩
theorem c_X2_mod (l : Launch) : z_CS l yX2_mod cX2_mod 2 (some .int) rm_X2_mod sp_X2_mod := by
  refine z_meth (by decide) (Or.inr (Or.inl ⟨rfl, rfl⟩)) (fun h => by cases h) rfl (O_X2_mod l) ?_
  intro av w K h
  match av, h with
  | [.int x, .int q], h =>
    refine ⟨Nat.le_of_ble_eq_true rfl, fun Jm hs => hs 400 0 _ _ _ _ _ ?_⟩
    conv => whnf
    refine ⟨fun hc => ?_, fun hc => ?_⟩
    · refine ⟨trivial, ?_⟩
      have h : K (some (.int (fmod x q))) w := h
      unfold fmod at h
      rw [if_neg hc] at h
      exact h
    · refine ⟨by decide, trivial, ?_⟩
      have h : K (some (.int (fmod x q))) w := h
      unfold fmod at h
      rw [if_pos hc] at h
      exact h
def fnum (x k : Int32) : Int32 := (z_sar x k &&& nI 1) + nI 2 * (z_sar x (k + nI 9) &&& nI 1)
def sp_X2_numberAt : zSp := fun av w K => match av with
  | [.int x, .int k] => K (some (.int (fnum x k))) w
  | _ => False
def rm_X2_numberAt : Room := { frames := 0, cells := 0, slots := 0, locals := 0 }
def M_X2_numberAt : zM := (k_X2_numberAt, f_X2, [], ([], [], []), [], [], 1, false, (false, 0, fun _ => 0), (0, 0, []))
theorem O_X2_numberAt (l : Launch) : z_OK l RX2 cX2_numberAt (headSpec (.code yX2_numberAt cX2_numberAt 2 (some .int) :: zTT) rm_X2_numberAt).room M_X2_numberAt := ⟨ok_X2_numberAt, fo_X2, fun _ h => absurd h List.not_mem_nil, fun _ h => absurd h List.not_mem_nil, fun _ h => absurd h List.not_mem_nil, fun _ h => absurd h List.not_mem_nil, fun _ h => absurd h List.not_mem_nil, rfl, rfl, fun _ h => absurd h List.not_mem_nil⟩
theorem c_X2_numberAt (l : Launch) : z_CS l yX2_numberAt cX2_numberAt 2 (some .int) rm_X2_numberAt sp_X2_numberAt := by
  refine z_meth (by decide) (Or.inr (Or.inl ⟨rfl, rfl⟩)) (fun h => by cases h) rfl (O_X2_numberAt l) ?_
  intro av w K h
  match av, h with
  | [.int x, .int k], h => exact ⟨Nat.le_of_ble_eq_true rfl, fun Jm hs => hs 400 0 _ _ _ _ _ ⟨trivial, h⟩⟩
def fclr (x k : Int32) : Int32 := x &&& ((z_shl (nI 1) k ||| z_shl (nI 1) (k + nI 9)) ^^^ mI 1)
def fwith (x k n : Int32) : Int32 := if n = nI 1 then fclr x k ||| z_shl (nI 1) k else if n = nI 2 then fclr x k ||| z_shl (nI 1) (k + nI 9) else fclr x k
def sp_X2_with : zSp := fun av w K => match av with
  | [.int x, .int k, .int n] => K (some (.int (fwith x k n))) w
  | _ => False
def rm_X2_with : Room := { frames := 0, cells := 0, slots := 0, locals := 0 }
def M_X2_with : zM := (k_X2_with, f_X2, [], ([], [], []), [], [], 1, false, (false, 0, fun _ => 0), (0, 0, []))
theorem O_X2_with (l : Launch) : z_OK l RX2 cX2_with (headSpec (.code yX2_with cX2_with 6 (some .int) :: zTT) rm_X2_with).room M_X2_with := ⟨ok_X2_with, fo_X2, fun _ h => absurd h List.not_mem_nil, fun _ h => absurd h List.not_mem_nil, fun _ h => absurd h List.not_mem_nil, fun _ h => absurd h List.not_mem_nil, fun _ h => absurd h List.not_mem_nil, rfl, rfl, fun _ h => absurd h List.not_mem_nil⟩
theorem c_X2_with (l : Launch) : z_CS l yX2_with cX2_with 6 (some .int) rm_X2_with sp_X2_with := by
  refine z_meth (by decide) (Or.inr (Or.inl ⟨rfl, rfl⟩)) (fun h => by cases h) rfl (O_X2_with l) ?_
  intro av w K h
  match av, h with
  | [.int x, .int k, .int n], h =>
    refine ⟨Nat.le_of_ble_eq_true rfl, fun Jm hs => hs 400 0 _ _ _ _ _ ?_⟩
    have h : K (some (.int (fwith x k n))) w := h
    unfold fwith at h
    conv => whnf
    refine ⟨fun hc => ?_, fun hc => ?_⟩
    · rw [if_neg hc] at h
      conv => whnf
      refine ⟨fun hc2 => ?_, fun hc2 => ?_⟩
      · rw [if_neg hc2] at h
        exact ⟨trivial, h⟩
      · rw [if_pos hc2] at h
        exact ⟨trivial, h⟩
    · rw [if_pos hc] at h
      exact ⟨trivial, h⟩
def flo (x : Int32) : Int32 := x &&& nI 511
def fhi (x : Int32) : Int32 := z_sar x (nI 9)
def fnot (x : Int32) : Int32 := x ^^^ mI 1
def fsum (x y q : Int32) : Int32 := if q = nI 2 then x ^^^ y else
  (((flo x &&& fnot (flo y ||| fhi y)) ||| (flo y &&& fnot (flo x ||| fhi x))) ||| (fhi x &&& fhi y)) ||| z_shl (((fhi x &&& fnot (flo y ||| fhi y)) ||| (fhi y &&& fnot (flo x ||| fhi x))) ||| (flo x &&& flo y)) (nI 9)
def sp_X2_sum : zSp := fun av w K => match av with
  | [.int x, .int y, .int q] => K (some (.int (fsum x y q))) w
  | _ => False
def rm_X2_sum : Room := { frames := 0, cells := 0, slots := 0, locals := 0 }
def M_X2_sum : zM := (k_X2_sum, f_X2, [], ([], [], []), [], [], 1, false, (false, 0, fun _ => 0), (0, 0, []))
theorem O_X2_sum (l : Launch) : z_OK l RX2 cX2_sum (headSpec (.code yX2_sum cX2_sum 9 (some .int) :: zTT) rm_X2_sum).room M_X2_sum := ⟨ok_X2_sum, fo_X2, fun _ h => absurd h List.not_mem_nil, fun _ h => absurd h List.not_mem_nil, fun _ h => absurd h List.not_mem_nil, fun _ h => absurd h List.not_mem_nil, fun _ h => absurd h List.not_mem_nil, rfl, rfl, fun _ h => absurd h List.not_mem_nil⟩
theorem c_X2_sum (l : Launch) : z_CS l yX2_sum cX2_sum 9 (some .int) rm_X2_sum sp_X2_sum := by
  refine z_meth (by decide) (Or.inr (Or.inl ⟨rfl, rfl⟩)) (fun h => by cases h) rfl (O_X2_sum l) ?_
  intro av w K h
  match av, h with
  | [.int x, .int y, .int q], h =>
    refine ⟨Nat.le_of_ble_eq_true rfl, fun Jm hs => hs 400 0 _ _ _ _ _ ?_⟩
    have h : K (some (.int (fsum x y q))) w := h
    unfold fsum at h
    conv => whnf
    refine ⟨fun hc => ?_, fun hc => ?_⟩
    · rw [if_neg hc] at h
      exact ⟨trivial, h⟩
    · rw [if_pos hc] at h
      exact ⟨trivial, h⟩
def ftimes (n x : Int32) : Int32 := if n = nI 2 then fhi x ||| z_shl (flo x) (nI 9) else if n = nI 1 then x else nI 0
def sp_X2_times : zSp := fun av w K => match av with
  | [.int n, .int x] => K (some (.int (ftimes n x))) w
  | _ => False
def rm_X2_times : Room := { frames := 0, cells := 0, slots := 0, locals := 0 }
def M_X2_times : zM := (k_X2_times, f_X2, [], ([], [], []), [], [], 1, false, (false, 0, fun _ => 0), (0, 0, []))
theorem O_X2_times (l : Launch) : z_OK l RX2 cX2_times (headSpec (.code yX2_times cX2_times 2 (some .int) :: zTT) rm_X2_times).room M_X2_times := ⟨ok_X2_times, fo_X2, fun _ h => absurd h List.not_mem_nil, fun _ h => absurd h List.not_mem_nil, fun _ h => absurd h List.not_mem_nil, fun _ h => absurd h List.not_mem_nil, fun _ h => absurd h List.not_mem_nil, rfl, rfl, fun _ h => absurd h List.not_mem_nil⟩
theorem c_X2_times (l : Launch) : z_CS l yX2_times cX2_times 2 (some .int) rm_X2_times sp_X2_times := by
  refine z_meth (by decide) (Or.inr (Or.inl ⟨rfl, rfl⟩)) (fun h => by cases h) rfl (O_X2_times l) ?_
  intro av w K h
  match av, h with
  | [.int n, .int x], h =>
    refine ⟨Nat.le_of_ble_eq_true rfl, fun Jm hs => hs 400 0 _ _ _ _ _ ?_⟩
    have h : K (some (.int (ftimes n x))) w := h
    unfold ftimes at h
    conv => whnf
    refine ⟨fun hc => ?_, fun hc => ?_⟩
    · rw [if_neg hc] at h
      conv => whnf
      refine ⟨fun hc2 => ?_, fun hc2 => ?_⟩
      · rw [if_neg hc2] at h
        exact ⟨trivial, h⟩
      · rw [if_pos hc2] at h
        exact ⟨trivial, h⟩
    · rw [if_pos hc] at h
      exact ⟨trivial, h⟩
def fless (x y q : Int32) : Int32 := fsum x (ftimes (q - nI 1) y) q
def sp_X2_less : zSp := fun av w K => match av with
  | [.int x, .int y, .int q] => K (some (.int (fless x y q))) w
  | _ => False
def rm_X2_less : Room := { frames := 1, cells := 0, slots := 0, locals := 28 }
def M_X2_less : zM := (k_X2_less, f_X2, [(17, 0, 0, 2, 0, 0, sp_X2_times), (20, 0, 0, 3, 0, 0, sp_X2_sum)], ([], [], []), [], [], 1, false, (false, 0, fun _ => 0), (0, 0, []))
theorem ca_X2_less_0 (l : Launch) : z_cok l RX2 (headSpec (.code yX2_less cX2_less 3 (some .int) :: zTT) rm_X2_less).room (false, 0, fun _ => 0) (17, 0, 0, 2, 0, 0, sp_X2_times) := z_ca0 (c_X2_times l) mb_X2_times wt_515 wt_516 (by decide)
theorem ca_X2_less_1 (l : Launch) : z_cok l RX2 (headSpec (.code yX2_less cX2_less 3 (some .int) :: zTT) rm_X2_less).room (false, 0, fun _ => 0) (20, 0, 0, 3, 0, 0, sp_X2_sum) := z_ca0 (c_X2_sum l) mb_X2_sum wt_534 wt_529 (by decide)
theorem O_X2_less (l : Launch) : z_OK l RX2 cX2_less (headSpec (.code yX2_less cX2_less 3 (some .int) :: zTT) rm_X2_less).room M_X2_less := ⟨ok_X2_less, fo_X2, List.forall_mem_cons.mpr ⟨ca_X2_less_0 l, List.forall_mem_cons.mpr ⟨ca_X2_less_1 l, fun _ h => absurd h List.not_mem_nil⟩⟩, fun _ h => absurd h List.not_mem_nil, fun _ h => absurd h List.not_mem_nil, fun _ h => absurd h List.not_mem_nil, fun _ h => absurd h List.not_mem_nil, rfl, rfl, fun _ h => absurd h List.not_mem_nil⟩
theorem c_X2_less (l : Launch) : z_CS l yX2_less cX2_less 3 (some .int) rm_X2_less sp_X2_less := by
  refine z_meth (by decide) (Or.inr (Or.inl ⟨rfl, rfl⟩)) (fun h => by cases h) rfl (O_X2_less l) ?_
  intro av w K h
  match av, h with
  | [.int x, .int y, .int q], h => exact ⟨Nat.le_of_ble_eq_true rfl, fun Jm hs => hs 400 0 _ _ _ _ _ ⟨trivial, h⟩⟩
def flike (x y q : Int32) : Int32 := if x = nI 0 ∨ y = nI 0 then nI 0 else if x = y then nI 1 else if q = nI 3 ∧ ftimes (nI 2) x = y then nI 2 else nI 0
def sp_X2_likeBy : zSp := fun av w K => match av with
  | [.int x, .int y, .int q] => K (some (.int (flike x y q))) w
  | _ => False
def rm_X2_likeBy : Room := { frames := 1, cells := 0, slots := 0, locals := 21 }
def M_X2_likeBy : zM := (k_X2_likeBy, f_X2, [(17, 0, 0, 2, 0, 0, sp_X2_times)], ([], [], []), [], [], 1, false, (false, 0, fun _ => 0), (0, 0, []))
theorem ca_X2_likeBy_0 (l : Launch) : z_cok l RX2 (headSpec (.code yX2_likeBy cX2_likeBy 3 (some .int) :: zTT) rm_X2_likeBy).room (false, 0, fun _ => 0) (17, 0, 0, 2, 0, 0, sp_X2_times) := z_ca0 (c_X2_times l) mb_X2_times wt_515 wt_516 (by decide)
theorem O_X2_likeBy (l : Launch) : z_OK l RX2 cX2_likeBy (headSpec (.code yX2_likeBy cX2_likeBy 3 (some .int) :: zTT) rm_X2_likeBy).room M_X2_likeBy := ⟨ok_X2_likeBy, fo_X2, List.forall_mem_cons.mpr ⟨ca_X2_likeBy_0 l, fun _ h => absurd h List.not_mem_nil⟩, fun _ h => absurd h List.not_mem_nil, fun _ h => absurd h List.not_mem_nil, fun _ h => absurd h List.not_mem_nil, fun _ h => absurd h List.not_mem_nil, rfl, rfl, fun _ h => absurd h List.not_mem_nil⟩
theorem c_X2_likeBy (l : Launch) : z_CS l yX2_likeBy cX2_likeBy 3 (some .int) rm_X2_likeBy sp_X2_likeBy := by
  refine z_meth (by decide) (Or.inr (Or.inl ⟨rfl, rfl⟩)) (fun h => by cases h) rfl (O_X2_likeBy l) ?_
  intro av w K h
  match av, h with
  | [.int x, .int y, .int q], h =>
    refine ⟨Nat.le_of_ble_eq_true rfl, fun Jm hs => hs 400 0 _ _ _ _ _ ?_⟩
    have h : K (some (.int (flike x y q))) w := h
    unfold flike at h
    conv => whnf
    refine ⟨fun hc => ?_, fun hc => ?_⟩
    · rw [if_pos (Or.inl hc)] at h
      exact ⟨trivial, h⟩
    · conv => whnf
      refine ⟨fun hc2 => ?_, fun hc2 => ?_⟩
      · rw [if_neg (fun q => q.elim hc hc2)] at h
        conv => whnf
        refine ⟨fun hc3 => ?_, fun hc3 => ?_⟩
        · rw [if_neg hc3] at h
          conv => whnf
          refine ⟨fun hc4 => ?_, fun hc4 => ?_⟩
          · rw [if_neg (fun q => hc4 q.1)] at h
            exact ⟨trivial, h⟩
          · conv => whnf
            refine ⟨fun hc5 => ?_, fun hc5 => ?_⟩
            · rw [if_neg (fun q => hc5 q.2)] at h
              exact ⟨trivial, h⟩
            · rw [if_pos ⟨hc4, hc5⟩] at h
              exact ⟨trivial, h⟩
        · rw [if_pos hc3] at h
          exact ⟨trivial, h⟩
      · rw [if_pos (Or.inr hc2)] at h
        exact ⟨trivial, h⟩
def fcodeN (x q : Int32) : Nat → Int32 → Int32
  | 0, a => a
  | n + 1, a => fcodeN x q n (a * q + fnum x (nI n))
def fcode (x q : Int32) : Int32 := fcodeN x q 9 (nI 0)
def sp_X2_code : zSp := fun av w K => match av with
  | [.int x, .int q] => K (some (.int (fcode x q))) w
  | _ => False
def fplaces (x : Int32) : Int32 := (x ||| z_sar x (nI 9)) &&& nI 511
def sp_X2_placesOf : zSp := fun av w K => match av with
  | [.int x] => K (some (.int (fplaces x))) w
  | _ => False
