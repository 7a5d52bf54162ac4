theorem z_sw_at {pc : Nat} {a : Int32} {st : List Value} {J : Nat → Prop} : ∀ (ts : List Nat) (lo : Int) (j : Nat), z_sw pc a st J lo ts → ∀ (hj : j < ts.length), a = Int32.ofInt (lo + (j : Int)) → J (ts[j]'hj)
  | t :: ts, lo, 0, h, _, e => h.1 (by rw [e, Int.natCast_zero, Int.add_zero])
  | t :: ts, lo, j + 1, h, hj, e => z_sw_at ts (lo + 1) j h.2 (by simpa using hj) (by rw [e]; congr 1; omega)
theorem zTT_int : Cond.arrayClass .int ∈ zTT := zTT_in (by decide +kernel) rfl
theorem zTT_long : Cond.arrayClass .long ∈ zTT := zTT_in (by decide +kernel) rfl
theorem zTT_byte : Cond.arrayClass .byte ∈ zTT := zTT_in (by decide +kernel) rfl
theorem z_cf_ok {M : zM} {i c : Nat} {k : Value → Prop} (h : z_cf M i c k) : ∃ j tc, (i, 10, j, tc, false) ∈ M.2.1 ∧ z_cs c = true ∧ ((j = 0 ∧ k (.retAddr (z_cv1 c))) ∨ (j = 1 ∧ k (.int (nI 0)))) := by
  unfold z_cf at h
  split at h
  · rename_i ci j tc nest e1
    split at h
    · rename_i e2
      simp only [Bool.and_eq_true, Bool.not_eq_true'] at e2
      obtain ⟨e3, e4, e5⟩ := e2
      have e3 := Nat.eq_of_beq_eq_true e3
      subst e3
      subst e4
      split at h
      · exact ⟨_, tc, z_look_mem e1, e5, Or.inl ⟨rfl, h⟩⟩
      · exact ⟨_, tc, z_look_mem e1, e5, Or.inr ⟨rfl, h⟩⟩
      · exact h.elim
    · exact h.elim
  · exact h.elim
/-! the step is right -/
section ZS
variable {p : Program} {l : Launch} {e : Env} {R : Room} {s : State} {m : MethodId} {args : Array Value} {below : List Frame} {meth : Method} {c : Code} {Q : State → Prop} {cc : ByteArray} {own : String} {Ts : List Cond} {x : zX} {b : Nat → Nat} {A0 : Nat → Prop} {ad0 : Nat → Nat} {n0 nL : Nat} {M : zM} {post : Option Value → zW → Prop}
/-- the machine, now at pc with these locals, this stack, this world, comes to a state with Q -/
def z_JJ (p : Program) (l : Launch) (e : Env) (R : Room) (s : State) (m : MethodId) (args : Array Value) (below : List Frame) (meth : Method) (c : Code) (Q : State → Prop) (x : zX) (b : Nat → Nat) (A0 : Nat → Prop) (ad0 : Nat → Nat) (n0 nL : Nat) : zJ := fun pc al st w c1 c2 =>
  c1 ≤ R.cells → c2 ≤ R.slots → n0 ≤ w.1.length → ∀ (ad : Nat → Nat) (H : Heap) (locs : List Loc) (ls : Array Slot), z_LH b ad ls nL al → va_P x.1 vwCl (z_ws x ad w) H → va_D A0 (z_ws x ad w) → va_S A0 s.heap H locs → z_AG ad0 ad n0 R.cells → W p l e R s m args below meth c H locs c1 c2 Q (F0 m pc ls (st.map (z_cv b ad)))
/-- what holds of the machine from a method's entry on -/
def z_En (p : Program) (s : State) (m : MethodId) (args : Array Value) (meth : Method) (c : Code) (cc : ByteArray) (nL : Nat) (own : String) (Ts : List Cond) (x : zX) (b : Nat → Nat) (A0 : Nat → Prop) (M : zM) : Prop :=
  CallFix p m c cc nL s args Ts own ∧ (∀ w ∈ zTT, w ∈ Ts) ∧ z_KK x s ∧ (∀ q : Nat, s.heap.size ≤ q → A0 q) ∧ (M.2.2.2.2.2.2.2.1 = true → meth.name = "<init>") ∧ zCon b A0 s s.heap ∧
  (M.2.2.2.2.2.2.2.2.1.1 = true → va_X (b 0) M.2.2.2.2.2.2.2.2.1.2.1 M.2.2.2.2.2.2.2.2.1.2.2 s s.heap ∧ b 0 < s.heap.size ∧ ¬ A0 (b 0))
/-- where a method ends as its post says, the machine comes to Q -/
def z_Rt (p : Program) (l : Launch) (e : Env) (R : Room) (s : State) (m : MethodId) (args : Array Value) (below : List Frame) (meth : Method) (c : Code) (Q : State → Prop) (x : zX) (b : Nat → Nat) (A0 : Nat → Prop) (ad0 : Nat → Nat) (n0 : Nat) (cc : ByteArray) (M : zM) (post : Option Value → zW → Prop) : Prop :=
  ∀ (r : Option Value) (w : zW), post r w → ∀ (ad : Nat → Nat) (H : Heap) (locs : List Loc) (ls : Array Slot) (pc c1 c2 : Nat), c1 ≤ R.cells → c2 ≤ R.slots → n0 ≤ w.1.length → va_P x.1 vwCl (z_ws x ad w) H → va_D A0 (z_ws x ad w) → va_S A0 s.heap H locs → z_AG ad0 ad n0 R.cells →
    ((∃ a, r = some (.int a) ∧ decode cc pc = .ok (.ireturn, 1) ∧ z_ret M.2.2.2.2.2.2.1 a) ∨ (∃ a, r = some (.long a) ∧ decode cc pc = .ok (.lreturn, 1) ∧ M.2.2.2.2.2.2.1 = 3) ∨ (r = none ∧ decode cc pc = .ok (.return_, 1) ∧ M.2.2.2.2.2.2.1 = 0) ∨ (∃ q, r = some (.ref q) ∧ decode cc pc = .ok (.areturn, 1) ∧ M.2.2.2.2.2.2.1 = 4)) →
    W p l e R s m args below meth c H locs c1 c2 Q (F0 m pc ls (r.toList.map (z_cv b ad)))
set_option maxHeartbeats 4000000 in
set_option maxRecDepth 20000 in
theorem z_step_ok (E : z_En p s m args meth c cc nL own Ts x b A0 M) (O : z_OK l own cc R M) (hR : z_Rt p l e R s m args below meth c Q x b A0 ad0 n0 cc M post) (hcall : ∀ (J : zJ), (∀ pc al st w c1 c2, J pc al st w c1 c2 → z_JJ p l e R s m args below meth c Q x b A0 ad0 n0 nL pc al st w c1 c2) → ∀ (ik i pc : Nat) (al : zAL) (st : List Value) (w : zW) (c1 c2 : Nat), z_call M J ik i (pc + 3) al st w c1 c2 → ((ik = 0 ∧ decode cc pc = .ok (.invokestatic i, 3)) ∨ (ik = 1 ∧ decode cc pc = .ok (.invokevirtual i, 3)) ∨ (ik = 2 ∧ decode cc pc = .ok (.invokespecial i, 3))) → z_JJ p l e R s m args below meth c Q x b A0 ad0 n0 nL pc al st w c1 c2) {J : zJ} (hJ : ∀ pc al st w c1 c2, J pc al st w c1 c2 → z_JJ p l e R s m args below meth c Q x b A0 ad0 n0 nL pc al st w c1 c2) {pc nx tg : Nat} {ins : Instr} (hok : z_okb cc (pc, nx, tg, ins) = true) {al : zAL} {st : List Value} {w : zW} {c1 c2 : Nat} (h : z_step M post J (pc, nx, tg, ins) al st w c1 c2) : z_JJ p l e R s m args below meth c Q x b A0 ad0 n0 nL pc al st w c1 c2 := by
  intro h1 h2 h3 ad H locs ls hl hP hD hS hG
  obtain ⟨⟨hx, hb, hml, hown, hts⟩, hTT, hK, hA, hI, hC, hX⟩ := id E
  have hlen : al.length ≤ nL := hl.2.2.1
  have go : ∀ {pc' : Nat} {al' : zAL} {st' : List Value} {ls' : Array Slot}, z_LH b ad ls' nL al' → J pc' al' st' w c1 c2 → W p l e R s m args below meth c H locs c1 c2 Q (F0 m pc' ls' (st'.map (z_cv b ad))) := fun hl' q => hJ _ _ _ _ _ _ q h1 h2 h3 ad H locs _ hl' hP hD hS hG
  have gi : ∀ {pc' : Nat} {al' : zAL} {st' : List Value} {ls' : Array Slot} {o i : Nat} {v : Int32} {H1 : Heap} {locs1 : List Loc}, z_LH b ad ls' nL al' → J pc' al' st' (w.1, z_up w.2.1 o i v, w.2.2) c1 c2 → va_P x.1 vwCl (z_ws x ad (w.1, z_up w.2.1 o i v, w.2.2)) H1 → va_D A0 (z_ws x ad (w.1, z_up w.2.1 o i v, w.2.2)) → va_S A0 s.heap H1 locs1 → W p l e R s m args below meth c H1 locs1 c1 c2 Q (F0 m pc' ls' (st'.map (z_cv b ad))) := fun hl' q a1 a2 a3 => hJ _ _ _ _ _ _ q h1 h2 h3 ad _ _ _ hl' a1 a2 a3 hG
  cases ins
  case iload i =>
    obtain ⟨hd, rfl, ht⟩ := z_dec hok rfl
    obtain ⟨a, e1, q⟩ := z_ldi_ok h
    exact lv_iload hx hb hd (hl.at e1) (go hl q)
  case iload_n i =>
    obtain ⟨hd, rfl, ht⟩ := z_dec hok rfl
    obtain ⟨a, e1, q⟩ := z_ldi_ok h
    exact lv_iload_n hx hb hd rfl (hl.at e1) (go hl q)
  case lload i =>
    obtain ⟨hd, rfl, ht⟩ := z_dec hok rfl
    obtain ⟨a, e1, q⟩ := z_ldl_ok h
    exact lv_lload hx hb hd (hl.at e1) (go hl q)
  case lload_n i =>
    obtain ⟨hd, rfl, ht⟩ := z_dec hok rfl
    obtain ⟨a, e1, q⟩ := z_ldl_ok h
    exact lv_lload_n hx hb hd rfl (hl.at e1) (go hl q)
  case aload i =>
    obtain ⟨hd, rfl, ht⟩ := z_dec hok rfl
    have h' : z_lda al i (fun v => J (pc + 2) al (v :: st) w c1 c2) := h
    obtain ⟨v, e1, e2, q⟩ := z_lda_ok (b := b) (ad := ad) h'
    have := go hl q
    rcases e2 with ⟨a, e2⟩ | e2
    · rw [List.map_cons, e2] at this
      exact lv_aload hx hb hd (by rw [hl.at e1, e2]) this
    · rw [List.map_cons, e2] at this
      exact lv_aloadN hx hb hd (by rw [hl.at e1, e2]) this
  case aload_n i =>
    obtain ⟨hd, rfl, ht⟩ := z_dec hok rfl
    have h' : z_lda al i.val (fun v => J (pc + 1) al (v :: st) w c1 c2) := h
    obtain ⟨v, e1, e2, q⟩ := z_lda_ok (b := b) (ad := ad) h'
    have := go hl q
    rcases e2 with ⟨a, e2⟩ | e2
    · rw [List.map_cons, e2] at this
      exact lv_aload_n hx hb hd rfl (by rw [hl.at e1, e2]) this
    · rw [List.map_cons, e2] at this
      exact lv_aload_nN hx hb hd rfl (by rw [hl.at e1, e2]) this
  case istore i =>
    obtain ⟨hd, rfl, ht⟩ := z_dec hok rfl
    obtain ⟨a, r, rfl, hi, q⟩ := z_sti_ok h
    exact lv_istore hx hb hd hl.has (by omega) rfl (fun ls1 hl1 => go (hl.st1 (v := .int a) hl1) q)
  case istore_n i =>
    obtain ⟨hd, rfl, ht⟩ := z_dec hok rfl
    obtain ⟨a, r, rfl, hi, q⟩ := z_sti_ok h
    exact lv_istore_n hx hb hd rfl hl.has (by omega) rfl (fun ls1 hl1 => go (hl.st1 (v := .int a) hl1) q)
  case lstore i =>
    obtain ⟨hd, rfl, ht⟩ := z_dec hok rfl
    obtain ⟨a, r, rfl, hi, q⟩ := z_stl_ok h
    exact lv_lstore hx hb hd hl.has (by omega) rfl (fun ls1 hl1 => go (hl.st2 (v := .long a) hl1) q)
  case lstore_n i =>
    obtain ⟨hd, rfl, ht⟩ := z_dec hok rfl
    obtain ⟨a, r, rfl, hi, q⟩ := z_stl_ok h
    exact lv_lstore_n hx hb hd rfl hl.has (by omega) rfl (fun ls1 hl1 => go (hl.st2 (v := .long a) hl1) q)
  case astore i =>
    obtain ⟨hd, rfl, ht⟩ := z_dec hok rfl
    obtain ⟨a, r, rfl, hi, q⟩ := z_sta_ok h
    exact lv_astore hx hb hd hl.has (by omega) rfl (fun ls1 hl1 => go (hl.st1 (v := .ref a) hl1) q)
  case astore_n i =>
    obtain ⟨hd, rfl, ht⟩ := z_dec hok rfl
    obtain ⟨a, r, rfl, hi, q⟩ := z_sta_ok h
    exact lv_astore_n hx hb hd rfl hl.has (by omega) rfl (fun ls1 hl1 => go (hl.st1 (v := .ref a) hl1) q)
  case iinc i n =>
    obtain ⟨hd, rfl, ht⟩ := z_dec hok rfl
    obtain ⟨a, e1, q⟩ := z_ldi_ok h
    have hm := (z_ll_mem (b := b) (ad := ad) al 0 i (.int a)).mpr ⟨i, .int a, by omega, by rw [← z_nth_eq]; exact e1, rfl⟩
    obtain ⟨k, hk⟩ := List.getElem?_of_mem hm
    cases n with
    | ofNat n =>
      obtain ⟨hi, q⟩ := z_st1_ok q
      have hc : Int32.ofInt (Int.ofNat n) = nI tg := z_cst_n (n := n) ht
      exact lv_iinc hx hb hd hl.has hk (by rw [hc]) (by omega) rfl (fun ls1 hl1 => go (hl.st1 (v := .int (a + nI tg)) hl1) q)
    | negSucc n =>
      obtain ⟨hi, q⟩ := z_st1_ok q
      have hc : Int32.ofInt (Int.negSucc n) = mI tg := z_cst_m (n := n) ht
      exact lv_iinc hx hb hd hl.has hk (by rw [hc, mI, ← Int32.sub_eq_add_neg]) (by omega) rfl (fun ls1 hl1 => go (hl.st1 (v := .int (a - nI tg)) hl1) q)
  case iconst n =>
    obtain ⟨hd, rfl, ht⟩ := z_dec hok rfl
    cases n with
    | ofNat n =>
      have hc : Int32.ofInt (Int.ofNat n) = nI tg := z_cst_n (n := n) ht
      exact lv_iconst hx hb hd hc (go hl h)
    | negSucc n =>
      have hc : Int32.ofInt (Int.negSucc n) = mI tg := z_cst_m (n := n) ht
      exact lv_iconst hx hb hd hc (go hl h)
  case bipush n =>
    obtain ⟨hd, rfl, ht⟩ := z_dec hok rfl
    cases n with
    | ofNat n =>
      have hc : (Int8.ofInt (Int.ofNat n)).toInt32 = nI tg := z_cst_n (n := n) ht
      exact lv_bipush hx hb hd hc (go hl h)
    | negSucc n =>
      have hc : (Int8.ofInt (Int.negSucc n)).toInt32 = mI tg := z_cst_m (n := n) ht
      exact lv_bipush hx hb hd hc (go hl h)
  case sipush n =>
    obtain ⟨hd, rfl, ht⟩ := z_dec hok rfl
    cases n with
    | ofNat n =>
      have hc : (Int16.ofInt (Int.ofNat n)).toInt32 = nI tg := z_cst_n (n := n) ht
      exact lv_sipush hx hb hd hc (go hl h)
    | negSucc n =>
      have hc : (Int16.ofInt (Int.negSucc n)).toInt32 = mI tg := z_cst_m (n := n) ht
      exact lv_sipush hx hb hd hc (go hl h)
  case lconst k =>
    obtain ⟨hd, rfl, ht⟩ := z_dec hok rfl
    exact lv_lconst hx hb hd (by simpa [z_tb] using ht) (go hl h)
  case ldc_w i =>
    obtain ⟨hd, rfl, ht⟩ := z_dec hok rfl
    have h' : match z_look M.2.2.2.1.1 i with
      | some a => J (pc + 3) al (.int a :: st) w c1 c2
      | none => False := h
    split at h'
    · rename_i a e1
      exact lv_ldcw hx hb hown (hts _ (hTT _ (O.2.2.2.1 _ (z_look_mem e1)))) hd (go hl h')
    · exact h'.elim
  case ldc i =>
    obtain ⟨hd, rfl, ht⟩ := z_dec hok rfl
    have h' : match z_look M.2.2.2.1.1 i with
      | some a => J (pc + 2) al (.int a :: st) w c1 c2
      | none => match z_look M.2.2.2.2.2.2.2.2.2.2.2 i with
        | some (.retAddr c) => match z_cs c with
          | true => J (pc + 2) al (.retAddr c :: st) w c1 c2
          | false => False
        | _ => False := h
    split at h'
    · rename_i a e1
      exact lv_ldc hx hb hown (hts _ (hTT _ (O.2.2.2.1 _ (z_look_mem e1)))) hd (go hl h')
    · split at h'
      · rename_i c e1
        split at h'
        · rename_i e2
          have hk := O.2.2.2.2.2.2.2.2.2 _ (z_look_mem e1)
          unfold z_cs at e2
          split at e2
          · obtain ⟨g1, g2⟩ : own = RL ∧ i = 116 := hk
            subst g1
            subst g2
            exact va_ldcS hx hb hown hC.2.1.1 hd (go hl h')
          · obtain ⟨g1, g2⟩ : own = RL ∧ i = 127 := hk
            subst g1
            subst g2
            exact va_ldcS hx hb hown hC.2.1.2.1 hd (go hl h')
          · obtain ⟨g1, g2⟩ : own = RL ∧ i = 132 := hk
            subst g1
            subst g2
            exact va_ldcS hx hb hown hC.2.1.2.2 hd (go hl h')
          · cases e2
        · exact h'.elim
      · exact h'.elim
  case getstatic i =>
    obtain ⟨hd, rfl, ht⟩ := z_dec hok rfl
    have h' : match z_look M.2.2.2.2.2.2.2.2.2.2.2 i with
      | some (.int a) => J (pc + 3) al (.int a :: st) w c1 c2
      | some (.retAddr 7) => J (pc + 3) al (.retAddr 7 :: st) w c1 c2
      | some (.long _) => J (pc + 3) al (.null :: st) w c1 c2 ∧ J (pc + 3) al (.retAddr 8 :: st) w c1 c2
      | _ => False := h
    split at h'
    · rename_i a e1
      obtain ⟨g1, g2⟩ := O.2.2.2.2.2.2.2.2.2 _ (z_look_mem e1)
      subst g1
      exact va_gets hx hb hC.2.2.1 hS hown (hts _ (hTT _ g2)) (fun _ z => z) hd (go hl h')
    · rename_i e1
      have g2 := O.2.2.2.2.2.2.2.2.2 _ (z_look_mem e1)
      exact va_gets hx hb hC.2.2.2.1.1 hS hown (hts _ (hTT _ g2)) (fun _ z => z) hd (go hl h')
    · rename_i e1
      have g2 := O.2.2.2.2.2.2.2.2.2 _ (z_look_mem e1)
      rcases hC.2.2.2.2.1 with hZ | hZ
      · exact va_gets hx hb hZ hS hown (hts _ (hTT _ g2)) (fun _ z => z) hd (go hl h'.1)
      · exact va_gets hx hb hZ hS hown (hts _ (hTT _ g2)) (fun _ z => z) hd (go hl h'.2)
    · exact h'.elim
  case aconst_null =>
    obtain ⟨hd, rfl, ht⟩ := z_dec hok rfl
    exact lv_null hx hb hd (go hl h)
  case ifnonnull o =>
    obtain ⟨hd, rfl, ht⟩ := z_dec hok rfl
    have hto : (pc : Int) + o = (tg : Int) := by simpa [z_tb] using ht
    match st, h with
    | .ref q :: r, h => exact lv_ifnonnull hx hb hd hto (go hl h)
    | .retAddr q :: r, h => exact lv_ifnonnull hx hb hd hto (go hl h)
    | [], h => exact h.elim
    | .int _ :: _, h => exact h.elim
    | .long _ :: _, h => exact h.elim
    | .float _ :: _, h => exact h.elim
    | .double _ :: _, h => exact h.elim
    | .null :: _, h => exact h.elim
  case checkcast i =>
    obtain ⟨hd, rfl, ht⟩ := z_dec hok rfl
    match st, h with
    | .ref o :: r, h =>
      have h' : match z_look M.2.2.2.2.2.2.2.2.2.2.2 i with
        | some .null => z_arr w o (fun t _ => match t with
          | 2 => J (pc + 3) al (.ref o :: r) w c1 c2
          | _ => False)
        | _ => False := h
      split at h'
      · rename_i e1
        have g2 := O.2.2.2.2.2.2.2.2.2 _ (z_look_mem e1)
        obtain ⟨t, n, hG1, q⟩ := z_arr_ok h'
        have he := z_ws_at (x := x) (ad := ad) hG1
        match t, q, he with
        | 0, q, _ => exact q.elim
        | 1, q, _ => exact q.elim
        | 2, q, he => exact va_castA hx hb hown (hts _ (hTT _ g2)) hP o he (hK.1.2 2 (x.2.2.2.1, .byte) rfl).2 hd (go hl q)
        | _ + 3, q, _ => exact q.elim
      · exact h'.elim
    | [], h => exact h.elim
    | .int _ :: _, h => exact h.elim
    | .long _ :: _, h => exact h.elim
    | .float _ :: _, h => exact h.elim
    | .double _ :: _, h => exact h.elim
    | .null :: _, h => exact h.elim
    | .retAddr _ :: _, h => exact h.elim
  case areturn =>
    obtain ⟨hd, rfl, ht⟩ := z_dec hok rfl
    match st, h with
    | [.ref q], h =>
      have h' : match M.2.2.2.2.2.2.1 with
        | 4 => post (some (.ref q)) w
        | _ => False := h
      split at h'
      · rename_i e1
        exact hR _ w h' ad H locs ls pc c1 c2 h1 h2 h3 hP hD hS hG (Or.inr (Or.inr (Or.inr ⟨q, rfl, hd, e1⟩)))
      · exact h'.elim
    | [], h => exact h.elim
    | .ref _ :: _ :: _, h => exact h.elim
    | .int _ :: _, h => exact h.elim
    | .long _ :: _, h => exact h.elim
    | .float _ :: _, h => exact h.elim
    | .double _ :: _, h => exact h.elim
    | .null :: _, h => exact h.elim
    | .retAddr _ :: _, h => exact h.elim
  case ldc2_w i =>
    obtain ⟨hd, rfl, ht⟩ := z_dec hok rfl
    have h' : match z_look M.2.2.2.1.2.1 i with
      | some a => J (pc + 3) al (.long a :: st) w c1 c2
      | none => False := h
    split at h'
    · rename_i a e1
      exact lv_ldc2 hx hb hown (hts _ (hTT _ (O.2.2.2.2.1 _ (z_look_mem e1)))) hd (go hl h')
    · exact h'.elim
  case iadd =>
    obtain ⟨hd, rfl, ht⟩ := z_dec hok rfl
    obtain ⟨a, y, r, rfl, q⟩ := z_i2_ok h
    exact lv_iadd hx hb hd (go hl q)
  case isub =>
    obtain ⟨hd, rfl, ht⟩ := z_dec hok rfl
    obtain ⟨a, y, r, rfl, q⟩ := z_i2_ok h
    exact lv_isub hx hb hd (go hl q)
  case imul =>
    obtain ⟨hd, rfl, ht⟩ := z_dec hok rfl
    obtain ⟨a, y, r, rfl, q⟩ := z_i2_ok h
    exact lv_imul hx hb hd (go hl q)
  case iand =>
    obtain ⟨hd, rfl, ht⟩ := z_dec hok rfl
    obtain ⟨a, y, r, rfl, q⟩ := z_i2_ok h
    exact lv_iand hx hb hd (go hl q)
  case ior =>
    obtain ⟨hd, rfl, ht⟩ := z_dec hok rfl
    obtain ⟨a, y, r, rfl, q⟩ := z_i2_ok h
    exact lv_ior hx hb hd (go hl q)
  case ixor =>
    obtain ⟨hd, rfl, ht⟩ := z_dec hok rfl
    obtain ⟨a, y, r, rfl, q⟩ := z_i2_ok h
    exact lv_ixor hx hb hd (go hl q)
  case ishl =>
    obtain ⟨hd, rfl, ht⟩ := z_dec hok rfl
    obtain ⟨a, y, r, rfl, q⟩ := z_i2_ok h
    exact lv_ishl hx hb hd (go hl q)
  case ishr =>
    obtain ⟨hd, rfl, ht⟩ := z_dec hok rfl
    obtain ⟨a, y, r, rfl, q⟩ := z_i2_ok h
    exact lv_ishr hx hb hd (go hl q)
  case iushr =>
    obtain ⟨hd, rfl, ht⟩ := z_dec hok rfl
    obtain ⟨a, y, r, rfl, q⟩ := z_i2_ok h
    exact lv_iushr hx hb hd rfl (go hl q)
  case idiv =>
    obtain ⟨hd, rfl, ht⟩ := z_dec hok rfl
    obtain ⟨a, y, r, rfl, hne, q⟩ := z_i2_ok h
    exact lv_idiv hx hb hd hne (go hl q)
  case irem =>
    obtain ⟨hd, rfl, ht⟩ := z_dec hok rfl
    obtain ⟨a, y, r, rfl, hne, q⟩ := z_i2_ok h
    exact lv_irem hx hb hd hne (go hl q)
  case ineg =>
    obtain ⟨hd, rfl, ht⟩ := z_dec hok rfl
    obtain ⟨a, r, rfl, q⟩ := z_i1_ok h
    exact lv_ineg hx hb hd (go hl q)
  case i2l =>
    obtain ⟨hd, rfl, ht⟩ := z_dec hok rfl
    obtain ⟨a, r, rfl, q⟩ := z_i1_ok h
    exact lv_i2l hx hb hd rfl (go hl q)
  case i2b =>
    obtain ⟨hd, rfl, ht⟩ := z_dec hok rfl
    obtain ⟨a, r, rfl, q⟩ := z_i1_ok h
    exact lv_i2b hx hb hd rfl (go hl q)
  case i2c =>
    obtain ⟨hd, rfl, ht⟩ := z_dec hok rfl
    obtain ⟨a, r, rfl, q⟩ := z_i1_ok h
    exact lv_i2c hx hb hd rfl (go hl q)
  case l2i =>
    obtain ⟨hd, rfl, ht⟩ := z_dec hok rfl
    obtain ⟨a, r, rfl, q⟩ := z_l1_ok h
    exact lv_l2i hx hb hd rfl (go hl q)
  case ladd =>
    obtain ⟨hd, rfl, ht⟩ := z_dec hok rfl
    obtain ⟨a, y, r, rfl, q⟩ := z_l2_ok h
    exact lv_ladd hx hb hd (go hl q)
  case lsub =>
    obtain ⟨hd, rfl, ht⟩ := z_dec hok rfl
    obtain ⟨a, y, r, rfl, q⟩ := z_l2_ok h
    exact lv_lsub hx hb hd (go hl q)
  case lmul =>
    obtain ⟨hd, rfl, ht⟩ := z_dec hok rfl
    obtain ⟨a, y, r, rfl, q⟩ := z_l2_ok h
    exact lv_lmul hx hb hd (go hl q)
  case land =>
    obtain ⟨hd, rfl, ht⟩ := z_dec hok rfl
    obtain ⟨a, y, r, rfl, q⟩ := z_l2_ok h
    exact lv_land hx hb hd (go hl q)
  case lor =>
    obtain ⟨hd, rfl, ht⟩ := z_dec hok rfl
    obtain ⟨a, y, r, rfl, q⟩ := z_l2_ok h
    exact lv_lor hx hb hd (go hl q)
  case lxor =>
    obtain ⟨hd, rfl, ht⟩ := z_dec hok rfl
    obtain ⟨a, y, r, rfl, q⟩ := z_l2_ok h
    exact lv_lxor hx hb hd (go hl q)
  case lrem =>
    obtain ⟨hd, rfl, ht⟩ := z_dec hok rfl
    obtain ⟨a, y, r, rfl, hne, q⟩ := z_l2_ok h
    exact lv_lrem hx hb hd hne (go hl q)
  case lcmp =>
    obtain ⟨hd, rfl, ht⟩ := z_dec hok rfl
    obtain ⟨a, y, r, rfl, q⟩ := z_l2_ok h
    exact W.lcmp hx hb hd (go hl q)
  case lshl =>
    obtain ⟨hd, rfl, ht⟩ := z_dec hok rfl
    obtain ⟨a, y, r, rfl, q⟩ := z_li_ok h
    exact lv_lshl hx hb hd rfl (go hl q)
  case lshr =>
    obtain ⟨hd, rfl, ht⟩ := z_dec hok rfl
    obtain ⟨a, y, r, rfl, q⟩ := z_li_ok h
    exact lv_lshr hx hb hd rfl (go hl q)
  case lushr =>
    obtain ⟨hd, rfl, ht⟩ := z_dec hok rfl
    obtain ⟨a, y, r, rfl, q⟩ := z_li_ok h
    exact lv_lushr hx hb hd rfl (go hl q)
  case dup =>
    obtain ⟨hd, rfl, ht⟩ := z_dec hok rfl
    match st, h with
    | v :: r, h =>
      obtain ⟨hc, q⟩ := z_one_ok h
      exact lv_dup hx hb hd (by rw [z_cv_cat]; exact hc) (go hl q)
    | [], h => exact h.elim
  case pop =>
    obtain ⟨hd, rfl, ht⟩ := z_dec hok rfl
    match st, h with
    | v :: r, h =>
      obtain ⟨hc, q⟩ := z_one_ok h
      exact lv_pop hx hb hd (by rw [z_cv_cat]; exact hc) (go hl q)
    | [], h => exact h.elim
  case dup_x1 =>
    obtain ⟨hd, rfl, ht⟩ := z_dec hok rfl
    match st, h with
    | v :: u :: r, h =>
      obtain ⟨hc, q⟩ := z_one_ok h
      obtain ⟨hc2, q⟩ := z_one_ok q
      exact lv_dup_x1 hx hb hd (by rw [z_cv_cat]; exact hc) (by rw [z_cv_cat]; exact hc2) (go hl q)
    | [], h => exact h.elim
    | [_], h => exact h.elim
  case dup2 =>
    obtain ⟨hd, rfl, ht⟩ := z_dec hok rfl
    match st, h with
    | v :: u :: r, h =>
      obtain ⟨hc, q⟩ := z_one_ok h
      obtain ⟨hc2, q⟩ := z_one_ok q
      exact lv_dup2_11 hx hb hd (by rw [z_cv_cat]; exact hc) (by rw [z_cv_cat]; exact hc2) (go hl q)
    | [], h => exact h.elim
    | [_], h => exact h.elim
  case goto o =>
    obtain ⟨hd, rfl, ht⟩ := z_dec hok rfl
    exact lv_goto hx hb hd (by simpa [z_tb] using ht) (go hl h)
  case ifCond cd o =>
    obtain ⟨hd, rfl, ht⟩ := z_dec hok rfl
    have hto : (pc : Int) + o = (tg : Int) := by simpa [z_tb] using ht
    cases cd
    · obtain ⟨a, r, rfl, q1, q2⟩ := z_i1_ok h
      exact lv_if_eq hx hb hd hto (fun z => go hl (q1 (z_nIz.mpr z))) (fun z => go hl (q2 (fun y => z (z_nIz.mp y))))
    · obtain ⟨a, r, rfl, q1, q2⟩ := z_i1_ok h
      exact lv_if_ne hx hb hd hto (fun z => go hl (q1 (fun y => z (z_nIz.mp y)))) (fun z => go hl (q2 (z_nIz.mpr z)))
    · obtain ⟨a, r, rfl, q1, q2⟩ := z_i1_ok h
      rw [nI_0] at q1 q2
      exact lv_if_lt hx hb hd hto (fun z => go hl (q1 z)) (fun z => go hl (q2 z))
    · obtain ⟨a, r, rfl, q1, q2⟩ := z_i1_ok h
      rw [nI_0] at q1 q2
      exact lv_if_ge hx hb hd hto (fun z => go hl (q1 (z_ge z))) (fun z => go hl (q2 (z_nge z)))
    · obtain ⟨a, r, rfl, q1, q2⟩ := z_i1_ok h
      rw [nI_0] at q1 q2
      exact lv_if_gt hx hb hd hto (fun z => go hl (q1 z)) (fun z => go hl (q2 z))
    · obtain ⟨a, r, rfl, q1, q2⟩ := z_i1_ok h
      rw [nI_0] at q1 q2
      exact lv_if_le hx hb hd hto (fun z => go hl (q1 (z_ge z))) (fun z => go hl (q2 (z_nge z)))
  case if_icmp cd o =>
    obtain ⟨hd, rfl, ht⟩ := z_dec hok rfl
    have hto : (pc : Int) + o = (tg : Int) := by simpa [z_tb] using ht
    cases cd
    · obtain ⟨a, y, r, rfl, q1, q2⟩ := z_i2_ok h
      exact lv_icmp_eq hx hb hd hto (fun z => go hl (q1 z)) (fun z => go hl (q2 z))
    · obtain ⟨a, y, r, rfl, q1, q2⟩ := z_i2_ok h
      exact lv_icmp_ne hx hb hd hto (fun z => go hl (q1 z)) (fun z => go hl (q2 z))
    · obtain ⟨a, y, r, rfl, q1, q2⟩ := z_i2_ok h
      exact lv_icmp_lt hx hb hd hto (fun z => go hl (q1 z)) (fun z => go hl (q2 z))
    · obtain ⟨a, y, r, rfl, q1, q2⟩ := z_i2_ok h
      exact lv_icmp_ge hx hb hd hto (fun z => go hl (q1 (z_ge z))) (fun z => go hl (q2 (z_nge z)))
    · obtain ⟨a, y, r, rfl, q1, q2⟩ := z_i2_ok h
      exact lv_icmp_gt hx hb hd hto (fun z => go hl (q1 z)) (fun z => go hl (q2 z))
    · obtain ⟨a, y, r, rfl, q1, q2⟩ := z_i2_ok h
      exact lv_icmp_le hx hb hd hto (fun z => go hl (q1 (z_ge z))) (fun z => go hl (q2 (z_nge z)))
  case getfield i =>
    obtain ⟨hd, rfl, ht⟩ := z_dec hok rfl
    match st, h with
    | .ref o :: r, h =>
      obtain ⟨ci, j, tc, nest, fs, f, hm, hG1, hf, q⟩ := z_fld_ok h
      obtain ⟨C, T, N, ty, g1, g2, g3, g4, g5, g6, -⟩ := O.2.1 _ hm
      have hin : ∀ w ∈ u_ws C T N, w ∈ Ts := fun w hw => hTT _ (g3 w hw)
      have he := z_ws_at (x := x) (ad := ad) hG1
      have key : ∀ {v : Value}, z_fv ad (w.2.1 o) j f = v → W p l e R s m args below meth c H locs c1 c2 Q (F0 m (pc + 3) ls (v :: r.map (z_cv b ad))) → W p l e R s m args below meth c H locs c1 c2 Q (F0 m pc ls (.ref (ad o) :: r.map (z_cv b ad))) := by
        intro v hv k
        have hfv : (fs.mapIdx (fun k f => z_fv ad (w.2.1 o) k f))[j]? = some v := by rw [List.getElem?_mapIdx, hf]; exact congrArg some hv
        rcases g6 with ⟨-, g6⟩ | ⟨-, host, g6⟩
        · exact va_get hx hb hts hin hown hK.1 hP o he g1 j g2 (hts _ (hTT _ g6)) (fun _ z => z) hfv hd k
        · exact va_getN hx hb hts hin hown hK.1 hP o he g1 j g2 (va_Nw.use rfl (hK.2 _ g6)) (fun _ z => z) hfv hd k
      match f, q with
      | none, q => exact key rfl (go hl q)
      | some (some a), q => exact key rfl (go hl q)
      | some none, q => exact q.elim
    | .retAddr c :: r, h =>
      have h' : z_cf M i c (fun v => J (pc + 3) al (v :: r) w c1 c2) := h
      obtain ⟨j, tc, hm, hc, q⟩ := z_cf_ok h'
      obtain ⟨C, T, N, ty, g1, g2, g3, g4, g5, g6, -⟩ := O.2.1 _ hm
      have g1 : some ((RJ0, TJ0, 4) : vw_C) = some (C, T, N) := g1
      cases g1
      have hi : ∃ k, k < 3 ∧ c = 2 * k + 1 ∧ z_cv1 c = 2 * k + 2 := by
        unfold z_cs at hc
        split at hc
        · exact ⟨0, by decide, rfl, rfl⟩
        · exact ⟨1, by decide, rfl, rfl⟩
        · exact ⟨2, by decide, rfl, rfl⟩
        · cases hc
      obtain ⟨k, hk, rfl, hk2⟩ := hi
      obtain ⟨-, f1, f2, -⟩ := hC.1.1 k hk
      rcases g6 with ⟨-, g6⟩ | ⟨g6, -⟩
      · rcases q with ⟨rfl, q⟩ | ⟨rfl, q⟩
        · rw [hk2] at q
          exact vk_getf hx hb f2 hS hown (hts _ (hTT _ g6)) (fun _ z => z) hd (go hl q)
        · exact vk_getf hx hb f1 hS hown (hts _ (hTT _ g6)) (fun _ z => z) hd (go hl q)
      · cases g6
    | [], h => exact h.elim
    | .int _ :: _, h => exact h.elim
    | .long _ :: _, h => exact h.elim
    | .float _ :: _, h => exact h.elim
    | .double _ :: _, h => exact h.elim
    | .null :: _, h => exact h.elim
  case putfield i =>
    obtain ⟨hd, rfl, ht⟩ := z_dec hok rfl
    have hput : ∀ (a : Int32) (o : Nat) (r : List Value), st = .int a :: .ref o :: r → z_fld M i w o (fun tc _ _ j f => match f with
            | none => match tc with
              | 0 => J (pc + 3) al r (w.1, z_up w.2.1 o j a, w.2.2) c1 c2
              | 1 => (a = nI 0 ∨ a = nI 1) ∧ J (pc + 3) al r (w.1, z_up w.2.1 o j a, w.2.2) c1 c2
              | 4 => (vp_nar .byte a = a ∧ fits .byte (.int a) = true) ∧ J (pc + 3) al r (w.1, z_up w.2.1 o j a, w.2.2) c1 c2
              | 5 => match M.2.2.2.2.2.2.2.1 with
                | true => (vp_nar .byte a = a ∧ fits .byte (.int a) = true) ∧ J (pc + 3) al r (w.1, z_up w.2.1 o j a, w.2.2) c1 c2
                | false => False
              | _ => False
            | _ => False) → W p l e R s m args below meth c H locs c1 c2 Q (F0 m pc ls (st.map (z_cv b ad))) := by
      intro a o r hst h
      subst hst
      obtain ⟨ci, j, tc, nest, fs, f, hm, hG1, hf, q⟩ := z_fld_ok h
      obtain ⟨C, T, N, ty, g1, g2, g3, g4, g5, g6, g7, g8, -, g10, g11, -⟩ := O.2.1 _ hm
      have hin : ∀ w ∈ u_ws C T N, w ∈ Ts := fun w hw => hTT _ (g3 w hw)
      have he := z_ws_at (x := x) (ad := ad) hG1
      match f, q, hf with
      | some _, q, _ => exact q.elim
      | none, q, hf =>
        have hset : (z_ws x ad w).set o (ad o, .inr (ci, (fs.mapIdx (fun k f => z_fv ad (w.2.1 o) k f)).set j (.int a))) = z_ws x ad (w.1, z_up w.2.1 o j a, w.2.2) := z_ws_upi hG1 (by show Sum.inr (ci, _) = Sum.inr (ci, _); rw [z_fv_upd hf])
        have hjl : j < (fs.mapIdx (fun k f => z_fv ad (w.2.1 o) k f)).length := by simpa using (List.getElem?_eq_some_iff.mp hf).1
        have key : ∀ (t : FieldType), ty j = t → (T j).2.2.2 = false → narrow t (.int a) = .int a → fits t (.int a) = true → J (pc + 3) al r (w.1, z_up w.2.1 o j a, w.2.2) c1 c2 → W p l e R s m args below meth c H locs c1 c2 Q (F0 m pc ls (.int a :: .ref (ad o) :: r.map (z_cv b ad))) := by
          intro t ht hfin hn hft q
          rcases g6 with ⟨-, g6⟩ | ⟨-, host, g6⟩
          · exact va_put hx hb hts hin ty g4 g5 hown hK.1 hP hD hS o he g1 j g2 (hts _ (hTT _ g6)) (fun _ z => z) hfin (by rw [g4 j g2, ht]) hn hft hjl hd (fun H1 locs1 a1 a2 a3 => by rw [hset] at a1 a2; exact gi hl q a1 a2 a3)
          · exact va_putN hx hb hts hin ty g4 g5 hown hK.1 hP hD hS o he g1 j g2 (va_Nw.use rfl (hK.2 _ g6)) (fun _ z => z) hfin (by rw [g4 j g2, ht]) hn hft hjl hd (fun H1 locs1 a1 a2 a3 => by rw [hset] at a1 a2; exact gi hl q a1 a2 a3)
        match tc, q, g7, g8, g10, g11 with
        | 0, q, g7, g8, _, _ => exact key .int (g7 rfl).1 (g7 rfl).2 rfl rfl q
        | 1, q, g7, g8, _, _ =>
          obtain ⟨hz, q⟩ := q
          exact key .boolean (g8 rfl).1 (g8 rfl).2 (by rcases hz with rfl | rfl <;> rfl) (by rcases hz with rfl | rfl <;> rfl) q
        | 2, q, _, _, _, _ => exact q.elim
        | 3, q, _, _, _, _ => exact q.elim
        | 4, q, _, _, g10, _ =>
          obtain ⟨hz, q⟩ := q
          exact key .byte (g10 rfl).1 (g10 rfl).2 (congrArg Value.int hz.1) hz.2 q
        | 5, q, _, _, _, g11 =>
          have q' : match M.2.2.2.2.2.2.2.1 with
                | true => (vp_nar .byte a = a ∧ fits .byte (.int a) = true) ∧ J (pc + 3) al r (w.1, z_up w.2.1 o j a, w.2.2) c1 c2
                | false => False := q
          split at q'
          · rename_i hini
            obtain ⟨hz, q⟩ := q'
            obtain ⟨g11a, g11b, g11c, g11d⟩ := g11 rfl
            rcases g6 with ⟨-, g6⟩ | ⟨g6, -⟩
            · exact va_putF (ty := .byte) (v := .int a) hx hb hts hin ty g4 g5 hown hK.1 hP hD hS o he g1 j g2 (hts _ (hTT _ g6)) (fun _ z => z) g11b (hI hini) g11c (by rw [g4 j g2, g11a]) (congrArg Value.int hz.1) hz.2 hjl hd (fun H1 locs1 a1 a2 a3 => by rw [hset] at a1 a2; exact gi hl q a1 a2 a3)
            · rw [g11d] at g6; cases g6
          · exact q'.elim
        | _ + 6, q, _, _, _, _ => exact q.elim
    match st, h with
    | .int a :: .ref o :: r, h => exact hput a o r rfl h
    | .ref q :: .ref o :: r, h =>
      have h' : z_fld M i w o (fun tc _ _ j f => match tc with
        | 2 => match M.2.2.2.2.2.2.2.1 with
          | true => match f with
            | some _ => z_gset w.1 o j q 0 (fun G' => J (pc + 3) al r (G', w.2.1, w.2.2) c1 c2)
            | none => False
          | false => False
        | 6 => match f with
          | some _ => z_gset w.1 o j q 0 (fun G' => J (pc + 3) al r (G', w.2.1, w.2.2) c1 c2)
          | none => False
        | _ => False) := h
      obtain ⟨ci, j, tc, nest, fs, f, hm, hG1, hf, k⟩ := z_fld_ok h'
      obtain ⟨C, T, N, ty, g1, g2, g3, g4, g5, g6, g7, g8, g9, -, -, g12⟩ := O.2.1 _ hm
      have hin : ∀ w ∈ u_ws C T N, w ∈ Ts := fun w hw => hTT _ (g3 w hw)
      have he := z_ws_at (x := x) (ad := ad) hG1
      have hset : j < fs.length → (z_ws x ad w).set o (ad o, .inr (ci, (fs.mapIdx (fun k f => z_fv ad (w.2.1 o) k f)).set j (.ref (ad q)))) = z_ws x ad (w.1.set o (.inl (ci, fs.set j (some (some q)))), w.2.1, w.2.2) := fun hj => z_ws_set (List.getElem?_eq_some_iff.mp hG1).1 rfl (fun _ _ => rfl) (fun _ _ => rfl) (by show Sum.inr (ci, _) = Sum.inr (ci, _); rw [z_fv_ref hj])
      show W p l e R s m args below meth c H locs c1 c2 Q (F0 m pc ls (.ref (ad q) :: .ref (ad o) :: r.map (z_cv b ad)))
      match tc, k, g9, g12 with
      | 0, k, _, _ => exact k.elim
      | 1, k, _, _ => exact k.elim
      | 2, k, g9, _ =>
        cases hini : M.2.2.2.2.2.2.2.1 with
        | false =>
          rw [hini] at k
          exact k.elim
        | true =>
          rw [hini] at k
          dsimp only at k
          match f, k, hf with
          | none, k, _ => exact k.elim
          | some _, k, hf =>
            obtain ⟨ci2, fs2, e1, k⟩ := z_gset_ok k
            rw [hG1] at e1
            cases e1
            obtain ⟨g9a, g9b, g9c, g9d⟩ := g9 rfl
            have hset := hset (List.getElem?_eq_some_iff.mp hf).1
            have hjl : j < (fs.mapIdx (fun k f => z_fv ad (w.2.1 o) k f)).length := by simpa using (List.getElem?_eq_some_iff.mp hf).1
            rcases g6 with ⟨-, g6⟩ | ⟨g6, -⟩
            · refine va_putF (ty := ty j) (v := .ref (ad q)) hx hb hts hin ty g4 g5 hown hK.1 hP hD hS o he g1 j g2 (hts _ (hTT _ g6)) (fun _ z => z) g9b (hI hini) g9c (g4 j g2) ?_ ?_ hjl hd (fun H1 locs1 a1 a2 a3 => by rw [hset] at a1 a2; exact hJ _ _ _ _ _ _ k h1 h2 (by rw [List.length_set]; exact h3) ad _ _ _ hl a1 a2 a3 hG)
              · rcases g9a with ⟨n, g⟩ | ⟨n, g⟩ <;> rw [g] <;> rfl
              · rcases g9a with ⟨n, g⟩ | ⟨n, g⟩ <;> rw [g] <;> rfl
            · rw [g9d] at g6; cases g6
      | 3, k, _, _ => exact k.elim
      | 4, k, _, _ => exact k.elim
      | 5, k, _, _ => exact k.elim
      | 6, k, _, g12 =>
        match f, k, hf with
        | none, k, _ => exact k.elim
        | some _, k, hf =>
          obtain ⟨ci2, fs2, e1, k⟩ := z_gset_ok k
          rw [hG1] at e1
          cases e1
          obtain ⟨g9a, g9b⟩ := g12 rfl
          have hset := hset (List.getElem?_eq_some_iff.mp hf).1
          have hjl : j < (fs.mapIdx (fun k f => z_fv ad (w.2.1 o) k f)).length := by simpa using (List.getElem?_eq_some_iff.mp hf).1
          rcases g6 with ⟨-, g6⟩ | ⟨-, host, g6⟩
          · refine va_put (ty := ty j) (v := .ref (ad q)) hx hb hts hin ty g4 g5 hown hK.1 hP hD hS o he g1 j g2 (hts _ (hTT _ g6)) (fun _ z => z) g9b (g4 j g2) ?_ ?_ hjl hd (fun H1 locs1 a1 a2 a3 => by rw [hset] at a1 a2; exact hJ _ _ _ _ _ _ k h1 h2 (by rw [List.length_set]; exact h3) ad _ _ _ hl a1 a2 a3 hG)
            · rcases g9a with ⟨n, g⟩ | ⟨n, g⟩ <;> rw [g] <;> rfl
            · rcases g9a with ⟨n, g⟩ | ⟨n, g⟩ <;> rw [g] <;> rfl
          · refine va_putN (ty := ty j) (v := .ref (ad q)) hx hb hts hin ty g4 g5 hown hK.1 hP hD hS o he g1 j g2 (va_Nw.use rfl (hK.2 _ g6)) (fun _ z => z) g9b (g4 j g2) ?_ ?_ hjl hd (fun H1 locs1 a1 a2 a3 => by rw [hset] at a1 a2; exact hJ _ _ _ _ _ _ k h1 h2 (by rw [List.length_set]; exact h3) ad _ _ _ hl a1 a2 a3 hG)
            · rcases g9a with ⟨n, g⟩ | ⟨n, g⟩ <;> rw [g] <;> rfl
            · rcases g9a with ⟨n, g⟩ | ⟨n, g⟩ <;> rw [g] <;> rfl
      | _ + 7, k, _, _ => exact k.elim
    | [], h => exact h.elim
    | [.int _], h => exact h.elim
    | .int _ :: .int _ :: _, h => exact h.elim
    | .int _ :: .long _ :: _, h => exact h.elim
    | .int _ :: .float _ :: _, h => exact h.elim
    | .int _ :: .double _ :: _, h => exact h.elim
    | .int _ :: .null :: _, h => exact h.elim
    | .int _ :: .retAddr _ :: _, h => exact h.elim
    | [.ref _], h => exact h.elim
    | .ref _ :: .int _ :: _, h => exact h.elim
    | .ref _ :: .long _ :: _, h => exact h.elim
    | .ref _ :: .float _ :: _, h => exact h.elim
    | .ref _ :: .double _ :: _, h => exact h.elim
    | .ref _ :: .null :: _, h => exact h.elim
    | .ref _ :: .retAddr _ :: _, h => exact h.elim
    | .long _ :: _, h => exact h.elim
    | .float _ :: _, h => exact h.elim
    | .double _ :: _, h => exact h.elim
    | .null :: _, h => exact h.elim
    | .retAddr _ :: _, h => exact h.elim
  case iaload =>
    obtain ⟨hd, rfl, ht⟩ := z_dec hok rfl
    have key : ∀ (i : Int32) (o : Nat) (r : List Value), st = .int i :: .ref o :: r → z_arr w o (fun t n => match t with
            | 0 => vp_in i n ∧ J (pc + 1) al (.int (w.2.1 o i.toNatClampNeg) :: r) w c1 c2
            | _ => False) → W p l e R s m args below meth c H locs c1 c2 Q (F0 m pc ls (st.map (z_cv b ad))) := by
      intro i o r hst h
      subst hst
      obtain ⟨t, n, hG1, q⟩ := z_arr_ok h
      have he := z_ws_at (x := x) (ad := ad) hG1
      match t, q, he with
      | 0, q, he => exact va_iald hx hb hK.1 hP o 0 he rfl q.1 hd (go hl q.2)
      | 1, q, _ => exact q.elim
      | 2, q, _ => exact q.elim
      | 3, q, _ => exact q.elim
      | _ + 4, q, _ => exact q.elim
    match st, h with
    | .int i :: .ref o :: r, h => exact key i o r rfl h
    | .int i :: .float f :: r, h =>
      have h' : match M.2.2.2.2.2.2.2.2.1.1 with
        | true => vp_in i M.2.2.2.2.2.2.2.2.1.2.1 ∧ J (pc + 1) al (.int (M.2.2.2.2.2.2.2.2.1.2.2 i.toNatClampNeg) :: r) w c1 c2
        | false => False := h
      split at h'
      · rename_i e1
        obtain ⟨hX, hbl, hbA⟩ := hX e1
        exact va_sld hx hb hX hbl hbA hS h'.1 hd (go hl h'.2)
      · exact h'.elim
    | [], h => exact h.elim
    | [.int _], h => exact h.elim
    | .int _ :: .int _ :: _, h => exact h.elim
    | .int _ :: .long _ :: _, h => exact h.elim
    | .int _ :: .double _ :: _, h => exact h.elim
    | .int _ :: .null :: _, h => exact h.elim
    | .int _ :: .retAddr _ :: _, h => exact h.elim
    | .ref _ :: _, h => exact h.elim
    | .long _ :: _, h => exact h.elim
    | .float _ :: _, h => exact h.elim
    | .double _ :: _, h => exact h.elim
    | .null :: _, h => exact h.elim
    | .retAddr _ :: _, h => exact h.elim
  case baload =>
    obtain ⟨hd, rfl, ht⟩ := z_dec hok rfl
    have key : ∀ (i : Int32) (o : Nat) (r : List Value), st = .int i :: .ref o :: r → z_arr w o (fun t n => match t with
            | 2 => vp_in i n ∧ J (pc + 1) al (.int (w.2.1 o i.toNatClampNeg) :: r) w c1 c2
            | _ => False) → W p l e R s m args below meth c H locs c1 c2 Q (F0 m pc ls (st.map (z_cv b ad))) := by
      intro i o r hst h
      subst hst
      obtain ⟨t, n, hG1, q⟩ := z_arr_ok h
      have he := z_ws_at (x := x) (ad := ad) hG1
      match t, q, he with
      | 0, q, _ => exact q.elim
      | 1, q, _ => exact q.elim
      | 2, q, he => exact va_bald hx hb hK.1 hP o 2 he rfl q.1 hd (go hl q.2)
      | _ + 3, q, _ => exact q.elim
    match st, h with
    | .int i :: .ref o :: r, h => exact key i o r rfl h
    | .int i :: .retAddr 7 :: r, h => exact va_tb hx hb hC.2.2.2.1.2 hS h.1 rfl hd (go hl h.2)
    | [], h => exact h.elim
    | [.int _], h => exact h.elim
    | .int _ :: .int _ :: _, h => exact h.elim
    | .int _ :: .long _ :: _, h => exact h.elim
    | .int _ :: .float _ :: _, h => exact h.elim
    | .int _ :: .double _ :: _, h => exact h.elim
    | .int _ :: .null :: _, h => exact h.elim
    | .int _ :: .retAddr 0 :: _, h => exact h.elim
    | .int _ :: .retAddr 1 :: _, h => exact h.elim
    | .int _ :: .retAddr 2 :: _, h => exact h.elim
    | .int _ :: .retAddr 3 :: _, h => exact h.elim
    | .int _ :: .retAddr 4 :: _, h => exact h.elim
    | .int _ :: .retAddr 5 :: _, h => exact h.elim
    | .int _ :: .retAddr 6 :: _, h => exact h.elim
    | .int _ :: .retAddr (_ + 8) :: _, h => exact h.elim
    | .ref _ :: _, h => exact h.elim
    | .long _ :: _, h => exact h.elim
    | .float _ :: _, h => exact h.elim
    | .double _ :: _, h => exact h.elim
    | .null :: _, h => exact h.elim
    | .retAddr _ :: _, h => exact h.elim
  case laload =>
    obtain ⟨hd, rfl, ht⟩ := z_dec hok rfl
    have key : ∀ (i : Int32) (o : Nat) (r : List Value), st = .int i :: .ref o :: r → z_arr w o (fun t n => match t with
            | 1 => vp_in i n ∧ J (pc + 1) al (.long (w.2.2 o i.toNatClampNeg) :: r) w c1 c2
            | _ => False) → W p l e R s m args below meth c H locs c1 c2 Q (F0 m pc ls (st.map (z_cv b ad))) := by
      intro i o r hst h
      subst hst
      obtain ⟨t, n, hG1, q⟩ := z_arr_ok h
      have he := z_ws_at (x := x) (ad := ad) hG1
      match t, q, he with
      | 0, q, _ => exact q.elim
      | 1, q, he => exact va_lald hx hb hK.1 hP o 1 he rfl q.1 hd (go hl q.2)
      | 2, q, _ => exact q.elim
      | 3, q, _ => exact q.elim
      | _ + 4, q, _ => exact q.elim
    match st, h with
    | .int i :: .ref o :: r, h => exact key i o r rfl h
    | [], h => exact h.elim
    | [.int _], h => exact h.elim
    | .int _ :: .int _ :: _, h => exact h.elim
    | .int _ :: .long _ :: _, h => exact h.elim
    | .int _ :: .float _ :: _, h => exact h.elim
    | .int _ :: .double _ :: _, h => exact h.elim
    | .int _ :: .null :: _, h => exact h.elim
    | .int _ :: .retAddr _ :: _, h => exact h.elim
    | .ref _ :: _, h => exact h.elim
    | .long _ :: _, h => exact h.elim
    | .float _ :: _, h => exact h.elim
    | .double _ :: _, h => exact h.elim
    | .null :: _, h => exact h.elim
    | .retAddr _ :: _, h => exact h.elim
  case iastore =>
    obtain ⟨hd, rfl, ht⟩ := z_dec hok rfl
    have key : ∀ (a : Int32) (i : Int32) (o : Nat) (r : List Value), st = .int a :: .int i :: .ref o :: r → z_arr w o (fun t n => match t with
            | 0 => vp_in i n ∧ J (pc + 1) al r (w.1, z_up w.2.1 o i.toNatClampNeg a, w.2.2) c1 c2
            | _ => False) → W p l e R s m args below meth c H locs c1 c2 Q (F0 m pc ls (st.map (z_cv b ad))) := by
      intro a i o r hst h
      subst hst
      obtain ⟨t, n, hG1, q⟩ := z_arr_ok h
      have he := z_ws_at (x := x) (ad := ad) hG1
      match t, q, he, hG1 with
      | 0, q, he, hG1 =>
        have hset := z_ws_upi (x := x) (ad := ad) (wi := w.2.1) (wl := w.2.2) (i := i.toNatClampNeg) (v := a) hG1 rfl
        exact va_iast hx hb hK.1 hP hD hS o 0 he rfl q.1 hd (fun H1 locs1 a1 a2 a3 => gi hl q.2 (by rw [← hset]; exact a1) (by rw [← hset]; exact a2) a3)
      | 1, q, _, _ => exact q.elim
      | 2, q, _, _ => exact q.elim
      | 3, q, _, _ => exact q.elim
      | _ + 4, q, _, _ => exact q.elim
    match st, h with
    | .int a :: .int i :: .ref o :: r, h => exact key a i o r rfl h
    | [], h => exact h.elim
    | [.int _], h => exact h.elim
    | [.int _, .int _], h => exact h.elim
    | .int _ :: .int _ :: .int _ :: _, h => exact h.elim
    | .int _ :: .int _ :: .long _ :: _, h => exact h.elim
    | .int _ :: .int _ :: .float _ :: _, h => exact h.elim
    | .int _ :: .int _ :: .double _ :: _, h => exact h.elim
    | .int _ :: .int _ :: .null :: _, h => exact h.elim
    | .int _ :: .int _ :: .retAddr _ :: _, h => exact h.elim
    | .int _ :: .long _ :: _, h => exact h.elim
    | .int _ :: .float _ :: _, h => exact h.elim
    | .int _ :: .double _ :: _, h => exact h.elim
    | .int _ :: .null :: _, h => exact h.elim
    | .int _ :: .ref _ :: _, h => exact h.elim
    | .int _ :: .retAddr _ :: _, h => exact h.elim
    | .long _ :: _, h => exact h.elim
    | .float _ :: _, h => exact h.elim
    | .double _ :: _, h => exact h.elim
    | .null :: _, h => exact h.elim
    | .ref _ :: _, h => exact h.elim
    | .retAddr _ :: _, h => exact h.elim
  case bastore =>
    obtain ⟨hd, rfl, ht⟩ := z_dec hok rfl
    have key : ∀ (a : Int32) (i : Int32) (o : Nat) (r : List Value), st = .int a :: .int i :: .ref o :: r → z_arr w o (fun t n => match t with
            | 2 => vp_in i n ∧ J (pc + 1) al r (w.1, z_up w.2.1 o i.toNatClampNeg (vp_nar .byte a), w.2.2) c1 c2
            | _ => False) → W p l e R s m args below meth c H locs c1 c2 Q (F0 m pc ls (st.map (z_cv b ad))) := by
      intro a i o r hst h
      subst hst
      obtain ⟨t, n, hG1, q⟩ := z_arr_ok h
      have he := z_ws_at (x := x) (ad := ad) hG1
      match t, q, he, hG1 with
      | 0, q, _, _ => exact q.elim
      | 1, q, _, _ => exact q.elim
      | 2, q, he, hG1 =>
        have hset := z_ws_upi (x := x) (ad := ad) (wi := w.2.1) (wl := w.2.2) (i := i.toNatClampNeg) (v := (vp_nar .byte a)) hG1 rfl
        exact va_bast hx hb hK.1 hP hD hS o 2 he rfl q.1 hd (fun H1 locs1 a1 a2 a3 => gi hl q.2 (by rw [← hset]; exact a1) (by rw [← hset]; exact a2) a3)
      | _ + 3, q, _, _ => exact q.elim
    match st, h with
    | .int a :: .int i :: .ref o :: r, h => exact key a i o r rfl h
    | [], h => exact h.elim
    | [.int _], h => exact h.elim
    | [.int _, .int _], h => exact h.elim
    | .int _ :: .int _ :: .int _ :: _, h => exact h.elim
    | .int _ :: .int _ :: .long _ :: _, h => exact h.elim
    | .int _ :: .int _ :: .float _ :: _, h => exact h.elim
    | .int _ :: .int _ :: .double _ :: _, h => exact h.elim
    | .int _ :: .int _ :: .null :: _, h => exact h.elim
    | .int _ :: .int _ :: .retAddr _ :: _, h => exact h.elim
    | .int _ :: .long _ :: _, h => exact h.elim
    | .int _ :: .float _ :: _, h => exact h.elim
    | .int _ :: .double _ :: _, h => exact h.elim
    | .int _ :: .null :: _, h => exact h.elim
    | .int _ :: .ref _ :: _, h => exact h.elim
    | .int _ :: .retAddr _ :: _, h => exact h.elim
    | .long _ :: _, h => exact h.elim
    | .float _ :: _, h => exact h.elim
    | .double _ :: _, h => exact h.elim
    | .null :: _, h => exact h.elim
    | .ref _ :: _, h => exact h.elim
    | .retAddr _ :: _, h => exact h.elim
  case lastore =>
    obtain ⟨hd, rfl, ht⟩ := z_dec hok rfl
    have key : ∀ (a : Int64) (i : Int32) (o : Nat) (r : List Value), st = .long a :: .int i :: .ref o :: r → z_arr w o (fun t n => match t with
            | 1 => vp_in i n ∧ J (pc + 1) al r (w.1, w.2.1, z_up w.2.2 o i.toNatClampNeg a) c1 c2
            | _ => False) → W p l e R s m args below meth c H locs c1 c2 Q (F0 m pc ls (st.map (z_cv b ad))) := by
      intro a i o r hst h
      subst hst
      obtain ⟨t, n, hG1, q⟩ := z_arr_ok h
      have he := z_ws_at (x := x) (ad := ad) hG1
      match t, q, he, hG1 with
      | 0, q, _, _ => exact q.elim
      | 1, q, he, hG1 =>
        have hset := z_ws_upl (x := x) (ad := ad) (wi := w.2.1) (wl := w.2.2) (i := i.toNatClampNeg) (v := a) hG1 rfl
        exact va_last hx hb hK.1 hP hD hS o 1 he rfl q.1 hd (fun H1 locs1 a1 a2 a3 => hJ _ _ _ _ _ _ q.2 h1 h2 h3 ad _ _ _ hl (by rw [← hset]; exact a1) (by rw [← hset]; exact a2) a3 hG)
      | 2, q, _, _ => exact q.elim
      | 3, q, _, _ => exact q.elim
      | _ + 4, q, _, _ => exact q.elim
    match st, h with
    | .long a :: .int i :: .ref o :: r, h => exact key a i o r rfl h
    | [], h => exact h.elim
    | [.long _], h => exact h.elim
    | [.long _, .int _], h => exact h.elim
    | .long _ :: .int _ :: .int _ :: _, h => exact h.elim
    | .long _ :: .int _ :: .long _ :: _, h => exact h.elim
    | .long _ :: .int _ :: .float _ :: _, h => exact h.elim
    | .long _ :: .int _ :: .double _ :: _, h => exact h.elim
    | .long _ :: .int _ :: .null :: _, h => exact h.elim
    | .long _ :: .int _ :: .retAddr _ :: _, h => exact h.elim
    | .long _ :: .long _ :: _, h => exact h.elim
    | .long _ :: .float _ :: _, h => exact h.elim
    | .long _ :: .double _ :: _, h => exact h.elim
    | .long _ :: .null :: _, h => exact h.elim
    | .long _ :: .ref _ :: _, h => exact h.elim
    | .long _ :: .retAddr _ :: _, h => exact h.elim
    | .int _ :: _, h => exact h.elim
    | .float _ :: _, h => exact h.elim
    | .double _ :: _, h => exact h.elim
    | .null :: _, h => exact h.elim
    | .ref _ :: _, h => exact h.elim
    | .retAddr _ :: _, h => exact h.elim
  case arraylength =>
    obtain ⟨hd, rfl, ht⟩ := z_dec hok rfl
    match st, h with
    | .ref o :: r, h =>
      obtain ⟨t, n, hG1, q⟩ := z_arr_ok h
      have he := z_ws_at (x := x) (ad := ad) hG1
      match t, he with
      | 0, he => exact va_alen hx hb hK.1 hP o 0 he rfl rfl hd (go hl q)
      | 1, he => exact va_alen hx hb hK.1 hP o 1 he rfl rfl hd (go hl q)
      | 2, he => exact va_alen hx hb hK.1 hP o 2 he rfl rfl hd (go hl q)
      | _ + 3, he => exact va_alen hx hb hK.1 hP o 2 he rfl rfl hd (go hl q)
    | .float f :: r, h =>
      have h' : match M.2.2.2.2.2.2.2.2.1.1 with
        | true => J (pc + 1) al (.int (nI M.2.2.2.2.2.2.2.2.1.2.1) :: r) w c1 c2
        | false => False := h
      split at h'
      · rename_i e1
        obtain ⟨hX, hbl, hbA⟩ := hX e1
        exact va_slen hx hb hX hbl hbA hS hd (go hl h')
      · exact h'.elim
    | .retAddr c :: r, h =>
      have h' : match z_cb c with
        | true => J (pc + 1) al (.int (nI (z_cl c).length) :: r) w c1 c2
        | false => False := h
      split at h'
      · rename_i e1
        unfold z_cb at e1
        split at e1
        · exact va_tlen hx hb (hC.1.1 0 (by decide)).2.2.2 hS rfl hd (go hl h')
        · exact va_tlen hx hb (hC.1.1 1 (by decide)).2.2.2 hS rfl hd (go hl h')
        · exact va_tlen hx hb (hC.1.1 2 (by decide)).2.2.2 hS rfl hd (go hl h')
        · cases e1
      · exact h'.elim
    | [], h => exact h.elim
    | .int _ :: _, h => exact h.elim
    | .long _ :: _, h => exact h.elim
    | .double _ :: _, h => exact h.elim
    | .null :: _, h => exact h.elim
  case tableswitch d0 lo0 hi0 offs =>
    obtain ⟨len, hd⟩ := z_decw hok
    have h' : match z_look M.2.2.2.2.1 pc with
      | some (lo, d, ts) => z_i1 st (fun a r => z_sw pc a r (fun t => J t al r w c1 c2) lo ts ∧ ((a.toInt < lo ∨ lo + ts.length ≤ a.toInt) → J d al r w c1 c2))
      | none => False := h
    split at h'
    · rename_i lo d ts e1
      have h4 := O.2.2.2.2.2.2.1 _ (z_look_mem e1)
      obtain ⟨a, r, rfl, q1, q2⟩ := z_i1_ok h'
      unfold z_sokb at h4
      dsimp only at h4
      rw [hd] at h4
      simp only [Bool.and_eq_true, decide_eq_true_eq] at h4
      obtain ⟨rfl, hhi, hdf, hof⟩ := h4
      by_cases hlo : a.toInt < lo0
      · exact lv_tableOut hx hb hd (Or.inl hlo) hdf (go hl (q2 (Or.inl hlo)))
      · by_cases hhi2 : hi0 < a.toInt
        · exact lv_tableOut hx hb hd (Or.inr hhi2) hdf (go hl (q2 (Or.inr (by omega))))
        · have hlen2 : offs.toList.length = ts.length := by have := congrArg List.length hof; simpa using this
          have hj : (a.toInt - lo0).toNat < offs.toList.length := by omega
          have ho : offs[(a.toInt - lo0).toNat]? = some (offs.toList[(a.toInt - lo0).toNat]'hj) := by rw [← Array.getElem?_toList, List.getElem?_eq_getElem hj]
          have ht2 : (pc : Int) + offs.toList[(a.toInt - lo0).toNat]'hj = ((ts[(a.toInt - lo0).toNat]'(by omega) : Nat) : Int) := by
            have h5 := congrArg (fun l => l[(a.toInt - lo0).toNat]?) hof
            simp only [List.getElem?_map] at h5
            rw [List.getElem?_eq_getElem hj, List.getElem?_eq_getElem (by omega)] at h5
            simpa using h5
          refine lv_tableIn hx hb hd hlo hhi2 ho ht2 (go hl (z_sw_at (a := a) (J := fun t => J t al r w c1 c2) ts lo0 _ q1 (by omega) ?_))
          rw [show lo0 + ((a.toInt - lo0).toNat : Int) = a.toInt by omega]
          exact (Int32.ofInt_toInt a).symm
    · exact h'.elim
  case ireturn =>
    obtain ⟨hd, rfl, ht⟩ := z_dec hok rfl
    match st, h with
    | [.int a], h => exact hR _ w h.2 ad H locs ls pc c1 c2 h1 h2 h3 hP hD hS hG (Or.inl ⟨a, rfl, hd, h.1⟩)
    | [], h => exact h.elim
    | .int _ :: _ :: _, h => exact h.elim
    | .long _ :: _, h => exact h.elim
    | .float _ :: _, h => exact h.elim
    | .double _ :: _, h => exact h.elim
    | .null :: _, h => exact h.elim
    | .ref _ :: _, h => exact h.elim
    | .retAddr _ :: _, h => exact h.elim
  case lreturn =>
    obtain ⟨hd, rfl, ht⟩ := z_dec hok rfl
    match st, h with
    | [.long a], h =>
      have h' : match M.2.2.2.2.2.2.1 with
        | 3 => post (some (.long a)) w
        | _ => False := h
      split at h'
      · rename_i e1
        exact hR _ w h' ad H locs ls pc c1 c2 h1 h2 h3 hP hD hS hG (Or.inr (Or.inl ⟨a, rfl, hd, e1⟩))
      · exact h'.elim
    | [], h => exact h.elim
    | .long _ :: _ :: _, h => exact h.elim
    | .int _ :: _, h => exact h.elim
    | .float _ :: _, h => exact h.elim
    | .double _ :: _, h => exact h.elim
    | .null :: _, h => exact h.elim
    | .ref _ :: _, h => exact h.elim
    | .retAddr _ :: _, h => exact h.elim
  case return_ =>
    obtain ⟨hd, rfl, ht⟩ := z_dec hok rfl
    match st, h with
    | [], h =>
      have h' : match M.2.2.2.2.2.2.1 with
        | 0 => post none w
        | _ => False := h
      split at h'
      · rename_i e1
        exact hR _ w h' ad H locs ls pc c1 c2 h1 h2 h3 hP hD hS hG (Or.inr (Or.inr (Or.inl ⟨rfl, hd, e1⟩)))
      · exact h'.elim
    | _ :: _, h => exact h.elim
  case invokestatic i =>
    obtain ⟨hd, rfl, ht⟩ := z_dec hok rfl
    exact hcall J hJ 0 i pc al st w c1 c2 h (Or.inl ⟨rfl, hd⟩) h1 h2 h3 ad H locs ls hl hP hD hS hG
  case invokevirtual i =>
    obtain ⟨hd, rfl, ht⟩ := z_dec hok rfl
    exact hcall J hJ 1 i pc al st w c1 c2 h (Or.inr (Or.inl ⟨rfl, hd⟩)) h1 h2 h3 ad H locs ls hl hP hD hS hG
  case invokespecial i =>
    obtain ⟨hd, rfl, ht⟩ := z_dec hok rfl
    exact hcall J hJ 2 i pc al st w c1 c2 h (Or.inr (Or.inr ⟨rfl, hd⟩)) h1 h2 h3 ad H locs ls hl hP hD hS hG
  case new i =>
    obtain ⟨hd, rfl, ht⟩ := z_dec hok rfl
    have h' : match z_look M.2.2.2.1.2.2 i with
      | some (ci, fs) => (c1 + 1 ≤ M.2.2.2.2.2.2.2.2.2.1 ∧ c2 + fs.length ≤ M.2.2.2.2.2.2.2.2.2.2.1) ∧ ((z_wfl w.1.length al && (z_wfs w.1.length st && z_wfg w.1.length w.1)) = true ∧ z_psh w.1 (.inl (ci, fs)) 0 (fun G' n => J (pc + 3) al (.ref n :: st) (G', z_row w.2.1 n (fun _ => 0), w.2.2) (c1 + 1) (c2 + fs.length)))
      | none => False := h
    split at h'
    · rename_i ci fs e1
      obtain ⟨C, T, N, ty, g1, g3, g4, g5, g6, g7, g8, g9⟩ := O.2.2.2.2.2.1 _ (z_look_mem e1)
      obtain ⟨⟨r1, r2⟩, hwf, q⟩ := h'
      rw [O.2.2.2.2.2.2.2.1] at r1
      rw [O.2.2.2.2.2.2.2.2.1] at r2
      · simp only [Bool.and_eq_true] at hwf
        obtain ⟨wf1, wf2, wf3⟩ := hwf
        have q := z_psh_ok q
        rw [Nat.zero_add] at q
        have hin : ∀ w ∈ u_ws C T N, w ∈ Ts := fun w hw => hTT _ (g3 w hw)
        dsimp only at g8
        have hdef : ∀ j, j < N → defaultValue (ty j) = vp_V (fs.mapIdx (fun k f => z_fv ad (fun _ => 0) k f)) j := by
          intro j hj
          have hz := g9 j hj
          dsimp only at hz
          rcases hz with ⟨z1, z2⟩ | ⟨z1, z2⟩
          · unfold vp_V
            rw [List.getD_eq_getElem?_getD, List.getElem?_mapIdx, z1]
            rcases z2 with z2 | z2 | z2 <;> rw [z2] <;> rfl
          · unfold vp_V
            rw [List.getD_eq_getElem?_getD, List.getElem?_mapIdx, z1]
            rcases z2 with ⟨n, z2⟩ | ⟨n, z2⟩ <;> rw [z2] <;> rfl
        refine va_new hx hb hts hin ty g4 hown (hts _ (hTT _ g5)) (hts _ (hTT _ g6)) (hts _ (hTT _ g7)) hK.1 hP hD hS hA g1 hdef r1 (by rw [← g8]; exact r2) hd (fun qn H1 a1 a2 a3 => ?_)
        have hag : ∀ k, k < w.1.length → (fun k => if k = w.1.length then qn else ad k) k = ad k := fun k hk => if_neg (by omega)
        have hfs : fs.mapIdx (fun k f => z_fv ad (fun _ => 0) k f) = fs.mapIdx (fun k f => z_fv (fun k => if k = w.1.length then qn else ad k) (fun _ => 0) k f) := by
          apply List.ext_getElem?
          intro j
          rw [List.getElem?_mapIdx, List.getElem?_mapIdx]
          by_cases hj : j < N
          · have hz := g9 j hj
            dsimp only at hz
            rcases hz with ⟨z1, -⟩ | ⟨z1, -⟩ <;> rw [z1] <;> rfl
          · rw [List.getElem?_eq_none (by omega)]; rfl
        have hz0 : z_row w.2.1 w.1.length (fun _ => (0 : Int32)) w.1.length = fun _ => 0 := by funext z; simp [z_row]
        have hpush := z_ws_push (x := x) (ad := ad) (ad' := fun k => if k = w.1.length then qn else ad k) (G := w.1) (wi := w.2.1) (wi' := z_row w.2.1 w.1.length (fun _ => 0)) (wl := w.2.2) (wl' := w.2.2) (q := qn) (sh := .inl (ci, fs)) (E := .inr (ci, fs.mapIdx (fun k f => z_fv ad (fun _ => 0) k f))) wf3 hag (if_pos rfl) (fun o ho => by funext i'; simp [z_row, Nat.ne_of_lt ho]) (fun _ _ => rfl) (by rw [hz0, hfs]; rfl)
        rw [hpush] at a1 a2
        have := hJ _ _ _ _ _ _ q r1 r2 (by show n0 ≤ (w.1 ++ [_]).length; rw [List.length_append]; omega) (fun k => if k = w.1.length then qn else ad k) H1 locs ls (hl.agree hag wf1) a1 a2 a3 ⟨fun k hk => (hag k (by omega)).trans (hG.1 k hk), fun hz => by omega⟩
        rw [List.map_cons, z_cvs_agree hag wf2] at this
        rw [← g8]
        have e9 : z_cv b (fun k => if k = w.1.length then qn else ad k) (Value.ref w.1.length) = Value.ref qn := by show Value.ref (if w.1.length = w.1.length then qn else ad w.1.length) = Value.ref qn; rw [if_pos rfl]
        rw [e9] at this
        exact this
    · exact h'.elim
  case newarray t =>
    obtain ⟨hd, rfl, ht⟩ := z_dec hok rfl
    obtain ⟨a, r, rfl, N, rfl, hN, ⟨r1, r2⟩, hwf, q⟩ := z_i1_ok h
    rw [O.2.2.2.2.2.2.2.1] at r1
    rw [O.2.2.2.2.2.2.2.2.1] at r2
    · simp only [Bool.and_eq_true] at hwf
      obtain ⟨wf1, wf2, wf3⟩ := hwf
      have hn : ¬ nI N < 0 := nI_pos (by omega)
      have hcl : (nI N).toNatClampNeg = N := nI_clamp (by omega)
      match t, q with
      | .int, q =>
        have q := z_psh_ok q
        rw [Nat.zero_add] at q
        refine va_newa (atype := .int) (ty := .int) (a0 := (N, .inl (fun _ => 0))) hx hb (hts _ (hTT _ zTT_int)) rfl hK.1 hP hD hS hA (fun cA => rfl) hn hcl (Nat.le_trans (Nat.mul_le_mul_right _ hN) (by decide)) r1 r2 hd (fun qn cA H1 hK1 a1 a2 a3 => ?_)
        have hcA : cA = x.2.1 := by
          have k1 := (hK1.2 3 (cA, .int) rfl).2
          have k2 := (hK.1.2 0 (x.2.1, .int) rfl).2
          exact Option.some.inj (k1.symm.trans k2)
        subst hcA
        have hag : ∀ k, k < w.1.length → (fun k => if k = w.1.length then qn else ad k) k = ad k := fun k hk => if_neg (by omega)
        have hz0 : z_row w.2.1 w.1.length (fun _ => (0 : Int32)) w.1.length = fun _ => 0 := by funext z; simp [z_row]
        have hpush := z_ws_push (x := x) (ad := ad) (ad' := fun k => if k = w.1.length then qn else ad k) (G := w.1) (wi := w.2.1) (wi' := z_row w.2.1 w.1.length (fun _ => 0)) (wl := w.2.2) (wl' := w.2.2) (q := qn) (sh := .inr (0, N)) (E := .inl (x.2.1, N, .inl (fun _ => 0))) wf3 hag (if_pos rfl) (fun o ho => by funext i'; simp [z_row, Nat.ne_of_lt ho]) (fun _ _ => rfl) (by rw [hz0]; rfl)
        rw [hpush] at a1 a2
        have := hJ _ _ _ _ _ _ q r1 r2 (by show n0 ≤ (w.1 ++ [_]).length; rw [List.length_append]; omega) (fun k => if k = w.1.length then qn else ad k) H1 locs ls (hl.agree hag wf1) a1 a2 a3 ⟨fun k hk => (hag k (by omega)).trans (hG.1 k hk), fun hz => by omega⟩
        rw [List.map_cons, z_cvs_agree hag wf2] at this
        have e9 : z_cv b (fun k => if k = w.1.length then qn else ad k) (Value.ref w.1.length) = Value.ref qn := by show Value.ref (if w.1.length = w.1.length then qn else ad w.1.length) = Value.ref qn; rw [if_pos rfl]
        rw [e9] at this
        exact this
      | .long, q =>
        have q := z_psh_ok q
        rw [Nat.zero_add] at q
        refine va_newa (atype := .long) (ty := .long) (a0 := (N, .inr (.inl (fun _ => 0)))) hx hb (hts _ (hTT _ zTT_long)) rfl hK.1 hP hD hS hA (fun cA => rfl) hn hcl (Nat.le_trans (Nat.mul_le_mul_right _ hN) (by decide)) r1 r2 hd (fun qn cA H1 hK1 a1 a2 a3 => ?_)
        have hcA : cA = x.2.2.1 := by
          have k1 := (hK1.2 3 (cA, .long) rfl).2
          have k2 := (hK.1.2 1 (x.2.2.1, .long) rfl).2
          exact Option.some.inj (k1.symm.trans k2)
        subst hcA
        have hag : ∀ k, k < w.1.length → (fun k => if k = w.1.length then qn else ad k) k = ad k := fun k hk => if_neg (by omega)
        have hz0 : z_row w.2.2 w.1.length (fun _ => (0 : Int64)) w.1.length = fun _ => 0 := by funext z; simp [z_row]
        have hpush := z_ws_push (x := x) (ad := ad) (ad' := fun k => if k = w.1.length then qn else ad k) (G := w.1) (wi := w.2.1) (wi' := w.2.1) (wl := w.2.2) (wl' := z_row w.2.2 w.1.length (fun _ => 0)) (q := qn) (sh := .inr (1, N)) (E := .inl (x.2.2.1, N, .inr (.inl (fun _ => 0)))) wf3 hag (if_pos rfl) (fun _ _ => rfl) (fun o ho => by funext i'; simp [z_row, Nat.ne_of_lt ho]) (by rw [hz0]; rfl)
        rw [hpush] at a1 a2
        have := hJ _ _ _ _ _ _ q r1 r2 (by show n0 ≤ (w.1 ++ [_]).length; rw [List.length_append]; omega) (fun k => if k = w.1.length then qn else ad k) H1 locs ls (hl.agree hag wf1) a1 a2 a3 ⟨fun k hk => (hag k (by omega)).trans (hG.1 k hk), fun hz => by omega⟩
        rw [List.map_cons, z_cvs_agree hag wf2] at this
        have e9 : z_cv b (fun k => if k = w.1.length then qn else ad k) (Value.ref w.1.length) = Value.ref qn := by show Value.ref (if w.1.length = w.1.length then qn else ad w.1.length) = Value.ref qn; rw [if_pos rfl]
        rw [e9] at this
        exact this
      | .byte, q =>
        have q := z_psh_ok q
        rw [Nat.zero_add] at q
        refine va_newa (atype := .byte) (ty := .byte) (a0 := (N, .inl (fun _ => 0))) hx hb (hts _ (hTT _ zTT_byte)) rfl hK.1 hP hD hS hA (fun cA => rfl) hn hcl (Nat.le_trans (Nat.mul_le_mul_right _ hN) (by decide)) r1 r2 hd (fun qn cA H1 hK1 a1 a2 a3 => ?_)
        have hcA : cA = x.2.2.2.1 := by
          have k1 := (hK1.2 3 (cA, .byte) rfl).2
          have k2 := (hK.1.2 2 (x.2.2.2.1, .byte) rfl).2
          exact Option.some.inj (k1.symm.trans k2)
        subst hcA
        have hag : ∀ k, k < w.1.length → (fun k => if k = w.1.length then qn else ad k) k = ad k := fun k hk => if_neg (by omega)
        have hz0 : z_row w.2.1 w.1.length (fun _ => (0 : Int32)) w.1.length = fun _ => 0 := by funext z; simp [z_row]
        have hpush := z_ws_push (x := x) (ad := ad) (ad' := fun k => if k = w.1.length then qn else ad k) (G := w.1) (wi := w.2.1) (wi' := z_row w.2.1 w.1.length (fun _ => 0)) (wl := w.2.2) (wl' := w.2.2) (q := qn) (sh := .inr (2, N)) (E := .inl (x.2.2.2.1, N, .inl (fun _ => 0))) wf3 hag (if_pos rfl) (fun o ho => by funext i'; simp [z_row, Nat.ne_of_lt ho]) (fun _ _ => rfl) (by rw [hz0]; rfl)
        rw [hpush] at a1 a2
        have := hJ _ _ _ _ _ _ q r1 r2 (by show n0 ≤ (w.1 ++ [_]).length; rw [List.length_append]; omega) (fun k => if k = w.1.length then qn else ad k) H1 locs ls (hl.agree hag wf1) a1 a2 a3 ⟨fun k hk => (hag k (by omega)).trans (hG.1 k hk), fun hz => by omega⟩
        rw [List.map_cons, z_cvs_agree hag wf2] at this
        have e9 : z_cv b (fun k => if k = w.1.length then qn else ad k) (Value.ref w.1.length) = Value.ref qn := by show Value.ref (if w.1.length = w.1.length then qn else ad w.1.length) = Value.ref qn; rw [if_pos rfl]
        rw [e9] at this
        exact this
      | .boolean, q => exact q.elim
      | .char, q => exact q.elim
      | .float, q => exact q.elim
      | .double, q => exact q.elim
      | .short, q => exact q.elim
  all_goals exact (h : False).elim
end ZS
