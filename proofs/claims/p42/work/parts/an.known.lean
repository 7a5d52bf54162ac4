/-! what the machine holds at the entry -/
theorem zNW_tb : ∀ w ∈ zNW, w ∈ lw_tbl := by decide +kernel
theorem zNW_ot : ∀ w ∈ zNW, w.onTables = true := by decide +kernel
theorem sel_priv {C : String} {y y0 : MethodName} {s : State} {args : Array Value} (hy : y.cls ≠ "java/lang/invoke/MethodHandle" ∧ y.cls ≠ "java/lang/invoke/VarHandle") (hc : y0.cls = y.cls) (h0 : (Cond.selects C y0 y0).before args s = true) (hpriv : (Cond.privateMethod y).before args s = true) (hinst : (Cond.instanceMethod y).before args s = true) : (Cond.selects C y y).before args s = true := by
  obtain ⟨c2, r2, m2, g1, g2, g3, g4, kP, hkP, hkPi⟩ := Cond.selects_spec h0
  obtain ⟨mk, methM, hnamed, hmethM, -, -⟩ := Cond.instanceMethod_spec hinst
  have hfound := State.methodFound?_of_named hnamed hy
  have e1 := findClass_of_methodNamed hnamed
  have e2 := findClass_of_methodNamed g3
  rw [hc] at e2
  have hcls : mk.cls = m2.cls := Option.some.inj (e1.symm.trans e2)
  have hsel : selectMethod {} s.vm c2 mk = .method mk := selectMethod_private hmethM (Cond.privateMethod_at hpriv mk methM hnamed hmethM)
  simp only [Cond.before, Cond.holds, Cond.value, g1, hfound, hnamed, hsel, hcls, hkP]
  simp
  exact hkPi
theorem zXP_ok : ∀ y ∈ zXP, (y.cls ≠ "java/lang/invoke/MethodHandle" ∧ y.cls ≠ "java/lang/invoke/VarHandle") ∧ yJ5_isLatin1_aae02.cls = y.cls ∧ Cond.privateMethod y ∈ lw_tbl ∧ Cond.instanceMethod y ∈ lw_tbl := by decide +kernel
theorem zTBL_ok {s : State} {args : Array Value} (hts : ∀ w ∈ lw_tbl, w.before args s = true) : ∀ w ∈ zTBL, w.before args s = true := by
  intro w hw
  rcases List.mem_append.mp hw with hw | hw
  · obtain ⟨y, hy, rfl⟩ := List.mem_map.mp hw
    obtain ⟨h1, h2, h3, h4⟩ := zXP_ok y hy
    exact sel_priv h1 h2 (hts (Cond.selects RJ4 yJ5_isLatin1_aae02 yJ5_isLatin1_aae02) (by decide +kernel)) (hts _ h3) (hts _ h4)
  · exact hts w hw
theorem law_K {s : State} {args : Array Value} (hts : ∀ w ∈ zTBL, w.before args s = true) : ∃ x : zX, z_KK x s := by
  have hz : ∀ w ∈ zTT, w.before args s = true := fun w hw => hts w (zTT_tbl hw)
  obtain ⟨c0, i0, h0⟩ := u_known (C := RX0) (T := TX0) (N := 7) (n := 7) hz inX0 (hz _ wt_193)
  obtain ⟨c1, i1, h1⟩ := u_known (C := RX1) (T := TX1) (N := 1) (n := 1) hz inX1 (hz _ wt_159)
  obtain ⟨c2, i2, h2⟩ := u_known (C := RX3) (T := TX3) (N := 1) (n := 1) hz inX3 (hz _ wt_70)
  obtain ⟨c3, i3, h3⟩ := u_known (C := RX4) (T := TX4) (N := 2) (n := 2) hz inX4 (hz _ wt_172)
  obtain ⟨c4, i4, h4⟩ := u_known (C := RX5) (T := TX5) (N := 6) (n := 6) hz inX5 (hz _ wt_241)
  obtain ⟨c5, i5, h5⟩ := u_known (C := RX6) (T := TX6) (N := 6) (n := 6) hz inX6 (hz _ wt_111)
  obtain ⟨c6, i6, h6⟩ := u_known (C := RX7) (T := TX7) (N := 3) (n := 3) hz inX7 (hz _ wt_187)
  obtain ⟨c7, i7, h7⟩ := u_known (C := RX8) (T := TX8) (N := 4) (n := 4) hz inX8 (hz _ wt_64)
  obtain ⟨c8, i8, h8⟩ := u_known (C := RX9) (T := TX9) (N := 2) (n := 2) hz inX9 (hz _ wt_96)
  obtain ⟨c9, i9, h9⟩ := u_known (C := RX11) (T := TX11) (N := 11) (n := 11) hz inX11 (hz _ wt_56)
  obtain ⟨c10, i10, h10⟩ := u_known (C := RJ0) (T := TJ0) (N := 4) (n := 4) hz inJ0 (hz _ wt_1175)
  obtain ⟨c11, i11, h11⟩ := u_known (C := RJ4) (T := TJ4) (N := 4) (n := 4) hz inJ4 (hz _ wt_1024)
  obtain ⟨a_int, k_int, p_int, n_int, f_int, g_int⟩ := Cond.arrayClass_spec (hz _ zTT_int)
  obtain ⟨a_long, k_long, p_long, n_long, f_long, g_long⟩ := Cond.arrayClass_spec (hz _ zTT_long)
  obtain ⟨a_byte, k_byte, p_byte, n_byte, f_byte, g_byte⟩ := Cond.arrayClass_spec (hz _ zTT_byte)
  refine ⟨((fun k => match k with
    | 0 => c0
    | 1 => c1
    | 2 => c2
    | 3 => c3
    | 4 => c4
    | 5 => c5
    | 6 => c6
    | 7 => c7
    | 8 => c8
    | 9 => c9
    | 10 => c10
    | _ => c11, fun k => match k with
    | 0 => i0
    | 1 => i1
    | 2 => i2
    | 3 => i3
    | 4 => i4
    | 5 => i5
    | 6 => i6
    | 7 => i7
    | 8 => i8
    | 9 => i9
    | 10 => i10
    | _ => i11), a_int, a_long, a_byte, a_byte), ⟨?_, ?_⟩, fun w hw => va_Nw.of (zNW_ot w hw) (hts w (List.mem_append_right _ (zNW_tb w hw)))⟩
  · intro k q hq
    match k, hq with
    | 0, hq => cases hq; exact h0
    | 1, hq => cases hq; exact h1
    | 2, hq => cases hq; exact h2
    | 3, hq => cases hq; exact h3
    | 4, hq => cases hq; exact h4
    | 5, hq => cases hq; exact h5
    | 6, hq => cases hq; exact h6
    | 7, hq => cases hq; exact h7
    | 8, hq => cases hq; exact h8
    | 9, hq => cases hq; exact h9
    | 10, hq => cases hq; exact h10
    | 11, hq => cases hq; exact h11
    | k + 12, hq => simp [vwCl] at hq
  · intro k q hq
    match k, hq with
    | 0, hq => cases hq; exact ⟨fun n z => ⟨fun k h => (by cases h), k_int, f_int, p_int, g_int⟩, n_int⟩
    | 1, hq => cases hq; exact ⟨fun n z => ⟨fun k h => (by cases h), k_long, f_long, p_long, g_long⟩, n_long⟩
    | 2, hq => cases hq; exact ⟨fun n z => ⟨fun k h => (by cases h), k_byte, f_byte, p_byte, g_byte⟩, n_byte⟩
    | k + 3, hq => simp [z_tys] at hq

