/-! the law: its tables, its state, its head and its end -/
def lawK : Option Value → zW → Prop := fun r _ => r = some (.int (nI 1))
abbrev lawS (M : Nat → (Nat → Int32) → zM) (L : Nat) (xs : Nat → Int32) (Jm : zJ) : Prop := ∀ (n pc : Nat) (al : zAL) (st : List Value) (w : zW) (c1 c2 : Nat), z_wp (M L xs) lawK Jm n (z_from (M L xs).1 pc) al st w c1 c2 → Jm pc al st w c1 c2
/-- the class's cells stand for a scheme and what is kept, its text is empty -/
def LI (d : Nat → Nat) (q c : Nat) (A : Nat → Nat → Nat) (kp : zK) (w : zW) : Prop := zG w.1 ∧ WF w ∧ ∃ x tl, CT w.2.1 w.2.2 (d, q, c, A, kp, (0, x), tl)
theorem wr_le (d : Nat → Nat) (q : Nat) (A : Nat → Nat → Nat) (c : Nat) : wr d q A c ≤ 729 := fb_ct_le _ _
def al91 (k : Nat) : zAL := [some (.float 0), some (.ref 0), none, none, none, none, some (.int (nI k)), none, none, none, none, none, none, none, none, none, none, none]
def alA (k : Nat) (wd : Int32) (i j t c W : Nat) : zAL := [some (.float 0), some (.ref 0), none, none, none, none, some (.int (nI k)), some (.int wd), some (.int (nI i)), some (.int (nI j)), some (.int (nI t)), some (.int (nI c)), some (.int (nI W)), some (.int (nI 1)), none, none, none, none]
def alE (k W f : Nat) : zAL := [some (.float 0), some (.ref 0), none, none, none, none, some (.int (nI k)), none, none, none, none, none, some (.int (nI W)), some (.int (nI f)), none, none, none, none]
/-- what an act must show -/
def LEnd (Jm : zJ) (k W c1 c2 : Nat) : Prop := ∀ (w2 : zW) (d2 : Nat → Nat) (q2 c' : Nat) (A2 : Nat → Nat → Nat) (kp2 : zK) (n1 n2 f : Nat), LI d2 q2 c' A2 kp2 w2 → (f = 0 ∨ f = 1 ∧ wr d2 q2 A2 c' = W) → n1 ≤ c1 + 300 → n2 ≤ c2 + 90000 → Jm 1374 (alE k W f) [] w2 n1 n2
def LAct (Jm : zJ) (pc : Nat) : Prop := ∀ (k i j t c1 c2 W : Nat) (wd : Int32) (w : zW) (d : Nat → Nat) (q c : Nat) (A : Nat → Nat → Nat) (kp : zK), LI d q c A kp w → W = wr d q A c → i ≤ c → j ≤ c → t ≤ 3 → c1 ≤ 100000 → c2 ≤ 3000000 → LEnd Jm k W c1 c2 → Jm pc (alA k wd i j t c W) [] w c1 c2
theorem and_le (x : Int32) (m : Nat) : ∃ a, a ≤ m ∧ x &&& nI m = nI a := ⟨bvN x &&& m, Nat.and_le_right, by rw [(bv_N x).1, fa_and, bvN_nI (bv_N x).2]⟩
theorem z_sw_all {pc : Nat} {a : Int32} {st : List Value} {J : Nat → Prop} : ∀ (ts : List Nat) (lo : Int), (∀ t ∈ ts, J t) → z_sw pc a st J lo ts
  | [], _, _ => trivial
  | t :: ts, lo, h => ⟨fun _ => h t List.mem_cons_self, z_sw_all ts (lo + 1) (fun u hu => h u (List.mem_cons_of_mem _ hu))⟩
section
variable (d : Nat → Nat) (q c : Nat) (A : Nat → Nat → Nat) (kp : zK) (x : Nat → Nat) (tl : Nat × (Nat → Int64))
theorem chk_st : ∃ tl2, st_checks (d, q, c, A, kp, (0, x), tl) = ((d, q, c, A, kp, (0, x), tl2), nI (wr d q A c)) := ⟨_, rfl⟩
theorem cnt_st {n : Nat} {v : Int32} (h : n < 14) (e : coA (d, q, c, A, kp, (0, x), tl) n = v) : st_count (d, q, c, A, kp, (0, x), tl) (nI n) = ((d, q, c, A, kp, (0, x), tl), v) := by
  have := cnt_v (T := (d, q, c, A, kp, (0, x), tl)) h
  rw [e] at this
  exact Prod.ext rfl this
theorem cnt4 : st_count (d, q, c, A, kp, (0, x), tl) (nI 4) = ((d, q, c, A, kp, (0, x), tl), nI c) := cnt_st d q c A kp x tl (by decide) rfl
theorem cnt8 : st_count (d, q, c, A, kp, (0, x), tl) (nI 8) = ((d, q, c, A, kp, (0, x), tl), nI (fb_ct (hzB A) c)) := cnt_st d q c A kp x tl (by decide) rfl
theorem cnt3 : st_count (d, q, c, A, kp, (0, x), tl) (nI 3) = ((d, q, c, A, kp, (0, x), tl), nI q) := cnt_st d q c A kp x tl (by decide) rfl
theorem cntd {t : Nat} (h : t < 3) : st_count (d, q, c, A, kp, (0, x), tl) (nI t) = ((d, q, c, A, kp, (0, x), tl), nI (d t)) := Prod.ext rfl (cnt_d (T := (d, q, c, A, kp, (0, x), tl)) h)
end

