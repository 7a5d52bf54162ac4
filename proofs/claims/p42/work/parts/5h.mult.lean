/-! what is right multiplies rightly -/
theorem sm_mul1 (f : Nat → Nat) (v : Nat) : ∀ n, fb_sm f n * v = fb_sm (fun x => f x * v) n
  | 0 => Nat.zero_mul v
  | n + 1 => by rw [fb_sm_succ, fb_sm_succ, Nat.add_mul, sm_mul1 f v n]
theorem sm_mul2 (f g : Nat → Nat) (e m n : Nat) : fb_sm f n * fb_sm g m * e = fb_sm (fun x => fb_sm (fun y => f x * g y * e) m) n := by
  rw [sm_mul1, sm_mul1]
  refine fb_sm_cong (fun x _ => ?_)
  rw [← sm_mul1, ← sm_scal]
def ndT (a b e : Nat) : Bool := al (e * a) (fun z => fb_sm (fun x => fb_sm (fun y => ndN (pt a b e) x y z) (b * e)) (a * b) == b)
theorem ndT_all : al 4 (fun a => al 4 (fun b => al 4 (fun e => a == 0 || (b == 0 || (e == 0 || ndT a b e))))) = true := by decide +kernel
theorem nd_sum {d : Nat → Nat} (hd : Dd d) {z : Nat} (hz : z < pl d 2) : fb_sm (fun x => fb_sm (fun y => ndN d x y z) (pl d 1)) (pl d 0) = d 1 := by
  have h0 := hd 0 (by decide)
  have h1 := hd 1 (by decide)
  have h2 := hd 2 (by decide)
  have h := al_ok (al_ok (al_ok ndT_all (show d 0 < 4 by omega)) (show d 1 < 4 by omega)) (show d 2 < 4 by omega)
  simp only [Bool.or_eq_true] at h
  rcases h with h | h | h | h
  · have := eq_of_beq h; omega
  · have := eq_of_beq h; omega
  · have := eq_of_beq h; omega
  · exact eq_of_beq (al_ok h hz)
theorem cm_right {d N : Nat → Nat} {q c z : Nat} {A : Nat → Nat → Nat} (hd : Dd d) (h : RT d q A c) (hN : ∀ k, k < pl d 0 + pl d 1 → N k = 1) (hz : z < pl d 2) : cmN d q A N z c % q = d 1 % q := by
  have w0 : ∀ i, weN (A (3 * i)) N 0 (pl d 0) = fb_sm (A (3 * i)) (pl d 0) := fun i => fb_sm_cong (fun p hp => by rw [hN _ (by omega), Nat.mul_one])
  have w1 : ∀ i, weN (A (3 * i + 1)) N (pl d 0) (pl d 1) = fb_sm (A (3 * i + 1)) (pl d 1) := fun i => fb_sm_cong (fun p hp => by rw [hN _ (by omega), Nat.mul_one])
  have e1 : cg q (cmN d q A N z c) (fb_sm (fun i => fb_sm (fun x => fb_sm (fun y => A (3 * i) x * A (3 * i + 1) y * A (3 * i + 2) z) (pl d 1)) (pl d 0)) c) := by
    refine sm_mod (fun i _ => ?_)
    rw [w0, w1, ← sm_mul2]
    exact cg_mul (cg_mod _ _) (cg_refl _ _)
  have e2 : fb_sm (fun i => fb_sm (fun x => fb_sm (fun y => A (3 * i) x * A (3 * i + 1) y * A (3 * i + 2) z) (pl d 1)) (pl d 0)) c = fb_sm (fun x => fb_sm (fun y => gvN A c x y z) (pl d 1)) (pl d 0) := by
    rw [sm_swap]
    refine fb_sm_cong (fun x _ => ?_)
    rw [sm_swap]
    rfl
  rw [e2] at e1
  refine Eq.trans e1 ?_
  rw [← nd_sum hd hz]
  refine sm_mod (fun x hx => sm_mod (fun y hy => ?_))
  have := h x hx y hy z hz
  rw [← this, Nat.mod_mod]
theorem du_ones {d N : Nat → Nat} (hd : Dd d) (hN : ∀ k, k < pl d 0 + pl d 1 → N k = 1) {z : Nat} (hz : z < pl d 2) : duN d N z (d 1) = d 1 := by
  have h0 := hd 0 (by decide)
  have h2 := hd 2 (by decide)
  have hz : z < d 2 * d 0 := hz
  have c1 : z % d 0 < d 0 := Nat.mod_lt _ (by omega)
  have c2 : z / d 0 < d 2 := Nat.div_lt_of_lt_mul (by rw [Nat.mul_comm]; exact hz)
  unfold duN
  rw [fb_sm_cong (g := fun _ => 1) (fun j hj => ?_), fb_sm_const, Nat.mul_one]
  have i1 : z % d 0 * d 1 + j < pl d 0 := idx_pl (d := d) c1 hj
  have i2 : j * d 2 + z / d 0 < pl d 1 := idx_pl (d := d) hj c2
  rw [hN _ (by omega), hN _ (by omega)]
/-- the text 1,1, .. of K numbers -/
def ones (K L : Nat) (x : Nat → Nat) : Prop := L + 1 = 2 * K ∧ ∀ k, k < L → x k = if k % 2 = 0 then 49 else 44
theorem nu_ones {K L q : Nat} {x : Nat → Nat} (hq : q = 2 ∨ q = 3) (h : ones K L x) : ∀ m, m ≤ K → (nuL x L q m).1 = true ∧ (nuL x L q m).2.1 = 2 * m - 1 ∧ ∀ k, k < m → (nuL x L q m).2.2 k = 1
  | 0, _ => ⟨rfl, rfl, fun k hk => absurd hk (Nat.not_lt_zero k)⟩
  | m + 1, hm => by
    obtain ⟨i1, i2, i3⟩ := nu_ones hq h m (by omega)
    obtain ⟨hL, hx⟩ := h
    have s0 : see x L (2 * m) = 49 := by
      unfold see
      rw [if_pos (by omega), hx _ (by omega), if_pos (by omega)]
    have n1 : ¬ (m ≠ 0 ∧ see x L (nuL x L q m).2.1 ≠ 44) := by
      rintro ⟨h1, h2⟩
      apply h2
      rw [i2]
      unfold see
      rw [if_pos (by omega), hx _ (by omega), if_neg (by omega)]
    have p1 : (if m = 0 then (nuL x L q m).2.1 else (nuL x L q m).2.1 + 1) = 2 * m := by
      rw [i2]
      split <;> omega
    have n2 : 48 ≤ see x L (if m = 0 then (nuL x L q m).2.1 else (nuL x L q m).2.1 + 1) ∧ see x L (if m = 0 then (nuL x L q m).2.1 else (nuL x L q m).2.1 + 1) < 48 + q := by
      rw [p1, s0]
      omega
    rw [nuL, if_pos i1, if_neg n1, if_pos n2, p1, s0]
    refine ⟨rfl, by show 2 * m + 1 = 2 * (m + 1) - 1; omega, fun k hk => ?_⟩
    show setp (nuL x L q m).2.2 m (49 - 48) k = 1
    unfold setp
    by_cases e : k = m
    · rw [if_pos e]
    · rw [if_neg e]
      exact i3 k (by omega)
/-! forms told as texts -/
def tmx (d : Nat → Nat) (t p : Nat) : List Nat := [97 + t, 49 + p / d (nx t), 49 + p % d (nx t)]
/-- the terms behind the first: minus or not, place -/
def rsx (d : Nat → Nat) (t : Nat) : List (Bool × Nat) → List Nat
  | [] => []
  | (n, p) :: r => (if n = true then 45 else 43) :: (tmx d t p ++ rsx d t r)
def ttx (d : Nat → Nat) (t : Nat) : List (Bool × Nat) → List Nat
  | [] => []
  | (n, p) :: r => (if n = true then [45] else []) ++ (tmx d t p ++ rsx d t r)
/-- places that rise, from p on, all below n -/
def inc (n : Nat) : Nat → List (Bool × Nat) → Prop
  | _, [] => True
  | p, (_, p') :: r => p ≤ p' ∧ p' < n ∧ inc n (p' + 1) r
def TxA (x : Nat → Nat) (L k : Nat) (l : List Nat) : Prop := ∀ i v, l[i]? = some v → k + i < L ∧ x (k + i) = v
theorem txa_see {x : Nat → Nat} {L k i v : Nat} {l : List Nat} (h : TxA x L k l) (e : l[i]? = some v) : see x L (k + i) = v := by
  obtain ⟨h1, h2⟩ := h i v e
  unfold see
  rw [if_pos h1, h2]
theorem txa_r {x : Nat → Nat} {L k : Nat} {l r : List Nat} (h : TxA x L k (l ++ r)) : TxA x L (k + l.length) r := fun i v e => by
  have := h (l.length + i) v (by rw [List.getElem?_append_right (by omega), Nat.add_sub_cancel_left]; exact e)
  rw [Nat.add_assoc]
  exact this
theorem txa_l {x : Nat → Nat} {L k : Nat} {l r : List Nat} (h : TxA x L k (l ++ r)) : TxA x L k l := fun i v e => h i v (by rw [List.getElem?_append_left (List.getElem?_eq_some_iff.mp e).1]; exact e)
theorem tm_ok {x d : Nat → Nat} {L t n p k : Nat} {a : Nat → Nat} (hd : Dd d) (ht : t < 3) (hp : p < pl d t) (ha : a p = 0) (h : TxA x L k (tmx d t p)) : tmP x L d t n k a = (true, k + 3, setp a p n) := by
  have hn := hd (nx t) (nx_lt t)
  have ht2 := hd t ht
  have hp : p < d t * d (nx t) := hp
  have s0 : see x L k = 97 + t := txa_see (i := 0) h rfl
  have s1 : see x L (k + 1) = 49 + p / d (nx t) := txa_see (i := 1) h rfl
  have s2 : see x L (k + 2) = 49 + p % d (nx t) := txa_see (i := 2) h rfl
  have r1 : p / d (nx t) < d t := Nat.div_lt_of_lt_mul (by rw [Nat.mul_comm]; exact hp)
  have r2 : p % d (nx t) < d (nx t) := Nat.mod_lt _ (by omega)
  have e : (49 + p / d (nx t) - 49) * d (nx t) + (49 + p % d (nx t) - 49) = p := by
    rw [Nat.add_sub_cancel_left, Nat.add_sub_cancel_left, Nat.mul_comm]
    exact Nat.div_add_mod p _
  unfold tmP
  rw [s0, if_pos rfl, s1, if_pos ⟨Nat.le_add_right _ _, Nat.add_lt_add_left r1 _⟩, s2, if_pos ⟨Nat.le_add_right _ _, Nat.add_lt_add_left r2 _⟩, e, if_pos ha]
theorem fmL_ok {x d : Nat → Nat} {L q t : Nat} (hd : Dd d) (ht : t < 3) : ∀ (r : List (Bool × Nat)) (m n p k : Nat) (a : Nat → Nat), r.length < m → p < pl d t → inc (pl d t) (p + 1) r → (∀ p', p ≤ p' → a p' = 0) → TxA x L k (tmx d t p ++ rsx d t r) → see x L (k + (3 + (rsx d t r).length)) ≠ 43 → see x L (k + (3 + (rsx d t r).length)) ≠ 45 → (fmL x L d q t m n k a).1 = true ∧ (fmL x L d q t m n k a).2.1 = k + (3 + (rsx d t r).length)
  | r, 0, n, p, k, a, hm, _, _, _, _, _, _ => absurd hm (Nat.not_lt_zero _)
  | [], m + 1, n, p, k, a, _, hp, _, ha, h, s1, s2 => by
    have e := tm_ok (n := n) hd ht hp (ha p (Nat.le_refl _)) (txa_l h)
    rw [fmL, e]
    have s1 : see x L (k + 3) ≠ 43 := s1
    have s2 : see x L (k + 3) ≠ 45 := s2
    rw [if_pos rfl, if_neg s1, if_neg s2]
    exact ⟨rfl, rfl⟩
  | (g, p') :: r, m + 1, n, p, k, a, hm, hp, hi, ha, h, s1, s2 => by
    have e := tm_ok (n := n) hd ht hp (ha p (Nat.le_refl _)) (txa_l h)
    obtain ⟨i1, i2, i3⟩ := hi
    have h2 := txa_r h
    have h2 : TxA x L (k + 3) ((if g = true then 45 else 43) :: (tmx d t p' ++ rsx d t r)) := h2
    have sg : see x L (k + 3) = if g = true then 45 else 43 := txa_see (i := 0) h2 rfl
    have h3 : TxA x L (k + 3 + 1) (tmx d t p' ++ rsx d t r) := txa_r (l := [if g = true then 45 else 43]) h2
    have ha2 : ∀ p'', p' ≤ p'' → setp a p n p'' = 0 := fun p'' h => by
      unfold setp
      rw [if_neg (by omega)]
      exact ha p'' (by omega)
    have len : (rsx d t ((g, p') :: r)).length = 1 + (3 + (rsx d t r).length) := by
      show (_ :: (tmx d t p' ++ rsx d t r)).length = _
      rw [List.length_cons, List.length_append, Nat.add_comm]
      rfl
    rw [len] at s1 s2 ⊢
    have e3 : k + (3 + (1 + (3 + (rsx d t r).length))) = k + 3 + 1 + (3 + (rsx d t r).length) := by omega
    rw [e3] at s1 s2 ⊢
    have hm : r.length + 1 < m + 1 := hm
    rw [fmL, e]
    rw [if_pos rfl]
    cases g with
    | true =>
      have sg : see x L (k + 3) = 45 := sg
      rw [if_neg (by rw [sg]; decide), if_pos sg]
      exact fmL_ok hd ht r m (q - 1) p' (k + 3 + 1) _ (by omega) i2 i3 ha2 h3 s1 s2
    | false =>
      have sg : see x L (k + 3) = 43 := sg
      rw [if_pos sg]
      exact fmL_ok hd ht r m 1 p' (k + 3 + 1) _ (by omega) i2 i3 ha2 h3 s1 s2
theorem fmP_ok {x d : Nat → Nat} {L q t k : Nat} (hd : Dd d) (ht : t < 3) {ts : List (Bool × Nat)} (h0 : ts ≠ []) (hl : ts.length ≤ 9) (hi : inc (pl d t) 0 ts) (h : TxA x L k (ttx d t ts)) (s1 : see x L (k + (ttx d t ts).length) ≠ 43) (s2 : see x L (k + (ttx d t ts).length) ≠ 45) : (fmP x L d q t k).1 = true ∧ (fmP x L d q t k).2.1 = k + (ttx d t ts).length := by
  match ts, h0 with
  | (g, p) :: r, _ =>
    obtain ⟨-, i2, i3⟩ := hi
    have hl : r.length + 1 ≤ 9 := hl
    unfold fmP
    cases g with
    | true =>
      have e : ttx d t ((true, p) :: r) = 45 :: (tmx d t p ++ rsx d t r) := rfl
      rw [e] at h s1 s2 ⊢
      have sg : see x L k = 45 := txa_see (i := 0) h rfl
      have len : (45 :: (tmx d t p ++ rsx d t r)).length = 1 + (3 + (rsx d t r).length) := by
        rw [List.length_cons, List.length_append, Nat.add_comm]
        rfl
      rw [len, ← Nat.add_assoc] at s1 s2 ⊢
      rw [if_pos sg]
      exact fmL_ok hd ht r 400 (q - 1) p (k + 1) _ (by omega) i2 i3 (fun _ _ => rfl) (txa_r (l := [45]) h) s1 s2
    | false =>
      have e : ttx d t ((false, p) :: r) = tmx d t p ++ rsx d t r := rfl
      rw [e] at h s1 s2 ⊢
      have sg : see x L k = 97 + t := txa_see (i := 0) h rfl
      have len : (tmx d t p ++ rsx d t r).length = 3 + (rsx d t r).length := by
        rw [List.length_append]
        rfl
      rw [len] at s1 s2 ⊢
      rw [if_neg (by omega)]
      exact fmL_ok hd ht r 400 1 p k _ (by omega) i2 i3 (fun _ _ => rfl) h s1 s2
theorem see_end (x : Nat → Nat) (L : Nat) : see x L L = 256 := if_neg (Nat.lt_irrefl L)
/-- a product's text can be read -/
theorem prP_ok {x d : Nat → Nat} {L q : Nat} (hd : Dd d) {t0 t1 t2 : List (Bool × Nat)} (z0 : t0 ≠ [] ∧ t0.length ≤ 9 ∧ inc (pl d 0) 0 t0) (z1 : t1 ≠ [] ∧ t1.length ≤ 9 ∧ inc (pl d 1) 0 t1) (z2 : t2 ≠ [] ∧ t2.length ≤ 9 ∧ inc (pl d 2) 0 t2) (h : TxA x L 0 (ttx d 0 t0 ++ (42 :: (ttx d 1 t1 ++ (42 :: ttx d 2 t2))))) (hL : L = (ttx d 0 t0).length + (1 + ((ttx d 1 t1).length + (1 + (ttx d 2 t2).length)))) : (prP x L d q 0).1 = true ∧ (prP x L d q 0).2.1 = L := by
  have h1 := txa_r h
  have h2 := txa_r (l := [42]) h1
  have h3 := txa_r h2
  have h4 := txa_r (l := [42]) h3
  have c1 : see x L (0 + (ttx d 0 t0).length) = 42 := txa_see (i := 0) h1 rfl
  have c2 : see x L (0 + (ttx d 0 t0).length + 1 + (ttx d 1 t1).length) = 42 := txa_see (i := 0) h3 rfl
  have f0 := fmP_ok (q := q) hd (by decide) z0.1 z0.2.1 z0.2.2 (txa_l h) (by rw [c1]; decide) (by rw [c1]; decide)
  have f1 := fmP_ok (q := q) hd (by decide) z1.1 z1.2.1 z1.2.2 (txa_l h2) (by show see x L (0 + (ttx d 0 t0).length + 1 + (ttx d 1 t1).length) ≠ 43; rw [c2]; decide) (by show see x L (0 + (ttx d 0 t0).length + 1 + (ttx d 1 t1).length) ≠ 45; rw [c2]; decide)
  have e4 : 0 + (ttx d 0 t0).length + [42].length + (ttx d 1 t1).length + [42].length + (ttx d 2 t2).length = L := by
    rw [hL]
    show 0 + (ttx d 0 t0).length + 1 + (ttx d 1 t1).length + 1 + (ttx d 2 t2).length = _
    omega
  have f2 := fmP_ok (q := q) hd (by decide) z2.1 z2.2.1 z2.2.2 h4 (by rw [e4, see_end]; decide) (by rw [e4, see_end]; decide)
  rw [e4] at f2
  have p1 : prL x L d q 0 1 = ((fmP x L d q 0 0).1, (fmP x L d q 0 0).2.1, upA (fun _ _ => 0) 0 (fmP x L d q 0 0).2.2) := by
    rw [prL, prL]
    rw [if_pos rfl, if_pos (Or.inl rfl), if_pos rfl]
  have q1 : (prL x L d q 0 1).1 = true := by rw [p1]; exact f0.1
  have q2 : (prL x L d q 0 1).2.1 = 0 + (ttx d 0 t0).length := by rw [p1]; exact f0.2
  have r1 : (prL x L d q 0 2).1 = true ∧ (prL x L d q 0 2).2.1 = 0 + (ttx d 0 t0).length + 1 + (ttx d 1 t1).length := by
    rw [prL, if_pos q1, if_pos (Or.inr (by rw [q2]; exact c1)), if_neg (by decide), q2]
    exact f1
  have r2 : (prL x L d q 0 3).1 = true ∧ (prL x L d q 0 3).2.1 = L := by
    rw [prL, if_pos r1.1, if_pos (Or.inr (by rw [r1.2]; exact c2)), if_neg (by decide), r1.2]
    exact f2
  exact r2
