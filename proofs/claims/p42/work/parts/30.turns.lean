/-! lines exchanged -/
def exA (a : Nat → Nat) (u v : Nat) : Nat → Nat := setp (setp a u (a v)) v (a u)
theorem exA_lt {a : Nat → Nat} {q u v : Nat} (ha : ∀ p, p < 9 → a p < q) (hu : u < 9) (hv : v < 9) : ∀ p, p < 9 → exA a u v p < q := setp_lt (setp_lt ha (ha v hv)) (ha u hu)
def sp_X10_exchanged : zSp := fun av w K => match av with
  | [.int x, .int u, .int v] => ∃ (a : Nat → Nat) (fr to : Nat), x = pk a ∧ (∀ p, p < 9 → a p < 3) ∧ u = nI fr ∧ fr < 9 ∧ v = nI to ∧ to < 9 ∧ K (some (.int (pk (exA a fr to)))) w
  | _ => False
def swR (a : Nat → Nat) (n fr to : Nat) : Nat → Nat → Nat
  | 0 => a
  | c + 1 => exA (swR a n fr to c) (fr * n + c) (to * n + c)
def swC (a : Nat → Nat) (n fr to : Nat) : Nat → Nat → Nat
  | 0 => a
  | r + 1 => exA (swC a n fr to r) (r * n + fr) (r * n + to)
theorem swR_lt {a : Nat → Nat} {q n fr to C : Nat} (ha : ∀ p, p < 9 → a p < q) (h1 : ∀ c, c < C → fr * n + c < 9) (h2 : ∀ c, c < C → to * n + c < 9) : ∀ c, c ≤ C → ∀ p, p < 9 → swR a n fr to c p < q
  | 0, _ => ha
  | c + 1, h => exA_lt (swR_lt ha h1 h2 c (by omega)) (h1 c (by omega)) (h2 c (by omega))
theorem swC_lt {a : Nat → Nat} {q n fr to C : Nat} (ha : ∀ p, p < 9 → a p < q) (h1 : ∀ c, c < C → c * n + fr < 9) (h2 : ∀ c, c < C → c * n + to < 9) : ∀ c, c ≤ C → ∀ p, p < 9 → swC a n fr to c p < q
  | 0, _ => ha
  | c + 1, h => exA_lt (swC_lt ha h1 h2 c (by omega)) (h1 c (by omega)) (h2 c (by omega))
def swA (d : Nat → Nat) (A : Nat → Nat → Nat) (s fr to : Nat) : Nat → Nat → Nat := fun k => if k % 3 = s then swR (A k) (d (nx s)) fr to (d (nx s)) else if k % 3 = pv s then swC (A k) (d s) fr to (d (pv s)) else A k
def sp_X10_swap : zSp := fun av w K => match av with
  | [.ref o, .int s, .int u, .int v] => o = 6 ∧ zG w.1 ∧ ∃ d q c A s' fr to, CS w.2.1 6 d q c A ∧ s = nI s' ∧ s' < 3 ∧ u = nI fr ∧ fr < d s' ∧ v = nI to ∧ to < d s' ∧ ∀ wi' : Nat → Nat → Int32, Fr 6 8 w.2.1 wi' → CS wi' 6 d q c (swA d A s' fr to) → K none (w.1, wi', w.2.2)
  | _ => False
