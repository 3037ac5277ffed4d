/-! a zero's row of values meets the columns e, X e, X X e, .. in the powers of its coordinate -/
theorem dot_mulV {n p a : Nat} {v u : Nat → Nat} {X : Nat → Nat → Nat} (hX : ∀ k, k < n → sm (fun row => v row * X row k) n % p = a * v k % p) : sm (fun row => v row * mulV n p X u row) n % p = a * sm (fun k => v k * u k) n % p := by
  have e1 : sm (fun row => v row * mulV n p X u row) n % p = sm (fun row => sm (fun c => v row * X row c * u c) n) n % p := sm_modc fun row _ => by
    unfold mulV
    rw [Nat.mul_mod_mod, sm_mull]
    congr 1
    exact sm_congr n fun c _ => (Nat.mul_assoc _ _ _).symm
  have e2 : sm (fun row => sm (fun c => v row * X row c * u c) n) n = sm (fun c => sm (fun row => v row * X row c) n * u c) n := by
    rw [sm_swap (fun c row => v row * X row c * u c) n n]
    exact sm_congr n fun c _ => (sm_mulr _ _ n).symm
  have e3 : sm (fun c => sm (fun row => v row * X row c) n * u c) n % p = sm (fun c => a * (v c * u c)) n % p := sm_modc fun c hc => by
    rw [Nat.mul_mod, hX c hc, ← Nat.mul_mod, Nat.mul_assoc]
  rw [e1, e2, e3, sm_mull]
theorem dot_e0 {n : Nat} {v : Nat → Nat} (hn : 0 < n) : sm (fun row => v row * e0V row) n = v 0 := by
  have : sm (fun row => v row * e0V row) n = sm (fun k => (if 0 = k then 1 else 0) * v k) n := sm_congr n fun k _ => by
    unfold e0V
    rw [Nat.mul_comm]
    by_cases h : k = 0
    · rw [if_pos h, if_pos h.symm]
    · rw [if_neg h, if_neg (fun z => h z.symm)]
  rw [this, sm_one, if_pos hn]
theorem dot_pow {n p a : Nat} {v : Nat → Nat} {X : Nat → Nat → Nat} (hn : 0 < n) (h1 : v 0 = 1) (hX : ∀ k, k < n → sm (fun row => v row * X row k) n % p = a * v k % p) : ∀ e, sm (fun row => v row * itV n p X e0V e row) n % p = a ^ e % p
  | 0 => by
    show sm (fun row => v row * e0V row) n % p = _
    rw [dot_e0 hn, h1, Nat.pow_zero]
  | e + 1 => by
    show sm (fun row => v row * mulV n p X (itV n p X e0V e) row) n % p = _
    rw [dot_mulV hX, Nat.mul_mod, dot_pow hn h1 hX e, ← Nat.mul_mod, Nat.pow_succ, Nat.mul_comm]
/-- what holds of the columns holds of the powers of the coordinate -/
theorem root_of {n p a d : Nat} {v : Nat → Nat} {X : Nat → Nat → Nat} {c : Nat → Nat} (hn : 0 < n) (h1 : v 0 = 1) (hX : ∀ k, k < n → sm (fun row => v row * X row k) n % p = a * v k % p) (h : ∀ row, row < n → itV n p X e0V d row % p = sm (fun k => c k * itV n p X e0V k row) d % p) : a ^ d % p = sm (fun k => c k * a ^ k) d % p := by
  have e1 : sm (fun row => v row * itV n p X e0V d row) n % p = sm (fun row => sm (fun k => c k * (v row * itV n p X e0V k row)) d) n % p := sm_modc fun row hrow => by
    rw [Nat.mul_mod, h row hrow, ← Nat.mul_mod, sm_mull]
    congr 1
    exact sm_congr d fun k _ => by rw [← Nat.mul_assoc, ← Nat.mul_assoc, Nat.mul_comm (v row)]
  have e2 : sm (fun row => sm (fun k => c k * (v row * itV n p X e0V k row)) d) n % p = sm (fun k => c k * a ^ k) d % p := by
    rw [sm_swap (fun k row => c k * (v row * itV n p X e0V k row)) d n]
    refine sm_modc fun k _ => ?_
    rw [← sm_mull, Nat.mul_mod, dot_pow hn h1 hX k, ← Nat.mul_mod]
  rw [← dot_pow hn h1 hX d, e1, e2]
