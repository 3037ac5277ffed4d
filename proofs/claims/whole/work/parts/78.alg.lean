/-! sums and products of matrices modulo a number -/
theorem sm_add (f g : Nat → Nat) : ∀ n, sm (fun k => f k + g k) n = sm f n + sm g n
  | 0 => rfl
  | n + 1 => by
    show sm (fun k => f k + g k) n + (f n + g n) = sm f n + f n + (sm g n + g n)
    rw [sm_add f g n]
    omega
theorem sm_mulr (f : Nat → Nat) (x : Nat) : ∀ n, sm f n * x = sm (fun k => f k * x) n
  | 0 => Nat.zero_mul _
  | n + 1 => by
    show (sm f n + f n) * x = sm (fun k => f k * x) n + f n * x
    rw [Nat.add_mul, sm_mulr f x n]
theorem sm_mull (f : Nat → Nat) (x : Nat) : ∀ n, x * sm f n = sm (fun k => x * f k) n
  | 0 => Nat.mul_zero _
  | n + 1 => by
    show x * (sm f n + f n) = sm (fun k => x * f k) n + x * f n
    rw [Nat.mul_add, sm_mull f x n]
theorem sm_zero : ∀ n, sm (fun _ => 0) n = 0
  | 0 => rfl
  | n + 1 => sm_zero n
theorem sm_swap (F : Nat → Nat → Nat) (m : Nat) : ∀ n, sm (fun k => sm (fun j => F j k) m) n = sm (fun j => sm (fun k => F j k) n) m
  | 0 => (sm_zero m).symm
  | n + 1 => by
    show sm (fun k => sm (fun j => F j k) m) n + sm (fun j => F j n) m = sm (fun j => sm (fun k => F j k) n + F j n) m
    rw [sm_swap F m n, sm_add]
theorem sm_mod (f : Nat → Nat) (p : Nat) : ∀ n, sm (fun k => f k % p) n % p = sm f n % p
  | 0 => rfl
  | n + 1 => by
    show (sm (fun k => f k % p) n + f n % p) % p = (sm f n + f n) % p
    rw [Nat.add_mod, sm_mod f p n, Nat.mod_mod, ← Nat.add_mod]
theorem sm_modc {f g : Nat → Nat} {p n : Nat} (h : ∀ k, k < n → f k % p = g k % p) : sm f n % p = sm g n % p := by
  rw [← sm_mod f, ← sm_mod g, sm_congr n h]
theorem sm_one (f : Nat → Nat) (r : Nat) : ∀ n, sm (fun k => (if r = k then 1 else 0) * f k) n = if r < n then f r else 0
  | 0 => rfl
  | n + 1 => by
    show sm (fun k => (if r = k then 1 else 0) * f k) n + (if r = n then 1 else 0) * f n = _
    rw [sm_one f r n]
    by_cases h : r = n
    · subst h
      rw [if_neg (by omega), if_pos rfl, if_pos (by omega), Nat.one_mul, Nat.zero_add]
    · rw [if_neg h, Nat.zero_mul, Nat.add_zero]
      by_cases h2 : r < n
      · rw [if_pos h2, if_pos (by omega)]
      · rw [if_neg h2, if_neg (by omega)]
def eqM (n : Nat) (A B : Nat → Nat → Nat) : Prop := ∀ r c, r < n → c < n → A r c = B r c
theorem eqM.rf {n : Nat} {A : Nat → Nat → Nat} : eqM n A A := fun _ _ _ _ => rfl
theorem eqM.sy {n : Nat} {A B : Nat → Nat → Nat} (h : eqM n A B) : eqM n B A := fun r c hr hc => (h r c hr hc).symm
theorem eqM.tr {n : Nat} {A B C : Nat → Nat → Nat} (h : eqM n A B) (h2 : eqM n B C) : eqM n A C := fun r c hr hc => (h r c hr hc).trans (h2 r c hr hc)
section
variable {n p : Nat} {A B C : Nat → Nat → Nat}
theorem mulM_congr {A' B' : Nat → Nat → Nat} (h1 : eqM n A A') (h2 : eqM n B B') : eqM n (mulM n p A B) (mulM n p A' B') := by
  intro r c hr hc
  unfold mulM
  rw [sm_congr n fun k hk => by rw [h1 r k hr hk, h2 k c hk hc]]
theorem mulM_assoc : eqM n (mulM n p (mulM n p A B) C) (mulM n p A (mulM n p B C)) := by
  intro r c hr hc
  unfold mulM
  have e1 : sm (fun k => sm (fun j => A r j * B j k) n % p * C k c) n % p = sm (fun k => sm (fun j => A r j * B j k * C k c) n) n % p := by
    refine sm_modc fun k hk => ?_
    rw [Nat.mod_mul_mod, sm_mulr]
  have e2 : sm (fun k => A r k * (sm (fun j => B k j * C j c) n % p)) n % p = sm (fun k => sm (fun j => A r k * B k j * C j c) n) n % p := by
    refine sm_modc fun k hk => ?_
    rw [Nat.mul_mod_mod, sm_mull]
    congr 1
    exact sm_congr n fun j _ => (Nat.mul_assoc _ _ _).symm
  rw [e1, e2, sm_swap]
theorem mulM_one_l (hB : bdM B n n p) : eqM n (mulM n p oneM B) B := by
  intro r c hr hc
  unfold mulM oneM
  rw [sm_one (fun k => B k c), if_pos hr, Nat.mod_eq_of_lt (hB r c hr hc)]
theorem mulM_one_r (hA : bdM A n n p) : eqM n (mulM n p A oneM) A := by
  intro r c hr hc
  unfold mulM
  have : sm (fun k => A r k * oneM k c) n = sm (fun k => (if c = k then 1 else 0) * A r k) n := sm_congr n fun k _ => by
    unfold oneM
    rw [Nat.mul_comm]
    by_cases h : k = c
    · rw [if_pos h, if_pos h.symm]
    · rw [if_neg h, if_neg (fun z => h z.symm)]
  rw [this, sm_one, if_pos hc, Nat.mod_eq_of_lt (hA r c hr hc)]
theorem pow_addM (hp : 2 ≤ p) (x y : Nat) : eqM n (mulM n p (powR n p A x) (powR n p A y)) (powR n p A (x + y)) := by
  induction x with
  | zero => rw [Nat.zero_add]; exact mulM_one_l (bd_pow hp y)
  | succ x ih =>
    rw [Nat.succ_add]
    exact mulM_assoc.tr (mulM_congr eqM.rf ih)
theorem pow_oneM (hA : bdM A n n p) : eqM n (powR n p A 1) A := mulM_one_r hA
theorem mulIt_mul (hp : 2 ≤ p) (hB : bdM B n n p) (i : Nat) : eqM n (mulIt n p A B i) (mulM n p (powR n p A i) B) := by
  induction i with
  | zero => exact (mulM_one_l hB).sy
  | succ i ih => exact (mulM_congr eqM.rf ih).tr mulM_assoc.sy
theorem tr_prod (hp : 0 < p) : sm (fun r => sm (fun k => A r k * B k r) n) n % p = trM n p (mulM n p A B) := by
  unfold trM
  refine sm_modc fun k hk => ?_
  show _ = sm (fun j => A k j * B j k) n % p % p
  rw [Nat.mod_mod]
/-- vectors -/
theorem mulV_congr {A' : Nat → Nat → Nat} {v v' : Nat → Nat} (h1 : eqM n A A') (h2 : ∀ k, k < n → v k = v' k) : ∀ r, r < n → mulV n p A v r = mulV n p A' v' r := by
  intro r hr
  unfold mulV
  rw [sm_congr n fun k hk => by rw [h1 r k hr hk, h2 k hk]]
end
