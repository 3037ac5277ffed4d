/-! joint eigenvectors of distinct points are independent: at most so many zeros as monomials -/
theorem rel_mul {m n p : Nat} {c : Nat → Nat} {v X : Nat → Nat → Nat} {ev : Nat → Nat} (he : ∀ i, i < m → ∀ k, k < n → sm (fun row => v i row * X row k) n % p = ev i * v i k % p) (h : ∀ k, k < n → sm (fun i => c i * v i k) m % p = 0) : ∀ k, k < n → sm (fun i => c i * (ev i * v i k)) m % p = 0 := by
  intro k hk
  have e1 : sm (fun i => c i * (ev i * v i k)) m % p = sm (fun i => c i * sm (fun row => v i row * X row k) n) m % p := sm_modc fun i hi => by rw [Nat.mul_mod, ← he i hi k hk, ← Nat.mul_mod]
  have e2 : sm (fun i => c i * sm (fun row => v i row * X row k) n) m = sm (fun row => sm (fun i => c i * v i row) m * X row k) n := by
    rw [sm_congr m (g := fun i => sm (fun row => c i * v i row * X row k) n) fun i _ => by rw [sm_mull]; exact sm_congr n fun row _ => (Nat.mul_assoc _ _ _).symm]
    rw [sm_swap (fun row i => c i * v i row * X row k) n m]
    exact sm_congr n fun row _ => (sm_mulr _ _ m).symm
  rw [e1, e2, ← sm_mod, sm_congr n (g := fun _ => 0) fun row hrow => by rw [Nat.mul_mod, h row hrow, Nat.zero_mul, Nat.zero_mod], sm_zero, Nat.zero_mod]
theorem rel_sub {m n p : Nat} {c : Nat → Nat} {v : Nat → Nat → Nat} {ev : Nat → Nat} (hl : ∀ i, i < m + 1 → ev i < p) (h : ∀ k, k < n → sm (fun i => c i * v i k) (m + 1) % p = 0) (h2 : ∀ k, k < n → sm (fun i => c i * (ev i * v i k)) (m + 1) % p = 0) : ∀ k, k < n → sm (fun i => c i * (ev i + (p - ev m)) * v i k) m % p = 0 := by
  intro k hk
  have hm := hl m (by omega)
  have e1 : sm (fun i => c i * (ev i + (p - ev m)) * v i k) (m + 1) = sm (fun i => c i * (ev i * v i k)) (m + 1) + (p - ev m) * sm (fun i => c i * v i k) (m + 1) := by
    rw [sm_mull, ← sm_add]
    refine sm_congr (m + 1) fun i _ => ?_
    rw [Nat.mul_add, Nat.add_mul, Nat.mul_assoc, Nat.mul_comm (c i) (p - ev m), Nat.mul_assoc]
  have e2 : sm (fun i => c i * (ev i + (p - ev m)) * v i k) (m + 1) % p = 0 := by
    rw [e1, Nat.add_mod, h2 k hk, Nat.mul_mod, h k hk, Nat.mul_zero, Nat.zero_mod, Nat.zero_add, Nat.zero_mod]
  have e3 : sm (fun i => c i * (ev i + (p - ev m)) * v i k) (m + 1) = sm (fun i => c i * (ev i + (p - ev m)) * v i k) m + c m * p * v m k := by
    show _ + c m * (ev m + (p - ev m)) * v m k = _
    rw [show ev m + (p - ev m) = p by omega]
  rw [e3, Nat.add_mod, show c m * p * v m k % p = 0 by rw [Nat.mul_comm (c m) p, Nat.mul_assoc, Nat.mul_mod_right], Nat.add_zero, Nat.mod_mod] at e2
  exact e2
theorem dif_mod {p x y : Nat} (hx : x < p) (hy : y < p) (h : x ≠ y) : (x + (p - y)) % p ≠ 0 := by
  intro z
  by_cases h2 : x < y
  · rw [Nat.mod_eq_of_lt (by omega)] at z
    omega
  · rw [show x + (p - y) = (x - y) + p by omega, Nat.add_mod_right, Nat.mod_eq_of_lt (by omega)] at z
    omega
theorem indep {n p : Nat} (hp : p ∈ prs) (hn : 0 < n) {v X Y : Nat → Nat → Nat} {q : Nat → Nat × Nat} : ∀ (m : Nat) (c : Nat → Nat), (∀ i, i < m → (q i).1 < p ∧ (q i).2 < p) → (∀ i j, i < m → j < m → q i = q j → i = j) → (∀ i, i < m → v i 0 % p = 1) → (∀ i, i < m → ∀ k, k < n → sm (fun row => v i row * X row k) n % p = (q i).1 * v i k % p) → (∀ i, i < m → ∀ k, k < n → sm (fun row => v i row * Y row k) n % p = (q i).2 * v i k % p) → (∀ k, k < n → sm (fun i => c i * v i k) m % p = 0) → ∀ i, i < m → c i % p = 0
  | 0, _, _, _, _, _, _, _, i, hi => by omega
  | m + 1, c, hq, inj, h1, hX, hY, h, i, hi => by
    have rx := rel_sub (ev := fun i => (q i).1) (fun i hi => (hq i hi).1) h (rel_mul hX h)
    have ry := rel_sub (ev := fun i => (q i).2) (fun i hi => (hq i hi).2) h (rel_mul hY h)
    have ihx := indep hp hn m _ (fun i hi => hq i (by omega)) (fun i j hi hj => inj i j (by omega) (by omega)) (fun i hi => h1 i (by omega)) (fun i hi => hX i (by omega)) (fun i hi => hY i (by omega)) rx
    have ihy := indep hp hn m _ (fun i hi => hq i (by omega)) (fun i j hi hj => inj i j (by omega) (by omega)) (fun i hi => h1 i (by omega)) (fun i hi => hX i (by omega)) (fun i hi => hY i (by omega)) ry
    have low : ∀ i, i < m → c i % p = 0 := by
      intro i hi
      have a1 := hq i (by omega)
      have a2 := hq m (by omega)
      by_cases hx : (q i).1 = (q m).1
      · have hy : (q i).2 ≠ (q m).2 := fun z => by
          have := inj i m (by omega) (by omega) (Prod.ext hx z)
          omega
        rcases prime_mul hp (ihy i hi) with z | z
        · exact z
        · exact absurd z (dif_mod a1.2 a2.2 hy)
      · rcases prime_mul hp (ihx i hi) with z | z
        · exact z
        · exact absurd z (dif_mod a1.1 a2.1 hx)
    by_cases him : i < m
    · exact low i him
    · obtain rfl : i = m := by omega
      have h0 : (sm (fun i => c i * v i 0) i + c i * v i 0) % p = 0 := h 0 hn
      have z : sm (fun i => c i * v i 0) i % p = 0 := by
        rw [← sm_mod, sm_congr i (g := fun _ => 0) fun j hj => by rw [Nat.mul_mod, low j hj, Nat.zero_mul, Nat.zero_mod], sm_zero, Nat.zero_mod]
      rw [Nat.add_mod, z, Nat.zero_add, Nat.mod_mod, Nat.mul_mod, h1 i (by omega), Nat.mul_one, Nat.mod_mod] at h0
      exact h0
/-- no more distinct joint eigenvectors than coordinates -/
theorem indep_le {n p m : Nat} (hp : p ∈ prs) (hn : 0 < n) {v X Y : Nat → Nat → Nat} {q : Nat → Nat × Nat} (hq : ∀ i, i < m → (q i).1 < p ∧ (q i).2 < p) (inj : ∀ i j, i < m → j < m → q i = q j → i = j) (h1 : ∀ i, i < m → v i 0 % p = 1) (hX : ∀ i, i < m → ∀ k, k < n → sm (fun row => v i row * X row k) n % p = (q i).1 * v i k % p) (hY : ∀ i, i < m → ∀ k, k < n → sm (fun row => v i row * Y row k) n % p = (q i).2 * v i k % p) : m ≤ n := by
  refine Classical.byContradiction fun hno => ?_
  obtain ⟨c, ⟨i, hi, hc⟩, h⟩ := dim_rel hp n v
  exact hc (indep hp hn (n + 1) c (fun i hi => hq i (by omega)) (fun i j hi hj => inj i j (by omega) (by omega)) (fun i hi => h1 i (by omega)) (fun i hi => hX i (by omega)) (fun i hi => hY i (by omega)) h i hi)
