/-! more vectors than coordinates: a relation modulo a prime -/
theorem prime_mul {p x y : Nat} (hp : p ∈ prs) (h : x * y % p = 0) : x % p = 0 ∨ y % p = 0 := by
  have pb := prs_b p hp
  by_cases hx : x % p = 0
  · exact Or.inl hx
  · right
    have hf := fermat hp (Nat.mod_lt x (show 0 < p by omega)) hx
    have e1 : (x % p) * invF (x % p) p * y % p = y % p := by
      rw [Nat.mul_mod, hf, Nat.one_mul, Nat.mod_mod]
    have e2 : (x % p) * invF (x % p) p * y % p = 0 := by
      have hxy : x % p * y % p = 0 := by rw [Nat.mod_mul_mod]; exact h
      rw [Nat.mul_comm (x % p), Nat.mul_assoc, Nat.mul_mod, hxy, Nat.mul_zero, Nat.zero_mod]
    rw [← e1, e2]
def skp (j i : Nat) : Nat := if i < j then i else i + 1
theorem sm_skip (f : Nat → Nat) (j : Nat) : ∀ n, j ≤ n → sm f (n + 1) = sm (fun i => f (skp j i)) n + f j
  | 0, h => by
    obtain rfl : j = 0 := by omega
    show 0 + f 0 = 0 + f 0
    rfl
  | n + 1, h => by
    by_cases hj : j = n + 1
    · subst hj
      show sm f (n + 1) + f (n + 1) = _
      congr 1
      exact sm_congr (n + 1) fun k hk => by unfold skp; rw [if_pos hk]
    · have ih := sm_skip f j n (by omega)
      show sm f (n + 1) + f (n + 1) = sm (fun i => f (skp j i)) n + f (skp j n) + f j
      rw [ih]
      have : skp j n = n + 1 := by unfold skp; rw [if_neg (by omega)]
      rw [this]
      omega
theorem neg_mod {p x : Nat} (h0 : 0 < p) : (x + (p - x % p)) % p = 0 := by
  have h1 := Nat.mod_lt x h0
  have h2 := Nat.div_add_mod x p
  have : x + (p - x % p) = p * (x / p + 1) := by rw [Nat.mul_add, Nat.mul_one]; omega
  rw [this, Nat.mul_mod_right]
theorem dim_rel {p : Nat} (hp : p ∈ prs) : ∀ (n : Nat) (u : Nat → Nat → Nat), ∃ c : Nat → Nat, (∃ i, i < n + 1 ∧ c i % p ≠ 0) ∧ ∀ k, k < n → sm (fun i => c i * u i k) (n + 1) % p = 0
  | 0, u => ⟨fun _ => 1, ⟨0, by omega, by have := prs_b p hp; show 1 % p ≠ 0; rw [Nat.mod_eq_of_lt (by omega)]; decide⟩, fun k h => by omega⟩
  | n + 1, u => by
    have pb := prs_b p hp
    by_cases hall : ∀ i, i < n + 1 → u i n % p = 0
    · obtain ⟨c, ⟨i, hi, hc⟩, h⟩ := dim_rel hp n u
      refine ⟨fun i => if i < n + 1 then c i else 0, ⟨i, by omega, by show (if i < n + 1 then c i else 0) % p ≠ 0; rw [if_pos hi]; exact hc⟩, fun k hk => ?_⟩
      have e : sm (fun i => (if i < n + 1 then c i else 0) * u i k) (n + 1 + 1) = sm (fun i => c i * u i k) (n + 1) := by
        show sm (fun i => (if i < n + 1 then c i else 0) * u i k) (n + 1) + (if n + 1 < n + 1 then c (n + 1) else 0) * u (n + 1) k = _
        rw [if_neg (by omega), Nat.zero_mul, Nat.add_zero]
        exact sm_congr (n + 1) fun i hi => by rw [if_pos hi]
      rw [e]
      by_cases hkn : k = n
      · subst hkn
        rw [← sm_mod, sm_congr (k + 1) (g := fun _ => 0) fun i hi => by rw [Nat.mul_mod, hall i hi, Nat.mul_zero, Nat.zero_mod], sm_zero, Nat.zero_mod]
      · exact h k (by omega)
    · obtain ⟨j, hj, hne⟩ : ∃ j, j < n + 1 ∧ u j n % p ≠ 0 := by
        refine Classical.byContradiction fun hno => hall fun i hi => Classical.byContradiction fun hz => hno ⟨i, hi, hz⟩
      obtain ⟨c, ⟨i, hi, hc⟩, h⟩ := dim_rel hp n (fun i k => u (skp j i) k * u j n + (p - u (skp j i) n % p) * u j k)
      have key : ∀ k, sm (fun i => (if i = j then sm (fun q => c q * (p - u (skp j q) n % p)) (n + 1) else c (if i < j then i else i - 1) * u j n) * u i k) (n + 1 + 1) = sm (fun i => c i * (u (skp j i) k * u j n + (p - u (skp j i) n % p) * u j k)) (n + 1) := by
        intro k
        rw [sm_skip _ j (n + 1) (by omega), if_pos rfl, sm_mulr, ← sm_add]
        refine sm_congr (n + 1) fun q hq => ?_
        have e1 : ¬ skp j q = j := by unfold skp; split <;> omega
        have e2 : (if skp j q < j then skp j q else skp j q - 1) = q := by
          unfold skp
          by_cases hqj : q < j
          · rw [if_pos hqj, if_pos hqj]
          · rw [if_neg hqj, if_neg (by omega)]; omega
        rw [if_neg e1, e2, Nat.mul_add, Nat.mul_assoc, Nat.mul_assoc, Nat.mul_comm (u j n)]
      refine ⟨fun i => if i = j then sm (fun q => c q * (p - u (skp j q) n % p)) (n + 1) else c (if i < j then i else i - 1) * u j n, ⟨skp j i, by unfold skp; split <;> omega, ?_⟩, fun k hk => ?_⟩
      · show (if skp j i = j then _ else c (if skp j i < j then skp j i else skp j i - 1) * u j n) % p ≠ 0
        have e1 : ¬ skp j i = j := by unfold skp; split <;> omega
        have e2 : (if skp j i < j then skp j i else skp j i - 1) = i := by
          unfold skp
          by_cases hqj : i < j
          · rw [if_pos hqj, if_pos hqj]
          · rw [if_neg hqj, if_neg (by omega)]; omega
        rw [if_neg e1, e2]
        intro z
        rcases prime_mul hp z with z | z
        · exact hc z
        · exact hne z
      · refine Eq.trans (congrArg (· % p) (key k)) ?_
        show sm (fun i => c i * (u (skp j i) k * u j n + (p - u (skp j i) n % p) * u j k)) (n + 1) % p = 0
        by_cases hkn : k = n
        · subst hkn
          rw [← sm_mod, sm_congr (k + 1) (g := fun _ => 0) fun q _ => by
            rw [← Nat.add_mul, Nat.mul_mod, Nat.mul_mod (u (skp j q) k + _), neg_mod (by omega), Nat.zero_mul, Nat.zero_mod, Nat.mul_zero, Nat.zero_mod], sm_zero, Nat.zero_mod]
        · exact h k (by omega)
