/-! Horner's rule at a number -/
theorem rsd_add {x y p : Nat} (h0 : 0 < p) : (rsd ((x : Int) - (y : Nat)) p + y) % p = x % p := by
  unfold rsd
  have h1 := Int.emod_nonneg ((x : Int) - (y : Nat)) (show (p : Int) ≠ 0 by omega)
  have h2 : (((((x : Int) - (y : Nat)) % p).toNat + y : Nat) : Int) % p = (x : Int) % p := by
    rw [Int.natCast_add, Int.toNat_of_nonneg h1, Int.emod_add_emod]
    congr 1
    omega
  rw [← Int.natCast_emod, ← Int.natCast_emod] at h2
  omega
def horT (K : Nat → Nat) (a d : Nat) : Nat → Nat
  | 0 => 0
  | j + 1 => K (d - 1 - j) + a * horT K a d j
theorem horT_sum {K : Nat → Nat} {a d : Nat} : ∀ j, j ≤ d → sm (fun k => K k * a ^ k) d = sm (fun k => K k * a ^ k) (d - j) + a ^ (d - j) * horT K a d j
  | 0, _ => by
    show _ = _ + _ * 0
    rw [Nat.sub_zero, Nat.mul_zero, Nat.add_zero]
  | j + 1, h => by
    rw [horT_sum j (by omega)]
    obtain ⟨m, hm⟩ : ∃ m, d - j = m + 1 := ⟨d - j - 1, by omega⟩
    rw [hm, show d - (j + 1) = m by omega]
    show sm (fun k => K k * a ^ k) m + K m * a ^ m + a ^ (m + 1) * horT K a d j = sm (fun k => K k * a ^ k) m + a ^ m * (K (d - 1 - j) + a * horT K a d j)
    rw [show d - 1 - j = m by omega, Nat.mul_add, Nat.pow_succ, Nat.mul_assoc, Nat.mul_comm (K m), Nat.add_assoc]
theorem horT_all {K : Nat → Nat} {a d : Nat} : horT K a d d = sm (fun k => K k * a ^ k) d := by
  rw [horT_sum d (Nat.le_refl _), Nat.sub_self, Nat.pow_zero, Nat.one_mul]
  show _ = 0 + _
  rw [Nat.zero_add]
theorem hor_step {s T K a p x : Nat} (h0 : 0 < p) (h : (s + T) % p = x % p) : (rsd (((s * a : Nat) : Int) - (K : Nat)) p + (K + a * T)) % p = a * x % p := by
  rw [← Nat.add_assoc, Nat.add_mod, rsd_add h0, ← Nat.add_mod, Nat.mul_comm s a, ← Nat.mul_add, Nat.mul_mod, h, ← Nat.mul_mod]
