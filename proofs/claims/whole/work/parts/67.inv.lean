/-! inverses of both sides: the power p - 2 -/
def invF (a p : Nat) : Nat := a ^ (p - 2) % p
theorem pow_sq (a n p : Nat) : (a * a % p) ^ n % p = a ^ (2 * n) % p := by
  rw [← Nat.pow_mod, ← Nat.pow_two, ← Nat.pow_mul]
theorem p_inv {a p : Nat} (hp2 : 2 ≤ p) (hp : p < 32768) (ha : a < p) : p_inverse (nI a) (nI p) = some (nI (invF a p)) := by
  have sq : ∀ {x y : Nat}, x < p → y < p → x * y < 1073741824 := by
    intro x y hx hy
    have := Nat.mul_le_mul (show x ≤ 32767 by omega) (show y ≤ 32767 by omega)
    omega
  unfold p_inverse FX9_inverse
  rw [n1, n2, nI_sub hp2]
  refine itr_val 15 (fun k s => ∃ pw s2 rest, s = (nI pw, nI s2, nI rest) ∧ pw < p ∧ s2 < p ∧ rest < 2 ^ (15 - k) ∧ pw * s2 ^ rest % p = a ^ (p - 2) % p) ⟨1, a, p - 2, rfl, by omega, ha, by simp; omega, by rw [Nat.one_mul]⟩ ?_ ?_
  · rintro k s hk ⟨pw, s2, rest, rfl, h1, h2, h3, h4⟩
    have hr : rest < 2 ^ 15 := Nat.lt_of_lt_of_le h3 (Nat.pow_le_pow_right (by omega) (by omega))
    unfold LX9_inverse_9 BX9_inverse_30
    have ea : nI rest &&& (1 : Int32) = nI (rest % 2 ^ 1) := pk_andN (by omega) 1 rfl
    have es : nI rest >>> ((1 : Int32) &&& 31) = nI (rest / 2 ^ 1) := pk_shrN (by omega) _ 1 rfl
    by_cases h0 : rest = 0
    · subst h0
      right
      rw [Nat.pow_zero, Nat.mul_one, Nat.mod_eq_of_lt h1] at h4
      rw [n0, if_pos (by rw [nI_leN (by omega) (by omega)]; omega), h4]
      rfl
    · left
      have hres : FX9_residue (nI s2 * nI s2) (nI p) (0, fun _ => none) = some (nI (s2 * s2 % p)) := by
        rw [nI_mul]; exact p_resN (by omega) hp (sq h2 h2)
      have hres2 : FX9_residue (nI pw * nI s2) (nI p) (0, fun _ => none) = some (nI (pw * s2 % p)) := by
        rw [nI_mul]; exact p_resN (by omega) hp (sq h1 h2)
      have hp3 : rest / 2 ^ 1 < 2 ^ (15 - (k + 1)) := by
        have : 2 ^ (15 - k) = 2 ^ (15 - (k + 1)) * 2 := by rw [← Nat.pow_succ]; congr 1; omega
        rw [this] at h3
        rw [Nat.pow_one]
        omega
      have hm := Nat.div_add_mod rest 2
      dsimp only
      rw [n0, if_neg (by rw [nI_leN (by omega) (by omega)]; omega), ea, es, hres, hres2, gx_bs, gx_bs, gx_bs, n1]
      by_cases hb : rest % 2 = 1
      · rw [if_pos (by rw [Nat.pow_one, hb])]
        refine ⟨_, rfl, _, _, _, rfl, Nat.mod_lt _ (by omega), Nat.mod_lt _ (by omega), hp3, ?_⟩
        rw [Nat.mul_mod, pow_sq, Nat.mod_mod, ← Nat.mul_mod, Nat.mul_assoc, Nat.mul_comm s2, ← Nat.pow_succ, Nat.pow_one, show (2 * (rest / 2)).succ = rest by omega]
        exact h4
      · rw [if_neg (by rw [nI_eqN (by omega) (by omega), Nat.pow_one]; exact hb)]
        refine ⟨_, rfl, _, _, _, rfl, h1, Nat.mod_lt _ (by omega), hp3, ?_⟩
        rw [Nat.mul_mod, pow_sq, ← Nat.mul_mod, Nat.pow_one, show 2 * (rest / 2) = rest by omega]
        exact h4
  · rintro s ⟨pw, s2, rest, rfl, h1, h2, h3, h4⟩
    obtain rfl : rest = 0 := by
      rw [Nat.sub_self, Nat.pow_zero] at h3
      omega
    unfold LX9_inverse_9
    rw [Nat.pow_zero, Nat.mul_one, Nat.mod_eq_of_lt h1] at h4
    rw [n0, if_pos (by rw [nI_leN (by omega) (by omega)]; omega), h4]
    rfl
theorem m_inv {S : MS} {a p : Nat} (H : S.2 1 0 = nI p) (hp2 : 2 ≤ p) (hp : p < 32768) (ha : a < p) : gFX10_inverse (nI a) S = some (nI (invF a p)) := by
  unfold gFX10_inverse
  rw [n1, n0]
  refine itr_val (p - 2) (fun k s => s = (nI (a ^ k % p), nI k)) ?_ ?_ ?_
  · rw [Nat.pow_zero, Nat.mod_eq_of_lt (show 1 < p by omega)]
  · rintro k s hk rfl
    left
    have h1 := Nat.mod_lt (a ^ k) (show 0 < p by omega)
    have := Nat.mul_le_mul (show a ^ k % p ≤ 32767 by omega) (show a ≤ 32767 by omega)
    unfold gLX10_inverse_4
    rw [g_p H, gx_bs, n2, nI_sub hp2, if_neg (by rw [nI_leN (by omega) (by omega)]; omega), gx_bs, if_neg (by rw [n0, nI_eqN (by omega) (by omega)]; omega), nI_mul, pk_rem (by omega) (by omega) (by omega), n1, nI_add]
    refine ⟨_, rfl, ?_⟩
    rw [Nat.pow_succ, Nat.mod_mul_mod]
  · rintro s rfl
    unfold gLX10_inverse_4
    rw [g_p H, gx_bs, n2, nI_sub hp2, if_pos (by rw [nI_leN (by omega) (by omega)]; omega)]
    rfl
