/-! numbers modulo a prime, of both sides -/
theorem bm_id {z : Int} (h1 : -2147483648 ≤ z) (h2 : z < 2147483648) : z.bmod 4294967296 = z := by
  unfold Int.bmod
  dsimp only
  split <;> omega
theorem tdiv_abs (z : Int) (P : Nat) (hP : 0 < P) : (z.tdiv P).natAbs ≤ z.natAbs := by
  rw [Int.natAbs_tdiv]
  exact Nat.div_le_self _ _
theorem i_rem {x p : Int32} {z : Int} {P : Nat} (hx : x.toInt = z) (hp : p.toInt = P) (h0 : 0 < P) (h1 : P < 32768) (hz : z.natAbs < 1073741824) : (x - x / p * p).toInt = z.tmod P := by
  have hd := tdiv_abs z P h0
  have hm := Int.mul_tdiv_add_tmod z P
  have ht : (z.tmod P).natAbs ≤ z.natAbs := by
    rw [Int.natAbs_tmod]
    exact Nat.mod_le _ _
  have e1 : (x / p).toInt = z.tdiv P := by
    rw [Int32.toInt_div, hx, hp]
    exact bm_id (by omega) (by omega)
  have e2 : (x / p * p).toInt = z.tdiv P * P := by
    rw [Int32.toInt_mul, e1, hp]
    rw [Int.mul_comm] at hm
    exact bm_id (by omega) (by omega)
  rw [Int32.toInt_sub, e2, hx]
  rw [Int.mul_comm] at hm
  rw [show z - z.tdiv P * P = z.tmod P by omega]
  exact bm_id (by omega) (by omega)
/-- an int as a number: its residue -/
def rsd (z : Int) (P : Nat) : Nat := (z % P).toNat
theorem rsd_nat (n P : Nat) : rsd n P = n % P := by
  unfold rsd
  rw [← Int.natCast_emod]
  exact Int.toNat_natCast _
theorem rsd_lt {z : Int} {P : Nat} (h0 : 0 < P) : rsd z P < P := by
  unfold rsd
  have h1 := Int.emod_nonneg z (show (P : Int) ≠ 0 by omega)
  have h2 := Int.emod_lt_of_pos z (show (0 : Int) < P by omega)
  omega
theorem i_res {x p : Int32} {z : Int} {P : Nat} (hx : x.toInt = z) (hp : p.toInt = P) (h0 : 0 < P) (h1 : P < 32768) (hz : z.natAbs < 1073741824) : (if 0 ≤ (x - x / p * p) then (some (x - x / p * p) : Option Int32) else some ((x - x / p * p) + p)) = some (nI (rsd z P)) := by
  have e := i_rem hx hp h0 h1 hz
  have hl := rsd_lt (z := z) h0
  have e0 : (0 : Int32).toInt = 0 := rfl
  have hq : (z % (P : Int)) = if 0 ≤ z.tmod P then z.tmod P else z.tmod P + P := by
    have k1 := Int.emod_nonneg z (show (P : Int) ≠ 0 by omega)
    have k2 := Int.emod_lt_of_pos z (show (0 : Int) < P by omega)
    have k3 := Int.mul_tdiv_add_tmod z P
    have k4 : (z.tmod P).natAbs < P := by
      rw [Int.natAbs_tmod]
      exact Nat.mod_lt _ h0
    have k5 : (z.tmod P) % (P : Int) = z % (P : Int) := by
      conv => rhs; rw [← k3]
      rw [Int.add_comm, Int.add_mul_emod_self_left]
    split
    · rw [← k5]
      exact Int.emod_eq_of_lt (by omega) (by omega)
    · rw [← k5, ← Int.add_emod_right]
      exact Int.emod_eq_of_lt (by omega) (by omega)
  by_cases h : 0 ≤ z.tmod P
  · rw [if_pos (by rw [Int32.le_iff_toInt_le, e, e0]; exact h)]
    congr 1
    apply Int32.toInt_inj.mp
    rw [e, nI_toInt (by omega)]
    unfold rsd
    rw [hq, if_pos h]
    omega
  · rw [if_neg (by rw [Int32.le_iff_toInt_le, e, e0]; exact h)]
    congr 1
    apply Int32.toInt_inj.mp
    rw [nI_toInt (by omega)]
    unfold rsd
    rw [hq, if_neg h]
    have k4 : (z.tmod P).natAbs < P := by
      rw [Int.natAbs_tmod]
      exact Nat.mod_lt _ h0
    rw [Int32.toInt_add, e, hp]
    rw [show ((z.tmod P) + P : Int).bmod (2 ^ 32) = (z.tmod P) + P from bm_id (by omega) (by omega)]
    omega
theorem p_res {x : Int32} {z : Int} {P : Nat} (hx : x.toInt = z) (h0 : 0 < P) (h1 : P < 32768) (hz : z.natAbs < 1073741824) : p_residue x (nI P) = some (nI (rsd z P)) := by
  unfold p_residue FX9_residue
  rw [if_pos (by rw [n0, nI_ltN (by omega) (by omega)]; exact h0), if_neg (by rw [n0, nI_eqN (by omega) (by omega)]; omega)]
  exact i_res hx (nI_toInt (by omega)) h0 h1 hz
theorem p_resN {n P : Nat} (h0 : 0 < P) (h1 : P < 32768) (hn : n < 1073741824) : p_residue (nI n) (nI P) = some (nI (n % P)) := by
  rw [p_res (z := n) (nI_toInt (by omega)) h0 h1 (by omega), rsd_nat]
theorem m_mod {S : MS} {x : Int32} {z : Int} {P : Nat} (H : S.2 1 0 = nI P) (hx : x.toInt = z) (h0 : 0 < P) (h1 : P < 32768) (hz : z.natAbs < 1073741824) : gFX10_mod x S = some (nI (rsd z P)) := by
  unfold gFX10_mod
  rw [g_p H, gx_bs, if_neg (by rw [n0, nI_eqN (by omega) (by omega)]; omega), gx_bs]
  exact i_res hx (nI_toInt (by omega)) h0 h1 hz
