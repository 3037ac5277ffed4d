/-! a zero's row of values is a left eigenvector of both tables -/
theorem mvN_eq {p a b i j : Nat} : mvN p a b i j = a ^ i * b ^ j % p := by
  unfold mvN
  rw [← Nat.mul_mod]
theorem mvN_x {p a b i j : Nat} : mvN p a b (i + 1) j = a * mvN p a b i j % p := by
  rw [mvN_eq, mvN_eq, Nat.mul_mod_mod, Nat.pow_succ, Nat.mul_comm (a ^ i) a, Nat.mul_assoc]
theorem mvN_y {p a b i j : Nat} : mvN p a b i (j + 1) = b * mvN p a b i j % p := by
  rw [mvN_eq, mvN_eq, Nat.mul_mod_mod, Nat.pow_succ, ← Nat.mul_assoc, Nat.mul_comm (a ^ i * b ^ j) b]
theorem getD_idx {L : List (Nat × Nat)} {q : Nat × Nat} (h : q ∈ L) : L.getD (L.idxOf q) (0, 0) = q := by
  have hl := List.idxOf_lt_length_of_mem h
  rw [List.getD_eq_getElem?_getD, List.getElem?_eq_getElem hl, List.getElem_idxOf]
  rfl
theorem zerB_all {ht : Nat → Nat} {r : Nat → Nat → Nat} {p a b : Nat} : ∀ {e : Nat}, zerB ht r p a b e = true → ∀ k, k < e → rvN ht r p a b k = 0
  | 0, _, k, h => by omega
  | e + 1, hz, k, h => by
    have hz : (zerB ht r p a b e && decide (rvN ht r p a b e = 0)) = true := hz
    rw [Bool.and_eq_true, decide_eq_true_eq] at hz
    by_cases hk : k = e
    · rw [hk]; exact hz.2
    · exact zerB_all hz.1 k (by omega)
theorem rv_zero {ht : Nat → Nat} {r : Nat → Nat → Nat} {p a b e : Nat} (h0 : 0 < p) (h : rvN ht r p a b e = 0) : sm (rsN ht r p a b e) (Lm ht).length % p = mvN p a b (mx (Lb ht) e) (my (Lb ht) e) := by
  unfold rvN rsd at h
  have h1 := Int.emod_nonneg (((a ^ (mx (Lb ht) e) % p * (b ^ (my (Lb ht) e) % p) : Nat) : Int) - (sm (rsN ht r p a b e) (Lm ht).length : Nat)) (show (p : Int) ≠ 0 by omega)
  have h2 : (((a ^ (mx (Lb ht) e) % p * (b ^ (my (Lb ht) e) % p) : Nat) : Int) - (sm (rsN ht r p a b e) (Lm ht).length : Nat)) % p = 0 := by omega
  have h3 := (Int.emod_eq_emod_iff_emod_sub_eq_zero).mpr h2
  rw [← Int.natCast_emod, ← Int.natCast_emod] at h3
  have h4 : (a ^ (mx (Lb ht) e) % p * (b ^ (my (Lb ht) e) % p)) % p = sm (rsN ht r p a b e) (Lm ht).length % p := by omega
  rw [← h4]
  rfl
def evV (ht : Nat → Nat) (p a b : Nat) : Nat → Nat := fun k => mvN p a b (mx (Lm ht) k) (my (Lm ht) k)
theorem eig {ht : Nat → Nat} {r : Nat → Nat → Nat} {p a b : Nat} (w : wfh ht) (h0 : 0 < p) (hz : zF ht r p a b = true) {di dj : Nat} (hd : (di = 1 ∧ dj = 0) ∨ (di = 0 ∧ dj = 1)) {k : Nat} (hk : k < (Lm ht).length) : sm (fun row => evV ht p a b row * tabM ht r di dj row k) (Lm ht).length % p = (if di = 1 then a else b) * evV ht p a b k % p := by
  have step : mvN p a b (mx (Lm ht) k + di) (my (Lm ht) k + dj) = (if di = 1 then a else b) * evV ht p a b k % p := by
    rcases hd with ⟨rfl, rfl⟩ | ⟨rfl, rfl⟩
    · rw [if_pos rfl, Nat.add_zero, mvN_x]; rfl
    · rw [if_neg (by decide), Nat.add_zero, mvN_y]; rfl
  rw [← step]
  by_cases hm : (mx (Lm ht) k + di, my (Lm ht) k + dj) ∈ Lm ht
  · have hi := List.idxOf_lt_length_of_mem hm
    have hg := getD_idx hm
    have e1 : sm (fun row => evV ht p a b row * tabM ht r di dj row k) (Lm ht).length = sm (fun row => (if (Lm ht).idxOf (mx (Lm ht) k + di, my (Lm ht) k + dj) = row then 1 else 0) * evV ht p a b row) (Lm ht).length := sm_congr _ fun row _ => by
      unfold tabM
      rw [if_pos hm, Nat.mul_comm]
      congr 1
      by_cases h : row = (Lm ht).idxOf (mx (Lm ht) k + di, my (Lm ht) k + dj)
      · rw [if_pos h, if_pos h.symm]
      · rw [if_neg h, if_neg (fun z => h z.symm)]
    rw [e1, sm_one, if_pos hi]
    unfold evV mx my at *
    rw [hg]
    exact Nat.mod_eq_of_lt (Nat.mod_lt _ h0)
  · have hb := stepB w hd hk hm
    have hi := List.idxOf_lt_length_of_mem hb
    have hg := getD_idx hb
    have rv := rv_zero h0 (zerB_all hz _ hi)
    have e1 : sm (fun row => evV ht p a b row * tabM ht r di dj row k) (Lm ht).length = sm (rsN ht r p a b ((Lb ht).idxOf (mx (Lm ht) k + di, my (Lm ht) k + dj))) (Lm ht).length := sm_congr _ fun row _ => by
      unfold tabM rsN
      rw [if_neg hm, Nat.mul_comm]
      rfl
    rw [e1, rv]
    have g1 : mx (Lb ht) ((Lb ht).idxOf (mx (Lm ht) k + di, my (Lm ht) k + dj)) = mx (Lm ht) k + di := by
      show ((Lb ht).getD _ (0, 0)).1 = _
      rw [hg]
    have g2 : my (Lb ht) ((Lb ht).idxOf (mx (Lm ht) k + di, my (Lm ht) k + dj)) = my (Lm ht) k + dj := by
      show ((Lb ht).getD _ (0, 0)).2 = _
      rw [hg]
    rw [g1, g2]
/-- the first entry of that row is 1 -/
theorem evV_0 {ht : Nat → Nat} {p a b : Nat} (w : wfh ht) (hp : 2 ≤ p) : evV ht p a b 0 = 1 := by
  have h := (Lm_a w).2.2.2.2.2.2
  have h1 : mx (Lm ht) 0 = 0 := by show ((Lm ht).getD 0 (0, 0)).1 = 0; rw [h]
  have h2 : my (Lm ht) 0 = 0 := by show ((Lm ht).getD 0 (0, 0)).2 = 0; rw [h]
  unfold evV
  rw [h1, h2, mvN_eq, Nat.pow_zero, Nat.pow_zero, Nat.mul_one]
  exact Nat.mod_eq_of_lt (by omega)
