/-! the class's State: looking up, obstacles, rules that stay, a height that changes -/
section
variable {S : MS} {p : Nat} {ht : Nat → Nat} {r : Nat → Nat → Nat} {pts : List (Nat × Nat)}
theorem s_fndM (H : ST S p ht r pts) (w : wfh ht) (i j : Int32) : gFX5_numberOf i j S = some (fnd (S.2 2) (S.2 3) i j (Lm ht).length 0) := by
  have l := Lm_len w
  have e := H.2.2.1.1
  unfold gFX5_numberOf
  rw [n0]
  refine itr_fnd (fun k hk => ?_) ?_
  · unfold gLX5_numberOf_2 gBX5_numberOf_32
    simp (disch := omega) only [gx_bs, e, nI_leN, n1, nI_add, sK_a2, sK_a3]
    rw [if_neg (by omega)]
    by_cases h1 : S.2 2 k = i
    · by_cases h2 : S.2 3 k = j
      · rw [if_pos h1, if_pos h2, if_pos ⟨h1, h2⟩]; rfl
      · rw [if_pos h1, if_neg h2, if_neg (fun z => h2 z.2)]
    · rw [if_neg h1, if_neg (fun z => h1 z.1)]
  · unfold gLX5_numberOf_2
    simp (disch := omega) only [gx_bs, e, nI_leN]
    rw [if_pos (Nat.le_refl _)]
    rfl
theorem s_fndB (H : ST S p ht r pts) (w : wfh ht) (i j : Int32) : gFX5_borderNumberOf i j S = some (fnd (S.2 4) (S.2 5) i j (Lb ht).length 0) := by
  have l := Lm_len w
  have e := H.2.2.1.2.1
  unfold gFX5_borderNumberOf
  rw [n0]
  refine itr_fnd (fun k hk => ?_) ?_
  · unfold gLX5_borderNumberOf_2 gBX5_borderNumberOf_32
    simp (disch := omega) only [gx_bs, e, nI_leN, n1, nI_add, sK_a4, sK_a5]
    rw [if_neg (by omega)]
    by_cases h1 : S.2 4 k = i
    · by_cases h2 : S.2 5 k = j
      · rw [if_pos h1, if_pos h2, if_pos ⟨h1, h2⟩]; rfl
      · rw [if_pos h1, if_neg h2, if_neg (fun z => h2 z.2)]
    · rw [if_neg h1, if_neg (fun z => h1 z.1)]
  · unfold gLX5_borderNumberOf_2
    simp (disch := omega) only [gx_bs, e, nI_leN]
    rw [if_pos (Nat.le_refl _)]
    rfl
theorem s_numberOf (H : ST S p ht r pts) (w : wfh ht) {i j : Nat} (hi : i < 2 ^ 31) (hj : j < 2 ^ 31) : gFX5_numberOf (nI i) (nI j) S = some (ixI (Lm ht) (i, j)) := by
  rw [s_fndM H w, fnd_ix hi hj (Lm_small w) H.2.2.1.2.2.1]
theorem s_borderNumberOf (H : ST S p ht r pts) (w : wfh ht) {i j : Nat} (hi : i < 2 ^ 31) (hj : j < 2 ^ 31) : gFX5_borderNumberOf (nI i) (nI j) S = some (ixI (Lb ht) (i, j)) := by
  rw [s_fndB H w, fnd_ix hi hj (Lb_small w) H.2.2.1.2.2.2]
theorem s_has (H : ST S p ht r pts) (w : wfh ht) {b k : Nat} (hb : b < 2 ^ 31) (hk : k < 2 ^ 31) : gFX5_hasCoefficient (nI b) (nI k) S = some (bI (decide (b < (Lb ht).length) && decide (k < (Lm ht).length))) := by
  have l := Lm_len w
  unfold gFX5_hasCoefficient
  simp (disch := omega) only [n0, n1, nI_lt0, gx_bs, H.2.2.1.1, H.2.2.1.2.1, nI_leN, if_false]
  by_cases h1 : b < (Lb ht).length
  · rw [if_neg (by omega), decide_eq_true h1, Bool.true_and]
    by_cases h2 : k < (Lm ht).length
    · rw [if_neg (by omega), decide_eq_true h2]; rfl
    · rw [if_pos (by omega), decide_eq_false h2]; rfl
  · rw [if_pos (by omega), decide_eq_false h1]; rfl
theorem s_has_m {b : Int32} : gFX5_hasCoefficient b m1 S = some (bI false) := by
  unfold gFX5_hasCoefficient
  rw [n0, gx_bs, gx_bs]
  split
  · rfl
  · split
    · rfl
    · rw [if_pos (by rw [m1_neg]; trivial)]; rfl
theorem s_coef (H : ST S p ht r pts) (w : wfh ht) {b k : Nat} (hb : b < (Lb ht).length) (hk : k < (Lm ht).length) : gFX5_coefficient (nI b) (nI k) S = some (nI (r b k)) := by
  have l := Lm_len w
  unfold gFX5_coefficient
  rw [s_has H w (by omega) (by omega), decide_eq_true hb, decide_eq_true hk, gx_bs, n0, if_neg (by rw [Bool.and_true, bI_0]; decide)]
  have := H.2.2.2.1 b k hb hk
  simp (disch := omega) only [n12, nI_mul, nI_add, sK_a6, gx_bs, show b * 12 + k = 12 * b + k by omega, this]
theorem s_coef_m {b : Int32} : gFX5_coefficient b m1 S = some (nI 0) := by
  unfold gFX5_coefficient
  rw [s_has_m, gx_bs, n0, if_pos bI_f]
theorem s_hb (w : wfh ht) : ∀ k, ht k ≤ 13 := by
  intro k
  have := w.deg (i := k)
  omega
/-- why a monomial may not join: 0 if it may -/
def obst (ht : Nat → Nat) (i j : Nat) : Nat := if j < ht i then 1 else if (0 < i ∧ ¬ j < ht (i - 1)) ∨ (0 < j ∧ ¬ j - 1 < ht i) then 2 else if 12 ≤ (Lm ht).length then 3 else 0
theorem s_obstacle (H : ST S p ht r pts) (w : wfh ht) {i j : Nat} (hi : i ≤ 12) (hj : j < 1000) : gFX5_obstacle (nI i) (nI j) S = some (nI (obst ht i j)) := by
  have l := Lm_len w
  have hb := s_hb w
  have E43 : gBX5_obstacle_43 S = some (nI (if 12 ≤ (Lm ht).length then 3 else 0)) := by
    unfold gBX5_obstacle_43
    simp (disch := omega) only [gx_bs, H.2.2.1.1, n12, nI_ltN, n0, n3]
    by_cases h : (Lm ht).length < 12
    · rw [if_pos h, if_neg (by omega)]
    · rw [if_neg h, if_pos (by omega)]
  have E26 : gBX5_obstacle_26 (nI i) (nI j) S = some (nI (if 0 < j ∧ ¬ j - 1 < ht i then 2 else if 12 ≤ (Lm ht).length then 3 else 0)) := by
    unfold gBX5_obstacle_26
    simp (disch := omega) only [n0, n1, n2, nI_leN]
    by_cases h : j = 0
    · rw [if_pos (by omega), E43, if_neg (show ¬ (0 < j ∧ ¬ j - 1 < ht i) by omega)]
    · rw [if_neg (by omega), nI_sub (by omega), s_contains H.2.1 hb hi (by omega), gx_bs, E43]
      by_cases h2 : j - 1 < ht i
      · rw [decide_eq_true h2, if_neg (by rw [bI_0]; decide), if_neg (show ¬ (0 < j ∧ ¬ j - 1 < ht i) by omega)]
      · rw [decide_eq_false h2, if_pos bI_f, if_pos (show 0 < j ∧ ¬ j - 1 < ht i by omega)]
  unfold gFX5_obstacle obst
  rw [s_contains H.2.1 hb hi (by omega), gx_bs, E26]
  simp (disch := omega) only [n0, n1, n2, nI_leN]
  by_cases h1 : j < ht i
  · rw [decide_eq_true h1, if_neg (by rw [bI_0]; decide), if_pos h1]
  · rw [decide_eq_false h1, if_pos bI_f, if_neg h1]
    by_cases h2 : i = 0
    · rw [if_pos (by omega)]
      by_cases h3 : 0 < j ∧ ¬ j - 1 < ht i
      · rw [if_pos h3, if_pos (Or.inr h3)]
      · rw [if_neg h3, if_neg (show ¬ ((0 < i ∧ ¬ j < ht (i - 1)) ∨ (0 < j ∧ ¬ j - 1 < ht i)) by omega)]
    · rw [if_neg (by omega), nI_sub (by omega), s_contains H.2.1 hb (by omega) (by omega), gx_bs]
      by_cases h4 : j < ht (i - 1)
      · rw [decide_eq_true h4, if_neg (by rw [bI_0]; decide)]
        by_cases h3 : 0 < j ∧ ¬ j - 1 < ht i
        · rw [if_pos h3, if_pos (Or.inr h3)]
        · rw [if_neg h3, if_neg (show ¬ ((0 < i ∧ ¬ j < ht (i - 1)) ∨ (0 < j ∧ ¬ j - 1 < ht i)) by omega)]
      · rw [decide_eq_false h4, if_pos bI_f, if_pos (show (0 < i ∧ ¬ j < ht (i - 1)) ∨ (0 < j ∧ ¬ j - 1 < ht i) from Or.inl ⟨by omega, h4⟩)]
def corn (ht : Nat → Nat) (i j : Nat) : Bool := decide (j < ht i) && decide (0 < i + j) && !decide (j < ht (i + 1)) && !decide (j + 1 < ht i)
theorem s_isCorner (H : ST S p ht r pts) (w : wfh ht) {i j : Nat} (hi : i ≤ 11) (hj : j < 900) : gFX5_isCorner (nI i) (nI j) S = some (bI (corn ht i j)) := by
  have hb := s_hb w
  have E17 : gBX5_isCorner_17 (nI i) (nI j) S = some (bI (!decide (j < ht (i + 1)) && !decide (j + 1 < ht i))) := by
    unfold gBX5_isCorner_17
    rw [n0, n1, nI_add, nI_add, s_contains H.2.1 hb (by omega) (by omega), s_contains H.2.1 hb (by omega) (by omega), gx_bs, gx_bs]
    cases decide (j < ht (i + 1)) with
    | true => rw [if_neg (by rw [bI_0]; decide)]; rfl
    | false =>
      rw [if_pos bI_f]
      cases decide (j + 1 < ht i) with
      | true => rw [if_neg (by rw [bI_0]; decide)]; rfl
      | false => rw [if_pos bI_f]; rfl
  unfold gFX5_isCorner corn
  rw [E17, s_contains H.2.1 hb (by omega) (by omega), gx_bs]
  simp (disch := omega) only [n0, nI_ltN, nI_leN]
  cases decide (j < ht i) with
  | false => rw [if_pos bI_f]; rfl
  | true =>
    rw [if_neg (by rw [bI_0]; decide), Bool.true_and]
    by_cases h1 : 0 < i
    · rw [if_pos h1, decide_eq_true (show 0 < i + j by omega), Bool.true_and]
    · rw [if_neg h1]
      by_cases h2 : 0 < j
      · rw [decide_eq_true (show 0 < i + j by omega), Bool.true_and]
        rw [if_neg (show ¬ j ≤ 0 by omega)]
      · rw [decide_eq_false (show ¬ 0 < i + j by omega)]
        rw [if_pos (show j ≤ 0 by omega)]; rfl
end
