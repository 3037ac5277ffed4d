/-! counts that both sides make -/
theorem joinB_eq {ht : Nat → Nat} (w : wfh ht) {i j : Nat} : (!decide ((i, j) ∈ Lm ht) && divs (Lm ht) i j) = joinB ht i j := by
  unfold divs joinB
  have e1 : decide ((i, j) ∈ Lm ht) = decide (j < ht i) := decide_eq_decide.mpr (mem_Lm w)
  have e2 : decide ((i - 1, j) ∈ Lm ht) = decide (j < ht (i - 1)) := decide_eq_decide.mpr (mem_Lm w)
  have e3 : decide ((i, j - 1) ∈ Lm ht) = decide (j - 1 < ht i) := decide_eq_decide.mpr (mem_Lm w)
  rw [e1, e2, e3]
theorem corn_eq {ht : Nat → Nat} (w : wfh ht) {i j : Nat} : (decide ((i, j) ∈ Lm ht) && decide (0 < i + j) && !decide ((i + 1, j) ∈ Lm ht) && !decide ((i, j + 1) ∈ Lm ht)) = corn ht i j := by
  unfold corn
  have e1 : decide ((i, j) ∈ Lm ht) = decide (j < ht i) := decide_eq_decide.mpr (mem_Lm w)
  have e2 : decide ((i + 1, j) ∈ Lm ht) = decide (j < ht (i + 1)) := decide_eq_decide.mpr (mem_Lm w)
  have e3 : decide ((i, j + 1) ∈ Lm ht) = decide (j + 1 < ht i) := decide_eq_decide.mpr (mem_Lm w)
  rw [e1, e2, e3]
def candN (ht : Nat → Nat) : Nat := sm (fun i => sm (fun j => b1 (joinB ht i j)) 12) 12
def cornN (ht : Nat → Nat) : Nat := sm (fun i => sm (fun j => b1 (corn ht i j)) 12) 12
def fillN (ht : Nat → Nat) (r : Nat → Nat → Nat) : Nat := sm (fun b => sm (fun k => b1 (decide (0 < r b k))) (Lm ht).length) (Lb ht).length
theorem cand_eq {ht : Nat → Nat} (w : wfh ht) : sm (fun k => b1 (candB ht ((Lb ht).getD k (0, 0)))) (Lb ht).length = candN ht ∧ sm (fun k => b1 (corn ht ((Lm ht).getD k (0, 0)).1 ((Lm ht).getD k (0, 0)).2)) (Lm ht).length = cornN ht :=
  parts_all (Q := fun ht => sm (fun k => b1 (candB ht ((Lb ht).getD k (0, 0)))) (Lb ht).length = candN ht ∧ sm (fun k => b1 (corn ht ((Lm ht).getD k (0, 0)).1 ((Lm ht).getD k (0, 0)).2)) (Lm ht).length = cornN ht) parts_d w
theorem sm_congr {f g : Nat → Nat} : ∀ n, (∀ k, k < n → f k = g k) → sm f n = sm g n
  | 0, _ => rfl
  | n + 1, h => by
    show sm f n + f n = sm g n + g n
    rw [sm_congr n (fun k hk => h k (by omega)), h n (by omega)]
theorem Lm_at {ht : Nat → Nat} (w : wfh ht) {k : Nat} (hk : k < (Lm ht).length) : mx (Lm ht) k < 12 ∧ my (Lm ht) k < 12 := by
  refine (Lm_a w).2.2.2.1 ((Lm ht).getD k (0, 0)) ?_
  rw [List.getD_eq_getElem?_getD, List.getElem?_eq_getElem hk]
  exact List.getElem_mem hk
theorem Lb_at {ht : Nat → Nat} (w : wfh ht) {k : Nat} (hk : k < (Lb ht).length) : mx (Lb ht) k < 13 ∧ my (Lb ht) k < 13 := by
  refine (Lm_a w).2.2.2.2.1 ((Lb ht).getD k (0, 0)) ?_
  rw [List.getD_eq_getElem?_getD, List.getElem?_eq_getElem hk]
  exact List.getElem_mem hk
section
variable {S : MS} {p : Nat} {ht : Nat → Nat} {r : Nat → Nat → Nat} {pts : List (Nat × Nat)}
theorem s_candidates (H : ST S p ht r pts) (w : wfh ht) : gFX5_candidates S = some (nI (candN ht)) := by
  have l := Lm_len w
  unfold gFX5_candidates
  rw [n0, itr_sum (f := fun k => b1 (candB ht ((Lb ht).getD k (0, 0)))) (N := (Lb ht).length) (out := nI) ?_ ?_ 0, Nat.zero_add, (cand_eq w).1]
  · intro c k hk
    have e := H.2.2.1.2.2.2 k hk
    have e2 := Lb_at w hk
    have e3 : candB ht ((Lb ht).getD k (0, 0)) = (decide (mx (Lb ht) k ≤ 11) && decide (my (Lb ht) k ≤ 11) && !decide (obst ht (mx (Lb ht) k) (my (Lb ht) k) = 2)) := rfl
    have e4 : obst ht (mx (Lb ht) k) (my (Lb ht) k) < 4 := by unfold obst; split <;> (try split) <;> (try split) <;> omega
    have eO := s_obstacle H w (i := mx (Lb ht) k) (j := my (Lb ht) k) (by omega) (by omega)
    unfold gLX5_candidates_4 gBX5_candidates_54
    simp (disch := omega) only [gx_bs, H.2.2.1.2.1, nI_leN, nI_ltN, n11, n2, n1, nI_add, sK_a4, sK_a5, e.1, e.2, eO, nI_eqN, e3]
    rw [if_neg (by omega)]
    by_cases h1 : mx (Lb ht) k ≤ 11
    · rw [if_neg (by omega), decide_eq_true h1]
      by_cases h2 : my (Lb ht) k ≤ 11
      · rw [if_neg (by omega), decide_eq_true h2]
        by_cases h3 : obst ht (mx (Lb ht) k) (my (Lb ht) k) = 2
        · rw [if_pos h3, decide_eq_true h3]; rfl
        · rw [if_neg h3, decide_eq_false h3]; rfl
      · rw [if_pos (by omega), decide_eq_false h2]; rfl
    · rw [if_pos (by omega), decide_eq_false h1]; rfl
  · intro c
    unfold gLX5_candidates_4
    simp (disch := omega) only [gx_bs, H.2.2.1.2.1, nI_leN]
    rw [if_pos (Nat.le_refl _)]
    rfl
theorem s_corners (H : ST S p ht r pts) (w : wfh ht) : gFX5_corners S = some (nI (cornN ht)) := by
  have l := Lm_len w
  unfold gFX5_corners
  rw [n0, itr_sum (f := fun k => b1 (corn ht ((Lm ht).getD k (0, 0)).1 ((Lm ht).getD k (0, 0)).2)) (N := (Lm ht).length) (out := nI) ?_ ?_ 0, Nat.zero_add, (cand_eq w).2]
  · intro c k hk
    have e := H.2.2.1.2.2.1 k hk
    have e2 := Lm_at w hk
    have e3 : corn ht ((Lm ht).getD k (0, 0)).1 ((Lm ht).getD k (0, 0)).2 = corn ht (mx (Lm ht) k) (my (Lm ht) k) := rfl
    have eO := s_isCorner H w (i := mx (Lm ht) k) (j := my (Lm ht) k) (by omega) (by omega)
    unfold gLX5_corners_4 gBX5_corners_34
    simp (disch := omega) only [gx_bs, H.2.2.1.1, nI_leN, n1, n0, nI_add, sK_a2, sK_a3, e.1, e.2, eO, e3, bI_0]
    rw [if_neg (by omega)]
    cases corn ht (mx (Lm ht) k) (my (Lm ht) k) with
    | true => rw [if_neg (by decide)]; rfl
    | false => rw [if_pos rfl]; rfl
  · intro c
    unfold gLX5_corners_4
    simp (disch := omega) only [gx_bs, H.2.2.1.1, nI_leN]
    rw [if_pos (Nat.le_refl _)]
    rfl
theorem s_filled (H : ST S p ht r pts) (w : wfh ht) (hr : ∀ b k, b < (Lb ht).length → k < (Lm ht).length → r b k < 2 ^ 31) : gFX5_coefficientsNotZero S = some (nI (fillN ht r)) := by
  have l := Lm_len w
  unfold gFX5_coefficientsNotZero
  rw [n0, itr_sum (f := fun b => sm (fun k => b1 (decide (0 < r b k))) (Lm ht).length) (N := (Lb ht).length) (out := nI) ?_ ?_ 0, Nat.zero_add]
  · rfl
  · intro c b hb
    unfold gLX5_coefficientsNotZero_4
    simp (disch := omega) only [gx_bs, H.2.2.1.2.1, nI_leN]
    rw [if_neg (by omega), n0, itr_sum (f := fun k => b1 (decide (0 < r b k))) (N := (Lm ht).length) (out := fun c => Sum.inl (nI c, nI (b + 1))) ?_ ?_ c]
    · intro c k hk
      have := hr b k hb hk
      unfold gLX5_coefficientsNotZero_14 gBX5_coefficientsNotZero_34
      simp (disch := omega) only [gx_bs, H.2.2.1.1, nI_leN, n1, n0, nI_add, s_coef H w hb hk, nI_eqN]
      rw [if_neg (by omega)]
      by_cases h : r b k = 0
      · rw [if_pos h, decide_eq_false (by omega)]; rfl
      · rw [if_neg h, decide_eq_true (by omega)]; rfl
    · intro c
      unfold gLX5_coefficientsNotZero_14
      simp (disch := omega) only [gx_bs, H.2.2.1.1, nI_leN, n1, nI_add]
      rw [if_pos (Nat.le_refl _)]
      rfl
  · intro c
    unfold gLX5_coefficientsNotZero_4
    simp (disch := omega) only [gx_bs, H.2.2.1.2.1, nI_leN]
    rw [if_pos (Nat.le_refl _)]
    rfl
theorem m_movable (H : RC (S.2 1) p ht r pts) (w : wfh ht) {b : Nat} (hb : b ≤ 1) : gFX10_movable (nI b) S = some (nI (if b = 0 then cornN ht else candN ht)) := by
  have l := Lm_len w
  unfold gFX10_movable
  rw [n0, itr_sum (f := fun i => sm (fun j => b1 (if b = 0 then corn ht i j else joinB ht i j)) 12) (N := 12) (out := nI) ?_ ?_ 0, Nat.zero_add]
  · by_cases h : b = 0
    · simp only [if_pos h]; rfl
    · simp only [if_neg h]; rfl
  · intro c i hi
    unfold gLX10_movable_4
    simp (disch := omega) only [n11, nI_ltN]
    rw [if_neg (by omega), n0, itr_sum (f := fun j => b1 (if b = 0 then corn ht i j else joinB ht i j)) (N := 12) (out := fun c => Sum.inl (nI c, nI (i + 1))) ?_ ?_ c]
    · intro c j hj
      unfold gLX10_movable_13 gBX10_movable_52 gBX10_movable_48 gBX10_movable_53
      rw [g_canLeave H.2.1 l.2.1 (Lm_small w) (by omega) (by omega), g_canJoin H.2.1 l.2.1 (Lm_small w) (by omega) (by omega), joinB_eq w, corn_eq w]
      simp (disch := omega) only [n11, nI_ltN, n0, n1, nI_eqN, gx_bs, nI_add, bI_0]
      rw [if_neg (by omega)]
      by_cases h : b = 0
      · rw [if_pos h, if_pos h]
        cases corn ht i j with
        | true => rw [if_neg (by decide)]; rfl
        | false => rw [if_pos rfl]; rfl
      · rw [if_neg h, if_neg h]
        cases joinB ht i j with
        | true => rw [if_neg (by decide)]; rfl
        | false => rw [if_pos rfl]; rfl
    · intro c
      unfold gLX10_movable_13
      simp (disch := omega) only [n11, nI_ltN, n1, nI_add]
      rw [if_pos (by omega)]
      rfl
  · intro c
    unfold gLX10_movable_4
    simp (disch := omega) only [n11, nI_ltN]
    rw [if_pos (by omega)]
    rfl
theorem m_filled (H : RC (S.2 1) p ht r pts) (w : wfh ht) (hr : ∀ b k, b < (Lb ht).length → k < (Lm ht).length → r b k < 2 ^ 31) : gFX10_filled S = some (nI (fillN ht r)) := by
  have l := Lm_len w
  unfold gFX10_filled
  rw [n0, itr_sum (f := fun b => sm (fun k => b1 (decide (0 < r b k))) (Lm ht).length) (N := (Lb ht).length) (out := nI) ?_ ?_ 0, Nat.zero_add]
  · rfl
  · intro c b hb
    unfold gLX10_filled_4
    simp (disch := omega) only [n2, mK_a1, gx_bs, H.2.2.1.1, nI_leN]
    rw [if_neg (by omega), n0, itr_sum (f := fun k => b1 (decide (0 < r b k))) (N := (Lm ht).length) (out := fun c => Sum.inl (nI c, nI (b + 1))) ?_ ?_ c]
    · intro c k hk
      have := hr b k hb hk
      have er := H.2.2.2.2.1 b k hb hk
      unfold gLX10_filled_16 gBX10_filled_43 gFX10_ruleAt
      rw [g_n H.2.1]
      simp (disch := omega) only [gx_bs, nI_leN, n1, n0, n12, n56, nI_mul, nI_add, mK_a1, Nat.add_assoc, er]
      rw [if_neg (by omega)]
      by_cases h : r b k ≤ 0
      · rw [if_pos h, decide_eq_false (by omega)]; rfl
      · rw [if_neg h, decide_eq_true (by omega)]; rfl
    · intro c
      unfold gLX10_filled_16
      rw [g_n H.2.1]
      simp (disch := omega) only [gx_bs, nI_leN, n1, nI_add]
      rw [if_pos (Nat.le_refl _)]
      rfl
  · intro c
    unfold gLX10_filled_4
    simp (disch := omega) only [n2, mK_a1, gx_bs, H.2.2.1.1, nI_leN]
    rw [if_pos (Nat.le_refl _)]
    rfl
end
