/-! when a monomial may join or leave, in the words of both sides -/
theorem obst_join {ht : Nat → Nat} {i j : Nat} (w : wfh ht) : obst ht i j = 0 ↔ (joinB ht i j = true ∧ (Lm ht).length < 12) := by
  have l := Lm_len w
  unfold obst joinB
  simp only [Bool.and_eq_true, Bool.or_eq_true, Bool.not_eq_true', decide_eq_true_eq, decide_eq_false_iff_not]
  split
  · omega
  · split
    · omega
    · split <;> omega
theorem join_up {ht : Nat → Nat} {i j : Nat} (w : wfh ht) (hi : i ≤ 11) (h : joinB ht i j = true) (hn : (Lm ht).length < 12) : j = ht i ∧ canUp ht i = true := by
  have l := Lm_len w
  unfold joinB at h
  simp only [Bool.and_eq_true, Bool.or_eq_true, Bool.not_eq_true', decide_eq_true_eq, decide_eq_false_iff_not] at h
  have hj : j = ht i := by omega
  refine ⟨hj, ?_⟩
  unfold canUp
  simp only [Bool.and_eq_true, Bool.or_eq_true, decide_eq_true_eq]
  omega
theorem corn_dn {ht : Nat → Nat} {i j : Nat} (hi : i ≤ 11) (h : corn ht i j = true) : j = ht i - 1 ∧ canDn ht i = true := by
  unfold corn at h
  simp only [Bool.and_eq_true, Bool.not_eq_true', decide_eq_true_eq, decide_eq_false_iff_not] at h
  have hj : j = ht i - 1 := by omega
  refine ⟨hj, ?_⟩
  unfold canDn
  simp only [Bool.and_eq_true, Bool.or_eq_true, decide_eq_true_eq]
  omega
