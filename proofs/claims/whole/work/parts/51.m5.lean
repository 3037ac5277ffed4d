/-! order ideals: what a program decides of all of them -/
def uph (f : Nat → Nat) (i v : Nat) : Nat → Nat := fun k => if k = i then v else f k
def canUp (ht : Nat → Nat) (i : Nat) : Bool := decide (sm ht 13 < 12) && decide (i < 12) && (decide (i = 0) || decide (ht i < ht (i - 1)))
def canDn (ht : Nat → Nat) (i : Nat) : Bool := decide (i < 12) && decide (ht (i + 1) < ht i) && (decide (0 < i) || decide (1 < ht i))
theorem sm_uph (f : Nat → Nat) (i v : Nat) : ∀ n, sm (uph f i v) n + (if i < n then f i else 0) = sm f n + (if i < n then v else 0)
  | 0 => rfl
  | n + 1 => by
    have := sm_uph f i v n
    show sm (uph f i v) n + uph f i v n + _ = sm f n + f n + _
    unfold uph at *
    by_cases h : n = i
    · subst h
      rw [if_pos rfl, if_pos (by omega), if_pos (by omega)]
      rw [if_neg (by omega), if_neg (by omega)] at this
      omega
    · rw [if_neg h]
      by_cases h2 : i < n
      · rw [if_pos h2, if_pos h2] at this
        rw [if_pos (by omega), if_pos (by omega)]
        omega
      · rw [if_neg h2, if_neg h2] at this
        rw [if_neg (by omega), if_neg (by omega)]
        omega
theorem wfh_up {ht : Nat → Nat} (w : wfh ht) {i : Nat} (h : canUp ht i = true) : wfh (uph ht i (ht i + 1)) := by
  obtain ⟨w1, w2, w3, w4⟩ := w
  simp only [canUp, Bool.and_eq_true, Bool.or_eq_true, decide_eq_true_eq] at h
  have hs := sm_uph ht i (ht i + 1) 13
  rw [if_pos (by omega), if_pos (by omega)] at hs
  refine ⟨fun k => ?_, ?_, by omega, fun k hk => ?_⟩
  · unfold uph
    have := w1 k
    by_cases h1 : k + 1 = i
    · rw [if_pos h1, if_neg (by omega)]
      have e : i - 1 = k := by omega
      rw [e] at h
      omega
    · rw [if_neg h1]
      by_cases h2 : k = i
      · rw [if_pos h2]; subst h2; omega
      · rw [if_neg h2]; exact this
  · unfold uph; split <;> omega
  · unfold uph
    rw [if_neg (by omega)]
    exact w4 k hk
theorem wfh_dn {ht : Nat → Nat} (w : wfh ht) {i : Nat} (h : canDn ht i = true) : wfh (uph ht i (ht i - 1)) := by
  obtain ⟨w1, w2, w3, w4⟩ := w
  simp only [canDn, Bool.and_eq_true, Bool.or_eq_true, decide_eq_true_eq] at h
  have hs := sm_uph ht i (ht i - 1) 13
  rw [if_pos (by omega), if_pos (by omega)] at hs
  refine ⟨fun k => ?_, ?_, by omega, fun k hk => ?_⟩
  · unfold uph
    have := w1 k
    by_cases h1 : k + 1 = i
    · rw [if_pos h1, if_neg (by omega)]
      subst h1
      omega
    · rw [if_neg h1]
      by_cases h2 : k = i
      · rw [if_pos h2]; subst h2; omega
      · rw [if_neg h2]; exact this
  · unfold uph
    split
    · next h1 => subst h1; omega
    · omega
  · unfold uph
    rw [if_neg (by omega)]
    exact w4 k hk
set_option maxRecDepth 100000 in
theorem parts_a : ∀ l ∈ parts12, (Lm (hOf l)).Nodup ∧ (Lb (hOf l)).Nodup ∧ laysB (Lm (hOf l)) = Lb (hOf l) ∧ (∀ p ∈ Lm (hOf l), p.1 < 12 ∧ p.2 < 12) ∧ (∀ p ∈ Lb (hOf l), p.1 < 13 ∧ p.2 < 13) ∧ (∀ k, k < 12 → (Bk (Lm (hOf l)) k).length < 14 ∧ (addB (Lm (hOf l)) (Bk (Lm (hOf l)) k) (mx (Lm (hOf l)) k + 1, my (Lm (hOf l)) k)).length < 14 ∨ (Lm (hOf l)).length ≤ k) ∧ (Lm (hOf l)).getD 0 (0, 0) = (0, 0) := by decide +kernel
set_option maxRecDepth 100000 in
theorem parts_b : ∀ l ∈ parts12, ∀ i, i < 12 → (canUp (hOf l) i = true → ins (i, hOf l i) (Lm (hOf l)) = Lm (uph (hOf l) i (hOf l i + 1)) ∧ posF (i, hOf l i) (Lm (hOf l)) (Lm (hOf l)).length = (Lm (uph (hOf l) i (hOf l i + 1))).idxOf (i, hOf l i)) := by decide +kernel
set_option maxRecDepth 100000 in
theorem parts_c : ∀ l ∈ parts12, ∀ i, i < 12 → (canDn (hOf l) i = true → (Lm (hOf l)).eraseIdx ((Lm (hOf l)).idxOf (i, hOf l i - 1)) = Lm (uph (hOf l) i (hOf l i - 1))) := by decide +kernel
