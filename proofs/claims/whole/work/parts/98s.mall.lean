/-! the reference: all multiplicities -/
theorem rk_same {ht : Nat → Nat} {r : Nat → Nat → Nat} {p a b : Nat} (hp : p ∈ prs) : rkN p (2 * (Lm ht).length) (Lm ht).length (timM ht r p a b) = zRk ht r p a b := by
  have pb := prs_b p hp
  exact (rank_same hp (bd_tim (by omega))).symm
section
variable {S : MS} {p : Nat} {ht : Nat → Nat} {r : Nat → Nat → Nat} {pts : List (Nat × Nat)}
theorem m_times2 (H : RC (S.2 1) p ht r pts) (w : wfh ht) (hp : p ∈ prs) (hr : ∀ b k, b < (Lb ht).length → k < (Lm ht).length → r b k < p) {a b : Nat} (ha : a < p) (hb : b < p) :
    ∃ T, gFX10_times (nI a) (nI b) S = some (nI (zMu ht r p (a, b)), T) ∧ (∀ q, q ≠ 28 → q ≠ 29 → T.1 q = S.1 q) ∧ ∀ j, ¬ (10 ≤ j ∧ j < 16) → T.2 j = S.2 j := by
  have pb := prs_b p hp
  obtain ⟨T, t1, t2⟩ := m_times H w (by omega) (by omega) hr ha hb
  rw [rk_same hp, zMu_eq (ht := ht) (r := r) (q := (a, b)) hp] at t1
  exact ⟨T, t1, t2⟩
theorem m_allTimes (H : RC (S.2 1) p ht r pts) (w : wfh ht) (hp : p ∈ prs) (hr : ∀ b k, b < (Lb ht).length → k < (Lm ht).length → r b k < p) :
    ∃ T, gFX10_allTimes S = some (nI (muS ht r p), T) ∧ (∀ q, q ≠ 28 → q ≠ 29 → q ≠ 34 → T.1 q = S.1 q) ∧ ∀ j, ¬ (10 ≤ j ∧ j < 16) → ¬ (20 ≤ j ∧ j < 24) → T.2 j = S.2 j := by
  have pb := prs_b p hp
  have hl := zAll_le (r := r) w hp
  have l := Lm_len w
  obtain ⟨T0, a1, a2, a3, a4, a5⟩ := m_laysZeros H w (by omega) (by omega) hr
  have lt : ∀ k, k < (zAll (zF ht r p) p).length → mx (zAll (zF ht r p) p) k < p ∧ my (zAll (zF ht r p) p) k < p := by
    intro k hk
    have mem : (zAll (zF ht r p) p).getD k (0, 0) ∈ zAll (zF ht r p) p := by
      rw [List.getD_eq_getElem?_getD, List.getElem?_eq_getElem hk]
      exact List.getElem_mem hk
    exact (mem_zAll.mp mem).1
  unfold gFX10_allTimes
  rw [a1, gx_bs, n0]
  have key : ∃ x, itr (fun s : Int32 × Int32 × MS => gLX10_allTimes_8 s.1 s.2.1 s.2.2) (nI 0, nI 0, T0) = some x ∧ ∃ T, x = (nI (muS ht r p), T) ∧ (∀ q, q ≠ 28 → q ≠ 29 → T.1 q = T0.1 q) ∧ ∀ j, ¬ (10 ≤ j ∧ j < 16) → T.2 j = T0.2 j := by
    refine itr_run (zAll (zF ht r p) p).length (fun k s => ∃ T, s = (nI (sm (fun k => zMu ht r p ((zAll (zF ht r p) p).getD k (0, 0))) k), nI k, T) ∧ (∀ q, q ≠ 28 → q ≠ 29 → T.1 q = T0.1 q) ∧ ∀ j, ¬ (10 ≤ j ∧ j < 16) → T.2 j = T0.2 j) ⟨T0, rfl, fun _ _ _ => rfl, fun _ _ => rfl⟩ ?_ ?_
    · rintro k s hk ⟨T, rfl, c1, c2⟩
      left
      obtain ⟨T2, b1, b2, b3⟩ := m_times2 (S := T) (by rw [c2 1 (by omega), a5 1 (by omega)]; exact H) w hp hr (lt k hk).1 (lt k hk).2
      unfold gLX10_allTimes_8
      dsimp only
      rw [c1 34 (by decide) (by decide), a2, gx_bs, if_neg (by rw [nI_leN (by omega) (by omega)]; omega), mK_a22 (by omega), gx_bs, mK_a23 (by omega), gx_bs, c2 22 (by omega), c2 23 (by omega), (a3 k hk).1, (a3 k hk).2, b1, b2s, nI_add, n1, nI_add]
      exact ⟨_, rfl, T2, rfl, fun q q1 q2 => by rw [b2 q q1 q2, c1 q q1 q2], fun j hj => by rw [b3 j hj, c2 j hj]⟩
    · rintro s ⟨T, rfl, c1, c2⟩
      unfold gLX10_allTimes_8
      dsimp only
      rw [c1 34 (by decide) (by decide), a2, gx_bs, if_pos (by rw [nI_leN (by omega) (by omega)]; omega)]
      exact ⟨_, rfl, T, rfl, c1, c2⟩
  obtain ⟨x, x1, T, rfl, x2, x3⟩ := key
  exact ⟨T, x1, fun q q1 q2 q3 => by rw [x2 q q1 q2, a4 q q3], fun j j1 j2 => by rw [x3 j j1, a5 j j2]⟩
end
/-- both forms of traces have one rank -/
theorem dis_same {ht : Nat → Nat} {r : Nat → Nat → Nat} {p : Nat} (hp : p ∈ prs) (h : cmV (Lm ht).length p (tabM ht r 1 0) (tabM ht r 0 1)) : (redG p (Lm ht).length (Lm ht).length 0 0 1 (disM ht p (tabM ht r 1 0) (tabM ht r 0 1))).1 = dsV ht r p := by
  have pb := prs_b p hp
  unfold dsV
  refine (red_same (C := (Lm ht).length) (R := (Lm ht).length) hp (n := (Lm ht).length) (rk := 0) (col := 0) (d := 1) (pv := fun _ => 0) (by omega) ?_ (bd_dis (by omega)) (fun a b _ _ _ => ?_) (fun a b _ _ z => by omega)).1.symm
  · intro a b _ _
    unfold frmM
    split
    · exact Nat.mod_lt _ (by omega)
    · exact Nat.mod_lt _ (by omega)
  · unfold frmM disM
    split
    · rw [tr_mon (by omega) h, Nat.add_comm (mx (Lm ht) b), Nat.add_comm (my (Lm ht) b)]
    · rw [tr_mon (by omega) h]
