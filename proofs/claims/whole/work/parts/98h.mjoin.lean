/-! the reference: a call of join that joins -/
theorem m_onSide {i j : Nat} {S : MS} (hi : i ≤ 11) (hj : j ≤ 11) : gFX10_isOnSide (nI i) (nI j) S = some (nI 1) := by
  unfold gFX10_isOnSide
  rw [n0, n11, n1, m_in, outB_in hi (by omega), gx_bs, if_neg (by rw [bI_0]; decide), m_in, outB_in hj (by omega), gx_bs, if_neg (by rw [bI_0]; decide)]
theorem m_join {S : MS} {p d i j : Nat} {ht : Nat → Nat} {r : Nat → Nat → Nat} {pts : List (Nat × Nat)} (H : RC (S.2 1) p ht r pts) (w : wfh ht) (lp : pts.length ≤ 12) (hd : S.1 5 = nI d) (h8 : d ≤ 8) (hi : i ≤ 11) (hj : j ≤ 11) (hJ : joinB ht i j = true) (hn : (Lm ht).length < 12) :
    ∃ T u, gFX10_join (nI i) (nI j) S = some (nI ((Lm (uph ht i (ht i + 1))).idxOf (i, j)), T) ∧ T.1 = upd (upd S.1 0 (nI 0)) 5 (nI (min d 7 + 1)) ∧ RC (T.2 1) p (uph ht i (ht i + 1)) (rbh ht r (uph ht i (ht i + 1))) pts ∧ T.2 4 = u ∧ T.2 7 = upd (S.2 7) 0 (S.2 7 0 + nI 1) ∧ (∀ b, b ≠ 1 → b ≠ 3 → b ≠ 4 → b ≠ 7 → T.2 b = S.2 b) ∧ (∀ q, q < 248 → u (248 * min d 7 + q) = S.2 1 q) ∧ (d = 8 → ∀ q, q < 1736 → u q = S.2 4 (q + 248)) ∧ (d < 8 → ∀ q, q < 248 * d → u q = S.2 4 q) := by
  have l := Lm_len w
  obtain ⟨ej, hu⟩ := join_up w hi hJ hn
  obtain ⟨u, k1, k2, k3, k4⟩ := g_keeps (S := gpi S 0 (nI 0)) (k := 0) (by rw [gpi_1, upd_o (by decide)]; exact hd) h8 (by omega)
  rw [gpi_1, gpi_2] at k1
  generalize hT : ((upd (upd S.1 0 (nI 0)) 5 (nI (min d 7 + 1)), setA (setA S.2 4 u) 7 (upd (S.2 7) 0 (S.2 7 0 + nI 1))) : MS) = T0 at k1
  have t1 : T0.2 1 = S.2 1 := by rw [← hT, mp2, setA_o (by decide), setA_o (by decide)]
  obtain ⟨g, j1, j2⟩ := g_joins (S := T0) w (by rw [t1]; exact H) lp hu
  subst ej
  refine ⟨((T0.1, setA (setA T0.2 3 (cpy3 T0)) 1 g) : MS), u, ?_, ?_, ?_, ?_, ?_, fun b q1 q3 q4 q7 => ?_, k2, k3, k4⟩
  · unfold gFX10_join gBX10_join_36
    rw [m_onSide hi (by omega), gx_bs, n0, if_neg (by rw [nI_eqN (by omega) (by omega)]; omega), g_canJoin H.2.1 l.2.1 (Lm_small w) (by omega) (by omega), joinB_eq w, hJ, gx_bs, if_neg (by rw [bI_0]; decide), g_n H.2.1, gx_bs, if_neg (by rw [n12, nI_leN (by omega) (by omega)]; omega), gx_bs, gpi_1, upd_s, gx_bs, if_pos (by rw [nI_leN (by omega) (by omega)]; omega), k1, gx_bs, j1]
    rfl
  · rw [mp1, ← hT]
  · rw [mp2, setA_s]; exact j2
  · rw [mp2, setA_o (by decide), setA_o (by decide), ← hT, mp2, setA_o (by decide), setA_s]
  · rw [mp2, setA_o (by decide), setA_o (by decide), ← hT, mp2, setA_s]
  · rw [mp2, setA_o q1, setA_o q3, ← hT, mp2, setA_o q7, setA_o q4]
