/-! the reference puts a monomial in its place -/
def aheadB (p q : Nat × Nat) : Bool := if p.1 + p.2 = q.1 + q.2 then decide (p.2 < q.2) else decide (p.1 + p.2 < q.1 + q.2)
def posF (p : Nat × Nat) (L : List (Nat × Nat)) : Nat → Nat
  | 0 => 0
  | k + 1 => if aheadB p (L.getD k (0, 0)) then posF p L k else k + 1
def ins (p : Nat × Nat) (L : List (Nat × Nat)) : List (Nat × Nat) := L.take (posF p L L.length) ++ p :: L.drop (posF p L L.length)
theorem posF_le (p : Nat × Nat) (L : List (Nat × Nat)) : ∀ k, posF p L k ≤ k
  | 0 => Nat.le_refl 0
  | k + 1 => by
    unfold posF
    split
    · exact Nat.le_succ_of_le (posF_le p L k)
    · exact Nat.le_refl _
theorem ins_len (p : Nat × Nat) (L : List (Nat × Nat)) : (ins p L).length = L.length + 1 := by
  have := posF_le p L L.length
  unfold ins
  simp
  omega
theorem ins_at (p : Nat × Nat) (L : List (Nat × Nat)) (q : Nat) : (ins p L).getD q (0, 0) = if q < posF p L L.length then L.getD q (0, 0) else if q = posF p L L.length then p else L.getD (q - 1) (0, 0) := by
  have hc := posF_le p L L.length
  unfold ins
  generalize posF p L L.length = c at hc
  simp only [List.getD_eq_getElem?_getD]
  by_cases h1 : q < c
  · rw [if_pos h1, List.getElem?_append_left (by simp; omega), List.getElem?_take, if_pos h1]
  · rw [if_neg h1, List.getElem?_append_right (by simp; omega)]
    have e : (L.take c).length = c := by simp; omega
    rw [e]
    by_cases h2 : q = c
    · subst h2; rw [if_pos rfl, Nat.sub_self]; rfl
    · rw [if_neg h2, show q - c = (q - c - 1) + 1 by omega, List.getElem?_cons_succ, List.getElem?_drop, show c + (q - c - 1) = q - 1 by omega]
theorem g_ahead {p q : Nat × Nat} {S : MS} (h1 : p.1 < 1000) (h2 : p.2 < 1000) (h3 : q.1 < 1000) (h4 : q.2 < 1000) : gFX10_isAhead (nI p.1) (nI p.2) (nI q.1) (nI q.2) S = some (bI (aheadB p q)) := g_isAhead h1 h2 h3 h4
theorem placed_loop {S : MS} {L : List (Nat × Nat)} {i j : Nat} (hL : L.length < 12) (hs : small L) (hi : i < 1000) (hj : j < 1000) (hr : rowR (S.2 1) 4 16 L) (hc : S.2 1 1 = nI L.length) :
    ∃ t, itr (fun s : Int32 × MS => gLX10_placed_5 (nI i) (nI j) s.1 s.2) (nI L.length, S) = some t ∧ ∃ g, t = (nI (posF (i, j) L L.length), ((S.1, setA S.2 1 g) : MS)) ∧ rowR g 4 16 (ins (i, j) L) ∧ g 1 = nI (L.length + 1) ∧ ∀ q, q ≠ 1 → ¬ (4 ≤ q ∧ q < 4 + 12) → ¬ (16 ≤ q ∧ q < 16 + 12) → g q = S.2 1 q := by
  -- the end, at a place k
  have fin : ∀ (k : Nat) (g : Nat → Int32), k ≤ L.length → posF (i, j) L L.length = k → (∀ q, q < k → g (4 + q) = S.2 1 (4 + q) ∧ g (16 + q) = S.2 1 (16 + q)) → (∀ q, k ≤ q → q < L.length → g (4 + q + 1) = S.2 1 (4 + q) ∧ g (16 + q + 1) = S.2 1 (16 + q)) → g 1 = nI L.length → (∀ q, ¬ (4 ≤ q ∧ q < 4 + 12) → ¬ (16 ≤ q ∧ q < 16 + 12) → g q = S.2 1 q) →
      ∃ t, gBX10_placed_82 (nI i) (nI j) (nI k) (S.1, setA S.2 1 g) = some t ∧ ∃ g, t = (nI (posF (i, j) L L.length), ((S.1, setA S.2 1 g) : MS)) ∧ rowR g 4 16 (ins (i, j) L) ∧ g 1 = nI (L.length + 1) ∧ ∀ q, q ≠ 1 → ¬ (4 ≤ q ∧ q < 4 + 12) → ¬ (16 ≤ q ∧ q < 16 + 12) → g q = S.2 1 q := by
    intro k g hk hp h1 h2 h3 h4
    unfold gBX10_placed_82
    simp (disch := omega) only [n4, n16, n1, n1, nI_add, mK_a1, mK_s1, Option.bind_some, setA_s, setA_2, upd_o, h3]
    refine ⟨_, rfl, _, by rw [hp], ?_, ?_, ?_⟩
    · intro q hq
      rw [ins_len] at hq
      simp (disch := omega) only [upd_o, mx, my, ins_at, hp]
      by_cases q1 : q < k
      · simp (disch := omega) only [upd_o, if_pos q1, (h1 q q1).1, (h1 q q1).2]
        exact hr q (by omega)
      · by_cases q2 : q = k
        · subst q2
          simp (disch := omega) only [upd_o, upd_s, if_neg q1, if_true]
          trivial
        · have e := h2 (q - 1) (by omega) (by omega)
          rw [show 4 + (q - 1) + 1 = 4 + q by omega, show 16 + (q - 1) + 1 = 16 + q by omega] at e
          simp (disch := omega) only [upd_o, if_neg q1, if_neg q2, e.1, e.2]
          exact hr (q - 1) (by omega)
    · rw [upd_s]
    · intro q q1 q2 q3
      rw [upd_o q1, upd_o (by omega), upd_o (by omega), h4 q q2 q3]
  refine itr_run L.length (fun t s => ∃ g, s = (nI (L.length - t), ((S.1, setA S.2 1 g) : MS)) ∧ posF (i, j) L L.length = posF (i, j) L (L.length - t) ∧ (∀ q, q < L.length - t → g (4 + q) = S.2 1 (4 + q) ∧ g (16 + q) = S.2 1 (16 + q)) ∧ (∀ q, L.length - t ≤ q → q < L.length → g (4 + q + 1) = S.2 1 (4 + q) ∧ g (16 + q + 1) = S.2 1 (16 + q)) ∧ g 1 = nI L.length ∧ (∀ q, ¬ (4 ≤ q ∧ q < 4 + 12) → ¬ (16 ≤ q ∧ q < 16 + 12) → g q = S.2 1 q)) ?_ ?_ ?_
  · refine ⟨S.2 1, ?_, rfl, fun q _ => ⟨rfl, rfl⟩, fun q h1 h2 => by omega, hc, fun q _ _ => rfl⟩
    refine Prod.ext rfl (Prod.ext rfl ?_)
    funext b
    simp only [setA]
    split
    · next h => rw [h]
    · rfl
  · rintro t s ht ⟨g, rfl, hp, h1, h2, h3, h4⟩
    obtain ⟨k, hk⟩ : ∃ k, L.length - t = k + 1 := ⟨L.length - t - 1, by omega⟩
    rw [hk] at hp h1 h2 ⊢
    have e1 := hr k (by omega)
    have e2 := h1 k (by omega)
    have e3 := hs k
    unfold gLX10_placed_5
    simp (disch := omega) only [n0, n1, nm1, n4, n16, nI_leN, nI_add, nI_sub, show 4 + (k + 1) - 1 = 4 + k by omega, show 16 + (k + 1) - 1 = 16 + k by omega, mK_a1, mK_s1, Option.bind_some, setA_s, setA_2, e2.1, e2.2, e1.1, e1.2]
    rw [if_neg (by omega), g_ahead (p := (i, j)) (q := (mx L k, my L k)) hi hj e3.1 e3.2]
    simp (disch := omega) only [Option.bind_some, bI_0]
    have e4 : posF (i, j) L (k + 1) = if aheadB (i, j) (mx L k, my L k) then posF (i, j) L k else k + 1 := rfl
    by_cases ha : aheadB (i, j) (mx L k, my L k) = false
    · right
      rw [if_pos ha]
      rw [e4, ha] at hp
      obtain ⟨t, f1, f2⟩ := fin (k + 1) g (by omega) hp h1 h2 h3 h4
      exact ⟨t, by unfold exL; rw [f1]; rfl, f2⟩
    · left
      rw [if_neg ha]
      simp (disch := omega) only [upd_o, e2.1, e2.2, e1.1, e1.2, mK_s1, Option.bind_some, setA_s, setA_2, mK_a1]
      rw [show nI (k + 1) + m1 = nI (L.length - (t + 1)) by rw [show L.length - (t + 1) = k by omega]; exact pk_m1 k]
      refine ⟨_, rfl, _, rfl, ?_, ?_, ?_, ?_, ?_⟩
      · rw [show L.length - (t + 1) = k by omega, hp, e4, if_pos (by simpa using ha)]
      · intro q hq
        rw [upd_o (by omega), upd_o (by omega), upd_o (by omega), upd_o (by omega)]
        exact h1 q (by omega)
      · intro q q1 q2
        by_cases q3 : q = k
        · subst q3
          rw [upd_o (by omega), show 4 + q + 1 = 4 + (q + 1) by omega, upd_s, show 16 + q + 1 = 16 + (q + 1) by omega, upd_s]
          exact ⟨e1.1.symm, e1.2.symm⟩
        · rw [upd_o (by omega), upd_o (by omega), upd_o (by omega), upd_o (by omega)]
          exact h2 q (by omega) q2
      · rw [upd_o (by omega), upd_o (by omega)]
        exact h3
      · intro q q1 q2
        rw [upd_o (by omega), upd_o (by omega)]
        exact h4 q q1 q2
  · rintro s ⟨g, rfl, hp, h1, h2, h3, h4⟩
    rw [Nat.sub_self] at hp h1 h2 ⊢
    obtain ⟨t, f1, f2⟩ := fin 0 g (by omega) hp h1 h2 h3 h4
    refine ⟨t, ?_, f2⟩
    unfold gLX10_placed_5
    simp (disch := omega) only [n0, nI_leN]
    rw [if_pos (Nat.le_refl _)]
    unfold exL
    rw [f1]
    rfl
theorem border_loop {S : MS} {L : List (Nat × Nat)} {i j : Nat} (hL : L.length < 14) (hs : small L) (hi : i < 1000) (hj : j < 1000) (hr : rowR (S.2 1) 28 42 L) (hc : S.2 1 2 = nI L.length) :
    ∃ t, itr (fun s : Int32 × MS => gLX10_addsBorder_27 (nI i) (nI j) s.1 s.2) (nI L.length, S) = some t ∧ ∃ g, t = ((S.1, setA S.2 1 g) : MS) ∧ rowR g 28 42 (ins (i, j) L) ∧ g 2 = nI (L.length + 1) ∧ ∀ q, q ≠ 2 → ¬ (28 ≤ q ∧ q < 28 + 14) → ¬ (42 ≤ q ∧ q < 42 + 14) → g q = S.2 1 q := by
  -- the end, at a place k
  have fin : ∀ (k : Nat) (g : Nat → Int32), k ≤ L.length → posF (i, j) L L.length = k → (∀ q, q < k → g (28 + q) = S.2 1 (28 + q) ∧ g (42 + q) = S.2 1 (42 + q)) → (∀ q, k ≤ q → q < L.length → g (28 + q + 1) = S.2 1 (28 + q) ∧ g (42 + q + 1) = S.2 1 (42 + q)) → g 2 = nI L.length → (∀ q, ¬ (28 ≤ q ∧ q < 28 + 14) → ¬ (42 ≤ q ∧ q < 42 + 14) → g q = S.2 1 q) →
      ∃ t, gBX10_addsBorder_107 (nI i) (nI j) (nI k) (S.1, setA S.2 1 g) = some t ∧ ∃ g, t = ((S.1, setA S.2 1 g) : MS) ∧ rowR g 28 42 (ins (i, j) L) ∧ g 2 = nI (L.length + 1) ∧ ∀ q, q ≠ 2 → ¬ (28 ≤ q ∧ q < 28 + 14) → ¬ (42 ≤ q ∧ q < 42 + 14) → g q = S.2 1 q := by
    intro k g hk hp h1 h2 h3 h4
    unfold gBX10_addsBorder_107
    simp (disch := omega) only [n28, n42, n2, n1, nI_add, mK_a1, mK_s1, Option.bind_some, setA_s, setA_2, upd_o, h3]
    refine ⟨_, rfl, _, rfl, ?_, ?_, ?_⟩
    · intro q hq
      rw [ins_len] at hq
      simp (disch := omega) only [upd_o, mx, my, ins_at, hp]
      by_cases q1 : q < k
      · simp (disch := omega) only [upd_o, if_pos q1, (h1 q q1).1, (h1 q q1).2]
        exact hr q (by omega)
      · by_cases q2 : q = k
        · subst q2
          simp (disch := omega) only [upd_o, upd_s, if_neg q1, if_true]
          trivial
        · have e := h2 (q - 1) (by omega) (by omega)
          rw [show 28 + (q - 1) + 1 = 28 + q by omega, show 42 + (q - 1) + 1 = 42 + q by omega] at e
          simp (disch := omega) only [upd_o, if_neg q1, if_neg q2, e.1, e.2]
          exact hr (q - 1) (by omega)
    · rw [upd_s]
    · intro q q1 q2 q3
      rw [upd_o q1, upd_o (by omega), upd_o (by omega), h4 q q2 q3]
  refine itr_run L.length (fun t s => ∃ g, s = (nI (L.length - t), ((S.1, setA S.2 1 g) : MS)) ∧ posF (i, j) L L.length = posF (i, j) L (L.length - t) ∧ (∀ q, q < L.length - t → g (28 + q) = S.2 1 (28 + q) ∧ g (42 + q) = S.2 1 (42 + q)) ∧ (∀ q, L.length - t ≤ q → q < L.length → g (28 + q + 1) = S.2 1 (28 + q) ∧ g (42 + q + 1) = S.2 1 (42 + q)) ∧ g 2 = nI L.length ∧ (∀ q, ¬ (28 ≤ q ∧ q < 28 + 14) → ¬ (42 ≤ q ∧ q < 42 + 14) → g q = S.2 1 q)) ?_ ?_ ?_
  · refine ⟨S.2 1, ?_, rfl, fun q _ => ⟨rfl, rfl⟩, fun q h1 h2 => by omega, hc, fun q _ _ => rfl⟩
    refine Prod.ext rfl (Prod.ext rfl ?_)
    funext b
    simp only [setA]
    split
    · next h => rw [h]
    · rfl
  · rintro t s ht ⟨g, rfl, hp, h1, h2, h3, h4⟩
    obtain ⟨k, hk⟩ : ∃ k, L.length - t = k + 1 := ⟨L.length - t - 1, by omega⟩
    rw [hk] at hp h1 h2 ⊢
    have e1 := hr k (by omega)
    have e2 := h1 k (by omega)
    have e3 := hs k
    unfold gLX10_addsBorder_27
    simp (disch := omega) only [n0, n1, nm1, n28, n42, nI_leN, nI_add, nI_sub, show 28 + (k + 1) - 1 = 28 + k by omega, show 42 + (k + 1) - 1 = 42 + k by omega, mK_a1, mK_s1, Option.bind_some, setA_s, setA_2, e2.1, e2.2, e1.1, e1.2]
    rw [if_neg (by omega), g_ahead (p := (i, j)) (q := (mx L k, my L k)) hi hj e3.1 e3.2]
    simp (disch := omega) only [Option.bind_some, bI_0]
    have e4 : posF (i, j) L (k + 1) = if aheadB (i, j) (mx L k, my L k) then posF (i, j) L k else k + 1 := rfl
    by_cases ha : aheadB (i, j) (mx L k, my L k) = false
    · right
      rw [if_pos ha]
      rw [e4, ha] at hp
      obtain ⟨t, f1, f2⟩ := fin (k + 1) g (by omega) hp h1 h2 h3 h4
      exact ⟨t, by unfold exL; rw [f1]; rfl, f2⟩
    · left
      rw [if_neg ha]
      simp (disch := omega) only [upd_o, e2.1, e2.2, e1.1, e1.2, mK_s1, Option.bind_some, setA_s, setA_2, mK_a1]
      rw [show nI (k + 1) + m1 = nI (L.length - (t + 1)) by rw [show L.length - (t + 1) = k by omega]; exact pk_m1 k]
      refine ⟨_, rfl, _, rfl, ?_, ?_, ?_, ?_, ?_⟩
      · rw [show L.length - (t + 1) = k by omega, hp, e4, if_pos (by simpa using ha)]
      · intro q hq
        rw [upd_o (by omega), upd_o (by omega), upd_o (by omega), upd_o (by omega)]
        exact h1 q (by omega)
      · intro q q1 q2
        by_cases q3 : q = k
        · subst q3
          rw [upd_o (by omega), show 28 + q + 1 = 28 + (q + 1) by omega, upd_s, show 42 + q + 1 = 42 + (q + 1) by omega, upd_s]
          exact ⟨e1.1.symm, e1.2.symm⟩
        · rw [upd_o (by omega), upd_o (by omega), upd_o (by omega), upd_o (by omega)]
          exact h2 q (by omega) q2
      · rw [upd_o (by omega), upd_o (by omega)]
        exact h3
      · intro q q1 q2
        rw [upd_o (by omega), upd_o (by omega)]
        exact h4 q q1 q2
  · rintro s ⟨g, rfl, hp, h1, h2, h3, h4⟩
    rw [Nat.sub_self] at hp h1 h2 ⊢
    obtain ⟨t, f1, f2⟩ := fin 0 g (by omega) hp h1 h2 h3 h4
    refine ⟨t, ?_, f2⟩
    unfold gLX10_addsBorder_27
    simp (disch := omega) only [n0, nI_leN]
    rw [if_pos (Nat.le_refl _)]
    unfold exL
    rw [f1]
    rfl
