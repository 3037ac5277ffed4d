/-! the reference: how often a point is a zero -/
def stackM (n : Nat) (A B : Nat → Nat → Nat) : Nat → Nat → Nat := fun r c => if r < n then A r c else B (r - n) c
def rkN (p R n : Nat) (A : Nat → Nat → Nat) : Nat := (redG p R n 0 0 1 A).1
def timM (ht : Nat → Nat) (r : Nat → Nat → Nat) (p a b : Nat) : Nat → Nat → Nat := stackM (Lm ht).length (powR (Lm ht).length p (lessM (tabM ht r 1 0) a p) (Lm ht).length) (powR (Lm ht).length p (lessM (tabM ht r 0 1) b p) (Lm ht).length)
theorem bd_stack {n p : Nat} {A B : Nat → Nat → Nat} (hA : bdM A n n p) (hB : bdM B n n p) : bdM (stackM n A B) (2 * n) n p := by
  intro r c hr hc
  unfold stackM
  split
  · exact hA r c (by omega) hc
  · exact hB (r - n) c (by omega) hc
section
variable {S : MS} {p : Nat} {ht : Nat → Nat} {r : Nat → Nat → Nat} {pts : List (Nat × Nat)}
theorem m_times (H : RC (S.2 1) p ht r pts) (w : wfh ht) (hp2 : 2 ≤ p) (hp : p < 1000) (hr : ∀ b k, b < (Lb ht).length → k < (Lm ht).length → r b k < p) {a b : Nat} (ha : a < p) (hb : b < p) :
    ∃ T, gFX10_times (nI a) (nI b) S = some (nI (Lm ht).length - nI (rkN p (2 * (Lm ht).length) (Lm ht).length (timM ht r p a b)), T) ∧ (∀ q, q ≠ 28 → q ≠ 29 → T.1 q = S.1 q) ∧ ∀ j, ¬ (10 ≤ j ∧ j < 16) → T.2 j = S.2 j := by
  have l := Lm_len w
  have bX := bd_tab (p := p) (r := r) w (Or.inl ⟨rfl, rfl⟩) hp2 hr
  have bY := bd_tab (p := p) (r := r) w (Or.inr ⟨rfl, rfl⟩) hp2 hr
  obtain ⟨T1, a1, a2, a3, a4⟩ := m_laysTables H w
  have q1 : T1.2 1 = S.2 1 := a2.2 1 (by decide)
  have Hp1 : T1.2 1 0 = nI p := by rw [q1]; exact H.1
  have Hn1 : T1.2 1 1 = nI (Lm ht).length := by rw [q1]; exact H.2.1.1
  obtain ⟨g1, b1', b2⟩ := m_lessens (S := T1) (v := a) Hp1 Hn1 (by omega) hp l.2.1 L10 (by decide) a3 bX ha
  generalize hT2 : ((T1.1, setA T1.2 10 g1) : MS) = T2 at b1'
  have e2 : ∀ j, j ≠ 10 → T2.2 j = T1.2 j := fun j hj => by rw [← hT2, mp2, setA_o hj]
  have e2' : T2.2 10 = g1 := by rw [← hT2, mp2, setA_s]
  obtain ⟨g2, c1, c2⟩ := m_lessens (S := T2) (v := b) (by rw [e2 1 (by decide)]; exact Hp1) (by rw [e2 1 (by decide)]; exact Hn1) (by omega) hp l.2.1 L11 (by decide) (by rw [e2 11 (by decide)]; exact a4) bY hb
  generalize hT3 : ((T2.1, setA T2.2 11 g2) : MS) = T3 at c1
  have e3 : ∀ j, j ≠ 11 → T3.2 j = T2.2 j := fun j hj => by rw [← hT3, mp2, setA_o hj]
  have e3' : T3.2 11 = g2 := by rw [← hT3, mp2, setA_s]
  have i3 : T3.1 = S.1 := by rw [← hT3, mp1, ← hT2, mp1, a2.1]
  have r3 : T3.2 1 = S.2 1 := by rw [e3 1 (by decide), e2 1 (by decide), q1]
  have X3 : TL (T3.2 10) (Lm ht).length (Lm ht).length (lessM (tabM ht r 1 0) a p) := by rw [e3 10 (by decide), e2']; exact b2
  have Y3 : TL (T3.2 11) (Lm ht).length (Lm ht).length (lessM (tabM ht r 0 1) b p) := by rw [e3']; exact c2
  have lX := bd_less (v := a) (show 0 < p by omega) bX
  have lY := bd_less (v := b) (show 0 < p by omega) bY
  obtain ⟨T4, d1, d2, d3⟩ := m_raises (S := T3) (j := 10) (e := (Lm ht).length) (by rw [r3]; exact H.1) (by rw [r3]; exact H.2.1.1) hp2 hp l.2.1 L10 (by decide) (by decide) X3 lX (by omega)
  have r4 : T4.2 1 = S.2 1 := by rw [d2.2 1 (by decide), r3]
  obtain ⟨g5, f1, f2, -⟩ := m_laysTall (S := T4) (j := 12) (w := 0) (by rw [r4]; exact H.2.1.1) l.2.1 (by omega) L12 (by decide) d3
  generalize hT5 : ((T4.1, setA T4.2 15 g5) : MS) = T5 at f1
  have e5 : ∀ j, j ≠ 15 → T5.2 j = T4.2 j := fun j hj => by rw [← hT5, mp2, setA_o hj]
  have e5' : T5.2 15 = g5 := by rw [← hT5, mp2, setA_s]
  have r5 : T5.2 1 = S.2 1 := by rw [e5 1 (by decide), r4]
  obtain ⟨T6, k1, k2, k3⟩ := m_raises (S := T5) (j := 11) (e := (Lm ht).length) (by rw [r5]; exact H.1) (by rw [r5]; exact H.2.1.1) hp2 hp l.2.1 L11 (by decide) (by decide) (by rw [e5 11 (by decide), d2.2 11 (by decide)]; exact Y3) lY (by omega)
  have r6 : T6.2 1 = S.2 1 := by rw [k2.2 1 (by decide), r5]
  obtain ⟨g7, m1', m2, m3⟩ := m_laysTall (S := T6) (j := 12) (w := (Lm ht).length) (by rw [r6]; exact H.2.1.1) l.2.1 l.2.1 L12 (by decide) k3
  have r7 : ((T6.1, setA T6.2 15 g7) : MS).2 1 = S.2 1 := by rw [mp2, setA_o (by decide), r6]
  have TS : TL g7 (2 * (Lm ht).length) (Lm ht).length (timM ht r p a b) := by
    intro x c hx hc
    unfold timM stackM
    by_cases hxn : x < (Lm ht).length
    · rw [if_pos hxn, m3 x c (Or.inl hxn) (by omega), k2.2 15 (by decide), e5']
      have := f2 x c hxn hc
      rw [Nat.zero_add] at this
      exact this
    · rw [if_neg hxn]
      have := m2 (x - (Lm ht).length) c (by omega) hc
      rw [show (Lm ht).length + (x - (Lm ht).length) = x by omega] at this
      exact this
  obtain ⟨I, g8, u1, u2, u3, u4⟩ := m_reduces (S := ((T6.1, setA T6.2 15 g7) : MS)) (A := timM ht r p a b) (R := 2 * (Lm ht).length) (by rw [r7]; exact H.1) (by rw [r7]; exact H.2.1.1) hp2 hp l.2.1 (by omega) (by rw [mp2, setA_s]; exact TS) (bd_stack (bd_pow hp2 _) (bd_pow hp2 _))
  rw [mp2, setA_2] at u1
  rw [mp1] at u4
  have n3 : gFX10_n T3 = some (nI (Lm ht).length) := g_n (by rw [r3]; exact H.2.1)
  have n5' : gFX10_n T5 = some (nI (Lm ht).length) := g_n (by rw [r5]; exact H.2.1)
  have n6' : gFX10_n T6 = some (nI (Lm ht).length) := g_n (by rw [r6]; exact H.2.1)
  have n7' : gFX10_n ((T6.1, setA T6.2 15 g7) : MS) = some (nI (Lm ht).length) := g_n (by rw [r7]; exact H.2.1)
  have n8' : gFX10_n ((I, setA T6.2 15 g8) : MS) = some (nI (Lm ht).length) := g_n (by rw [mp2, setA_o (by decide), r6]; exact H.2.1)
  refine ⟨(I, setA T6.2 15 g8), ?_, fun q h1 h2 => ?_, fun j hj => ?_⟩
  · unfold gFX10_times
    rw [a1, gx_bs, b1', gx_bs, c1, gx_bs, n3, gx_bs, d1, gx_bs, n0, f1, gx_bs, n5', gx_bs, k1, gx_bs, n6', gx_bs, m1', gx_bs, n7', gx_bs, n2, nI_mul, u1, gx_bs, n8', gx_bs, mp1, u2, gx_bs]
    rfl
  · rw [mp1, u4 q h1 h2, k2.1, ← hT5, mp1, d2.1, i3]
  · rw [mp2, setA_o (by omega), k2.2 j (by omega), e5 j (by omega), d2.2 j (by omega), e3 j (by omega), e2 j (by omega), a2.2 j (by omega)]
end
