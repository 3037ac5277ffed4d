/-! the reference: determinants and kernels; both sides agree -/
theorem m_isVar {v : Int32} {S : MS} : gFX10_isVariable v S = some (bI (!outB v 1)) := by
  unfold gFX10_isVariable
  rw [n0, n1, m_in, gx_bs]
  exact if_pos (by cases outB v 1 <;> simp [bI])
theorem m_isNum {v : Int32} {S : MS} {p : Nat} (H : S.2 1 0 = nI p) (h0 : 0 < p) : gFX10_isNumber v S = some (bI (!outB v (p - 1))) := by
  unfold gFX10_isNumber
  rw [g_p H, gx_bs, n0, n1, nI_sub (by omega), m_in, gx_bs]
  exact if_pos (by cases outB v (p - 1) <;> simp [bI])
/-- a call's answer leaves the reference's own memory as it was, but for scratch -/
def scr (S T : MS) : Prop := T.1 0 = nI 0 ∧ (∀ q, q ≠ 0 → q ≠ 28 → q ≠ 29 → q ≠ 34 → T.1 q = S.1 q) ∧ ∀ b, b < 10 ∨ b = 18 → T.2 b = S.2 b
section
variable {S : MS} {p : Nat} {ht : Nat → Nat} {r : Nat → Nat → Nat} {pts : List (Nat × Nat)}
theorem only.keep {T : MS} {P : Nat → Prop} (o : only S T P) (hP : ∀ b, P b → 10 ≤ b ∧ b ≠ 18) (h0 : S.1 0 = nI 0) : scr S T := ⟨by rw [o.1]; exact h0, fun q _ _ _ _ => by rw [o.1], fun b hb => o.2 b fun z => by have := hP b z; omega⟩
/-- a table, less a number, reduced -/
theorem m_red (H : RC (S.2 1) p ht r pts) (w : wfh ht) (hp2 : 2 ≤ p) (hp : p < 1000) {j : Nat} {A : Nat → Nat → Nat} (L : mK.2.2.2.1 j = 144) (hj : j ≠ 15) (TA : TL (S.2 j) (Lm ht).length (Lm ht).length A) (hA : bdM A (Lm ht).length (Lm ht).length p) :
    ∃ U I g, gFX10_laysTall j (nI 0) S = some U ∧ gFX10_n U = some (nI (Lm ht).length) ∧ gFX10_reduces (nI (Lm ht).length) U = some ((I, setA S.2 15 g) : MS) ∧ I 28 = nI (redG p (Lm ht).length (Lm ht).length 0 0 1 A).1 ∧ I 29 = nI (redG p (Lm ht).length (Lm ht).length 0 0 1 A).2.1 ∧ ∀ q, q ≠ 28 → q ≠ 29 → I q = S.1 q := by
  have l := Lm_len w
  obtain ⟨g, e1, e2, -⟩ := m_laysTall (S := S) (w := 0) H.2.1.1 l.2.1 (by omega) L hj TA
  have f1 : ((S.1, setA S.2 15 g) : MS).2 1 = S.2 1 := by rw [mp2, setA_o (by decide)]
  obtain ⟨I, g2, e3, e4, e5, e6⟩ := m_reduces (S := ((S.1, setA S.2 15 g) : MS)) (A := A) (R := (Lm ht).length) (by rw [f1]; exact H.1) (by rw [f1]; exact H.2.1.1) hp2 hp l.2.1 (by omega) (by
    intro a c ha hc
    rw [mp2, setA_s]
    have := e2 a c ha hc
    rw [Nat.zero_add] at this
    exact this) hA
  rw [mp2, setA_2] at e3
  exact ⟨_, I, g2, e1, g_n (by rw [f1]; exact H.2.1), e3, e4, e5, e6⟩
theorem m_determinant (H : RC (S.2 1) p ht r pts) (w : wfh ht) (hp2 : 2 ≤ p) (hp : p < 1000) (hr : ∀ b k, b < (Lb ht).length → k < (Lm ht).length → r b k < p) {v : Nat} (hv : v ≤ 1) :
    ∃ T, gFX10_determinant (nI v) S = some (nI (redG p (Lm ht).length (Lm ht).length 0 0 1 (pickM v (tabM ht r 1 0) (tabM ht r 0 1))).2.1, T) ∧ scr S T := by
  have l := Lm_len w
  obtain ⟨T1, a1, a2, a3, a4⟩ := m_laysTables (S := gpi S 0 (nI 0)) (by rw [gpi_2]; exact H) w
  have q1 : T1.2 1 = S.2 1 := by rw [a2.2 1 (by decide), gpi_2]
  have H1 : RC (T1.2 1) p ht r pts := by rw [q1]; exact H
  have bX := bd_tab (p := p) (r := r) w (Or.inl ⟨rfl, rfl⟩) hp2 hr
  have bY := bd_tab (p := p) (r := r) w (Or.inr ⟨rfl, rfl⟩) hp2 hr
  have t0 : T1.1 = upd S.1 0 (nI 0) := by rw [a2.1, gpi_1]
  have pre : gFX10_determinant (nI v) S = if nI v = nI 0 then gBX10_determinant_45 10 T1 else gBX10_determinant_45 11 T1 := by
    unfold gFX10_determinant gBX10_determinant_13
    rw [m_isVar, outB_in hv (by omega), gx_bs, n0, if_neg (by rw [bI_0]; decide), gx_bs, gpi_1, upd_s, gx_bs, if_pos (by rw [nI_leN (by omega) (by omega)]; omega), a1, gx_bs]
  have fin : ∀ (j : Nat) (A : Nat → Nat → Nat), mK.2.2.2.1 j = 144 → j ≠ 15 → TL (T1.2 j) (Lm ht).length (Lm ht).length A → bdM A (Lm ht).length (Lm ht).length p → ∃ T, gBX10_determinant_45 j T1 = some (nI (redG p (Lm ht).length (Lm ht).length 0 0 1 A).2.1, T) ∧ scr S T := by
    intro j A L hj TA hA
    obtain ⟨U, I, g, b1, b2, b3, b4, b5, b6⟩ := m_red H1 w hp2 hp L hj TA hA
    unfold gBX10_determinant_45
    rw [n0, b1, gx_bs, b2, gx_bs, b3, gx_bs, mp1, b5, gx_bs]
    refine ⟨_, rfl, ?_, fun q h1 h2 h3 _ => ?_, fun b hb => ?_⟩
    · rw [mp1, b6 0 (by decide) (by decide), t0, upd_s]
    · rw [mp1, b6 q h2 h3, t0, upd_o h1]
    · rw [mp2, setA_o (by omega), a2.2 b (by omega), gpi_2]
  rw [pre]
  by_cases h0 : v = 0
  · rw [if_pos (by rw [h0])]
    have := fin 10 _ L10 (by decide) a3 bX
    unfold pickM
    rw [if_pos h0]
    exact this
  · rw [if_neg (by rw [nI_eqN (by omega) (by omega)]; exact h0)]
    have := fin 11 _ L11 (by decide) a4 bY
    unfold pickM
    rw [if_neg h0]
    exact this
theorem m_kernel (H : RC (S.2 1) p ht r pts) (w : wfh ht) (hp2 : 2 ≤ p) (hp : p < 1000) (hr : ∀ b k, b < (Lb ht).length → k < (Lm ht).length → r b k < p) {v a : Nat} (hv : v ≤ 1) (ha : a < p) :
    ∃ T, gFX10_kernel (nI v) (nI a) S = some (nI (Lm ht).length - nI (redG p (Lm ht).length (Lm ht).length 0 0 1 (lessM (pickM v (tabM ht r 1 0) (tabM ht r 0 1)) a p)).1, T) ∧ scr S T := by
  have l := Lm_len w
  obtain ⟨T1, a1, a2, a3, a4⟩ := m_laysTables (S := gpi S 0 (nI 0)) (by rw [gpi_2]; exact H) w
  have q1 : T1.2 1 = S.2 1 := by rw [a2.2 1 (by decide), gpi_2]
  have H1 : RC (T1.2 1) p ht r pts := by rw [q1]; exact H
  have bX := bd_tab (p := p) (r := r) w (Or.inl ⟨rfl, rfl⟩) hp2 hr
  have bY := bd_tab (p := p) (r := r) w (Or.inr ⟨rfl, rfl⟩) hp2 hr
  have t0 : T1.1 = upd S.1 0 (nI 0) := by rw [a2.1, gpi_1]
  have pre : gFX10_kernel (nI v) (nI a) S = if nI v = nI 0 then gBX10_kernel_52 (nI a) 10 T1 else gBX10_kernel_52 (nI a) 11 T1 := by
    unfold gFX10_kernel gBX10_kernel_21
    rw [m_isVar, outB_in hv (by omega), gx_bs, n0, if_neg (by rw [bI_0]; decide), m_isNum H.1 (by omega), outB_in (by omega) (by omega), gx_bs, if_neg (by rw [bI_0]; decide), gx_bs, gpi_1, upd_s, gx_bs, if_pos (by rw [nI_leN (by omega) (by omega)]; omega), a1, gx_bs]
  have fin : ∀ (j : Nat) (A : Nat → Nat → Nat), mK.2.2.2.1 j = 144 → j ≠ 15 → j ≠ 1 → 10 ≤ j → j ≠ 18 → TL (T1.2 j) (Lm ht).length (Lm ht).length A → bdM A (Lm ht).length (Lm ht).length p → ∃ T, gBX10_kernel_52 (nI a) j T1 = some (nI (Lm ht).length - nI (redG p (Lm ht).length (Lm ht).length 0 0 1 (lessM A a p)).1, T) ∧ scr S T := by
    intro j A L hj hj1 hj10 hj18 TA hA
    obtain ⟨g0, c1, c2⟩ := m_lessens (S := T1) (v := a) H1.1 H1.2.1.1 (by omega) hp l.2.1 L hj1 TA hA ha
    have f1 : ((T1.1, setA T1.2 j g0) : MS).2 1 = T1.2 1 := by rw [mp2, setA_o (Ne.symm hj1)]
    obtain ⟨U, I, g, b1, b2, b3, b4, b5, b6⟩ := m_red (S := ((T1.1, setA T1.2 j g0) : MS)) (by rw [f1]; exact H1) w hp2 hp L hj (by rw [mp2, setA_s]; exact c2) (bd_less (by omega) hA)
    rw [mp2] at b3
    rw [mp1] at b6
    have nn : gFX10_n ((I, setA (setA T1.2 j g0) 15 g) : MS) = some (nI (Lm ht).length) := g_n (by rw [mp2, setA_o (by decide), setA_o (Ne.symm hj1)]; exact H1.2.1)
    unfold gBX10_kernel_52
    rw [c1, gx_bs, n0, b1, gx_bs, b2, gx_bs, b3, gx_bs, nn, gx_bs, mp1, b4, gx_bs]
    refine ⟨_, rfl, ?_, fun q h1 h2 h3 _ => ?_, fun b hb => ?_⟩
    · rw [mp1, b6 0 (by decide) (by decide), t0, upd_s]
    · rw [mp1, b6 q h2 h3, t0, upd_o h1]
    · rw [mp2, setA_o (by omega), setA_o (by omega), a2.2 b (by omega), gpi_2]
  rw [pre]
  by_cases h0 : v = 0
  · rw [if_pos (by rw [h0])]
    have := fin 10 _ L10 (by decide) (by decide) (by decide) (by decide) a3 bX
    unfold pickM
    rw [if_pos h0]
    exact this
  · rw [if_neg (by rw [nI_eqN (by omega) (by omega)]; exact h0)]
    have := fin 11 _ L11 (by decide) (by decide) (by decide) (by decide) a4 bY
    unfold pickM
    rw [if_neg h0]
    exact this
end
/-- both sides have one determinant and one kernel -/
theorem det_same {p n : Nat} {A : Nat → Nat → Nat} (hp : p ∈ prs) (hA : bdM A n n p) : (redF p n n n 0 0 1 (lessM A 0 p) (fun _ => 0)).2.1 = (redG p n n 0 0 1 A).2.1 := by
  have pb := prs_b p hp
  exact (red_same (C := n) (R := n) hp (n := n) (rk := 0) (col := 0) (d := 1) (A := lessM A 0 p) (B := A) (pv := fun _ => 0) (by omega) (bd_less (by omega) hA) hA (fun r c _ hr hc => less0 hA r c hr hc) (fun r c _ _ h => by omega)).2 (Nat.le_refl _) (Nat.le_refl _)
theorem rank_same {p R n : Nat} {A : Nat → Nat → Nat} (hp : p ∈ prs) (hA : bdM A R n p) : (redF p R n n 0 0 1 A (fun _ => 0)).1 = (redG p R n 0 0 1 A).1 :=
  (red_same (C := n) (R := R) hp (n := n) (rk := 0) (col := 0) (d := 1) (A := A) (B := A) (pv := fun _ => 0) (by omega) hA hA (fun r c _ _ _ => rfl) (fun r c _ _ h => by omega)).1
