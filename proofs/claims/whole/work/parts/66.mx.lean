/-! the class's Matrix -/
def MX (H W : Nat) (S : MS) (R C : Nat) (A : Nat → Nat → Nat) : Prop := S.1 0 = nI H ∧ S.1 1 = nI W ∧ S.1 4 = nI R ∧ S.1 5 = nI C ∧ R ≤ H ∧ C ≤ W ∧ ∀ r c, r < R → c < C → S.2 1 (r * W + c) = nI (A r c)
def SZ (H W : Nat) : Prop := H * W ≤ 4096 ∧ H ≤ 4096 ∧ W ≤ 4096
theorem ix_lt {r c H W : Nat} (hr : r < H) (hc : c < W) : r * W + c < H * W := by
  have : (r + 1) * W ≤ H * W := Nat.mul_le_mul_right _ hr
  rw [Nat.succ_mul] at this
  omega
theorem ix_ne {r c r' c' W : Nat} (hc : c < W) (hc' : c' < W) (h : ¬ (r' = r ∧ c' = c)) : r' * W + c' ≠ r * W + c := by
  intro e
  rcases Nat.lt_trichotomy r r' with z | z | z
  · have := Nat.mul_le_mul_right W z
    rw [Nat.succ_mul] at this
    omega
  · subst z
    exact h ⟨rfl, by omega⟩
  · have := Nat.mul_le_mul_right W z
    rw [Nat.succ_mul] at this
    omega
theorem xK_1 {H W : Nat} (z : SZ H W) : (xK H W).2.2.2.1 1 = H * W := by
  show (if 1 = 1 then min (H * W) 4096 else min H 4096) = H * W
  rw [if_pos rfl]
  have := z.1
  omega
theorem xK_2 {H W : Nat} (z : SZ H W) : (xK H W).2.2.2.1 2 = H := by
  show (if 2 = 1 then min (H * W) 4096 else min H 4096) = H
  rw [if_neg (by decide)]
  have := z.2.1
  omega
theorem x_a1 {H W k : Nat} {S : MS} (z : SZ H W) (hk : k < H * W) : gal (xK H W) S 1 (nI k) = some (S.2 1 k) := gal_ok (xK_1 z) hk (by have := z.1; omega)
theorem x_s1 {H W k : Nat} {S : MS} {v : Int32} (z : SZ H W) (hk : k < H * W) : gas (xK H W) S 1 (nI k) v = some (S.1, setA S.2 1 (upd (S.2 1) k v)) := gas_ok (xK_1 z) hk (by have := z.1; omega)
theorem x_s2 {H W k : Nat} {S : MS} {v : Int32} (z : SZ H W) (hk : k < H) : gas (xK H W) S 2 (nI k) v = some (S.1, setA S.2 2 (upd (S.2 2) k v)) := gas_ok (xK_2 z) hk (by have := z.2.1; omega)
section
variable {H W R C : Nat} {S : MS} {A : Nat → Nat → Nat}
theorem x_has (z : SZ H W) (M : MX H W S R C A) {r c : Nat} (hr : r < 2 ^ 31) (hc : c < 2 ^ 31) : gFX2_has H W (nI r) (nI c) S = some (bI (decide (r < R) && decide (c < C))) := by
  obtain ⟨z1, z2, z3⟩ := z
  obtain ⟨-, -, e4, e5, h1, h2, -⟩ := M
  unfold gFX2_has
  simp (disch := omega) only [n0, n1, nI_lt0, gx_bs, e4, e5, nI_leN, if_false]
  by_cases q1 : r < R
  · rw [if_neg (by omega), decide_eq_true q1, Bool.true_and]
    by_cases q2 : c < C
    · rw [if_neg (by omega), decide_eq_true q2]; rfl
    · rw [if_pos (by omega), decide_eq_false q2]; rfl
  · rw [if_pos (by omega), decide_eq_false q1]; rfl
theorem x_at (z : SZ H W) (M : MX H W S R C A) {r c : Nat} (hr : r < R) (hc : c < C) : gFX2_at H W (nI r) (nI c) S = some (nI (A r c)) := by
  have h := ix_lt (H := H) (W := W) (show r < H by have := M.2.2.2.2.1; omega) (show c < W by have := M.2.2.2.2.2.1; omega)
  have z' := z
  obtain ⟨z1, z2, z3⟩ := z'
  have M1 := M.2.2.2.2.1
  have M2 := M.2.2.2.2.2.1
  unfold gFX2_at
  rw [x_has z M (by omega) (by omega), decide_eq_true hr, decide_eq_true hc, gx_bs, n0, if_neg (by rw [Bool.and_true, bI_0]; decide), gx_bs, M.2.1, nI_mul, nI_add, x_a1 z h, gx_bs, M.2.2.2.2.2.2 r c hr hc]
theorem x_at0 (z : SZ H W) (M : MX H W S R C A) {r c : Nat} (hr : r < 2 ^ 31) (hc : c < 2 ^ 31) (h : ¬ (r < R ∧ c < C)) : gFX2_at H W (nI r) (nI c) S = some (nI 0) := by
  unfold gFX2_at
  rw [x_has z M hr hc, gx_bs, n0]
  have : (decide (r < R) && decide (c < C)) = false := by
    rw [Bool.and_eq_false_iff, decide_eq_false_iff_not, decide_eq_false_iff_not]
    omega
  rw [this, if_pos bI_f]
def up2 (A : Nat → Nat → Nat) (r c v : Nat) : Nat → Nat → Nat := fun r' c' => if r' = r ∧ c' = c then v else A r' c'
theorem x_put (z : SZ H W) (M : MX H W S R C A) {r c v : Nat} (hr : r < R) (hc : c < C) : ∃ T, gFX2_put H W (nI r) (nI c) (nI v) S = some T ∧ MX H W T R C (up2 A r c v) ∧ T.1 = S.1 ∧ T.2 2 = S.2 2 := by
  have h := ix_lt (H := H) (W := W) (show r < H by have := M.2.2.2.2.1; omega) (show c < W by have := M.2.2.2.2.2.1; omega)
  have z' := z
  obtain ⟨z1, z2, z3⟩ := z'
  have M' := M
  obtain ⟨m0, m1, m4, m5, m6, m7, m8⟩ := M'
  unfold gFX2_put
  rw [x_has z M (by omega) (by omega), decide_eq_true hr, decide_eq_true hc, gx_bs, n0, if_neg (by rw [Bool.and_true, bI_0]; decide), gx_bs, m1, nI_mul, nI_add, x_s1 z h, gx_bs]
  refine ⟨_, rfl, ⟨m0, m1, m4, m5, m6, m7, fun r' c' hr' hc' => ?_⟩, rfl, ?_⟩
  · rw [mp2, setA_s]
    unfold up2
    by_cases q : r' = r ∧ c' = c
    · rw [if_pos q, q.1, q.2, upd_s]
    · rw [if_neg q, upd_o (ix_ne (by omega) (by omega) q)]
      exact m8 r' c' hr' hc'
  · rw [mp2, setA_o (by decide)]
theorem x_clear (z : SZ H W) (e0 : S.1 0 = nI H) (e1 : S.1 1 = nI W) {R' C' : Nat} (hR : R' ≤ H) (hC : C' ≤ W) : ∃ T, gFX2_clear H W (nI R') (nI C') S = some T ∧ MX H W T R' C' (fun _ _ => 0) ∧ T.2 2 = S.2 2 := by
  have z' := z
  obtain ⟨z1, z2, z3⟩ := z'
  have q1 : (if nI H < nI R' then nI H else nI R') = nI R' := by rw [if_neg (by rw [nI_ltN (by omega) (by omega)]; omega)]
  have q2 : (if nI W < nI C' then nI W else nI C') = nI C' := by rw [if_neg (by rw [nI_ltN (by omega) (by omega)]; omega)]
  unfold gFX2_clear
  rw [gx_bs, e0, q1, gx_bs, gx_bs, gpi_1, upd_o (by decide), e1, q2, gx_bs, gfl_ok (xK_1 z), gx_bs]
  refine ⟨_, rfl, ⟨?_, ?_, ?_, ?_, hR, hC, fun r c hr hc => ?_⟩, ?_⟩
  · simp (disch := decide) only [gpi_1, upd_o, e0]
  · simp (disch := decide) only [gpi_1, upd_o, e1]
  · simp (disch := decide) only [gpi_1, upd_o, upd_s]
  · simp (disch := decide) only [gpi_1, upd_s]
  · rw [mp2, setA_s]
    show (if _ then _ else _) = _
    rw [if_pos (ix_lt (by omega) (by omega))]
    exact n0
  · rw [mp2, setA_o (by decide)]
    rfl
theorem x_identity (z : SZ H W) (e0 : S.1 0 = nI H) (e1 : S.1 1 = nI W) {n : Nat} (hR : n ≤ H) (hC : n ≤ W) : ∃ T, gFX2_becomeIdentity H W (nI n) S = some T ∧ MX H W T n n (fun r c => if r = c then 1 else 0) := by
  obtain ⟨T, t1, t2, -⟩ := x_clear z e0 e1 hR hC
  have z' := z
  obtain ⟨z1, z2, z3⟩ := z'
  unfold gFX2_becomeIdentity
  rw [t1, gx_bs, n0]
  refine itr_run n (fun k s => ∃ U, s = (nI k, U) ∧ MX H W U n n (fun r c => if r = c ∧ r < k then 1 else 0)) ?_ ?_ ?_
  · refine ⟨T, rfl, t2.1, t2.2.1, t2.2.2.1, t2.2.2.2.1, hR, hC, fun r c hr hc => ?_⟩
    rw [t2.2.2.2.2.2.2 r c hr hc]
    dsimp only
    rw [if_neg (show ¬ (r = c ∧ r < 0) by omega)]
  · rintro k s hk ⟨U, rfl, hU⟩
    left
    obtain ⟨V, v1, v2, -⟩ := x_put (v := 1) z hU hk hk
    unfold gLX2_becomeIdentity_8
    rw [gx_bs, hU.2.2.1, if_neg (by rw [nI_leN (by omega) (by omega)]; omega), n1, v1, gx_bs, nI_add]
    refine ⟨_, rfl, V, rfl, v2.1, v2.2.1, v2.2.2.1, v2.2.2.2.1, hR, hC, fun r c hr hc => ?_⟩
    rw [v2.2.2.2.2.2.2 r c hr hc]
    unfold up2
    congr 1
    dsimp only
    by_cases q : r = k ∧ c = k
    · rw [if_pos q, if_pos (show r = c ∧ r < k + 1 by omega)]
    · rw [if_neg q]
      by_cases q2 : r = c ∧ r < k
      · rw [if_pos q2, if_pos (show r = c ∧ r < k + 1 by omega)]
      · rw [if_neg q2, if_neg (show ¬ (r = c ∧ r < k + 1) by omega)]
  · rintro s ⟨U, rfl, hU⟩
    unfold gLX2_becomeIdentity_8
    rw [gx_bs, hU.2.2.1, if_pos (by rw [nI_leN (by omega) (by omega)]; omega)]
    refine ⟨U, rfl, hU.1, hU.2.1, hU.2.2.1, hU.2.2.2.1, hR, hC, fun r c hr hc => ?_⟩
    rw [hU.2.2.2.2.2.2 r c hr hc]
    congr 1
    dsimp only
    by_cases q : r = c
    · rw [if_pos q, if_pos ⟨q, hr⟩]
    · rw [if_neg q, if_neg (fun z => q z.1)]
end
