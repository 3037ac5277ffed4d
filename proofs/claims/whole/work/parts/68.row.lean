/-! the class's Matrix: operations on rows -/
def swapM (A : Nat → Nat → Nat) (i j : Nat) : Nat → Nat → Nat := fun r c => if r = i then A j c else if r = j then A i c else A r c
def scaleM (A : Nat → Nat → Nat) (i f p : Nat) : Nat → Nat → Nat := fun r c => if r = i then A i c * f % p else A r c
/-- row r0 less f times row q -/
def subM (A : Nat → Nat → Nat) (r0 q f p : Nat) : Nat → Nat → Nat := fun r c => if r = r0 then rsd ((A r0 c : Int) - (f * A q c : Nat)) p else A r c
def clearM (A : Nat → Nat → Nat) (q c p : Nat) : Nat → Nat → Nat := fun r c' => if r = q ∨ A r c = 0 then A r c' else rsd ((A r c' : Int) - (A r c * A q c' : Nat)) p
def bdM (A : Nat → Nat → Nat) (R C p : Nat) : Prop := ∀ r c, r < R → c < C → A r c < p
theorem MX.congr {H W R C : Nat} {S : MS} {A B : Nat → Nat → Nat} (M : MX H W S R C A) (h : ∀ r c, r < R → c < C → A r c = B r c) : MX H W S R C B := ⟨M.1, M.2.1, M.2.2.1, M.2.2.2.1, M.2.2.2.2.1, M.2.2.2.2.2.1, fun r c hr hc => by rw [M.2.2.2.2.2.2 r c hr hc, h r c hr hc]⟩
theorem mul_lt_k {x y p : Nat} (hp : p < 1000) (hx : x < p) (hy : y < p) : x * y < 1000000 := by
  have := Nat.mul_le_mul (show x ≤ 999 by omega) (show y ≤ 999 by omega)
  omega
section
variable {H W R C : Nat} {S : MS} {A : Nat → Nat → Nat}
theorem MX.small (z : SZ H W) (M : MX H W S R C A) : R ≤ 4096 ∧ C ≤ 4096 := by
  obtain ⟨z1, z2, z3⟩ := z
  have a := M.2.2.2.2.1
  have b := M.2.2.2.2.2.1
  omega
theorem x_swap (z : SZ H W) (M : MX H W S R C A) {i j : Nat} (hi : i < R) (hj : j < R) : ∃ T, gFX2_swapRows H W (nI i) (nI j) S = some T ∧ MX H W T R C (swapM A i j) ∧ T.1 = S.1 ∧ T.2 2 = S.2 2 := by
  have sm := M.small z
  unfold gFX2_swapRows
  rw [n0]
  refine itr_run C (fun k s => ∃ U, s = (nI k, U) ∧ MX H W U R C (fun r c => if c < k then swapM A i j r c else A r c) ∧ U.1 = S.1 ∧ U.2 2 = S.2 2) ⟨S, rfl, M.congr fun r c _ _ => by rw [if_neg (by omega)], rfl, rfl⟩ ?_ ?_
  · rintro k s hk ⟨U, rfl, hU, u1, u2⟩
    left
    obtain ⟨V, v1, v2, v3, v4⟩ := x_put (v := A j k) z hU hi hk
    obtain ⟨X, x1, x2, x3, x4⟩ := x_put (v := A i k) z v2 hj hk
    unfold gLX2_swapRows_2
    rw [gx_bs, hU.2.2.2.1, if_neg (by rw [nI_leN (by omega) (by omega)]; omega), x_at z hU hi hk, gx_bs, x_at z hU hj hk, gx_bs]
    dsimp only
    rw [if_neg (show ¬ k < k by omega), if_neg (show ¬ k < k by omega), v1, gx_bs, x1, gx_bs, n1, nI_add]
    refine ⟨_, rfl, X, rfl, x2.congr fun r c hr hc => ?_, by rw [x3, v3, u1], by rw [x4, v4, u2]⟩
    unfold up2 swapM
    dsimp only
    by_cases hc2 : c = k
    · subst hc2
      rw [if_pos (show c < c + 1 by omega)]
      by_cases h1 : r = j
      · subst h1
        rw [if_pos ⟨rfl, rfl⟩]
        by_cases h2 : r = i
        · rw [if_pos h2, h2]
        · rw [if_neg h2, if_pos rfl]
      · rw [if_neg (fun z => h1 z.1)]
        by_cases h2 : r = i
        · rw [if_pos ⟨h2, rfl⟩, if_pos h2]
        · rw [if_neg (fun z => h2 z.1), if_neg h2, if_neg h1, if_neg (show ¬ c < c by omega)]
    · rw [if_neg (fun z => hc2 z.2), if_neg (fun z => hc2 z.2)]
      by_cases h : c < k
      · rw [if_pos h, if_pos (show c < k + 1 by omega)]
      · rw [if_neg h, if_neg (show ¬ c < k + 1 by omega)]
  · rintro s ⟨U, rfl, hU, u1, u2⟩
    unfold gLX2_swapRows_2
    rw [gx_bs, hU.2.2.2.1, if_pos (by rw [nI_leN (by omega) (by omega)]; omega)]
    exact ⟨U, rfl, hU.congr fun r c _ hc => by rw [if_pos hc], u1, u2⟩
theorem x_scale (z : SZ H W) (M : MX H W S R C A) {i f p : Nat} (hi : i < R) (hp : p < 1000) (h0 : 0 < p) (hA : bdM A R C p) (hf : f < p) : ∃ T, gFX2_scaleRow H W (nI i) (nI f) (nI p) S = some T ∧ MX H W T R C (scaleM A i f p) ∧ T.1 = S.1 ∧ T.2 2 = S.2 2 := by
  have sm := M.small z
  unfold gFX2_scaleRow
  rw [n0]
  refine itr_run C (fun k s => ∃ U, s = (nI k, U) ∧ MX H W U R C (fun r c => if c < k then scaleM A i f p r c else A r c) ∧ U.1 = S.1 ∧ U.2 2 = S.2 2) ⟨S, rfl, M.congr fun r c _ _ => by rw [if_neg (by omega)], rfl, rfl⟩ ?_ ?_
  · rintro k s hk ⟨U, rfl, hU, u1, u2⟩
    left
    have hb := mul_lt_k hp (hA i k hi hk) hf
    obtain ⟨V, v1, v2, v3, v4⟩ := x_put (v := A i k * f % p) z hU hi hk
    unfold gLX2_scaleRow_3
    rw [gx_bs, hU.2.2.2.1, if_neg (by rw [nI_leN (by omega) (by omega)]; omega), x_at z hU hi hk, gx_bs]
    dsimp only
    rw [if_neg (show ¬ k < k by omega), nI_mul, p_resN h0 (by omega) (by omega), gx_bs, v1, gx_bs, n1, nI_add]
    refine ⟨_, rfl, V, rfl, v2.congr fun r c hr hc => ?_, by rw [v3, u1], by rw [v4, u2]⟩
    unfold up2 scaleM
    dsimp only
    by_cases hc2 : c = k
    · subst hc2
      rw [if_pos (show c < c + 1 by omega)]
      by_cases h2 : r = i
      · rw [if_pos ⟨h2, rfl⟩, if_pos h2]
      · rw [if_neg (fun z => h2 z.1), if_neg h2, if_neg (show ¬ c < c by omega)]
    · rw [if_neg (fun z => hc2 z.2)]
      by_cases h : c < k
      · rw [if_pos h, if_pos (show c < k + 1 by omega)]
      · rw [if_neg h, if_neg (show ¬ c < k + 1 by omega)]
  · rintro s ⟨U, rfl, hU, u1, u2⟩
    unfold gLX2_scaleRow_3
    rw [gx_bs, hU.2.2.2.1, if_pos (by rw [nI_leN (by omega) (by omega)]; omega)]
    exact ⟨U, rfl, hU.congr fun r c _ hc => by rw [if_pos hc], u1, u2⟩
theorem x_sub (z : SZ H W) (M : MX H W S R C A) {r0 q f p : Nat} (hr : r0 < R) (hq : q < R) (hne : r0 ≠ q) (hp : p < 1000) (h0 : 0 < p) (hA : bdM A R C p) (hf : f < p) : ∃ T, gFX2_subtractRow H W (nI r0) (nI q) (nI f) (nI p) S = some T ∧ MX H W T R C (subM A r0 q f p) ∧ T.1 = S.1 ∧ T.2 2 = S.2 2 := by
  have sm := M.small z
  have hW := M.2.2.2.2.2.1
  have hH := M.2.2.2.2.1
  unfold gFX2_subtractRow
  rw [gx_bs, gx_bs, gx_bs, M.2.1, M.2.2.1, n1, nI_sub (by omega), p_out, outB_in (by omega) (by omega), gx_bs, n0, if_pos bI_f, gx_bs, nI_sub (by omega), p_out, outB_in (by omega) (by omega), gx_bs, if_pos bI_f, nI_mul, nI_mul]
  refine itr_run C (fun k s => ∃ g, s = (nI k, ((S.1, setA S.2 1 g) : MS)) ∧ (∀ r c, r < R → c < C → g (r * W + c) = nI (if c < k then subM A r0 q f p r c else A r c))) ⟨S.2 1, by rw [setA_id], fun r c hr hc => by rw [if_neg (by omega)]; exact M.2.2.2.2.2.2 r c hr hc⟩ ?_ ?_
  · rintro k s hk ⟨g, rfl, hg⟩
    left
    have k1 := ix_lt (H := H) (W := W) (show r0 < H by omega) (show k < W by omega)
    have k2 := ix_lt (H := H) (W := W) (show q < H by omega) (show k < W by omega)
    have g1 := hg r0 k hr hk
    have g2 := hg q k hq hk
    rw [if_neg (by omega)] at g1 g2
    have hb := mul_lt_k hp hf (hA q k hq hk)
    have hb2 := hA r0 k hr hk
    have hz : (nI (A r0 k) - nI (f * A q k)).toInt = (A r0 k : Int) - (f * A q k : Nat) := pk_sub_toInt (by omega) (by omega)
    unfold gLX2_subtractRow_46
    rw [gx_bs]
    dsimp only
    rw [M.2.2.2.1, if_neg (by rw [nI_leN (by omega) (by omega)]; omega), nI_add, nI_add, x_a1 z k1, gx_bs, x_a1 z k2, gx_bs, mp2, setA_s, g1, g2, nI_mul, p_res hz h0 (by omega) (by omega), gx_bs, x_s1 z k1, gx_bs, mp1, mp2, setA_s, setA_2, n1, nI_add]
    refine ⟨_, rfl, _, rfl, fun r c hr' hc => ?_⟩
    unfold subM
    by_cases h : r = r0 ∧ c = k
    · rw [h.1, h.2, upd_s, if_pos (show k < k + 1 by omega), if_pos rfl]
    · rw [upd_o (ix_ne (by omega) (by omega) h), hg r c hr' hc]
      unfold subM
      by_cases h1 : c < k
      · rw [if_pos h1, if_pos (show c < k + 1 by omega)]
      · rw [if_neg h1]
        by_cases h2 : c = k
        · rw [if_pos (show c < k + 1 by omega), if_neg (fun z => h ⟨z, h2⟩)]
        · rw [if_neg (show ¬ c < k + 1 by omega)]
  · rintro s ⟨g, rfl, hg⟩
    unfold gLX2_subtractRow_46
    rw [gx_bs]
    dsimp only
    rw [M.2.2.2.1, if_pos (by rw [nI_leN (by omega) (by omega)]; omega)]
    refine ⟨_, rfl, ⟨M.1, M.2.1, M.2.2.1, M.2.2.2.1, hH, hW, fun r c hr' hc => ?_⟩, rfl, ?_⟩
    · rw [mp2, setA_s, hg r c hr' hc, if_pos hc]
    · rw [mp2, setA_o (by decide)]
/-- the first row from r on with a number that is not 0 -/
def pivF (A : Nat → Nat → Nat) (c : Nat) : Nat → Nat → Option Nat
  | 0, _ => none
  | n + 1, r => if A r c = 0 then pivF A c n (r + 1) else some r
theorem pivF_some {A : Nat → Nat → Nat} {c : Nat} : ∀ {n r f : Nat}, pivF A c n r = some f → r ≤ f ∧ f < r + n ∧ A f c ≠ 0
  | 0, _, _, h => by cases h
  | n + 1, r, f, h => by
    unfold pivF at h
    split at h
    · have := pivF_some h
      exact ⟨by omega, by omega, this.2.2⟩
    · next h2 =>
      cases h
      exact ⟨Nat.le_refl _, by omega, h2⟩
theorem x_pivot (z : SZ H W) (M : MX H W S R C A) {r0 c p : Nat} (hr : r0 ≤ R) (hc : c < C) (hp : p < 1000) (hA : bdM A R C p) : gFX2_pivotRow H W (nI r0) (nI c) S = some (match pivF A c (R - r0) r0 with | some f => nI f | none => m1) := by
  have sm := M.small z
  unfold gFX2_pivotRow
  refine itr_val (R - r0) (fun k s => s = nI (r0 + k) ∧ pivF A c (R - r0) r0 = pivF A c (R - r0 - k) (r0 + k)) ⟨rfl, rfl⟩ ?_ ?_
  · rintro k s hk ⟨rfl, e⟩
    have hb := hA (r0 + k) c (by omega) hc
    unfold gLX2_pivotRow_2
    rw [gx_bs, M.2.2.1, if_neg (by rw [nI_leN (by omega) (by omega)]; omega), x_at z M (by omega) hc, gx_bs]
    obtain ⟨n, hn⟩ : ∃ n, R - r0 - k = n + 1 := ⟨R - r0 - k - 1, by omega⟩
    rw [hn] at e
    have e2 : pivF A c (n + 1) (r0 + k) = if A (r0 + k) c = 0 then pivF A c n (r0 + k + 1) else some (r0 + k) := rfl
    rw [e2] at e
    by_cases h : A (r0 + k) c = 0
    · left
      rw [if_pos (by rw [n0, nI_eqN (by omega) (by omega)]; exact h), n1, nI_add]
      rw [if_pos h] at e
      exact ⟨_, rfl, rfl, by rw [e, show R - r0 - (k + 1) = n by omega]; rfl⟩
    · right
      rw [if_neg (by rw [n0, nI_eqN (by omega) (by omega)]; exact h)]
      rw [if_neg h] at e
      rw [e]
      rfl
  · rintro s ⟨rfl, e⟩
    unfold gLX2_pivotRow_2
    rw [gx_bs, M.2.2.1, if_pos (by rw [nI_leN (by omega) (by omega)]; omega), e, Nat.sub_self, n1, nm1]
    rfl
theorem x_clearCol (z : SZ H W) (M : MX H W S R C A) {q c p : Nat} (hq : q < R) (hc : c < C) (hp : p < 1000) (h0 : 0 < p) (hA : bdM A R C p) : ∃ T, gFX2_clearColumn H W (nI q) (nI c) (nI p) S = some T ∧ MX H W T R C (clearM A q c p) ∧ T.1 = S.1 ∧ T.2 2 = S.2 2 := by
  have sm := M.small z
  unfold gFX2_clearColumn
  rw [n0]
  refine itr_run R (fun k s => ∃ U, s = (nI k, U) ∧ MX H W U R C (fun r c' => if r < k then clearM A q c p r c' else A r c') ∧ U.1 = S.1 ∧ U.2 2 = S.2 2) ⟨S, rfl, M.congr fun r c _ _ => by rw [if_neg (by omega)], rfl, rfl⟩ ?_ ?_
  · rintro k s hk ⟨U, rfl, hU, u1, u2⟩
    left
    have hb := hA k c hk hc
    have hB : bdM (fun r c' => if r < k then clearM A q c p r c' else A r c') R C p := by
      intro r c' hr hc'
      dsimp only
      split
      · unfold clearM
        split
        · exact hA r c' hr hc'
        · exact rsd_lt h0
      · exact hA r c' hr hc'
    have same : (k = q ∨ A k c = 0) → MX H W U R C (fun r c' => if r < k + 1 then clearM A q c p r c' else A r c') := by
      intro hkq
      refine hU.congr fun r c' hr hc' => ?_
      by_cases h : r < k
      · rw [if_pos h, if_pos (by omega)]
      · rw [if_neg h]
        by_cases h2 : r = k
        · rw [if_pos (by omega), h2]
          unfold clearM
          rw [if_pos hkq]
        · rw [if_neg (by omega)]
    unfold gLX2_clearColumn_3 gBX2_clearColumn_42
    rw [gx_bs, hU.2.2.1, if_neg (by rw [nI_leN (by omega) (by omega)]; omega), x_at z hU hk hc, gx_bs]
    dsimp only
    rw [if_neg (show ¬ k < k by omega), n1, nI_add]
    by_cases h1 : k = q
    · rw [if_pos (by rw [h1])]
      exact ⟨_, rfl, U, rfl, same (Or.inl h1), u1, u2⟩
    · rw [if_neg (by rw [nI_eqN (by omega) (by omega)]; exact h1)]
      by_cases h2 : A k c = 0
      · rw [if_pos (by rw [n0, h2])]
        exact ⟨_, rfl, U, rfl, same (Or.inr h2), u1, u2⟩
      · rw [if_neg (by rw [n0, nI_eqN (by omega) (by omega)]; exact h2)]
        obtain ⟨V, v1, v2, v3, v4⟩ := x_sub z hU hk hq h1 hp h0 hB hb
        rw [v1, gx_bs]
        refine ⟨_, rfl, V, rfl, v2.congr fun r c' hr hc' => ?_, by rw [v3, u1], by rw [v4, u2]⟩
        unfold subM
        dsimp only
        have eq : (if q < k then clearM A q c p q c' else A q c') = A q c' := by
          split
          · unfold clearM; rw [if_pos (Or.inl rfl)]
          · rfl
        by_cases h3 : r = k
        · subst h3
          rw [if_pos rfl, if_neg (show ¬ r < r by omega), eq, if_pos (show r < r + 1 by omega)]
          unfold clearM
          rw [if_neg (by omega)]
        · rw [if_neg h3]
          by_cases h : r < k
          · rw [if_pos h, if_pos (by omega)]
          · rw [if_neg h, if_neg (by omega)]
  · rintro s ⟨U, rfl, hU, u1, u2⟩
    unfold gLX2_clearColumn_3
    rw [gx_bs, hU.2.2.1, if_pos (by rw [nI_leN (by omega) (by omega)]; omega)]
    exact ⟨U, rfl, hU.congr fun r c hr _ => by rw [if_pos hr], u1, u2⟩
end
