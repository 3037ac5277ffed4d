/-! the reference: monomials and borders in its row -/
def bI (b : Bool) : Int32 := if b then nI 1 else nI 0
theorem bI_t : bI true = nI 1 := rfl
theorem bI_f : bI false = nI 0 := rfl
theorem bI_0 {b : Bool} : (bI b = nI 0) = (b = false) := by cases b <;> simp [bI, nI_eqN]
def mx (M : List (Nat × Nat)) (k : Nat) : Nat := (M.getD k (0, 0)).1
def my (M : List (Nat × Nat)) (k : Nat) : Nat := (M.getD k (0, 0)).2
/-- a list of monomials as two rows of numbers, from a and from b on -/
def rowR (g : Nat → Int32) (a b : Nat) (M : List (Nat × Nat)) : Prop := ∀ k, k < M.length → g (a + k) = nI (mx M k) ∧ g (b + k) = nI (my M k)
def small (M : List (Nat × Nat)) : Prop := ∀ k, mx M k < 1000 ∧ my M k < 1000
def NowM (g : Nat → Int32) (M : List (Nat × Nat)) : Prop := g 1 = nI M.length ∧ rowR g 4 16 M
def NowB (g : Nat → Int32) (B : List (Nat × Nat)) : Prop := g 2 = nI B.length ∧ rowR g 28 42 B
def NowR (g : Nat → Int32) (p : Nat) (M B : List (Nat × Nat)) (r : Nat → Nat → Nat) (pts : List (Nat × Nat)) : Prop :=
  g 0 = nI p ∧ NowM g M ∧ NowB g B ∧ g 3 = nI pts.length ∧ (∀ b k, b < B.length → k < M.length → g (56 + (12 * b + k)) = nI (r b k)) ∧ rowR g 224 236 pts
theorem itr_fnd {body : Int32 → Option (Int32 ⊕ Int32)} {f g : Nat → Int32} {i j : Int32} {N : Nat} (hs : ∀ k, k < N → body (nI k) = if f k = i ∧ g k = j then some (.inr (nI k)) else some (.inl (nI (k + 1)))) (he : body (nI N) = some (.inr m1)) : itr body (nI 0) = some (fnd f g i j N 0) := by
  refine itr_val N (fun k s => s = nI k ∧ fnd f g i j N 0 = fnd f g i j (N - k) k) ⟨rfl, rfl⟩ ?_ ?_
  · rintro k s hk ⟨rfl, e⟩
    obtain ⟨r, hr⟩ : ∃ r, N - k = r + 1 := ⟨N - k - 1, by omega⟩
    rw [hr, fnd_step] at e
    rw [hs k hk]
    by_cases h : f k = i ∧ g k = j
    · right
      rw [if_pos h, e, if_pos h]
    · left
      rw [if_neg h]
      refine ⟨_, rfl, rfl, ?_⟩
      rw [e, if_neg h, show N - (k + 1) = r by omega]
  · rintro s ⟨rfl, e⟩
    rw [he, e, Nat.sub_self]
    rfl
/-- the place of a pair in a list -/
def ixI (M : List (Nat × Nat)) (p : Nat × Nat) : Int32 := if p ∈ M then nI (M.idxOf p) else m1
theorem fnd_list {M : List (Nat × Nat)} {f g : Nat → Int32} {i j : Nat} (hi : i < 2 ^ 31) (hj : j < 2 ^ 31) (hM : small M) : ∀ (L pre : List (Nat × Nat)), M = pre ++ L → (∀ k, k < M.length → f k = nI (mx M k) ∧ g k = nI (my M k)) → (i, j) ∉ pre → fnd f g (nI i) (nI j) L.length pre.length = ixI M (i, j)
  | [], pre, e, _, hp => by
    unfold ixI
    rw [if_neg (by rw [e, List.append_nil]; exact hp)]
    rfl
  | q :: L, pre, e, hf, hp => by
    have hk : pre.length < M.length := by rw [e]; simp
    have hq : M.getD pre.length (0, 0) = q := by rw [e]; simp
    have h1 := hf pre.length hk
    have hs := hM pre.length
    unfold mx my at h1 hs
    rw [hq] at h1 hs
    show fnd f g (nI i) (nI j) (L.length + 1) pre.length = _
    rw [fnd_step, h1.1, h1.2]
    simp only [nI_eqN (show q.1 < 2 ^ 31 by omega) hi, nI_eqN (show q.2 < 2 ^ 31 by omega) hj]
    by_cases h : q.1 = i ∧ q.2 = j
    · rw [if_pos h]
      obtain ⟨rfl, rfl⟩ := h
      unfold ixI
      rw [if_pos (by rw [e]; simp), e, List.idxOf_append, if_neg hp]
      simp
    · rw [if_neg h]
      have := fnd_list hi hj hM L (pre ++ [q]) (by rw [e]; simp) hf (by
        intro z
        rcases List.mem_append.mp z with z | z
        · exact hp z
        · have := List.mem_singleton.mp z
          exact h (by rw [← this]; exact ⟨rfl, rfl⟩))
      rwa [List.length_append] at this
theorem fnd_ix {M : List (Nat × Nat)} {f g : Nat → Int32} {i j : Nat} (hi : i < 2 ^ 31) (hj : j < 2 ^ 31) (hM : small M) (hf : ∀ k, k < M.length → f k = nI (mx M k) ∧ g k = nI (my M k)) : fnd f g (nI i) (nI j) M.length 0 = ixI M (i, j) := fnd_list hi hj hM M [] rfl hf (by simp)
theorem ixI_m1 {M : List (Nat × Nat)} {p : Nat × Nat} (h : M.length < 2 ^ 31) : (ixI M p = m1) = (p ∉ M) := by
  unfold ixI
  by_cases hp : p ∈ M
  · rw [if_pos hp, nI_ne_m1 (Nat.lt_of_le_of_lt (List.idxOf_le_length) h)]
    simp [hp]
  · rw [if_neg hp]
    simp [hp]
section
variable {S : MS} {p : Nat} {M B : List (Nat × Nat)} {r : Nat → Nat → Nat} {pts : List (Nat × Nat)}
theorem g_n (H : NowM (S.2 1) M) : gFX10_n S = some (nI M.length) := by
  unfold gFX10_n
  simp (disch := omega) only [n1, mK_a1, H.1, Option.bind_some]
theorem g_p (H : S.2 1 0 = nI p) : gFX10_p S = some (nI p) := by
  unfold gFX10_p
  simp (disch := omega) only [n0, mK_a1, H, Option.bind_some]
theorem g_monomialAt (H : NowM (S.2 1) M) (hN : M.length ≤ 12) (i j : Int32) : gFX10_monomialAt i j S = some (fnd (fun k => S.2 1 (4 + k)) (fun k => S.2 1 (16 + k)) i j M.length 0) := by
  unfold gFX10_monomialAt
  rw [n0]
  refine itr_fnd (fun k hk => ?_) ?_
  · unfold gLX10_monomialAt_2 gBX10_monomialAt_37
    rw [g_n H]
    simp (disch := omega) only [Option.bind_some, nI_leN, n4, n16, n1, nI_add, mK_a1]
    rw [if_neg (by omega)]
    by_cases h1 : S.2 1 (4 + k) = i
    · by_cases h2 : S.2 1 (16 + k) = j
      · rw [if_pos h1, if_pos h2, if_pos ⟨h1, h2⟩]; rfl
      · rw [if_pos h1, if_neg h2, if_neg (fun z => h2 z.2)]
    · rw [if_neg h1, if_neg (fun z => h1 z.1)]
  · unfold gLX10_monomialAt_2
    rw [g_n H]
    simp (disch := omega) only [Option.bind_some, nI_leN]
    rw [if_pos (Nat.le_refl _)]
    rfl
theorem g_borderAt (H : NowB (S.2 1) B) (hN : B.length ≤ 14) (i j : Int32) : gFX10_borderAt i j S = some (fnd (fun k => S.2 1 (28 + k)) (fun k => S.2 1 (42 + k)) i j B.length 0) := by
  unfold gFX10_borderAt
  rw [n0]
  refine itr_fnd (fun k hk => ?_) ?_
  · unfold gLX10_borderAt_2 gBX10_borderAt_40
    simp (disch := omega) only [Option.bind_some, n28, n42, n2, n1, nI_add, mK_a1, H.1, nI_leN]
    rw [if_neg (by omega)]
    by_cases h1 : S.2 1 (28 + k) = i
    · by_cases h2 : S.2 1 (42 + k) = j
      · rw [if_pos h1, if_pos h2, if_pos ⟨h1, h2⟩]; rfl
      · rw [if_pos h1, if_neg h2, if_neg (fun z => h2 z.2)]
    · rw [if_neg h1, if_neg (fun z => h1 z.1)]
  · unfold gLX10_borderAt_2
    simp (disch := omega) only [Option.bind_some, n2, mK_a1, H.1, nI_leN]
    rw [if_pos (Nat.le_refl _)]
    rfl
theorem g_monIx (H : NowM (S.2 1) M) (hN : M.length ≤ 12) (hM : small M) {i j : Nat} (hi : i < 2 ^ 31) (hj : j < 2 ^ 31) : gFX10_monomialAt (nI i) (nI j) S = some (ixI M (i, j)) := by
  rw [g_monomialAt H hN, fnd_ix hi hj hM H.2]
theorem g_borIx (H : NowB (S.2 1) B) (hN : B.length ≤ 14) (hB : small B) {i j : Nat} (hi : i < 2 ^ 31) (hj : j < 2 ^ 31) : gFX10_borderAt (nI i) (nI j) S = some (ixI B (i, j)) := by
  rw [g_borderAt H hN, fnd_ix hi hj hB H.2]
theorem g_hasIt (H : NowM (S.2 1) M) (hN : M.length ≤ 12) (hM : small M) {i j : Nat} (hi : i < 2 ^ 31) (hj : j < 2 ^ 31) : gFX10_hasIt (nI i) (nI j) S = some (bI (decide ((i, j) ∈ M))) := by
  unfold gFX10_hasIt
  rw [g_monIx H hN hM hi hj]
  simp (disch := omega) only [Option.bind_some, n1, nm1, ixI_m1, n0]
  by_cases h : (i, j) ∈ M <;> simp [h, bI]
def divs (M : List (Nat × Nat)) (i j : Nat) : Bool := (decide (i = 0) || decide ((i - 1, j) ∈ M)) && (decide (j = 0) || decide ((i, j - 1) ∈ M))
theorem g_hasDivisors (H : NowM (S.2 1) M) (hN : M.length ≤ 12) (hM : small M) {i j : Nat} (hi : i < 2 ^ 31) (hj : j < 2 ^ 31) : gFX10_hasDivisors (nI i) (nI j) S = some (bI (divs M i j)) := by
  have K : gBX10_hasDivisors_15 (nI i) (nI j) S = some (bI (decide (j = 0) || decide ((i, j - 1) ∈ M))) := by
    unfold gBX10_hasDivisors_15
    simp (disch := omega) only [n0, n1, nI_eqN]
    by_cases h : j = 0
    · subst h; simp [bI]
    · rw [if_neg h, nI_sub (by omega), g_hasIt H hN hM hi (by omega)]
      simp only [Option.bind_some, bI_0]
      by_cases h2 : (i, j - 1) ∈ M <;> simp [h, h2, bI]
  unfold gFX10_hasDivisors divs
  simp (disch := omega) only [n0, n1, nI_eqN]
  by_cases h : i = 0
  · subst h; rw [if_pos rfl, ← n0] ; rw [n0, K]; simp
  · rw [if_neg h, nI_sub (by omega), g_hasIt H hN hM (by omega) hj]
    simp only [Option.bind_some, bI_0]
    by_cases h2 : (i - 1, j) ∈ M
    · simp [h, h2, K]
    · simp [h, h2, bI]
theorem g_canJoin (H : NowM (S.2 1) M) (hN : M.length ≤ 12) (hM : small M) {i j : Nat} (hi : i < 2 ^ 31) (hj : j < 2 ^ 31) : gFX10_canJoin (nI i) (nI j) S = some (bI (!decide ((i, j) ∈ M) && divs M i j)) := by
  unfold gFX10_canJoin
  rw [g_hasIt H hN hM hi hj, g_hasDivisors H hN hM hi hj]
  simp only [Option.bind_some, n0, n1, bI_0]
  by_cases h : (i, j) ∈ M <;> cases h2 : divs M i j <;> simp [h, bI]
theorem g_canLeave (H : NowM (S.2 1) M) (hN : M.length ≤ 12) (hM : small M) {i j : Nat} (hi : i < 2 ^ 30) (hj : j < 2 ^ 30) : gFX10_canLeave (nI i) (nI j) S = some (bI (decide ((i, j) ∈ M) && decide (0 < i + j) && !decide ((i + 1, j) ∈ M) && !decide ((i, j + 1) ∈ M))) := by
  unfold gFX10_canLeave
  simp (disch := omega) only [n0, n1, nI_add, g_hasIt H hN hM (i := i) (j := j) (by omega) (by omega), g_hasIt H hN hM (i := i + 1) (j := j) (by omega) (by omega), g_hasIt H hN hM (i := i) (j := j + 1) (by omega) (by omega), Option.bind_some, bI_0, nI_leN]
  by_cases h : (i, j) ∈ M <;> by_cases h2 : 0 < i + j <;> by_cases h3 : (i + 1, j) ∈ M <;> by_cases h4 : (i, j + 1) ∈ M <;> simp [h, h2, h3, h4, bI] <;> omega
theorem g_isAhead {i j i' j' : Nat} (h1 : i < 1000) (h2 : j < 1000) (h3 : i' < 1000) (h4 : j' < 1000) : gFX10_isAhead (nI i) (nI j) (nI i') (nI j') S = some (bI (if i + j = i' + j' then decide (j < j') else decide (i + j < i' + j'))) := by
  unfold gFX10_isAhead
  simp (disch := omega) only [n0, n1, nI_add, nI_eqN, nI_leN]
  by_cases h : i + j = i' + j'
  · rw [if_pos h, if_pos h]
    by_cases h5 : j' ≤ j
    · rw [if_pos h5]; simp [bI, Nat.not_lt.mpr h5]
    · rw [if_neg h5]; simp [bI, Nat.not_le.mp h5]
  · rw [if_neg h, if_neg h]
    by_cases h5 : i' + j' ≤ i + j
    · rw [if_pos h5]; simp [bI, Nat.not_lt.mpr h5]
    · rw [if_neg h5]; simp [bI, Nat.not_le.mp h5]
end
