/-! monomials, order ideals as heights, their lists -/
def mons : List (Nat × Nat) := (List.range 13).flatMap fun d => (List.range (d + 1)).map fun j => (d - j, j)
def inO (ht : Nat → Nat) (p : Nat × Nat) : Bool := decide (p.2 < ht p.1)
def inB (ht : Nat → Nat) (p : Nat × Nat) : Bool := !inO ht p && ((decide (1 ≤ p.1) && inO ht (p.1 - 1, p.2)) || (decide (1 ≤ p.2) && inO ht (p.1, p.2 - 1)))
def Lm (ht : Nat → Nat) : List (Nat × Nat) := mons.filter (inO ht)
def Lb (ht : Nat → Nat) : List (Nat × Nat) := mons.filter (inB ht)
def sm (f : Nat → Nat) : Nat → Nat
  | 0 => 0
  | n + 1 => sm f n + f n
/-- heights of an order ideal of 1 to 12 monomials -/
def wfh (ht : Nat → Nat) : Prop := (∀ i, ht (i + 1) ≤ ht i) ∧ 1 ≤ ht 0 ∧ sm ht 13 ≤ 12 ∧ ∀ i, 13 ≤ i → ht i = 0
/-- all descending rows of n numbers, the first at most m, their sum at most s -/
def desc : Nat → Nat → Nat → List (List Nat)
  | 0, _, _ => [[]]
  | n + 1, m, s => (List.range (m + 1)).flatMap fun v => if v ≤ s then (desc n v (s - v)).map (v :: ·) else []
def hOf (l : List Nat) : Nat → Nat := fun i => l.getD i 0
def parts12 : List (List Nat) := (desc 13 12 12).filter fun l => decide (1 ≤ l.getD 0 0)
def sl (f : Nat → Nat) : Nat → Nat → List Nat
  | _, 0 => []
  | i, n + 1 => f i :: sl f (i + 1) n
def smf (f : Nat → Nat) : Nat → Nat → Nat
  | _, 0 => 0
  | i, n + 1 => f i + smf f (i + 1) n
theorem smf_snoc (f : Nat → Nat) : ∀ n i, smf f i (n + 1) = smf f i n + f (i + n)
  | 0, i => by simp [smf]
  | n + 1, i => by
    show f i + smf f (i + 1) (n + 1) = f i + smf f (i + 1) n + f (i + (n + 1))
    rw [smf_snoc f n (i + 1), show i + 1 + n = i + (n + 1) by omega]
    omega
theorem smf_sm (f : Nat → Nat) : ∀ n, smf f 0 n = sm f n
  | 0 => rfl
  | n + 1 => by rw [smf_snoc, smf_sm f n, Nat.zero_add]; rfl
theorem desc_mem (f : Nat → Nat) (hd : ∀ i, f (i + 1) ≤ f i) : ∀ n i m s, f i ≤ m → smf f i n ≤ s → sl f i n ∈ desc n m s
  | 0, _, _, _, _, _ => List.mem_singleton.mpr rfl
  | n + 1, i, m, s, h1, h2 => by
    have h2 : f i + smf f (i + 1) n ≤ s := h2
    refine List.mem_flatMap.mpr ⟨f i, List.mem_range.mpr (by omega), ?_⟩
    rw [if_pos (by omega)]
    exact List.mem_map.mpr ⟨_, desc_mem f hd n (i + 1) (f i) (s - f i) (hd i) (by omega), rfl⟩
theorem sl_getD (f : Nat → Nat) : ∀ n i k, k < n → (sl f i n).getD k 0 = f (i + k)
  | n + 1, i, 0, _ => rfl
  | n + 1, i, k + 1, h => by
    show (sl f (i + 1) n).getD k 0 = _
    rw [sl_getD f n (i + 1) k (by omega), show i + 1 + k = i + (k + 1) by omega]
theorem sl_len (f : Nat → Nat) : ∀ n i, (sl f i n).length = n
  | 0, _ => rfl
  | n + 1, i => by show (sl f (i + 1) n).length + 1 = _; rw [sl_len f n (i + 1)]
/-- whatever a program decides of all of them holds of every order ideal -/
theorem parts_all {Q : (Nat → Nat) → Prop} (h : ∀ l ∈ parts12, Q (hOf l)) {ht : Nat → Nat} (w : wfh ht) : Q ht := by
  obtain ⟨w1, w2, w3, w4⟩ := w
  have h12 : ht 0 ≤ 12 := by
    have e : sm ht 13 = smf ht 0 13 := (smf_sm ht 13).symm
    have : smf ht 0 13 = ht 0 + smf ht 1 12 := rfl
    omega
  have hm : sl ht 0 13 ∈ parts12 := by
    refine List.mem_filter.mpr ⟨desc_mem ht w1 13 0 12 12 h12 (by rw [smf_sm]; exact w3), ?_⟩
    rw [sl_getD ht 13 0 0 (by omega)]
    simpa using w2
  have e : hOf (sl ht 0 13) = ht := by
    funext i
    unfold hOf
    by_cases hi : i < 13
    · rw [sl_getD ht 13 0 i hi, Nat.zero_add]
    · rw [w4 i (by omega), List.getD_eq_getElem?_getD, List.getElem?_eq_none (by rw [sl_len]; omega)]
      rfl
  have := h _ hm
  rwa [e] at this
set_option maxRecDepth 100000 in
theorem parts_n : ∀ l ∈ parts12, (Lm (hOf l)).length = sm (hOf l) 13 ∧ (Lm (hOf l)).length ≤ 12 ∧ 1 ≤ (Lm (hOf l)).length ∧ (Lb (hOf l)).length ≤ 13 ∧ 1 ≤ (Lb (hOf l)).length := by decide +kernel
theorem Lm_len {ht : Nat → Nat} (w : wfh ht) : (Lm ht).length = sm ht 13 ∧ (Lm ht).length ≤ 12 ∧ 1 ≤ (Lm ht).length ∧ (Lb ht).length ≤ 13 ∧ 1 ≤ (Lb ht).length := parts_all (Q := fun ht => (Lm ht).length = sm ht 13 ∧ (Lm ht).length ≤ 12 ∧ 1 ≤ (Lm ht).length ∧ (Lb ht).length ≤ 13 ∧ 1 ≤ (Lb ht).length) parts_n w
