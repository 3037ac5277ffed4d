/-! the reference: tables, their products and powers -/
theorem grid {outer : Int32 → MS → Option ((Int32 × MS) ⊕ MS)} {inner : Int32 → Int32 → MS → Option ((Int32 × MS) ⊕ ((Int32 × MS) ⊕ MS))} {S : MS} {j n m : Nat} {ix : Nat → Nat → Nat} {V : Nat → Nat → Int32}
    (inj : ∀ a b a' b', a < n → b < m → a' < n → b' < m → ix a' b' = ix a b → a' = a ∧ b' = b)
    (hout : ∀ a g, a < n → outer (nI a) (S.1, setA S.2 j g) = itr (fun s : Int32 × MS => inner (nI a) s.1 s.2) (nI 0, ((S.1, setA S.2 j g) : MS)))
    (hend : ∀ g, outer (nI n) (S.1, setA S.2 j g) = some (.inr (S.1, setA S.2 j g)))
    (hin : ∀ a b g, a < n → b < m → inner (nI a) (nI b) (S.1, setA S.2 j g) = some (.inl (nI (b + 1), ((S.1, setA S.2 j (upd g (ix a b) (V a b))) : MS))))
    (hine : ∀ a g, a < n → inner (nI a) (nI m) (S.1, setA S.2 j g) = some (.inr (.inl (nI (a + 1), ((S.1, setA S.2 j g) : MS))))) :
    ∃ g, itr (fun s : Int32 × MS => outer s.1 s.2) ((0 : Int32), S) = some ((S.1, setA S.2 j g) : MS) ∧ (∀ a b, a < n → b < m → g (ix a b) = V a b) ∧ ∀ q, (∀ a b, a < n → b < m → q ≠ ix a b) → g q = S.2 j q := by
  have key : ∃ t, itr (fun s : Int32 × MS => outer s.1 s.2) ((0 : Int32), S) = some t ∧ ∃ g, t = ((S.1, setA S.2 j g) : MS) ∧ (∀ a b, a < n → b < m → g (ix a b) = V a b) ∧ ∀ q, (∀ a b, a < n → b < m → q ≠ ix a b) → g q = S.2 j q := by
    refine itr_run n (fun a s => ∃ g, s = (nI a, ((S.1, setA S.2 j g) : MS)) ∧ (∀ a' b, a' < a → b < m → g (ix a' b) = V a' b) ∧ ∀ q, (∀ a b, a < n → b < m → q ≠ ix a b) → g q = S.2 j q) ⟨S.2 j, by rw [n0, setA_id], fun a' b h => by omega, fun q _ => rfl⟩ ?_ ?_
    · rintro a s ha ⟨g, rfl, h1, h2⟩
      left
      have inn : ∃ t, itr (fun s : Int32 × MS => inner (nI a) s.1 s.2) (nI 0, ((S.1, setA S.2 j g) : MS)) = some t ∧ ∃ g, t = .inl (nI (a + 1), ((S.1, setA S.2 j g) : MS)) ∧ (∀ a' b, a' < a + 1 → b < m → g (ix a' b) = V a' b) ∧ ∀ q, (∀ a b, a < n → b < m → q ≠ ix a b) → g q = S.2 j q := by
        refine itr_run m (fun b s => ∃ g, s = (nI b, ((S.1, setA S.2 j g) : MS)) ∧ (∀ a' b', (a' < a ∨ (a' = a ∧ b' < b)) → b' < m → g (ix a' b') = V a' b') ∧ ∀ q, (∀ a b, a < n → b < m → q ≠ ix a b) → g q = S.2 j q) ⟨g, rfl, fun a' b' h hb => h1 a' b' (by omega) hb, h2⟩ ?_ ?_
        · rintro b s hb ⟨g, rfl, k1, k2⟩
          left
          refine ⟨_, hin a b g ha hb, _, rfl, fun a' b' h hb' => ?_, fun q hq => ?_⟩
          · by_cases e : ix a' b' = ix a b
            · have := inj a b a' b' ha hb (by omega) hb' e
              rw [this.1, this.2, upd_s]
            · rw [upd_o e]
              refine k1 a' b' ?_ hb'
              by_cases z : a' = a ∧ b' = b
              · exact absurd (by rw [z.1, z.2]) e
              · omega
          · rw [upd_o (hq a b ha hb)]
            exact k2 q hq
        · rintro s ⟨g, rfl, k1, k2⟩
          exact ⟨_, hine a g ha, g, rfl, fun a' b' h hb' => k1 a' b' (by omega) hb', k2⟩
      obtain ⟨t, e, g', rfl, h3⟩ := inn
      dsimp only
      rw [hout a g ha, e]
      exact ⟨_, rfl, g', rfl, h3⟩
    · rintro s ⟨g, rfl, h1, h2⟩
      exact ⟨_, hend g, g, rfl, h1, h2⟩
  obtain ⟨t, e, g, rfl, h⟩ := key
  exact ⟨g, e, h⟩
theorem cell_inj (a b a' b' : Nat) (hb : b < 12) (hb' : b' < 12) (h : 12 * a' + b' = 12 * a + b) : a' = a ∧ b' = b := by omega
def mulM (n p : Nat) (A B : Nat → Nat → Nat) : Nat → Nat → Nat := fun r c => sm (fun k => A r k * B k c) n % p
theorem sm_bound {f : Nat → Nat} {K : Nat} : ∀ n, (∀ k, k < n → f k ≤ K) → sm f n ≤ n * K
  | 0, _ => Nat.zero_le _
  | n + 1, h => by
    have h1 := sm_bound n fun k hk => h k (by omega)
    have h2 := h n (by omega)
    rw [Nat.succ_mul]
    show sm f n + f n ≤ _
    omega
theorem mul_bound {n p : Nat} {A B : Nat → Nat → Nat} (hp : p < 1000) (hn : n ≤ 12) (hA : bdM A n n p) (hB : bdM B n n p) {r c : Nat} (hr : r < n) (hc : c < n) : sm (fun k => A r k * B k c) n < 16000000 := by
  have := sm_bound (f := fun k => A r k * B k c) (K := 1000000) n (fun k hk => by
    have := mul_lt_k hp (hA r k hr hk) (hB k c hk hc)
    show A r k * B k c ≤ 1000000
    omega)
  omega
theorem bd_mul {n p : Nat} {A B : Nat → Nat → Nat} (h0 : 0 < p) : bdM (mulM n p A B) n n p := fun _ _ _ _ => Nat.mod_lt _ h0
section
variable {S : MS} {n p : Nat}
theorem fr_n (Hn : S.2 1 1 = nI n) {I : Nat → Int32} {j : Nat} {g : Nat → Int32} (hj : j ≠ 1) : gFX10_n ((I, setA S.2 j g) : MS) = some (nI n) := by
  unfold gFX10_n
  rw [n1, mK_a1 (by omega), gx_bs, mp2, setA_o (Ne.symm hj), Hn]
theorem fr_p (Hp : S.2 1 0 = nI p) {I : Nat → Int32} {j : Nat} {g : Nat → Int32} (hj : j ≠ 1) : gFX10_p ((I, setA S.2 j g) : MS) = some (nI p) := g_p (by rw [mp2, setA_o (Ne.symm hj)]; exact Hp)
theorem m_mul (Hp : S.2 1 0 = nI p) (Hn : S.2 1 1 = nI n) (h0 : 0 < p) (hp : p < 1000) (hn : n ≤ 12) {j1 j2 j3 : Nat} (L1 : mK.2.2.2.1 j1 = 144) (L2 : mK.2.2.2.1 j2 = 144) (L3 : mK.2.2.2.1 j3 = 144) (hj : j3 ≠ 1) (d1 : j1 ≠ j3) (d2 : j2 ≠ j3) {A B : Nat → Nat → Nat} (TA : TL (S.2 j1) n n A) (TB : TL (S.2 j2) n n B) (hA : bdM A n n p) (hB : bdM B n n p) :
    ∃ g, gFX10_multiplies j1 j2 j3 S = some ((S.1, setA S.2 j3 g) : MS) ∧ TL g n n (mulM n p A B) := by
  unfold gFX10_multiplies
  obtain ⟨g, e, h1, -⟩ := grid (S := S) (j := j3) (n := n) (m := n) (ix := fun a b => 12 * a + b) (V := fun r c => nI (mulM n p A B r c)) (outer := fun l4 h => gLX10_multiplies_3 j1 j2 j3 l4 h) (inner := fun l4 l5 h => gLX10_multiplies_15 j1 j2 j3 l4 l5 h)
    (fun a b a' b' _ hb _ hb' e => cell_inj a b a' b' (by omega) (by omega) e)
    (fun a g ha => by
      show gLX10_multiplies_3 j1 j2 j3 (nI a) _ = _
      unfold gLX10_multiplies_3
      rw [fr_n Hn hj, gx_bs, if_neg (by rw [nI_leN (by omega) (by omega)]; omega), n0])
    (fun g => by
      show gLX10_multiplies_3 j1 j2 j3 (nI n) _ = _
      unfold gLX10_multiplies_3
      rw [fr_n Hn hj, gx_bs, if_pos (by rw [nI_leN (by omega) (by omega)]; omega)]
      rfl)
    (fun a b g ha hb => by
      show gLX10_multiplies_15 j1 j2 j3 (nI a) (nI b) _ = _
      have hbd := mul_bound hp hn hA hB ha hb
      unfold gLX10_multiplies_15
      rw [fr_n Hn hj, gx_bs, if_neg (by rw [nI_leN (by omega) (by omega)]; omega), n0]
      rw [itr_sum (f := fun k => A a k * B k b) (N := n) (out := fun c => .inl (nI (b + 1), ((S.1, setA S.2 j3 (upd g (12 * a + b) (nI c - nI c / nI p * nI p))) : MS))) ?_ ?_ 0]
      · rw [Nat.zero_add, pk_rem (by omega) h0 (by omega)]
        rfl
      · intro c k hk
        unfold gLX10_multiplies_30
        dsimp only
        rw [fr_n Hn hj, gx_bs, if_neg (by rw [nI_leN (by omega) (by omega)]; omega), m_cell, gx_bs, gal_ok (N := 144) L1 (by omega) (by omega), gx_bs, m_cell, gx_bs, gal_ok (N := 144) L2 (by omega) (by omega), gx_bs]
        simp only [mp2]
        rw [setA_o d1, setA_o d2, TA a k ha hk, TB k b hk hb, nI_mul, n1, nI_add, nI_add]
      · intro c
        unfold gLX10_multiplies_30
        dsimp only
        rw [fr_n Hn hj, gx_bs, if_pos (by rw [nI_leN (by omega) (by omega)]; omega), m_cell, gx_bs, fr_p Hp hj, gx_bs, if_neg (by rw [n0, nI_eqN (by omega) (by omega)]; omega), gas_ok (N := 144) L3 (by omega) (by omega), gx_bs]
        simp only [mp1, mp2, setA_s, setA_2]
        rw [n1, nI_add]
        rfl)
    (fun a g ha => by
      show gLX10_multiplies_15 j1 j2 j3 (nI a) (nI n) _ = _
      unfold gLX10_multiplies_15
      rw [fr_n Hn hj, gx_bs, if_pos (by rw [nI_leN (by omega) (by omega)]; omega), n1, nI_add]
      rfl)
  exact ⟨g, e, fun r c hr hc => h1 r c hr hc⟩
theorem n144 : (144 : Int32) = nI 144 := by decide +kernel
theorem m_copiesCells {j1 j2 : Nat} (L1 : mK.2.2.2.1 j1 = 144) (L2 : mK.2.2.2.1 j2 = 144) (hj : j1 ≠ j2) : ∃ g, gFX10_copiesCells j1 j2 S = some ((S.1, setA S.2 j2 g) : MS) ∧ ∀ q, q < 144 → g q = S.2 j1 q := by
  unfold gFX10_copiesCells
  have key : ∃ t, itr (fun s : Int32 × MS => gLX10_copiesCells_2 j1 j2 s.1 s.2) ((0 : Int32), S) = some t ∧ ∃ g, t = ((S.1, setA S.2 j2 g) : MS) ∧ ∀ q, q < 144 → g q = S.2 j1 q := by
    refine itr_run 144 (fun k s => ∃ g, s = (nI k, ((S.1, setA S.2 j2 g) : MS)) ∧ ∀ q, q < k → g q = S.2 j1 q) ⟨S.2 j2, by rw [n0, setA_id], fun q h => by omega⟩ ?_ ?_
    · rintro k s hk ⟨g, rfl, hg⟩
      left
      unfold gLX10_copiesCells_2
      dsimp only
      rw [if_neg (by rw [n144, nI_leN (by omega) (by omega)]; omega), gal_ok (N := 144) L1 hk (by omega), gx_bs, gas_ok (N := 144) L2 hk (by omega), gx_bs]
      simp only [mp1, mp2, setA_s, setA_2]
      rw [setA_o hj, n1, nI_add]
      refine ⟨_, rfl, _, rfl, fun q hq => ?_⟩
      by_cases h : q = k
      · rw [h, upd_s]
      · rw [upd_o h]; exact hg q (by omega)
    · rintro s ⟨g, rfl, hg⟩
      unfold gLX10_copiesCells_2
      dsimp only
      rw [if_pos (by rw [n144, nI_leN (by omega) (by omega)]; omega)]
      exact ⟨_, rfl, g, rfl, hg⟩
  obtain ⟨t, e, g, rfl, h⟩ := key
  exact ⟨g, e, h⟩
def oneM : Nat → Nat → Nat := fun r c => if r = c then 1 else 0
theorem m_laysOne {j : Nat} (L : mK.2.2.2.1 j = 144) : ∃ g, gFX10_laysOne j S = some ((S.1, setA S.2 j g) : MS) ∧ TL g 12 12 oneM := by
  unfold gFX10_laysOne
  have key : ∃ t, itr (fun s : Int32 × MS => gLX10_laysOne_2 j s.1 s.2) ((0 : Int32), S) = some t ∧ ∃ g, t = ((S.1, setA S.2 j g) : MS) ∧ TL g 12 12 oneM := by
    refine itr_run 144 (fun k s => ∃ g, s = (nI k, ((S.1, setA S.2 j g) : MS)) ∧ ∀ q, q < k → g q = nI (if q % 13 = 0 then 1 else 0)) ⟨S.2 j, by rw [n0, setA_id], fun q h => by omega⟩ ?_ ?_
    · rintro k s hk ⟨g, rfl, hg⟩
      left
      unfold gLX10_laysOne_2 gBX10_laysOne_23
      dsimp only
      rw [if_neg (by rw [n144, nI_leN (by omega) (by omega)]; omega), n13, pk_rem (by omega) (by omega) (by omega), n0, n1, gas_ok (N := 144) L hk (by omega), gas_ok (N := 144) L hk (by omega), gx_bs, gx_bs]
      simp only [mp1, mp2, setA_s, setA_2]
      rw [nI_add]
      by_cases h : k % 13 = 0
      · rw [if_pos (by rw [h])]
        refine ⟨_, rfl, _, rfl, fun q hq => ?_⟩
        by_cases h2 : q = k
        · rw [h2, upd_s, if_pos h]
        · rw [upd_o h2]; exact hg q (by omega)
      · rw [if_neg (by rw [nI_eqN (by omega) (by omega)]; exact h)]
        refine ⟨_, rfl, _, rfl, fun q hq => ?_⟩
        by_cases h2 : q = k
        · rw [h2, upd_s, if_neg h]
        · rw [upd_o h2]; exact hg q (by omega)
    · rintro s ⟨g, rfl, hg⟩
      unfold gLX10_laysOne_2
      dsimp only
      rw [if_pos (by rw [n144, nI_leN (by omega) (by omega)]; omega)]
      refine ⟨_, rfl, g, rfl, fun r c hr hc => ?_⟩
      rw [hg _ (by omega)]
      unfold oneM
      by_cases h : r = c
      · rw [if_pos h, if_pos (by omega)]
      · rw [if_neg h, if_neg (by omega)]
  obtain ⟨t, e, g, rfl, h⟩ := key
  exact ⟨g, e, h⟩
end
