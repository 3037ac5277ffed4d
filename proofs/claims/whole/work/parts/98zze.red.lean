/-! call: reduce -/
def nz (v : Nat → Nat) (k : Nat) : Nat := sm (fun q => if v q = 0 then 0 else 1) k
theorem nz_s {v : Nat → Nat} {k : Nat} : nz v (k + 1) = nz v k + (if v k = 0 then 0 else 1) := rfl
theorem nz_le {v : Nat → Nat} : ∀ k, nz v k ≤ k
  | 0 => Nat.le_refl _
  | k + 1 => by
    rw [nz_s]
    have := nz_le (v := v) k
    split <;> omega
theorem c_51 {h : jx_H} {a : Nat} {f : Nat → Int32} {v : Nat → Nat} (B : BB h a) (e : h.2 (a + 101) = some (ar 12 f)) (hf : ∀ k, k < 12 → f k = nI (v k) ∧ v k < 1000) : itr (fun s : Int32 × Int32 => LX9_reduce_51 a s.1 s.2 h) ((0 : Int32), (0 : Int32)) = some (nI (nz v 12), h) := by
  refine itr_val 12 (fun k s => s = (nI (nz v k), nI k)) (by rw [n0]; rfl) ?_ ?_
  · rintro k s hk rfl
    left
    obtain ⟨f1, f2⟩ := hf k hk
    have := nz_le (v := v) k
    unfold LX9_reduce_51 BX9_reduce_69
    dsimp only
    rw [n12, if_neg (by rw [nI_leN (by omega) (by omega)]; omega), B.g12, gx_bs, hal_ar e (by omega) (by omega), gx_bs, f1, n0, n1, nI_add, nI_add]
    by_cases z : v k = 0
    · rw [if_pos (by rw [z])]
      exact ⟨_, rfl, by rw [nz_s, if_pos z]; rfl⟩
    · rw [if_neg (by rw [nI_eqN (by omega) (by omega)]; exact z)]
      exact ⟨_, rfl, by rw [nz_s, if_neg z]⟩
  · rintro s rfl
    unfold LX9_reduce_51
    dsimp only
    rw [n12, if_pos (by rw [nI_leN (by omega) (by omega)]; omega)]
    rfl
theorem m_117 {S : MS} {v : Nat → Nat} (hf : ∀ k, k < 12 → S.2 19 k = nI (v k) ∧ v k < 1000) : ∃ f, itr (fun s : Int32 × Int32 × MS => gLX10_reduce_117 s.1 s.2.1 s.2.2) ((0 : Int32), (0 : Int32), S) = some (nI (nz v 12), ((S.1, setA S.2 18 f) : MS)) ∧ ∀ k, k < 12 → f k = nI (v k) := by
  have key : ∃ t, itr (fun s : Int32 × Int32 × MS => gLX10_reduce_117 s.1 s.2.1 s.2.2) ((0 : Int32), (0 : Int32), S) = some t ∧ ∃ f, t = (nI (nz v 12), ((S.1, setA S.2 18 f) : MS)) ∧ ∀ k, k < 12 → f k = nI (v k) := by
    refine itr_run 12 (fun k s => ∃ f, s = (nI (nz v k), nI k, ((S.1, setA S.2 18 f) : MS)) ∧ ∀ q, q < k → f q = nI (v q)) ⟨S.2 18, by rw [n0, setA_id]; rfl, fun q h => by omega⟩ ?_ ?_
    · rintro k s hk ⟨f, rfl, hf'⟩
      left
      obtain ⟨f1, f2⟩ := hf k hk
      have := nz_le (v := v) k
      have nx : ∀ q, q < k + 1 → upd f k (nI (v k)) q = nI (v q) := fun q hq => by
        by_cases e : q = k
        · rw [e, upd_s]
        · rw [upd_o e]; exact hf' q (by omega)
      unfold gLX10_reduce_117 gBX10_reduce_150
      dsimp only
      rw [n12, if_neg (by rw [nI_leN (by omega) (by omega)]; omega), mK_a19 (by omega), gx_bs, mK_s18 (by omega), gx_bs, mK_a19 (by omega), gx_bs]
      simp only [mp1, mp2, setA_s, setA_2, setA_o (show (19 : Nat) ≠ 18 by decide)]
      rw [f1, n0, n1, nI_add, nI_add, nI_add]
      by_cases z : v k = 0
      · rw [if_pos (by rw [z, nI_leN (by omega) (by omega)]; omega), Nat.add_zero]
        exact ⟨_, rfl, _, by rw [nz_s, if_pos z]; rfl, nx⟩
      · rw [if_neg (by rw [nI_leN (by omega) (by omega)]; omega)]
        exact ⟨_, rfl, _, by rw [nz_s, if_neg z], nx⟩
    · rintro s ⟨f, rfl, hf'⟩
      unfold gLX10_reduce_117
      dsimp only
      rw [n12, if_pos (by rw [nI_leN (by omega) (by omega)]; omega)]
      exact ⟨_, rfl, f, rfl, hf'⟩
  obtain ⟨t, t1, f, rfl, t2⟩ := key
  exact ⟨f, t1, t2⟩
theorem polV_0 {n p k : Nat} {X Y : Nat → Nat → Nat} : polV n p X Y (fun _ _ => 0) k = 0 := by
  unfold polV
  have e : sm (fun i => sm (fun j => (fun _ _ => 0 : Nat → Nat → Nat) i j * norV n p X Y i j k) 21) 21 = 0 := by
    refine (sm_congr 21 fun i _ => ?_).trans (sm_zero 21)
    refine (sm_congr 21 fun j _ => ?_).trans (sm_zero 21)
    exact Nat.zero_mul _
  rw [e, Nat.zero_mod]
/-- the sums go to zero -/
theorem m_red10 {S : MS} : ∃ f, itr (fun s : Int32 × MS => gLX10_reduce_10 s.1 s.2) ((0 : Int32), S) = itr (fun s : Int32 × MS => gLX10_reduce_31 s.1 s.2) ((1 : Int32), ((S.1, setA S.2 19 f) : MS)) ∧ ∀ k, k < 12 → f k = nI 0 := by
  have key : ∀ n k, k + n = 12 → ∀ f : Nat → Int32, (∀ q, q < k → f q = nI 0) → ∃ f', itr (fun s : Int32 × MS => gLX10_reduce_10 s.1 s.2) (nI k, ((S.1, setA S.2 19 f) : MS)) = itr (fun s : Int32 × MS => gLX10_reduce_31 s.1 s.2) ((1 : Int32), ((S.1, setA S.2 19 f') : MS)) ∧ ∀ k, k < 12 → f' k = nI 0 := by
    intro n
    induction n with
    | zero =>
      intro k hk f hf
      obtain rfl : k = 12 := by omega
      refine ⟨f, itr_exL ?_, hf⟩
      unfold gLX10_reduce_10
      dsimp only
      rw [n12, if_pos (by rw [nI_leN (by omega) (by omega)]; omega)]
    | succ n ih =>
      intro k hk f hf
      obtain ⟨f', i1, i2⟩ := ih (k + 1) (by omega) (upd f k (nI 0)) fun q hq => by
        by_cases e : q = k
        · rw [e, upd_s]
        · rw [upd_o e]; exact hf q (by omega)
      refine ⟨f', ?_, i2⟩
      rw [← i1]
      refine itr_inl ?_
      unfold gLX10_reduce_10
      dsimp only
      rw [n12, if_neg (by rw [nI_leN (by omega) (by omega)]; omega), n0, mK_s19 (by omega), gx_bs, n1, nI_add]
      simp only [mp1, mp2, setA_s, setA_2]
  obtain ⟨f', i1, i2⟩ := key 12 0 rfl (S.2 19) (fun q hq => by omega)
  rw [setA_id] at i1
  exact ⟨f', by rw [n0]; exact i1, i2⟩
