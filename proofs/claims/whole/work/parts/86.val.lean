/-! powers of a point and values of rules, of both sides -/
def VA (g : Nat → Int32) (a p : Nat) : Prop := ∀ k, k < 13 → g k = nI (a ^ k % p)
theorem pw_step {a p k : Nat} : a ^ k % p * a % p = a ^ (k + 1) % p := by rw [Nat.pow_succ, Nat.mod_mul_mod]
section
variable {S : MS} {p a b : Nat}
theorem m_laysPowers (Hp : S.2 1 0 = nI p) (hp2 : 2 ≤ p) (hp : p < 1000) (ha : a < p) (hb : b < p) : ∃ T, gFX10_laysPowers (nI a) (nI b) S = some T ∧ only S T (fun j => j = 20 ∨ j = 21) ∧ VA (T.2 20) a p ∧ VA (T.2 21) b p := by
  unfold gFX10_laysPowers
  rw [n0, n1, mK_s20 (by omega), gx_bs, mK_s21 (by omega), gx_bs]
  refine itr_run 12 (fun k s => ∃ f g, s = (nI (k + 1), ((S.1, setA (setA S.2 20 f) 21 g) : MS)) ∧ (∀ q, q < k + 1 → f q = nI (a ^ q % p)) ∧ ∀ q, q < k + 1 → g q = nI (b ^ q % p)) ?_ ?_ ?_
  · refine ⟨upd (S.2 20) 0 (nI 1), upd (S.2 21) 0 (nI 1), ?_, fun q hq => ?_, fun q hq => ?_⟩
    · simp (disch := decide) only [mp1, mp2, setA_o]
    · rw [show q = 0 by omega, upd_s, Nat.pow_zero, Nat.mod_eq_of_lt (show 1 < p by omega)]
    · rw [show q = 0 by omega, upd_s, Nat.pow_zero, Nat.mod_eq_of_lt (show 1 < p by omega)]
  · rintro k s hk ⟨f, g, rfl, h1, h2⟩
    left
    have c78 : ∀ {A : Nat → Nat → Int32} {u v w : Nat → Int32}, setA (setA (setA A 20 u) 21 v) 20 w = setA (setA A 20 w) 21 v := by
      intro A u v w
      funext q
      unfold setA
      by_cases z : q = 20
      · subst z; rfl
      · rw [if_neg z, if_neg z]
        by_cases z2 : q = 21
        · rw [if_pos z2, if_pos z2]
        · rw [if_neg z2, if_neg z2, if_neg z]
    have q1 := Nat.mod_lt (a ^ k) (show 0 < p by omega)
    have q2 := Nat.mod_lt (b ^ k) (show 0 < p by omega)
    have m1' := mul_lt_k hp q1 ha
    have m2' := mul_lt_k hp q2 hb
    have pp : ∀ (f g : Nat → Int32), gFX10_p ((S.1, setA (setA S.2 20 f) 21 g) : MS) = some (nI p) := fun f g => g_p (by rw [mp2, setA_o (by decide), setA_o (by decide)]; exact Hp)
    unfold gLX10_laysPowers_16
    dsimp only
    rw [if_neg (by rw [n13, nI_leN (by omega) (by omega)]; omega), n1, nI_sub (by omega), Nat.add_sub_cancel, mK_a20 (by omega), gx_bs, pp, gx_bs, if_neg (by rw [n0, nI_eqN (by omega) (by omega)]; omega)]
    simp (disch := decide) only [mp1, mp2, setA_s, setA_o]
    rw [h1 k (by omega), nI_mul, pk_rem (by omega) (by omega) (by omega), mK_s20 (by omega), gx_bs]
    simp only [mp1, mp2]
    rw [c78, mK_a21 (by omega), gx_bs, pp, gx_bs, if_neg (by rw [n0, nI_eqN (by omega) (by omega)]; omega)]
    simp (disch := decide) only [mp1, mp2, setA_s, setA_o]
    rw [h2 k (by omega), nI_mul, pk_rem (by omega) (by omega) (by omega), mK_s21 (by omega), gx_bs]
    simp only [mp1, mp2, setA_s, setA_2]
    rw [nI_add, pw_step, pw_step]
    refine ⟨_, rfl, _, _, rfl, fun q hq => ?_, fun q hq => ?_⟩
    · by_cases hz : q = k + 1
      · rw [hz, upd_s]
      · rw [upd_o hz]; exact h1 q (by omega)
    · by_cases hz : q = k + 1
      · rw [hz, upd_s]
      · rw [upd_o hz]; exact h2 q (by omega)
  · rintro s ⟨f, g, rfl, h1, h2⟩
    unfold gLX10_laysPowers_16
    dsimp only
    rw [if_pos (by rw [n13, nI_leN (by omega) (by omega)]; omega)]
    refine ⟨_, rfl, ⟨rfl, fun j hj => ?_⟩, ?_, ?_⟩
    · rw [mp2, setA_o (fun z => hj (Or.inr z)), setA_o (fun z => hj (Or.inl z))]
    · rw [mp2, setA_o (by decide), setA_s]; exact fun q hq => h1 q (by omega)
    · rw [mp2, setA_s]; exact fun q hq => h2 q (by omega)
theorem s_moveTo (hp2 : 2 ≤ p) (hp : p < 1000) (ha : a < p) (hb : b < p) : ∃ T, gFX4_moveTo (nI a) (nI b) (nI p) S = some T ∧ T.1 2 = nI p ∧ VA (T.2 1) a p ∧ VA (T.2 2) b p := by
  unfold gFX4_moveTo
  rw [n0, n1, gx_bs, pK_s1 (by omega), gx_bs, pK_s2 (by omega), gx_bs]
  refine itr_run 12 (fun k s => ∃ f g, s = (nI (k + 1), ((upd S.1 2 (nI p), setA (setA S.2 1 f) 2 g) : MS)) ∧ (∀ q, q < k + 1 → f q = nI (a ^ q % p)) ∧ ∀ q, q < k + 1 → g q = nI (b ^ q % p)) ?_ ?_ ?_
  · refine ⟨upd (S.2 1) 0 (nI 1), upd (S.2 2) 0 (nI 1), ?_, fun q hq => ?_, fun q hq => ?_⟩
    · simp (disch := decide) only [mp1, mp2, gpi_1, gpi_2, setA_o]
    · rw [show q = 0 by omega, upd_s, Nat.pow_zero, Nat.mod_eq_of_lt (show 1 < p by omega)]
    · rw [show q = 0 by omega, upd_s, Nat.pow_zero, Nat.mod_eq_of_lt (show 1 < p by omega)]
  · rintro k s hk ⟨f, g, rfl, h1, h2⟩
    left
    have c78 : ∀ {A : Nat → Nat → Int32} {u v w : Nat → Int32}, setA (setA (setA A 1 u) 2 v) 1 w = setA (setA A 1 w) 2 v := by
      intro A u v w
      funext q
      unfold setA
      by_cases z : q = 1
      · subst z; rfl
      · rw [if_neg z, if_neg z]
        by_cases z2 : q = 2
        · rw [if_pos z2, if_pos z2]
        · rw [if_neg z2, if_neg z2, if_neg z]
    have q1 := Nat.mod_lt (a ^ k) (show 0 < p by omega)
    have q2 := Nat.mod_lt (b ^ k) (show 0 < p by omega)
    have m1' := mul_lt_k hp q1 ha
    have m2' := mul_lt_k hp q2 hb
    unfold gLX4_moveTo_22
    dsimp only
    rw [if_neg (by rw [n12, nI_ltN (by omega) (by omega)]; omega), n1, nI_sub (by omega), Nat.add_sub_cancel, pK_a1 (by omega), gx_bs, upd_s, gx_bs]
    simp (disch := decide) only [mp1, mp2, setA_s, setA_o]
    rw [h1 k (by omega), nI_mul, p_resN (by omega) (by omega) (by omega), gx_bs, pK_s1 (by omega), gx_bs]
    simp only [mp1, mp2]
    rw [c78, pK_a2 (by omega), gx_bs, upd_s, gx_bs]
    simp (disch := decide) only [mp1, mp2, setA_s, setA_o]
    rw [h2 k (by omega), nI_mul, p_resN (by omega) (by omega) (by omega), gx_bs, pK_s2 (by omega), gx_bs]
    simp only [mp1, mp2, setA_s, setA_2]
    rw [nI_add, pw_step, pw_step]
    refine ⟨_, rfl, _, _, rfl, fun q hq => ?_, fun q hq => ?_⟩
    · by_cases hz : q = k + 1
      · rw [hz, upd_s]
      · rw [upd_o hz]; exact h1 q (by omega)
    · by_cases hz : q = k + 1
      · rw [hz, upd_s]
      · rw [upd_o hz]; exact h2 q (by omega)
  · rintro s ⟨f, g, rfl, h1, h2⟩
    unfold gLX4_moveTo_22
    dsimp only
    rw [if_pos (by rw [n12, nI_ltN (by omega) (by omega)]; omega)]
    refine ⟨_, rfl, ?_, ?_, ?_⟩
    · rw [mp1, upd_s]
    · rw [mp2, setA_o (by decide), setA_s]; exact fun q hq => h1 q (by omega)
    · rw [mp2, setA_s]; exact fun q hq => h2 q (by omega)
end
/-- the value of a monomial at a point; the sum of a rule's terms; the value of a rule -/
def mvN (p a b i j : Nat) : Nat := a ^ i % p * (b ^ j % p) % p
def rsN (ht : Nat → Nat) (r : Nat → Nat → Nat) (p a b e k : Nat) : Nat := r e k * mvN p a b (mx (Lm ht) k) (my (Lm ht) k)
def rvN (ht : Nat → Nat) (r : Nat → Nat → Nat) (p a b e : Nat) : Nat := rsd (((a ^ (mx (Lb ht) e) % p * (b ^ (my (Lb ht) e) % p) : Nat) : Int) - (sm (rsN ht r p a b e) (Lm ht).length : Nat)) p
theorem rs_bound {ht : Nat → Nat} {r : Nat → Nat → Nat} {p a b e : Nat} (w : wfh ht) (hp : p < 1000) (h0 : 0 < p) (hr : ∀ b k, b < (Lb ht).length → k < (Lm ht).length → r b k < p) (he : e < (Lb ht).length) : ∀ k, k < (Lm ht).length → rsN ht r p a b e k < 1000000 := fun k hk => mul_lt_k hp (hr e k he hk) (Nat.mod_lt _ h0)
theorem sm_mono {f : Nat → Nat} {k n : Nat} (h : k ≤ n) : sm f k ≤ sm f n := sm_le f h
theorem m_valueOf {S : MS} {p : Nat} {ht : Nat → Nat} {r : Nat → Nat → Nat} {pts : List (Nat × Nat)} (H : RC (S.2 1) p ht r pts) (w : wfh ht) (hp2 : 2 ≤ p) (hp : p < 1000) (hr : ∀ b k, b < (Lb ht).length → k < (Lm ht).length → r b k < p) {a b e : Nat} (hA : VA (S.2 20) a p) (hB : VA (S.2 21) b p) (he : e < (Lb ht).length) : gFX10_valueOf (nI e) S = some (nI (rvN ht r p a b e)) := by
  have l := Lm_len w
  have hbd := Lb_at w he
  have e1 := H.2.2.1.2 e he
  have q1 := Nat.mod_lt (a ^ mx (Lb ht) e) (show 0 < p by omega)
  have q2 := Nat.mod_lt (b ^ my (Lb ht) e) (show 0 < p by omega)
  have m1' := mul_lt_k hp q1 q2
  have rb := rs_bound (a := a) (b := b) w hp (by omega) hr he
  have sb : sm (rsN ht r p a b e) (Lm ht).length ≤ (Lm ht).length * 1000000 := sm_bound _ fun k hk => by have := rb k hk; omega
  have pp : gFX10_p S = some (nI p) := g_p H.1
  unfold gFX10_valueOf
  rw [n28, n42, nI_add, nI_add, mK_a1 (by omega), gx_bs, e1.1, mK_a20 (by omega), gx_bs, mK_a1 (by omega), gx_bs, e1.2, mK_a21 (by omega), gx_bs, hA _ (by omega), hB _ (by omega), nI_mul, n0]
  refine itr_val (Lm ht).length (fun k s => ∃ v, s = (v, nI k) ∧ v.toInt = ((a ^ (mx (Lb ht) e) % p * (b ^ (my (Lb ht) e) % p) : Nat) : Int) - (sm (rsN ht r p a b e) k : Nat)) ⟨_, rfl, by rw [nI_toInt (by omega)]; show _ = _ - ((0 : Nat) : Int); omega⟩ ?_ ?_
  · rintro k s hk ⟨v, rfl, hv⟩
    left
    have km := Lm_at w hk
    have e2 := H.2.1.2 k hk
    have er := H.2.2.2.2.1 e k he hk
    have rk := rb k hk
    have rlt := hr e k he hk
    have sk := sm_mono (f := rsN ht r p a b e) (show k + 1 ≤ (Lm ht).length by omega)
    have sk' : sm (rsN ht r p a b e) (k + 1) = sm (rsN ht r p a b e) k + rsN ht r p a b e k := rfl
    have u1 := Nat.mod_lt (a ^ mx (Lm ht) k) (show 0 < p by omega)
    have u2 := Nat.mod_lt (b ^ my (Lm ht) k) (show 0 < p by omega)
    have m3 := mul_lt_k hp u1 u2
    unfold gLX10_valueOf_32 gBX10_valueOf_98 gFX10_ruleAt
    rw [g_n H.2.1, gx_bs, if_neg (by rw [nI_leN (by omega) (by omega)]; omega), n56, n12, nI_mul, nI_add, nI_add, gx_bs, mK_a1 (by omega), gx_bs, Nat.add_assoc, er, n0, n1, nI_add]
    by_cases h0 : r e k = 0
    · rw [if_pos (by rw [h0])]
      refine ⟨_, rfl, _, rfl, ?_⟩
      have : rsN ht r p a b e k = 0 := by unfold rsN; rw [h0, Nat.zero_mul]
      rw [sk', this, Nat.add_zero, Int32.toInt_sub, hv, show (nI 0).toInt = 0 from nI_toInt (by decide)]
      rw [Int.sub_zero]
      exact bm_id (by omega) (by omega)
    · rw [if_neg (by rw [nI_eqN (by omega) (by omega)]; exact h0), n4, n16, nI_add, nI_add, mK_a1 (by omega), gx_bs, e2.1, mK_a20 (by omega), gx_bs, mK_a1 (by omega), gx_bs, e2.2, mK_a21 (by omega), gx_bs, pp, gx_bs, if_neg (by rw [nI_eqN (by omega) (by omega)]; omega), hA _ (by omega), hB _ (by omega), nI_mul, pk_rem (by omega) (by omega) (by omega), nI_mul]
      refine ⟨_, rfl, _, rfl, ?_⟩
      have e3 : r e k * (a ^ mx (Lm ht) k % p * (b ^ my (Lm ht) k % p) % p) = rsN ht r p a b e k := rfl
      rw [e3, Int32.toInt_sub, hv, nI_toInt (by omega), sk']
      refine Eq.trans (bm_id (by omega) (by omega)) ?_
      omega
  · rintro s ⟨v, rfl, hv⟩
    have hm : gFX10_mod v S = some (nI (rvN ht r p a b e)) := m_mod H.1 hv (by omega) (by omega) (by omega)
    unfold gLX10_valueOf_32
    rw [g_n H.2.1, gx_bs, if_pos (by rw [nI_leN (by omega) (by omega)]; omega), hm, gx_bs]
    rfl
