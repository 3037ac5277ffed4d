/-! the class: isRoot -/
theorem z1213 : SZ 12 13 := ⟨by omega, by omega, by omega⟩
theorem h_isRoot {h : jx_H} {t st n p : Nat} {kn df cc cr : Int32} {S : MS} {A : Nat → Nat → Nat} {a d : Nat} (T : TO h t st kn df cc cr) (HS : bH sK h st S) (hP : S.1 0 = nI p) (M : HM h (t + 25) 12 13 n (n + 1) A) (hA : bdM A n (n + 1) p) (hp2 : 2 ≤ p) (hp : p < 1000) (ha : a < p) (hd : d ≤ n) (hn : n ≤ 12) : FX6_isRoot t (nI a) (nI d) h = some (bI (decide (a ^ d % p = sm (fun k => A k d * a ^ k) d % p))) := by
  have g0 : hgi h st 5 0 = some (nI p) := by rw [← hP]; exact hgi_ob HS.1 rfl
  have r9 : hgr h t 6 9 = some (t + 25) := hgr_ob T rfl
  have r0 : hgr h t 6 0 = some st := hgr_ob T rfl
  have fin : ∀ s, s < p → (s + horT (fun k => A k d) a d d) % p = a ^ d % p → LX6_isRoot_7 t (nI a) (nI d) (nI s) m1 h = some (.inr (bI (decide (a ^ d % p = sm (fun k => A k d * a ^ k) d % p)))) := by
    intro s hs e
    rw [horT_all] at e
    unfold LX6_isRoot_7
    rw [n0, if_pos (by rw [m1_neg]; trivial), n1]
    by_cases h0 : s = 0
    · rw [if_pos (by rw [h0])]
      rw [h0, Nat.zero_add] at e
      rw [decide_eq_true e.symm]
      rfl
    · rw [if_neg (by rw [nI_eqN (by omega) (by omega)]; exact h0), decide_eq_false ?_]
      · rfl
      · intro z
        rw [z] at e
        have h1 : (s + sm (fun k => A k d * a ^ k) d) % p = (0 + sm (fun k => A k d * a ^ k) d) % p := by rw [Nat.zero_add]; exact e
        have h2 := Nat.div_add_mod (s + sm (fun k => A k d * a ^ k) d) p
        have h3 := Nat.div_add_mod (sm (fun k => A k d * a ^ k) d) p
        have h4 : (s + sm (fun k => A k d * a ^ k) d - sm (fun k => A k d * a ^ k) d) % p = 0 := by
          rw [Nat.zero_add] at h1
          exact Nat.sub_mod_eq_zero_of_mod_eq h1
        rw [Nat.add_sub_cancel, Nat.mod_eq_of_lt hs] at h4
        exact h0 h4
  unfold FX6_isRoot
  rw [n1]
  have start : nI d - nI 1 = if d = 0 then m1 else nI (d - 1) := by
    by_cases h : d = 0
    · rw [if_pos h, h, nI_0m1]
    · rw [if_neg h, nI_sub (by omega)]
  rw [start]
  refine itr_val d (fun j s => ∃ v, s = (nI v, if j = d then m1 else nI (d - 1 - j)) ∧ v < p ∧ (v + horT (fun k => A k d) a d j) % p = a ^ j % p) ⟨1, ?_, by omega, ?_⟩ ?_ ?_
  · by_cases h : d = 0
    · rw [if_pos h, if_pos h.symm]
    · rw [if_neg h, if_neg (fun z => h z.symm), Nat.sub_zero]
  · show (1 + 0) % p = a ^ 0 % p
    rw [Nat.pow_zero]
  · rintro j s hj ⟨v, rfl, hv, e⟩
    left
    have hk := hA (d - 1 - j) d (by omega) (by omega)
    have hm := mul_lt_k hp hv ha
    have hz : (nI (v * a) - nI (A (d - 1 - j) d)).toInt = ((v * a : Nat) : Int) - (A (d - 1 - j) d : Nat) := pk_sub_toInt (by omega) (by omega)
    unfold LX6_isRoot_7
    dsimp only
    rw [if_neg (show ¬ j = d by omega), n0, if_neg (by rw [nI_lt0 (by omega)]; exact id), r9, gx_bs, M.ob, gx_bs, M.at z1213 (by omega) (by omega), gx_bs, r0, gx_bs, g0, gx_bs, nI_mul, q_residue, p_res hz (by omega) (by omega) (by omega), gx_bs]
    refine ⟨_, rfl, rsd (((v * a : Nat) : Int) - (A (d - 1 - j) d : Nat)) p, ?_, rsd_lt (by omega), ?_⟩
    · have e2 : nI (d - 1 - j) + (-1 : Int32) = if j + 1 = d then m1 else nI (d - 1 - (j + 1)) := by
        by_cases h : j + 1 = d
        · rw [if_pos h, show d - 1 - j = 0 by omega]
          decide +kernel
        · rw [if_neg h]
          obtain ⟨q, hq⟩ : ∃ q, d - 1 - j = q + 1 := ⟨d - 1 - j - 1, by omega⟩
          rw [hq, show d - 1 - (j + 1) = q by omega]
          exact pk_m1 q
      rw [e2]
    · have := hor_step (K := A (d - 1 - j) d) (a := a) (show 0 < p by omega) e
      rw [Nat.pow_succ, Nat.mul_comm (a ^ j)]
      exact this
  · rintro s ⟨v, rfl, hv, e⟩
    dsimp only
    rw [if_pos rfl]
    exact fin v hv e
