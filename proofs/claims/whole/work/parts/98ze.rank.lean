/-! the reference: the rank of some rows -/
section
variable {S : MS} {p : Nat}
theorem m_rElim {R n q c b : Nat} {g0 : Nat → Int32} {A : Nat → Nat → Nat} (Hp : S.2 1 0 = nI p) (hp2 : 2 ≤ p) (hp : p < 1000) (hn : n ≤ 12) (hR : R ≤ 24) (hT : TL g0 R n A) (hA : bdM A R n p) (hq : q < R) (hc : c < n) (hb : b < p) :
    ∃ g, itr (fun s : Int32 × MS => gLX10_rankOf_79 (nI R) (nI n) (nI q) (nI c) (nI b) s.1 s.2) (nI (q + 1), ((S.1, setA S.2 15 g0) : MS)) = some (.inl (nI (q + 1), nI (c + 1), ((S.1, setA S.2 15 g) : MS))) ∧ TL g R n (elimM A q c b p) := by
  have key : ∃ t, itr (fun s : Int32 × MS => gLX10_rankOf_79 (nI R) (nI n) (nI q) (nI c) (nI b) s.1 s.2) (nI (q + 1), ((S.1, setA S.2 15 g0) : MS)) = some t ∧ ∃ g, t = .inl (nI (q + 1), nI (c + 1), ((S.1, setA S.2 15 g) : MS)) ∧ TL g R n (elimM A q c b p) := by
    refine itr_run (R - (q + 1)) (fun k s => ∃ g, s = (nI (q + 1 + k), ((S.1, setA S.2 15 g) : MS)) ∧ ∀ r c', r < R → c' < n → g (12 * r + c') = nI (if r < q + 1 + k then elimM A q c b p r c' else A r c')) ?_ ?_ ?_
    · refine ⟨g0, rfl, fun r c' hr hc' => ?_⟩
      rw [hT r c' hr hc']
      by_cases h : r < q + 1 + 0
      · rw [if_pos h]
        unfold elimM
        rw [if_neg (by omega)]
      · rw [if_neg h]
    · rintro k s hk ⟨g, rfl, hg⟩
      left
      generalize hx : q + 1 + k = x at *
      have hxR : x < R := by omega
      have g1 := hg x c hxR hc
      rw [if_neg (by omega)] at g1
      have hb1 := mul_lt_k hp (hA x c hxR hc) hb
      have ht : A x c * b % p < p := Nat.mod_lt _ (by omega)
      have hp' : gFX10_p ((S.1, setA S.2 15 g) : MS) = some (nI p) := g_p (by rw [mp2, setA_o (by decide)]; exact Hp)
      unfold gLX10_rankOf_79
      dsimp only
      rw [if_neg (by rw [nI_leN (by omega) (by omega)]; omega), m_cell, gx_bs, mK_a15 (by omega), gx_bs]
      simp only [mp2, setA_s]
      rw [g1, hp', gx_bs, if_neg (by rw [n0, nI_eqN (by omega) (by omega)]; omega), nI_mul, pk_rem (by omega) (by omega) (by omega)]
      have inner : ∃ t, itr (fun s : Int32 × MS => gLX10_rankOf_111 (nI R) (nI n) (nI q) (nI c) (nI b) (nI x) (nI (A x c * b % p)) s.1 s.2) (nI c, ((S.1, setA S.2 15 g) : MS)) = some t ∧ ∃ g', t = .inl (nI (x + 1), ((S.1, setA S.2 15 g') : MS)) ∧ ∀ r c', r < R → c' < n → g' (12 * r + c') = nI (if r < x + 1 then elimM A q c b p r c' else A r c') := by
        refine itr_run (n - c) (fun k2 s => ∃ g', s = (nI (c + k2), ((S.1, setA S.2 15 g') : MS)) ∧ ∀ r c', r < R → c' < n → g' (12 * r + c') = nI (if r < x ∨ (r = x ∧ c' < c + k2) then elimM A q c b p r c' else A r c')) ?_ ?_ ?_
        · refine ⟨g, rfl, fun r c' hr hc' => ?_⟩
          rw [hg r c' hr hc']
          congr 1
          by_cases h : r < x
          · rw [if_pos h, if_pos (Or.inl h)]
          · rw [if_neg h]
            by_cases h2 : r = x ∧ c' < c + 0
            · rw [if_pos (Or.inr h2)]
              unfold elimM
              rw [if_neg (by omega)]
            · rw [if_neg (by omega)]
        · rintro k2 s hk2 ⟨g', rfl, hg'⟩
          left
          generalize hy : c + k2 = y at *
          have hyn : y < n := by omega
          have j1 := hg' x y hxR hyn
          have j2 := hg' q y hq hyn
          rw [if_neg (by omega)] at j1
          have eqq : elimM A q c b p q y = A q y := by
            unfold elimM
            rw [if_neg (by omega)]
          rw [if_pos (by omega), eqq] at j2
          have hb2 := mul_lt_k hp ht (hA q y hq hyn)
          have hb3 := hA x y hxR hyn
          have hzz : (nI (A x y) - nI (A x c * b % p * A q y)).toInt = (A x y : Int) - (A x c * b % p * A q y : Nat) := pk_sub_toInt (by omega) (by omega)
          have hm : gFX10_mod (nI (A x y) - nI (A x c * b % p * A q y)) ((S.1, setA S.2 15 g') : MS) = some (nI (rsd ((A x y : Int) - (A x c * b % p * A q y : Nat)) p)) := m_mod (by rw [mp2, setA_o (by decide)]; exact Hp) hzz (by omega) (by omega) (by omega)
          unfold gLX10_rankOf_111
          dsimp only
          rw [if_neg (by rw [nI_leN (by omega) (by omega)]; omega), m_cell, gx_bs, gx_bs, mK_a15 (by omega), gx_bs, m_cell, gx_bs, mK_a15 (by omega), gx_bs]
          simp only [mp2, setA_s]
          rw [j1, j2, nI_mul, hm, gx_bs, mK_s15 (by omega), gx_bs]
          simp only [mp1, mp2, setA_s, setA_2]
          rw [n1, nI_add]
          rw [show c + (k2 + 1) = y + 1 by omega]
          refine ⟨_, rfl, _, rfl, fun r c' hr hc' => ?_⟩
          by_cases h : r = x ∧ c' = y
          · rw [h.1, h.2, upd_s, if_pos (by omega)]
            unfold elimM
            by_cases hz : 0 < A x c * b % p
            · rw [if_pos ⟨by omega, by omega, hz⟩]
            · rw [if_neg (by omega), show A x c * b % p = 0 by omega, Nat.zero_mul, rsd_sub0 hb3 (Nat.zero_mod p)]
          · rw [upd_o (by omega), hg' r c' hr hc']
            congr 1
            by_cases h2 : r < x ∨ (r = x ∧ c' < y)
            · rw [if_pos h2, if_pos (by omega)]
            · rw [if_neg h2, if_neg (by omega)]
        · rintro s ⟨g', rfl, hg'⟩
          unfold gLX10_rankOf_111
          dsimp only
          rw [if_pos (by rw [nI_leN (by omega) (by omega)]; omega), n1, nI_add]
          refine ⟨_, rfl, g', rfl, fun r c' hr hc' => ?_⟩
          rw [hg' r c' hr hc']
          congr 1
          by_cases h : r < x + 1
          · rw [if_pos h, if_pos (by omega)]
          · rw [if_neg h, if_neg (by omega)]
      obtain ⟨t, e, g', rfl, hg2⟩ := inner
      rw [show q + 1 + (k + 1) = x + 1 by omega]
      exact ⟨_, e, g', rfl, hg2⟩
    · rintro s ⟨g, rfl, hg⟩
      unfold gLX10_rankOf_79 gBX10_rankOf_175
      dsimp only
      rw [if_pos (by rw [nI_leN (by omega) (by omega)]; omega), n1, nI_add, nI_add]
      refine ⟨_, rfl, g, rfl, fun r c' hr hc' => ?_⟩
      rw [hg r c' hr hc', if_pos (by omega)]
  obtain ⟨t, e, g, rfl, h⟩ := key
  exact ⟨g, e, h⟩
/-- the rank does not depend on the determinant that goes along -/
theorem redG_d {p R : Nat} : ∀ {n rk col d d' : Nat} {A : Nat → Nat → Nat}, (redG p R n rk col d A).1 = (redG p R n rk col d' A).1
  | 0, _, _, _, _, _ => rfl
  | n + 1, rk, col, d, d', A => by
    unfold redG
    cases pivF A col (R - rk) rk with
    | none => rfl
    | some f => exact redG_d
theorem m_rankOf {R n : Nat} {A : Nat → Nat → Nat} (Hp : S.2 1 0 = nI p) (hp2 : 2 ≤ p) (hp : p < 1000) (hn : n ≤ 12) (hR : R ≤ 24) (hT : TL (S.2 15) R n A) (hA : bdM A R n p) :
    ∃ g, gFX10_rankOf (nI R) (nI n) S = some (nI (redG p R n 0 0 1 A).1, ((S.1, setA S.2 15 g) : MS)) := by
  unfold gFX10_rankOf
  rw [n0]
  generalize hF : (redG p R n 0 0 1 A).1 = F
  have key : ∃ t, itr (fun s : Int32 × Int32 × MS => gLX10_rankOf_5 (nI R) (nI n) s.1 s.2.1 s.2.2) (nI 0, nI 0, S) = some t ∧ ∃ g, t = (nI F, ((S.1, setA S.2 15 g) : MS)) := by
    refine itr_run n (fun k s => ∃ rk B g, s = (nI rk, nI k, ((S.1, setA S.2 15 g) : MS)) ∧ TL g R n B ∧ bdM B R n p ∧ rk ≤ R ∧ (redG p R (n - k) rk k 1 B).1 = F) ⟨0, A, S.2 15, ?_, hT, hA, by omega, hF⟩ ?_ ?_
    · rw [setA_id]
    · rintro k s hk ⟨rk, B, g, rfl, hg, hB, hrk, hred⟩
      left
      obtain ⟨m, hm⟩ : ∃ m, n - k = m + 1 := ⟨n - k - 1, by omega⟩
      have hm' : n - (k + 1) = m := by omega
      rw [hm] at hred
      unfold redG at hred
      have all : ∃ w, gBX10_rankOf_41 (nI R) (nI n) (nI rk) (nI k) (nI (match pivF B k (R - rk) rk with | some f => f | none => R)) ((S.1, setA S.2 15 g) : MS) = some (.inl w) ∧ ∃ rk B g, w = (nI rk, nI (k + 1), ((S.1, setA S.2 15 g) : MS)) ∧ TL g R n B ∧ bdM B R n p ∧ rk ≤ R ∧ (redG p R (n - (k + 1)) rk (k + 1) 1 B).1 = F := by
        rw [hm']
        cases hf : pivF B k (R - rk) rk with
        | none =>
          rw [hf] at hred
          dsimp only at hred ⊢
          unfold gBX10_rankOf_41 gBX10_rankOf_175
          rw [if_pos rfl, n1, nI_add]
          exact ⟨_, rfl, rk, B, g, rfl, hg, hB, hrk, (redG_d (d := 1) (d' := 0)).trans hred⟩
        | some f =>
          rw [hf] at hred
          dsimp only at hred ⊢
          have pf := pivF_some hf
          have hfR : f < R := by omega
          obtain ⟨g1, e1, e2⟩ := m_swap (S := ((S.1, setA S.2 15 g) : MS)) (i := f) (j := rk) (by omega) (by omega)
          rw [mp1, mp2, setA_2] at e1
          simp only [mp2, setA_s] at e2
          have hT1 : TL g1 R n (swapM B f rk) := by
            intro r c hr hc
            rw [e2 r c (by omega) (by omega)]
            unfold swapM
            by_cases q1 : r = f
            · rw [if_pos q1, if_pos q1]; exact hg rk c (by omega) hc
            · rw [if_neg q1, if_neg q1]
              by_cases q2 : r = rk
              · rw [if_pos q2, if_pos q2]; exact hg f c hfR hc
              · rw [if_neg q2, if_neg q2]; exact hg r c hr hc
          have hb1 := bd_swap hB hfR (show rk < R by omega)
          have hi : gFX10_inverse (nI (swapM B f rk rk k)) ((S.1, setA S.2 15 g1) : MS) = some (nI (invF (swapM B f rk rk k) p)) := m_inv (by rw [mp2, setA_o (by decide)]; exact Hp) hp2 (by omega) (hb1 rk k (by omega) hk)
          obtain ⟨g2, e3, e4⟩ := m_rElim (S := S) (c := k) Hp hp2 hp hn hR hT1 hb1 (show rk < R by omega) hk (b := invF (swapM B f rk rk k) p) (Nat.mod_lt _ (by omega))
          unfold gBX10_rankOf_41
          rw [if_neg (by rw [nI_eqN (by omega) (by omega)]; omega), e1, gx_bs, m_cell, gx_bs, mK_a15 (by omega), gx_bs]
          simp only [mp2, setA_s]
          rw [hT1 rk k (by omega) hk, hi, gx_bs, n1, nI_add, e3]
          exact ⟨_, rfl, rk + 1, _, g2, rfl, e4, bd_elim hb1 (by omega), by omega, redG_d.trans hred⟩
      obtain ⟨w, hw, hw2⟩ := all
      have loop : itr (fun s : Int32 => gLX10_rankOf_14 (nI R) (nI n) (nI rk) (nI k) s ((S.1, setA S.2 15 g) : MS)) (nI rk) = some (.inl w) := by
        refine itr_val (R - rk) (fun j s => s = nI (rk + j) ∧ pivF B k (R - rk) rk = pivF B k (R - rk - j) (rk + j)) ⟨rfl, rfl⟩ ?_ ?_
        · rintro j s hj ⟨rfl, e⟩
          have hb := hB (rk + j) k (by omega) hk
          obtain ⟨y, hy⟩ : ∃ y, R - rk - j = y + 1 := ⟨R - rk - j - 1, by omega⟩
          rw [hy] at e
          have e2 : pivF B k (y + 1) (rk + j) = if B (rk + j) k = 0 then pivF B k y (rk + j + 1) else some (rk + j) := rfl
          rw [e2] at e
          unfold gLX10_rankOf_14
          rw [if_neg (by rw [nI_leN (by omega) (by omega)]; omega), m_cell, gx_bs, mK_a15 (by omega), gx_bs, mp2, setA_s, hg (rk + j) k (by omega) hk]
          by_cases h : B (rk + j) k = 0
          · left
            rw [if_pos (by rw [n0, h]), n1, nI_add]
            rw [if_pos h] at e
            exact ⟨_, rfl, rfl, by rw [e, show R - rk - (j + 1) = y by omega]; rfl⟩
          · right
            rw [if_neg (by rw [n0, nI_eqN (by omega) (by omega)]; exact h)]
            rw [if_neg h] at e
            rw [e] at hw
            dsimp only at hw
            rw [hw]
            rfl
        · rintro s ⟨rfl, e⟩
          unfold gLX10_rankOf_14
          have e3 : pivF B k (R - rk) rk = none := by rw [e, Nat.sub_self]; rfl
          rw [e3] at hw
          dsimp only at hw
          rw [if_pos (by rw [nI_leN (by omega) (by omega)]; omega), show rk + (R - rk) = R by omega, hw]
          rfl
      unfold gLX10_rankOf_5
      dsimp only
      rw [if_neg (by rw [nI_leN (by omega) (by omega)]; omega), loop]
      exact ⟨_, rfl, hw2⟩
    · rintro s ⟨rk, B, g, rfl, hg, hB, hrk, hred⟩
      rw [Nat.sub_self] at hred
      unfold redG at hred
      unfold gLX10_rankOf_5
      dsimp only
      rw [if_pos (by rw [nI_leN (by omega) (by omega)]; omega), ← hred]
      exact ⟨_, rfl, g, rfl⟩
  obtain ⟨t, e, g, rfl⟩ := key
  exact ⟨g, e⟩
/-- the value of a monomial at a point of the row -/
theorem m_valueAt {pts : List (Nat × Nat)} (Hp : S.2 1 0 = nI p) (HP : rowR (S.2 1) 224 236 pts) (hp2 : 2 ≤ p) (hp : p < 1000) (hpts : pin pts p) {i j q : Nat} (hi : i ≤ 12) (hj : j ≤ 12) (hq : q < pts.length) :
    ∃ T, gFX10_valueAt (nI i) (nI j) (nI q) S = some (nI (mvN p (mx pts q) (my pts q) i j), T) ∧ only S T (fun b => b = 20 ∨ b = 21) := by
  have lm := hpts.1
  have mem : pts.getD q (0, 0) ∈ pts := by
    rw [List.getD_eq_getElem?_getD, List.getElem?_eq_getElem hq]
    exact List.getElem_mem hq
  have pq : mx pts q < p ∧ my pts q < p := hpts.2.2 _ mem
  have r := HP q hq
  obtain ⟨T, t1, t2, t3, t4⟩ := m_laysPowers (S := S) Hp hp2 hp pq.1 pq.2
  refine ⟨T, ?_, t2⟩
  have b1 : mx pts q ^ i % p < p := Nat.mod_lt _ (by omega)
  have b2 : my pts q ^ j % p < p := Nat.mod_lt _ (by omega)
  have b3 := mul_lt_k hp b1 b2
  unfold gFX10_valueAt
  rw [n224, n236, nI_add, nI_add, mK_a1 (by omega), gx_bs, mK_a1 (by omega), gx_bs, r.1, r.2, t1, gx_bs, mK_a20 (by omega), gx_bs, mK_a21 (by omega), gx_bs, t3 i (by omega), t4 j (by omega), g_p (by rw [t2.2 1 (by decide)]; exact Hp), gx_bs, if_neg (by rw [n0, nI_eqN (by omega) (by omega)]; omega), nI_mul, pk_rem (by omega) (by omega) (by omega)]
  rfl
end
