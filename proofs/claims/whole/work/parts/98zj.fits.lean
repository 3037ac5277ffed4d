/-! the reference: a fit whole -/
section
variable {S : MS} {p : Nat} {pts : List (Nat × Nat)}
theorem m_fits {ht : Nat → Nat} {r : Nat → Nat → Nat} (hp : p ∈ prs) (hpts : pin pts p) (h1 : 1 ≤ pts.length) (H : RC (S.2 1) p ht r pts) :
    ∃ T, gFX10_fits S = some T ∧ RC (T.2 1) p (fitH p pts) (fitR p pts) pts ∧ T.1 = S.1 ∧ ∀ j, j ≠ 1 → j ≠ 15 → j ≠ 20 → j ≠ 21 → j ≠ 24 → T.2 j = S.2 j := by
  have pb := prs_b p hp
  have lm := hpts.1
  obtain ⟨w, hL, hrk, hlen⟩ := fit_all hp hpts h1
  have HR := fit_RD (pts := pts) hp
  rw [hrk] at HR
  generalize (fitT p pts).2.2.2 = pv at HR hL
  generalize (fitT p pts).2.2.1 = B at HR
  have hC := tri_91 lm
  have dsm : ∀ k, k < pts.length → (dec (pv k)).1 < 12 ∧ (dec (pv k)).2 < 12 ∧ (dec (pv k)).1 + (dec (pv k)).2 + 1 ≤ pts.length := by
    intro k hk
    have mem : dec (pv k) ∈ Lm (fitH p pts) := by rw [hL]; exact mem_map_range.mpr ⟨k, hk, rfl⟩
    have a1 := (Lm_a w).2.2.2.1 _ mem
    have a2 := deg_m w ((mem_Lm w).mp (show ((dec (pv k)).1, (dec (pv k)).2) ∈ Lm (fitH p pts) from mem))
    rw [hlen] at a2
    exact ⟨a1.1, a1.2, a2⟩
  -- how far the monomials have been taken
  let St : Nat → MS → Prop := fun c T => T.1 = S.1 ∧ (∀ j, j ≠ 1 → j ≠ 15 → j ≠ 20 → j ≠ 21 → T.2 j = S.2 j) ∧ fitP T p pts ∧ ∃ k, k ≤ pts.length ∧ NowM (T.2 1) ((List.range k).map fun i => dec (pv i)) ∧ (∀ i, i < k → pv i < c) ∧ ∀ i, k ≤ i → i < pts.length → c ≤ pv i
  have smallL : ∀ k, k ≤ pts.length → small ((List.range k).map fun i => dec (pv i)) := fun k hk => small_mem fun q hq => by
    obtain ⟨i, hi, rfl⟩ := mem_map_range.mp hq
    have := dsm i (by omega)
    omega
  have lenL : ∀ k, ((List.range k).map fun i => dec (pv i)).length = k := fun k => by rw [List.length_map, List.length_range]
  -- one degree
  have degree : ∀ d T, d < 12 → St (tri d) T → ∃ T', itr (fun s : Int32 × MS => gLX10_fits_17 (nI d) s.1 s.2) (nI 0, T) = some (.inl (nI (d + 1), T')) ∧ St (tri (d + 1)) T' := by
    intro d T hd hT
    have key : ∃ t, itr (fun s : Int32 × MS => gLX10_fits_17 (nI d) s.1 s.2) (nI 0, T) = some t ∧ ∃ T', t = .inl (nI (d + 1), T') ∧ St (tri (d + 1)) T' := by
      refine itr_run (d + 1) (fun j s => ∃ U, s = (nI j, U) ∧ St (tri d + j) U) ⟨T, rfl, hT⟩ ?_ ?_
      · rintro j s hj ⟨U, rfl, u1, u2, u3, k, k1, k2, k3, k4⟩
        have gn : gFX10_n U = some (nI k) := by rw [g_n k2, lenL]
        by_cases hkm : k = pts.length
        · right
          unfold gLX10_fits_17 gBX10_fits_71
          dsimp only
          rw [if_neg (by rw [nI_ltN (by omega) (by omega)]; omega), gn, gx_bs, n3, mK_a1 (by omega), gx_bs, u3.2.1, if_pos (by rw [nI_leN (by omega) (by omega)]; omega), n1, nI_add]
          refine ⟨_, rfl, U, rfl, u1, u2, u3, k, k1, k2, fun i hi => ?_, fun i h2 h3 => by omega⟩
          have := k3 i hi
          show pv i < tri d + (d + 1)
          omega
        · left
          have cN : colN (d - j, j) = tri d + j := by show tri (d - j + j) + j = _; rw [show d - j + j = d by omega]
          have dc : dec (tri d + j) = (d - j, j) := by rw [← cN, dec_col]
          have ck := k4 k (Nat.le_refl k) (by omega)
          have hpk := HR.1.2.2.1 k (by omega)
          have hasD := g_hasDivisors (S := U) (i := d - j) (j := j) k2 (by rw [lenL]; omega) (smallL k k1) (by omega) (by omega)
          -- what a fresh monomial must be
          have fr := fresh_iff hp hpts HR (k := k) (c := tri d + j) (by omega) (by omega) ck k3
          rw [dc] at fr
          unfold gLX10_fits_17
          dsimp only
          rw [if_neg (by rw [nI_ltN (by omega) (by omega)]; omega), gn, gx_bs, n3, mK_a1 (by omega), gx_bs, u3.2.1, if_neg (by rw [nI_leN (by omega) (by omega)]; omega), nI_sub (by omega), hasD, gx_bs]
          have skip : ∀ V : MS, St (tri d + j) V → pv k ≠ tri d + j → ∃ s', gBX10_fits_65 (nI d) (nI j) V = some (.inl s') ∧ ∃ U, s' = (nI (j + 1), U) ∧ St (tri d + (j + 1)) U := by
            rintro V ⟨v1, v2, v3, k', w1, w2, w3, w4⟩ hne
            unfold gBX10_fits_65
            rw [n1, nI_add]
            have hk' : k' = k := by
              refine Classical.byContradiction fun z => ?_
              by_cases hlt : k' < k
              · have a := w4 k' (Nat.le_refl _) (by omega)
                have b := k3 k' hlt
                omega
              · have a := w3 k (by omega)
                omega
            refine ⟨_, rfl, V, rfl, v1, v2, v3, k', w1, w2, fun i hi => by have := w3 i hi; omega, fun i h2 h3 => ?_⟩
            have a := w4 i h2 h3
            by_cases e : i = k
            · rw [e] at a ⊢; omega
            · have b := HR.1.2.2.2.1 k i (by omega) h3
              omega
          by_cases hpc : pv k = tri d + j
          · -- it is one of the pivots: its divisors are there
            have hdv : divs ((List.range k).map fun i => dec (pv i)) (d - j) j = true := by
              have e0 : pv k = colN (d - j, j) := by rw [hpc, cN]
              unfold divs
              rw [Bool.and_eq_true, Bool.or_eq_true, Bool.or_eq_true]
              have back : ∀ i' j' a b, ((a = 1 ∧ b = 0) ∨ (a = 0 ∧ b = 1)) → pv k = colN (i' + a, j' + b) → (i', j') ∈ ((List.range k).map fun i => dec (pv i)) := by
                intro i' j' a b hab e
                obtain ⟨k', h1, h2⟩ := piv_div hp HR hab (show k < pts.length by omega) e
                have hlt : colN (i', j') < colN (i' + a, j' + b) := by rw [col_lt]; omega
                have hk' : k' < k := by
                  refine Classical.byContradiction fun z => ?_
                  by_cases ek : k' = k
                  · rw [ek] at h2; omega
                  · have := HR.1.2.2.2.1 k k' (by omega) h1
                    omega
                exact mem_map_range.mpr ⟨k', hk', by rw [h2, dec_col]⟩
              refine ⟨?_, ?_⟩
              · by_cases e : d - j = 0
                · exact Or.inl (decide_eq_true e)
                · exact Or.inr (decide_eq_true (back (d - j - 1) j 1 0 (Or.inl ⟨rfl, rfl⟩) (by rw [e0, show d - j - 1 + 1 = d - j by omega, Nat.add_zero])))
              · by_cases e : j = 0
                · exact Or.inl (decide_eq_true e)
                · exact Or.inr (decide_eq_true (back (d - j) (j - 1) 0 1 (Or.inr ⟨rfl, rfl⟩) (by rw [e0, show j - 1 + 1 = j by omega, Nat.add_zero])))
            obtain ⟨V, v1, v2⟩ := m_isFresh (S := U) (i := d - j) (j := j) u3 k2 (by omega) (by omega) hpts (by rw [lenL]; omega) (fun q hq => by
              rw [lenL] at hq
              have := dsm q (by omega)
              unfold mx my
              rw [getD_map hq]
              omega) (by omega) (by omega)
            rw [lenL, decide_eq_true (fr.mpr hpc)] at v1
            have vm : NowM (V.2 1) ((List.range k).map fun i => dec (pv i)) := by rw [v2.2 1 (by decide)]; exact k2
            obtain ⟨g, p1, p2, p3⟩ := m_placedEnd (S := V) (i := d - j) (j := j) vm (by rw [lenL]; omega) (smallL k k1) (by omega) (by omega) fun q hq => by
              obtain ⟨i, hi, rfl⟩ := mem_map_range.mp hq
              have h2 := k3 i hi
              rw [← cN, ← col_dec (pv i)] at h2
              have h2 := (col_lt (i := (dec (pv i)).1) (j := (dec (pv i)).2)).mp h2
              unfold aheadB
              dsimp only
              by_cases e : d - j + j = (dec (pv i)).1 + (dec (pv i)).2
              · rw [if_pos e, decide_eq_false]; omega
              · rw [if_neg e, decide_eq_false]; omega
            unfold gBX10_fits_65
            rw [hdv, if_neg (by rw [bF]; decide), v1, b2s, if_neg (by rw [bF]; decide), p1, b2s, n1, nI_add]
            refine ⟨_, rfl, _, rfl, by rw [mp1, v2.1]; exact u1, fun q q1 q2 q3 q4 => ?_, ?_, k + 1, by omega, ?_, fun i hi => ?_, fun i h2 h3 => ?_⟩
            · rw [mp2, setA_o q1, v2.2 q (by omega)]; exact u2 q q1 q2 q3 q4
            · unfold fitP
              rw [mp2, setA_s]
              have e1 : V.2 1 = U.2 1 := v2.2 1 (by decide)
              refine ⟨by rw [p3 0 (by omega) (by omega) (by omega), e1]; exact u3.1, by rw [p3 3 (by omega) (by omega) (by omega), e1]; exact u3.2.1, fun q hq => ?_⟩
              rw [p3 _ (by omega) (by omega) (by omega), p3 _ (by omega) (by omega) (by omega), e1]
              exact u3.2.2 q hq
            · rw [mp2, setA_s, List.range_succ, List.map_append]
              have : List.map (fun i => dec (pv i)) [k] = [(d - j, j)] := by
                show [dec (pv k)] = _
                rw [hpc, dc]
              rw [this]
              exact p2
            · by_cases e : i = k
              · rw [e]; omega
              · have := k3 i (by omega); omega
            · have := HR.1.2.2.2.1 k i (by omega) h3
              omega
          · cases hdv : divs ((List.range k).map fun i => dec (pv i)) (d - j) j with
            | false =>
              rw [if_pos (by rw [bF])]
              exact skip U ⟨u1, u2, u3, k, k1, k2, k3, k4⟩ hpc
            | true =>
              obtain ⟨V, v1, v2⟩ := m_isFresh (S := U) (i := d - j) (j := j) u3 k2 (by omega) (by omega) hpts (by rw [lenL]; omega) (fun q hq => by
                rw [lenL] at hq
                have := dsm q (by omega)
                unfold mx my
                rw [getD_map hq]
                omega) (by omega) (by omega)
              rw [lenL, decide_eq_false (fun z => hpc (fr.mp z))] at v1
              rw [if_neg (by rw [bF]; decide), v1, b2s, if_pos (by rw [bF])]
              refine skip V ⟨by rw [v2.1]; exact u1, fun q q1 q2 q3 q4 => by rw [v2.2 q (by omega)]; exact u2 q q1 q2 q3 q4, ?_, k, k1, by rw [v2.2 1 (by decide)]; exact k2, k3, k4⟩ hpc
              unfold fitP
              rw [v2.2 1 (by decide)]
              exact u3
      · rintro s ⟨U, rfl, hU⟩
        unfold gLX10_fits_17 gBX10_fits_71
        dsimp only
        rw [if_pos (by rw [nI_ltN (by omega) (by omega)]; omega), n1, nI_add]
        exact ⟨_, rfl, U, rfl, hU⟩
    obtain ⟨t, i1, T', rfl, i2⟩ := key
    exact ⟨T', i1, i2⟩
  have hstart : St 0 ((S.1, setA S.2 1 (upd (S.2 1) 1 (nI 0))) : MS) := by
    refine ⟨rfl, fun j j1 _ _ _ => by rw [mp2, setA_o j1], ?_, 0, by omega, ?_, fun i hi => by omega, fun i _ _ => Nat.zero_le _⟩
    · unfold fitP
      rw [mp2, setA_s]
      refine ⟨by rw [upd_o (by decide)]; exact H.1, by rw [upd_o (by decide)]; exact H.2.2.2.1, fun q hq => ?_⟩
      rw [upd_o (by omega), upd_o (by omega)]
      exact H.2.2.2.2.2 q hq
    · rw [mp2, setA_s]
      exact ⟨upd_s, fun k hk => by simp at hk⟩
  have key : ∃ x, itr (fun s : Int32 × MS => gLX10_fits_9 s.1 s.2) (nI 0, ((S.1, setA S.2 1 (upd (S.2 1) 1 (nI 0))) : MS)) = some x ∧ RC (x.2 1) p (fitH p pts) (fitR p pts) pts ∧ x.1 = S.1 ∧ ∀ j, j ≠ 1 → j ≠ 15 → j ≠ 20 → j ≠ 21 → j ≠ 24 → x.2 j = S.2 j := by
    refine itr_run 12 (fun d s => ∃ T, s = (nI d, T) ∧ St (tri d) T) ⟨_, rfl, hstart⟩ ?_ ?_
    · rintro d s hd ⟨T, rfl, hT⟩
      left
      obtain ⟨T', e1, e2⟩ := degree d T hd hT
      unfold gLX10_fits_9
      dsimp only
      rw [n11, if_neg (by rw [nI_ltN (by omega) (by omega)]; omega), n0, e1]
      exact ⟨_, rfl, T', rfl, e2⟩
    · rintro s ⟨T, rfl, t1, t2, t3, k, k1, k2, k3, k4⟩
      have hk : k = pts.length := by
        refine Classical.byContradiction fun z => ?_
        have a := k4 k (Nat.le_refl _) (by omega)
        have b := dsm k (by omega)
        have c := tri_lt (d := (dec (pv k)).1 + (dec (pv k)).2) (e := 12) (j := (dec (pv k)).2) (by omega) (by omega)
        have e : colN (dec (pv k)) = pv k := col_dec _
        have e2 : colN (dec (pv k)) = tri ((dec (pv k)).1 + (dec (pv k)).2) + (dec (pv k)).2 := rfl
        omega
      rw [hk, ← hL] at k2
      obtain ⟨g, b1, b2, b3, b4, b5⟩ := g_laysBorder (S := T) k2 (Lm_ok w)
      have lb := (Lm_len w).2.2.2.1
      have R0 : RC g p (fitH p pts) (fun _ _ => 0) pts := by
        refine ⟨by rw [b5 0 (by omega) (by omega)]; exact t3.1, b2, by rw [(Lm_a w).2.2.1] at b3; exact b3, by rw [b5 3 (by omega) (by omega)]; exact t3.2.1, fun b k hb hk => b4 _ (by omega), fun q hq => ?_⟩
        rw [b5 _ (by omega) (by omega), b5 _ (by omega) (by omega)]
        exact t3.2.2 q hq
      have loop : ∃ x, itr (fun s : Int32 × MS => gLX10_fits_83 s.1 s.2) (nI 0, ((T.1, setA T.2 1 g) : MS)) = some x ∧ RC (x.2 1) p (fitH p pts) (fitR p pts) pts ∧ x.1 = S.1 ∧ ∀ j, j ≠ 1 → j ≠ 15 → j ≠ 20 → j ≠ 21 → j ≠ 24 → x.2 j = S.2 j := by
        refine itr_run (Lb (fitH p pts)).length (fun b s => ∃ U rr, s = (nI b, U) ∧ U.1 = S.1 ∧ (∀ j, j ≠ 1 → j ≠ 15 → j ≠ 20 → j ≠ 21 → j ≠ 24 → U.2 j = S.2 j) ∧ RC (U.2 1) p (fitH p pts) rr pts ∧ ∀ x k, x < b → rr x k = fitR p pts x k) ⟨_, _, rfl, t1, fun j j1 j2 j3 j4 _ => by rw [mp2, setA_o j1]; exact t2 j j1 j2 j3 j4, by rw [mp2, setA_s]; exact R0, fun x k hx => by omega⟩ ?_ ?_
        · rintro b s hb ⟨U, rr, rfl, u1, u2, u3, u4⟩
          left
          obtain ⟨V, v1, v2, v3, v4⟩ := m_solves hp hpts h1 u3 hb
          have q2 := u3.2.2.1.1
          unfold gLX10_fits_83
          dsimp only
          rw [n2, mK_a1 (by omega), gx_bs, q2, if_neg (by rw [nI_leN (by omega) (by omega)]; omega), v1, gx_bs, n1, nI_add]
          refine ⟨_, rfl, V, _, rfl, by rw [v3]; exact u1, fun j j1 j2 j3 j4 j5 => by rw [v4 j j1 j3 j4 j5]; exact u2 j j1 j2 j3 j4 j5, v2, fun x k hx => ?_⟩
          by_cases e : x = b
          · rw [if_pos e, e]
          · rw [if_neg e]; exact u4 x k (by omega)
        · rintro s ⟨U, rr, rfl, u1, u2, u3, u4⟩
          have q2 := u3.2.2.1.1
          unfold gLX10_fits_83
          dsimp only
          rw [n2, mK_a1 (by omega), gx_bs, q2, if_pos (by rw [nI_leN (by omega) (by omega)]; omega)]
          exact ⟨_, rfl, ⟨u3.1, u3.2.1, u3.2.2.1, u3.2.2.2.1, fun b k hb hk => by rw [u3.2.2.2.2.1 b k hb hk, u4 b k hb], u3.2.2.2.2.2⟩, u1, u2⟩
      obtain ⟨x, x1, x2⟩ := loop
      unfold gLX10_fits_9
      dsimp only
      rw [n11, if_pos (by rw [nI_ltN (by omega) (by omega)]; omega), b1, gx_bs, n0, x1]
      exact ⟨x, rfl, x2⟩
  obtain ⟨x, x1, x2⟩ := key
  refine ⟨x, ?_, x2⟩
  unfold gFX10_fits
  rw [n1, mK_s1 (by omega), gx_bs, n0, x1]
end
