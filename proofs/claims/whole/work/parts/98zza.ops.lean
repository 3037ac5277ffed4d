/-! calls: counts, refusals, places, monomials, rules -/
theorem fnd_fr {f f' g g' : Nat → Int32} {i j : Int32} : ∀ n k, (∀ q, k ≤ q → q < k + n → f q = f' q ∧ g q = g' q) → fnd f g i j n k = fnd f' g' i j n k
  | 0, _, _ => rfl
  | n + 1, k, h => by
    obtain ⟨h1, h2⟩ := h k (by omega) (by omega)
    rw [fnd_step, fnd_step, h1, h2, fnd_fr n (k + 1) fun q a b => h q (by omega) (by omega)]
section
variable {h : jx_H} {q : Nat} {S M : MS} {c : Cf}
theorem m_isMon (H : RCc (M.2 1) c) (o : okC c) {x : Int32} : gFX10_isMonomial x M = some (bI (!outB x ((Lm c.2.1).length - 1))) := by
  have l := Lm_len o.2.1
  unfold gFX10_isMonomial
  rw [g_n H.2.1, gx_bs, n1, nI_sub (by omega), n0, m_in, gx_bs]
  exact bI_01
theorem m_isBor (H : RCc (M.2 1) c) (o : okC c) {x : Int32} : gFX10_isBorder x M = some (bI (!outB x ((Lb c.2.1).length - 1))) := by
  have l := Lm_len o.2.1
  unfold gFX10_isBorder
  rw [n2, mK_a1 (by omega), H.2.2.1.1, gx_bs, n1, nI_sub (by omega), n0, m_in, gx_bs]
  exact bI_01
theorem h_hasCoef (HS : bH sK h q S) (H : STc S c) (o : okC c) {x y : Int32} : FX5_hasCoefficient q x y h = some (bI (!outB x ((Lb c.2.1).length - 1) && !outB y ((Lm c.2.1).length - 1))) := by
  have l := Lm_len o.2.1
  have e5 : hgi h q 5 5 = some (nI (Lb c.2.1).length) := by rw [← H.2.2.1.2.1]; exact HS.i5
  have e2 : hgi h q 5 2 = some (nI (Lm c.2.1).length) := by rw [← H.2.2.1.1]; exact HS.i2
  unfold FX5_hasCoefficient
  rcases i_cases x with hx | ⟨k, hk, rfl⟩
  · rw [n0, if_pos hx, outB_neg hx]
    rfl
  · rw [n0, if_neg (by rw [nI_lt0 hk]; exact id), e5, gx_bs, outB_k hk (by omega)]
    by_cases h1 : (Lb c.2.1).length ≤ k
    · rw [if_pos (by rw [nI_leN (by omega) (by omega)]; exact h1), decide_eq_true (by omega)]
      rfl
    · rw [if_neg (by rw [nI_leN (by omega) (by omega)]; exact h1), decide_eq_false (by omega)]
      rcases i_cases y with hy | ⟨j, hj, rfl⟩
      · rw [if_pos hy, outB_neg hy]
        rfl
      · rw [if_neg (by rw [nI_lt0 hj]; exact id), e2, gx_bs, outB_k hj (by omega)]
        by_cases h2 : (Lm c.2.1).length ≤ j
        · rw [if_pos (by rw [nI_leN (by omega) (by omega)]; exact h2), decide_eq_true (by omega)]
          rfl
        · rw [if_neg (by rw [nI_leN (by omega) (by omega)]; exact h2), decide_eq_false (by omega), n1]
          rfl
end
section
variable {a m o : Nat}
theorem o_place : St_place (INV a m o) a m := by
  rintro h x y ⟨rfl, rfl, O, M, c, d, U, V, cnt, L, b, e1, e2, res, HM, C, R⟩
  obtain ⟨⟨B, -⟩, ⟨⟨S, HS, sS⟩, ok⟩, -⟩ := id C
  have w := ok.2.1
  have l := Lm_len w
  have fM : fnd (S.2 2) (S.2 3) x y (Lm c.2.1).length 0 = fnd (fun k => M.2 1 (4 + k)) (fun k => M.2 1 (16 + k)) x y (Lm c.2.1).length 0 := fnd_fr _ _ fun k _ hk => by
    have a1 := sS.2.2.1.2.2.1 k (by omega)
    have a2 := R.1.2.1.2 k (by omega)
    exact ⟨a1.1.trans a2.1.symm, a1.2.trans a2.2.symm⟩
  have fB : fnd (S.2 4) (S.2 5) x y (Lb c.2.1).length 0 = fnd (fun k => M.2 1 (28 + k)) (fun k => M.2 1 (42 + k)) x y (Lb c.2.1).length 0 := fnd_fr _ _ fun k _ hk => by
    have a1 := sS.2.2.1.2.2.2 k (by omega)
    have a2 := R.1.2.2.1.2 k (by omega)
    exact ⟨a1.1.trans a2.1.symm, a1.2.trans a2.2.symm⟩
  have cM : FX5_numberOf (a + 1) x y h = some (fnd (S.2 2) (S.2 3) x y (Lm c.2.1).length 0) := by rw [HS.run (F := FX5_numberOf (a + 1) x y) eFX5_numberOf, s_fndM sS w]
  have cB : FX5_borderNumberOf (a + 1) x y h = some (fnd (S.2 4) (S.2 5) x y (Lb c.2.1).length 0) := by rw [HS.run (F := FX5_borderNumberOf (a + 1) x y) eFX5_borderNumberOf, s_fndB sS w]
  have rM : gFX10_monomialAt x y (gpi M 0 (nI 0)) = some (fnd (S.2 2) (S.2 3) x y (Lm c.2.1).length 0) := by rw [g_monomialAt (M := Lm c.2.1) (by rw [gpi_2]; exact R.1.2.1) l.2.1, fM, gpi_2]
  have rB : gFX10_borderAt x y (gpi M 0 (nI 0)) = some (fnd (S.2 4) (S.2 5) x y (Lb c.2.1).length 0) := by rw [g_borderAt (B := Lb c.2.1) (by rw [gpi_2]; exact R.1.2.2.1) (by omega), fB, gpi_2]
  generalize fnd (S.2 2) (S.2 3) x y (Lm c.2.1).length 0 = u at cM rM
  generalize fnd (S.2 4) (S.2 5) x y (Lb c.2.1).length 0 = v at cB rB
  obtain ⟨k1, k2⟩ := vt_plain (G := FX10_place (a + 103) x y) (g := gFX10_place x y) (v := if u = m1 then (if v = m1 then m1 else nI 100 + v) else u) (M' := gpi M 0 (nI 0)) (fun h S => eFX10_place) O HM (by
    unfold gFX10_place
    rw [n0, gx_bs, rM, gx_bs, rB, gx_bs, n1, nm1, n100]
    by_cases h1 : u = m1
    · rw [if_pos h1, if_pos h1]
      by_cases h2 : v = m1
      · rw [if_pos h2, if_pos h2]
      · rw [if_neg h2, if_neg h2]
    · rw [if_neg h1, if_neg h1]) C R.t0
  refine ⟨_, B.ob, ?_, k1, k2⟩
  unfold FX9_place
  rw [B.g0, gx_bs, HS.o5, gx_bs, cM, gx_bs, n1, nm1, n100]
  by_cases h1 : u = m1
  · rw [if_pos h1, if_pos h1, gx_bs, HS.o5, gx_bs, cB, gx_bs]
    by_cases h2 : v = m1
    · rw [if_pos h2, if_pos h2]
    · rw [if_neg h2, if_neg h2]
  · rw [if_neg h1, if_neg h1]
theorem o_refusal : St_refusal (INV a m o) a m o := by
  rintro h x y ⟨rfl, rfl, O, M, c, d, U, V, cnt, L, b, e1, e2, res, HM, C, R⟩
  obtain ⟨⟨B, -⟩, ⟨⟨S, HS, sS⟩, ok⟩, -⟩ := id C
  have w := ok.2.1
  have l := Lm_len w
  have thr : (outB x 11 || outB y 11) = true → _ := fun hxy => vt_thr (P := fun E => E = "java/lang/IllegalArgumentException") (e0 := "java/lang/IllegalArgumentException") (G := FX10_refusal (a + 103) x y) (g := gFX10_refusal x y) (M' := gpi M 0 (nI 1)) (v := 0) (k := 1) (fun h S => eFX10_refusal) O HM rfl cd1 (by omega) (by omega) (by
    unfold gFX10_refusal gFX10_isOnSide gBX10_refusal_14
    rw [n0, n11, m_in, gx_bs]
    cases hx : outB x 11 with
    | true => rw [if_pos (by rw [bI_0]; rfl), gx_bs, if_pos rfl, gx_bs, gx_bs, n1, gpi_1, upd_s, if_neg (by rw [nI_leN (by omega) (by omega)]; omega)]
    | false =>
      rw [hx, Bool.false_or] at hxy
      rw [if_neg (by rw [bI_0]; decide), m_in, gx_bs, hxy, if_pos (by rw [bI_0]; rfl), gx_bs, if_pos rfl, gx_bs, gx_bs, n1, gpi_1, upd_s, if_neg (by rw [nI_leN (by omega) (by omega)]; omega)]) (by rw [gpi_1, upd_s]) C R.t0
  by_cases hxy : (outB x 11 || outB y 11) = true
  · refine ⟨.inr ("java/lang/IllegalArgumentException", h), ?_, B.ob, thr hxy⟩
    unfold FX9_refusal BX9_refusal_18
    rw [n11, q_isOutside, p_out, gx_bs]
    cases hx : outB x 11 with
    | true => rw [if_neg (by rw [bF]; decide)]
    | false =>
      rw [hx, Bool.false_or] at hxy
      rw [if_pos (by rw [bF]), q_isOutside, p_out, gx_bs, hxy, if_neg (by rw [bF]; decide)]
  · have hx : outB x 11 = false := by cases hq : outB x 11 with | false => rfl | true => rw [hq] at hxy; exact absurd rfl hxy
    have hy : outB y 11 = false := by cases hq : outB y 11 with | false => rfl | true => rw [hq, Bool.or_true] at hxy; exact absurd rfl hxy
    obtain ⟨i, hi, rfl⟩ := outB_f (by omega) hx
    obtain ⟨j, hj, rfl⟩ := outB_f (by omega) hy
    have ob : FX5_obstacle (a + 1) (nI i) (nI j) h = some (nI (obst c.2.1 i j)) := by rw [HS.run (F := FX5_obstacle (a + 1) (nI i) (nI j)) eFX5_obstacle, s_obstacle sS w (by omega) (by omega)]
    refine ⟨.inl (nI (obst c.2.1 i j), h), ?_, B.ob, vt_val (G := FX10_refusal (a + 103) (nI i) (nI j)) (g := gFX10_refusal (nI i) (nI j)) (M' := gpi M 0 (nI 0)) (fun h S => eFX10_refusal) O HM ?_ (by rw [gpi_1, upd_s]) C R.t0⟩
    · unfold FX9_refusal
      rw [n11, q_isOutside, p_out, gx_bs, hx, if_pos (by rw [bF]), q_isOutside, p_out, gx_bs, hy, if_pos (by rw [bF]), B.g0, gx_bs, HS.o5, gx_bs, ob, gx_bs]
    · have r1 : NowM ((gpi M 0 (nI 0)).2 1) (Lm c.2.1) := by rw [gpi_2]; exact R.1.2.1
      unfold gFX10_refusal gBX10_refusal_14
      rw [m_onSide hi hj, gx_bs, n0, if_neg (by rw [nI_eqN (by omega) (by omega)]; omega), gx_bs, gx_bs, gpi_1, upd_s, if_pos (by rw [nI_leN (by omega) (by omega)]; omega), g_hasIt r1 l.2.1 (Lm_small w) (by omega) (by omega), gx_bs]
      unfold obst
      by_cases h1 : j < c.2.1 i
      · rw [decide_eq_true ((mem_Lm w).mpr h1), if_neg (by rw [bI_0]; decide), if_pos h1, n1]
      · rw [decide_eq_false (fun z => h1 ((mem_Lm w).mp z)), if_pos (by rw [bI_0]), if_neg h1, g_hasDivisors r1 l.2.1 (Lm_small w) (by omega) (by omega), gx_bs]
        have dv : divs (Lm c.2.1) i j = true ↔ ¬ ((0 < i ∧ ¬ j < c.2.1 (i - 1)) ∨ (0 < j ∧ ¬ j - 1 < c.2.1 i)) := by
          unfold divs
          simp only [Bool.and_eq_true, Bool.or_eq_true, decide_eq_true_eq, mem_Lm w]
          omega
        by_cases h2 : (0 < i ∧ ¬ j < c.2.1 (i - 1)) ∨ (0 < j ∧ ¬ j - 1 < c.2.1 i)
        · have z : divs (Lm c.2.1) i j = false := by
            cases e : divs (Lm c.2.1) i j with
            | false => rfl
            | true => exact absurd h2 (dv.mp e)
          rw [z, if_pos (by rw [bI_0]), if_pos h2, n2]
        · rw [dv.mpr h2, if_neg (by rw [bI_0]; decide), if_neg h2, g_n r1, gx_bs, n12]
          by_cases h3 : (Lm c.2.1).length = 12
          · rw [if_pos (by rw [h3]), if_pos (by omega), n3]
          · rw [if_neg (by rw [nI_eqN (by omega) (by omega)]; exact h3), if_neg (by omega)]
/-- one of two cells of a list -/
theorem o_monomial : St_monomial (INV a m o) a m o := by
  rintro h x y ⟨rfl, rfl, O, M, c, d, U, V, cnt, L, b, e1, e2, res, HM, C, R⟩
  obtain ⟨⟨B, -⟩, ⟨⟨S, HS, sS⟩, ok⟩, -⟩ := id C
  have w := ok.2.1
  have l := Lm_len w
  have e2' : hgi h (a + 1) 5 2 = some (nI (Lm c.2.1).length) := by rw [← sS.2.2.1.1]; exact HS.i2
  by_cases hx : outB x ((Lm c.2.1).length - 1) = true
  · refine ⟨.inr ("java/lang/IndexOutOfBoundsException", h), ?_, B.ob, vt_thr (G := FX10_monomial (a + 103) x y) (g := gFX10_monomial x y) (M' := gpi M 0 (nI 1)) (v := 0) (k := 1) (fun h S => eFX10_monomial) O HM (Or.inl rfl) cd1 (by omega) (by omega) ?_ (by rw [gpi_1, upd_s]) C R.t0⟩
    · unfold FX9_monomial BX9_monomial_15
      rcases i_cases x with hn | ⟨k, hk, rfl⟩
      · rw [n0, if_pos hn]
      · rw [outB_k hk (by omega)] at hx
        have := of_decide_eq_true hx
        rw [n0, if_neg (by rw [nI_lt0 hk]; exact id), B.g0, gx_bs, e2', gx_bs, if_neg (by rw [nI_ltN (by omega) (by omega)]; omega)]
    · unfold gFX10_monomial gBX10_monomial_27
      rw [m_isMon R.1 ok, gx_bs, hx, n0, if_pos (by rw [bI_0]; rfl), gx_bs, gx_bs, n1, gpi_1, upd_s, if_neg (by rw [nI_leN (by omega) (by omega)]; omega)]
  · have hx' : outB x ((Lm c.2.1).length - 1) = false := by simpa using hx
    obtain ⟨k, hk, rfl⟩ := outB_f (by omega) hx'
    by_cases hy : outB y 1 = true
    · refine ⟨.inr ("java/lang/IllegalArgumentException", h), ?_, B.ob, vt_thr (G := FX10_monomial (a + 103) (nI k) y) (g := gFX10_monomial (nI k) y) (M' := gpi M 0 (nI 2)) (v := 0) (k := 2) (fun h S => eFX10_monomial) O HM (Or.inr rfl) (cd2 (by decide)) (by omega) (by omega) ?_ (by rw [gpi_1, upd_s]) C R.t0⟩
      · unfold FX9_monomial
        rw [n0, if_neg (by rw [nI_lt0 (by omega)]; exact id), B.g0, gx_bs, e2', gx_bs, if_pos (by rw [nI_ltN (by omega) (by omega)]; omega), n1, q_isOutside, p_out, gx_bs, hy, if_neg (by rw [bI_0]; decide)]
      · unfold gFX10_monomial gBX10_monomial_27
        rw [m_isMon R.1 ok, gx_bs, hx', n0, if_neg (by rw [bI_0]; decide), n1, m_in, gx_bs, hy, if_pos (by rw [bI_0]; rfl), gx_bs, gx_bs, n2, gpi_1, upd_s, if_neg (by rw [nI_leN (by omega) (by omega)]; omega)]
    · have hy' : outB y 1 = false := by simpa using hy
      obtain ⟨j, hj, rfl⟩ := outB_f (by omega) hy'
      have a1 := sS.2.2.1.2.2.1 k (by omega)
      have a2 := R.1.2.1.2 k (by omega)
      refine ⟨.inl (if j = 0 then nI (mx (Lm c.2.1) k) else nI (my (Lm c.2.1) k), h), ?_, B.ob, vt_val (G := FX10_monomial (a + 103) (nI k) (nI j)) (g := gFX10_monomial (nI k) (nI j)) (M' := gpi M 0 (nI 0)) (fun h S => eFX10_monomial) O HM ?_ (by rw [gpi_1, upd_s]) C R.t0⟩
      · unfold FX9_monomial
        rw [n0, if_neg (by rw [nI_lt0 (by omega)]; exact id), B.g0, gx_bs, e2', gx_bs, if_pos (by rw [nI_ltN (by omega) (by omega)]; omega), n1, q_isOutside, p_out, gx_bs, hy', if_pos (by rw [bI_0])]
        by_cases h0 : j = 0
        · rw [if_pos (by rw [h0]), if_pos h0, gx_bs, HS.r2, gx_bs, hal_ar HS.s2 (by omega) (by omega), gx_bs, a1.1]
        · rw [if_neg (by rw [nI_eqN (by omega) (by omega)]; exact h0), if_neg h0, gx_bs, HS.r3, gx_bs, hal_ar HS.s3 (by omega) (by omega), gx_bs, a1.2]
      · unfold gFX10_monomial gBX10_monomial_27 gBX10_monomial_55
        rw [m_isMon R.1 ok, gx_bs, hx', n0, if_neg (by rw [bI_0]; decide), n1, m_in, gx_bs, hy', if_neg (by rw [bI_0]; decide), gx_bs, gx_bs, gpi_1, upd_s, if_pos (by rw [nI_leN (by omega) (by omega)]; omega), n4, n16, nI_add, nI_add, mK_a1 (by omega), gx_bs, mK_a1 (by omega), gx_bs, gpi_2, a2.1, a2.2]
        by_cases h0 : j = 0
        · rw [if_pos (by rw [h0]), if_pos h0]
        · rw [if_neg (by rw [nI_eqN (by omega) (by omega)]; exact h0), if_neg h0]
theorem o_border : St_border (INV a m o) a m o := by
  rintro h x y ⟨rfl, rfl, O, M, c, d, U, V, cnt, L, b, e1, e2, res, HM, C, R⟩
  obtain ⟨⟨B, -⟩, ⟨⟨S, HS, sS⟩, ok⟩, -⟩ := id C
  have w := ok.2.1
  have l := Lm_len w
  have e5' : hgi h (a + 1) 5 5 = some (nI (Lb c.2.1).length) := by rw [← sS.2.2.1.2.1]; exact HS.i5
  by_cases hx : outB x ((Lb c.2.1).length - 1) = true
  · refine ⟨.inr ("java/lang/IndexOutOfBoundsException", h), ?_, B.ob, vt_thr (G := FX10_border (a + 103) x y) (g := gFX10_border x y) (M' := gpi M 0 (nI 1)) (v := 0) (k := 1) (fun h S => eFX10_border) O HM (Or.inl rfl) cd1 (by omega) (by omega) ?_ (by rw [gpi_1, upd_s]) C R.t0⟩
    · unfold FX9_border BX9_border_15
      rcases i_cases x with hn | ⟨k, hk, rfl⟩
      · rw [n0, if_pos hn]
      · rw [outB_k hk (by omega)] at hx
        have := of_decide_eq_true hx
        rw [n0, if_neg (by rw [nI_lt0 hk]; exact id), B.g0, gx_bs, e5', gx_bs, if_neg (by rw [nI_ltN (by omega) (by omega)]; omega)]
    · unfold gFX10_border gBX10_border_27
      rw [m_isBor R.1 ok, gx_bs, hx, n0, if_pos (by rw [bI_0]; rfl), gx_bs, gx_bs, n1, gpi_1, upd_s, if_neg (by rw [nI_leN (by omega) (by omega)]; omega)]
  · have hx' : outB x ((Lb c.2.1).length - 1) = false := by simpa using hx
    obtain ⟨k, hk, rfl⟩ := outB_f (by omega) hx'
    by_cases hy : outB y 1 = true
    · refine ⟨.inr ("java/lang/IllegalArgumentException", h), ?_, B.ob, vt_thr (G := FX10_border (a + 103) (nI k) y) (g := gFX10_border (nI k) y) (M' := gpi M 0 (nI 2)) (v := 0) (k := 2) (fun h S => eFX10_border) O HM (Or.inr rfl) (cd2 (by decide)) (by omega) (by omega) ?_ (by rw [gpi_1, upd_s]) C R.t0⟩
      · unfold FX9_border
        rw [n0, if_neg (by rw [nI_lt0 (by omega)]; exact id), B.g0, gx_bs, e5', gx_bs, if_pos (by rw [nI_ltN (by omega) (by omega)]; omega), n1, q_isOutside, p_out, gx_bs, hy, if_neg (by rw [bI_0]; decide)]
      · unfold gFX10_border gBX10_border_27
        rw [m_isBor R.1 ok, gx_bs, hx', n0, if_neg (by rw [bI_0]; decide), n1, m_in, gx_bs, hy, if_pos (by rw [bI_0]; rfl), gx_bs, gx_bs, n2, gpi_1, upd_s, if_neg (by rw [nI_leN (by omega) (by omega)]; omega)]
    · have hy' : outB y 1 = false := by simpa using hy
      obtain ⟨j, hj, rfl⟩ := outB_f (by omega) hy'
      have a1 := sS.2.2.1.2.2.2 k (by omega)
      have a2 := R.1.2.2.1.2 k (by omega)
      refine ⟨.inl (if j = 0 then nI (mx (Lb c.2.1) k) else nI (my (Lb c.2.1) k), h), ?_, B.ob, vt_val (G := FX10_border (a + 103) (nI k) (nI j)) (g := gFX10_border (nI k) (nI j)) (M' := gpi M 0 (nI 0)) (fun h S => eFX10_border) O HM ?_ (by rw [gpi_1, upd_s]) C R.t0⟩
      · unfold FX9_border
        rw [n0, if_neg (by rw [nI_lt0 (by omega)]; exact id), B.g0, gx_bs, e5', gx_bs, if_pos (by rw [nI_ltN (by omega) (by omega)]; omega), n1, q_isOutside, p_out, gx_bs, hy', if_pos (by rw [bI_0])]
        by_cases h0 : j = 0
        · rw [if_pos (by rw [h0]), if_pos h0, gx_bs, HS.r4, gx_bs, hal_ar HS.s4 (by omega) (by omega), gx_bs, a1.1]
        · rw [if_neg (by rw [nI_eqN (by omega) (by omega)]; exact h0), if_neg h0, gx_bs, HS.r5, gx_bs, hal_ar HS.s5 (by omega) (by omega), gx_bs, a1.2]
      · unfold gFX10_border gBX10_border_27 gBX10_border_56
        rw [m_isBor R.1 ok, gx_bs, hx', n0, if_neg (by rw [bI_0]; decide), n1, m_in, gx_bs, hy', if_neg (by rw [bI_0]; decide), gx_bs, gx_bs, gpi_1, upd_s, if_pos (by rw [nI_leN (by omega) (by omega)]; omega), n28, n42, nI_add, nI_add, mK_a1 (by omega), gx_bs, mK_a1 (by omega), gx_bs, gpi_2, a2.1, a2.2]
        by_cases h0 : j = 0
        · rw [if_pos (by rw [h0]), if_pos h0]
        · rw [if_neg (by rw [nI_eqN (by omega) (by omega)]; exact h0), if_neg h0]
theorem o_rule : St_rule (INV a m o) a m o := by
  rintro h x y ⟨rfl, rfl, O, M, c, d, U, V, cnt, L, b, e1, e2, res, HM, C, R⟩
  obtain ⟨⟨B, -⟩, ⟨⟨S, HS, sS⟩, ok⟩, -⟩ := id C
  have w := ok.2.1
  have l := Lm_len w
  have hc := h_hasCoef HS sS ok (x := x) (y := y)
  by_cases hxy : (!outB x ((Lb c.2.1).length - 1) && !outB y ((Lm c.2.1).length - 1)) = true
  · have hx : outB x ((Lb c.2.1).length - 1) = false := by
      cases e : outB x ((Lb c.2.1).length - 1) with
      | false => rfl
      | true => rw [e] at hxy; cases hxy
    have hy : outB y ((Lm c.2.1).length - 1) = false := by
      cases e : outB y ((Lm c.2.1).length - 1) with
      | false => rfl
      | true => rw [e, Bool.and_comm] at hxy; cases hxy
    obtain ⟨i, hi, rfl⟩ := outB_f (by omega) hx
    obtain ⟨k, hk, rfl⟩ := outB_f (by omega) hy
    have co : FX5_coefficient (a + 1) (nI i) (nI k) h = some (nI (c.2.2.1 i k)) := by rw [HS.run (F := FX5_coefficient (a + 1) (nI i) (nI k)) eFX5_coefficient, s_coef sS w (by omega) (by omega)]
    refine ⟨.inl (nI (c.2.2.1 i k), h), ?_, B.ob, vt_val (G := FX10_rule (a + 103) (nI i) (nI k)) (g := gFX10_rule (nI i) (nI k)) (M' := gpi M 0 (nI 0)) (fun h S => eFX10_rule) O HM ?_ (by rw [gpi_1, upd_s]) C R.t0⟩
    · unfold FX9_rule
      rw [B.g0, gx_bs, HS.o5, gx_bs, hc, gx_bs, hxy, n0, if_neg (by rw [bI_0]; decide), gx_bs, HS.o5, gx_bs, co, gx_bs]
    · unfold gFX10_rule gBX10_rule_22 gFX10_ruleAt
      rw [m_isBor R.1 ok, gx_bs, hx, n0, if_neg (by rw [bI_0]; decide), m_isMon R.1 ok, gx_bs, hy, if_neg (by rw [bI_0]; decide), gx_bs, gx_bs, gpi_1, upd_s, if_pos (by rw [nI_leN (by omega) (by omega)]; omega), n56, n12, nI_mul, nI_add, nI_add, gx_bs, mK_a1 (by omega), gx_bs, gpi_2, Nat.add_assoc, R.1.2.2.2.2.1 i k (by omega) (by omega)]
  · have hf : (!outB x ((Lb c.2.1).length - 1) && !outB y ((Lm c.2.1).length - 1)) = false := by simpa using hxy
    refine ⟨.inr ("java/lang/IndexOutOfBoundsException", h), ?_, B.ob, vt_thr (G := FX10_rule (a + 103) x y) (g := gFX10_rule x y) (M' := gpi M 0 (nI 1)) (v := 0) (k := 1) (fun h S => eFX10_rule) O HM rfl cd1 (by omega) (by omega) ?_ (by rw [gpi_1, upd_s]) C R.t0⟩
    · unfold FX9_rule
      rw [B.g0, gx_bs, HS.o5, gx_bs, hc, gx_bs, hf, n0, if_pos (by rw [bI_0])]
    · have bad : gBX10_rule_21 x y M = some (0, gpi M 0 (nI 1)) := by
        unfold gBX10_rule_21 gBX10_rule_22
        rw [gx_bs, gx_bs, n1, gpi_1, upd_s, n0, if_neg (by rw [nI_leN (by omega) (by omega)]; omega)]
      unfold gFX10_rule
      rw [m_isBor R.1 ok, gx_bs, n0]
      cases e : outB x ((Lb c.2.1).length - 1) with
      | true => rw [if_pos (by rw [bI_0]; rfl), bad, n0]
      | false =>
        rw [e, Bool.not_false, Bool.true_and] at hf
        rw [if_neg (by rw [bI_0]; decide), m_isMon R.1 ok, gx_bs, hf, if_pos (by rw [bI_0]), bad, n0]
end
