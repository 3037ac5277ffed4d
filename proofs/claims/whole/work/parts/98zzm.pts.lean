/-! calls: setRule, addPoint, removePoint -/
theorem okC.pt {c : Cf} (o : okC c) {i j : Nat} (hn : c.2.2.2.length < 12) (hi : i < c.1) (hj : j < c.1) (hm : ¬ (i, j) ∈ c.2.2.2) : okC (c.1, c.2.1, c.2.2.1, c.2.2.2 ++ [(i, j)]) := by
  refine ⟨o.1, o.2.1, o.2.2.1, ?_, ?_, ?_⟩
  · show (c.2.2.2 ++ [(i, j)]).length ≤ 12
    rw [List.length_append]
    show c.2.2.2.length + 1 ≤ 12
    omega
  · show (c.2.2.2 ++ [(i, j)]).Nodup
    rw [List.nodup_append]
    refine ⟨o.2.2.2.2.1, by simp, fun x hx y hy e => ?_⟩
    rw [List.mem_singleton.mp hy] at e
    rw [e] at hx
    exact hm hx
  · intro q hq
    have hq : q ∈ c.2.2.2 ++ [(i, j)] := hq
    rw [List.mem_append] at hq
    rcases hq with hq | hq
    · exact o.2.2.2.2.2 q hq
    · rw [List.mem_singleton.mp hq]
      exact ⟨hi, hj⟩
theorem okC.rm {c : Cf} (o : okC c) (k : Nat) : okC (c.1, c.2.1, c.2.2.1, c.2.2.2.eraseIdx k) := by
  refine ⟨o.1, o.2.1, o.2.2.1, ?_, ?_, fun q hq => o.2.2.2.2.2 q (List.mem_of_mem_eraseIdx hq)⟩
  · show (c.2.2.2.eraseIdx k).length ≤ 12
    have h1 := o.2.2.2.1
    rw [List.length_eraseIdx]
    split <;> omega
  · exact List.Nodup.sublist (List.eraseIdx_sublist _ _) o.2.2.2.2.1
theorem pt_small {pts : List (Nat × Nat)} {p : Nat} (hp : p < 1000) (h : pin pts p) : small pts := small_mem fun q hq => by have := h.2.2 q hq; omega
/-- the reference takes a point out -/
theorem m_remove {S : MS} {p : Nat} {ht : Nat → Nat} {r : Nat → Nat → Nat} {pts : List (Nat × Nat)} (H : RC (S.2 1) p ht r pts) (w : wfh ht) (lp : pts.length ≤ 12) {c : Nat} (hc : c < pts.length) : ∃ g, itr (fun s : Int32 × MS => gLX10_removePoint_33 s.1 s.2) (nI c, S) = some (nI (pts.length - 1), ((S.1, setA S.2 1 g) : MS)) ∧ RC g p ht r (pts.eraseIdx c) := by
  have l := Lm_len w
  obtain ⟨h0, hM, hB, h3, hr, hp⟩ := H
  have key : ∃ t, itr (fun s : Int32 × MS => gLX10_removePoint_33 s.1 s.2) (nI c, S) = some t ∧ ∃ g, t = (nI (pts.length - 1), ((S.1, setA S.2 1 g) : MS)) ∧ RC g p ht r (pts.eraseIdx c) := by
    refine itr_run (pts.length - 1 - c) (fun k s => ∃ g, s = (nI (c + k), ((S.1, setA S.2 1 g) : MS)) ∧ (∀ q, q < 224 → g q = S.2 1 q) ∧ (∀ q, q < c → g (224 + q) = S.2 1 (224 + q) ∧ g (236 + q) = S.2 1 (236 + q)) ∧ (∀ q, c ≤ q → q < c + k → g (224 + q) = S.2 1 (224 + (q + 1)) ∧ g (236 + q) = S.2 1 (236 + (q + 1))) ∧ ∀ q, c + k ≤ q → q < 12 → g (224 + q) = S.2 1 (224 + q) ∧ g (236 + q) = S.2 1 (236 + q)) ?_ ?_ ?_
    · exact ⟨S.2 1, by rw [Nat.add_zero, setA_id], fun q _ => rfl, fun q _ => ⟨rfl, rfl⟩, fun q q1 q2 => by omega, fun q _ _ => ⟨rfl, rfl⟩⟩
    · rintro k s hk ⟨g, rfl, k0, k1, k2, k3⟩
      left
      have g3 : g 3 = nI pts.length := by rw [k0 3 (by omega)]; exact h3
      obtain ⟨y1, y2⟩ := k3 (c + k + 1) (by omega) (by omega)
      unfold gLX10_removePoint_33
      dsimp only
      rw [n3, n1, n224, n236, mK_a1 (by omega), gx_bs]
      simp only [mp1, mp2, setA_s, setA_2]
      rw [g3, nI_add, if_neg (by rw [nI_leN (by omega) (by omega)]; omega), nI_add, nI_add, mK_a1 (by omega), gx_bs]
      simp only [mp1, mp2, setA_s, setA_2]
      rw [mK_s1 (by omega), gx_bs]
      simp only [mp1, mp2, setA_s, setA_2]
      rw [nI_add, nI_add, mK_a1 (by omega), gx_bs]
      simp only [mp1, mp2, setA_s, setA_2]
      rw [mK_s1 (by omega), gx_bs]
      simp only [mp1, mp2, setA_s, setA_2]
      refine ⟨_, rfl, _, rfl, fun q hq => ?_, fun q hq => ?_, fun q q1 q2 => ?_, fun q q1 q2 => ?_⟩
      · rw [upd_o (by omega), upd_o (by omega)]; exact k0 q hq
      · rw [upd_o (by omega), upd_o (by omega), upd_o (by omega), upd_o (by omega)]; exact k1 q hq
      · by_cases e : q = c + k
        · subst e
          refine ⟨?_, ?_⟩
          · rw [upd_o (by omega), upd_s]
            exact y1
          · rw [upd_s, upd_o (by omega)]
            exact y2
        · rw [upd_o (by omega), upd_o (by omega), upd_o (by omega), upd_o (by omega)]; exact k2 q q1 (by omega)
      · rw [upd_o (by omega), upd_o (by omega), upd_o (by omega), upd_o (by omega)]; exact k3 q (by omega) q2
    · rintro s ⟨g, rfl, k0, k1, k2, k3⟩
      have g3 : g 3 = nI pts.length := by rw [k0 3 (by omega)]; exact h3
      have el : (pts.eraseIdx c).length = pts.length - 1 := by rw [List.length_eraseIdx, if_pos hc]
      unfold gLX10_removePoint_33
      dsimp only
      rw [n3, n1, mK_a1 (by omega), gx_bs, mp2, setA_s, g3, nI_add, if_pos (by rw [nI_leN (by omega) (by omega)]; omega), gx_bs, mK_s1 (by omega), gx_bs, nI_sub (by omega)]
      simp only [mp1, mp2, setA_s, setA_2]
      rw [mK_a1 (by omega), gx_bs]
      simp only [mp1, mp2, setA_s, setA_2, upd_s]
      refine ⟨_, rfl, _, rfl, ?_, ⟨?_, fun k hk => ?_⟩, ⟨?_, fun k hk => ?_⟩, ?_, fun b k hb hk => ?_, fun k hk => ?_⟩
      · rw [upd_o (by omega), k0 0 (by omega)]; exact h0
      · rw [upd_o (by omega), k0 1 (by omega)]; exact hM.1
      · rw [upd_o (by omega), upd_o (by omega), k0 _ (by omega), k0 _ (by omega)]; exact hM.2 k hk
      · rw [upd_o (by omega), k0 2 (by omega)]; exact hB.1
      · rw [upd_o (by omega), upd_o (by omega), k0 _ (by omega), k0 _ (by omega)]; exact hB.2 k hk
      · rw [upd_s, el]
      · rw [upd_o (by omega), k0 _ (by omega)]; exact hr b k hb hk
      · rw [el] at hk
        unfold mx my
        rw [upd_o (by omega), upd_o (by omega), erase_at]
        by_cases e : k < c
        · rw [if_pos e, (k1 k e).1, (k1 k e).2]
          exact hp k (by omega)
        · rw [if_neg e, (k2 k (by omega) (by omega)).1, (k2 k (by omega) (by omega)).2]
          exact hp (k + 1) (by omega)
  obtain ⟨t, t1, g, rfl, t2⟩ := key
  exact ⟨g, t1, t2⟩
section
variable {a m o : Nat}
theorem o_setRule : St_setRule (INV a m o) a m o := by
  rintro h x y z ⟨rfl, rfl, O, M, c, d, U, V, cnt, L, b, e1, e2, res, HM, C, R⟩
  obtain ⟨⟨B, sz⟩, ⟨⟨S, HS, sS⟩, ok⟩, -, ⟨h8, oU⟩, -⟩ := id C
  have w := ok.2.1
  have l := Lm_len w
  have lp := ok.2.2.2.1
  have pb := prs_b c.1 ok.1
  have gp : hgi h (a + 1) 5 0 = some (nI c.1) := by rw [← sS.1]; exact HS.i0
  have hc := h_hasCoef HS sS ok (x := x) (y := y)
  by_cases hxy : (!outB x ((Lb c.2.1).length - 1) && !outB y ((Lm c.2.1).length - 1)) = true
  · have hx : outB x ((Lb c.2.1).length - 1) = false := by
      cases e : outB x ((Lb c.2.1).length - 1) with
      | false => rfl
      | true => rw [e] at hxy; cases hxy
    have hy : outB y ((Lm c.2.1).length - 1) = false := by
      cases e : outB y ((Lm c.2.1).length - 1) with
      | false => rfl
      | true => rw [e, Bool.and_comm] at hxy; cases hxy
    rw [hxy] at hc
    obtain ⟨i, hi, rfl⟩ := outB_f (by omega) hx
    obtain ⟨k, hk, rfl⟩ := outB_f (by omega) hy
    have hi' : i < (Lb c.2.1).length := by omega
    have hk' : k < (Lm c.2.1).length := by omega
    by_cases hz : outB z (c.1 - 1) = false
    · obtain ⟨v, hv, rfl⟩ := outB_f (by omega) hz
      have co : FX5_coefficient (a + 1) (nI i) (nI k) h = some (nI (c.2.2.1 i k)) := by rw [HS.run (F := FX5_coefficient (a + 1) (nI i) (nI k)) eFX5_coefficient, s_coef sS w hi' hk']
      obtain ⟨h2, k1, C2, D2, k4⟩ := c_begin C (k := 2) (by omega)
      have B2 : BB h2 a := C2.B
      obtain ⟨S2, HS2, sS2⟩ := C2.2.1.1
      obtain ⟨S3, r1, r2⟩ := s_setCoef sS2 w (v := v) hi' hk'
      have st : FX5_setCoefficient (a + 1) (nI i) (nI k) (nI v) h2 = some (bput sK h2 (a + 1) S3) := by rw [HS2.run (F := FX5_setCoefficient (a + 1) (nI i) (nI k) (nI v)) eFX5_setCoefficient, r1, gx_ms]
      obtain ⟨T0, u, p1, p2, p3, p4, p5, p6, p7, p8, p9⟩ := m_keep R h8 (k := 2) (by omega)
      have R1 : RCc (T0.2 1) c := by rw [p3]; exact R.1
      have val : T0.2 1 (56 + 12 * i + k) = nI (c.2.2.1 i k) := by
        rw [Nat.add_assoc]
        exact R1.2.2.2.2.1 i k hi' hk'
      have R2 := m_setRule (v := v) R1 w hi' hk' lp
      have C3 := C2.st (D2 (c.1, c.2.1, (fun b' k' => if b' = i ∧ k' = k then v else c.2.2.1 b' k'), c.2.2.2)) r2 (ok.rule fun b' k' hb' hk' => by
        split
        · omega
        · exact ok.2.2.1 b' k' hb' hk')
      refine ⟨.inl (nI (c.2.2.1 i k), bput sK h2 (a + 1) S3), ?_, B.ob, vt_val (G := FX10_setRule (a + 103) (nI i) (nI k) (nI v)) (g := gFX10_setRule (nI i) (nI k) (nI v)) (M' := ((T0.1, setA T0.2 1 (upd (T0.2 1) (56 + 12 * i + k) (nI v))) : MS)) (fun h S => eFX10_setRule) (O.keep fun x x1 x2 => by rw [bp_else (by show x < a + 1 ∨ a + 1 + 8 < x; omega), k4 x x1 x2]) (mkeep HM fun x x1 x2 => by rw [bp_else (by show x < a + 1 ∨ a + 1 + 8 < x; omega), k4 x x1 x2]) ?_ (by rw [mp1, p2, upd_o (by decide), upd_s]) C3 (R.chg ok h8 oU (by omega) p2 (by rw [mp2, setA_s]; exact R2) (by rw [mp2, setA_o (by decide)]; exact p4) (by rw [mp2, setA_o (by decide)]; exact p5) (fun b hb => by rw [mp2, setA_o (by omega)]; exact p6 b (by omega) (by omega)) p7 p8 p9)⟩
      · unfold FX9_setRule
        rw [n0, n1, n2, B.g0, gx_bs, HS.o5, gx_bs, hc, gx_bs, if_neg (by rw [bI_0]; decide), gx_bs, gp, gx_bs, nI_sub (by omega), q_isOutside, p_out, gx_bs, hz, if_pos (by rw [bI_0]), gx_bs, HS.o5, gx_bs, co, gx_bs, B.ob, gx_bs, k1, gx_bs, B2.g0, gx_bs, HS2.o5, gx_bs, st, gx_bs]
      · unfold gFX10_setRule gBX10_setRule_34 gFX10_ruleAt
        rw [m_isBor R.1 ok, gx_bs, hx, n0, if_neg (by rw [bI_0]; decide), m_isMon R.1 ok, gx_bs, hy, if_neg (by rw [bI_0]; decide), m_isNum R.1.1 (by omega), gx_bs, hz, if_neg (by rw [bI_0]; decide), gx_bs, gpi_1, upd_s, gx_bs, if_pos (by rw [nI_leN (by omega) (by omega)]; omega), n2, p1, gx_bs, n56, n12, nI_mul, nI_add, nI_add, gx_bs, mK_a1 (by omega), gx_bs, gx_bs, mK_s1 (by omega), gx_bs, val]
    · have hz' : outB z (c.1 - 1) = true := by simpa using hz
      refine ⟨.inr ("java/lang/IllegalArgumentException", h), ?_, B.ob, vt_thr (G := FX10_setRule (a + 103) (nI i) (nI k) z) (g := gFX10_setRule (nI i) (nI k) z) (M' := gpi M 0 (nI 2)) (v := nI 0) (k := 2) (fun h S => eFX10_setRule) O HM (Or.inr rfl) (cd2 (by decide)) (by omega) (by omega) ?_ (by rw [gpi_1, upd_s]) C R.t0⟩
      · unfold FX9_setRule
        rw [n0, n1, B.g0, gx_bs, HS.o5, gx_bs, hc, gx_bs, if_neg (by rw [bI_0]; decide), gx_bs, gp, gx_bs, nI_sub (by omega), q_isOutside, p_out, gx_bs, hz', if_neg (by rw [bI_0]; decide)]
      · unfold gFX10_setRule gBX10_setRule_34
        rw [m_isBor R.1 ok, gx_bs, hx, n0, if_neg (by rw [bI_0]; decide), m_isMon R.1 ok, gx_bs, hy, if_neg (by rw [bI_0]; decide), m_isNum R.1.1 (by omega), gx_bs, hz', if_pos (by rw [bI_0]; rfl), gx_bs, gpi_1, upd_s, gx_bs, n2, if_neg (by rw [nI_leN (by omega) (by omega)]; omega)]
  · have hf : (!outB x ((Lb c.2.1).length - 1) && !outB y ((Lm c.2.1).length - 1)) = false := by simpa using hxy
    rw [hf] at hc
    refine ⟨.inr ("java/lang/IndexOutOfBoundsException", h), ?_, B.ob, vt_thr (G := FX10_setRule (a + 103) x y z) (g := gFX10_setRule x y z) (M' := gpi M 0 (nI 1)) (v := nI 0) (k := 1) (fun h S => eFX10_setRule) O HM (Or.inl rfl) cd1 (by omega) (by omega) ?_ (by rw [gpi_1, upd_s]) C R.t0⟩
    · unfold FX9_setRule
      rw [n0, B.g0, gx_bs, HS.o5, gx_bs, hc, gx_bs, if_pos (by rw [bI_0])]
    · have bad : gBX10_setRule_17 x y z M = some (nI 0, gpi M 0 (nI 1)) := by
        unfold gBX10_setRule_17 gBX10_setRule_34
        rw [gx_bs, gpi_1, upd_s, gx_bs, n1, n0, if_neg (by rw [nI_leN (by omega) (by omega)]; omega)]
      unfold gFX10_setRule
      rw [m_isBor R.1 ok, gx_bs, n0]
      cases e : outB x ((Lb c.2.1).length - 1) with
      | true => rw [if_pos (by rw [bI_0]; rfl), bad]
      | false =>
        rw [e, Bool.not_false, Bool.true_and] at hf
        rw [if_neg (by rw [bI_0]; decide), m_isMon R.1 ok, gx_bs, hf, if_pos (by rw [bI_0]), bad]
theorem o_addPoint : St_addPoint (INV a m o) a m o := by
  rintro h x y ⟨rfl, rfl, O, M, c, d, U, V, cnt, L, b, e1, e2, res, HM, C, R⟩
  obtain ⟨⟨B, sz⟩, ⟨⟨S, HS, sS⟩, ok⟩, -, ⟨h8, oU⟩, -⟩ := id C
  have w := ok.2.1
  have l := Lm_len w
  have lp := ok.2.2.2.1
  have pb := prs_b c.1 ok.1
  have sp := pt_small (show c.1 < 1000 by omega) ok.2.2.2
  have gp : hgi h (a + 1) 5 0 = some (nI c.1) := by rw [← sS.1]; exact HS.i0
  have g9 : hgi h (a + 1) 5 9 = some (nI c.2.2.2.length) := by rw [← sS.2.2.2.2.1]; exact HS.i9
  by_cases hxy : (outB x (c.1 - 1) || outB y (c.1 - 1)) = true
  · refine ⟨.inr ("java/lang/IllegalArgumentException", h), ?_, B.ob, vt_thr (G := FX10_addPoint (a + 103) x y) (g := gFX10_addPoint x y) (M' := gpi M 0 (nI 1)) (v := nI 0) (k := 1) (fun h S => eFX10_addPoint) O HM (Or.inl rfl) cd1 (by omega) (by omega) ?_ (by rw [gpi_1, upd_s]) C R.t0⟩
    · unfold FX9_addPoint BX9_addPoint_32
      rw [n1, B.g0, gx_bs, gp, gx_bs, nI_sub (by omega), q_isOutside, p_out, gx_bs]
      cases hx : outB x (c.1 - 1) with
      | true => rw [if_neg (by rw [bF]; decide)]
      | false =>
        rw [hx, Bool.false_or] at hxy
        rw [if_pos (by rw [bF]), gx_bs, gp, gx_bs, nI_sub (by omega), q_isOutside, p_out, gx_bs, hxy, if_neg (by rw [bF]; decide)]
    · unfold gFX10_addPoint gBX10_addPoint_17 gBX10_addPoint_47
      rw [m_isNum R.1.1 (by omega), gx_bs, n0]
      cases hx : outB x (c.1 - 1) with
      | true => rw [if_pos (by rw [bI_0]; rfl), gx_bs, gpi_1, upd_s, gx_bs, n1, if_neg (by rw [nI_leN (by omega) (by omega)]; omega)]
      | false =>
        rw [hx, Bool.false_or] at hxy
        rw [if_neg (by rw [bI_0]; decide), m_isNum R.1.1 (by omega), gx_bs, hxy, if_pos (by rw [bI_0]; rfl), gx_bs, gpi_1, upd_s, gx_bs, n1, if_neg (by rw [nI_leN (by omega) (by omega)]; omega)]
  · have hx : outB x (c.1 - 1) = false := by cases hq : outB x (c.1 - 1) with | false => rfl | true => rw [hq] at hxy; exact absurd rfl hxy
    have hy : outB y (c.1 - 1) = false := by cases hq : outB y (c.1 - 1) with | false => rfl | true => rw [hq, Bool.or_true] at hxy; exact absurd rfl hxy
    obtain ⟨i, hi, rfl⟩ := outB_f (by omega) hx
    obtain ⟨j, hj, rfl⟩ := outB_f (by omega) hy
    have hp : FX5_hasPoint (a + 1) (nI i) (nI j) h = some (bI (decide ((i, j) ∈ c.2.2.2))) := by rw [HS.run (F := FX5_hasPoint (a + 1) (nI i) (nI j)) eFX5_hasPoint, s_hasPoint sS lp sp (by omega) (by omega)]
    have rp : gFX10_pointAt (nI i) (nI j) M = some (ixI c.2.2.2 (i, j)) := m_pointAt R.1 lp sp (by omega) (by omega)
    have r3 : gal mK M 1 (nI 3) = some (nI c.2.2.2.length) := by rw [mK_a1 (by omega), R.1.2.2.2.1]
    have cls : FX9_addPoint a (nI i) (nI j) h = if nI 12 ≤ nI c.2.2.2.length then some (.inr ("java/lang/IllegalStateException", h)) else if bI (decide ((i, j) ∈ c.2.2.2)) = nI 0 then (FX9_beginChange a (nI 3) h).bind fun h13 => (hgr h13 a 9 0).bind fun x14 => (isO h13 x14 5).bind fun _ => (FX5_appendPoint x14 (nI i) (nI j) h13).bind fun h16 => (hgr h16 a 9 0).bind fun x17 => (hgi h16 x17 5 9).bind fun x18 => some (.inl ((x18 - nI 1), h16)) else some (.inr ("java/lang/IllegalStateException", h)) := by
      unfold FX9_addPoint BX9_addPoint_64
      rw [n0, n1, n3, n12, B.g0, gx_bs, gp, gx_bs, nI_sub (by omega), q_isOutside, p_out, gx_bs, hx, if_pos (by rw [bI_0]), gx_bs, gp, gx_bs, nI_sub (by omega), q_isOutside, p_out, gx_bs, hy, if_pos (by rw [bI_0]), gx_bs, g9, gx_bs, gx_bs, HS.o5, gx_bs, hp, gx_bs, B.ob, gx_bs]
    have ref : gFX10_addPoint (nI i) (nI j) M = if ixI c.2.2.2 (i, j) = m1 then (if nI c.2.2.2.length = nI 12 then gBX10_addPoint_47 (nI i) (nI j) (nI 2) M else gBX10_addPoint_47 (nI i) (nI j) (nI 0) M) else gBX10_addPoint_47 (nI i) (nI j) (nI 2) M := by
      unfold gFX10_addPoint gBX10_addPoint_42
      rw [m_isNum R.1.1 (by omega), gx_bs, hx, n0, if_neg (by rw [bI_0]; decide), m_isNum R.1.1 (by omega), gx_bs, hy, if_neg (by rw [bI_0]; decide), rp, gx_bs, n1, nm1, n2, n3, n12, r3, gx_bs]
    have thr : gBX10_addPoint_47 (nI i) (nI j) (nI 2) M = some (nI 0, gpi M 0 (nI 2)) := by
      unfold gBX10_addPoint_47
      rw [gx_bs, gpi_1, upd_s, gx_bs, n0, if_neg (by rw [nI_leN (by omega) (by omega)]; omega)]
    have bad : (c.2.2.2.length = 12 ∨ (i, j) ∈ c.2.2.2) → ∃ r, FX9_addPoint a (nI i) (nI j) h = some r ∧ isO h a 9 = some () ∧ VT a (fun E => E = "java/lang/IllegalArgumentException" ∨ E = "java/lang/IllegalStateException") "java/lang/IllegalArgumentException" (FX10_addPoint (a + 103) (nI i) (nI j)) r := fun q => by
      refine ⟨.inr ("java/lang/IllegalStateException", h), ?_, B.ob, vt_thr (g := gFX10_addPoint (nI i) (nI j)) (M' := gpi M 0 (nI 2)) (v := nI 0) (k := 2) (fun h S => eFX10_addPoint) O HM (Or.inr rfl) (cd2 (by decide)) (by omega) (by omega) ?_ (by rw [gpi_1, upd_s]) C R.t0⟩
      · rw [cls]
        by_cases e12 : c.2.2.2.length = 12
        · rw [if_pos (by rw [nI_leN (by omega) (by omega)]; omega)]
        · rw [if_neg (by rw [nI_leN (by omega) (by omega)]; omega), if_neg (by rw [bI_0, decide_eq_true (q.resolve_left e12)]; decide)]
      · rw [ref]
        by_cases hm : (i, j) ∈ c.2.2.2
        · rw [if_neg (by rw [ixI_m1 (by omega)]; exact fun z => z hm), thr]
        · rw [if_pos (by rw [ixI_m1 (by omega)]; exact hm), if_pos (by rw [q.resolve_right hm]), thr]
    by_cases e12 : c.2.2.2.length = 12
    · exact bad (Or.inl e12)
    · by_cases hm : (i, j) ∈ c.2.2.2
      · exact bad (Or.inr hm)
      · obtain ⟨h2, k1, C2, D2, k4⟩ := c_begin C (k := 3) (by omega)
        have B2 : BB h2 a := C2.B
        obtain ⟨S2, HS2, sS2⟩ := C2.2.1.1
        obtain ⟨S3, r1, r2⟩ := s_appendPoint sS2 (show c.2.2.2.length < 12 by omega) i j
        have st : FX5_appendPoint (a + 1) (nI i) (nI j) h2 = some (bput sK h2 (a + 1) S3) := by rw [HS2.run (F := FX5_appendPoint (a + 1) (nI i) (nI j)) eFX5_appendPoint, r1, gx_ms]
        have C3 := C2.st (D2 (c.1, c.2.1, c.2.2.1, c.2.2.2 ++ [(i, j)])) r2 (ok.pt (by omega) (by omega) (by omega) hm)
        have B3 : BB (bput sK h2 (a + 1) S3) a := C3.B
        have g93 : hgi (bput sK h2 (a + 1) S3) (a + 1) 5 9 = some (nI (c.2.2.2.length + 1)) := by
          have e : S3.1 9 = nI (c.2.2.2 ++ [(i, j)]).length := r2.2.2.2.2.1
          rw [List.length_append] at e
          have e : S3.1 9 = nI (c.2.2.2.length + 1) := e
          rw [← e]
          exact bH.i9 bH.put
        obtain ⟨T0, u, p1, p2, p3, p4, p5, p6, p7, p8, p9⟩ := m_keep R h8 (k := 3) (by omega)
        obtain ⟨g, j1, j2⟩ := m_putsPoint (S := T0) (by rw [p3]; exact R.1) w (show c.2.2.2.length < 12 by omega) i j
        refine ⟨.inl (nI c.2.2.2.length, bput sK h2 (a + 1) S3), ?_, B.ob, vt_val (G := FX10_addPoint (a + 103) (nI i) (nI j)) (g := gFX10_addPoint (nI i) (nI j)) (M' := ((T0.1, setA T0.2 1 g) : MS)) (fun h S => eFX10_addPoint) (O.keep fun x x1 x2 => by rw [bp_else (by show x < a + 1 ∨ a + 1 + 8 < x; omega), k4 x x1 x2]) (mkeep HM fun x x1 x2 => by rw [bp_else (by show x < a + 1 ∨ a + 1 + 8 < x; omega), k4 x x1 x2]) ?_ (by rw [mp1, p2, upd_o (by decide), upd_s]) C3 (R.chg ok h8 oU (by omega) p2 (by rw [mp2, setA_s]; exact j2) (by rw [mp2, setA_o (by decide)]; exact p4) (by rw [mp2, setA_o (by decide)]; exact p5) (fun b hb => by rw [mp2, setA_o (by omega)]; exact p6 b (by omega) (by omega)) p7 p8 p9)⟩
        · rw [cls, if_neg (by rw [nI_leN (by omega) (by omega)]; omega), if_pos (by rw [bI_0, decide_eq_false hm]), k1, gx_bs, B2.g0, gx_bs, HS2.o5, gx_bs, st, gx_bs, B3.g0, gx_bs, g93, gx_bs, nI_sub (by omega)]
          rfl
        · rw [ref, if_pos (by rw [ixI_m1 (by omega)]; exact hm), if_neg (by rw [nI_eqN (by omega) (by omega)]; exact e12)]
          unfold gBX10_addPoint_47
          rw [gx_bs, gpi_1, upd_s, gx_bs, n0, n3, if_pos (by rw [nI_leN (by omega) (by omega)]; omega), p1, gx_bs, j1, b2s]
theorem o_removePoint : St_removePoint (INV a m o) a m o := by
  rintro h x ⟨rfl, rfl, O, M, c, d, U, V, cnt, L, b, e1, e2, res, HM, C, R⟩
  obtain ⟨⟨B, sz⟩, ⟨⟨S, HS, sS⟩, ok⟩, -, ⟨h8, oU⟩, -⟩ := id C
  have w := ok.2.1
  have lp := ok.2.2.2.1
  have g9 : hgi h (a + 1) 5 9 = some (nI c.2.2.2.length) := by rw [← sS.2.2.2.2.1]; exact HS.i9
  by_cases hx : (decide (0 < c.2.2.2.length) && !outB x (c.2.2.2.length - 1)) = true
  · have h0 : 0 < c.2.2.2.length := by
      have z := hx
      rw [Bool.and_eq_true, decide_eq_true_eq] at z
      exact z.1
    have hx' : outB x (c.2.2.2.length - 1) = false := by
      have z := hx
      rw [Bool.and_eq_true, Bool.not_eq_true'] at z
      exact z.2
    obtain ⟨k, hk, rfl⟩ := outB_f (by omega) hx'
    have hk' : k < c.2.2.2.length := by omega
    obtain ⟨h2, k1, C2, D2, k4⟩ := c_begin C (k := 4) (by omega)
    have B2 : BB h2 a := C2.B
    obtain ⟨S2, HS2, sS2⟩ := C2.2.1.1
    obtain ⟨S3, r1, r2⟩ := s_deletePoint sS2 lp hk'
    have st : FX5_deletePoint (a + 1) (nI k) h2 = some (bput sK h2 (a + 1) S3) := by rw [HS2.run (F := FX5_deletePoint (a + 1) (nI k)) eFX5_deletePoint, r1, gx_ms]
    have C3 := C2.st (D2 (c.1, c.2.1, c.2.2.1, c.2.2.2.eraseIdx k)) r2 (ok.rm k)
    have B3 : BB (bput sK h2 (a + 1) S3) a := C3.B
    have g93 : hgi (bput sK h2 (a + 1) S3) (a + 1) 5 9 = some (nI (c.2.2.2.length - 1)) := by
      have e : S3.1 9 = nI (c.2.2.2.eraseIdx k).length := r2.2.2.2.2.1
      rw [List.length_eraseIdx, if_pos hk'] at e
      rw [← e]
      exact bH.i9 bH.put
    obtain ⟨T0, u, p1, p2, p3, p4, p5, p6, p7, p8, p9⟩ := m_keep R h8 (k := 4) (by omega)
    obtain ⟨g, j1, j2⟩ := m_remove (S := T0) (by rw [p3]; exact R.1) w lp hk'
    refine ⟨.inl (nI (c.2.2.2.length - 1), bput sK h2 (a + 1) S3), ?_, B.ob, vt_val (G := FX10_removePoint (a + 103) (nI k)) (g := gFX10_removePoint (nI k)) (M' := ((T0.1, setA T0.2 1 g) : MS)) (fun h S => eFX10_removePoint) (O.keep fun x x1 x2 => by rw [bp_else (by show x < a + 1 ∨ a + 1 + 8 < x; omega), k4 x x1 x2]) (mkeep HM fun x x1 x2 => by rw [bp_else (by show x < a + 1 ∨ a + 1 + 8 < x; omega), k4 x x1 x2]) ?_ (by rw [mp1, p2, upd_o (by decide), upd_s]) C3 (R.chg ok h8 oU (by omega) p2 (by rw [mp2, setA_s]; exact j2) (by rw [mp2, setA_o (by decide)]; exact p4) (by rw [mp2, setA_o (by decide)]; exact p5) (fun b hb => by rw [mp2, setA_o (by omega)]; exact p6 b (by omega) (by omega)) p7 p8 p9)⟩
    · unfold FX9_removePoint
      rw [n0, n4, if_neg (by rw [nI_lt0 (by omega)]; exact id), B.g0, gx_bs, g9, gx_bs, if_pos (by rw [nI_ltN (by omega) (by omega)]; omega), B.ob, gx_bs, k1, gx_bs, B2.g0, gx_bs, HS2.o5, gx_bs, st, gx_bs, B3.g0, gx_bs, g93, gx_bs]
    · unfold gFX10_removePoint gBX10_removePoint_14
      rw [m_isPt R.1 ok, gx_bs, hx, n0, if_neg (by rw [bI_0]; decide), gx_bs, gpi_1, upd_s, gx_bs, if_pos (by rw [nI_leN (by omega) (by omega)]; omega), n4, p1, gx_bs, j1]
  · have hf : (decide (0 < c.2.2.2.length) && !outB x (c.2.2.2.length - 1)) = false := by simpa using hx
    refine ⟨.inr ("java/lang/IndexOutOfBoundsException", h), ?_, B.ob, vt_thr (G := FX10_removePoint (a + 103) x) (g := gFX10_removePoint x) (M' := gpi M 0 (nI 1)) (v := nI 0) (k := 1) (fun h S => eFX10_removePoint) O HM rfl cd1 (by omega) (by omega) ?_ (by rw [gpi_1, upd_s]) C R.t0⟩
    · unfold FX9_removePoint BX9_removePoint_15
      rcases i_cases x with hn | ⟨k, hk, rfl⟩
      · rw [n0, if_pos hn]
      · have bad : ¬ k < c.2.2.2.length := fun z => by
          apply hx
          rw [decide_eq_true (by omega), Bool.true_and, outB_k hk (by omega), decide_eq_false (by omega)]
          rfl
        rw [n0, if_neg (by rw [nI_lt0 hk]; exact id), B.g0, gx_bs, g9, gx_bs, if_neg (by rw [nI_ltN (by omega) (by omega)]; omega)]
    · unfold gFX10_removePoint gBX10_removePoint_14
      rw [m_isPt R.1 ok, gx_bs, hf, n0, if_pos (by rw [bI_0]), gx_bs, gpi_1, upd_s, gx_bs, n1, if_neg (by rw [nI_leN (by omega) (by omega)]; omega)]
end
