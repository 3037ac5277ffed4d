/-! calls: table, normal, value, point -/
section
variable {a m o : Nat}
theorem o_table : St_table (INV a m o) a m o := by
  rintro h x y z ⟨rfl, rfl, O, M, c, d, U, V, cnt, L, b, e1, e2, res, HM, C, R⟩
  obtain ⟨⟨B, sz⟩, ⟨⟨S, HS, sS⟩, ok⟩, -, -, -, -, D, -⟩ := id C
  have pb := prs_b c.1 ok.1
  have l := Lm_len ok.2.1
  have g2 : hgi h (a + 1) 5 2 = some (nI (Lm c.2.1).length) := by rw [← sS.2.2.1.1]; exact HS.i2
  by_cases hyz : (outB y ((Lm c.2.1).length - 1) || outB z ((Lm c.2.1).length - 1)) = true
  · refine ⟨.inr ("java/lang/IndexOutOfBoundsException", h), ?_, B.ob, vt_thr (G := FX10_table (a + 103) x y z) (g := gFX10_table x y z) (M' := gpi M 0 (nI 1)) (v := nI 0) (k := 1) (fun h S => eFX10_table) O HM (Or.inl rfl) cd1 (by omega) (by omega) ?_ (by rw [gpi_1, upd_s]) C R.t0⟩
    · unfold FX9_table BX9_table_32
      rw [n1, B.g0, gx_bs, g2, gx_bs, nI_sub (by omega), q_isOutside, p_out, gx_bs]
      cases hy : outB y ((Lm c.2.1).length - 1) with
      | true => rw [if_neg (by rw [bF]; decide)]
      | false =>
        rw [hy, Bool.false_or] at hyz
        rw [if_pos (by rw [bF]), gx_bs, g2, gx_bs, nI_sub (by omega), q_isOutside, p_out, gx_bs, hyz, if_neg (by rw [bF]; decide)]
    · unfold gFX10_table gBX10_table_17 gBX10_table_33
      rw [m_isMon R.1 ok, gx_bs, n0]
      cases hy : outB y ((Lm c.2.1).length - 1) with
      | true => rw [if_pos (by rw [bI_0]; rfl), gx_bs, gx_bs, n1, gpi_1, upd_s, if_neg (by rw [nI_leN (by omega) (by omega)]; omega)]
      | false =>
        rw [hy, Bool.false_or] at hyz
        rw [if_neg (by rw [bI_0]; decide), m_isMon R.1 ok, gx_bs, hyz, if_pos (by rw [bI_0]; rfl), gx_bs, gx_bs, n1, gpi_1, upd_s, if_neg (by rw [nI_leN (by omega) (by omega)]; omega)]
  · have hy : outB y ((Lm c.2.1).length - 1) = false := by cases hq : outB y ((Lm c.2.1).length - 1) with | false => rfl | true => rw [hq] at hyz; exact absurd rfl hyz
    have hz : outB z ((Lm c.2.1).length - 1) = false := by cases hq : outB z ((Lm c.2.1).length - 1) with | false => rfl | true => rw [hq, Bool.or_true] at hyz; exact absurd rfl hyz
    obtain ⟨i, hi, rfl⟩ := outB_f (by omega) hy
    obtain ⟨j, hj, rfl⟩ := outB_f (by omega) hz
    by_cases hx : outB x 1 = true
    · refine ⟨.inr ("java/lang/IllegalArgumentException", h), ?_, B.ob, vt_thr (G := FX10_table (a + 103) x (nI i) (nI j)) (g := gFX10_table x (nI i) (nI j)) (M' := gpi M 0 (nI 2)) (v := nI 0) (k := 2) (fun h S => eFX10_table) O HM (Or.inr rfl) (cd2 (by decide)) (by omega) (by omega) ?_ (by rw [gpi_1, upd_s]) C R.t0⟩
      · unfold FX9_table
        rw [n1, B.g0, gx_bs, g2, gx_bs, nI_sub (by omega), q_isOutside, p_out, gx_bs, hy, if_pos (by rw [bF]), gx_bs, g2, gx_bs, nI_sub (by omega), q_isOutside, p_out, gx_bs, hz, if_pos (by rw [bF]), q_isOutside, p_out, gx_bs, hx, if_neg (by rw [bF]; decide)]
      · unfold gFX10_table gBX10_table_33
        rw [m_isMon R.1 ok, gx_bs, n0, hy, if_neg (by rw [bI_0]; decide), m_isMon R.1 ok, gx_bs, hz, if_neg (by rw [bI_0]; decide), m_isVar, gx_bs, hx, if_pos (by rw [bI_0]; rfl), gx_bs, gx_bs, n2, gpi_1, upd_s, if_neg (by rw [nI_leN (by omega) (by omega)]; omega)]
    · have hx' : outB x 1 = false := by simpa using hx
      obtain ⟨k, hk, rfl⟩ := outB_f (by omega) hx'
      obtain ⟨ds, ft, T0, -⟩ := id D
      obtain ⟨h1, k1, k2, k3⟩ := h_prepare T0 HS sS ok.2.1 (by omega) (by omega) ok.2.2.1 (by omega)
      obtain ⟨q, q1, q2, -⟩ := TP.pick k3 hk
      have at1 := q2.at z1212 (r := i) (c := j) (by omega) (by omega)
      have R0 : RCc ((gpi M 0 (nI 0)).2 1) c := by rw [gpi_2]; exact R.1
      obtain ⟨T, t1, t2, t3, t4⟩ := m_laysTables R0 ok.2.1
      refine ⟨.inl (nI (pickM k (tabM c.2.1 c.2.2.1 1 0) (tabM c.2.1 c.2.2.1 0 1) i j), h1), ?_, B.ob, vt_val (G := FX10_table (a + 103) (nI k) (nI i) (nI j)) (g := gFX10_table (nI k) (nI i) (nI j)) (M' := T) (fun h S => eFX10_table) (O.keep fun x _ _ => k2.2 x (by omega)) (mkeep HM fun x _ _ => k2.2 x (by omega)) ?_ (by rw [t2.1, gpi_1, upd_s]) (C.tc (k2.mono (Nat.le_refl _) (by omega)) k3) (R.on t2 fun b hb => by omega)⟩
      · unfold FX9_table
        rw [n1, B.g0, gx_bs, g2, gx_bs, nI_sub (by omega), q_isOutside, p_out, gx_bs, hy, if_pos (by rw [bF]), gx_bs, g2, gx_bs, nI_sub (by omega), q_isOutside, p_out, gx_bs, hz, if_pos (by rw [bF]), q_isOutside, p_out, gx_bs, hx', if_pos (by rw [bF]), B.g7, gx_bs, TI.ob T0, gx_bs]
        unfold FX6_cell
        rw [TI.ob T0, gx_bs, k1, gx_bs, TP.ob k3, gx_bs, q1, gx_bs, q2.ob, gx_bs, at1, gx_bs, b2s]
      · unfold gFX10_table gBX10_table_33 gBX10_table_64
        rw [m_isMon R.1 ok, gx_bs, n0, hy, if_neg (by rw [bI_0]; decide), m_isMon R.1 ok, gx_bs, hz, if_neg (by rw [bI_0]; decide), m_isVar, gx_bs, hx', if_neg (by rw [bI_0]; decide), gx_bs, gx_bs, gpi_1, upd_s, if_pos (by rw [nI_leN (by omega) (by omega)]; omega), t1, gx_bs, m_cell, gx_bs, gx_bs]
        unfold pickM
        by_cases e : k = 0
        · rw [if_pos (by rw [e]), if_pos e, mK_a10 (by omega), gx_bs, t3 i j (by omega) (by omega)]
        · rw [if_neg (by rw [nI_eqN (by omega) (by omega)]; exact e), if_neg e, gal_ok (N := 144) L11 (by omega) (by omega), gx_bs, t4 i j (by omega) (by omega)]
theorem o_normal : St_normal (INV a m o) a m o := by
  rintro h x y z ⟨rfl, rfl, O, M, c, d, U, V, cnt, L, b, e1, e2, res, HM, C, R⟩
  obtain ⟨⟨B, sz⟩, ⟨⟨S, HS, sS⟩, ok⟩, -, -, -, -, D, -, -, -, g0, hg0⟩ := id C
  have pb := prs_b c.1 ok.1
  have l := Lm_len ok.2.1
  have g2 : hgi h (a + 1) 5 2 = some (nI (Lm c.2.1).length) := by rw [← sS.2.2.1.1]; exact HS.i2
  by_cases hz : outB z ((Lm c.2.1).length - 1) = true
  · refine ⟨.inr ("java/lang/IndexOutOfBoundsException", h), ?_, B.ob, vt_thr (G := FX10_normal (a + 103) x y z) (g := gFX10_normal x y z) (M' := gpi M 0 (nI 1)) (v := nI 0) (k := 1) (fun h S => eFX10_normal) O HM (Or.inl rfl) cd1 (by omega) (by omega) ?_ (by rw [gpi_1, upd_s]) C R.t0⟩
    · unfold FX9_normal BX9_normal_15
      rcases i_cases z with hn | ⟨k, hk, rfl⟩
      · rw [n0, if_pos hn]
      · rw [outB_k hk (by omega)] at hz
        have := of_decide_eq_true hz
        rw [n0, if_neg (by rw [nI_lt0 hk]; exact id), B.g0, gx_bs, g2, gx_bs, if_neg (by rw [nI_ltN (by omega) (by omega)]; omega)]
    · unfold gFX10_normal gBX10_normal_26
      rw [m_isMon R.1 ok, gx_bs, hz, n0, if_pos (by rw [bI_0]; rfl), gx_bs, gx_bs, n1, gpi_1, upd_s, if_neg (by rw [nI_leN (by omega) (by omega)]; omega)]
  · have hz' : outB z ((Lm c.2.1).length - 1) = false := by simpa using hz
    obtain ⟨k, hk, rfl⟩ := outB_f (by omega) hz'
    by_cases hxy : (!outB x 22 && !outB y 22) = true
    · have hx : outB x 22 = false := by
        cases e : outB x 22 with
        | false => rfl
        | true => rw [e] at hxy; cases hxy
      have hy : outB y 22 = false := by
        cases e : outB y 22 with
        | false => rfl
        | true => rw [e, Bool.and_comm] at hxy; cases hxy
      obtain ⟨i, hi, rfl⟩ := outB_f (by omega) hx
      obtain ⟨j, hj, rfl⟩ := outB_f (by omega) hy
      obtain ⟨ds, ft, T0, X0, -⟩ := id D
      obtain ⟨h1, k1, k2, k3⟩ := h_prepare T0 HS sS ok.2.1 (by omega) (by omega) ok.2.2.1 (by omega)
      have HS1 : bH sK h1 (a + 1) S := HS.ex k2 (by show a + 1 + 8 < a + 35 ∨ _; omega)
      have B1 : BB h1 a := B.fr (k2.2 a (by omega))
      have X1 : TX h1 (a + 35) := X0.same fun x x1 x2 => k2.2 x (by omega)
      obtain ⟨gs, hgs⟩ := X1.2.2.1
      obtain ⟨h2, f', g', w1, w2, w3, w4, w5, -⟩ := h_normal k3 HS1 sS.1 (by omega) (by omega) (by omega) (by omega) (by omega) ok.X ok.Y (i := i) (j := j) (c := a + 102) (by rw [k2.2 _ (by omega)]; exact hg0) hgs (Or.inl (by omega)) (by omega) (by omega)
      have B2 : BB h2 a := B1.fr (w2.2 a (by omega) (by omega))
      have kc : ∀ y, (y < a + 35 ∨ a + 47 < y) → y ≠ a + 102 → y ≠ a + 64 → h2.2 y = h.2 y := fun y y1 y2 y3 => by rw [w2.2 y y2 (by omega), k2.2 y (by omega)]
      have R0 : RCc ((gpi M 0 (nI 0)).2 1) c := by rw [gpi_2]; exact R.1
      obtain ⟨T, t1, t2, t3, t4⟩ := m_laysTables R0 ok.2.1
      have e1' : T.2 1 = M.2 1 := by rw [t2.2 1 (by omega), gpi_2]
      obtain ⟨T', u1, u2, u3, -⟩ := m_laysNormal (S := T) (p := c.1) (n := (Lm c.2.1).length) (by rw [e1']; exact R.1.1) (by rw [e1']; exact R.1.2.1.1) (by omega) (by omega) (by omega) t3 t4 ok.X ok.Y (i := i) (j := j) (by omega) (by omega)
      have oT : only (gpi M 0 (nI 0)) T' (fun b => b = 10 ∨ b = 11 ∨ b = 16 ∨ b = 17) := (t2.mono fun b hb => by omega).tr (u2.mono fun b hb => by omega)
      refine ⟨.inl (nI (norV (Lm c.2.1).length c.1 (tabM c.2.1 c.2.2.1 1 0) (tabM c.2.1 c.2.2.1 0 1) i j k), h2), ?_, B.ob, vt_val (G := FX10_normal (a + 103) (nI i) (nI j) (nI k)) (g := gFX10_normal (nI i) (nI j) (nI k)) (M' := T') (fun h S => eFX10_normal) (O.keep fun x _ _ => kc x (by omega) (by omega) (by omega)) (mkeep HM fun x _ _ => kc x (by omega) (by omega) (by omega)) ?_ (by rw [oT.1, gpi_1, upd_s]) (C.dq (fun x x1 x2 => kc x (by omega) x2 (by omega)) (w2.1.trans k2.1) (D.tab (fun x hx => kc x (by omega) (by omega) (by omega)) (Nat.le_of_eq (w2.1.trans k2.1).symm) (Or.inl (TP.same k3 fun x x1 x2 => w2.2 x (by omega) (by omega))) fun X => ⟨X.1.same fun x x1 x2 => kc x (by omega) (by omega) (by omega), ?_, ⟨g', w4⟩, X.2.2.2.same fun x x1 x2 => kc x (by omega) (by omega) (by omega)⟩) ⟨f', w3⟩) (R.on oT fun b hb => by omega)⟩
      · unfold FX9_normal
        rw [n0, if_neg (by rw [nI_lt0 (by omega)]; exact id), B.g0, gx_bs, g2, gx_bs, if_pos (by rw [nI_ltN (by omega) (by omega)]; omega), n22, q_isOutside, p_out, gx_bs, hx, if_pos (by rw [bI_0]), q_isOutside, p_out, gx_bs, hy, if_pos (by rw [bI_0]), B.g7, gx_bs, TI.ob T0, gx_bs, k1, gx_bs, B1.g7, gx_bs, B1.g13, gx_bs, TP.ob k3, gx_bs, w1, gx_bs, B2.g13, gx_bs, hal_ar w3 (by omega) (by omega), gx_bs, w5 k (by omega)]
      · unfold gFX10_normal gBX10_normal_26
        rw [m_isMon R.1 ok, gx_bs, hz', n0, if_neg (by rw [bI_0]; decide), m_arePow, hxy, gx_bs, if_neg (by rw [bI_0]; decide), gx_bs, gx_bs, gpi_1, upd_s, if_pos (by rw [nI_leN (by omega) (by omega)]; omega), t1, gx_bs, u1, gx_bs, mK_a16 (by omega), gx_bs, u3 k (by omega)]
      · obtain ⟨f, hf⟩ := X.2.1
        exact ⟨f, by rw [kc _ (by omega) (by omega) (by omega)]; exact hf⟩
    · have hf : (!outB x 22 && !outB y 22) = false := by simpa using hxy
      refine ⟨.inr ("java/lang/IllegalArgumentException", h), ?_, B.ob, vt_thr (G := FX10_normal (a + 103) x y (nI k)) (g := gFX10_normal x y (nI k)) (M' := gpi M 0 (nI 2)) (v := nI 0) (k := 2) (fun h S => eFX10_normal) O HM (Or.inr rfl) (cd2 (by decide)) (by omega) (by omega) ?_ (by rw [gpi_1, upd_s]) C R.t0⟩
      · unfold FX9_normal BX9_normal_41
        rw [n0, if_neg (by rw [nI_lt0 (by omega)]; exact id), B.g0, gx_bs, g2, gx_bs, if_pos (by rw [nI_ltN (by omega) (by omega)]; omega), n22, q_isOutside, p_out, gx_bs]
        cases hx : outB x 22 with
        | true => rw [if_neg (by rw [bI_0]; decide)]
        | false =>
          rw [hx, Bool.not_false, Bool.true_and] at hf
          have hy : outB y 22 = true := by cases e : outB y 22 with | true => rfl | false => rw [e] at hf; cases hf
          rw [if_pos (by rw [bI_0]), q_isOutside, p_out, gx_bs, hy, if_neg (by rw [bI_0]; decide)]
      · unfold gFX10_normal gBX10_normal_26
        rw [m_isMon R.1 ok, gx_bs, hz', n0, if_neg (by rw [bI_0]; decide), m_arePow, hf, gx_bs, if_pos (by rw [bI_0]), gx_bs, gx_bs, n2, gpi_1, upd_s, if_neg (by rw [nI_leN (by omega) (by omega)]; omega)]
end
/-! calls: value, point -/
section
variable {h : jx_H} {a : Nat} {c : Cf}
/-- the class moves its spot -/
theorem h_move {S : MS} (D : DER h a c) (HS : bH sK h (a + 1) S) (sS : STc S c) (o : okC c) {i j : Nat} (hi : i < c.1) (hj : j < c.1) : ∃ h' P, FX4_moveTo (a + 32) (nI i) (nI j) (nI c.1) h = some h' ∧ isO h (a + 32) 4 = some () ∧ exc h h' (a + 32) (a + 34) ∧ bH pK h' (a + 32) P ∧ bH sK h' (a + 1) S ∧ P.1 2 = nI c.1 ∧ VA (P.2 1) i c.1 ∧ VA (P.2 2) j c.1 := by
  obtain ⟨ds, ft, -, -, ⟨P, HP⟩, -⟩ := D
  have pb := prs_b c.1 o.1
  obtain ⟨P1, m1', m2, m3, m4⟩ := s_moveTo (S := P) (p := c.1) (by omega) (by omega) hi hj
  have x1 : exc h (bput pK h (a + 32) P1) (a + 32) (a + 34) := exc.bput
  refine ⟨bput pK h (a + 32) P1, P1, ?_, HP.o4, x1, bH.put, HS.ex x1 (by show a + 1 + 8 < a + 32 ∨ _; omega), m2, m3, m4⟩
  rw [HP.run (F := FX4_moveTo (a + 32) (nI i) (nI j) (nI c.1)) eFX4_moveTo, m1', gx_ms]
variable {d : Nat} {U : Nat → Cf} {V : Nat → Option Cf} {cnt : Nat → Int32} {L : Nat} {b : Nat → Nat} {e1 e2 : Int32} {res : Nat → Int32} {h' : jx_H}
theorem CLS.mv (C : CLS h a c d U V cnt L b e1 e2 res) (x : exc h h' (a + 32) (a + 34)) {P : MS} (HP : bH pK h' (a + 32) P) : CLS h' a c d U V cnt L b e1 e2 res := by
  have D := C.2.2.2.2.2.2.1
  obtain ⟨g, hg⟩ := C.2.2.2.2.2.2.2.2.2.2
  exact C.dq (fun y y1 _ => x.2 y (by omega)) x.1 (D.sp (fun y hy => x.2 y (by omega)) (Nat.le_of_eq x.1.symm) ⟨P, HP⟩) ⟨g, by rw [x.2 _ (by omega)]; exact hg⟩
end
section
variable {a m o : Nat}
theorem o_value : St_value (INV a m o) a m o := by
  rintro h x y z ⟨rfl, rfl, O, M, c, d, U, V, cnt, L, b, e1, e2, res, HM, C, R⟩
  obtain ⟨⟨B, sz⟩, ⟨⟨S, HS, sS⟩, ok⟩, -, -, -, -, D, -⟩ := id C
  have pb := prs_b c.1 ok.1
  have l := Lm_len ok.2.1
  have g5 : hgi h (a + 1) 5 5 = some (nI (Lb c.2.1).length) := by rw [← sS.2.2.1.2.1]; exact HS.i5
  have gp : hgi h (a + 1) 5 0 = some (nI c.1) := by rw [← sS.1]; exact HS.i0
  by_cases hx : outB x ((Lb c.2.1).length - 1) = true
  · refine ⟨.inr ("java/lang/IndexOutOfBoundsException", h), ?_, B.ob, vt_thr (G := FX10_value (a + 103) x y z) (g := gFX10_value x y z) (M' := gpi M 0 (nI 1)) (v := nI 0) (k := 1) (fun h S => eFX10_value) O HM (Or.inl rfl) cd1 (by omega) (by omega) ?_ (by rw [gpi_1, upd_s]) C R.t0⟩
    · unfold FX9_value BX9_value_15
      rcases i_cases x with hn | ⟨k, hk, rfl⟩
      · rw [n0, if_pos hn]
      · rw [outB_k hk (by omega)] at hx
        have := of_decide_eq_true hx
        rw [n0, if_neg (by rw [nI_lt0 hk]; exact id), B.g0, gx_bs, g5, gx_bs, if_neg (by rw [nI_ltN (by omega) (by omega)]; omega)]
    · unfold gFX10_value gBX10_value_34
      rw [m_isBor R.1 ok, gx_bs, hx, n0, if_pos (by rw [bI_0]; rfl), gx_bs, gx_bs, n1, gpi_1, upd_s, if_neg (by rw [nI_leN (by omega) (by omega)]; omega)]
  · have hx' : outB x ((Lb c.2.1).length - 1) = false := by simpa using hx
    obtain ⟨k, hk, rfl⟩ := outB_f (by omega) hx'
    by_cases hyz : (outB y (c.1 - 1) || outB z (c.1 - 1)) = true
    · refine ⟨.inr ("java/lang/IllegalArgumentException", h), ?_, B.ob, vt_thr (G := FX10_value (a + 103) (nI k) y z) (g := gFX10_value (nI k) y z) (M' := gpi M 0 (nI 2)) (v := nI 0) (k := 2) (fun h S => eFX10_value) O HM (Or.inr rfl) (cd2 (by decide)) (by omega) (by omega) ?_ (by rw [gpi_1, upd_s]) C R.t0⟩
      · unfold FX9_value BX9_value_55
        rw [n0, if_neg (by rw [nI_lt0 (by omega)]; exact id), B.g0, gx_bs, g5, gx_bs, if_pos (by rw [nI_ltN (by omega) (by omega)]; omega), gx_bs, gp, gx_bs, n1, nI_sub (by omega), q_isOutside, p_out, gx_bs]
        cases hy : outB y (c.1 - 1) with
        | true => rw [if_neg (by rw [bI_0]; decide)]
        | false =>
          rw [hy, Bool.false_or] at hyz
          rw [if_pos (by rw [bI_0]), gx_bs, gp, gx_bs, nI_sub (by omega), q_isOutside, p_out, gx_bs, hyz, if_neg (by rw [bI_0]; decide)]
      · unfold gFX10_value gBX10_value_33 gBX10_value_34
        rw [m_isBor R.1 ok, gx_bs, hx', n0, if_neg (by rw [bI_0]; decide), m_isNum R.1.1 (by omega), gx_bs]
        cases hy : outB y (c.1 - 1) with
        | true => rw [if_pos (by rw [bI_0]; rfl), gx_bs, gx_bs, n2, gpi_1, upd_s, if_neg (by rw [nI_leN (by omega) (by omega)]; omega)]
        | false =>
          rw [hy, Bool.false_or] at hyz
          rw [if_neg (by rw [bI_0]; decide), m_isNum R.1.1 (by omega), gx_bs, hyz, if_pos (by rw [bI_0]; rfl), gx_bs, gx_bs, n2, gpi_1, upd_s, if_neg (by rw [nI_leN (by omega) (by omega)]; omega)]
    · have hy : outB y (c.1 - 1) = false := by cases hq : outB y (c.1 - 1) with | false => rfl | true => rw [hq] at hyz; exact absurd rfl hyz
      have hz : outB z (c.1 - 1) = false := by cases hq : outB z (c.1 - 1) with | false => rfl | true => rw [hq, Bool.or_true] at hyz; exact absurd rfl hyz
      obtain ⟨i, hi, rfl⟩ := outB_f (by omega) hy
      obtain ⟨j, hj, rfl⟩ := outB_f (by omega) hz
      obtain ⟨h1, P, k1, k0, k2, k3, k4, k5, k6, k7⟩ := h_move D HS sS ok (i := i) (j := j) (by omega) (by omega)
      have B1 : BB h1 a := B.fr (k2.2 a (by omega))
      have vv := h_valueOf k3 k4 sS ok.2.1 (by omega) (by omega) ok.2.2.1 k5 k6 k7 (show k < (Lb c.2.1).length by omega)
      obtain ⟨T, t1, t2, t3, t4⟩ := m_laysPowers (S := gpi M 0 (nI 0)) (p := c.1) (a := i) (b := j) (by rw [gpi_2]; exact R.1.1) (by omega) (by omega) (by omega) (by omega)
      have e1' : T.2 1 = M.2 1 := by rw [t2.2 1 (by omega), gpi_2]
      have u1 := m_valueOf (S := T) (by rw [e1']; exact R.1) ok.2.1 (by omega) (by omega) ok.2.2.1 t3 t4 (show k < (Lb c.2.1).length by omega)
      refine ⟨.inl (nI (rvN c.2.1 c.2.2.1 c.1 i j k), h1), ?_, B.ob, vt_val (G := FX10_value (a + 103) (nI k) (nI i) (nI j)) (g := gFX10_value (nI k) (nI i) (nI j)) (M' := T) (fun h S => eFX10_value) (O.keep fun x _ _ => k2.2 x (by omega)) (mkeep HM fun x _ _ => k2.2 x (by omega)) ?_ (by rw [t2.1, gpi_1, upd_s]) (C.mv k2 k3) (R.on t2 fun b hb => by omega)⟩
      · unfold FX9_value
        rw [n0, if_neg (by rw [nI_lt0 (by omega)]; exact id), B.g0, gx_bs, g5, gx_bs, if_pos (by rw [nI_ltN (by omega) (by omega)]; omega), gx_bs, gp, gx_bs, n1, nI_sub (by omega), q_isOutside, p_out, gx_bs, hy, if_pos (by rw [bI_0]), gx_bs, gp, gx_bs, nI_sub (by omega), q_isOutside, p_out, gx_bs, hz, if_pos (by rw [bI_0]), B.g6, gx_bs, gx_bs, gp, gx_bs, k0, gx_bs, k1, gx_bs, B1.g6, gx_bs, B1.g0, gx_bs, k3.o4, gx_bs, vv, gx_bs]
      · unfold gFX10_value gBX10_value_34
        rw [m_isBor R.1 ok, gx_bs, hx', n0, if_neg (by rw [bI_0]; decide), m_isNum R.1.1 (by omega), gx_bs, hy, if_neg (by rw [bI_0]; decide), m_isNum R.1.1 (by omega), gx_bs, hz, if_neg (by rw [bI_0]; decide), gx_bs, gx_bs, gpi_1, upd_s, if_pos (by rw [nI_leN (by omega) (by omega)]; omega), t1, gx_bs, u1, gx_bs]
theorem m_isPt {M : MS} {c : Cf} (H : RCc (M.2 1) c) (o : okC c) {x : Int32} : gFX10_isPoint x M = some (bI (decide (0 < c.2.2.2.length) && !outB x (c.2.2.2.length - 1))) := by
  have l := o.2.2.2.1
  unfold gFX10_isPoint
  rw [n3, mK_a1 (by omega), gx_bs, H.2.2.2.1, n1]
  by_cases z : c.2.2.2.length = 0
  · rw [z, nI_0m1]
    have e : gFX10_in x (nI 0) m1 M = some (bI false) := by
      unfold gFX10_in
      rw [n0, n1]
      rcases i_cases x with hx | ⟨k, hk, rfl⟩
      · rw [if_pos hx]; rfl
      · rw [if_neg (by rw [nI_lt0 hk]; exact id), if_pos (by
          rw [Int32.lt_iff_toInt_lt, nI_toInt (by omega)]
          have : m1.toInt = -1 := by decide
          omega)]; rfl
    rw [n0, e, gx_bs, ← n0]
    exact bI_01
  · rw [nI_sub (by omega), n0, m_in, gx_bs, ← n0, decide_eq_true (by omega), Bool.true_and]
    exact bI_01
end
