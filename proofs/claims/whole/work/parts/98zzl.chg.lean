/-! calls: the changes -/
section
variable {h h' : jx_H} {a : Nat} {c c' : Cf} {d : Nat} {U : Nat → Cf} {V : Nat → Option Cf} {cnt : Nat → Int32} {L : Nat} {b : Nat → Nat} {e1 e2 : Int32} {res : Nat → Int32} {M T : MS}
theorem okU_push (ok : okC c) (oU : ∀ k, k < d → okC (U k)) (hd : d ≤ 8) : ∀ k, k < min (d + 1) 8 → okC (pushU U d c k) := by
  intro k hk
  unfold pushU
  by_cases h8 : d = 8
  · rw [if_pos h8]
    by_cases h7 : k < 7
    · rw [if_pos h7]; exact oU (k + 1) (by omega)
    · rw [if_neg h7]; exact ok
  · rw [if_neg h8]
    by_cases h7 : k < d
    · rw [if_pos h7]; exact oU k h7
    · rw [if_neg h7]; exact ok
theorem c_begin (C : CLS h a c d U V cnt L b e1 e2 res) {k : Nat} (hk : k < 6) : ∃ h2, FX9_beginChange a (nI k) h = some h2 ∧ CLS h2 a c (min (d + 1) 8) (pushU U d c) V (upd cnt k (cnt k + nI 1)) L b e1 e2 res ∧ (∀ c', DER h2 a c') ∧ (∀ x, a + 103 ≤ x → x ≤ a + 128 → h2.2 x = h.2 x) := by
  obtain ⟨⟨B, sz⟩, ⟨⟨S, HS, hS⟩, ok⟩, ⟨⟨S1, H1⟩, S2, H2⟩, ⟨hd, oU⟩, ⟨nx, f, fs, hn, HI, RU, RA, es, SV⟩, ec, D, ⟨F, G⟩, P, er, g, eg⟩ := id C
  obtain ⟨⟨kn, df, cc, cr, TO0, -⟩, kz, fd, ds, za, zb, zm, ZO0, -⟩ := D.to
  obtain ⟨h1, h2, f', q1, q2, q3, q4, q5, q6, q7, q8, q9, q10, q11, q12⟩ := beg2 B HI hn hd HS hS ok RU RA (show a + 102 ≤ a + 128 by omega) sz hk ec TO0 ZO0
  have low : ∀ x, x ≤ a + 128 → x ≠ a + 29 → x ≠ a + 30 → x ≠ a + 31 → x ≠ a + 35 → x ≠ a + 68 → h2.2 x = h.2 x := fun x x0 x1 x2 x3 x4 x5 => by
    rw [q8 x x3 x4 x5]
    exact q6 x (by omega) x1 x2 fun j q hj hq => Or.inl (by have := (RA.1 j q hj hq).2.1; omega)
  have up : ∀ {q : Nat} {S : MS}, q + 8 < a + 29 → bH sK h q S → bH sK h2 q S := fun {q} _ hq H => H.same fun x x1 x2 => by
    have x2 : x ≤ q + 8 := x2
    exact low x (by omega) (by omega) (by omega) (by omega) (by omega) (by omega)
  have hi : ∀ {q : Nat} {S : MS}, a + 128 < q → bH sK h1 q S → bH sK h2 q S := fun {q} _ hq H => H.same fun x x1 _ => q8 x (by omega) (by omega) (by omega)
  have keep : ∀ {q : Nat} {S : MS}, a + 128 < q → q + 8 < h.1 → (∀ j, j < 8 → f j ≠ some q) → bH sK h q S → bH sK h2 q S := fun {q} _ hq hq2 hne H => hi hq (H.same fun x x1 x2 => by
    have x2 : x ≤ q + 8 := x2
    refine q6 x (by omega) (by omega) (by omega) fun j q' hj hq' => ?_
    obtain ⟨⟨T, hT⟩, -⟩ := RA.1 j q' hj hq'
    have ap := st_st H hT (fun z => hne j hj (by rw [z]; exact hq'))
    have ap : q + 8 < q' ∨ q' + 8 < q := ap
    omega)
  have mat : ∀ ft, matA h (a + 128) ft → matA h2 (a + 128) ft := fun ft mt => ⟨fun j q hj hq => by
    obtain ⟨x1, x2, x3⟩ := mt.1 j q hj hq
    refine ⟨x1.same fun x y1 y2 => ?_, x2, by omega⟩
    rw [q8 x (by omega) (by omega) (by omega)]
    refine q6 x (by omega) (by omega) (by omega) fun j' q' hj' hq' => ?_
    obtain ⟨⟨T, hT⟩, -⟩ := RA.1 j' q' hj' hq'
    have := mt_off hT x1
    omega, mt.2⟩
  have D2 : ∀ c', DER h2 a c' := fun c' => D.new q10 q11 (fun x x1 x2 x3 x4 => low x (by omega) (by omega) (by omega) (by omega) x3 x4) mat
  refine ⟨h2, q1, ⟨⟨B.fr (low a (by omega) (by omega) (by omega) (by omega) (by omega) (by omega)), by omega⟩, ⟨⟨S, up (by omega) HS, hS⟩, ok⟩, ⟨⟨S1, up (by omega) H1⟩, S2, up (by omega) H2⟩, ⟨by omega, okU_push ok oU hd⟩, ⟨(nx + 1) % 8, f', fs, Nat.mod_lt _ (by omega), ⟨?_, ?_⟩, fun k hk => ?_, ⟨fun j q hj hq => ?_, q4.2⟩, ?_, SV.1, fun k v hk hv => ?_, SV.2.2⟩, q9, D2 c, ⟨?_, G.same fun x x1 x2 => low x (by omega) (by omega) (by omega) (by omega) (by omega) (by omega)⟩, P.fr (fun x hx => low x (by omega) (by omega) (by omega) (by omega) (by omega) (by omega)), ?_, g, ?_⟩, D2, fun x x1 x2 => low x x2 (by omega) (by omega) (by omega) (by omega) (by omega)⟩
  · rw [q8 _ (by omega) (by omega) (by omega)]; exact q2.1
  · rw [q8 _ (by omega) (by omega) (by omega)]; exact q2.2
  · obtain ⟨q, Q, x1, x2, x3⟩ := q3 k hk
    exact ⟨q, Q, x1, hi (q4.1 _ q slot_lt x1).2.1 x2, x3⟩
  · obtain ⟨⟨Q, x1⟩, x2, x3⟩ := q4.1 j q hj hq
    exact ⟨⟨Q, hi x2 x1⟩, x2, by omega⟩
  · rw [low _ (by omega) (by omega) (by omega) (by omega) (by omega) (by omega)]; exact es
  · obtain ⟨x1, q, Q, x2, x3, x4, x5, x6, x7⟩ := SV.2.1 k v hk hv
    refine ⟨x1, q, Q, x2, keep x5 x6 x7 x3, x4, x5, by omega, fun j hj z => ?_⟩
    rcases q12 j q hj z with y | y
    · exact x7 j hj y
    · omega
  · show _ = _
    rw [low _ (by omega) (by omega) (by omega) (by omega) (by omega) (by omega)]; exact F
  · rw [low _ (by omega) (by omega) (by omega) (by omega) (by omega) (by omega)]; exact er
  · rw [low _ (by omega) (by omega) (by omega) (by omega) (by omega) (by omega)]; exact eg
theorem CLS.chg {S' : MS} (C : CLS h a c d U V cnt L b e1 e2 res) (D : DER h a c') (e : ∀ x, (x < a + 1 ∨ a + 27 < x) → h'.2 x = h.2 x) (s : h'.1 = h.1) (HS' : bH sK h' (a + 1) S') (hS' : STc S' c') (ok' : okC c') (W : ∃ S, bH sK h' (a + 10) S) (W2 : ∃ S, bH sK h' (a + 19) S) : CLS h' a c' d U V cnt L b e1 e2 res := by
  obtain ⟨⟨B, sz⟩, -, -, hd, DY, ec, -, ⟨F, G⟩, P, er, g, eg⟩ := C
  exact ⟨⟨B.fr (e a (by omega)), by omega⟩, ⟨⟨S', HS', hS'⟩, ok'⟩, ⟨W, W2⟩, hd, DY.fr (fun x hx => e x (by omega)) (by omega), by rw [e _ (by omega)]; exact ec, D.fr (fun x hx => e x (by omega)) (by omega), ⟨by show _ = _; rw [e _ (by omega)]; exact F, G.same fun x x1 x2 => e x (by omega)⟩, P.fr (fun x hx => e x (by omega)), by rw [e _ (by omega)]; exact er, g, by rw [e _ (by omega)]; exact eg⟩
/-- only the State changes -/
theorem CLS.st {S' : MS} (C : CLS h a c d U V cnt L b e1 e2 res) (D : DER h a c') (hS' : STc S' c') (ok' : okC c') : CLS (bput sK h (a + 1) S') a c' d U V cnt L b e1 e2 res := by
  obtain ⟨W, HW⟩ := C.2.2.1.1
  obtain ⟨Y, HY⟩ := C.2.2.1.2
  exact C.chg D (fun x hx => bp_else (by show x < a + 1 ∨ a + 1 + 8 < x; omega)) rfl bH.put hS' ok' ⟨W, HW.fr (Or.inr (by show a + 1 + 8 < a + 10; omega))⟩ ⟨Y, HY.fr (Or.inr (by show a + 1 + 8 < a + 19; omega))⟩
theorem REF.chg {u : Nat → Int32} {k : Nat} (R : REF M c d U V cnt L b e1 e2 res) (ok : okC c) (h8 : d ≤ 8) (oU : ∀ k, k < d → okC (U k)) (hk : k < 6) (i : T.1 = upd (upd M.1 0 (nI 0)) 5 (nI (min d 7 + 1))) (H : RCc (T.2 1) c') (e4 : T.2 4 = u) (e7 : T.2 7 = upd (M.2 7) k (M.2 7 k + nI 1)) (eo : ∀ b, b = 5 ∨ b = 6 ∨ b = 8 ∨ b = 9 ∨ b = 18 → T.2 b = M.2 b) (k2 : ∀ q, q < 248 → u (248 * min d 7 + q) = M.2 1 q) (k3 : d = 8 → ∀ q, q < 1736 → u q = M.2 4 (q + 248)) (k4 : d < 8 → ∀ q, q < 248 * d → u q = M.2 4 q) : REF T c' (min (d + 1) 8) (pushU U d c) V (upd cnt k (cnt k + nI 1)) L b e1 e2 res := by
  obtain ⟨x1, ⟨x2, x3⟩, ⟨x4, x5⟩, x6, ⟨x7, x8⟩, ⟨x9, x10⟩, x11⟩ := R
  have em : min d 7 + 1 = min (d + 1) 8 := by omega
  have P := undR.push x3 x1 h8 oU ok k2 k3 k4
  rw [em] at P
  refine ⟨H, ⟨by rw [i, upd_s, em], by rw [e4]; exact P⟩, ⟨by rw [eo 6 (by omega)]; exact x4, by rw [eo 6 (by omega), eo 5 (by omega)]; exact x5⟩, fun q hq => ?_, ⟨⟨x7.1, by rw [i, upd_o (by decide), upd_o (by decide)]; exact x7.2.1, by rw [eo 8 (by omega)]; exact x7.2.2⟩, by unfold WD; rw [eo 9 (by omega)]; exact x8⟩, ⟨by rw [i, upd_o (by decide), upd_o (by decide)]; exact x9, by rw [i, upd_o (by decide), upd_o (by decide)]; exact x10⟩, by rw [eo 18 (by omega)]; exact x11⟩
  rw [e7]
  by_cases z : q = k
  · rw [z, upd_s, upd_s, x6 k hk]
  · rw [upd_o z, upd_o z]; exact x6 q hq
theorem m_side {x y : Int32} {S : MS} : gFX10_isOnSide x y S = some (bI (!(outB x 11 || outB y 11))) := by
  unfold gFX10_isOnSide
  rw [n0, n11, n1, m_in, gx_bs]
  cases hx : outB x 11 with
  | true => rw [if_pos (by rw [bI_0]; rfl)]; rfl
  | false =>
    rw [if_neg (by rw [bI_0]; decide), m_in, gx_bs]
    cases hy : outB y 11 with
    | true => rw [if_pos (by rw [bI_0]; rfl)]; rfl
    | false => rw [if_neg (by rw [bI_0]; decide)]; rfl
/-- the reference keeps what it stands for -/
theorem m_keep (R : REF M c d U V cnt L b e1 e2 res) (h8 : d ≤ 8) {k : Nat} (hk : k < 6) : ∃ T u, gFX10_keeps (nI k) (gpi M 0 (nI 0)) = some T ∧ T.1 = upd (upd M.1 0 (nI 0)) 5 (nI (min d 7 + 1)) ∧ T.2 1 = M.2 1 ∧ T.2 4 = u ∧ T.2 7 = upd (M.2 7) k (M.2 7 k + nI 1) ∧ (∀ b, b ≠ 4 → b ≠ 7 → T.2 b = M.2 b) ∧ (∀ q, q < 248 → u (248 * min d 7 + q) = M.2 1 q) ∧ (d = 8 → ∀ q, q < 1736 → u q = M.2 4 (q + 248)) ∧ (d < 8 → ∀ q, q < 248 * d → u q = M.2 4 q) := by
  obtain ⟨u, k1, k2, k3, k4⟩ := g_keeps (S := gpi M 0 (nI 0)) (d := d) (k := k) (by rw [gpi_1, upd_o (by decide)]; exact R.2.1.1) h8 hk
  rw [gpi_1, gpi_2] at k1
  exact ⟨_, u, k1, rfl, by rw [mp2, setA_o (by decide), setA_o (by decide)], by rw [mp2, setA_o (by decide), setA_s], by rw [mp2, setA_s], fun b b1 b2 => by rw [mp2, setA_o b2, setA_o b1], k2, k3, k4⟩
end
section
variable {a m o : Nat}
theorem o_join : St_join (INV a m o) a m o := by
  rintro h x y ⟨rfl, rfl, O, M, c, d, U, V, cnt, L, b, e1, e2, res, HM, C, R⟩
  obtain ⟨⟨B, sz⟩, ⟨⟨S, HS, sS⟩, ok⟩, -, ⟨h8, oU⟩, -⟩ := id C
  have w := ok.2.1
  have l := Lm_len w
  have lp := ok.2.2.2.1
  by_cases hxy : (outB x 11 || outB y 11) = true
  · refine ⟨.inr ("java/lang/IllegalArgumentException", h), ?_, B.ob, vt_thr (G := FX10_join (a + 103) x y) (g := gFX10_join x y) (M' := gpi M 0 (nI 1)) (v := nI 0) (k := 1) (fun h S => eFX10_join) O HM (Or.inl rfl) cd1 (by omega) (by omega) ?_ (by rw [gpi_1, upd_s]) C R.t0⟩
    · unfold FX9_join BX9_join_18
      rw [n11, q_isOutside, p_out, gx_bs]
      cases hx : outB x 11 with
      | true => rw [if_neg (by rw [bF]; decide)]
      | false =>
        rw [hx, Bool.false_or] at hxy
        rw [if_pos (by rw [bF]), q_isOutside, p_out, gx_bs, hxy, if_neg (by rw [bF]; decide)]
    · unfold gFX10_join gBX10_join_36
      rw [m_side, hxy, gx_bs, n0, if_pos (by rw [bI_0]; rfl), gx_bs, gx_bs, n1, gpi_1, upd_s, if_neg (by rw [nI_leN (by omega) (by omega)]; omega)]
  · have hx : outB x 11 = false := by cases hq : outB x 11 with | false => rfl | true => rw [hq] at hxy; exact absurd rfl hxy
    have hy : outB y 11 = false := by cases hq : outB y 11 with | false => rfl | true => rw [hq, Bool.or_true] at hxy; exact absurd rfl hxy
    obtain ⟨i, hi, rfl⟩ := outB_f (by omega) hx
    obtain ⟨j, hj, rfl⟩ := outB_f (by omega) hy
    have ob : FX5_obstacle (a + 1) (nI i) (nI j) h = some (nI (obst c.2.1 i j)) := by rw [HS.run (F := FX5_obstacle (a + 1) (nI i) (nI j)) eFX5_obstacle, s_obstacle sS w (by omega) (by omega)]
    by_cases hO : obst c.2.1 i j = 0
    · obtain ⟨hJ, hn⟩ := (obst_join w).mp hO
      obtain ⟨ej, hu⟩ := join_up w hi hJ hn
      have w' := wfh_up w hu
      obtain ⟨h2, k1, C2, D2, k4⟩ := c_begin C (k := 0) (by omega)
      have B2 : BB h2 a := C2.B
      obtain ⟨S2, HS2, sS2⟩ := C2.2.1.1
      obtain ⟨W2, HW2⟩ := C2.2.2.1.1
      obtain ⟨Y2, HY2⟩ := C2.2.2.1.2
      obtain ⟨S3, r1, r2⟩ := s_changeHeight HS2 HW2 (Or.inl (by show a + 1 + 8 < a + 10; omega)) w sS2 lp (i := i) (v := c.2.1 i + 1) (st := nI 1) hi w' (by rw [nI_add])
      have e3 : ∀ x, (x < a + 1 ∨ a + 18 < x) → (bput sK (bput sK h2 (a + 10) (cpS W2 S2)) (a + 1) S3).2 x = h2.2 x := fun x hx => by
        rw [bp_else (by show x < a + 1 ∨ a + 1 + 8 < x; omega), bp_else (by show x < a + 10 ∨ a + 10 + 8 < x; omega)]
      have HS3 : bH sK (bput sK (bput sK h2 (a + 10) (cpS W2 S2)) (a + 1) S3) (a + 1) S3 := bH.put
      have HW3 : bH sK (bput sK (bput sK h2 (a + 10) (cpS W2 S2)) (a + 1) S3) (a + 10) (cpS W2 S2) := bH.put.fr (Or.inr (by show a + 1 + 8 < a + 10; omega))
      have s3 : (bput sK (bput sK h2 (a + 10) (cpS W2 S2)) (a + 1) S3).1 = h2.1 := rfl
      generalize bput sK (bput sK h2 (a + 10) (cpS W2 S2)) (a + 1) S3 = h3 at r1 e3 HS3 HW3 s3
      have B3 : BB h3 a := B2.fr (e3 a (by omega))
      have nu : FX5_numberOf (a + 1) (nI i) (nI j) h3 = some (nI ((Lm (uph c.2.1 i (c.2.1 i + 1))).idxOf (i, j))) := by
        rw [HS3.run (F := FX5_numberOf (a + 1) (nI i) (nI j)) eFX5_numberOf, s_numberOf r2 w' (by omega) (by omega), ixI_mem ((mem_Lm w').mpr (by unfold uph; rw [if_pos rfl]; omega))]
      obtain ⟨T, u, t1, t2, t3, t4, t5, t6, t7, t8, t9⟩ := m_join R.1 w lp R.2.1.1 h8 hi hj hJ hn
      refine ⟨.inl (nI ((Lm (uph c.2.1 i (c.2.1 i + 1))).idxOf (i, j)), h3), ?_, B.ob, vt_val (G := FX10_join (a + 103) (nI i) (nI j)) (g := gFX10_join (nI i) (nI j)) (M' := T) (fun h S => eFX10_join) (O.keep fun x x1 x2 => by rw [e3 x (by omega), k4 x x1 x2]) (mkeep HM fun x x1 x2 => by rw [e3 x (by omega), k4 x x1 x2]) t1 (by rw [t2, upd_o (by decide), upd_s]) (C2.chg (D2 (c.1, uph c.2.1 i (c.2.1 i + 1), rbh c.2.1 c.2.2.1 (uph c.2.1 i (c.2.1 i + 1)), c.2.2.2)) (fun x hx => e3 x (by omega)) s3 HS3 r2 (ok.up w') ⟨_, HW3⟩ ⟨Y2, HY2.same fun x x1 _ => e3 x (by omega)⟩) (R.chg ok h8 oU (by omega) t2 t3 t4 t5 (fun b hb => t6 b (by omega) (by omega) (by omega) (by omega)) t7 t8 t9)⟩
      unfold FX9_join
      rw [n0, n1, n11, q_isOutside, p_out, gx_bs, hx, if_pos (by rw [bI_0]), q_isOutside, p_out, gx_bs, hy, if_pos (by rw [bI_0]), B.g0, gx_bs, HS.o5, gx_bs, ob, gx_bs, if_pos (by rw [hO]), B.ob, gx_bs, k1, gx_bs, B2.g0, gx_bs, B2.g1, gx_bs, HS2.o5, gx_bs, r1, gx_bs, B3.g0, gx_bs, HS3.o5, gx_bs, nu, gx_bs]
    · refine ⟨.inr ("java/lang/IllegalStateException", h), ?_, B.ob, vt_thr (G := FX10_join (a + 103) (nI i) (nI j)) (g := gFX10_join (nI i) (nI j)) (M' := gpi M 0 (nI 2)) (v := nI 0) (k := 2) (fun h S => eFX10_join) O HM (Or.inr rfl) (cd2 (by decide)) (by omega) (by omega) ?_ (by rw [gpi_1, upd_s]) C R.t0⟩
      · have o4 : obst c.2.1 i j < 4 := by
          unfold obst
          split
          · omega
          · split
            · omega
            · split <;> omega
        unfold FX9_join
        rw [n0, n11, q_isOutside, p_out, gx_bs, hx, if_pos (by rw [bI_0]), q_isOutside, p_out, gx_bs, hy, if_pos (by rw [bI_0]), B.g0, gx_bs, HS.o5, gx_bs, ob, gx_bs, if_neg (by rw [nI_eqN (by omega) (by omega)]; exact hO)]
      · unfold gFX10_join gBX10_join_35 gBX10_join_36
        rw [m_onSide hi hj, gx_bs, n0, if_neg (by rw [nI_eqN (by omega) (by omega)]; omega), g_canJoin R.1.2.1 l.2.1 (Lm_small w) (by omega) (by omega), joinB_eq w, gx_bs]
        cases hJ : joinB c.2.1 i j with
        | false => rw [if_pos (by rw [bI_0]), gx_bs, gx_bs, n2, gpi_1, upd_s, if_neg (by rw [nI_leN (by omega) (by omega)]; omega)]
        | true =>
          have hn : ¬ (Lm c.2.1).length < 12 := fun z => hO ((obst_join w).mpr ⟨hJ, z⟩)
          rw [if_neg (by rw [bI_0]; decide), g_n R.1.2.1, gx_bs, n12, if_pos (by rw [nI_leN (by omega) (by omega)]; omega), gx_bs, gx_bs, n2, gpi_1, upd_s, if_neg (by rw [nI_leN (by omega) (by omega)]; omega)]
theorem nI_add_m1 {k : Nat} : nI (k + 1) + m1 = nI k := by
  rw [← nm1, ← n1]
  exact nI_dec
theorem o_leave : St_leave (INV a m o) a m o := by
  rintro h x y ⟨rfl, rfl, O, M, c, d, U, V, cnt, L, b, e1, e2, res, HM, C, R⟩
  obtain ⟨⟨B, sz⟩, ⟨⟨S, HS, sS⟩, ok⟩, -, ⟨h8, oU⟩, -⟩ := id C
  have w := ok.2.1
  have l := Lm_len w
  have lp := ok.2.2.2.1
  by_cases hxy : (outB x 11 || outB y 11) = true
  · refine ⟨.inr ("java/lang/IllegalArgumentException", h), ?_, B.ob, vt_thr (G := FX10_leave (a + 103) x y) (g := gFX10_leave x y) (M' := gpi M 0 (nI 1)) (v := nI 0) (k := 1) (fun h S => eFX10_leave) O HM (Or.inl rfl) cd1 (by omega) (by omega) ?_ (by rw [gpi_1, upd_s]) C R.t0⟩
    · unfold FX9_leave BX9_leave_18
      rw [n11, q_isOutside, p_out, gx_bs]
      cases hx : outB x 11 with
      | true => rw [if_neg (by rw [bF]; decide)]
      | false =>
        rw [hx, Bool.false_or] at hxy
        rw [if_pos (by rw [bF]), q_isOutside, p_out, gx_bs, hxy, if_neg (by rw [bF]; decide)]
    · unfold gFX10_leave gBX10_leave_27
      rw [m_side, hxy, gx_bs, n0, if_pos (by rw [bI_0]; rfl), gx_bs, gx_bs, n1, gpi_1, upd_s, if_neg (by rw [nI_leN (by omega) (by omega)]; omega)]
  · have hx : outB x 11 = false := by cases hq : outB x 11 with | false => rfl | true => rw [hq] at hxy; exact absurd rfl hxy
    have hy : outB y 11 = false := by cases hq : outB y 11 with | false => rfl | true => rw [hq, Bool.or_true] at hxy; exact absurd rfl hxy
    obtain ⟨i, hi, rfl⟩ := outB_f (by omega) hx
    obtain ⟨j, hj, rfl⟩ := outB_f (by omega) hy
    have ob : FX5_isCorner (a + 1) (nI i) (nI j) h = some (bI (corn c.2.1 i j)) := by rw [HS.run (F := FX5_isCorner (a + 1) (nI i) (nI j)) eFX5_isCorner, s_isCorner sS w (by omega) (by omega)]
    have rc : gFX10_canLeave (nI i) (nI j) M = some (bI (corn c.2.1 i j)) := by rw [g_canLeave R.1.2.1 l.2.1 (Lm_small w) (by omega) (by omega), corn_eq w]
    by_cases hO : corn c.2.1 i j = true
    · obtain ⟨ej, hu⟩ := corn_dn hi hO
      have w' := wfh_dn w hu
      have hlt : j < c.2.1 i := by
        have z := hO
        unfold corn at z
        simp only [Bool.and_eq_true, decide_eq_true_eq] at z
        omega
      have nu : FX5_numberOf (a + 1) (nI i) (nI j) h = some (nI ((Lm c.2.1).idxOf (i, j))) := by
        rw [HS.run (F := FX5_numberOf (a + 1) (nI i) (nI j)) eFX5_numberOf, s_numberOf sS w (by omega) (by omega), ixI_mem ((mem_Lm w).mpr hlt)]
      obtain ⟨h2, k1, C2, D2, k4⟩ := c_begin C (k := 1) (by omega)
      have B2 : BB h2 a := C2.B
      obtain ⟨S2, HS2, sS2⟩ := C2.2.1.1
      obtain ⟨W2, HW2⟩ := C2.2.2.1.1
      obtain ⟨Y2, HY2⟩ := C2.2.2.1.2
      obtain ⟨S3, r1, r2⟩ := s_changeHeight HS2 HW2 (Or.inl (by show a + 1 + 8 < a + 10; omega)) w sS2 lp (i := i) (v := c.2.1 i - 1) (st := m1) hi w' (by
        obtain ⟨q, hq⟩ : ∃ q, c.2.1 i = q + 1 := ⟨c.2.1 i - 1, by omega⟩
        rw [hq]
        exact nI_add_m1)
      have e3 : ∀ x, (x < a + 1 ∨ a + 18 < x) → (bput sK (bput sK h2 (a + 10) (cpS W2 S2)) (a + 1) S3).2 x = h2.2 x := fun x hx => by
        rw [bp_else (by show x < a + 1 ∨ a + 1 + 8 < x; omega), bp_else (by show x < a + 10 ∨ a + 10 + 8 < x; omega)]
      have HS3 : bH sK (bput sK (bput sK h2 (a + 10) (cpS W2 S2)) (a + 1) S3) (a + 1) S3 := bH.put
      have HW3 : bH sK (bput sK (bput sK h2 (a + 10) (cpS W2 S2)) (a + 1) S3) (a + 10) (cpS W2 S2) := bH.put.fr (Or.inr (by show a + 1 + 8 < a + 10; omega))
      have s3 : (bput sK (bput sK h2 (a + 10) (cpS W2 S2)) (a + 1) S3).1 = h2.1 := rfl
      generalize bput sK (bput sK h2 (a + 10) (cpS W2 S2)) (a + 1) S3 = h3 at r1 e3 HS3 HW3 s3
      obtain ⟨T0, u, p1, p2, p3, p4, p5, p6, p7, p8, p9⟩ := m_keep R h8 (k := 1) (by omega)
      obtain ⟨g, j1, j2⟩ := g_leaves (S := T0) w (by rw [p3]; exact R.1) lp hu
      refine ⟨.inl (nI ((Lm c.2.1).idxOf (i, j)), h3), ?_, B.ob, vt_val (G := FX10_leave (a + 103) (nI i) (nI j)) (g := gFX10_leave (nI i) (nI j)) (M' := ((T0.1, setA (setA T0.2 3 (cpy3 T0)) 1 g) : MS)) (fun h S => eFX10_leave) (O.keep fun x x1 x2 => by rw [e3 x (by omega), k4 x x1 x2]) (mkeep HM fun x x1 x2 => by rw [e3 x (by omega), k4 x x1 x2]) ?_ (by rw [mp1, p2, upd_o (by decide), upd_s]) (C2.chg (D2 (c.1, uph c.2.1 i (c.2.1 i - 1), rbh c.2.1 c.2.2.1 (uph c.2.1 i (c.2.1 i - 1)), c.2.2.2)) (fun x hx => e3 x (by omega)) s3 HS3 r2 (ok.up w') ⟨_, HW3⟩ ⟨Y2, HY2.same fun x x1 _ => e3 x (by omega)⟩) (R.chg ok h8 oU (by omega) p2 (by rw [mp2, setA_s]; exact j2) (by rw [mp2, setA_o (by decide), setA_o (by decide)]; exact p4) (by rw [mp2, setA_o (by decide), setA_o (by decide)]; exact p5) (fun b hb => by rw [mp2, setA_o (by omega), setA_o (by omega)]; exact p6 b (by omega) (by omega)) p7 p8 p9)⟩
      · unfold FX9_leave
        rw [n0, n1, nm1, n11, q_isOutside, p_out, gx_bs, hx, if_pos (by rw [bI_0]), q_isOutside, p_out, gx_bs, hy, if_pos (by rw [bI_0]), B.g0, gx_bs, HS.o5, gx_bs, ob, hO, gx_bs, if_neg (by rw [bI_0]; decide), gx_bs, HS.o5, gx_bs, nu, gx_bs, B.ob, gx_bs, k1, gx_bs, B2.g0, gx_bs, B2.g1, gx_bs, HS2.o5, gx_bs, r1, gx_bs]
      · rw [← ej] at j1
        unfold gFX10_leave gBX10_leave_27
        rw [m_onSide hi hj, gx_bs, n0, if_neg (by rw [nI_eqN (by omega) (by omega)]; omega), rc, hO, gx_bs, if_neg (by rw [bI_0]; decide), gx_bs, gpi_1, upd_s, gx_bs, if_pos (by rw [nI_leN (by omega) (by omega)]; omega), n1, p1, gx_bs, j1, b2s]
    · have hf : corn c.2.1 i j = false := by simpa using hO
      refine ⟨.inr ("java/lang/IllegalStateException", h), ?_, B.ob, vt_thr (G := FX10_leave (a + 103) (nI i) (nI j)) (g := gFX10_leave (nI i) (nI j)) (M' := gpi M 0 (nI 2)) (v := nI 0) (k := 2) (fun h S => eFX10_leave) O HM (Or.inr rfl) (cd2 (by decide)) (by omega) (by omega) ?_ (by rw [gpi_1, upd_s]) C R.t0⟩
      · unfold FX9_leave
        rw [n0, n11, q_isOutside, p_out, gx_bs, hx, if_pos (by rw [bI_0]), q_isOutside, p_out, gx_bs, hy, if_pos (by rw [bI_0]), B.g0, gx_bs, HS.o5, gx_bs, ob, hf, gx_bs, if_pos bI_f]
      · unfold gFX10_leave gBX10_leave_27
        rw [m_onSide hi hj, gx_bs, n0, if_neg (by rw [nI_eqN (by omega) (by omega)]; omega), rc, hf, gx_bs, if_pos bI_f, gx_bs, gx_bs, n2, gpi_1, upd_s, if_neg (by rw [nI_leN (by omega) (by omega)]; omega)]
end
