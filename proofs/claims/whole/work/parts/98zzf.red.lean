/-! call: reduce, whole -/
section
variable {a m o : Nat}
theorem o_reduce : St_reduce (INV a m o) a m := by
  rintro h ⟨rfl, rfl, O, M, c, d, U, V, cnt, L, b, e1, e2, res, HM, C, R⟩
  obtain ⟨⟨B, sz⟩, ⟨⟨S, HS, sS⟩, ok⟩, ⟨⟨W, HW⟩, -⟩, -, -, -, D, -, ⟨⟨T0, HT, H⟩, ⟨F, P, f4, f5⟩, ⟨S0, H0⟩, gp, hgp⟩, er0, -⟩ := id C
  have w := ok.2.1
  have l := Lm_len w
  have pb := prs_b c.1 ok.1
  have bX := bd_tab (p := c.1) (r := c.2.2.1) w (Or.inl ⟨rfl, rfl⟩) (by omega) ok.2.2.1
  have bY := bd_tab (p := c.1) (r := c.2.2.1) w (Or.inr ⟨rfl, rfl⟩) (by omega) ok.2.2.1
  obtain ⟨h1, S1, F1, k1, k2, k3, k4, k5⟩ := both_open P HT H R.2.2.2.2.1.1 R.2.2.2.2.1.2
  obtain ⟨S2, a1, a2, a3, a4⟩ := m_laysTables (S := S1) (by rw [k4.1]; exact R.1) w
  obtain ⟨f19, b1, b2⟩ := m_red10 (S := S2)
  have e100 : h1.2 (a + 100) = some (ar 441 gp) := by rw [k3.2 _ (by omega) (by omega) (by omega)]; exact hgp
  obtain ⟨g0, c1, c2⟩ := h_fill (v := nI 0) e100 (by omega)
  obtain ⟨h2, hh2⟩ : ∃ h2 : jx_H, h2 = (h1.1, jx_up h1.2 (a + 100) (ar 441 g0)) := ⟨_, rfl⟩
  have fr2 : ∀ y, y ≠ a + 100 → h2.2 y = h1.2 y := fun y q => by rw [hh2]; exact up_o q
  have r19 : ∀ j, j ≠ 19 → j ≠ 10 → j ≠ 11 → (setA S2.2 19 f19) j = M.2 j := fun j j1 j2 j3 => by rw [setA_o j1, a2.2 j (by omega), k4.1]
  have K2 : TKR h2 ((S2.1, setA S2.2 19 f19) : MS) a F1 L b (lexAt b L 0) := k5.fr (fun x x1 x2 => fr2 x (by omega)) a2.1 (by rw [mp2, setA_o (by decide), a2.2 8 (by omega)]) (by rw [mp2, setA_o (by decide), a2.2 9 (by omega)])
  have Q2 : PL h2 ((S2.1, setA S2.2 19 f19) : MS) a (Lm c.2.1).length c.1 (tabM c.2.1 c.2.2.1 1 0) (tabM c.2.1 c.2.2.1 0 1) (fun _ _ => 0) := by
    refine ⟨⟨g0, by rw [hh2]; exact up_s, fun i j hi hj => ⟨c2 _ (by omega), by show 0 < c.1; omega⟩⟩, ?_, ?_, ?_, ?_, fun k hk => ?_, fun k _ hk => ?_⟩
    · rw [mp2, r19 1 (by decide) (by decide) (by decide)]; exact R.1.1
    · rw [mp2, r19 1 (by decide) (by decide) (by decide)]; exact R.1.2.1.1
    · rw [mp2, setA_o (by decide)]; exact a3
    · rw [mp2, setA_o (by decide)]; exact a4
    · rw [mp2, setA_s, b2 k (by omega), polV_0]
    · rw [mp2, setA_s, b2 k hk]
  have gpr : hgi h (a + 1) 5 0 = some (nI c.1) := by rw [← sS.1]; exact HS.i0
  have rd : FX3_readPolynomial (a + 90) (nI c.1) h = itr (fun s : Int32 × jx_H => LX3_readPolynomial_14 (a + 90) (nI c.1) s.1 s.2) (nI 0, h2) := by
    unfold FX3_readPolynomial
    rw [P.ob, gx_bs, k1, gx_bs, k5.1.g3, gx_bs, n0, c1, gx_bs, hh2]
  have rf : gFX10_reduce M = itr (fun s : Int32 × MS => gLX10_reduce_31 s.1 s.2) (nI 1, ((S2.1, setA S2.2 19 f19) : MS)) := by
    unfold gFX10_reduce
    rw [k2, gx_bs, a1, gx_bs, b1, n1]
  have P2 : pch h h2 a := k3.pp.tr ⟨by rw [hh2], fun x x1 x2 x3 x4 => fr2 x x4⟩
  rcases both_poly (L := L) ok.1 l.2.1 bX bY (L + 1) h2 _ F1 _ _ 0 (by omega) K2 Q2 (Nat.zero_le _) with ⟨h3, S3, F3, t3, C3, y1, y2, y3, y4, y5, y6⟩ | ⟨h3, S3, y1, y2, y3, y4, y5, y6⟩
  · have P3 := P2.tr y3
    obtain ⟨T9, HT9, H9, -⟩ := id y5.2.1
    obtain ⟨⟨g3, gg1, gg2⟩, -, -, -, -, hs3, hz3⟩ := y6
    have B3 : BB h3 a := B.fr (P3.2 a (by omega) (by omega) (by omega) (by omega))
    have hp1 : hp h3 (a + 88) 7 1 (.int (nI 0)) = some (bput tK h3 (a + 88) (gpi T9 1 (nI 0))) := HT9.run (F := fun h => hp h (a + 88) 7 1 (.int (nI 0))) tK_pi1
    have fr : ∀ y, y ≠ a + 88 → y ≠ a + 89 → (bput tK h3 (a + 88) (gpi T9 1 (nI 0))).2 y = h3.2 y := fun y y1 y2 => bp_else (by show y < a + 88 ∨ a + 88 + 1 < y; omega)
    have kc : ∀ y, (y < a + 88 ∨ a + 100 < y) → (bput tK h3 (a + 88) (gpi T9 1 (nI 0))).2 y = h.2 y := fun y q => by rw [fr y (by omega) (by omega)]; exact P3.2 y (by omega) (by omega) (by omega) (by omega)
    have B0 : TXb 0 b := ⟨by omega, fun j hj => by omega⟩
    have C4 : CLS (bput tK h3 (a + 88) (gpi T9 1 (nI 0))) a c d U V cnt 0 b (nI 0) m1 res := C.par kc P3.1 ⟨⟨_, bH.put, B0, by rw [gpi_1, upd_s], fun k hk => by omega⟩, ⟨F3, y5.1.fr (fr _ (by omega) (by omega)), y5.2.2.2.2.2.2.2.2.1, y5.2.2.2.2.2.2.2.2.2⟩, ⟨S0, H0.same fun x x1 x2 => by have x2 : x ≤ a + 91 + 8 := x2; rw [fr x (by omega) (by omega)]; exact P3.2 x (by omega) (by omega) (by omega) (by omega)⟩, ⟨g3, by rw [fr _ (by omega) (by omega)]; exact gg1⟩⟩
    have P4 : PO (bput tK h3 (a + 88) (gpi T9 1 (nI 0))) a F3 := y5.1.fr (fr _ (by omega) (by omega))
    have ep4 : (bput tK h3 (a + 88) (gpi T9 1 (nI 0))).2 (a + 100) = some (ar 441 g3) := by rw [fr _ (by omega) (by omega)]; exact gg1
    have HM4 : bH mK (bput tK h3 (a + 88) (gpi T9 1 (nI 0))) (a + 103) M := HM.same fun x x1 x2 => kc x (by omega)
    have O4 : OUT (bput tK h3 (a + 88) (gpi T9 1 (nI 0))) (a + 128) := by obtain ⟨g, e⟩ := O; exact ⟨g, by rw [kc _ (by omega)]; exact e⟩
    have HS4 : bH sK (bput tK h3 (a + 88) (gpi T9 1 (nI 0))) (a + 1) S := HS.same fun x x1 x2 => by have x2 : x ≤ a + 1 + 8 := x2; exact kc x (by omega)
    generalize hh4 : bput tK h3 (a + 88) (gpi T9 1 (nI 0)) = h4 at hp1 C4 P4 ep4 HM4 O4 HS4
    obtain ⟨⟨B4, sz4⟩, q2, q3, q4, DY4, q6, ⟨ds, ft, T4, X4, Pk, Z4, hds, e83, MA4⟩, q8, q9, er4, q11⟩ := C4
    obtain ⟨h5, f5', w1, w2, w3, w4, w5, w6, w7, w8⟩ := h_horner T4 HS4 sS w (by omega) (by omega) ok.2.2.1 (by omega) X4 ep4 er4 (by omega) (by omega) (by omega) gg2
    have k5' : ∀ x, (x < a + 35 ∨ a + 67 < x) → x ≠ a + 101 → h5.2 x = h4.2 x := fun x q1 q2 => w3 x (by omega) q2
    have o6 : isO h4 (a + 35) 6 = some () := by
      rcases T4 with ⟨cc, cr, q, -⟩ | ⟨df, cc, cr, q, -⟩
      · exact isO_ob q
      · exact isO_ob q
    have vv : ∀ k, k < 12 → f5' k = nI (if k < (Lm c.2.1).length then polV (Lm c.2.1).length c.1 (tabM c.2.1 c.2.2.1 1 0) (tabM c.2.1 c.2.2.1 0 1) C3 k else 0) ∧ (if k < (Lm c.2.1).length then polV (Lm c.2.1).length c.1 (tabM c.2.1 c.2.2.1 1 0) (tabM c.2.1 c.2.2.1 0 1) C3 k else 0) < 1000 := fun k hk => by
      by_cases hkn : k < (Lm c.2.1).length
      · rw [if_pos hkn]
        have : polV (Lm c.2.1).length c.1 (tabM c.2.1 c.2.2.1 1 0) (tabM c.2.1 c.2.2.1 0 1) C3 k < c.1 := Nat.mod_lt _ (by omega)
        exact ⟨w7 k hkn, by omega⟩
      · rw [if_neg hkn]
        exact ⟨w8 k (by omega) hk, by omega⟩
    have ss : ∀ k, k < 12 → (gpi (gpi S3 10 (nI 0)) 0 (nI 0)).2 19 k = nI (if k < (Lm c.2.1).length then polV (Lm c.2.1).length c.1 (tabM c.2.1 c.2.2.1 1 0) (tabM c.2.1 c.2.2.1 0 1) C3 k else 0) ∧ (if k < (Lm c.2.1).length then polV (Lm c.2.1).length c.1 (tabM c.2.1 c.2.2.1 1 0) (tabM c.2.1 c.2.2.1 0 1) C3 k else 0) < 1000 := fun k hk => by
      refine ⟨?_, (vv k hk).2⟩
      rw [gpi_2, gpi_2]
      by_cases hkn : k < (Lm c.2.1).length
      · rw [if_pos hkn]; exact hs3 k hkn
      · rw [if_neg hkn]; exact hz3 k (by omega) hk
    have B5 : BB h5 a := B4.fr (k5' a (by omega) (by omega))
    have lp := c_51 B5 w6 vv
    obtain ⟨f18, u1, u2⟩ := m_117 (S := gpi (gpi S3 10 (nI 0)) 0 (nI 0)) ss
    generalize hnz : nz (fun k => if k < (Lm c.2.1).length then polV (Lm c.2.1).length c.1 (tabM c.2.1 c.2.2.1 1 0) (tabM c.2.1 c.2.2.1 0 1) C3 k else 0) 12 = tot at lp u1
    have cls : FX9_reduce a h = some (nI tot, h5) := by
      unfold FX9_reduce
      rw [B.g11, gx_bs, B.g0, gx_bs, gpr, gx_bs, P.ob, gx_bs, rd, y1, b2s, B3.g10, gx_bs, n0, hp1, gx_bs, if_neg (by rw [nI_eqN (by omega) (by omega)]; omega), B4.g7, gx_bs, B4.g11, gx_bs, P4.g3, gx_bs, B4.g12, gx_bs, o6, gx_bs, w1, gx_bs, ← n0, lp]
    have ref : gFX10_reduce M = some (nI tot, (((gpi (gpi S3 10 (nI 0)) 0 (nI 0)).1, setA (gpi (gpi S3 10 (nI 0)) 0 (nI 0)).2 18 f18) : MS)) := by
      rw [rf, y2, ← u1]
      unfold gBX10_reduce_90
      rw [m_must1, gx_bs, n0, gx_bs, gx_bs, gx_bs, gpi_1, upd_o (by decide), gpi_1, upd_o (by decide), y5.2.2.2.2.2.2.1, if_pos (by rw [nI_leN (by omega) (by omega)]; omega)]
    have up : ∀ {q : Nat} {Q : MS}, (q + 8 < a + 35 ∨ a + 101 < q) → bH sK h4 q Q → bH sK h5 q Q := fun {q} _ hq HQ => HQ.same fun x x1 x2 => by have x2 : x ≤ q + 8 := x2; exact k5' x (by omega) (by omega)
    have C5 : CLS h5 a c d U V cnt 0 b (nI 0) m1 f5' := by
      refine ⟨⟨B5, by omega⟩, ⟨⟨S, up (by omega) HS4, sS⟩, ok⟩, ⟨?_, ?_⟩, q4, DY4.fr (fun x hx => k5' x (by omega) (by omega)) (by omega), by rw [k5' _ (by omega) (by omega)]; exact q6, ⟨ds, ft, Or.inl w4, w5, ?_, Z4.same fun x _ _ => k5' x (by omega) (by omega), hds, by rw [k5' _ (by omega) (by omega)]; exact e83, MA4.fr (fun x hx => k5' x (by omega) (by omega)) (by omega)⟩, ⟨by show _ = _; rw [k5' _ (by omega) (by omega)]; exact q8.1, q8.2.same fun x x1 x2 => k5' x (by omega) (by omega)⟩, q9.fr (fun x hx => k5' x (by omega) (by omega)), w6, ?_⟩
      · obtain ⟨Q, hQ⟩ := q3.1
        exact ⟨Q, up (by omega) hQ⟩
      · obtain ⟨Q, hQ⟩ := q3.2
        exact ⟨Q, up (by omega) hQ⟩
      · obtain ⟨Q, hQ⟩ := Pk
        exact ⟨Q, hQ.same fun x x1 x2 => by have x2 : x ≤ a + 32 + 2 := x2; exact k5' x (by omega) (by omega)⟩
      · obtain ⟨g, hg⟩ := q11
        exact ⟨g, by rw [k5' _ (by omega) (by omega)]; exact hg⟩
    have HM5 : bH mK h5 (a + 103) M := HM4.same fun x x1 x2 => k5' x (by omega) (by omega)
    have O5 : OUT h5 (a + 128) := by obtain ⟨g, e⟩ := O4; exact ⟨g, by rw [k5' _ (by omega) (by omega)]; exact e⟩
    obtain ⟨v1, v2⟩ := vt_plain (G := FX10_reduce (a + 103)) (g := gFX10_reduce) (v := nI tot) (fun h S => eFX10_reduce) O5 HM5 ref C5 (by
      obtain ⟨x1, ⟨x2, x3⟩, ⟨x4, x5⟩, x6, ⟨x7, x8⟩, ⟨x9, x10⟩, x11⟩ := R
      have er : ∀ j, j ≠ 10 → j ≠ 11 → j ≠ 16 → j ≠ 17 → j ≠ 18 → j ≠ 19 → (setA (gpi (gpi S3 10 (nI 0)) 0 (nI 0)).2 18 f18) j = M.2 j := fun j j1 j2 j3 j4 j6 j5 => by rw [setA_o j6, gpi_2, gpi_2, y4.2 j j3 j4 j5, mp2, r19 j j5 j1 j2]
      have ei : ∀ q, q ≠ 10 → q ≠ 0 → (gpi (gpi S3 10 (nI 0)) 0 (nI 0)).1 q = S3.1 q := fun q q1 q2 => by rw [gpi_1, gpi_1, upd_o q2, upd_o q1]
      refine ⟨?_, ⟨?_, ?_⟩, ⟨?_, ?_⟩, ?_, ⟨⟨B0, ?_, fun k hk => by omega⟩, ?_⟩, ⟨?_, ?_⟩, ?_⟩
      · rw [mp2, er 1 (by decide) (by decide) (by decide) (by decide) (by decide) (by decide)]; exact x1
      · rw [mp1, ei 5 (by decide) (by decide), y4.1 5 (by omega), mp1, a2.1, k4.2 5 (by omega)]; exact x2
      · rw [mp2, er 4 (by decide) (by decide) (by decide) (by decide) (by decide) (by decide)]; exact x3
      · rw [mp2, er 6 (by decide) (by decide) (by decide) (by decide) (by decide) (by decide)]; exact x4
      · rw [mp2, er 6 (by decide) (by decide) (by decide) (by decide) (by decide) (by decide), er 5 (by decide) (by decide) (by decide) (by decide) (by decide) (by decide)]; exact x5
      · rw [mp2, er 7 (by decide) (by decide) (by decide) (by decide) (by decide) (by decide)]; exact x6
      · rw [mp1, gpi_1, upd_o (by decide), gpi_1, upd_s]
      · unfold WD
        rw [mp2, er 9 (by decide) (by decide) (by decide) (by decide) (by decide) (by decide)]; exact x8
      · rw [mp1, ei 15 (by decide) (by decide)]; exact y5.2.2.2.2.2.2.1
      · rw [mp1, ei 16 (by decide) (by decide)]; exact y5.2.2.2.2.2.2.2.1
      · intro k hk
        rw [mp2, setA_s, u2 k hk, (vv k hk).1])
    exact ⟨_, _, B.ob, cls, v1, v2⟩
  · have P3 := P2.tr y3
    obtain ⟨F9, c9, p9, P9, ⟨T9, HT9, H9⟩, q0, q1, q2, g4, g5, q3, q4⟩ := id y5
    have B3 : BB h3 a := B.fr (P3.2 a (by omega) (by omega) (by omega) (by omega))
    have hp1 : hp h3 (a + 88) 7 1 (.int (nI 0)) = some (bput tK h3 (a + 88) (gpi T9 1 (nI 0))) := HT9.run (F := fun h => hp h (a + 88) 7 1 (.int (nI 0))) tK_pi1
    have fr : ∀ y, y ≠ a + 88 → y ≠ a + 89 → (bput tK h3 (a + 88) (gpi T9 1 (nI 0))).2 y = h3.2 y := fun y y1 y2 => bp_else (by show y < a + 88 ∨ a + 88 + 1 < y; omega)
    have kc : ∀ y, (y < a + 88 ∨ a + 100 < y) → (bput tK h3 (a + 88) (gpi T9 1 (nI 0))).2 y = h.2 y := fun y q => by rw [fr y (by omega) (by omega)]; exact P3.2 y (by omega) (by omega) (by omega) (by omega)
    have B0 : TXb 0 b := ⟨by omega, fun j hj => by omega⟩
    have cls : FX9_reduce a h = some (m1, bput tK h3 (a + 88) (gpi T9 1 (nI 0))) := by
      unfold FX9_reduce
      rw [B.g11, gx_bs, B.g0, gx_bs, gpr, gx_bs, P.ob, gx_bs, rd, y1, b2s, B3.g10, gx_bs, n0, hp1, gx_bs, if_pos rfl, n1, nm1]
    have C4 : CLS (bput tK h3 (a + 88) (gpi T9 1 (nI 0))) a c d U V cnt 0 b (nI c9) (nI p9) res := C.par kc P3.1 ⟨⟨_, bH.put, B0, by rw [gpi_1, upd_s], fun k hk => by omega⟩, ⟨F9, P9.fr (fr _ (by omega) (by omega)), g4, g5⟩, ⟨S0, H0.same fun x x1 x2 => by have x2 : x ≤ a + 91 + 8 := x2; rw [fr x (by omega) (by omega)]; exact P3.2 x (by omega) (by omega) (by omega) (by omega)⟩, by
      obtain ⟨g, hg⟩ := y6
      exact ⟨g, by rw [fr _ (by omega) (by omega)]; exact hg⟩⟩
    have HM4 : bH mK (bput tK h3 (a + 88) (gpi T9 1 (nI 0))) (a + 103) M := HM.same fun x x1 x2 => kc x (by omega)
    have O4 : OUT (bput tK h3 (a + 88) (gpi T9 1 (nI 0))) (a + 128) := by obtain ⟨g, e⟩ := O; exact ⟨g, by rw [kc _ (by omega)]; exact e⟩
    have ref : gFX10_reduce M = some (m1, gpi (gpi S3 10 (nI 0)) 0 (nI 0)) := by
      rw [rf, y2]
      unfold gBX10_reduce_90
      rw [m_must1, gx_bs, n0, gx_bs, gx_bs, gx_bs, gpi_1, upd_o (by decide), gpi_1, upd_o (by decide), q3, if_neg (by rw [nI_leN (by omega) (by omega)]; omega), n1, nm1]
    obtain ⟨v1, v2⟩ := vt_plain (G := FX10_reduce (a + 103)) (g := gFX10_reduce) (v := m1) (fun h S => eFX10_reduce) O4 HM4 ref C4 (by
      obtain ⟨x1, ⟨x2, x3⟩, ⟨x4, x5⟩, x6, ⟨x7, x8⟩, ⟨x9, x10⟩, x11⟩ := R
      have er : ∀ j, j ≠ 10 → j ≠ 11 → j ≠ 16 → j ≠ 17 → j ≠ 19 → (gpi (gpi S3 10 (nI 0)) 0 (nI 0)).2 j = M.2 j := fun j j1 j2 j3 j4 j5 => by rw [gpi_2, gpi_2, y4.2 j j3 j4 j5, mp2, r19 j j5 j1 j2]
      have ei : ∀ q, q ≠ 10 → q ≠ 0 → (gpi (gpi S3 10 (nI 0)) 0 (nI 0)).1 q = S3.1 q := fun q q1 q2 => by rw [gpi_1, gpi_1, upd_o q2, upd_o q1]
      refine ⟨?_, ⟨?_, ?_⟩, ⟨?_, ?_⟩, ?_, ⟨⟨B0, ?_, fun k hk => by omega⟩, ?_⟩, ⟨?_, ?_⟩, ?_⟩
      · rw [er 1 (by decide) (by decide) (by decide) (by decide) (by decide)]; exact x1
      · rw [ei 5 (by decide) (by decide), y4.1 5 (by omega), mp1, a2.1, k4.2 5 (by omega)]; exact x2
      · rw [er 4 (by decide) (by decide) (by decide) (by decide) (by decide)]; exact x3
      · rw [er 6 (by decide) (by decide) (by decide) (by decide) (by decide)]; exact x4
      · rw [er 6 (by decide) (by decide) (by decide) (by decide) (by decide), er 5 (by decide) (by decide) (by decide) (by decide) (by decide)]; exact x5
      · rw [er 7 (by decide) (by decide) (by decide) (by decide) (by decide)]; exact x6
      · rw [gpi_1, upd_o (by decide), gpi_1, upd_s]
      · unfold WD
        rw [er 9 (by decide) (by decide) (by decide) (by decide) (by decide)]; exact x8
      · rw [ei 15 (by decide) (by decide)]; exact q3
      · rw [ei 16 (by decide) (by decide)]; exact q4
      · rw [er 18 (by decide) (by decide) (by decide) (by decide) (by decide)]; exact x11)
    exact ⟨m1, _, B.ob, cls, v1, v2⟩
end
