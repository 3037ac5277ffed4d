/-! calls: the counts -/
section
variable {a m o : Nat}
theorem o_count : St_count (INV a m o) a m o := by
  rintro h x ⟨rfl, rfl, O, M, c, d, U, V, cnt, L, b, e1, e2, res, HM, C, R⟩
  obtain ⟨⟨B, -⟩, ⟨⟨S, HS, sS⟩, ok⟩, -, -, ⟨nx, f, fs, -, HI, -⟩, -⟩ := id C
  have w := ok.2.1
  have l := Lm_len w
  have pb := prs_b c.1 ok.1
  have rb31 : ∀ b k, b < (Lb c.2.1).length → k < (Lm c.2.1).length → c.2.2.1 b k < 2 ^ 31 := fun b k h1 h2 => by have := ok.2.2.1 b k h1 h2; omega
  have r1 : (gpi M 0 (nI 0)).2 1 = M.2 1 := by rw [gpi_2]
  by_cases ho : outB x 7 = false
  · obtain ⟨k, hk, rfl⟩ := outB_f (by omega) ho
    have key : ∀ v, FX9_count a (nI k) h = some (.inl (nI v, h)) → gBX10_count_31 (nI k) (nI k) (gpi M 0 (nI 0)) = some (nI v, gpi M 0 (nI 0)) → ∃ r, FX9_count a (nI k) h = some r ∧ isO h a 9 = some () ∧ VT a (fun E => E = "java/lang/IllegalArgumentException") "java/lang/IllegalArgumentException" (FX10_count (a + 103) (nI k)) r := fun v y1 y2 => ⟨_, y1, B.ob, vt_val (g := gFX10_count (nI k)) (M' := gpi M 0 (nI 0)) (fun h S => eFX10_count) O HM (by
      unfold gFX10_count gBX10_count_16
      rw [n0, n7, m_in, gx_bs, ho, if_neg (by rw [bI_0]; decide), gx_bs, gx_bs, gpi_1, upd_s, if_pos (by rw [nI_leN (by omega) (by omega)]; omega), y2]) (by rw [gpi_1, upd_s]) C R.t0⟩
    have hk8 : k = 0 ∨ k = 1 ∨ k = 2 ∨ k = 3 ∨ k = 4 ∨ k = 5 ∨ k = 6 ∨ k = 7 := by omega
    rcases hk8 with rfl | rfl | rfl | rfl | rfl | rfl | rfl | rfl
    · refine key (c.1) ?_ ?_
      · unfold FX9_count
        rw [n0, n1, n2, n3, n4, n5, n6, n7, if_pos rfl, B.g0, gx_bs, HS.i0, gx_bs, sS.1]
      · unfold gBX10_count_31
        rw [n0, n1, nm1, n2, n3, n4, n5, n6, n7, if_neg (by rw [nI_ne_m1 (by omega)]; exact id), if_pos rfl]
        unfold gBX10_count_111
        rw [mK_a1 (by omega), gx_bs, r1, R.1.1]
    · refine key ((Lm c.2.1).length) ?_ ?_
      · unfold FX9_count
        rw [n0, n1, n2, n3, n4, n5, n6, n7, if_neg (by rw [nI_eqN (by omega) (by omega)]; omega), if_pos rfl, B.g0, gx_bs, HS.i2, gx_bs, sS.2.2.1.1]
      · unfold gBX10_count_31
        rw [n0, n1, nm1, n2, n3, n4, n5, n6, n7, if_neg (by rw [nI_ne_m1 (by omega)]; exact id), if_neg (by rw [nI_eqN (by omega) (by omega)]; omega), if_pos rfl]
        unfold gBX10_count_111
        rw [mK_a1 (by omega), gx_bs, r1, R.1.2.1.1]
    · refine key ((Lb c.2.1).length) ?_ ?_
      · unfold FX9_count
        rw [n0, n1, n2, n3, n4, n5, n6, n7, if_neg (by rw [nI_eqN (by omega) (by omega)]; omega), if_neg (by rw [nI_eqN (by omega) (by omega)]; omega), if_pos rfl, B.g0, gx_bs, HS.i5, gx_bs, sS.2.2.1.2.1]
      · unfold gBX10_count_31
        rw [n0, n1, nm1, n2, n3, n4, n5, n6, n7, if_neg (by rw [nI_ne_m1 (by omega)]; exact id), if_neg (by rw [nI_eqN (by omega) (by omega)]; omega), if_neg (by rw [nI_eqN (by omega) (by omega)]; omega), if_pos rfl]
        unfold gBX10_count_111
        rw [mK_a1 (by omega), gx_bs, r1, R.1.2.2.1.1]
    · refine key (fillN c.2.1 c.2.2.1) ?_ ?_
      · unfold FX9_count
        rw [n0, n1, n2, n3, n4, n5, n6, n7, if_neg (by rw [nI_eqN (by omega) (by omega)]; omega), if_neg (by rw [nI_eqN (by omega) (by omega)]; omega), if_neg (by rw [nI_eqN (by omega) (by omega)]; omega), if_pos rfl, B.g0, gx_bs, HS.o5, gx_bs, HS.run (F := FX5_coefficientsNotZero (a + 1)) eFX5_coefficientsNotZero, s_filled sS w rb31, gx_bs]
      · unfold gBX10_count_31
        rw [n0, n1, nm1, n2, n3, n4, n5, n6, n7, if_neg (by rw [nI_ne_m1 (by omega)]; exact id), if_neg (by rw [nI_eqN (by omega) (by omega)]; omega), if_neg (by rw [nI_eqN (by omega) (by omega)]; omega), if_neg (by rw [nI_eqN (by omega) (by omega)]; omega), if_pos rfl, m_filled (by rw [r1]; exact R.1) w rb31, gx_bs]
    · refine key (c.2.2.2.length) ?_ ?_
      · unfold FX9_count
        rw [n0, n1, n2, n3, n4, n5, n6, n7, if_neg (by rw [nI_eqN (by omega) (by omega)]; omega), if_neg (by rw [nI_eqN (by omega) (by omega)]; omega), if_neg (by rw [nI_eqN (by omega) (by omega)]; omega), if_neg (by rw [nI_eqN (by omega) (by omega)]; omega), if_pos rfl, B.g0, gx_bs, HS.i9, gx_bs, sS.2.2.2.2.1]
      · unfold gBX10_count_31
        rw [n0, n1, nm1, n2, n3, n4, n5, n6, n7, if_neg (by rw [nI_ne_m1 (by omega)]; exact id), if_neg (by rw [nI_eqN (by omega) (by omega)]; omega), if_neg (by rw [nI_eqN (by omega) (by omega)]; omega), if_neg (by rw [nI_eqN (by omega) (by omega)]; omega), if_neg (by rw [nI_eqN (by omega) (by omega)]; omega), if_pos rfl, mK_a1 (by omega), gx_bs, r1, R.1.2.2.2.1]
    · refine key (d) ?_ ?_
      · unfold FX9_count
        rw [n0, n1, n2, n3, n4, n5, n6, n7, if_neg (by rw [nI_eqN (by omega) (by omega)]; omega), if_neg (by rw [nI_eqN (by omega) (by omega)]; omega), if_neg (by rw [nI_eqN (by omega) (by omega)]; omega), if_neg (by rw [nI_eqN (by omega) (by omega)]; omega), if_neg (by rw [nI_eqN (by omega) (by omega)]; omega), if_pos rfl, B.g4, gx_bs, hgi_ob (x := nI d) HI.1 rfl, gx_bs]
      · unfold gBX10_count_31
        rw [n0, n1, nm1, n2, n3, n4, n5, n6, n7, if_neg (by rw [nI_ne_m1 (by omega)]; exact id), if_neg (by rw [nI_eqN (by omega) (by omega)]; omega), if_neg (by rw [nI_eqN (by omega) (by omega)]; omega), if_neg (by rw [nI_eqN (by omega) (by omega)]; omega), if_neg (by rw [nI_eqN (by omega) (by omega)]; omega), if_neg (by rw [nI_eqN (by omega) (by omega)]; omega), if_pos rfl, gx_bs, gpi_1, upd_o (by decide), R.2.1.1]
    · refine key (candN c.2.1) ?_ ?_
      · unfold FX9_count
        rw [n0, n1, n2, n3, n4, n5, n6, n7, if_neg (by rw [nI_eqN (by omega) (by omega)]; omega), if_neg (by rw [nI_eqN (by omega) (by omega)]; omega), if_neg (by rw [nI_eqN (by omega) (by omega)]; omega), if_neg (by rw [nI_eqN (by omega) (by omega)]; omega), if_neg (by rw [nI_eqN (by omega) (by omega)]; omega), if_neg (by rw [nI_eqN (by omega) (by omega)]; omega), if_pos rfl, B.g0, gx_bs, HS.o5, gx_bs, HS.run (F := FX5_candidates (a + 1)) eFX5_candidates, s_candidates sS w, gx_bs]
      · unfold gBX10_count_31
        rw [n0, n1, nm1, n2, n3, n4, n5, n6, n7, if_neg (by rw [nI_ne_m1 (by omega)]; exact id), if_neg (by rw [nI_eqN (by omega) (by omega)]; omega), if_neg (by rw [nI_eqN (by omega) (by omega)]; omega), if_neg (by rw [nI_eqN (by omega) (by omega)]; omega), if_neg (by rw [nI_eqN (by omega) (by omega)]; omega), if_neg (by rw [nI_eqN (by omega) (by omega)]; omega), if_neg (by rw [nI_eqN (by omega) (by omega)]; omega), if_pos rfl, m_movable (b := 1) (by rw [r1]; exact R.1) w (by omega), gx_bs]
        rfl
    · refine key (cornN c.2.1) ?_ ?_
      · unfold FX9_count
        rw [n0, n1, n2, n3, n4, n5, n6, n7, if_neg (by rw [nI_eqN (by omega) (by omega)]; omega), if_neg (by rw [nI_eqN (by omega) (by omega)]; omega), if_neg (by rw [nI_eqN (by omega) (by omega)]; omega), if_neg (by rw [nI_eqN (by omega) (by omega)]; omega), if_neg (by rw [nI_eqN (by omega) (by omega)]; omega), if_neg (by rw [nI_eqN (by omega) (by omega)]; omega), if_neg (by rw [nI_eqN (by omega) (by omega)]; omega), if_pos rfl, B.g0, gx_bs, HS.o5, gx_bs, HS.run (F := FX5_corners (a + 1)) eFX5_corners, s_corners sS w, gx_bs]
      · unfold gBX10_count_31
        rw [n0, n1, nm1, n2, n3, n4, n5, n6, n7, if_neg (by rw [nI_ne_m1 (by omega)]; exact id), if_neg (by rw [nI_eqN (by omega) (by omega)]; omega), if_neg (by rw [nI_eqN (by omega) (by omega)]; omega), if_neg (by rw [nI_eqN (by omega) (by omega)]; omega), if_neg (by rw [nI_eqN (by omega) (by omega)]; omega), if_neg (by rw [nI_eqN (by omega) (by omega)]; omega), if_neg (by rw [nI_eqN (by omega) (by omega)]; omega), if_neg (by rw [nI_eqN (by omega) (by omega)]; omega), if_pos rfl, m_movable (b := 0) (by rw [r1]; exact R.1) w (by omega), gx_bs]
        rfl
  · have ho' : outB x 7 = true := by simpa using ho
    have ne : ∀ j, j ≤ 7 → ¬ x = nI j := fun j hj z => by
      rw [z, outB_in hj (by omega)] at ho'
      cases ho'
    refine ⟨.inr ("java/lang/IllegalArgumentException", h), ?_, B.ob, vt_thr (G := FX10_count (a + 103) x) (g := gFX10_count x) (M' := gpi M 0 (nI 1)) (v := 0) (k := 1) (fun h S => eFX10_count) O HM rfl cd1 (by omega) (by omega) ?_ (by rw [gpi_1, upd_s]) C R.t0⟩
    · unfold FX9_count
      rw [n0, n1, n2, n3, n4, n5, n6, n7, if_neg (ne 0 (by omega)), if_neg (ne 1 (by omega)), if_neg (ne 2 (by omega)), if_neg (ne 3 (by omega)), if_neg (ne 4 (by omega)), if_neg (ne 5 (by omega)), if_neg (ne 6 (by omega)), if_neg (ne 7 (by omega))]
    · unfold gFX10_count gBX10_count_16 gBX10_count_31
      rw [n0, n7, m_in, gx_bs, ho', if_pos (by rw [bI_0]; rfl), gx_bs, gx_bs, n1, gpi_1, upd_s, if_neg (by rw [nI_leN (by omega) (by omega)]; omega), if_pos rfl]
end
