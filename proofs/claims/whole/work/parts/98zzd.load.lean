/-! call: load, whole -/
section
variable {a m o : Nat}
theorem o_load : St_load (INV a m o) a m := by
  rintro h ⟨rfl, rfl, O, M, c, d, U, V, cnt, L, b, e1, e2, res, HM, C, R⟩
  obtain ⟨h1, S1, F1, T, g, k1, k2, k3, k4, k5⟩ := both_setup trivial C R
  generalize hh2 : bput sK h1 (a + 91) T = h2 at k1 k5
  have sz0 := C.1.2
  have B := C.1.1
  have P4 := C.2.2.2.2.2.2.2.2.1.2.2.2
  have c2 : sch h h2 a := k3.s.tr ⟨by rw [← hh2]; rfl, fun x x1 x2 => by rw [← hh2]; exact bp_else (by show x < a + 91 ∨ a + 91 + 8 < x; omega)⟩
  -- the cells that stay, for both ends
  have keep : ∀ {h3 : jx_H}, sch h2 h3 a → (∀ x, (x < a + 10 ∨ a + 18 < x) → (x < a + 88 ∨ a + 99 < x) → h3.2 x = h.2 x) ∧ h3.1 = h.1 := fun s => ⟨(c2.tr s).2, (c2.tr s).1⟩
  have rows : ∀ {S3 : MS}, srch S1 S3 → (∀ q, ¬ (11 ≤ q ∧ q ≤ 19) → S3.1 q = M.1 q) ∧ (∀ j, j ≠ 1 → j ≠ 2 → j ≠ 3 → S3.2 j = M.2 j) ∧ ∀ q, q < 248 → S3.2 2 q = M.2 1 q := by
    intro S3 r
    refine ⟨fun q hq => by rw [r.1 q hq, k4.2 q hq], fun j j1 j2 j3 => by rw [r.2 j j1 j3, k4.1, mp2, setA_o j1, setA_o j2], fun q hq => ?_⟩
    rw [r.2 2 (by decide) (by decide), k4.1, mp2, setA_o (by decide), setA_s]
    show (if _ then _ else _) = _
    rw [if_pos (by omega), Nat.zero_add, Nat.sub_zero]
  rcases both_load (L + 1) h2 S1 F1 _ _ 0 (by omega) k5 (Nat.zero_le _) (fun _ => rfl) with ⟨h3, S3, y1, y2, F3, t3, c3, y3, y4, y5⟩ | ⟨h3, S3, y1, y2, y3, y4, y5, y6⟩
  · obtain ⟨kc, ks⟩ := keep y3
    obtain ⟨rf, rr, r2⟩ := rows y4
    obtain ⟨K3, ⟨U3, hU3, sU3⟩, ⟨W3, hW3⟩, rc3, oc3⟩ := y5
    obtain ⟨T3, HT3, H3, -⟩ := id K3.2.1
    obtain ⟨-, ⟨⟨S, HS, sS⟩, ok⟩, ⟨-, S2, H2⟩, -, ⟨nx, f, fs, hn, HI, -, RA, es, SV⟩, ec, D, ⟨FF, G⟩, -, er0, ge, eg⟩ := id C
    have l3 := Lm_len oc3.2.1
    have B0 : TXb 0 b := ⟨by omega, fun j hj => by omega⟩
    have hp1 : hp h3 (a + 88) 7 1 (.int (nI 0)) = some (bput tK h3 (a + 88) (gpi T3 1 (nI 0))) := HT3.run (F := fun h => hp h (a + 88) 7 1 (.int (nI 0))) tK_pi1
    obtain ⟨h4, hh4⟩ : ∃ h4, h4 = bput tK h3 (a + 88) (gpi T3 1 (nI 0)) := ⟨_, rfl⟩
    have fr4 : ∀ y, y ≠ a + 88 → y ≠ a + 89 → h4.2 y = h3.2 y := fun y y1 y2 => by rw [hh4]; exact bp_else (by show y < a + 88 ∨ a + 88 + 1 < y; omega)
    have T4 : bH tK h4 (a + 88) (gpi T3 1 (nI 0)) := by rw [hh4]; exact bH.put
    have low4 : ∀ y, (y < a + 10 ∨ a + 18 < y) → (y < a + 88 ∨ a + 99 < y) → h4.2 y = h.2 y := fun y q1 q2 => by rw [fr4 y (by omega) (by omega)]; exact kc y q1 q2
    have HS4 : bH sK h4 (a + 1) S := HS.same fun x x1 x2 => by have x2 : x ≤ a + 1 + 8 := x2; exact low4 x (by omega) (by omega)
    have U4 : bH sK h4 (a + 91) U3 := hU3.same fun x x1 x2 => fr4 x (by omega) (by omega)
    have cp := s_copyFrom U4 HS4 (Or.inr (by show a + 1 + 8 < a + 91; omega))
    obtain ⟨h5, hh5⟩ : ∃ h5, h5 = bput sK h4 (a + 1) (cpS S U3) := ⟨_, rfl⟩
    have fr5 : ∀ y, (y < a + 1 ∨ a + 9 < y) → h5.2 y = h4.2 y := fun y q => by rw [hh5]; exact bp_else (by show y < a + 1 ∨ a + 1 + 8 < y; omega)
    have HS5 : bH sK h5 (a + 1) (cpS S U3) := by rw [hh5]; exact bH.put
    have HI5 : h5.2 (a + 29) = some (.inr (1, hisO (a + 29) nx d)) := by rw [fr5 _ (by omega), low4 _ (by omega) (by omega)]; exact HI.1
    have p2 : hp h5 (a + 29) 1 2 (.int (nI 0)) = some (h5.1, jx_up h5.2 (a + 29) (.inr (1, hisO (a + 29) nx 0))) := hp_ob HI5 (Nat.le_of_ble_eq_true rfl)
    obtain ⟨h6, hh6⟩ : ∃ h6 : jx_H, h6 = (h5.1, jx_up h5.2 (a + 29) (.inr (1, hisO (a + 29) nx 0))) := ⟨_, rfl⟩
    have fr6 : ∀ y, y ≠ a + 29 → h6.2 y = h5.2 y := fun y q => by rw [hh6]; exact up_o q
    have ec6 : h6.2 (a + 31) = some (ar 6 cnt) := by rw [fr6 _ (by omega), fr5 _ (by omega), low4 _ (by omega) (by omega)]; exact ec
    obtain ⟨g6, fl1, fl2⟩ := h_fill (v := nI 0) ec6 (by omega)
    obtain ⟨h7, hh7⟩ : ∃ h7 : jx_H, h7 = (h6.1, jx_up h6.2 (a + 31) (ar 6 g6)) := ⟨_, rfl⟩
    have fr7 : ∀ y, y ≠ a + 31 → h7.2 y = h6.2 y := fun y q => by rw [hh7]; exact up_o q
    have low7 : ∀ y, (y < a + 1 ∨ a + 18 < y) → y ≠ a + 29 → y ≠ a + 31 → (y < a + 88 ∨ a + 99 < y) → h7.2 y = h.2 y := fun y q1 q2 q3 q4 => by rw [fr7 y q3, fr6 y q2, fr5 y (by omega)]; exact low4 y (by omega) q4
    obtain ⟨⟨kn, df, cc, cr, TO0, -⟩, kz, fd, ds, za, zb, zm, ZO0, -⟩ := D.to
    have B4 : BB h4 a := B.fr (low4 a (by omega) (by omega))
    have B7 : BB h7 a := B.fr (low7 a (by omega) (by omega) (by omega) (by omega))
    obtain ⟨h8, w1, w2, w3, w4, w5⟩ := h_forget (kn := kn) (df := df) (cc := cc) (cr := cr) (kz := kz) (fd := fd) (ds := ds) B7 (by show _ = _; rw [low7 _ (by omega) (by omega) (by omega) (by omega)]; exact TO0) (by show _ = _; rw [low7 _ (by omega) (by omega) (by omega) (by omega)]; exact ZO0)
    have low8 : ∀ y, (y < a + 1 ∨ a + 18 < y) → y ≠ a + 29 → y ≠ a + 31 → (y < a + 88 ∨ a + 99 < y) → y ≠ a + 35 → y ≠ a + 68 → h8.2 y = h.2 y := fun y q1 q2 q3 q4 q5 q6 => by rw [w3 y q5 q6]; exact low7 y q1 q2 q3 q4
    have sz8 : h8.1 = h.1 := by rw [w2, hh7]; show h6.1 = _; rw [hh6]; show h5.1 = _; rw [hh5]; show h4.1 = _; rw [hh4]; exact ks
    have HS8 : bH sK h8 (a + 1) (cpS S U3) := HS5.same fun x x1 x2 => by have x2 : x ≤ a + 1 + 8 := x2; rw [w3 x (by omega) (by omega), fr7 x (by omega), fr6 x (by omega)]
    have B8 : BB h8 a := B.fr (low8 a (by omega) (by omega) (by omega) (by omega) (by omega) (by omega))
    have up3 : ∀ y, a + 10 ≤ y → y ≠ a + 29 → y ≠ a + 31 → y ≠ a + 35 → y ≠ a + 68 → y ≠ a + 88 → y ≠ a + 89 → h8.2 y = h3.2 y := fun y q1 q2 q3 q4 q5 q6 q7 => by rw [w3 y q4 q5, fr7 y q3, fr6 y q2, fr5 y (by omega), fr4 y q6 q7]
    have sC := sU3.cp (T := S) oc3
    have cls : FX9_load a h = some (nI (Lm c3.2.1).length, h8) := by
      unfold FX9_load
      obtain ⟨F0, P0, -⟩ := C.2.2.2.2.2.2.2.2.1.2.1
      have B3 : BB h3 a := B.fr (kc a (by omega) (by omega))
      have B5 : BB h5 a := B4.fr (fr5 a (by omega))
      have B6 : BB h6 a := B5.fr (fr6 a (by omega))
      have P4' : PO h4 a F3 := K3.1.fr (fr4 _ (by omega) (by omega))
      have n2' : hgi h8 (a + 1) 5 2 = some (nI (Lm c3.2.1).length) := by rw [← sC.2.2.1.1]; exact HS8.i2
      rw [B.g11, gx_bs, P0.ob, gx_bs, k1, y1, b2s, B3.g10, gx_bs, n0, hp1, gx_bs, if_neg (by rw [nI_eqN (by omega) (by omega)]; omega), ← hh4, B4.g0, gx_bs, B4.g11, gx_bs, P4'.g2, gx_bs, HS4.o5, gx_bs, cp, gx_bs, ← hh5, B5.g4, gx_bs, p2, gx_bs, ← hh6, B6.g5, gx_bs, fl1, gx_bs, ← hh7, B7.ob, gx_bs, w1, gx_bs, B8.g0, gx_bs, n2', gx_bs]
    have C8 : CLS h8 a c3 0 U V g6 0 b (nI 0) m1 res := by
      refine ⟨⟨B8, by omega⟩, ⟨⟨_, HS8, sC⟩, oc3⟩, ⟨⟨W3, hW3.same fun x x1 x2 => by have x2 : x ≤ a + 10 + 8 := x2; exact up3 x (by omega) (by omega) (by omega) (by omega) (by omega) (by omega) (by omega)⟩, S2, H2.same fun x x1 x2 => by have x2 : x ≤ a + 19 + 8 := x2; exact low8 x (by omega) (by omega) (by omega) (by omega) (by omega) (by omega)⟩, ⟨by omega, fun k hk => by omega⟩, ?_, ?_, ?_, ⟨by show _ = _; rw [low8 _ (by omega) (by omega) (by omega) (by omega) (by omega) (by omega)]; exact FF, G.same fun x x1 x2 => low8 x (by omega) (by omega) (by omega) (by omega) (by omega) (by omega)⟩, ⟨⟨_, T4.same fun x x1 x2 => by have x2 : x ≤ a + 88 + 1 := x2; rw [w3 x (by omega) (by omega), fr7 x (by omega), fr6 x (by omega), fr5 x (by omega)], B0, by rw [gpi_1, upd_s], fun k hk => by omega⟩, ⟨F3, K3.1.fr (up3 _ (by omega) (by omega) (by omega) (by omega) (by omega) (by omega) (by omega)), K3.2.2.2.2.2.2.2.2.1, K3.2.2.2.2.2.2.2.2.2⟩, ⟨U3, hU3.same fun x x1 x2 => by have x2 : x ≤ a + 91 + 8 := x2; exact up3 x (by omega) (by omega) (by omega) (by omega) (by omega) (by omega) (by omega)⟩, ?_⟩, by rw [low8 _ (by omega) (by omega) (by omega) (by omega) (by omega) (by omega)]; exact er0, ge, by rw [low8 _ (by omega) (by omega) (by omega) (by omega) (by omega) (by omega)]; exact eg⟩
      · refine ⟨nx, f, fs, hn, ⟨?_, ?_⟩, fun k hk => by omega, ⟨fun j q hj hq => ?_, RA.2⟩, ?_, SV.1, fun k v hk hv => ?_, SV.2.2⟩
        · rw [w3 _ (by omega) (by omega), fr7 _ (by omega), hh6]; exact up_s
        · rw [low8 _ (by omega) (by omega) (by omega) (by omega) (by omega) (by omega)]; exact HI.2
        · obtain ⟨⟨Q, x1⟩, x2, x3⟩ := RA.1 j q hj hq
          exact ⟨⟨Q, x1.same fun x y1 _ => low8 x (by omega) (by omega) (by omega) (by omega) (by omega) (by omega)⟩, x2, by omega⟩
        · rw [low8 _ (by omega) (by omega) (by omega) (by omega) (by omega) (by omega)]; exact es
        · obtain ⟨x1, q, Q, x2, x3, x4, x5, x6, x7⟩ := SV.2.1 k v hk hv
          exact ⟨x1, q, Q, x2, x3.same fun x y1 _ => low8 x (by omega) (by omega) (by omega) (by omega) (by omega) (by omega), x4, x5, by omega, x7⟩
      · rw [w3 _ (by omega) (by omega), hh7]; exact up_s
      · exact D.new w4 w5 (fun x x1 x2 x3 x4 => low8 x (by omega) (by omega) (by omega) (by omega) x3 x4) fun ft mt => mt.fr (fun x hx => low8 x (by omega) (by omega) (by omega) (by omega) (by omega) (by omega)) (by omega)
      · obtain ⟨g, hg⟩ := P4
        exact ⟨g, by rw [low8 _ (by omega) (by omega) (by omega) (by omega) (by omega) (by omega)]; exact hg⟩
    have HM8 : bH mK h8 (a + 103) M := HM.same fun x x1 x2 => low8 x (by omega) (by omega) (by omega) (by omega) (by omega) (by omega)
    have O8 : OUT h8 (a + 128) := by obtain ⟨g, e⟩ := O; exact ⟨g, by rw [low8 _ (by omega) (by omega) (by omega) (by omega) (by omega) (by omega)]; exact e⟩
    obtain ⟨f7, m1', m2'⟩ := m_load86 (S := gpi (gpi (gpi S3 10 (nI 0)) 0 (nI 0)) 5 (nI 0)) (n := (Lm c3.2.1).length) (g_n (by rw [gpi_2, gpi_2, gpi_2]; exact rc3.2.1))
    have ref : gFX10_load M = some (nI (Lm c3.2.1).length, (((gpi (gpi (gpi S3 10 (nI 0)) 0 (nI 0)) 5 (nI 0)).1, setA (gpi (gpi (gpi S3 10 (nI 0)) 0 (nI 0)) 5 (nI 0)).2 7 f7) : MS)) := by
      rw [k2, y2, ← m1']
      unfold gBX10_load_47
      rw [n0, gx_bs, gx_bs, gx_bs, gpi_1, upd_o (by decide), gpi_1, upd_o (by decide), K3.2.2.2.2.2.2.1, if_pos (by rw [nI_leN (by omega) (by omega)]; omega), gx_bs]
    obtain ⟨v1, v2⟩ := vt_plain (G := FX10_load (a + 103)) (g := gFX10_load) (v := nI (Lm c3.2.1).length) (fun h S => eFX10_load) O8 HM8 ref C8 (by
      obtain ⟨x1, ⟨x2, x3⟩, ⟨x4, x5⟩, x6, ⟨x7, x8⟩, ⟨x9, x10⟩, x11⟩ := R
      have er : ∀ j, j ≠ 1 → j ≠ 2 → j ≠ 3 → j ≠ 7 → (setA (gpi (gpi (gpi S3 10 (nI 0)) 0 (nI 0)) 5 (nI 0)).2 7 f7) j = M.2 j := fun j j1 j2 j3 j7 => by rw [setA_o j7, gpi_2, gpi_2, gpi_2]; exact rr j j1 j2 j3
      have ei : ∀ q, q ≠ 10 → q ≠ 0 → q ≠ 5 → (gpi (gpi (gpi S3 10 (nI 0)) 0 (nI 0)) 5 (nI 0)).1 q = S3.1 q := fun q q1 q2 q3 => by rw [gpi_1, gpi_1, gpi_1, upd_o q3, upd_o q2, upd_o q1]
      refine ⟨?_, ⟨?_, fun k hk => by omega⟩, ⟨?_, ?_⟩, ?_, ⟨⟨B0, ?_, fun k hk => by omega⟩, ?_⟩, ⟨?_, ?_⟩, ?_⟩
      · rw [mp2, setA_o (by decide), gpi_2, gpi_2, gpi_2]; exact rc3
      · rw [mp1, gpi_1, upd_s]
      · rw [mp2, er 6 (by decide) (by decide) (by decide) (by decide)]; exact x4
      · rw [mp2, er 6 (by decide) (by decide) (by decide) (by decide), er 5 (by decide) (by decide) (by decide) (by decide)]; exact x5
      · intro k hk
        rw [mp2, setA_s, m2' k hk, fl2 k hk]
      · rw [mp1, gpi_1, gpi_1, gpi_1, upd_o (by decide), upd_o (by decide), upd_s]
      · unfold WD
        rw [mp2, er 9 (by decide) (by decide) (by decide) (by decide)]; exact x8
      · rw [mp1, ei 15 (by decide) (by decide) (by decide)]; exact K3.2.2.2.2.2.2.1
      · rw [mp1, ei 16 (by decide) (by decide) (by decide)]; exact K3.2.2.2.2.2.2.2.1
      · rw [mp2, er 18 (by decide) (by decide) (by decide) (by decide)]; exact x11)
    exact ⟨_, _, B.ob, cls, v1, v2⟩
  · obtain ⟨kc, ks⟩ := keep y3
    obtain ⟨rf, rr, r2⟩ := rows y4
    obtain ⟨F9, c9, p9, P9, ⟨T9, HT9, H9⟩, q0, q1, q2, f4, f5, q3, q4⟩ := id y5
    obtain ⟨⟨U9, hU9⟩, W9, hW9⟩ := y6
    have B3 : BB h3 a := B.fr (kc a (by omega) (by omega))
    have hp1 : hp h3 (a + 88) 7 1 (.int (nI 0)) = some (bput tK h3 (a + 88) (gpi T9 1 (nI 0))) := HT9.run (F := fun h => hp h (a + 88) 7 1 (.int (nI 0))) tK_pi1
    have fr : ∀ y, y ≠ a + 88 → y ≠ a + 89 → (bput tK h3 (a + 88) (gpi T9 1 (nI 0))).2 y = h3.2 y := fun y y1 y2 => bp_else (by show y < a + 88 ∨ a + 88 + 1 < y; omega)
    have B0 : TXb 0 b := ⟨by omega, fun j hj => by omega⟩
    have cls : FX9_load a h = some (m1, bput tK h3 (a + 88) (gpi T9 1 (nI 0))) := by
      unfold FX9_load
      obtain ⟨F0, P0, -⟩ := C.2.2.2.2.2.2.2.2.1.2.1
      rw [B.g11, gx_bs, P0.ob, gx_bs, k1, y1, b2s, B3.g10, gx_bs, n0, hp1, gx_bs, if_pos rfl, n1, nm1]
    have C4 : CLS (bput tK h3 (a + 88) (gpi T9 1 (nI 0))) a c d U V cnt 0 b (nI c9) (nI p9) res := by
      refine C.set (fun x x1 x2 => ?_) ks ⟨W9, hW9.same fun x x1 x2 => ?_⟩ ⟨⟨_, bH.put, B0, by rw [gpi_1, upd_s], fun k hk => by omega⟩, ⟨F9, P9.fr (fr _ (by omega) (by omega)), f4, f5⟩, ⟨U9, hU9.same fun x x1 _ => fr x (by omega) (by omega)⟩, ?_⟩
      · rw [fr x (by omega) (by omega)]; exact kc x x1 (by omega)
      · have x2 : x ≤ a + 10 + 8 := x2
        exact fr x (by omega) (by omega)
      · obtain ⟨g, hg⟩ := P4
        exact ⟨g, by rw [fr _ (by omega) (by omega), kc _ (by omega) (by omega)]; exact hg⟩
    have HM4 : bH mK (bput tK h3 (a + 88) (gpi T9 1 (nI 0))) (a + 103) M := HM.same fun x x1 x2 => by rw [fr x (by omega) (by omega)]; exact kc x (by omega) (by omega)
    have O4 : OUT (bput tK h3 (a + 88) (gpi T9 1 (nI 0))) (a + 128) := by obtain ⟨g, e⟩ := O; exact ⟨g, by rw [fr _ (by omega) (by omega), kc _ (by omega) (by omega)]; exact e⟩
    have ref : gFX10_load M = some (m1, ((upd (upd S3.1 10 (nI 0)) 0 (nI 0), setA S3.2 1 (fun q => if 0 ≤ q ∧ q < 0 + 248 then S3.2 2 (0 + (q - 0)) else S3.2 1 q)) : MS)) := by
      rw [k2, y2]
      unfold gBX10_load_47
      rw [n0, gx_bs, gx_bs, gx_bs, gpi_1, upd_o (by decide), gpi_1, upd_o (by decide), q3, if_neg (by rw [nI_leN (by omega) (by omega)]; omega), g_copies (j0 := 2) (j1 := 1) (a := 0) (b := 0) (N0 := 248) (N1 := 248) rfl rfl (by omega) (by omega) (by omega) (by omega) (by omega), gx_bs, n1, nm1]
      rfl
    obtain ⟨v1, v2⟩ := vt_plain (G := FX10_load (a + 103)) (g := gFX10_load) (v := m1) (fun h S => eFX10_load) O4 HM4 ref C4 (by
      obtain ⟨x1, ⟨x2, x3⟩, ⟨x4, x5⟩, x6, ⟨x7, x8⟩, ⟨x9, x10⟩, x11⟩ := R
      have er : ∀ j, j ≠ 1 → j ≠ 2 → j ≠ 3 → (setA S3.2 1 (fun q => if 0 ≤ q ∧ q < 0 + 248 then S3.2 2 (0 + (q - 0)) else S3.2 1 q)) j = M.2 j := fun j j1 j2 j3 => by rw [setA_o j1]; exact rr j j1 j2 j3
      refine ⟨?_, ⟨?_, ?_⟩, ⟨?_, ?_⟩, ?_, ⟨⟨B0, ?_, fun k hk => by omega⟩, ?_⟩, ⟨?_, ?_⟩, ?_⟩
      · rw [mp2, setA_s]
        refine x1.fr C.2.1.2 fun q hq => ?_
        show (if _ then _ else _) = _
        rw [if_pos (by omega), Nat.zero_add, Nat.sub_zero, r2 q hq]
      · rw [mp1, upd_o (by decide), upd_o (by decide), rf 5 (by omega)]; exact x2
      · rw [mp2, er 4 (by decide) (by decide) (by decide)]; exact x3
      · rw [mp2, er 6 (by decide) (by decide) (by decide)]; exact x4
      · rw [mp2, er 6 (by decide) (by decide) (by decide), er 5 (by decide) (by decide) (by decide)]; exact x5
      · rw [mp2, er 7 (by decide) (by decide) (by decide)]; exact x6
      · rw [mp1, upd_o (by decide), upd_s]
      · unfold WD
        rw [mp2, er 9 (by decide) (by decide) (by decide)]; exact x8
      · rw [mp1, upd_o (by decide), upd_o (by decide)]; exact q3
      · rw [mp1, upd_o (by decide), upd_o (by decide)]; exact q4
      · rw [mp2, er 18 (by decide) (by decide) (by decide)]; exact x11)
    exact ⟨m1, _, B.ob, cls, v1, v2⟩
end
