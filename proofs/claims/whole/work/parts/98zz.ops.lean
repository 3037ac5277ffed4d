/-! calls: the text, the errors, the result, the changes -/
theorem n896 : (896 : Int32) = nI 896 := by decide +kernel
theorem i_cases (x : Int32) : x < nI 0 ∨ ∃ k, k < 2 ^ 31 ∧ x = nI k := by
  by_cases h : x < nI 0
  · exact Or.inl h
  · right
    have e : outB x (2 ^ 31 - 1) = false := by
      have h2 : x ≤ nI (2 ^ 31 - 1) := by
        rw [Int32.le_iff_toInt_le, nI_toInt (by omega)]
        have := x.toInt_lt
        omega
      unfold outB
      rw [decide_eq_false h, decide_eq_true h2]
      rfl
    obtain ⟨k, hk, rfl⟩ := outB_f (by omega) e
    exact ⟨k, by omega, rfl⟩
theorem outB_neg {x : Int32} {n : Nat} (h : x < nI 0) : outB x n = true := by
  unfold outB
  rw [decide_eq_true h]
  rfl
theorem outB_k {k n : Nat} (h1 : k < 2 ^ 31) (h2 : n < 2 ^ 31) : outB (nI k) n = decide (n < k) := by
  unfold outB
  have e1 : (decide (nI k < nI 0)) = false := decide_eq_false (by rw [nI_lt0 h1]; exact id)
  rw [e1, Bool.false_or]
  by_cases h : n < k
  · rw [decide_eq_true h, decide_eq_false (by rw [nI_leN h1 h2]; omega)]
    rfl
  · rw [decide_eq_false h, decide_eq_true (by rw [nI_leN h1 h2]; omega)]
    rfl
theorem cd1 {E : String} : jx_cd E E = nI 1 := by unfold jx_cd; rw [if_pos rfl, n1]
theorem cd2 {E E' : String} (h : E' ≠ E) : jx_cd E E' = nI 2 := by unfold jx_cd; rw [if_neg h, n2]
section
variable {h h' : jx_H} {a : Nat} {c : Cf} {d : Nat} {U : Nat → Cf} {V : Nat → Option Cf} {cnt : Nat → Int32} {L L' : Nat} {b b' : Nat → Nat} {e1 e2 e1' e2' : Int32} {res : Nat → Int32} {M M' : MS}
theorem BB.g0 (B : BB h a) : hgr h a 9 0 = some (a + 1) := hgr_ob B rfl
theorem BB.g1 (B : BB h a) : hgr h a 9 1 = some (a + 10) := hgr_ob B rfl
theorem BB.g2 (B : BB h a) : hgr h a 9 2 = some (a + 19) := hgr_ob B rfl
theorem BB.g3 (B : BB h a) : hgr h a 9 3 = some (a + 28) := hgr_ob B rfl
theorem BB.g4 (B : BB h a) : hgr h a 9 4 = some (a + 29) := hgr_ob B rfl
theorem BB.g5 (B : BB h a) : hgr h a 9 5 = some (a + 31) := hgr_ob B rfl
theorem BB.g6 (B : BB h a) : hgr h a 9 6 = some (a + 32) := hgr_ob B rfl
theorem BB.g7 (B : BB h a) : hgr h a 9 7 = some (a + 35) := hgr_ob B rfl
theorem BB.g8 (B : BB h a) : hgr h a 9 8 = some (a + 68) := hgr_ob B rfl
theorem BB.g9 (B : BB h a) : hgr h a 9 9 = some (a + 84) := hgr_ob B rfl
theorem BB.g10 (B : BB h a) : hgr h a 9 10 = some (a + 88) := hgr_ob B rfl
theorem BB.g11 (B : BB h a) : hgr h a 9 11 = some (a + 90) := hgr_ob B rfl
theorem BB.g12 (B : BB h a) : hgr h a 9 12 = some (a + 101) := hgr_ob B rfl
theorem BB.g13 (B : BB h a) : hgr h a 9 13 = some (a + 102) := hgr_ob B rfl
theorem BB.ob (B : BB h a) : isO h a 9 = some () := isO_ob B
theorem BB.fr (B : BB h a) (e : h'.2 a = h.2 a) : BB h' a := by show _ = _; rw [e]; exact B
/-- the reference's words outside of the state -/
theorem REF.fr (R : REF M c d U V cnt L b e1 e2 res) (q5 : M'.1 5 = M.1 5) (q10 : M'.1 10 = M.1 10) (q15 : M'.1 15 = M.1 15) (q16 : M'.1 16 = M.1 16) (r1 : M'.2 1 = M.2 1) (r4 : M'.2 4 = M.2 4) (r5 : M'.2 5 = M.2 5) (r6 : M'.2 6 = M.2 6) (r7 : M'.2 7 = M.2 7) (r8 : M'.2 8 = M.2 8) (r9 : M'.2 9 = M.2 9) (r18 : M'.2 18 = M.2 18) : REF M' c d U V cnt L b e1 e2 res := by
  obtain ⟨x1, ⟨x2, x3⟩, ⟨x4, x5⟩, x6, ⟨x7, x8⟩, ⟨x9, x10⟩, x11⟩ := R
  refine ⟨by rw [r1]; exact x1, ⟨by rw [q5]; exact x2, by rw [r4]; exact x3⟩, ⟨by rw [r6]; exact x4, by rw [r6, r5]; exact x5⟩, by rw [r7]; exact x6, ⟨⟨x7.1, by rw [q10]; exact x7.2.1, by rw [r8]; exact x7.2.2⟩, by unfold WD; rw [r9]; exact x8⟩, ⟨by rw [q15]; exact x9, by rw [q16]; exact x10⟩, by rw [r18]; exact x11⟩
theorem REF.t0 {x : Int32} (R : REF M c d U V cnt L b e1 e2 res) : REF (gpi M 0 x) c d U V cnt L b e1 e2 res := R.fr (by rw [gpi_1, upd_o (by decide)]) (by rw [gpi_1, upd_o (by decide)]) (by rw [gpi_1, upd_o (by decide)]) (by rw [gpi_1, upd_o (by decide)]) (by rw [gpi_2]) (by rw [gpi_2]) (by rw [gpi_2]) (by rw [gpi_2]) (by rw [gpi_2]) (by rw [gpi_2]) (by rw [gpi_2]) (by rw [gpi_2])
theorem REF.tx (R : REF M c d U V cnt L b e1 e2 res) (q : ∀ k, k ≠ 0 → k ≠ 10 → M'.1 k = M.1 k) (r : ∀ j, j ≠ 8 → M'.2 j = M.2 j) (t : rTx M' L' b') : REF M' c d U V cnt L' b' e1 e2 res := by
  obtain ⟨x1, ⟨x2, x3⟩, ⟨x4, x5⟩, x6, ⟨x7, x8⟩, ⟨x9, x10⟩, x11⟩ := R
  refine ⟨by rw [r 1 (by decide)]; exact x1, ⟨by rw [q 5 (by decide) (by decide)]; exact x2, by rw [r 4 (by decide)]; exact x3⟩, ⟨by rw [r 6 (by decide)]; exact x4, by rw [r 6 (by decide), r 5 (by decide)]; exact x5⟩, by rw [r 7 (by decide)]; exact x6, ⟨t, by unfold WD; rw [r 9 (by decide)]; exact x8⟩, ⟨by rw [q 15 (by decide) (by decide)]; exact x9, by rw [q 16 (by decide) (by decide)]; exact x10⟩, by rw [r 18 (by decide)]; exact x11⟩
theorem CLS.par (C : CLS h a c d U V cnt L b e1 e2 res) (e : ∀ x, (x < a + 88 ∨ a + 100 < x) → h'.2 x = h.2 x) (s : h'.1 = h.1) (P' : PAR h' a L' b' e1' e2') : CLS h' a c d U V cnt L' b' e1' e2' res := by
  obtain ⟨⟨B, sz⟩, ⟨⟨S, HS, hS⟩, ok⟩, ⟨⟨S1, H1⟩, S2, H2⟩, hd, D, ec, R, ⟨F, G⟩, P, er, g, eg⟩ := C
  have up : ∀ {q : Nat} {S : MS}, q + 8 < a + 88 → bH sK h q S → bH sK h' q S := fun {q} _ hq H => H.same fun x x1 x2 => by have x2 : x ≤ q + 8 := x2; exact e x (Or.inl (by omega))
  exact ⟨⟨B.fr (e a (by omega)), by omega⟩, ⟨⟨S, up (by omega) HS, hS⟩, ok⟩, ⟨⟨S1, up (by omega) H1⟩, S2, up (by omega) H2⟩, hd, D.fr (fun x hx => e x (by omega)) (by omega), by rw [e _ (by omega)]; exact ec, R.fr (fun x hx => e x (by omega)) (by omega), ⟨by show _ = _; rw [e _ (by omega)]; exact F, G.same fun x x1 x2 => e x (by omega)⟩, P', by rw [e _ (by omega)]; exact er, g, by rw [e _ (by omega)]; exact eg⟩
end
section
variable {a m o : Nat}
theorem o_errorCode : St_errorCode (INV a m o) a m := by
  rintro h ⟨rfl, rfl, O, M, c, d, U, V, cnt, L, b, e1, e2, res, HM, C, R⟩
  obtain ⟨⟨B, -⟩, -, -, -, -, -, -, -, ⟨-, ⟨F, P, f4, -⟩, -⟩, -⟩ := id C
  obtain ⟨k1, k2⟩ := vt_plain (G := FX10_errorCode (a + 103)) (g := gFX10_errorCode) (v := e1) (M' := gpi M 0 (nI 0)) (fun h S => eFX10_errorCode) O HM (by unfold gFX10_errorCode; rw [n0, gx_bs, gx_bs, gpi_1, upd_o (by decide), R.2.2.2.2.2.1.1]) C R.t0
  refine ⟨e1, B.ob, ?_, k1, k2⟩
  unfold FX9_errorCode
  rw [B.g11, gx_bs, P.gi (by omega), gx_bs, f4]
theorem o_errorPosition : St_errorPosition (INV a m o) a m := by
  rintro h ⟨rfl, rfl, O, M, c, d, U, V, cnt, L, b, e1, e2, res, HM, C, R⟩
  obtain ⟨⟨B, -⟩, -, -, -, -, -, -, -, ⟨-, ⟨F, P, -, f5⟩, -⟩, -⟩ := id C
  obtain ⟨k1, k2⟩ := vt_plain (G := FX10_errorPosition (a + 103)) (g := gFX10_errorPosition) (v := e2) (M' := gpi M 0 (nI 0)) (fun h S => eFX10_errorPosition) O HM (by unfold gFX10_errorPosition; rw [n0, gx_bs, gx_bs, gpi_1, upd_o (by decide), R.2.2.2.2.2.1.2]) C R.t0
  refine ⟨e2, B.ob, ?_, k1, k2⟩
  unfold FX9_errorPosition
  rw [B.g11, gx_bs, P.gi (by omega), gx_bs, f5]
theorem o_result : St_result (INV a m o) a m o := by
  rintro h x ⟨rfl, rfl, O, M, c, d, U, V, cnt, L, b, e1, e2, res, HM, C, R⟩
  obtain ⟨⟨B, -⟩, -, -, -, -, -, -, -, -, er, -⟩ := id C
  by_cases ho : outB x 11 = false
  · obtain ⟨k, hk, rfl⟩ := outB_f (by omega) ho
    refine ⟨.inl (res k, h), ?_, B.ob, vt_val (G := FX10_result (a + 103) (nI k)) (g := gFX10_result (nI k)) (M' := gpi M 0 (nI 0)) (fun h S => eFX10_result) O HM ?_ (by rw [gpi_1, upd_s]) C R.t0⟩
    · unfold FX9_result
      rw [n0, if_neg (by rw [nI_lt0 (by omega)]; exact id), n12, if_pos (by rw [nI_ltN (by omega) (by omega)]; omega), B.g12, gx_bs, hal_ar er (by omega) (by omega), gx_bs]
    · unfold gFX10_result gBX10_result_16
      rw [n0, n11, m_in, gx_bs, ho, if_neg (by rw [bI_0]; decide), gx_bs, gx_bs, gpi_1, upd_s, if_pos (by rw [nI_leN (by omega) (by omega)]; omega), mK_a18 (by omega), gx_bs, gpi_2, R.2.2.2.2.2.2 k (by omega)]
  · have ho' : outB x 11 = true := by simpa using ho
    refine ⟨.inr ("java/lang/IndexOutOfBoundsException", h), ?_, B.ob, vt_thr (G := FX10_result (a + 103) x) (g := gFX10_result x) (M' := gpi M 0 (nI 1)) (v := 0) (k := 1) (fun h S => eFX10_result) O HM rfl cd1 (by omega) (by omega) ?_ (by rw [gpi_1, upd_s]) C R.t0⟩
    · unfold FX9_result BX9_result_10
      rcases i_cases x with hx | ⟨k, hk, rfl⟩
      · rw [n0, if_pos hx]
      · rw [outB_k hk (by omega)] at ho'
        have := of_decide_eq_true ho'
        rw [n0, if_neg (by rw [nI_lt0 (by omega)]; exact id), n12, if_neg (by rw [nI_ltN (by omega) (by omega)]; omega)]
    · unfold gFX10_result gBX10_result_16
      rw [n0, n11, m_in, gx_bs, ho', if_pos (by rw [bI_0]; rfl), gx_bs, gx_bs, n1, gpi_1, upd_s, if_neg (by rw [nI_leN (by omega) (by omega)]; omega)]
theorem o_changes : St_changes (INV a m o) a m o := by
  rintro h x ⟨rfl, rfl, O, M, c, d, U, V, cnt, L, b, e1, e2, res, HM, C, R⟩
  obtain ⟨⟨B, -⟩, -, -, -, -, ec, -⟩ := id C
  by_cases ho : outB x 5 = false
  · obtain ⟨k, hk, rfl⟩ := outB_f (by omega) ho
    refine ⟨.inl (cnt k, h), ?_, B.ob, vt_val (G := FX10_changes (a + 103) (nI k)) (g := gFX10_changes (nI k)) (M' := gpi M 0 (nI 0)) (fun h S => eFX10_changes) O HM ?_ (by rw [gpi_1, upd_s]) C R.t0⟩
    · unfold FX9_changes
      rw [n0, if_neg (by rw [nI_lt0 (by omega)]; exact id), n6, if_pos (by rw [nI_ltN (by omega) (by omega)]; omega), B.g5, gx_bs, hal_ar ec (by omega) (by omega), gx_bs]
    · unfold gFX10_changes gBX10_changes_15
      rw [n0, n5, m_in, gx_bs, ho, if_neg (by rw [bI_0]; decide), gx_bs, gx_bs, gpi_1, upd_s, if_pos (by rw [nI_leN (by omega) (by omega)]; omega), mK_a7 (by omega), gx_bs, gpi_2, R.2.2.2.1 k (by omega)]
  · have ho' : outB x 5 = true := by simpa using ho
    refine ⟨.inr ("java/lang/IllegalArgumentException", h), ?_, B.ob, vt_thr (G := FX10_changes (a + 103) x) (g := gFX10_changes x) (M' := gpi M 0 (nI 1)) (v := 0) (k := 1) (fun h S => eFX10_changes) O HM rfl cd1 (by omega) (by omega) ?_ (by rw [gpi_1, upd_s]) C R.t0⟩
    · unfold FX9_changes BX9_changes_10
      rcases i_cases x with hx | ⟨k, hk, rfl⟩
      · rw [n0, if_pos hx]
      · rw [outB_k hk (by omega)] at ho'
        have := of_decide_eq_true ho'
        rw [n0, if_neg (by rw [nI_lt0 (by omega)]; exact id), n6, if_neg (by rw [nI_ltN (by omega) (by omega)]; omega)]
    · unfold gFX10_changes gBX10_changes_15
      rw [n0, n5, m_in, gx_bs, ho', if_pos (by rw [bI_0]; rfl), gx_bs, gx_bs, n1, gpi_1, upd_s, if_neg (by rw [nI_leN (by omega) (by omega)]; omega)]
theorem o_appendText : St_appendText (INV a m o) a m o := by
  rintro h x ⟨rfl, rfl, O, M, c, d, U, V, cnt, L, b, e1, e2, res, HM, C, R⟩
  obtain ⟨⟨B, -⟩, -, -, -, -, -, -, -, ⟨⟨T, HT, H⟩, P2, P3, P4⟩, -⟩ := id C
  have hL := H.1.1
  have rt := R.2.2.2.2.1.1
  by_cases hl : L ≤ 896
  · obtain ⟨h1, M1, b1, k1, k2, k3, k4⟩ := both_app (S := gpi M 0 (nI 0)) (x := x) (fun h' e => (B.fr e).g10) ⟨⟨T, HT, H⟩, R.t0.2.2.2.2.1.1⟩ hl
    have O1 : OUT h1 (a + 128) := by obtain ⟨g, e⟩ := O; exact ⟨g, by rw [k4.2.1 _ (by omega) (by omega)]; exact e⟩
    have HM1 : bH mK h1 (a + 103) M := HM.same fun y y1 y2 => k4.2.1 y (by omega) (by omega)
    refine ⟨.inl (nI (L + 4), h1), ?_, B.ob, vt_val (G := FX10_appendText (a + 103) x) (g := gFX10_appendText x) (M' := M1) (fun h S => eFX10_appendText) O1 HM1 ?_ ?_ (C.par (fun y hy => k4.2.1 y (by omega) (by omega)) k4.1 ⟨k3.1, ?_, ?_, ?_⟩) (R.tx (fun q q1 q2 => ?_) (fun j hj => by rw [k4.2.2.2 j hj, gpi_2]) k3.2)⟩
    · unfold FX9_appendText
      rw [B.g10, gx_bs, HT.t1, gx_bs, H.2.1, n896, if_pos (by rw [nI_leN (by omega) (by omega)]; exact hl), k1]
    · unfold gFX10_appendText gBX10_appendText_18
      rw [gx_bs, rt.2.1, n900, n4, nI_add, if_neg (by rw [nI_ltN (by omega) (by omega)]; omega), n0, gx_bs, gx_bs, gpi_1, upd_s, if_pos (by rw [nI_leN (by omega) (by omega)]; omega), k2]
    · rw [k4.2.2.1 0 (by decide), gpi_1, upd_s]
    · obtain ⟨F, p1, p2⟩ := P2
      exact ⟨F, p1.fr (k4.2.1 _ (by omega) (by omega)), p2⟩
    · obtain ⟨S, hS⟩ := P3
      exact ⟨S, hS.same fun y y1 _ => k4.2.1 y (by omega) (by omega)⟩
    · obtain ⟨g, hg⟩ := P4
      exact ⟨g, by rw [k4.2.1 _ (by omega) (by omega)]; exact hg⟩
    · rw [k4.2.2.1 q q2, gpi_1, upd_o q1]
  · refine ⟨.inr ("java/lang/IllegalStateException", h), ?_, B.ob, vt_thr (G := FX10_appendText (a + 103) x) (g := gFX10_appendText x) (M' := gpi M 0 (nI 1)) (v := 0) (k := 1) (fun h S => eFX10_appendText) O HM rfl cd1 (by omega) (by omega) ?_ (by rw [gpi_1, upd_s]) C R.t0⟩
    · unfold FX9_appendText
      rw [B.g10, gx_bs, HT.t1, gx_bs, H.2.1, n896, if_neg (by rw [nI_leN (by omega) (by omega)]; exact hl)]
    · unfold gFX10_appendText gBX10_appendText_18
      rw [gx_bs, rt.2.1, n900, n4, nI_add, if_pos (by rw [nI_ltN (by omega) (by omega)]; omega), n1, gx_bs, gx_bs, gpi_1, upd_s, n0, if_neg (by rw [nI_leN (by omega) (by omega)]; omega)]
theorem o_truncateText : St_truncateText (INV a m o) a m o := by
  rintro h x ⟨rfl, rfl, O, M, c, d, U, V, cnt, L, b, e1, e2, res, HM, C, R⟩
  obtain ⟨⟨B, -⟩, -, -, -, -, -, -, -, ⟨⟨T, HT, H⟩, P2, P3, P4⟩, -⟩ := id C
  have hL := H.1.1
  have rt := R.2.2.2.2.1.1
  by_cases ho : outB x L = false
  · obtain ⟨k, hk, rfl⟩ := outB_f (by omega) ho
    have hp1 : hp h (a + 88) 7 1 (.int (nI k)) = some (bput tK h (a + 88) (gpi T 1 (nI k))) := HT.run (F := fun h => hp h (a + 88) 7 1 (.int (nI k))) tK_pi1
    have fr : ∀ y, y ≠ a + 88 → y ≠ a + 89 → (bput tK h (a + 88) (gpi T 1 (nI k))).2 y = h.2 y := fun y y1 y2 => bp_else (by show y < a + 88 ∨ a + 88 + 1 < y; omega)
    have O1 : OUT (bput tK h (a + 88) (gpi T 1 (nI k))) (a + 128) := by obtain ⟨g, e⟩ := O; exact ⟨g, by rw [fr _ (by omega) (by omega)]; exact e⟩
    have HM1 : bH mK (bput tK h (a + 88) (gpi T 1 (nI k))) (a + 103) M := HM.same fun y y1 y2 => fr y (by omega) (by omega)
    have B1 : TXb k b := ⟨by omega, fun j hj => H.1.2 j (by omega)⟩
    refine ⟨.inl (nI k, bput tK h (a + 88) (gpi T 1 (nI k))), ?_, B.ob, vt_val (G := FX10_truncateText (a + 103) (nI k)) (g := gFX10_truncateText (nI k)) (M' := gpi (gpi M 0 (nI 0)) 10 (nI k)) (L := k) (b := b) (fun h S => eFX10_truncateText) O1 HM1 ?_ (by rw [gpi_1, upd_o (by decide), gpi_1, upd_s]) (C.par (fun y hy => fr y (by omega) (by omega)) rfl ⟨⟨_, bH.put, B1, by rw [gpi_1, upd_s], fun j hj => by rw [gpi_2]; exact H.2.2 j (by omega)⟩, ?_, ?_, ?_⟩) (R.tx (fun q q1 q2 => by rw [gpi_1, gpi_1, upd_o q2, upd_o q1]) (fun j hj => by rw [gpi_2, gpi_2]) ⟨B1, by rw [gpi_1, upd_s], fun j hj => by rw [gpi_2, gpi_2]; exact rt.2.2 j (by omega)⟩)⟩
    · unfold FX9_truncateText
      rw [n0, if_neg (by rw [nI_lt0 (by omega)]; exact id), B.g10, gx_bs, HT.t1, gx_bs, H.2.1, if_pos (by rw [nI_leN (by omega) (by omega)]; exact hk), gx_bs, hp1, gx_bs]
    · unfold gFX10_truncateText gBX10_truncateText_18
      rw [gx_bs, rt.2.1, n0, m_in, gx_bs, ho, if_neg (by rw [bI_0]; decide), gx_bs, gx_bs, gpi_1, upd_s, if_pos (by rw [nI_leN (by omega) (by omega)]; omega), gx_bs, gx_bs, gpi_1, upd_s]
    · obtain ⟨F, p1, p2⟩ := P2
      exact ⟨F, p1.fr (fr _ (by omega) (by omega)), p2⟩
    · obtain ⟨S, hS⟩ := P3
      exact ⟨S, hS.same fun y y1 _ => fr y (by omega) (by omega)⟩
    · obtain ⟨g, hg⟩ := P4
      exact ⟨g, by rw [fr _ (by omega) (by omega)]; exact hg⟩
  · have ho' : outB x L = true := by simpa using ho
    refine ⟨.inr ("java/lang/IllegalArgumentException", h), ?_, B.ob, vt_thr (G := FX10_truncateText (a + 103) x) (g := gFX10_truncateText x) (M' := gpi M 0 (nI 1)) (v := 0) (k := 1) (fun h S => eFX10_truncateText) O HM rfl cd1 (by omega) (by omega) ?_ (by rw [gpi_1, upd_s]) C R.t0⟩
    · unfold FX9_truncateText BX9_truncateText_15
      rcases i_cases x with hx | ⟨k, hk, rfl⟩
      · rw [n0, if_pos hx]
      · rw [outB_k hk (by omega)] at ho'
        have := of_decide_eq_true ho'
        rw [n0, if_neg (by rw [nI_lt0 (by omega)]; exact id), B.g10, gx_bs, HT.t1, gx_bs, H.2.1, if_neg (by rw [nI_leN (by omega) (by omega)]; omega)]
    · unfold gFX10_truncateText gBX10_truncateText_18
      rw [gx_bs, rt.2.1, n0, m_in, gx_bs, ho', if_pos (by rw [bI_0]; rfl), gx_bs, gx_bs, n1, gpi_1, upd_s, if_neg (by rw [nI_leN (by omega) (by omega)]; omega)]
end
