/-! the law's loop, and the claim's start out of what is owed of the two systems -/
def St_init (Inv : Nat → Nat → Nat → jx_H → Prop) : Prop := ∀ N0 : Nat, ∃ h1 h2 h3 h4 h5 : jx_H, hnw (N0, fun _ => none) 9 fsX9 = some h1 ∧ FX9_init N0 h1 = some h2 ∧ hnw h2 10 fsX10 = some h3 ∧ FX10_init h2.1 h3 = some h4 ∧ hnl h4 1 = some h5 ∧ Inv N0 h2.1 h4.1 h5
theorem lw_end {L j : Nat} (hL : L ≤ 2048) (hj : 4 * j ≤ L + 3) : Int32.ofNat L - 4 < Int32.ofNat (4 * j) ↔ L < 4 * j + 4 := by
  have e1 := lw_toInt (a := L) (by omega)
  have e2 := lw_toInt (a := 4 * j) (by omega)
  have e3 : (Int32.ofNat L - 4).toInt = (L : Int) - 4 := by
    rw [Int32.toInt_sub, e1, show (4 : Int32).toInt = 4 from rfl, Int.bmod_eq_of_le (by omega) (by omega)]
  rw [Int32.lt_iff_toInt_lt, e2, e3]
  omega
theorem lw_next (j : Nat) : Int32.ofNat (4 * j) + 4 = Int32.ofNat (4 * (j + 1)) := by
  rw [show (4 : Int32) = Int32.ofNat 4 from rfl, ← Int32.ofNat_add]
  rfl
set_option maxRecDepth 20000 in
set_option maxHeartbeats 4000000 in
theorem lw_loop {X : jx_X} {b a m o L : Nat} {xs : Nat → Int32} {Inv : jx_H → Prop} (C : jx_ok X cL_law RL) (hr : jx_r X room_1) (hL : jx_nl X 9) (hX : jx_S X b L xs) (hLL : L ≤ 2048) (hs : St_all Inv a m o)
    (hend : ∀ (k n : Nat) (lv : List (Nat × Value)) (h : jx_H), k ≤ 601024 → n ≤ 7293034 → jx_J X k n 2132 lv [.int 1] h) :
    ∀ (d j k n : Nat) (h : jx_H), j + d = 513 → 4 * j ≤ L + 3 → k + 40 * d ≤ 601024 → n + 2000 * d ≤ 7293034 → Inv h → jx_J X k n 23 [(0, .ref b), (1, .ref a), (2, .ref m), (3, .ref o), (4, .int (Int32.ofNat (4 * j)))] [] h := by
  obtain ⟨hs0, hs1, hs2, hs3, hs4, hs5, hs6, hs7, hs8, hs9, hs10, hs11, hs12, hs13, hs14, hs15, hs16, hs17, hs18, hs19, hs20, hs21, hs22, hs23, hs24, hs25, hs26, hs27, hs28, hs29, hs30, hs31, hs32, hs33, hs34, hs35, hs36⟩ := hs
  intro d
  induction d with
  | zero => intro j k n h hd hj; omega
  | succ d ih =>
    intro j k n h hd hj hk hn hI
    refine j_iload C dL_law_23 rfl ?_
    refine j_aload_n C dL_law_25 rfl rfl ?_
    refine j_slen C hX dL_law_26 ?_
    refine j_iconst (v := (4 : Int32)) C dL_law_27 (by decide) ?_
    refine j_isub C dL_law_28 ?_
    refine j_icmp_gt (tgt := 2131) C dL_law_29 (by decide) (fun c => ?_) (fun c => ?_)
    · refine j_iconst (v := (1 : Int32)) C dL_law_2131 (by decide) ?_
      exact hend _ _ _ _ (by omega) (by omega)
    · have hj4 : 4 * j + 4 ≤ L := Nat.not_lt.mp fun z => c ((lw_end hLL hj).mpr z)
      have tail : ∀ (h2 : jx_H), Inv h2 → jx_J X (k + 40) (n + 2000) 2125 [(0, .ref b), (1, .ref a), (2, .ref m), (3, .ref o), (4, .int (Int32.ofNat (4 * j)))] [] h2 := by
        intro h2 hI2
        refine j_iinc (v := (Int32.ofNat (4 * j) + (4 : Int32))) (lv1 := [(4, .int (Int32.ofNat (4 * j) + (4 : Int32))), (0, .ref b), (1, .ref a), (2, .ref m), (3, .ref o)]) C hL dL_law_2125 rfl rfl (Nat.le_of_ble_eq_true rfl) rfl ?_
        refine j_goto (tgt := 23) C dL_law_2128 (by decide) ?_
        rw [lw_next]
        refine jx_sub (lv' := [(0, .ref b), (1, .ref a), (2, .ref m), (3, .ref o), (4, .int (Int32.ofNat (4 * (j + 1))))]) [1, 2, 3, 4, 0] rfl ?_
        exact ih (j + 1) _ _ h2 (by omega) (by omega) (by omega) (by omega) hI2
      refine j_aload_n C dL_law_32 rfl rfl ?_
      refine j_iload C dL_law_33 rfl ?_
      refine j_sld C hX (lw_in0 hj4 hLL) dL_law_35 ?_
      refine j_bipush (v := (63 : Int32)) C dL_law_36 (by decide) ?_
      refine j_iand C dL_law_38 ?_
      generalize xs (Int32.ofNat (4 * j)).toNatClampNeg &&& 63 = v
      by_cases c0 : v = 0
      · refine j_tsw (tgt := 200) C (0 : Int32) dL_law_39 c0 (by decide) (by decide) rfl (by decide) ?_
        exact lc_appendText C hr hL hX rfl hj4 hLL (by omega) (by omega) hs0 hI tail
      by_cases c1 : v = 1
      · refine j_tsw (tgt := 256) C (1 : Int32) dL_law_39 c1 (by decide) (by decide) rfl (by decide) ?_
        exact lc_truncateText C hr hL hX rfl hj4 hLL (by omega) (by omega) hs1 hI tail
      by_cases c2 : v = 2
      · refine j_tsw (tgt := 312) C (2 : Int32) dL_law_39 c2 (by decide) (by decide) rfl (by decide) ?_
        exact lc_load C hr hL hX rfl hj4 hLL (by omega) (by omega) hs2 hI tail
      by_cases c3 : v = 3
      · refine j_tsw (tgt := 325) C (3 : Int32) dL_law_39 c3 (by decide) (by decide) rfl (by decide) ?_
        exact lc_reduce C hr hL hX rfl hj4 hLL (by omega) (by omega) hs3 hI tail
      by_cases c4 : v = 4
      · refine j_tsw (tgt := 338) C (4 : Int32) dL_law_39 c4 (by decide) (by decide) rfl (by decide) ?_
        exact lc_errorCode C hr hL hX rfl hj4 hLL (by omega) (by omega) hs4 hI tail
      by_cases c5 : v = 5
      · refine j_tsw (tgt := 351) C (5 : Int32) dL_law_39 c5 (by decide) (by decide) rfl (by decide) ?_
        exact lc_errorPosition C hr hL hX rfl hj4 hLL (by omega) (by omega) hs5 hI tail
      by_cases c6 : v = 6
      · refine j_tsw (tgt := 364) C (6 : Int32) dL_law_39 c6 (by decide) (by decide) rfl (by decide) ?_
        exact lc_result C hr hL hX rfl hj4 hLL (by omega) (by omega) hs6 hI tail
      by_cases c7 : v = 7
      · refine j_tsw (tgt := 420) C (7 : Int32) dL_law_39 c7 (by decide) (by decide) rfl (by decide) ?_
        exact lc_count C hr hL hX rfl hj4 hLL (by omega) (by omega) hs7 hI tail
      by_cases c8 : v = 8
      · refine j_tsw (tgt := 476) C (8 : Int32) dL_law_39 c8 (by decide) (by decide) rfl (by decide) ?_
        exact lc_changes C hr hL hX rfl hj4 hLL (by omega) (by omega) hs8 hI tail
      by_cases c9 : v = 9
      · refine j_tsw (tgt := 532) C (9 : Int32) dL_law_39 c9 (by decide) (by decide) rfl (by decide) ?_
        exact lc_refusal C hr hL hX rfl hj4 hLL (by omega) (by omega) hs9 hI tail
      by_cases c10 : v = 10
      · refine j_tsw (tgt := 600) C (10 : Int32) dL_law_39 c10 (by decide) (by decide) rfl (by decide) ?_
        exact lc_join C hr hL hX rfl hj4 hLL (by omega) (by omega) hs10 hI tail
      by_cases c11 : v = 11
      · refine j_tsw (tgt := 668) C (11 : Int32) dL_law_39 c11 (by decide) (by decide) rfl (by decide) ?_
        exact lc_leave C hr hL hX rfl hj4 hLL (by omega) (by omega) hs11 hI tail
      by_cases c12 : v = 12
      · refine j_tsw (tgt := 736) C (12 : Int32) dL_law_39 c12 (by decide) (by decide) rfl (by decide) ?_
        exact lc_monomial C hr hL hX rfl hj4 hLL (by omega) (by omega) hs12 hI tail
      by_cases c13 : v = 13
      · refine j_tsw (tgt := 804) C (13 : Int32) dL_law_39 c13 (by decide) (by decide) rfl (by decide) ?_
        exact lc_border C hr hL hX rfl hj4 hLL (by omega) (by omega) hs13 hI tail
      by_cases c14 : v = 14
      · refine j_tsw (tgt := 872) C (14 : Int32) dL_law_39 c14 (by decide) (by decide) rfl (by decide) ?_
        exact lc_place C hr hL hX rfl hj4 hLL (by omega) (by omega) hs14 hI tail
      by_cases c15 : v = 15
      · refine j_tsw (tgt := 909) C (15 : Int32) dL_law_39 c15 (by decide) (by decide) rfl (by decide) ?_
        exact lc_setRule C hr hL hX rfl hj4 hLL (by omega) (by omega) hs15 hI tail
      by_cases c16 : v = 16
      · refine j_tsw (tgt := 989) C (16 : Int32) dL_law_39 c16 (by decide) (by decide) rfl (by decide) ?_
        exact lc_rule C hr hL hX rfl hj4 hLL (by omega) (by omega) hs16 hI tail
      by_cases c17 : v = 17
      · refine j_tsw (tgt := 1057) C (17 : Int32) dL_law_39 c17 (by decide) (by decide) rfl (by decide) ?_
        exact lc_value C hr hL hX rfl hj4 hLL (by omega) (by omega) hs17 hI tail
      by_cases c18 : v = 18
      · refine j_tsw (tgt := 1137) C (18 : Int32) dL_law_39 c18 (by decide) (by decide) rfl (by decide) ?_
        exact lc_table C hr hL hX rfl hj4 hLL (by omega) (by omega) hs18 hI tail
      by_cases c19 : v = 19
      · refine j_tsw (tgt := 1217) C (19 : Int32) dL_law_39 c19 (by decide) (by decide) rfl (by decide) ?_
        exact lc_commutes C hr hL hX rfl hj4 hLL (by omega) (by omega) hs19 hI tail
      by_cases c20 : v = 20
      · refine j_tsw (tgt := 1230) C (20 : Int32) dL_law_39 c20 (by decide) (by decide) rfl (by decide) ?_
        exact lc_clash C hr hL hX rfl hj4 hLL (by omega) (by omega) hs20 hI tail
      by_cases c21 : v = 21
      · refine j_tsw (tgt := 1286) C (21 : Int32) dL_law_39 c21 (by decide) (by decide) rfl (by decide) ?_
        exact lc_trace C hr hL hX rfl hj4 hLL (by omega) (by omega) hs21 hI tail
      by_cases c22 : v = 22
      · refine j_tsw (tgt := 1354) C (22 : Int32) dL_law_39 c22 (by decide) (by decide) rfl (by decide) ?_
        exact lc_normal C hr hL hX rfl hj4 hLL (by omega) (by omega) hs22 hI tail
      by_cases c23 : v = 23
      · refine j_tsw (tgt := 1434) C (23 : Int32) dL_law_39 c23 (by decide) (by decide) rfl (by decide) ?_
        exact lc_determinant C hr hL hX rfl hj4 hLL (by omega) (by omega) hs23 hI tail
      by_cases c24 : v = 24
      · refine j_tsw (tgt := 1490) C (24 : Int32) dL_law_39 c24 (by decide) (by decide) rfl (by decide) ?_
        exact lc_kernel C hr hL hX rfl hj4 hLL (by omega) (by omega) hs24 hI tail
      by_cases c25 : v = 25
      · refine j_tsw (tgt := 1558) C (25 : Int32) dL_law_39 c25 (by decide) (by decide) rfl (by decide) ?_
        exact lc_zeros C hr hL hX rfl hj4 hLL (by omega) (by omega) hs25 hI tail
      by_cases c26 : v = 26
      · refine j_tsw (tgt := 1614) C (26 : Int32) dL_law_39 c26 (by decide) (by decide) rfl (by decide) ?_
        exact lc_zero C hr hL hX rfl hj4 hLL (by omega) (by omega) hs26 hI tail
      by_cases c27 : v = 27
      · refine j_tsw (tgt := 1682) C (27 : Int32) dL_law_39 c27 (by decide) (by decide) rfl (by decide) ?_
        exact lc_multiplicity C hr hL hX rfl hj4 hLL (by omega) (by omega) hs27 hI tail
      by_cases c28 : v = 28
      · refine j_tsw (tgt := 1750) C (28 : Int32) dL_law_39 c28 (by decide) (by decide) rfl (by decide) ?_
        exact lc_share C hr hL hX rfl hj4 hLL (by omega) (by omega) hs28 hI tail
      by_cases c29 : v = 29
      · refine j_tsw (tgt := 1791) C (29 : Int32) dL_law_39 c29 (by decide) (by decide) rfl (by decide) ?_
        exact lc_addPoint C hr hL hX rfl hj4 hLL (by omega) (by omega) hs29 hI tail
      by_cases c30 : v = 30
      · refine j_tsw (tgt := 1859) C (30 : Int32) dL_law_39 c30 (by decide) (by decide) rfl (by decide) ?_
        exact lc_removePoint C hr hL hX rfl hj4 hLL (by omega) (by omega) hs30 hI tail
      by_cases c31 : v = 31
      · refine j_tsw (tgt := 1915) C (31 : Int32) dL_law_39 c31 (by decide) (by decide) rfl (by decide) ?_
        exact lc_point C hr hL hX rfl hj4 hLL (by omega) (by omega) hs31 hI tail
      by_cases c32 : v = 32
      · refine j_tsw (tgt := 1983) C (32 : Int32) dL_law_39 c32 (by decide) (by decide) rfl (by decide) ?_
        exact lc_fit C hr hL hX rfl hj4 hLL (by omega) (by omega) hs32 hI tail
      by_cases c33 : v = 33
      · refine j_tsw (tgt := 2027) C (33 : Int32) dL_law_39 c33 (by decide) (by decide) rfl (by decide) ?_
        exact lc_misfits C hr hL hX rfl hj4 hLL (by omega) (by omega) hs33 hI tail
      by_cases c34 : v = 34
      · refine j_tsw (tgt := 2040) C (34 : Int32) dL_law_39 c34 (by decide) (by decide) rfl (by decide) ?_
        exact lc_undo C hr hL hX rfl hj4 hLL (by omega) (by omega) hs34 hI tail
      by_cases c35 : v = 35
      · refine j_tsw (tgt := 2053) C (35 : Int32) dL_law_39 c35 (by decide) (by decide) rfl (by decide) ?_
        exact lc_save C hr hL hX rfl hj4 hLL (by omega) (by omega) hs35 hI tail
      by_cases c36 : v = 36
      · refine j_tsw (tgt := 2089) C (36 : Int32) dL_law_39 c36 (by decide) (by decide) rfl (by decide) ?_
        exact lc_restore C hr hL hX rfl hj4 hLL (by omega) (by omega) hs36 hI tail
      refine j_tswOut (tgt := 2125) C dL_law_39 ?_ (by decide) ?_
      · have g0 := jx_sw (j := 0) (by decide) c0; have g1 := jx_sw (j := 1) (by decide) c1; have g2 := jx_sw (j := 2) (by decide) c2; have g3 := jx_sw (j := 3) (by decide) c3; have g4 := jx_sw (j := 4) (by decide) c4; have g5 := jx_sw (j := 5) (by decide) c5; have g6 := jx_sw (j := 6) (by decide) c6; have g7 := jx_sw (j := 7) (by decide) c7; have g8 := jx_sw (j := 8) (by decide) c8; have g9 := jx_sw (j := 9) (by decide) c9; have g10 := jx_sw (j := 10) (by decide) c10; have g11 := jx_sw (j := 11) (by decide) c11; have g12 := jx_sw (j := 12) (by decide) c12; have g13 := jx_sw (j := 13) (by decide) c13; have g14 := jx_sw (j := 14) (by decide) c14; have g15 := jx_sw (j := 15) (by decide) c15; have g16 := jx_sw (j := 16) (by decide) c16; have g17 := jx_sw (j := 17) (by decide) c17; have g18 := jx_sw (j := 18) (by decide) c18; have g19 := jx_sw (j := 19) (by decide) c19; have g20 := jx_sw (j := 20) (by decide) c20; have g21 := jx_sw (j := 21) (by decide) c21; have g22 := jx_sw (j := 22) (by decide) c22; have g23 := jx_sw (j := 23) (by decide) c23; have g24 := jx_sw (j := 24) (by decide) c24; have g25 := jx_sw (j := 25) (by decide) c25; have g26 := jx_sw (j := 26) (by decide) c26; have g27 := jx_sw (j := 27) (by decide) c27; have g28 := jx_sw (j := 28) (by decide) c28; have g29 := jx_sw (j := 29) (by decide) c29; have g30 := jx_sw (j := 30) (by decide) c30; have g31 := jx_sw (j := 31) (by decide) c31; have g32 := jx_sw (j := 32) (by decide) c32; have g33 := jx_sw (j := 33) (by decide) c33; have g34 := jx_sw (j := 34) (by decide) c34; have g35 := jx_sw (j := 35) (by decide) c35; have g36 := jx_sw (j := 36) (by decide) c36; omega
      · exact jx_widen (by omega) (by omega) (tail h hI)
