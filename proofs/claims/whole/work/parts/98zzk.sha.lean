/-! call: share -/
theorem share_tab : ∀ n, n < 13 → 0 < n → ∀ m, m < 145 → ((FP.ddiv (FP.i2d (nI m)) (FP.i2d (nI n))) &&& 0x7fffffffffffffff ≤ 0x7ff0000000000000) ∧ Op.cmpValue (FP.dcmp (FP.ddiv (FP.i2d (nI m)) (FP.i2d (nI n))) (FP.ddiv (FP.i2d (nI m)) (FP.i2d (nI n)))) .l = 0 := by decide +kernel
theorem share_m1 : Op.cmpValue (FP.dcmp (13830554455654793216 : UInt64) 13830554455654793216) .l = 0 := by decide +kernel
theorem muS_le {c : Cf} (o : okC c) : muS c.2.1 c.2.2.1 c.1 < 145 := by
  have l := Lm_len o.2.1
  have z := zl_le o
  have k : muS c.2.1 c.2.2.1 c.1 ≤ (zl c).length * 12 := sm_bound (zl c).length fun k _ => by
    unfold zMu
    omega
  omega
section
variable {h h1 : jx_H} {a : Nat} {c : Cf} {d : Nat} {U : Nat → Cf} {V : Nat → Option Cf} {cnt : Nat → Int32} {L : Nat} {b : Nat → Nat} {e1 e2 : Int32} {res : Nat → Int32} {M M' : MS}
theorem vt_dbl {G : jx_H → Option (UInt64 × jx_H)} {g : MS → Option (UInt64 × MS)} {v : UInt64} (eG : ∀ h S, G (bput mK h (a + 103) S) = (g S).map (fun s : UInt64 × MS => (s.1, bput mK h (a + 103) s.2))) (O : OUT h1 (a + 128)) (HM : bH mK h1 (a + 103) M) (eg : g M = some (v, M')) (C : CLS h1 a c d U V cnt L b e1 e2 res) (R : REF M' c d U V cnt L b e1 e2 res) (hv : Op.cmpValue (FP.dcmp v v) .l = 0) : isO h1 (a + 103) 10 = some () ∧ ∃ (b2 : UInt64) (h2 : jx_H), G h1 = some (b2, h2) ∧ Op.cmpValue (FP.dcmp v b2) .l = 0 ∧ INV a (a + 103) (a + 128) h2 := by
  obtain ⟨g', eo⟩ := O
  refine ⟨mk_ob HM, v, bput mK h1 (a + 103) M', HM.run (F := G) (by rw [eG, eg, gx_ms]), hv, rfl, rfl, ⟨g', ?_⟩, M', c, d, U, V, cnt, L, b, e1, e2, res, bH.put, ?_, R⟩
  · rw [bp_else (by show a + 128 < a + 103 ∨ a + 103 + 24 < a + 128; omega)]
    exact eo
  · exact C.fr (fun x hx => bp_else (by show x < a + 103 ∨ a + 103 + 24 < x; omega)) (Nat.le_refl _)
end
section
variable {a m o : Nat}
theorem o_share : St_share (INV a m o) a m := by
  rintro h ⟨rfl, rfl, O, M, c, d, U, V, cnt, L, b, e1, e2, res, HM, C, R⟩
  obtain ⟨⟨B, sz⟩, ⟨⟨S, HS, sS⟩, ok⟩, -, -, -, -, D, -⟩ := id C
  have pb := prs_b c.1 ok.1
  have l := Lm_len ok.2.1
  have dl := difC_lt ok
  obtain ⟨h1, k1, k2, k3⟩ := h_dif D HS sS ok
  have C1 := C.tc k2 k3
  have HS1 : bH sK h1 (a + 1) S := HS.ex k2 (by show a + 1 + 8 < a + 35 ∨ _; omega)
  have B1 : BB h1 a := C1.B
  have R0 : RCc ((gpi M 0 (nI 0)).2 1) c := by rw [gpi_2]; exact R.1
  obtain ⟨T, t1, t2⟩ := m_friends R0 ok
  have RT : REF T c d U V cnt L b e1 e2 res := R.on t2 fun b hb => by omega
  have t0 : T.1 0 = nI 0 := by rw [t2.1, gpi_1, upd_s]
  have O1 : OUT h1 (a + 128) := O.keep fun x _ _ => k2.2 x (by omega)
  have M1 : bH mK h1 (a + 103) M := mkeep HM fun x _ _ => k2.2 x (by omega)
  by_cases z : difC c = 0
  · obtain ⟨h2, w1, w2, w3, C2⟩ := c_all C1 HS1 sS k3
    obtain ⟨T', u1, u2, u3⟩ := m_allTimes RT.1 ok.2.1 ok.1 ok.2.2.1
    have s : scr T T' := ⟨by rw [u2 0 (by decide) (by decide) (by decide)]; exact t0, fun q _ q28 q29 q34 => u2 q q28 q29 q34, fun j hj => u3 j (by omega) (by omega)⟩
    have RT' := RT.scr s
    obtain ⟨S2, HS2, sS2⟩ := C2.2.1.1
    have B2 : BB h2 a := C2.B
    have g1 : hgi h1 (a + 1) 5 2 = some (nI (Lm c.2.1).length) := by rw [← sS.2.2.1.1]; exact HS1.i2
    have g2 : hgi h2 (a + 1) 5 2 = some (nI (Lm c.2.1).length) := by rw [← sS2.2.2.1.1]; exact HS2.i2
    obtain ⟨q1, q2⟩ := share_tab (Lm c.2.1).length (by omega) (by omega) (muS c.2.1 c.2.2.1 c.1) (muS_le ok)
    have Hn : gFX10_n T' = some (nI (Lm c.2.1).length) := g_n RT'.1.2.1
    obtain ⟨v1, v2⟩ := vt_dbl (G := FX10_share (a + 103)) (g := gFX10_share) (M' := T') (fun h S => eFX10_share) (O1.keep fun x _ _ => w3 x (by omega)) (mkeep M1 fun x _ _ => w3 x (by omega)) (by
      unfold gFX10_share
      rw [n0, gx_bs, t1, b2s, if_neg (by rw [decide_eq_true z, bI_0]; decide), u1, b2s, Hn, gx_bs, if_neg (fun q => q q1)]) C2 RT' q2
    refine ⟨_, h2, B.ob, ?_, v1, v2⟩
    unfold FX9_share
    rw [B.g7, gx_bs, D.tob, gx_bs, k1, b2s, n0, if_pos (by rw [z]), B1.g0, gx_bs, g1, gx_bs, n1, if_pos (by rw [nI_leN (by omega) (by omega)]; omega), B1.g8, gx_bs, C1.D.zo, gx_bs, w1, b2s, B2.g0, gx_bs, g2, gx_bs, if_neg (fun q => q q1)]
  · obtain ⟨v1, v2⟩ := vt_dbl (G := FX10_share (a + 103)) (g := gFX10_share) (M' := T) (fun h S => eFX10_share) O1 M1 (by
      unfold gFX10_share
      rw [n0, gx_bs, t1, b2s, if_pos (by rw [decide_eq_false z, bI_0])]) C1 RT share_m1
    refine ⟨_, h1, B.ob, ?_, v1, v2⟩
    unfold FX9_share BX9_share_21
    rw [B.g7, gx_bs, D.tob, gx_bs, k1, b2s, n0, if_neg (by rw [nI_eqN (by omega) (by omega)]; exact z)]
end
