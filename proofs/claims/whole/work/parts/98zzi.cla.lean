/-! calls: point, clash -/
theorem pt_lt {pts : List (Nat × Nat)} {p k : Nat} (H : pin pts p) (hk : k < pts.length) : mx pts k < p ∧ my pts k < p := by
  have e : pts.getD k (0, 0) ∈ pts := by
    rw [List.getD_eq_getElem?_getD, List.getElem?_eq_getElem hk]
    exact List.getElem_mem hk
  exact H.2.2 _ e
section
variable {a m o : Nat}
theorem o_point : St_point (INV a m o) a m o := by
  rintro h x y ⟨rfl, rfl, O, M, c, d, U, V, cnt, L, b, e1, e2, res, HM, C, R⟩
  obtain ⟨⟨B, sz⟩, ⟨⟨S, HS, sS⟩, ok⟩, -, -, -, -, D, -⟩ := id C
  have pb := prs_b c.1 ok.1
  have lp := ok.2.2.2.1
  have g9 : hgi h (a + 1) 5 9 = some (nI c.2.2.2.length) := by rw [← sS.2.2.2.2.1]; exact HS.i9
  have gp : hgi h (a + 1) 5 0 = some (nI c.1) := by rw [← sS.1]; exact HS.i0
  by_cases hx : (decide (0 < c.2.2.2.length) && !outB x (c.2.2.2.length - 1)) = true
  · have h0 : 0 < c.2.2.2.length := by
      have z := hx
      rw [Bool.and_eq_true, decide_eq_true_eq] at z
      exact z.1
    have hx' : outB x (c.2.2.2.length - 1) = false := by
      have z := hx
      rw [Bool.and_eq_true, Bool.not_eq_true'] at z
      exact z.2
    obtain ⟨k, hk, rfl⟩ := outB_f (by omega) hx'
    have hk' : k < c.2.2.2.length := by omega
    by_cases hy : outB y 2 = false
    · obtain ⟨j, hj, rfl⟩ := outB_f (by omega) hy
      have a7 := (sS.2.2.2.2.2 k hk').1
      have a8 := (sS.2.2.2.2.2 k hk').2
      have b7 := (R.1.2.2.2.2.2 k hk').1
      have b8 := (R.1.2.2.2.2.2 k hk').2
      have pl := pt_lt ok.2.2.2 hk'
      have cls : FX9_point a (nI k) (nI j) h = if nI j = nI 2 then (FX4_moveTo (a + 32) (nI (mx c.2.2.2 k)) (nI (my c.2.2.2 k)) (nI c.1) h).bind fun h15 => (hgr h15 a 9 6).bind fun x16 => (hgr h15 a 9 0).bind fun x17 => (isO h15 x16 4).bind fun _ => (FX4_isZeroOf x16 x17 h15).bind fun x19 => if x19 = nI 0 then some (.inl (nI 0, h15)) else some (.inl (nI 1, h15)) else if nI j = nI 0 then some (.inl (nI (mx c.2.2.2 k), h)) else some (.inl (nI (my c.2.2.2 k), h)) := by
        obtain ⟨ds, ft, -, -, ⟨P, HP⟩, -⟩ := id D
        unfold FX9_point
        rw [n0, n1, n2, if_neg (by rw [nI_lt0 (by omega)]; exact id), B.g0, gx_bs, g9, gx_bs, if_pos (by rw [nI_ltN (by omega) (by omega)]; omega), q_isOutside, p_out, gx_bs, hy, if_pos (by rw [bI_0]), gx_bs, HS.r7, gx_bs, hal_ar HS.s7 (by omega) (by omega), gx_bs, gx_bs, HS.r8, gx_bs, hal_ar HS.s8 (by omega) (by omega), gx_bs, a7, a8]
        by_cases e : nI j = nI 2
        · rw [if_pos e, if_pos e, B.g6, gx_bs, gx_bs, gp, gx_bs, HP.o4, gx_bs]
        · rw [if_neg e, if_neg e]
      have ref : gFX10_point (nI k) (nI j) M = if nI j = nI 0 then some (nI (mx c.2.2.2 k), gpi M 0 (nI 0)) else if nI j = nI 1 then some (nI (my c.2.2.2 k), gpi M 0 (nI 0)) else bind2 (gFX10_isZero (nI (mx c.2.2.2 k)) (nI (my c.2.2.2 k)) (gpi M 0 (nI 0))) fun x8 h9 => if x8 = nI 0 then some (nI 0, h9) else some (nI 1, h9) := by
        unfold gFX10_point gBX10_point_27
        rw [m_isPt R.1 ok, gx_bs, hx, n0, if_neg (by rw [bI_0]; decide), n1, n2, m_in, gx_bs, hy, if_neg (by rw [bI_0]; decide), gx_bs, gx_bs, gpi_1, upd_s, if_pos (by rw [nI_leN (by omega) (by omega)]; omega), n224, nI_add, mK_a1 (by omega), gx_bs, n236, nI_add, mK_a1 (by omega), gx_bs, gpi_2, b7, b8]
      rw [cls]
      by_cases e2' : j = 2
      · subst e2'
        rw [if_pos rfl]
        obtain ⟨h1, P, k1, k0, k2, k3, k4, k5, k6, k7⟩ := h_move D HS sS ok pl.1 pl.2
        have B1 : BB h1 a := B.fr (k2.2 a (by omega))
        have iz := h_isZeroOf k3 k4 sS ok.2.1 (by omega) (by omega) ok.2.2.1 k5 k6 k7
        obtain ⟨T, t1, t2⟩ := m_isZero (S := gpi M 0 (nI 0)) (by rw [gpi_2]; exact R.1) ok.2.1 (by omega) (by omega) ok.2.2.1 pl.1 pl.2
        generalize zerB c.2.1 c.2.2.1 c.1 (mx c.2.2.2 k) (my c.2.2.2 k) (Lb c.2.1).length = zb at iz t1
        refine ⟨.inl (bI zb, h1), ?_, B.ob, vt_val (G := FX10_point (a + 103) (nI k) (nI 2)) (g := gFX10_point (nI k) (nI 2)) (M' := T) (fun h S => eFX10_point) (O.keep fun x _ _ => k2.2 x (by omega)) (mkeep HM fun x _ _ => k2.2 x (by omega)) ?_ (by rw [t2.1, gpi_1, upd_s]) (C.mv k2 k3) (R.on t2 fun b hb => by omega)⟩
        · rw [k1, gx_bs, B1.g6, gx_bs, B1.g0, gx_bs, k3.o4, gx_bs, iz, gx_bs]
          cases zb with
          | false => rw [if_pos bI_f]; rfl
          | true => rw [if_neg (by rw [bI_0]; decide)]; rfl
        · rw [ref, if_neg (by rw [nI_eqN (by omega) (by omega)]; omega), if_neg (by rw [nI_eqN (by omega) (by omega)]; omega), t1, b2s]
          cases zb with
          | false => rw [if_pos bI_f]; rfl
          | true => rw [if_neg (by rw [bI_0]; decide)]; rfl
      · refine ⟨.inl (if j = 0 then nI (mx c.2.2.2 k) else nI (my c.2.2.2 k), h), ?_, B.ob, vt_val (G := FX10_point (a + 103) (nI k) (nI j)) (g := gFX10_point (nI k) (nI j)) (M' := gpi M 0 (nI 0)) (fun h S => eFX10_point) O HM ?_ (by rw [gpi_1, upd_s]) C R.t0⟩
        · rw [if_neg (by rw [nI_eqN (by omega) (by omega)]; exact e2')]
          by_cases e0 : j = 0
          · rw [if_pos (by rw [e0]), if_pos e0]
          · rw [if_neg (by rw [nI_eqN (by omega) (by omega)]; exact e0), if_neg e0]
        · rw [ref]
          by_cases e0 : j = 0
          · rw [if_pos (by rw [e0]), if_pos e0]
          · rw [if_neg (by rw [nI_eqN (by omega) (by omega)]; exact e0), if_neg e0, if_pos (by rw [show j = 1 by omega])]
    · have hy' : outB y 2 = true := by simpa using hy
      refine ⟨.inr ("java/lang/IllegalArgumentException", h), ?_, B.ob, vt_thr (G := FX10_point (a + 103) (nI k) y) (g := gFX10_point (nI k) y) (M' := gpi M 0 (nI 2)) (v := nI 0) (k := 2) (fun h S => eFX10_point) O HM (Or.inr rfl) (cd2 (by decide)) (by omega) (by omega) ?_ (by rw [gpi_1, upd_s]) C R.t0⟩
      · unfold FX9_point
        rw [n0, if_neg (by rw [nI_lt0 (by omega)]; exact id), B.g0, gx_bs, g9, gx_bs, if_pos (by rw [nI_ltN (by omega) (by omega)]; omega), n2, q_isOutside, p_out, gx_bs, hy', if_neg (by rw [bI_0]; decide)]
      · unfold gFX10_point gBX10_point_27
        rw [m_isPt R.1 ok, gx_bs, hx, n0, if_neg (by rw [bI_0]; decide), n2, m_in, gx_bs, hy', if_pos (by rw [bI_0]; rfl), gx_bs, gx_bs, gpi_1, upd_s, if_neg (by rw [nI_leN (by omega) (by omega)]; omega)]
  · have hf : (decide (0 < c.2.2.2.length) && !outB x (c.2.2.2.length - 1)) = false := by simpa using hx
    refine ⟨.inr ("java/lang/IndexOutOfBoundsException", h), ?_, B.ob, vt_thr (G := FX10_point (a + 103) x y) (g := gFX10_point x y) (M' := gpi M 0 (nI 1)) (v := nI 0) (k := 1) (fun h S => eFX10_point) O HM (Or.inl rfl) cd1 (by omega) (by omega) ?_ (by rw [gpi_1, upd_s]) C R.t0⟩
    · unfold FX9_point BX9_point_15
      rcases i_cases x with hn | ⟨k, hk, rfl⟩
      · rw [n0, if_pos hn]
      · have bad : ¬ k < c.2.2.2.length := fun z => by
          apply hx
          rw [decide_eq_true (by omega), Bool.true_and, outB_k hk (by omega), decide_eq_false (by omega)]
          rfl
        rw [n0, if_neg (by rw [nI_lt0 hk]; exact id), B.g0, gx_bs, g9, gx_bs, if_neg (by rw [nI_ltN (by omega) (by omega)]; omega)]
    · unfold gFX10_point gBX10_point_27
      rw [m_isPt R.1 ok, gx_bs, hf, n0, if_pos (by rw [bI_0]), gx_bs, gx_bs, n1, gpi_1, upd_s, if_neg (by rw [nI_leN (by omega) (by omega)]; omega)]
end
theorem cl_at {n c0 r0 : Nat} (h2 : r0 < n) : (c0 * n + r0) / n = c0 ∧ (c0 * n + r0) % n = r0 := by
  constructor
  · rw [Nat.mul_comm c0 n, Nat.mul_add_div (by omega), Nat.div_eq_of_lt h2]
    omega
  · rw [Nat.mul_comm c0 n, Nat.mul_add_mod, Nat.mod_eq_of_lt h2]
theorem cl_lo {n c0 r0 j : Nat} (h2 : r0 < n) (hj : j < c0 * n + r0) : j % n < n ∧ (j / n < c0 ∨ (j / n = c0 ∧ j % n < r0)) := by
  have k1 := Nat.div_add_mod j n
  have k2 : j % n < n := Nat.mod_lt _ (by omega)
  have k3 : j / n < c0 + 1 := by
    rw [Nat.div_lt_iff_lt_mul (by omega), Nat.succ_mul]
    omega
  refine ⟨k2, ?_⟩
  by_cases e : j / n = c0
  · right
    refine ⟨e, ?_⟩
    rw [e, Nat.mul_comm] at k1
    omega
  · left; omega
/-- the reference looks for the first place in which the products differ -/
theorem m_clash {T : MS} {n k c0 r0 : Nat} {A B : Nat → Nat → Nat} (Hn : gFX10_n T = some (nI n)) (hn : n ≤ 12) (TA : TL (T.2 13) n n A) (TB : TL (T.2 14) n n B) (bA : bdM A n n 1000) (bB : bdM B n n 1000) (h1 : c0 < n) (h2 : r0 < n) (ne : A r0 c0 ≠ B r0 c0) (eq : ∀ c r, (c < c0 ∨ (c = c0 ∧ r < r0)) → r < n → A r c = B r c) (hk : k ≤ 3) : itr (fun s : Int32 => gLX10_clash_54 (nI k) s T) (0 : Int32) = some (if k = 0 then nI c0 else if k = 1 then nI r0 else if k = 2 then nI (A r0 c0) else nI (B r0 c0), T) := by
  have nz : ¬ nI n = nI 0 := by rw [nI_eqN (by omega) (by omega)]; omega
  have cn : c0 * n + r0 < 144 := by
    have := Nat.mul_le_mul_right n (show c0 ≤ 11 by omega)
    omega
  rw [n0]
  refine itr_val (c0 * n + r0) (fun j s => s = nI j) rfl ?_ ?_
  · rintro j s hj rfl
    left
    obtain ⟨q1, q2⟩ := cl_lo h2 hj
    have e := eq (j / n) (j % n) q2 q1
    have q3 : j / n < n := by omega
    refine ⟨nI (j + 1), ?_, rfl⟩
    unfold gLX10_clash_54
    rw [n0, Hn, gx_bs, if_neg nz, gx_bs, if_neg nz, pk_rem (a := j) (d := n) (by omega) (by omega) (by omega), pk_div (a := j) (d := n) (by omega) (by omega) (by omega), m_cell, gx_bs, gal_ok (N := 144) L13 (by omega) (by omega), gx_bs, gx_bs, if_neg nz, gx_bs, if_neg nz, pk_rem (a := j) (d := n) (by omega) (by omega) (by omega), pk_div (a := j) (d := n) (by omega) (by omega) (by omega), m_cell, gx_bs, gal_ok (N := 144) L14 (by omega) (by omega), gx_bs, TA _ _ q1 q3, TB _ _ q1 q3, e, if_pos rfl, n1, nI_add]
  · rintro s rfl
    obtain ⟨d1, d2⟩ := cl_at (c0 := c0) h2
    have l1 := bA r0 c0 h2 h1
    have l2 := bB r0 c0 h2 h1
    unfold gLX10_clash_54
    rw [n0, n1, n2, Hn, gx_bs, if_neg nz, gx_bs, if_neg nz, pk_rem (a := c0 * n + r0) (d := n) (by omega) (by omega) (by omega), pk_div (a := c0 * n + r0) (d := n) (by omega) (by omega) (by omega), d1, d2, m_cell, gx_bs, gal_ok (N := 144) L13 (by omega) (by omega), gx_bs, gx_bs, if_neg nz, gx_bs, if_neg nz, pk_rem (a := c0 * n + r0) (d := n) (by omega) (by omega) (by omega), pk_div (a := c0 * n + r0) (d := n) (by omega) (by omega) (by omega), d1, d2, m_cell, gx_bs, gal_ok (N := 144) L14 (by omega) (by omega), gx_bs, TA _ _ h2 h1, TB _ _ h2 h1, if_neg (by rw [nI_eqN (by omega) (by omega)]; exact ne), gx_bs, if_neg nz, gx_bs, if_neg nz, pk_rem (a := c0 * n + r0) (d := n) (by omega) (by omega) (by omega), pk_div (a := c0 * n + r0) (d := n) (by omega) (by omega) (by omega), d1, d2, m_cell, gx_bs]
    by_cases k0 : k = 0
    · rw [if_pos (by rw [k0]), if_pos k0, gx_bs, if_neg nz, pk_div (a := c0 * n + r0) (d := n) (by omega) (by omega) (by omega), d1]
      rfl
    · rw [if_neg (by rw [nI_eqN (by omega) (by omega)]; exact k0), if_neg k0]
      by_cases k1 : k = 1
      · rw [if_pos (by rw [k1]), if_pos k1, gx_bs, if_neg nz, pk_rem (a := c0 * n + r0) (d := n) (by omega) (by omega) (by omega), d2]
        rfl
      · rw [if_neg (by rw [nI_eqN (by omega) (by omega)]; exact k1), if_neg k1]
        by_cases k2 : k = 2
        · rw [if_pos (by rw [k2]), if_pos k2, gal_ok (N := 144) L13 (by omega) (by omega), gx_bs, TA _ _ h2 h1]
          rfl
        · rw [if_neg (by rw [nI_eqN (by omega) (by omega)]; exact k2), if_neg k2, gal_ok (N := 144) L14 (by omega) (by omega), gx_bs, TB _ _ h2 h1]
          rfl
/-- the class's first difference -/
theorem h_first {h : jx_H} {t st n p k c0 r0 : Nat} {X Y : Nat → Nat → Nat} (o : isO h t 6 = some ()) {h1 : jx_H} (pr : FX6_prepare t h = some h1) {cc cr : Int32} (T : TO h1 t st (nI 1) (nI (difN n (mulM n p X Y) (mulM n p Y X))) cc cr) (K : TK h1 t n p X Y) (e1 : cc = nI c0) (e2 : cr = nI r0) (q1 : c0 < n) (q2 : r0 < n) (hn : n ≤ 12) (hk : k ≤ 3) : FX6_firstDifference t (nI k) h = some (if k = 0 then nI c0 else if k = 1 then nI r0 else if k = 2 then nI (mulM n p X Y r0 c0) else nI (mulM n p Y X r0 c0), h1) := by
  subst e1
  subst e2
  have gc : hgi h1 t 6 15 = some (nI c0) := hgi_ob T rfl
  have gr : hgi h1 t 6 16 = some (nI r0) := hgi_ob T rfl
  have g3 : hgr h1 t 6 3 = some (t + 7) := hgr_ob T rfl
  have g4 : hgr h1 t 6 4 = some (t + 10) := hgr_ob T rfl
  unfold FX6_firstDifference
  rw [o, gx_bs, pr, gx_bs, n0, n1, n2]
  by_cases k0 : k = 0
  · rw [if_pos (by rw [k0]), if_pos k0, gc, gx_bs]
  · rw [if_neg (by rw [nI_eqN (by omega) (by omega)]; exact k0), if_neg k0]
    by_cases k1 : k = 1
    · rw [if_pos (by rw [k1]), if_pos k1, gr, gx_bs]
    · rw [if_neg (by rw [nI_eqN (by omega) (by omega)]; exact k1), if_neg k1]
      by_cases k2 : k = 2
      · rw [if_pos (by rw [k2]), if_pos k2, g3, gx_bs, gr, gx_bs, gc, gx_bs, K.2.2.1.ob, gx_bs, K.2.2.1.at z1212 q2 q1, gx_bs]
      · rw [if_neg (by rw [nI_eqN (by omega) (by omega)]; exact k2), if_neg k2, g4, gx_bs, gr, gx_bs, gc, gx_bs, K.2.2.2.ob, gx_bs, K.2.2.2.at z1212 q2 q1, gx_bs]
section
variable {a m o : Nat}
theorem o_clash : St_clash (INV a m o) a m o := by
  rintro h x ⟨rfl, rfl, O, M, c, d, U, V, cnt, L, b, e1, e2, res, HM, C, R⟩
  obtain ⟨⟨B, sz⟩, ⟨⟨S, HS, sS⟩, ok⟩, -, -, -, -, D, -⟩ := id C
  have pb := prs_b c.1 ok.1
  have l := Lm_len ok.2.1
  have dl := difC_lt ok
  by_cases ho : outB x 4 = false
  · obtain ⟨k, hk, rfl⟩ := outB_f (by omega) ho
    obtain ⟨h1, k1, k2, k3⟩ := h_dif D HS sS ok
    have oT := D.choose_spec.choose_spec.1.ob
    have B1 : BB h1 a := B.fr (k2.2 a (by omega))
    have C1 := C.tc k2 k3
    have HS1 : bH sK h1 (a + 1) S := HS.ex k2 (by show a + 1 + 8 < a + 35 ∨ _; omega)
    have R0 : RCc ((gpi M 0 (nI 0)).2 1) c := by rw [gpi_2]; exact R.1
    obtain ⟨T, t1, t2, t3, t4, t5, t6⟩ := m_differences R0 ok.2.1 (by omega) (by omega) ok.2.2.1
    have t1 : gFX10_differences (gpi M 0 (nI 0)) = some (nI (difC c), T) := t1
    have r1 : T.2 1 = M.2 1 := by rw [t2.2 1 (by omega), gpi_2]
    have Hn : gFX10_n T = some (nI (Lm c.2.1).length) := g_n (by rw [r1]; exact R.1.2.1)
    have cls : FX9_clash a (nI k) h = if nI k = nI 4 then some (.inl (nI (difC c), h1)) else if nI (difC c) = nI 0 then some (.inl (m1, h1)) else bind2 (FX6_firstDifference (a + 35) (nI k) h1) fun x8 h9 => some (.inl (x8, h9)) := by
      unfold FX9_clash
      rw [n0, n1, nm1, n4, q_isOutside, p_out, gx_bs, ho, if_pos (by rw [bI_0]), B.g7, gx_bs, oT, gx_bs, k1, b2s, B1.g7, gx_bs, k3.ob, gx_bs]
    have ref : gFX10_clash (nI k) M = if nI k = nI 4 then some (nI (difC c), T) else if nI (difC c) = nI 0 then some (m1, T) else itr (fun s : Int32 => gLX10_clash_54 (nI k) s T) (0 : Int32) := by
      unfold gFX10_clash gBX10_clash_15 gBX10_clash_41
      rw [show (0 : Int32) = nI 0 from n0, n4, m_in, gx_bs, ho, if_neg (by rw [bI_0]; decide), gx_bs, gx_bs, gpi_1, upd_s, if_pos (by rw [nI_leN (by omega) (by omega)]; omega), t1, b2s, n1, nm1]
      by_cases e : nI k = nI 4
      · rw [if_pos e, if_pos e, if_pos e]
      · rw [if_neg e, if_neg e, if_neg e]
    have O1 : OUT h1 (a + 128) := O.keep fun x _ _ => k2.2 x (by omega)
    have M1 : bH mK h1 (a + 103) M := mkeep HM fun x _ _ => k2.2 x (by omega)
    have RT : REF T c d U V cnt L b e1 e2 res := R.on t2 fun b hb => by omega
    have t0 : T.1 0 = nI 0 := by rw [t2.1, gpi_1, upd_s]
    by_cases e : k = 4
    · refine ⟨.inl (nI (difC c), h1), ?_, B.ob, vt_val (G := FX10_clash (a + 103) (nI k)) (g := gFX10_clash (nI k)) (M' := T) (fun h S => eFX10_clash) O1 M1 ?_ t0 C1 RT⟩
      · rw [cls, if_pos (by rw [e])]
      · rw [ref, if_pos (by rw [e])]
    · by_cases z : difC c = 0
      · refine ⟨.inl (m1, h1), ?_, B.ob, vt_val (G := FX10_clash (a + 103) (nI k)) (g := gFX10_clash (nI k)) (M' := T) (fun h S => eFX10_clash) O1 M1 ?_ t0 C1 RT⟩
        · rw [cls, if_neg (by rw [nI_eqN (by omega) (by omega)]; exact e), if_pos (by rw [z])]
        · rw [ref, if_neg (by rw [nI_eqN (by omega) (by omega)]; exact e), if_pos (by rw [z])]
      · obtain ⟨h2, w1, w2, w3⟩ := h_prepare (Or.inl k3) HS1 sS ok.2.1 (by omega) (by omega) ok.2.2.1 (by omega)
        obtain ⟨cc, cr, y1, -, y3, y4⟩ := id w3
        obtain ⟨c0, r0, q1, q2, q3, q4, q5, q6⟩ := y4 z
        have x2 := w2.mono (lo' := a + 35) (hi' := a + 35 + 24) (Nat.le_refl _) (by omega)
        have fd := h_first (k := k) k3.ob w1 y1 y3 q3 q4 q1 q2 (by omega) (by omega)
        have rl := m_clash (k := k) Hn (by omega) t5 t6 (fun r9 c9 hr hc => by have := bd_mul (n := (Lm c.2.1).length) (p := c.1) (A := tabM c.2.1 c.2.2.1 1 0) (B := tabM c.2.1 c.2.2.1 0 1) (by omega) r9 c9 hr hc; omega) (fun r9 c9 hr hc => by have := bd_mul (n := (Lm c.2.1).length) (p := c.1) (A := tabM c.2.1 c.2.2.1 0 1) (B := tabM c.2.1 c.2.2.1 1 0) (by omega) r9 c9 hr hc; omega) q1 q2 q5 q6 (by omega)
        refine ⟨.inl (_, h2), ?_, B.ob, vt_val (v := if k = 0 then nI c0 else if k = 1 then nI r0 else if k = 2 then nI (mulM (Lm c.2.1).length c.1 (tabM c.2.1 c.2.2.1 1 0) (tabM c.2.1 c.2.2.1 0 1) r0 c0) else nI (mulM (Lm c.2.1).length c.1 (tabM c.2.1 c.2.2.1 0 1) (tabM c.2.1 c.2.2.1 1 0) r0 c0)) (G := FX10_clash (a + 103) (nI k)) (g := gFX10_clash (nI k)) (M' := T) (fun h S => eFX10_clash) (O1.keep fun x _ _ => w2.2 x (by omega)) (mkeep M1 fun x _ _ => w2.2 x (by omega)) ?_ t0 (C1.tc x2 w3) RT⟩
        · rw [cls, if_neg (by rw [nI_eqN (by omega) (by omega)]; exact e), if_neg (by rw [nI_eqN (by omega) (by omega)]; exact z), fd, b2s]
        · rw [ref, if_neg (by rw [nI_eqN (by omega) (by omega)]; exact e), if_neg (by rw [nI_eqN (by omega) (by omega)]; exact z), rl]
  · have ho' : outB x 4 = true := by simpa using ho
    refine ⟨.inr ("java/lang/IllegalArgumentException", h), ?_, B.ob, vt_thr (G := FX10_clash (a + 103) x) (g := gFX10_clash x) (M' := gpi M 0 (nI 1)) (v := nI 0) (k := 1) (fun h S => eFX10_clash) O HM rfl cd1 (by omega) (by omega) ?_ (by rw [gpi_1, upd_s]) C R.t0⟩
    · unfold FX9_clash
      rw [n4, q_isOutside, p_out, gx_bs, ho', if_neg (by rw [bF]; decide)]
    · unfold gFX10_clash gBX10_clash_15
      rw [n0, n4, m_in, gx_bs, ho', if_pos (by rw [bI_0]; rfl), gx_bs, gx_bs, n1, gpi_1, upd_s, if_neg (by rw [nI_leN (by omega) (by omega)]; omega)]
end
