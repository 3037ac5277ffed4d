/-! calls that fill derived objects: tables -/
section
variable {h h' : jx_H} {a : Nat} {c : Cf} {d : Nat} {U : Nat → Cf} {V : Nat → Option Cf} {cnt : Nat → Int32} {L : Nat} {b : Nat → Nat} {e1 e2 : Int32} {res : Nat → Int32} {M M' : MS}
abbrev TIc (h : jx_H) (a : Nat) (c : Cf) : Prop := TI h (a + 35) (a + 1) (Lm c.2.1).length c.1 (tabM c.2.1 c.2.2.1 1 0) (tabM c.2.1 c.2.2.1 0 1)
abbrev TPc (h : jx_H) (a : Nat) (c : Cf) : Prop := TP h (a + 35) (a + 1) (Lm c.2.1).length c.1 (tabM c.2.1 c.2.2.1 1 0) (tabM c.2.1 c.2.2.1 0 1)
def difC (c : Cf) : Nat := difN (Lm c.2.1).length (mulM (Lm c.2.1).length c.1 (tabM c.2.1 c.2.2.1 1 0) (tabM c.2.1 c.2.2.1 0 1)) (mulM (Lm c.2.1).length c.1 (tabM c.2.1 c.2.2.1 0 1) (tabM c.2.1 c.2.2.1 1 0))
theorem difN_le {n : Nat} {A B : Nat → Nat → Nat} : difN n A B ≤ n * (n * 1) := by
  unfold difN
  refine sm_bound n fun r _ => sm_bound n fun c _ => ?_
  unfold b1
  split <;> omega
theorem difC_lt (o : okC c) : difC c < 200 := by
  have l := Lm_len o.2.1
  have k := difN_le (n := (Lm c.2.1).length) (A := mulM (Lm c.2.1).length c.1 (tabM c.2.1 c.2.2.1 1 0) (tabM c.2.1 c.2.2.1 0 1)) (B := mulM (Lm c.2.1).length c.1 (tabM c.2.1 c.2.2.1 0 1) (tabM c.2.1 c.2.2.1 1 0))
  have k2 : (Lm c.2.1).length * ((Lm c.2.1).length * 1) ≤ 12 * (12 * 1) := Nat.mul_le_mul (by omega) (Nat.mul_le_mul (by omega) (by omega))
  unfold difC
  omega
theorem TI.ob {t st n p : Nat} {X Y : Nat → Nat → Nat} (T : TI h t st n p X Y) : isO h t 6 = some () := by
  rcases T with ⟨cc, cr, q, -⟩ | ⟨df, cc, cr, q, -⟩
  · exact isO_ob q
  · exact isO_ob q
theorem TP.ob {t st n p : Nat} {X Y : Nat → Nat → Nat} (T : TP h t st n p X Y) : isO h t 6 = some () := TI.ob (Or.inl T)
theorem bd_pick {n p v : Nat} {X Y : Nat → Nat → Nat} (hX : bdM X n n p) (hY : bdM Y n n p) : bdM (pickM v X Y) n n p := by
  unfold pickM
  by_cases e : v = 0
  · rw [if_pos e]; exact hX
  · rw [if_neg e]; exact hY
theorem okC.X (o : okC c) : bdM (tabM c.2.1 c.2.2.1 1 0) (Lm c.2.1).length (Lm c.2.1).length c.1 := bd_tab o.2.1 (Or.inl ⟨rfl, rfl⟩) (by have := prs_b c.1 o.1; omega) o.2.2.1
theorem okC.Y (o : okC c) : bdM (tabM c.2.1 c.2.2.1 0 1) (Lm c.2.1).length (Lm c.2.1).length c.1 := bd_tab o.2.1 (Or.inr ⟨rfl, rfl⟩) (by have := prs_b c.1 o.1; omega) o.2.2.1
theorem DYN.up (D : DYN h a d U V) (e : ∀ x, a + 28 ≤ x → x ≤ a + 30 → h'.2 x = h.2 x) (up : ∀ q S, a + 128 < q → q + 8 < h.1 → bH sK h q S → bH sK h' q S) (s : h.1 ≤ h'.1) : DYN h' a d U V := by
  obtain ⟨nx, f, fs, hn, HI, RU, RA, es, SV⟩ := D
  refine ⟨nx, f, fs, hn, ⟨by rw [e (a + 29) (by omega) (by omega)]; exact HI.1, by rw [e (a + 29 + 1) (by omega) (by omega)]; exact HI.2⟩, fun k hk => ?_, ⟨fun j q hj hq => ?_, RA.2⟩, by rw [e (a + 28) (by omega) (by omega)]; exact es, SV.1, fun k v hk hv => ?_, SV.2.2⟩
  · obtain ⟨q, S, x1, x2, x3⟩ := RU k hk
    have z := RA.1 _ q slot_lt x1
    exact ⟨q, S, x1, up q S z.2.1 z.2.2 x2, x3⟩
  · obtain ⟨⟨T, x1⟩, x2, x3⟩ := RA.1 j q hj hq
    exact ⟨⟨T, up q T x2 x3 x1⟩, x2, by omega⟩
  · obtain ⟨x1, q, S, x2, x3, x4, x5, x6, x7⟩ := SV.2.1 k v hk hv
    exact ⟨x1, q, S, x2, up q S x5 x6 x3, x4, x5, by omega, x7⟩
theorem CLS.der (C : CLS h a c d U V cnt L b e1 e2 res) (e : ∀ x, (x < a + 32 ∨ a + 83 < x) → x ≠ a + 102 → x ≤ a + 128 → h'.2 x = h.2 x) (up : ∀ q S, a + 128 < q → q + 8 < h.1 → bH sK h q S → bH sK h' q S) (s : h.1 ≤ h'.1) (D' : DER h' a c) (g' : ∃ g, h'.2 (a + 102) = some (ar 12 g)) : CLS h' a c d U V cnt L b e1 e2 res := by
  obtain ⟨⟨B, sz⟩, ⟨⟨S, HS, hS⟩, ok⟩, ⟨⟨S1, H1⟩, S2, H2⟩, hd, D, ec, R, ⟨F, G⟩, P, er, -⟩ := C
  have u : ∀ {q : Nat} {S : MS}, q + 8 < a + 32 → bH sK h q S → bH sK h' q S := fun {q} _ hq H => H.same fun x x1 x2 => by have x2 : x ≤ q + 8 := x2; exact e x (by omega) (by omega) (by omega)
  exact ⟨⟨B.fr (e a (by omega) (by omega) (by omega)), by omega⟩, ⟨⟨S, u (by omega) HS, hS⟩, ok⟩, ⟨⟨S1, u (by omega) H1⟩, S2, u (by omega) H2⟩, hd, D.up (fun x x1 x2 => e x (by omega) (by omega) (by omega)) up s, by rw [e _ (by omega) (by omega) (by omega)]; exact ec, D', ⟨by show _ = _; rw [e _ (by omega) (by omega) (by omega)]; exact F, G.same fun x x1 x2 => e x (by omega) (by omega) (by omega)⟩, P.fr (fun x hx => e x (by omega) (by omega) (by omega)), by rw [e _ (by omega) (by omega) (by omega)]; exact er, g'⟩
theorem CLS.dq (C : CLS h a c d U V cnt L b e1 e2 res) (e : ∀ x, (x < a + 32 ∨ a + 83 < x) → x ≠ a + 102 → h'.2 x = h.2 x) (s : h'.1 = h.1) (D' : DER h' a c) (g' : ∃ g, h'.2 (a + 102) = some (ar 12 g)) : CLS h' a c d U V cnt L b e1 e2 res := C.der (fun x x1 x2 _ => e x x1 x2) (fun q S q1 q2 H => H.same fun x x1 _ => e x (by omega) (by omega)) (by omega) D' g'
theorem DER.tab (D : DER h a c) (e : ∀ x, ((a + 32 ≤ x ∧ x ≤ a + 34) ∨ (a + 68 ≤ x ∧ x ≤ a + 83) ∨ a + 128 < x) → h'.2 x = h.2 x) (s : h.1 ≤ h'.1) (T' : TIc h' a c) (X' : TX h (a + 35) → TX h' (a + 35)) : DER h' a c := by
  obtain ⟨ds, ft, -, X, ⟨P, hP⟩, Z, hd, e15, MA⟩ := D
  exact ⟨ds, ft, T', X' X, ⟨P, hP.same fun x x1 x2 => by have x2 : x ≤ a + 32 + 2 := x2; exact e x (by omega)⟩, Z.same fun x _ _ => e x (by omega), hd, by rw [e (a + 83) (by omega)]; exact e15, MA.fr (fun x hx => e x (by omega)) s⟩
theorem DER.sp (D : DER h a c) (e : ∀ x, ((a + 35 ≤ x ∧ x ≤ a + 83) ∨ a + 128 < x) → h'.2 x = h.2 x) (s : h.1 ≤ h'.1) (P' : ∃ P, bH pK h' (a + 32) P) : DER h' a c := by
  obtain ⟨ds, ft, T, X, -, Z, hd, e15, MA⟩ := D
  exact ⟨ds, ft, T.same fun x _ _ => e x (by omega), X.same fun x _ _ => e x (by omega), P', Z.same fun x _ _ => e x (by omega), hd, by rw [e (a + 83) (by omega)]; exact e15, MA.fr (fun x hx => e x (by omega)) s⟩
theorem CLS.tc (C : CLS h a c d U V cnt L b e1 e2 res) (x : exc h h' (a + 35) (a + 35 + 24)) (T : TPc h' a c) : CLS h' a c d U V cnt L b e1 e2 res := by
  have D := C.2.2.2.2.2.2.1
  obtain ⟨g, hg⟩ := C.2.2.2.2.2.2.2.2.2.2
  exact C.dq (fun y y1 _ => x.2 y (by omega)) x.1 (D.tab (fun y hy => x.2 y (by omega)) (Nat.le_of_eq x.1.symm) (Or.inl T) fun X => X.same fun y y1 y2 => x.2 y (by omega)) ⟨g, by rw [x.2 _ (by omega)]; exact hg⟩
theorem OUT.keep (O : OUT h (a + 128)) (e : ∀ x, a + 103 ≤ x → x ≤ a + 128 → h'.2 x = h.2 x) : OUT h' (a + 128) := by
  obtain ⟨g, q⟩ := O
  exact ⟨g, by rw [e _ (by omega) (by omega)]; exact q⟩
theorem mkeep (H : bH mK h (a + 103) M) (e : ∀ x, a + 103 ≤ x → x ≤ a + 128 → h'.2 x = h.2 x) : bH mK h' (a + 103) M := H.same fun x x1 x2 => by have x2 : x ≤ a + 103 + 24 := x2; exact e x (by omega) (by omega)
theorem REF.scr (R : REF M c d U V cnt L b e1 e2 res) (s : scr M M') : REF M' c d U V cnt L b e1 e2 res :=
  R.fr (s.2.1 5 (by decide) (by decide) (by decide) (by decide)) (s.2.1 10 (by decide) (by decide) (by decide) (by decide)) (s.2.1 15 (by decide) (by decide) (by decide) (by decide)) (s.2.1 16 (by decide) (by decide) (by decide) (by decide)) (s.2.2 1 (Or.inl (by decide))) (s.2.2 4 (Or.inl (by decide))) (s.2.2 5 (Or.inl (by decide))) (s.2.2 6 (Or.inl (by decide))) (s.2.2 7 (Or.inl (by decide))) (s.2.2 8 (Or.inl (by decide))) (s.2.2 9 (Or.inl (by decide))) (s.2.2 18 (Or.inr rfl))
theorem scr.of {P : Nat → Prop} (o : only (gpi M 0 (nI 0)) M' P) (hP : ∀ b, P b → 10 ≤ b ∧ b ≠ 18) : scr M M' := by
  refine ⟨by rw [o.1, gpi_1, upd_s], fun q q0 _ _ _ => by rw [o.1, gpi_1, upd_o q0], fun b hb => ?_⟩
  rw [o.2 b fun z => by have := hP b z; omega, gpi_2]
theorem REF.on {P : Nat → Prop} (R : REF M c d U V cnt L b e1 e2 res) (o : only (gpi M 0 (nI 0)) M' P) (hP : ∀ b, P b → 10 ≤ b ∧ b ≠ 18) : REF M' c d U V cnt L b e1 e2 res := R.scr (scr.of o hP)
/-- the class counts where the products differ -/
theorem h_dif {S : MS} (D : DER h a c) (HS : bH sK h (a + 1) S) (sS : STc S c) (o : okC c) : ∃ h', FX6_differences (a + 35) h = some (nI (difC c), h') ∧ exc h h' (a + 35) (a + 35 + 24) ∧ TPc h' a c := by
  obtain ⟨ds, ft, T, -⟩ := D
  have pb := prs_b c.1 o.1
  obtain ⟨h', k1, k2, k3⟩ := h_prepare T HS sS o.2.1 (by omega) (by omega) o.2.2.1 (by omega)
  obtain ⟨cc, cr, q, -⟩ := id k3
  refine ⟨h', ?_, k2.mono (Nat.le_refl _) (by omega), k3⟩
  unfold FX6_differences
  rw [TI.ob T, gx_bs, k1, gx_bs, hgi_ob (x := nI (difC c)) q rfl, gx_bs]
/-- the reference -/
theorem m_friends {S : MS} (H : RCc (S.2 1) c) (o : okC c) : ∃ T, gFX10_areFriends S = some (bI (decide (difC c = 0)), T) ∧ only S T (fun b => b = 10 ∨ b = 11 ∨ b = 13 ∨ b = 14) := by
  have pb := prs_b c.1 o.1
  have l := difC_lt o
  obtain ⟨T, k1, k2, -⟩ := m_differences H o.2.1 (by omega) (by omega) o.2.2.1
  refine ⟨T, ?_, k2⟩
  have k1 : gFX10_differences S = some (nI (difC c), T) := k1
  unfold gFX10_areFriends
  rw [k1, b2s, n0, n1]
  by_cases z : difC c = 0
  · rw [if_pos (by rw [z]), decide_eq_true z]; rfl
  · rw [if_neg (by rw [nI_eqN (by omega) (by omega)]; exact z), decide_eq_false z]; rfl
theorem bI_or {b : Bool} : bI b = nI 0 ∨ bI b = 1 := by
  cases b
  · exact Or.inl rfl
  · exact Or.inr (by first | rfl | exact n1.symm)
theorem m_arePow {x y : Int32} {S : MS} : gFX10_arePowers x y S = some (bI (!outB x 22 && !outB y 22)) := by
  unfold gFX10_arePowers
  rw [n0, n22, n1, m_in, gx_bs]
  cases hx : outB x 22 with
  | true => rw [if_pos (by rw [bI_0]; rfl)]; rfl
  | false =>
    rw [if_neg (by rw [bI_0]; decide), m_in, gx_bs]
    cases hy : outB y 22 with
    | true => rw [if_pos (by rw [bI_0]; rfl)]; rfl
    | false => rw [if_neg (by rw [bI_0]; decide)]; rfl
end
section
variable {a m o : Nat}
theorem o_determinant : St_determinant (INV a m o) a m o := by
  rintro h x ⟨rfl, rfl, O, M, c, d, U, V, cnt, L, b, e1, e2, res, HM, C, R⟩
  obtain ⟨⟨B, sz⟩, ⟨⟨S, HS, sS⟩, ok⟩, -, -, -, -, D, -⟩ := id C
  have pb := prs_b c.1 ok.1
  by_cases ho : outB x 1 = false
  · obtain ⟨k, hk, rfl⟩ := outB_f (by omega) ho
    obtain ⟨ds, ft, T0, -⟩ := D
    obtain ⟨h1, k1, k2, k3⟩ := h_determinant T0 HS sS ok.2.1 (by omega) (by omega) ok.2.2.1 (by omega) hk
    obtain ⟨T, t1, t2⟩ := m_determinant R.1 ok.2.1 (by omega) (by omega) ok.2.2.1 hk
    rw [← det_same ok.1 (bd_pick ok.X ok.Y)] at t1
    refine ⟨.inl (_, h1), ?_, B.ob, vt_val (G := FX10_determinant (a + 103) (nI k)) (g := gFX10_determinant (nI k)) (M' := T) (fun h S => eFX10_determinant) (O.keep fun x _ _ => k2.2 x (by omega)) (mkeep HM fun x _ _ => k2.2 x (by omega)) t1 t2.1 (C.tc k2 k3) (R.scr t2)⟩
    unfold FX9_determinant
    rw [n1, q_isOutside, p_out, gx_bs, ho, if_pos (by rw [bF]), B.g7, gx_bs, TI.ob T0, gx_bs, k1, b2s]
  · have ho' : outB x 1 = true := by simpa using ho
    refine ⟨.inr ("java/lang/IllegalArgumentException", h), ?_, B.ob, vt_thr (G := FX10_determinant (a + 103) x) (g := gFX10_determinant x) (M' := gpi M 0 (nI 1)) (v := 0) (k := 1) (fun h S => eFX10_determinant) O HM rfl cd1 (by omega) (by omega) ?_ (by rw [gpi_1, upd_s]) C R.t0⟩
    · unfold FX9_determinant
      rw [n1, q_isOutside, p_out, gx_bs, ho', if_neg (by rw [bF]; decide)]
    · unfold gFX10_determinant gBX10_determinant_13
      rw [m_isVar, gx_bs, ho', n0, if_pos (by rw [bI_0]; rfl), gx_bs, gx_bs, n1, gpi_1, upd_s, if_neg (by rw [nI_leN (by omega) (by omega)]; omega)]
theorem o_kernel : St_kernel (INV a m o) a m o := by
  rintro h x y ⟨rfl, rfl, O, M, c, d, U, V, cnt, L, b, e1, e2, res, HM, C, R⟩
  obtain ⟨⟨B, sz⟩, ⟨⟨S, HS, sS⟩, ok⟩, -, -, -, -, D, -⟩ := id C
  have pb := prs_b c.1 ok.1
  have gp : hgi h (a + 1) 5 0 = some (nI c.1) := by rw [← sS.1]; exact HS.i0
  have thr : (outB x 1 || outB y (c.1 - 1)) = true → gFX10_kernel x y M = some (nI 0, gpi M 0 (nI 1)) := fun hxy => by
    unfold gFX10_kernel gBX10_kernel_20 gBX10_kernel_21
    rw [m_isVar, gx_bs, n0]
    cases hx : outB x 1 with
    | true => rw [if_pos (by rw [bI_0]; rfl), gx_bs, gx_bs, n1, gpi_1, upd_s, if_neg (by rw [nI_leN (by omega) (by omega)]; omega)]
    | false =>
      rw [hx, Bool.false_or] at hxy
      rw [if_neg (by rw [bI_0]; decide), m_isNum R.1.1 (by omega), gx_bs, hxy, if_pos (by rw [bI_0]; rfl), gx_bs, gx_bs, n1, gpi_1, upd_s, if_neg (by rw [nI_leN (by omega) (by omega)]; omega)]
  by_cases hxy : (outB x 1 || outB y (c.1 - 1)) = true
  · refine ⟨.inr ("java/lang/IllegalArgumentException", h), ?_, B.ob, vt_thr (G := FX10_kernel (a + 103) x y) (g := gFX10_kernel x y) (M' := gpi M 0 (nI 1)) (v := nI 0) (k := 1) (fun h S => eFX10_kernel) O HM rfl cd1 (by omega) (by omega) (thr hxy) (by rw [gpi_1, upd_s]) C R.t0⟩
    unfold FX9_kernel BX9_kernel_24
    rw [n1, q_isOutside, p_out, gx_bs]
    cases hx : outB x 1 with
    | true => rw [if_neg (by rw [bF]; decide)]
    | false =>
      rw [hx, Bool.false_or] at hxy
      rw [if_pos (by rw [bF]), B.g0, gx_bs, gp, gx_bs, nI_sub (by omega), q_isOutside, p_out, gx_bs, hxy, if_neg (by rw [bF]; decide)]
  · have hx : outB x 1 = false := by cases hq : outB x 1 with | false => rfl | true => rw [hq] at hxy; exact absurd rfl hxy
    have hy : outB y (c.1 - 1) = false := by cases hq : outB y (c.1 - 1) with | false => rfl | true => rw [hq, Bool.or_true] at hxy; exact absurd rfl hxy
    obtain ⟨i, hi, rfl⟩ := outB_f (by omega) hx
    obtain ⟨j, hj, rfl⟩ := outB_f (by omega) hy
    obtain ⟨ds, ft, T0, -⟩ := D
    obtain ⟨h1, k1, k2, k3⟩ := h_nullity T0 HS sS ok.2.1 (by omega) (by omega) ok.2.2.1 (by omega) hi (show j < c.1 by omega)
    obtain ⟨T, t1, t2⟩ := m_kernel R.1 ok.2.1 (by omega) (by omega) ok.2.2.1 hi (show j < c.1 by omega)
    rw [← rank_same ok.1 (bd_less (by omega) (bd_pick ok.X ok.Y))] at t1
    refine ⟨.inl (_, h1), ?_, B.ob, vt_val (G := FX10_kernel (a + 103) (nI i) (nI j)) (g := gFX10_kernel (nI i) (nI j)) (M' := T) (fun h S => eFX10_kernel) (O.keep fun x _ _ => k2.2 x (by omega)) (mkeep HM fun x _ _ => k2.2 x (by omega)) t1 t2.1 (C.tc k2 k3) (R.scr t2)⟩
    unfold FX9_kernel
    rw [n1, q_isOutside, p_out, gx_bs, hx, if_pos (by rw [bF]), B.g0, gx_bs, gp, gx_bs, nI_sub (by omega), q_isOutside, p_out, gx_bs, hy, if_pos (by rw [bF]), B.g7, gx_bs, TI.ob T0, gx_bs, k1, b2s]
theorem o_trace : St_trace (INV a m o) a m o := by
  rintro h x y ⟨rfl, rfl, O, M, c, d, U, V, cnt, L, b, e1, e2, res, HM, C, R⟩
  obtain ⟨⟨B, sz⟩, ⟨⟨S, HS, sS⟩, ok⟩, -, -, -, -, D, -⟩ := id C
  have pb := prs_b c.1 ok.1
  have l := Lm_len ok.2.1
  by_cases hxy : (!outB x 22 && !outB y 22) = true
  · have hx : outB x 22 = false := by
      cases e : outB x 22 with
      | false => rfl
      | true => rw [e] at hxy; cases hxy
    have hy : outB y 22 = false := by
      cases e : outB y 22 with
      | false => rfl
      | true => rw [e, Bool.and_comm] at hxy; cases hxy
    obtain ⟨i, hi, rfl⟩ := outB_f (by omega) hx
    obtain ⟨j, hj, rfl⟩ := outB_f (by omega) hy
    obtain ⟨ds, ft, T0, -⟩ := D
    obtain ⟨h1, k1, k2, k3⟩ := h_traceOf T0 HS sS ok.2.1 (by omega) (by omega) ok.2.2.1 (by omega) (show i < 1000 by omega) (show j < 1000 by omega)
    have R0 : RCc ((gpi M 0 (nI 0)).2 1) c := by rw [gpi_2]; exact R.1
    obtain ⟨T, t1, t2, t3, t4⟩ := m_laysTables R0 ok.2.1
    have e1' : T.2 1 = M.2 1 := by rw [t2.2 1 (by omega), gpi_2]
    obtain ⟨T', u1, u2⟩ := m_traceOf (S := T) (p := c.1) (n := (Lm c.2.1).length) (by rw [e1']; exact R.1.1) (by rw [e1']; exact R.1.2.1.1) (by omega) (by omega) (by omega) t3 t4 ok.X ok.Y (show i < 1000 by omega) (show j < 1000 by omega)
    have oT : only (gpi M 0 (nI 0)) T' (fun b => b = 10 ∨ b = 11 ∨ b = 12 ∨ b = 14) := (t2.mono fun b hb => by omega).tr (u2.mono fun b hb => by omega)
    refine ⟨.inl (_, h1), ?_, B.ob, vt_val (v := nI (trM (Lm c.2.1).length c.1 (mulIt (Lm c.2.1).length c.1 (tabM c.2.1 c.2.2.1 1 0) (powR (Lm c.2.1).length c.1 (tabM c.2.1 c.2.2.1 0 1) j) i))) (G := FX10_trace (a + 103) (nI i) (nI j)) (g := gFX10_trace (nI i) (nI j)) (M' := T') (fun h S => eFX10_trace) (O.keep fun x _ _ => k2.2 x (by omega)) (mkeep HM fun x _ _ => k2.2 x (by omega)) ?_ (by rw [oT.1, gpi_1, upd_s]) (C.tc k2 k3) (R.on oT fun b hb => by omega)⟩
    · unfold FX9_trace
      rw [n22, q_isOutside, p_out, gx_bs, hx, if_pos (by rw [bF]), q_isOutside, p_out, gx_bs, hy, if_pos (by rw [bF]), B.g7, gx_bs, TI.ob T0, gx_bs, k1, b2s]
    · unfold gFX10_trace gBX10_trace_14
      rw [m_arePow, hxy, gx_bs, n0, if_neg (by rw [bI_0]; decide), gx_bs, gx_bs, gpi_1, upd_s, if_pos (by rw [nI_leN (by omega) (by omega)]; omega), t1, gx_bs, u1, b2s]
  · have hf : (!outB x 22 && !outB y 22) = false := by simpa using hxy
    refine ⟨.inr ("java/lang/IllegalArgumentException", h), ?_, B.ob, vt_thr (G := FX10_trace (a + 103) x y) (g := gFX10_trace x y) (M' := gpi M 0 (nI 1)) (v := 0) (k := 1) (fun h S => eFX10_trace) O HM rfl cd1 (by omega) (by omega) ?_ (by rw [gpi_1, upd_s]) C R.t0⟩
    · unfold FX9_trace BX9_trace_18
      rw [n22, q_isOutside, p_out, gx_bs]
      cases hx : outB x 22 with
      | true => rw [if_neg (by rw [bF]; decide)]
      | false =>
        rw [hx, Bool.not_false, Bool.true_and] at hf
        have hy : outB y 22 = true := by cases e : outB y 22 with | true => rfl | false => rw [e] at hf; cases hf
        rw [if_pos (by rw [bF]), q_isOutside, p_out, gx_bs, hy, if_neg (by rw [bF]; decide)]
    · unfold gFX10_trace gBX10_trace_14
      rw [m_arePow, hf, gx_bs, n0, if_pos (by rw [bI_0]), gx_bs, gx_bs, n1, gpi_1, upd_s, if_neg (by rw [nI_leN (by omega) (by omega)]; omega)]
theorem o_commutes : St_commutes (INV a m o) a m := by
  rintro h ⟨rfl, rfl, O, M, c, d, U, V, cnt, L, b, e1, e2, res, HM, C, R⟩
  obtain ⟨⟨B, sz⟩, ⟨⟨S, HS, sS⟩, ok⟩, -, -, -, -, D, -⟩ := id C
  have l := difC_lt ok
  obtain ⟨h1, k1, k2, k3⟩ := h_dif D HS sS ok
  have R0 : RCc ((gpi M 0 (nI 0)).2 1) c := by rw [gpi_2]; exact R.1
  obtain ⟨T, t1, t2⟩ := m_friends R0 ok
  obtain ⟨ds, ft, T0, -⟩ := D
  obtain ⟨v1, v2⟩ := vt_plain (G := FX10_commutes (a + 103)) (g := gFX10_commutes) (v := bI (decide (difC c = 0))) (M' := T) (fun h S => eFX10_commutes) (O.keep fun x _ _ => k2.2 x (by omega)) (mkeep HM fun x _ _ => k2.2 x (by omega)) (by
    unfold gFX10_commutes
    rw [n0, gx_bs, t1, b2s, if_pos bI_or]) (C.tc k2 k3) (R.on t2 fun b hb => by omega)
  refine ⟨_, h1, B.ob, ?_, v1, v2⟩
  unfold FX9_commutes
  rw [B.g7, gx_bs, TI.ob T0, gx_bs, k1, b2s, n0, n1]
  by_cases z : difC c = 0
  · rw [if_pos (by rw [z]), decide_eq_true z]; rfl
  · rw [if_neg (by rw [nI_eqN (by omega) (by omega)]; exact z), decide_eq_false z]; rfl
end
