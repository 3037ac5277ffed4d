/-! calls: zeros, zero, multiplicity -/
theorem sm_zz {f : Nat → Nat} : ∀ n, sm f n = 0 → ∀ k, k < n → f k = 0
  | 0, _, k, h => absurd h (Nat.not_lt_zero _)
  | n + 1, hz, k, hk => by
    have hz : sm f n + f n = 0 := hz
    by_cases e : k = n
    · rw [e]; omega
    · exact sm_zz n (by omega) k (by omega)
theorem difN_0 {n : Nat} {A B : Nat → Nat → Nat} (h : difN n A B = 0) : eqM n A B := fun r c hr hc => by
  have k : b1 (!decide (A r c = B r c)) = 0 := sm_zz n (sm_zz n h r hr) c hc
  by_cases e : A r c = B r c
  · exact e
  · rw [decide_eq_false e] at k
    exact absurd k (by decide)
theorem cm_of {c : Cf} (z : difC c = 0) : cmV (Lm c.2.1).length c.1 (tabM c.2.1 c.2.2.1 1 0) (tabM c.2.1 c.2.2.1 0 1) := cmV.mk (difN_0 z)
theorem m_inL {x : Int32} {n : Nat} {S : MS} (hn : n < 1000) : gFX10_in x (nI 0) (nI n - nI 1) S = some (bI (decide (0 < n) && !outB x (n - 1))) := by
  by_cases z : n = 0
  · subst z
    rw [nI_0m1]
    unfold gFX10_in
    rw [n0, n1]
    rcases i_cases x with hx | ⟨k, hk, rfl⟩
    · rw [if_pos hx]; rfl
    · rw [if_neg (by rw [nI_lt0 hk]; exact id), if_pos (by
        rw [Int32.lt_iff_toInt_lt, nI_toInt (by omega)]
        have : m1.toInt = -1 := by decide
        omega)]; rfl
  · rw [nI_sub (by omega), m_in, decide_eq_true (by omega), Bool.true_and]
section
variable {h h' : jx_H} {a : Nat} {c : Cf} {d : Nat} {U : Nat → Cf} {V : Nat → Option Cf} {cnt : Nat → Int32} {L : Nat} {b : Nat → Nat} {e1 e2 : Int32} {res : Nat → Int32} {M M' : MS} {S : MS} {ds : Int32}
abbrev zl (c : Cf) : List (Nat × Nat) := zAll (zF c.2.1 c.2.2.1 c.1) c.1
abbrev ZFc (h : jx_H) (a : Nat) (c : Cf) (ds : Int32) : Prop := ZF h (a + 68) (a + 1) (a + 35) (a + 32) c.2.1 c.2.2.1 c.1 ds
def dsO (c : Cf) (ds : Int32) : Prop := ds = m1 ∨ ds = nI (dsV c.2.1 c.2.2.1 c.1)
theorem zl_le (o : okC c) : (zl c).length ≤ 12 := by
  have k := zAll_le (r := c.2.2.1) o.2.1 o.1
  have l := Lm_len o.2.1
  show (zAll (zF c.2.1 c.2.2.1 c.1) c.1).length ≤ 12
  omega
theorem zl_at {k : Nat} (hk : k < (zl c).length) : mx (zl c) k < c.1 ∧ my (zl c) k < c.1 := by
  have e : (zl c).getD k (0, 0) ∈ zl c := by
    rw [List.getD_eq_getElem?_getD, List.getElem?_eq_getElem hk]
    exact List.getElem_mem hk
  exact (mem_zAll.mp e).1
theorem DER.zo (D : DER h a c) : isO h (a + 68) 8 = some () := by
  obtain ⟨ds, ft, -, -, -, Z, -⟩ := D
  exact (ZI.ob Z).1
theorem DER.tob (D : DER h a c) : isO h (a + 35) 6 = some () := by
  obtain ⟨ds, ft, T, -⟩ := D
  exact T.ob
theorem ZF.len {z st t sp p : Nat} {ht : Nat → Nat} {r : Nat → Nat → Nat} (Z : ZF h z st t sp ht r p ds) : hgi h z 8 13 = some (nI (zAll (zF ht r p) p).length) := by
  obtain ⟨za, zb, zm, ZB, -⟩ := Z
  exact hgi_ob ZB.1 rfl
theorem CLS.D (C : CLS h a c d U V cnt L b e1 e2 res) : DER h a c := C.2.2.2.2.2.2.1
theorem CLS.ok (C : CLS h a c d U V cnt L b e1 e2 res) : okC c := C.2.1.2
theorem CLS.B (C : CLS h a c d U V cnt L b e1 e2 res) : BB h a := C.1.1
theorem REF.zr {L' : List (Nat × Nat)} (R : REF M c d U V cnt L b e1 e2 res) (t : zRel M M' L') : REF M' c d U V cnt L b e1 e2 res :=
  R.fr (t.2.2.1 5 (by decide)) (t.2.2.1 10 (by decide)) (t.2.2.1 15 (by decide)) (t.2.2.1 16 (by decide)) (t.2.2.2 1 (by decide)) (t.2.2.2 4 (by decide)) (t.2.2.2 5 (by decide)) (t.2.2.2 6 (by decide)) (t.2.2.2 7 (by decide)) (t.2.2.2 8 (by decide)) (t.2.2.2 9 (by decide)) (t.2.2.2 18 (by decide))
theorem c_find (C : CLS h a c d U V cnt L b e1 e2 res) (HS : bH sK h (a + 1) S) (sS : STc S c) : ∃ h' ds, FX8_find (a + 68) h = some h' ∧ h'.1 = h.1 ∧ (∀ x, (x < a + 32 ∨ a + 73 < x) → h'.2 x = h.2 x) ∧ CLS h' a c d U V cnt L b e1 e2 res ∧ ZFc h' a c ds ∧ dsO c ds ∧ (TPc h a c → TPc h' a c) ∧ bH sK h' (a + 1) S := by
  have ok := C.ok
  obtain ⟨ds, ft, T, X, P, Z, hd, e15, MA⟩ := id C.D
  obtain ⟨h', k1, k2, k3, k4, k5, k6, k7, k8⟩ := h_find T HS sS ok.2.1 ok.1 ok.2.2.1 (by omega) (by omega) (by omega) Z P X
  have kc : ∀ x, (x < a + 32 ∨ a + 73 < x) → h'.2 x = h.2 x := fun x hx => k3 x (by omega) (by omega) (by omega)
  obtain ⟨g, hg⟩ := C.2.2.2.2.2.2.2.2.2.2
  exact ⟨h', ds, k1, k2, kc, C.dq (fun x x1 _ => kc x (by omega)) k2 ⟨ds, ft, k4, k8, k7, Or.inl k6, hd, by rw [kc _ (by omega)]; exact e15, MA.fr (fun x hx => kc x (by omega)) (by omega)⟩ ⟨g, by rw [kc _ (by omega)]; exact hg⟩, k6, hd, k5, HS.same fun x x1 x2 => by have x2 : x ≤ a + 1 + 8 := x2; exact kc x (by omega)⟩
theorem CLS.zm (C : CLS h a c d U V cnt L b e1 e2 res) (x : mch h h' (a + 35) (a + 68)) (T : TPc h' a c) (Z : ZFc h' a c ds) (hd : dsO c ds) : CLS h' a c d U V cnt L b e1 e2 res := by
  obtain ⟨ds0, ft, -, X, ⟨P, hP⟩, -, -, e15, MA⟩ := id C.D
  have kc : ∀ y, (y < a + 48 ∨ (a + 59 < y ∧ y < a + 73) ∨ a + 79 < y) → h'.2 y = h.2 y := fun y hy => x.2 y (by omega) (by omega) (by omega)
  obtain ⟨g, hg⟩ := C.2.2.2.2.2.2.2.2.2.2
  exact C.dq (fun y y1 _ => kc y (by omega)) x.1 ⟨ds, ft, Or.inl T, X.same fun y y1 y2 => kc y (by omega), ⟨P, hP.same fun y y1 y2 => by have y2 : y ≤ a + 32 + 2 := y2; exact kc y (by omega)⟩, Or.inl Z, hd, by rw [kc _ (by omega)]; exact e15, MA.fr (fun y hy => kc y (by omega)) (by have := x.1; omega)⟩ ⟨g, by rw [kc _ (by omega)]; exact hg⟩
theorem c_all (C : CLS h a c d U V cnt L b e1 e2 res) (HS : bH sK h (a + 1) S) (sS : STc S c) (T : TPc h a c) : ∃ h', FX8_allMultiplicities (a + 68) h = some (nI (muS c.2.1 c.2.2.1 c.1), h') ∧ h'.1 = h.1 ∧ (∀ x, (x < a + 32 ∨ a + 83 < x) → h'.2 x = h.2 x) ∧ CLS h' a c d U V cnt L b e1 e2 res := by
  have ok := C.ok
  obtain ⟨h1, ds, f1, f2, f3, C1, Z1, hd, f7, HS1⟩ := c_find C HS sS
  obtain ⟨h2, g1, g2, g3, g4⟩ := h_mulLoop (f7 T) HS1 sS ok.2.1 ok.1 ok.2.2.1 (by omega) (by omega) Z1
  refine ⟨h2, ?_, g2.1.trans f2, fun x hx => by rw [g2.2 x (by omega) (by omega) (by omega), f3 x (by omega)], C1.zm g2 g3 g4 hd⟩
  unfold FX8_allMultiplicities
  rw [C.D.zo, gx_bs, f1, gx_bs, n0]
  exact g1
theorem c_dist (C : CLS h a c d U V cnt L b e1 e2 res) (HS : bH sK h (a + 1) S) (sS : STc S c) : ∃ h', FX8_distinctEverywhere (a + 68) h = some (nI (dsV c.2.1 c.2.2.1 c.1), h') ∧ (∀ x, (x < a + 32 ∨ a + 83 < x) → x ≤ a + 128 → h'.2 x = h.2 x) ∧ CLS h' a c d U V cnt L b e1 e2 res := by
  have ok := C.ok
  have sz := C.1.2
  obtain ⟨ds, ft, T, X, ⟨P, hP⟩, Z, hd, e15, MA⟩ := id C.D
  obtain ⟨h', ft', k1, k2, k3, k4, k5, k6, k7, k8, k9⟩ := h_distinct (lo := a + 128) T HS sS ok.2.1 ok.1 ok.2.2.1 Z hd e15 MA (by omega) sz (by omega) (by omega)
  have low : ∀ x, x ≤ a + 128 → (x < a + 35 ∨ a + 47 < x) → x ≠ a + 68 → (x < a + 80 ∨ a + 83 < x) → h'.2 x = h.2 x := fun x x1 x2 x3 x4 => k3 x (by omega) (by omega) x3 (by omega) fun j q hj hq => Or.inl (by have := (MA.1 j q hj hq).2.1; omega)
  obtain ⟨g, hg⟩ := C.2.2.2.2.2.2.2.2.2.2
  refine ⟨h', k1, fun x x1 x2 => low x x2 (by omega) (by omega) (by omega), C.der (fun x x1 x2 x3 => low x x3 (by omega) (by omega) (by omega)) (fun q Q q1 q2 H => H.same fun x x1 x2 => ?_) k2 ⟨_, ft', k7, X.same fun x x1 x2 => low x (by omega) (by omega) (by omega) (by omega), ⟨P, hP.same fun x x1 x2 => ?_⟩, k9, Or.inr rfl, k5, k6⟩ ⟨g, by rw [low _ (by omega) (by omega) (by omega) (by omega)]; exact hg⟩⟩
  · have x2 : x ≤ q + 8 := x2
    refine k3 x (by omega) (by omega) (by omega) (by omega) fun j q' hj hq' => ?_
    have := mt_off H (MA.1 j q' hj hq').1
    omega
  · have x2 : x ≤ a + 32 + 2 := x2
    exact low x (by omega) (by omega) (by omega) (by omega)
end
section
variable {a m o : Nat}
theorem o_zeros : St_zeros (INV a m o) a m o := by
  rintro h x ⟨rfl, rfl, O, M, c, d, U, V, cnt, L, b, e1, e2, res, HM, C, R⟩
  obtain ⟨⟨B, sz⟩, ⟨⟨S, HS, sS⟩, ok⟩, -, -, -, -, D, -⟩ := id C
  have pb := prs_b c.1 ok.1
  have l := Lm_len ok.2.1
  have dl := difC_lt ok
  have R0 : RCc ((gpi M 0 (nI 0)).2 1) c := by rw [gpi_2]; exact R.1
  by_cases ho : outB x 2 = false
  · obtain ⟨k, hk, rfl⟩ := outB_f (by omega) ho
    by_cases k0 : k = 0
    · subst k0
      obtain ⟨h1, ds, f1, f2, f3, C1, Z1, -, -, -⟩ := c_find C HS sS
      obtain ⟨T, t1, t2⟩ := m_laysZeros R0 ok.2.1 (by omega) (by omega) ok.2.2.1
      refine ⟨.inl (nI (zl c).length, h1), ?_, B.ob, vt_val (G := FX10_zeros (a + 103) (nI 0)) (g := gFX10_zeros (nI 0)) (M' := T) (fun h S => eFX10_zeros) (O.keep fun x _ _ => f3 x (by omega)) (mkeep HM fun x _ _ => f3 x (by omega)) ?_ (by rw [t2.2.2.1 0 (by decide), gpi_1, upd_s]) C1 (R.t0.zr t2)⟩
      · unfold FX9_zeros FX8_number
        rw [n0, n2, q_isOutside, p_out, gx_bs, ho, if_pos (by rw [bI_0]), if_pos rfl, B.g8, gx_bs, D.zo, gx_bs, gx_bs, f1, gx_bs, Z1.len, gx_bs, b2s]
      · unfold gFX10_zeros gBX10_zeros_15
        rw [n0, n2, m_in, gx_bs, ho, if_neg (by rw [bI_0]; decide), gx_bs, gx_bs, gpi_1, upd_s, if_pos (by rw [nI_leN (by omega) (by omega)]; omega), if_pos rfl, t1, gx_bs, gx_bs, t2.1]
    · obtain ⟨h1, k1, k2, k3⟩ := h_dif D HS sS ok
      have C1 := C.tc k2 k3
      have HS1 : bH sK h1 (a + 1) S := HS.ex k2 (by show a + 1 + 8 < a + 35 ∨ _; omega)
      have B1 : BB h1 a := C1.B
      obtain ⟨T, t1, t2⟩ := m_friends R0 ok
      have RT : REF T c d U V cnt L b e1 e2 res := R.on t2 fun b hb => by omega
      have t0 : T.1 0 = nI 0 := by rw [t2.1, gpi_1, upd_s]
      have O1 : OUT h1 (a + 128) := O.keep fun x _ _ => k2.2 x (by omega)
      have M1 : bH mK h1 (a + 103) M := mkeep HM fun x _ _ => k2.2 x (by omega)
      have cls : FX9_zeros a (nI k) h = if nI (difC c) = nI 0 then (if nI k = nI 1 then bind2 (FX8_distinctEverywhere (a + 68) h1) fun x12 h13 => some (.inl (x12, h13)) else bind2 (FX8_allMultiplicities (a + 68) h1) fun x8 h9 => some (.inl (x8, h9))) else some (.inl (m1, h1)) := by
        unfold FX9_zeros
        rw [n0, n1, nm1, n2, q_isOutside, p_out, gx_bs, ho, if_pos (by rw [bI_0]), if_neg (by rw [nI_eqN (by omega) (by omega)]; exact k0), B.g7, gx_bs, D.tob, gx_bs, k1, b2s, B1.g8, gx_bs, gx_bs, C1.D.zo, gx_bs, gx_bs]
      have ref : gFX10_zeros (nI k) M = if bI (decide (difC c = 0)) = nI 0 then some (m1, T) else (if nI k = nI 1 then bind2 (gFX10_distinct T) fun x10 h11 => some (x10, h11) else bind2 (gFX10_allTimes T) fun x7 h8 => some (x7, h8)) := by
        unfold gFX10_zeros gBX10_zeros_15
        rw [n0, n1, nm1, n2, m_in, gx_bs, ho, if_neg (by rw [bI_0]; decide), gx_bs, gx_bs, gpi_1, upd_s, if_pos (by rw [nI_leN (by omega) (by omega)]; omega), if_neg (by rw [nI_eqN (by omega) (by omega)]; exact k0), t1, b2s]
      by_cases z : difC c = 0
      · by_cases e : k = 1
        · obtain ⟨h2, w1, w2, C2⟩ := c_dist C1 HS1 sS
          obtain ⟨T', u1, u2, u3⟩ := m_distinct RT.1 ok.2.1 (by omega) (by omega) ok.2.2.1
          rw [dis_same ok.1 (cm_of z)] at u1
          have s : scr T T' := ⟨by rw [u2 0 (by decide) (by decide)]; exact t0, fun q _ q28 q29 _ => u2 q q28 q29, fun j hj => u3 j (by omega)⟩
          refine ⟨.inl (nI (dsV c.2.1 c.2.2.1 c.1), h2), ?_, B.ob, vt_val (G := FX10_zeros (a + 103) (nI k)) (g := gFX10_zeros (nI k)) (M' := T') (fun h S => eFX10_zeros) (O1.keep fun x _ _ => w2 x (by omega) (by omega)) (mkeep M1 fun x _ _ => w2 x (by omega) (by omega)) ?_ s.1 C2 (RT.scr s)⟩
          · rw [cls, if_pos (by rw [z]), if_pos (by rw [e]), w1, b2s]
          · rw [ref, if_neg (by rw [decide_eq_true z, bI_0]; decide), if_pos (by rw [e]), u1, b2s]
        · obtain ⟨h2, w1, w2, w3, C2⟩ := c_all C1 HS1 sS k3
          obtain ⟨T', u1, u2, u3⟩ := m_allTimes RT.1 ok.2.1 ok.1 ok.2.2.1
          have s : scr T T' := ⟨by rw [u2 0 (by decide) (by decide) (by decide)]; exact t0, fun q _ q28 q29 q34 => u2 q q28 q29 q34, fun j hj => u3 j (by omega) (by omega)⟩
          refine ⟨.inl (nI (muS c.2.1 c.2.2.1 c.1), h2), ?_, B.ob, vt_val (G := FX10_zeros (a + 103) (nI k)) (g := gFX10_zeros (nI k)) (M' := T') (fun h S => eFX10_zeros) (O1.keep fun x _ _ => w3 x (by omega)) (mkeep M1 fun x _ _ => w3 x (by omega)) ?_ s.1 C2 (RT.scr s)⟩
          · rw [cls, if_pos (by rw [z]), if_neg (by rw [nI_eqN (by omega) (by omega)]; exact e), w1, b2s]
          · rw [ref, if_neg (by rw [decide_eq_true z, bI_0]; decide), if_neg (by rw [nI_eqN (by omega) (by omega)]; exact e), u1, b2s]
      · refine ⟨.inl (m1, h1), ?_, B.ob, vt_val (G := FX10_zeros (a + 103) (nI k)) (g := gFX10_zeros (nI k)) (M' := T) (fun h S => eFX10_zeros) O1 M1 ?_ t0 C1 RT⟩
        · rw [cls, if_neg (by rw [nI_eqN (by omega) (by omega)]; exact z)]
        · rw [ref, if_pos (by rw [decide_eq_false z, bI_0])]
  · have ho' : outB x 2 = true := by simpa using ho
    refine ⟨.inr ("java/lang/IllegalArgumentException", h), ?_, B.ob, vt_thr (G := FX10_zeros (a + 103) x) (g := gFX10_zeros x) (M' := gpi M 0 (nI 1)) (v := nI 0) (k := 1) (fun h S => eFX10_zeros) O HM rfl cd1 (by omega) (by omega) ?_ (by rw [gpi_1, upd_s]) C R.t0⟩
    · unfold FX9_zeros
      rw [n2, q_isOutside, p_out, gx_bs, ho', if_neg (by rw [bF]; decide)]
    · unfold gFX10_zeros gBX10_zeros_15
      rw [n0, n2, m_in, gx_bs, ho', if_pos (by rw [bI_0]; rfl), gx_bs, gx_bs, n1, gpi_1, upd_s, if_neg (by rw [nI_leN (by omega) (by omega)]; omega)]
theorem o_zero : St_zero (INV a m o) a m o := by
  rintro h x y ⟨rfl, rfl, O, M, c, d, U, V, cnt, L, b, e1, e2, res, HM, C, R⟩
  obtain ⟨⟨B, sz⟩, ⟨⟨S, HS, sS⟩, ok⟩, -, -, -, -, D, -⟩ := id C
  have pb := prs_b c.1 ok.1
  have l := Lm_len ok.2.1
  have dl := difC_lt ok
  have zle := zl_le ok
  obtain ⟨h1, ds, f1, f2, f3, C1, Z1, hd, f7, HS1⟩ := c_find C HS sS
  obtain ⟨T, t1, t2⟩ := m_laysZeros R.1 ok.2.1 (by omega) (by omega) ok.2.2.1
  have RT : REF T c d U V cnt L b e1 e2 res := R.zr t2
  have O1 : OUT h1 (a + 128) := O.keep fun x _ _ => f3 x (by omega)
  have M1 : bH mK h1 (a + 103) M := mkeep HM fun x _ _ => f3 x (by omega)
  have B1 : BB h1 a := C1.B
  have num : FX8_number (a + 68) h = some (nI (zl c).length, h1) := by
    unfold FX8_number
    rw [D.zo, gx_bs, f1, gx_bs, Z1.len, gx_bs]
  have ref0 : gFX10_zero x y M = if bI (decide (0 < (zl c).length) && !outB x ((zl c).length - 1)) = nI 0 then gBX10_zero_37 x y (nI 1) T else if bI (!outB y 2) = nI 0 then gBX10_zero_37 x y (nI 2) T else gBX10_zero_37 x y (nI 0) T := by
    have e34 : T.1 34 = nI (zl c).length := t2.1
    unfold gFX10_zero
    rw [n0, n1, n2, t1, gx_bs, gx_bs, e34, m_inL (by omega), gx_bs, m_in, gx_bs]
  by_cases hx : (decide (0 < (zl c).length) && !outB x ((zl c).length - 1)) = true
  · have h0 : 0 < (zl c).length := by
      have z := hx
      rw [Bool.and_eq_true, decide_eq_true_eq] at z
      exact z.1
    have hx' : outB x ((zl c).length - 1) = false := by
      have z := hx
      rw [Bool.and_eq_true, Bool.not_eq_true'] at z
      exact z.2
    rw [hx, if_neg (by rw [bI_0]; decide)] at ref0
    obtain ⟨k, hk, rfl⟩ := outB_f (by omega) hx'
    have hk' : k < (zl c).length := by omega
    have cls : FX9_zero a (nI k) y h = (FX9_isOutside y (nI 2) h1).bind fun x5 => if x5 = nI 0 then (if y = nI 2 then (hgr h1 a 9 7).bind fun x13 => (isO h1 x13 6).bind fun _ => bind2 (FX6_differences x13 h1) fun x15 h16 => if x15 = nI 0 then (hgr h16 a 9 8).bind fun x17 => (isO h16 x17 8).bind fun _ => bind2 (FX8_multiplicityOf x17 (nI k) h16) fun x19 h20 => some (.inl (x19, h20)) else some (.inl (m1, h16)) else if y = nI 0 then (hgr h1 a 9 8).bind fun x9 => (hgr h1 x9 8 5).bind fun x10 => (hal h1 .int x10 (nI k)).bind fun x11 => some (.inl (x11, h1)) else (hgr h1 a 9 8).bind fun x6 => (hgr h1 x6 8 6).bind fun x7 => (hal h1 .int x7 (nI k)).bind fun x8 => some (.inl (x8, h1))) else some (.inr ("java/lang/IllegalArgumentException", h1)) := by
      unfold FX9_zero
      rw [n0, n1, nm1, n2, if_neg (by rw [nI_lt0 (by omega)]; exact id), B.g8, gx_bs, D.zo, gx_bs, num, b2s, if_pos (by rw [nI_ltN (by omega) (by omega)]; exact hk')]
    by_cases hy : outB y 2 = false
    · obtain ⟨j, hj, rfl⟩ := outB_f (by omega) hy
      rw [hy, if_neg (by rw [bI_0]; decide)] at ref0
      rw [q_isOutside, p_out, gx_bs, hy, if_pos (by rw [bI_0])] at cls
      have v22 : T.2 22 k = nI (mx (zl c) k) := (t2.2.1 k hk').1
      have v23 : T.2 23 k = nI (my (zl c) k) := (t2.2.1 k hk').2
      have ref : gFX10_zero (nI k) (nI j) M = if nI j = nI 0 then some (nI (mx (zl c) k), gpi T 0 (nI 0)) else if nI j = nI 1 then some (nI (my (zl c) k), gpi T 0 (nI 0)) else bind2 (gFX10_areFriends (gpi T 0 (nI 0))) fun x4 h5 => if x4 = nI 0 then some (m1, h5) else (gal mK h5 22 (nI k)).bind fun x7 => (gal mK h5 23 (nI k)).bind fun x9 => bind2 (gFX10_times x7 x9 h5) fun x11 h12 => some (x11, h12) := by
        rw [ref0]
        unfold gBX10_zero_37
        rw [n0, n1, nm1, gx_bs, gx_bs, gpi_1, upd_s, if_pos (by rw [nI_leN (by omega) (by omega)]; omega), mK_a22 (by omega), gx_bs, gal_ok (N := 9409) L23 (show k < 9409 by omega) (by omega), gx_bs, gpi_2, v22, v23]
      by_cases e2' : j = 2
      · subst e2'
        rw [if_pos rfl] at cls
        obtain ⟨h2, w1, w2, w3⟩ := h_dif C1.D HS1 sS ok
        have C2 := C1.tc w2 w3
        have B2 : BB h2 a := C2.B
        have HS2 : bH sK h2 (a + 1) S := HS1.ex w2 (by show a + 1 + 8 < a + 35 ∨ _; omega)
        have Z2 : ZFc h2 a c ds := ZF.same Z1 fun x x1 x2 => w2.2 x (by omega)
        obtain ⟨T2, u1, u2⟩ := m_friends (S := gpi T 0 (nI 0)) (by rw [gpi_2]; exact RT.1) ok
        have RT2 : REF T2 c d U V cnt L b e1 e2 res := RT.on u2 fun b hb => by omega
        have t0 : T2.1 0 = nI 0 := by rw [u2.1, gpi_1, upd_s]
        have O2 : OUT h2 (a + 128) := O1.keep fun x _ _ => w2.2 x (by omega)
        have M2 : bH mK h2 (a + 103) M := mkeep M1 fun x _ _ => w2.2 x (by omega)
        rw [B1.g7, gx_bs, C1.D.tob, gx_bs, w1, b2s] at cls
        rw [if_neg (by rw [nI_eqN (by omega) (by omega)]; omega), if_neg (by rw [nI_eqN (by omega) (by omega)]; omega), u1, b2s] at ref
        by_cases z : difC c = 0
        · obtain ⟨h3, y1, y2, y3, y4⟩ := h_mult w3 HS2 sS ok.2.1 ok.1 ok.2.2.1 (by omega) (by omega) Z2 hk'
          have pl := zl_at hk'
          obtain ⟨T3, r1, r2, r3⟩ := m_times2 (S := T2) RT2.1 ok.2.1 ok.1 ok.2.2.1 pl.1 pl.2
          have s : scr T2 T3 := ⟨by rw [r2 0 (by decide) (by decide)]; exact t0, fun q _ q28 q29 _ => r2 q q28 q29, fun j hj => r3 j (by omega)⟩
          refine ⟨.inl (nI (zMu c.2.1 c.2.2.1 c.1 ((zl c).getD k (0, 0))), h3), ?_, B.ob, vt_val (G := FX10_zero (a + 103) (nI k) (nI 2)) (g := gFX10_zero (nI k) (nI 2)) (M' := T3) (fun h S => eFX10_zero) (O2.keep fun x _ _ => y2.2 x (by omega) (by omega) (by omega)) (mkeep M2 fun x _ _ => y2.2 x (by omega) (by omega) (by omega)) ?_ s.1 (C2.zm y2 y3 y4 hd) (RT2.scr s)⟩
          · rw [cls, if_pos (by rw [z]), B2.g8, gx_bs, C2.D.zo, gx_bs, y1, b2s]
          · rw [ref, if_neg (by rw [decide_eq_true z, bI_0]; decide), mK_a22 (by omega), gx_bs, gal_ok (N := 9409) L23 (show k < 9409 by omega) (by omega), gx_bs, u2.2 22 (by decide), u2.2 23 (by decide), gpi_2, v22, v23, r1, b2s]
            rfl
        · refine ⟨.inl (m1, h2), ?_, B.ob, vt_val (G := FX10_zero (a + 103) (nI k) (nI 2)) (g := gFX10_zero (nI k) (nI 2)) (M' := T2) (fun h S => eFX10_zero) O2 M2 ?_ t0 C2 RT2⟩
          · rw [cls, if_neg (by rw [nI_eqN (by omega) (by omega)]; exact z)]
          · rw [ref, if_pos (by rw [decide_eq_false z, bI_0])]
      · obtain ⟨za, zb, zm, ZB1, rw2, -⟩ := id Z1
        have zo : ZO h1 (a + 68) (a + 1) (a + 35) (a + 32) _ _ _ := ZB1.1
        rw [if_neg (by rw [nI_eqN (by omega) (by omega)]; exact e2'), B1.g8, gx_bs, gx_bs, hgr_ob (x := a + 71) zo rfl, gx_bs, hal_ar ZB1.2.2.2.1 (by omega) (by omega), gx_bs, hgr_ob (x := a + 72) zo rfl, gx_bs, hal_ar ZB1.2.2.2.2.1 (by omega) (by omega), gx_bs, (rw2 k hk').1, (rw2 k hk').2] at cls
        refine ⟨.inl (if j = 0 then nI (mx (zl c) k) else nI (my (zl c) k), h1), ?_, B.ob, vt_val (G := FX10_zero (a + 103) (nI k) (nI j)) (g := gFX10_zero (nI k) (nI j)) (M' := gpi T 0 (nI 0)) (fun h S => eFX10_zero) O1 M1 ?_ (by rw [gpi_1, upd_s]) C1 RT.t0⟩
        · rw [cls]
          by_cases e0 : j = 0
          · rw [if_pos (by rw [e0]), if_pos e0]
          · rw [if_neg (by rw [nI_eqN (by omega) (by omega)]; exact e0), if_neg e0]
        · rw [ref]
          by_cases e0 : j = 0
          · rw [if_pos (by rw [e0]), if_pos e0]
          · rw [if_neg (by rw [nI_eqN (by omega) (by omega)]; exact e0), if_neg e0, if_pos (by rw [show j = 1 by omega])]
    · have hy' : outB y 2 = true := by simpa using hy
      refine ⟨.inr ("java/lang/IllegalArgumentException", h1), ?_, B.ob, vt_thr (G := FX10_zero (a + 103) (nI k) y) (g := gFX10_zero (nI k) y) (M' := gpi T 0 (nI 2)) (v := nI 0) (k := 2) (fun h S => eFX10_zero) O1 M1 (Or.inr rfl) (cd2 (by decide)) (by omega) (by omega) ?_ (by rw [gpi_1, upd_s]) C1 RT.t0⟩
      · rw [cls, q_isOutside, p_out, gx_bs, hy', if_neg (by rw [bI_0]; decide)]
      · rw [ref0, hy', if_pos (by rw [bI_0]; rfl)]
        unfold gBX10_zero_37
        rw [n0, gx_bs, gx_bs, gpi_1, upd_s, if_neg (by rw [nI_leN (by omega) (by omega)]; omega)]
  · have hf : (decide (0 < (zl c).length) && !outB x ((zl c).length - 1)) = false := by simpa using hx
    have ref : gFX10_zero x y M = some (nI 0, gpi T 0 (nI 1)) := by
      rw [ref0, hf, if_pos (by rw [bI_0])]
      unfold gBX10_zero_37
      rw [n0, gx_bs, gx_bs, gpi_1, upd_s, if_neg (by rw [nI_leN (by omega) (by omega)]; omega)]
    rcases i_cases x with hn | ⟨k, hk, rfl⟩
    · refine ⟨.inr ("java/lang/IndexOutOfBoundsException", h), ?_, B.ob, vt_thr (G := FX10_zero (a + 103) x y) (g := gFX10_zero x y) (M' := gpi T 0 (nI 1)) (v := nI 0) (k := 1) (fun h S => eFX10_zero) O HM (Or.inl rfl) cd1 (by omega) (by omega) ref (by rw [gpi_1, upd_s]) C RT.t0⟩
      unfold FX9_zero BX9_zero_15
      rw [n0, if_pos hn]
    · have bad : ¬ k < (zl c).length := fun z => by
        apply hx
        rw [decide_eq_true (by omega), Bool.true_and, outB_k hk (by omega), decide_eq_false (by omega)]
        rfl
      refine ⟨.inr ("java/lang/IndexOutOfBoundsException", h1), ?_, B.ob, vt_thr (G := FX10_zero (a + 103) (nI k) y) (g := gFX10_zero (nI k) y) (M' := gpi T 0 (nI 1)) (v := nI 0) (k := 1) (fun h S => eFX10_zero) O1 M1 (Or.inl rfl) cd1 (by omega) (by omega) ref (by rw [gpi_1, upd_s]) C1 RT.t0⟩
      unfold FX9_zero BX9_zero_15
      rw [n0, if_neg (by rw [nI_lt0 hk]; exact id), B.g8, gx_bs, D.zo, gx_bs, num, b2s, if_neg (by rw [nI_ltN (by omega) (by omega)]; exact bad)]
theorem o_multiplicity : St_multiplicity (INV a m o) a m o := by
  rintro h x y ⟨rfl, rfl, O, M, c, d, U, V, cnt, L, b, e1, e2, res, HM, C, R⟩
  obtain ⟨⟨B, sz⟩, ⟨⟨S, HS, sS⟩, ok⟩, -, -, -, -, D, -⟩ := id C
  have pb := prs_b c.1 ok.1
  have l := Lm_len ok.2.1
  have dl := difC_lt ok
  have zle := zl_le ok
  have gp : hgi h (a + 1) 5 0 = some (nI c.1) := by rw [← sS.1]; exact HS.i0
  by_cases hxy : (outB x (c.1 - 1) || outB y (c.1 - 1)) = true
  · refine ⟨.inr ("java/lang/IllegalArgumentException", h), ?_, B.ob, vt_thr (G := FX10_multiplicity (a + 103) x y) (g := gFX10_multiplicity x y) (M' := gpi M 0 (nI 1)) (v := nI 0) (k := 1) (fun h S => eFX10_multiplicity) O HM rfl cd1 (by omega) (by omega) ?_ (by rw [gpi_1, upd_s]) C R.t0⟩
    · unfold FX9_multiplicity BX9_multiplicity_32
      rw [n1, B.g0, gx_bs, gp, gx_bs, nI_sub (by omega), q_isOutside, p_out, gx_bs]
      cases hx : outB x (c.1 - 1) with
      | true => rw [if_neg (by rw [bF]; decide)]
      | false =>
        rw [hx, Bool.false_or] at hxy
        rw [if_pos (by rw [bF]), gx_bs, gp, gx_bs, nI_sub (by omega), q_isOutside, p_out, gx_bs, hxy, if_neg (by rw [bF]; decide)]
    · unfold gFX10_multiplicity gBX10_multiplicity_21 gBX10_multiplicity_22
      rw [m_isNum R.1.1 (by omega), gx_bs, n0]
      cases hx : outB x (c.1 - 1) with
      | true => rw [if_pos (by rw [bI_0]; rfl), gx_bs, gx_bs, n1, gpi_1, upd_s, if_neg (by rw [nI_leN (by omega) (by omega)]; omega)]
      | false =>
        rw [hx, Bool.false_or] at hxy
        rw [if_neg (by rw [bI_0]; decide), m_isNum R.1.1 (by omega), gx_bs, hxy, if_pos (by rw [bI_0]; rfl), gx_bs, gx_bs, n1, gpi_1, upd_s, if_neg (by rw [nI_leN (by omega) (by omega)]; omega)]
  · have hx : outB x (c.1 - 1) = false := by cases hq : outB x (c.1 - 1) with | false => rfl | true => rw [hq] at hxy; exact absurd rfl hxy
    have hy : outB y (c.1 - 1) = false := by cases hq : outB y (c.1 - 1) with | false => rfl | true => rw [hq, Bool.or_true] at hxy; exact absurd rfl hxy
    obtain ⟨i, hi, rfl⟩ := outB_f (by omega) hx
    obtain ⟨j, hj, rfl⟩ := outB_f (by omega) hy
    obtain ⟨h1, k1, k2, k3⟩ := h_dif D HS sS ok
    have C1 := C.tc k2 k3
    have HS1 : bH sK h1 (a + 1) S := HS.ex k2 (by show a + 1 + 8 < a + 35 ∨ _; omega)
    have B1 : BB h1 a := C1.B
    have R0 : RCc ((gpi M 0 (nI 0)).2 1) c := by rw [gpi_2]; exact R.1
    obtain ⟨T, t1, t2⟩ := m_friends R0 ok
    have RT : REF T c d U V cnt L b e1 e2 res := R.on t2 fun b hb => by omega
    have t0 : T.1 0 = nI 0 := by rw [t2.1, gpi_1, upd_s]
    have O1 : OUT h1 (a + 128) := O.keep fun x _ _ => k2.2 x (by omega)
    have M1 : bH mK h1 (a + 103) M := mkeep HM fun x _ _ => k2.2 x (by omega)
    have cls : FX9_multiplicity a (nI i) (nI j) h = if nI (difC c) = nI 0 then bind2 (FX8_indexOf (a + 68) (nI i) (nI j) h1) fun x13 h14 => if x13 = m1 then some (.inl (nI 0, h14)) else (hgr h14 a 9 8).bind fun x15 => (isO h14 x15 8).bind fun _ => bind2 (FX8_multiplicityOf x15 x13 h14) fun x17 h18 => some (.inl (x17, h18)) else some (.inl (m1, h1)) := by
      unfold FX9_multiplicity
      rw [n0, n1, nm1, B.g0, gx_bs, gp, gx_bs, nI_sub (by omega), q_isOutside, p_out, gx_bs, hx, if_pos (by rw [bI_0]), gx_bs, gp, gx_bs, nI_sub (by omega), q_isOutside, p_out, gx_bs, hy, if_pos (by rw [bI_0]), B.g7, gx_bs, D.tob, gx_bs, k1, b2s, B1.g8, gx_bs, C1.D.zo, gx_bs]
    have ref : gFX10_multiplicity (nI i) (nI j) M = if bI (decide (difC c = 0)) = nI 0 then some (m1, T) else bind2 (gFX10_times (nI i) (nI j) T) fun x7 h8 => some (x7, h8) := by
      unfold gFX10_multiplicity gBX10_multiplicity_22
      rw [n0, n1, nm1, m_isNum R.1.1 (by omega), gx_bs, hx, if_neg (by rw [bI_0]; decide), m_isNum R.1.1 (by omega), gx_bs, hy, if_neg (by rw [bI_0]; decide), gx_bs, gx_bs, gpi_1, upd_s, if_pos (by rw [nI_leN (by omega) (by omega)]; omega), t1, b2s]
    by_cases z : difC c = 0
    · obtain ⟨h2, ds, f1, f2, f3, C2, Z2, hd, f7, HS2⟩ := c_find C1 HS1 sS
      have B2 : BB h2 a := C2.B
      have O2 : OUT h2 (a + 128) := O1.keep fun x _ _ => f3 x (by omega)
      have M2 : bH mK h2 (a + 103) M := mkeep M1 fun x _ _ => f3 x (by omega)
      have il := h_indexLoop Z2 ok.2.1 ok.1 (a := i) (b := j) (by omega) (by omega)
      obtain ⟨T3, r1, r2, r3⟩ := m_times2 (S := T) RT.1 ok.2.1 ok.1 ok.2.2.1 (a := i) (b := j) (by omega) (by omega)
      have s : scr T T3 := ⟨by rw [r2 0 (by decide) (by decide)]; exact t0, fun q _ q28 q29 _ => r2 q q28 q29, fun j hj => r3 j (by omega)⟩
      have ix : FX8_indexOf (a + 68) (nI i) (nI j) h1 = some (ixI (zl c) (i, j), h2) := by
        unfold FX8_indexOf
        rw [C1.D.zo, gx_bs, f1, gx_bs, n0]
        exact il
      rw [if_pos (by rw [z]), ix, b2s] at cls
      rw [if_neg (by rw [decide_eq_true z, bI_0]; decide), r1, b2s] at ref
      by_cases hm : (i, j) ∈ zl c
      · have hk' := List.idxOf_lt_length_of_mem hm
        obtain ⟨h3, y1, y2, y3, y4⟩ := h_mult (f7 k3) HS2 sS ok.2.1 ok.1 ok.2.2.1 (by omega) (by omega) Z2 hk'
        rw [ixI_mem hm, if_neg (by rw [nI_ne_m1 (by omega)]; exact id), B2.g8, gx_bs, C2.D.zo, gx_bs, y1, b2s, getD_idx hm] at cls
        exact ⟨.inl (nI (zMu c.2.1 c.2.2.1 c.1 (i, j)), h3), cls, B.ob, vt_val (G := FX10_multiplicity (a + 103) (nI i) (nI j)) (g := gFX10_multiplicity (nI i) (nI j)) (M' := T3) (fun h S => eFX10_multiplicity) (O2.keep fun x _ _ => y2.2 x (by omega) (by omega) (by omega)) (mkeep M2 fun x _ _ => y2.2 x (by omega) (by omega) (by omega)) ref s.1 (C2.zm y2 y3 y4 hd) (RT.scr s)⟩
      · have zf : zF c.2.1 c.2.2.1 c.1 i j = false := by
          cases e : zF c.2.1 c.2.2.1 c.1 i j with
          | false => rfl
          | true => exact absurd (mem_zAll.mpr ⟨⟨by show i < c.1; omega, by show j < c.1; omega⟩, e⟩) hm
        have oz : zRk c.2.1 c.2.2.1 c.1 i j = (Lm c.2.1).length := off_zero ok.2.1 ok.1 (cm_of z) (by omega) (by omega) zf
        have zz : zMu c.2.1 c.2.2.1 c.1 (i, j) = 0 := by
          unfold zMu
          dsimp only
          omega
        have e : ixI (zl c) (i, j) = m1 := if_neg hm
        rw [e, if_pos rfl] at cls
        rw [zz] at ref
        exact ⟨.inl (nI 0, h2), cls, B.ob, vt_val (G := FX10_multiplicity (a + 103) (nI i) (nI j)) (g := gFX10_multiplicity (nI i) (nI j)) (M' := T3) (fun h S => eFX10_multiplicity) O2 M2 ref s.1 C2 (RT.scr s)⟩
    · refine ⟨.inl (m1, h1), ?_, B.ob, vt_val (G := FX10_multiplicity (a + 103) (nI i) (nI j)) (g := gFX10_multiplicity (nI i) (nI j)) (M' := T) (fun h S => eFX10_multiplicity) O1 M1 ?_ t0 C1 RT⟩
      · rw [cls, if_neg (by rw [nI_eqN (by omega) (by omega)]; exact z)]
      · rw [ref, if_pos (by rw [decide_eq_false z, bI_0])]
end
