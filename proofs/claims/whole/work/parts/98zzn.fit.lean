/-! calls: fit, misfits -/
def fitC (c : Cf) : Cf := (c.1, fitH c.1 c.2.2.2, fitR c.1 c.2.2.2, c.2.2.2)
theorem okC.fit {c : Cf} (o : okC c) (h1 : 1 ≤ c.2.2.2.length) : okC (fitC c) := by
  obtain ⟨w, -, -, e⟩ := fit_all o.1 o.2.2.2 h1
  refine ⟨o.1, w, fun b k hb hk => ?_, o.2.2.2⟩
  have hb : b < (Lb (fitH c.1 c.2.2.2)).length := hb
  have hk : k < (Lm (fitH c.1 c.2.2.2)).length := hk
  have bd := (fit_RD (pts := c.2.2.2) o.1).1.1
  have dg := deg_b w (Lb_mem hb)
  refine bd k _ (by omega) ?_
  show tri (mx (Lb (fitH c.1 c.2.2.2)) b + my (Lb (fitH c.1 c.2.2.2)) b) + my (Lb (fitH c.1 c.2.2.2)) b < tri (c.2.2.2.length + 1)
  exact tri_lt (by omega) (by omega)
section
variable {h h' : jx_H} {a : Nat} {c c' : Cf} {d : Nat} {U : Nat → Cf} {V : Nat → Option Cf} {cnt : Nat → Int32} {L : Nat} {b : Nat → Nat} {e1 e2 : Int32} {res : Nat → Int32} {M T : MS}
theorem c_fit {S : MS} (C : CLS h a c d U V cnt L b e1 e2 res) (h1 : 1 ≤ c.2.2.2.length) (HS : bH sK h (a + 1) S) (sS : STc S c) : ∃ h' T, FX0_fitPoints (a + 84) (a + 1) (a + 19) h = some h' ∧ CLS h' a c d U V cnt L b e1 e2 res ∧ (∀ x, (x < a + 19 ∨ a + 87 < x) → h'.2 x = h.2 x) ∧ (∀ c', DER h a c' → DER h' a c') ∧ bH sK h' (a + 19) T ∧ STc T (fitC c) ∧ bH sK h' (a + 1) S ∧ isO h (a + 84) 0 = some () := by
  have Cc := C
  obtain ⟨⟨B, sz⟩, ⟨⟨S0, HS0, hS0⟩, ok⟩, ⟨⟨S1, H1⟩, S2, H2⟩, hd, DY, ec, D, ⟨F, G⟩, P, er, g, eg⟩ := C
  obtain ⟨ds, ft, -, -, HP, -⟩ := id D
  obtain ⟨h', T, k1, k2, k3, k4, k5, k6, k7⟩ := h_fitPoints F HP HS sS ok.2.1 ok.1 ok.2.2.2 h1 G H2 (by omega) (by omega) (by omega)
  have kc : ∀ x, (x < a + 19 ∨ (a + 27 < x ∧ x < a + 32) ∨ (a + 34 < x ∧ x < a + 85) ∨ a + 87 < x) → h'.2 x = h.2 x := fun x hx => k3 x (by omega) (by omega) (by omega)
  have up : ∀ {q : Nat} {S : MS}, q + 8 < a + 19 → bH sK h q S → bH sK h' q S := fun {q} _ hq H => H.same fun x x1 x2 => by
    have x2 : x ≤ q + 8 := x2
    exact kc x (by omega)
  have D' : ∀ c', DER h a c' → DER h' a c' := fun c' D => D.sp (fun x hx => kc x (by omega)) (by omega) k4
  refine ⟨h', T, k1, ⟨⟨B.fr (kc a (by omega)), by omega⟩, ⟨⟨S0, up (by omega) HS0, hS0⟩, ok⟩, ⟨⟨S1, up (by omega) H1⟩, T, k6⟩, hd, DY.fr (fun x hx => kc x (by omega)) (by omega), by rw [kc _ (by omega)]; exact ec, D' c D, ⟨by show _ = _; rw [kc _ (by omega)]; exact F, k5⟩, P.fr (fun x hx => kc x (by omega)), by rw [kc _ (by omega)]; exact er, g, by rw [kc _ (by omega)]; exact eg⟩, fun x hx => kc x (by omega), D', k6, k7, up (by omega) HS, isO_ob F⟩
theorem REF.r1 (R : REF M c d U V cnt L b e1 e2 res) (i : T.1 = upd M.1 0 (nI 0)) (H : RCc (T.2 1) c') (eo : ∀ b, b = 4 ∨ b = 5 ∨ b = 6 ∨ b = 7 ∨ b = 8 ∨ b = 9 ∨ b = 18 → T.2 b = M.2 b) : REF T c' d U V cnt L b e1 e2 res := by
  obtain ⟨x1, ⟨x2, x3⟩, ⟨x4, x5⟩, x6, ⟨x7, x8⟩, ⟨x9, x10⟩, x11⟩ := R
  exact ⟨H, ⟨by rw [i, upd_o (by decide)]; exact x2, by rw [eo 4 (by omega)]; exact x3⟩, ⟨by rw [eo 6 (by omega)]; exact x4, by rw [eo 6 (by omega), eo 5 (by omega)]; exact x5⟩, by rw [eo 7 (by omega)]; exact x6, ⟨⟨x7.1, by rw [i, upd_o (by decide)]; exact x7.2.1, by rw [eo 8 (by omega)]; exact x7.2.2⟩, by unfold WD; rw [eo 9 (by omega)]; exact x8⟩, ⟨by rw [i, upd_o (by decide)]; exact x9, by rw [i, upd_o (by decide)]; exact x10⟩, by rw [eo 18 (by omega)]; exact x11⟩
end
section
variable {a m o : Nat}
theorem o_fit : St_fit (INV a m o) a m o := by
  rintro h ⟨rfl, rfl, O, M, c, d, U, V, cnt, L, b, e1, e2, res, HM, C, R⟩
  obtain ⟨⟨B, sz⟩, ⟨⟨S, HS, sS⟩, ok⟩, -, ⟨h8, oU⟩, -⟩ := id C
  have w := ok.2.1
  have lp := ok.2.2.2.1
  have g9 : hgi h (a + 1) 5 9 = some (nI c.2.2.2.length) := by rw [← sS.2.2.2.2.1]; exact HS.i9
  have r3 : gal mK M 1 (nI 3) = some (nI c.2.2.2.length) := by rw [mK_a1 (by omega), R.1.2.2.2.1]
  by_cases h0 : c.2.2.2.length = 0
  · refine ⟨.inr ("java/lang/IllegalStateException", h), ?_, B.ob, vt_thr (G := FX10_fit (a + 103)) (g := gFX10_fit) (M' := gpi M 0 (nI 1)) (v := nI 0) (k := 1) (fun h S => eFX10_fit) O HM rfl cd1 (by omega) (by omega) ?_ (by rw [gpi_1, upd_s]) C R.t0⟩
    · unfold FX9_fit
      rw [n0, B.g0, gx_bs, g9, gx_bs, if_pos (by rw [h0])]
    · unfold gFX10_fit gBX10_fit_15
      rw [n0, n3, r3, gx_bs, if_pos (by rw [h0]), gx_bs, gpi_1, n1, upd_s, gx_bs, if_neg (by rw [nI_leN (by omega) (by omega)]; omega)]
  · have h1 : 1 ≤ c.2.2.2.length := by omega
    have of := ok.fit h1
    obtain ⟨h2, k1, C2, D2, k4⟩ := c_begin C (k := 5) (by omega)
    have B2 : BB h2 a := C2.B
    obtain ⟨S2, HS2, sS2⟩ := C2.2.1.1
    obtain ⟨h3, T, w1, C3, w3, w4, HT, sT, HS3, o84⟩ := c_fit C2 h1 HS2 sS2
    have B3 : BB h3 a := C3.B
    have cp := s_copyFrom HT HS3 (Or.inr (by show a + 1 + 8 < a + 19; omega))
    have C4 := C3.st (w4 _ (D2 (fitC c))) (sT.cp (T := S2) of) of
    have B4 : BB (bput sK h3 (a + 1) (cpS S2 T)) a := C4.B
    have g2 : hgi (bput sK h3 (a + 1) (cpS S2 T)) (a + 1) 5 2 = some (nI (Lm (fitH c.1 c.2.2.2)).length) := by
      have e : (cpS S2 T).1 2 = nI (Lm (fitH c.1 c.2.2.2)).length := (sT.cp (T := S2) of).2.2.1.1
      rw [← e]
      exact bH.i2 bH.put
    obtain ⟨T0, u, p1, p2, p3, p4, p5, p6, p7, p8, p9⟩ := m_keep R h8 (k := 5) (by omega)
    obtain ⟨T1, j1, j2, j3, j4⟩ := m_fits (S := T0) ok.1 ok.2.2.2 h1 (by rw [p3]; exact R.1)
    refine ⟨.inl (nI (Lm (fitH c.1 c.2.2.2)).length, bput sK h3 (a + 1) (cpS S2 T)), ?_, B.ob, vt_val (G := FX10_fit (a + 103)) (g := gFX10_fit) (M' := T1) (fun h S => eFX10_fit) (O.keep fun x x1 x2 => by rw [bp_else (by show x < a + 1 ∨ a + 1 + 8 < x; omega), w3 x (by omega), k4 x x1 x2]) (mkeep HM fun x x1 x2 => by rw [bp_else (by show x < a + 1 ∨ a + 1 + 8 < x; omega), w3 x (by omega), k4 x x1 x2]) ?_ (by rw [j3, p2, upd_o (by decide), upd_s]) C4 (R.chg ok h8 oU (by omega) (by rw [j3]; exact p2) j2 (by rw [j4 4 (by omega) (by omega) (by omega) (by omega) (by omega)]; exact p4) (by rw [j4 7 (by omega) (by omega) (by omega) (by omega) (by omega)]; exact p5) (fun b hb => by rw [j4 b (by omega) (by omega) (by omega) (by omega) (by omega)]; exact p6 b (by omega) (by omega)) p7 p8 p9)⟩
    · unfold FX9_fit
      rw [n0, n5, B.g0, gx_bs, g9, gx_bs, if_neg (by rw [nI_eqN (by omega) (by omega)]; exact h0), B.ob, gx_bs, k1, gx_bs, B2.g9, gx_bs, B2.g0, gx_bs, B2.g2, gx_bs, o84, gx_bs, w1, gx_bs, B3.g0, gx_bs, B3.g2, gx_bs, HS3.o5, gx_bs, cp, gx_bs, B4.g0, gx_bs, g2, gx_bs]
    · unfold gFX10_fit gBX10_fit_15
      rw [n0, n3, r3, gx_bs, if_neg (by rw [nI_eqN (by omega) (by omega)]; exact h0), gx_bs, gpi_1, upd_s, gx_bs, if_pos (by rw [nI_leN (by omega) (by omega)]; omega), n5, p1, gx_bs, j1, gx_bs, g_n j2.2.1, gx_bs]
end
/-! misfits: one order ideal, other rules -/
def eqF (f g : Nat → Nat) : Nat → Bool
  | 0 => true
  | k + 1 => eqF f g k && decide (f k = g k)
theorem eqF_i {f g : Nat → Nat} : ∀ {n}, eqF f g n = true ↔ ∀ i, i < n → f i = g i
  | 0 => ⟨fun _ i hi => absurd hi (Nat.not_lt_zero _), fun _ => rfl⟩
  | n + 1 => by
    show (eqF f g n && decide (f n = g n)) = true ↔ _
    rw [Bool.and_eq_true, decide_eq_true_eq, eqF_i]
    constructor
    · rintro ⟨h1, h2⟩ i hi
      by_cases e : i = n
      · rw [e]; exact h2
      · exact h1 i (by omega)
    · intro h
      exact ⟨fun i hi => h i (by omega), h n (by omega)⟩
theorem eqF_f {f g : Nat → Nat} {n : Nat} (h : ¬ ∀ i, i < n → f i = g i) : eqF f g n = false := by
  cases e : eqF f g n with
  | false => rfl
  | true => exact absurd (eqF_i.mp e) h
def eqH (f g : Nat → Nat) : Bool := eqF f g 13
theorem eqH_t {f g : Nat → Nat} (w : wfh f) (w' : wfh g) (h : eqH f g = true) : f = g := by
  have k := eqF_i.mp h
  funext i
  by_cases e : i < 13
  · exact k i e
  · rw [w.2.2.2 i (by omega), w'.2.2.2 i (by omega)]
theorem h_sameI {h : jx_H} {q q' : Nat} {S S' : MS} {c c' : Cf} (HS : bH sK h q S) (HS' : bH sK h q' S') (sS : STc S c) (sS' : STc S' c') (w : wfh c.2.1) (w' : wfh c'.2.1) : FX5_hasSameIdeal q q' h = some (bI (eqH c.2.1 c'.2.1)) := by
  unfold FX5_hasSameIdeal
  rw [n0]
  refine itr_val 13 (fun k s => s = nI k ∧ ∀ i, i < k → c.2.1 i = c'.2.1 i) ⟨rfl, fun i hi => by omega⟩ ?_ ?_
  · rintro k s hk ⟨rfl, hq⟩
    have b1 := w.deg (i := k)
    have b2 := w'.deg (i := k)
    have e1 : S.2 1 k = nI (c.2.1 k) := sS.2.1 k hk
    have e2 : S'.2 1 k = nI (c'.2.1 k) := sS'.2.1 k hk
    unfold LX5_hasSameIdeal_2
    rw [n12, if_neg (by rw [nI_ltN (by omega) (by omega)]; omega), HS.r1, gx_bs, hal_ar HS.s1 (by omega) (by omega), gx_bs, HS'.r1, gx_bs, hal_ar HS'.s1 (by omega) (by omega), gx_bs, e1, e2]
    by_cases e : c.2.1 k = c'.2.1 k
    · left
      rw [if_pos (by rw [e]), n1, nI_add]
      refine ⟨_, rfl, rfl, fun i hi => ?_⟩
      by_cases z : i = k
      · rw [z]; exact e
      · exact hq i (by omega)
    · right
      have z : eqH c.2.1 c'.2.1 = false := eqF_f fun z => e (z k hk)
      rw [if_neg (by rw [nI_eqN (by omega) (by omega)]; exact e), z, n0]
      rfl
  · rintro s ⟨rfl, hq⟩
    have z : eqH c.2.1 c'.2.1 = true := eqF_i.mpr hq
    unfold LX5_hasSameIdeal_2
    rw [n12, if_pos (by rw [nI_ltN (by omega) (by omega)]; omega), z, n1]
    rfl
theorem getD_ext {A B : List (Nat × Nat)} (l : A.length = B.length) (h : ∀ i, i < A.length → A.getD i (0, 0) = B.getD i (0, 0)) : A = B := by
  refine List.ext_getElem l fun i h1 h2 => ?_
  have k := h i h1
  rw [List.getD_eq_getElem?_getD, List.getD_eq_getElem?_getD, List.getElem?_eq_getElem h1, List.getElem?_eq_getElem h2] at k
  exact k
/-- the reference compares two lists of monomials -/
theorem m_sameM {S : MS} {A B : List (Nat × Nat)} (H1 : NowM (S.2 1) A) (H2 : NowM (S.2 2) B) (lA : A.length ≤ 12) (lB : B.length ≤ 12) (sA : small A) (sB : small B) : gFX10_hasSameMonomials S = some (bI (decide (A = B))) := by
  unfold gFX10_hasSameMonomials gBX10_hasSameMonomials_20
  rw [n1, mK_a1 (by omega), gx_bs, gal_ok (N := 248) (show mK.2.2.2.1 2 = 248 from rfl) (by omega) (by omega), gx_bs, H1.1, H2.1]
  have zero : ∀ k, k ≤ A.length → itr (fun s : Int32 × Int32 => gLX10_hasSameMonomials_23 s.1 s.2 S) (nI 0, nI k) = some (nI 0) := by
    intro k hk
    refine itr_val (A.length - k) (fun j s => s = (nI 0, nI (k + j))) rfl ?_ ?_
    · rintro j s hj rfl
      left
      unfold gLX10_hasSameMonomials_23 gBX10_hasSameMonomials_81 gBX10_hasSameMonomials_82
      dsimp only
      rw [n1, mK_a1 (by omega), gx_bs, H1.1, if_neg (by rw [nI_leN (by omega) (by omega)]; omega), n0, if_pos rfl, nI_add]
      exact ⟨_, rfl, rfl⟩
    · rintro s rfl
      unfold gLX10_hasSameMonomials_23
      dsimp only
      rw [n1, mK_a1 (by omega), gx_bs, H1.1, if_pos (by rw [nI_leN (by omega) (by omega)]; omega), n0, if_pos (Or.inl rfl)]
      rfl
  by_cases e : A.length = B.length
  · rw [if_pos (by rw [e]), n0]
    refine itr_val A.length (fun k s => s = (bI (decide (∀ i, i < k → A.getD i (0, 0) = B.getD i (0, 0))), nI k)) ?_ ?_ ?_
    · rw [decide_eq_true fun i hi => absurd hi (Nat.not_lt_zero _)]
      rfl
    · rintro k s hk rfl
      left
      have a1 := H1.2 k hk
      have a2 := H2.2 k (by omega)
      have s1 := sA k
      have s2 := sB k
      unfold gLX10_hasSameMonomials_23 gBX10_hasSameMonomials_81 gBX10_hasSameMonomials_82
      dsimp only
      rw [n1, mK_a1 (by omega), gx_bs, H1.1, if_neg (by rw [nI_leN (by omega) (by omega)]; omega), n0, n4, n16, nI_add, nI_add, nI_add]
      refine ⟨_, ?_, rfl⟩
      by_cases z : ∀ i, i < k → A.getD i (0, 0) = B.getD i (0, 0)
      · rw [decide_eq_true z, if_neg (by rw [bI_0]; decide), mK_a1 (by omega), gx_bs, gal_ok (N := 248) (show mK.2.2.2.1 2 = 248 from rfl) (by omega) (by omega), gx_bs, a1.1, a2.1]
        have key : (∀ i, i < k + 1 → A.getD i (0, 0) = B.getD i (0, 0)) ↔ mx A k = mx B k ∧ my A k = my B k := by
          constructor
          · intro q
            have := q k (by omega)
            exact ⟨congrArg Prod.fst this, congrArg Prod.snd this⟩
          · rintro ⟨q1, q2⟩ i hi
            by_cases z2 : i = k
            · rw [z2]; exact Prod.ext q1 q2
            · exact z i (by omega)
        by_cases y1 : mx A k = mx B k
        · rw [if_pos (by rw [y1]), mK_a1 (by omega), gx_bs, gal_ok (N := 248) (show mK.2.2.2.1 2 = 248 from rfl) (by omega) (by omega), gx_bs, a1.2, a2.2]
          by_cases y2 : my A k = my B k
          · rw [if_pos (by rw [y2]), decide_eq_true (key.mpr ⟨y1, y2⟩)]
            rfl
          · rw [if_neg (by rw [nI_eqN (by omega) (by omega)]; exact y2), decide_eq_false fun q => y2 (key.mp q).2]
            rfl
        · rw [if_neg (by rw [nI_eqN (by omega) (by omega)]; exact y1), decide_eq_false fun q => y1 (key.mp q).1]
          rfl
      · rw [decide_eq_false z, if_pos bI_f, decide_eq_false fun q => z fun i hi => q i (by omega)]
        rfl
    · rintro s rfl
      unfold gLX10_hasSameMonomials_23
      dsimp only
      rw [n1, mK_a1 (by omega), gx_bs, H1.1, if_pos (by rw [nI_leN (by omega) (by omega)]; omega), ← n1, bI_01]
      by_cases z : ∀ i, i < A.length → A.getD i (0, 0) = B.getD i (0, 0)
      · rw [decide_eq_true z, decide_eq_true (getD_ext e z)]
        rfl
      · rw [decide_eq_false z, decide_eq_false fun q => z fun i _ => by rw [q]]
        rfl
  · rw [if_neg (by rw [nI_eqN (by omega) (by omega)]; exact e), n0, zero 0 (by omega), decide_eq_false fun q => e (by rw [q])]
    rfl
