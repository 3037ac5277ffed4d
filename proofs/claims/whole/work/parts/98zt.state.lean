/-! the parser: a statement and its semicolon, on both sides -/
section
variable {h : jx_H} {S : MS} {a L : Nat} {F : Nat → Int32} {b : Nat → Nat} {t : Tok} {c : Cf}
theorem end_OK {h' : jx_H} {S' : MS} (X : stOK h h' S S' a L b t) : isO h' (a + 90) 3 = some () ∧ ((∃ h'' S'', FX3_takeSymbol (a + 90) (59 : Int32) h' = some (nI 1, h'') ∧ gBX10_readStatement_149 S' = some S'' ∧ stOK h h'' S S'' a L b t) ∨ (∃ h'' S'', FX3_takeSymbol (a + 90) (59 : Int32) h' = some (nI 0, h'') ∧ gBX10_readStatement_149 S' = some S'' ∧ stER h h'' S S'' a L b)) := by
  obtain ⟨F', t', c', sc, sr, R, adv⟩ := X
  refine ⟨R.1.1.ob, ?_⟩
  rw [n59, show nI 59 = nI (cK 3) from rfl]
  by_cases e : t'.1 = 3
  · left
    obtain ⟨h2, S2, a1, a2, a3, a4, a5, a6⟩ := c_symOK R.1 (Or.inl rfl) e
    refine ⟨h2, S2, a1, ?_, F', _, c', sc.tr a2.s, sr.tr a4.s, R.t a2 a4 a5, ?_⟩
    · unfold gBX10_readStatement_149 gBX10_readStatement_163
      rw [gx_bs, R.1.2.2.2.2.2.1.1, e, n3, if_pos rfl, n1, m_must1, gx_bs, gx_bs, R.1.2.2.2.2.2.2.1, if_pos (by rw [n0]), a3, gx_bs]
    · have := lex_adv (b := b) (L := L) R.1.2.2.1.2.1
      have := R.1.2.2.1.1
      omega
  · right
    obtain ⟨h2, S2, a1, a2, a3, a4, a5⟩ := c_symNO R.1 (Or.inl rfl) e
    obtain ⟨F9, c9, p9, -, -, q1, q2, -, -, -, q3, -⟩ := id a5
    have k6 := R.1.2.2.1.2.2.1
    refine ⟨h2, S2, a1, ?_, sc.tr a2.s, sr.tr a4.s, a5, R.b.t a2⟩
    unfold gBX10_readStatement_149 gBX10_readStatement_163
    rw [gx_bs, R.1.2.2.2.2.2.1.1, n3, if_neg (by rw [nI_eqN (by omega) (by omega)]; exact e), n0, n1, a3, gx_bs, gx_bs, q3, if_neg (by rw [nI_eqN (by omega) (by omega)]; omega)]
theorem end_V {V : MS} {e : Nat} (he : V.1 15 = nI e) (h0 : 0 < e) (h5 : e ≤ 5) : gBX10_readStatement_149 V = some V := by
  have g : ∀ s, gBX10_readStatement_163 s V = some V := fun s => by
    unfold gBX10_readStatement_163
    rw [m_mustE he h0 h5, gx_bs, gx_bs, he, if_neg (by rw [n0, nI_eqN (by omega) (by omega)]; omega)]
  unfold gBX10_readStatement_149
  rw [gx_bs]
  split
  · exact g _
  · exact g _
theorem end_ER {h' : jx_H} {S' : MS} (X : stER h h' S S' a L b) : gBX10_readStatement_149 S' = some S' := by
  obtain ⟨F9, c9, p9, -, -, q1, q2, -, -, -, q3, -⟩ := id X.2.2.1
  exact end_V q3 (by omega) q2
theorem end_X {h' : jx_H} {S' S'' : MS} (e : S'.1 13 ≠ nI 3) (m : gFX10_must (nI 0) (nI 1) S' = some S'') (X : stER h h' S S'' a L b) : gBX10_readStatement_149 S' = some S'' := by
  obtain ⟨F9, c9, p9, -, -, q1, q2, -, -, -, q3, -⟩ := id X.2.2.1
  unfold gBX10_readStatement_149 gBX10_readStatement_163
  rw [gx_bs, n3, if_neg e, n0, n1, m, gx_bs, gx_bs, q3, if_neg (by rw [nI_eqN (by omega) (by omega)]; omega)]
/-- the reference, once an error stands, reads no further -/
theorem st79E {V : MS} {e : Nat} {l s : Int32} (he : V.1 15 = nI e) (h0 : 0 < e) (h5 : e ≤ 5) : gBX10_readStatement_79 l s V = some V := by
  unfold gBX10_readStatement_79
  rw [m_mustE he h0 h5, gx_bs, gx_bs, he, if_neg (by rw [n0, nI_leN (by omega) (by omega)]; omega)]
def stOut (h : jx_H) (S : MS) (a L : Nat) (b : Nat → Nat) (t : Tok) (fi : Bool) (l : Int32) : Prop :=
  (∃ h' S', BX3_readSetup_46 (a + 90) l (a + 90) (bI fi) h = some (.inl (nI 1, l + 1, h')) ∧ gFX10_readStatement (bI fi) S = some S' ∧ stOK h h' S S' a L b t) ∨ (∃ h' S', BX3_readSetup_46 (a + 90) l (a + 90) (bI fi) h = some (.inl (nI 0, l + 1, h')) ∧ gFX10_readStatement (bI fi) S = some S' ∧ stER h h' S S' a L b)
theorem both_stmt (R : SIM h S a F L b t c) (ht0' : t.1 ≠ 0) {fi : Bool} {l : Int32} (hfi : fi = true → c = (31, ht0, (fun _ _ => 0), [])) : stOut h S a L b t fi l := by
  obtain ⟨K, ⟨U, hU, sU⟩, ⟨W, hW⟩, rc, oc'⟩ := id R
  have w := oc'.2.1
  have lm := oc'.2.2.2.1
  have l12 := Lm_len w
  obtain ⟨T0, HT0, -, hN0⟩ := id K.2.1
  have wK := fun (v : Nat) (hv : v < 5) => K_word K hv
  have rW := R_word K
  -- what the class does, given the statement itself
  have fin : ∀ (CS : Option (Int32 × jx_H)) (RS : Option MS), FX3_readStatement (a + 90) (bI fi) h = CS → gFX10_readStatement (bI fi) S = RS.bind gBX10_readStatement_149 → ((∃ h' S', CS = some (nI 1, h') ∧ RS = some S' ∧ stOK h h' S S' a L b t) ∨ (∃ h' S', CS = some (nI 0, h') ∧ RS = some S' ∧ stER h h' S S' a L b) ∨ (∃ h' S' S'', CS = some (nI 0, h') ∧ RS = some S' ∧ S'.1 13 ≠ nI 3 ∧ gFX10_must (nI 0) (nI 1) S' = some S'' ∧ stER h h' S S'' a L b)) → stOut h S a L b t fi l := by
    intro CS RS e1 e2 e3
    unfold stOut
    rw [e2]
    have bs0 : ∀ h', CS = some (nI 0, h') → BX3_readSetup_46 (a + 90) l (a + 90) (bI fi) h = some (.inl (nI 0, l + 1, h')) := fun h' e => by
      unfold BX3_readSetup_46 BX3_readSetup_65 BX3_readSetup_66
      rw [K.1.ob, gx_bs, e1, e, b2s, if_pos (by rw [n0]), n0]
    rcases e3 with ⟨h', S', x1, x2, x3⟩ | ⟨h', S', x1, x2, x3⟩ | ⟨h', S', S'', x1, x2, x3, x4, x5⟩
    · obtain ⟨o1, o2⟩ := end_OK x3
      rw [x2, gx_bs]
      rcases o2 with ⟨h2, S2, y1, y2, y3⟩ | ⟨h2, S2, y1, y2, y3⟩
      · left
        refine ⟨h2, S2, ?_, y2, y3⟩
        unfold BX3_readSetup_46 BX3_readSetup_66
        rw [K.1.ob, gx_bs, e1, x1, b2s, if_neg (by rw [n0, nI_eqN (by omega) (by omega)]; omega), o1, gx_bs, y1, b2s, if_neg (by rw [n0, nI_eqN (by omega) (by omega)]; omega), n1]
      · right
        refine ⟨h2, S2, ?_, y2, y3⟩
        unfold BX3_readSetup_46 BX3_readSetup_65 BX3_readSetup_66
        rw [K.1.ob, gx_bs, e1, x1, b2s, if_neg (by rw [n0, nI_eqN (by omega) (by omega)]; omega), o1, gx_bs, y1, b2s, if_pos (by rw [n0]), n0]
    · right
      exact ⟨h', S', bs0 h' x1, by rw [x2, gx_bs]; exact end_ER x3, x3⟩
    · right
      exact ⟨h', S'', bs0 h' x1, by rw [x2, gx_bs]; exact end_X x3 x4 x5, x5⟩
  -- an error of both at the word
  have erb : ∀ cd, 1 ≤ cd → cd ≤ 5 → FX3_readStatement (a + 90) (bI fi) h = ((hgr h (a + 90) 3 0).bind fun x30 => (hgi h x30 7 3).bind fun x31 => (isO h (a + 90) 3).bind fun _ => bind2 (FX3_fail (a + 90) (nI cd) x31 h) fun x33 h34 => if x33 = 0 ∨ x33 = 1 then some (x33, h34) else none) → (∀ V, gFX10_must (nI 0) (nI cd) S = some V → V.1 15 = nI cd → gFX10_readStatement (bI fi) S = some V) → stOut h S a L b t fi l := by
    intro cd c1 c5 e1 e2
    obtain ⟨h5, k1, k2, k3, k4, k5⟩ := err2 (S := S) (c := cd) (p := t.2.1) K.1 (K.2.1.imp fun _ z => ⟨z.1, z.2.1⟩) K.2.2.2.2.2.2.1 K.2.2.2.2.2.1.2.1 (by have := K.2.2.1.1; have := K.2.2.1.2.1; omega) c1 c5
    right
    refine ⟨h5, _, ?_, e2 _ k3 (by rw [gpi_1, upd_o (by decide), gpi_1, upd_s]), k2.s, k4.s, k5, R.b.t k2⟩
    unfold BX3_readSetup_46 BX3_readSetup_65 BX3_readSetup_66
    rw [K.1.ob, gx_bs, e1, K.1.g0, gx_bs, HT0.t3, gx_bs, hN0.2.1, K.1.ob, gx_bs, k1, b2s, if_pos (Or.inl (by rw [n0])), b2s, if_pos (by rw [n0]), n0]
  -- the reference at a word that may begin a statement
  have r28 : ∀ x V, gFX10_must (nI 0) (nI 1) S = some V → V.1 15 = nI 1 → (∀ y, x = nI y → y < 6 → y ≠ 1 ∧ y ≠ 4) → (x = m1 ∨ ∃ y, y < 6 ∧ x = nI y) → gBX10_readStatement_28 x S = some V := by
    intro x V m ve hx hx2
    unfold gBX10_readStatement_28 gBX10_readStatement_29 gBX10_readStatement_48 gBX10_readStatement_53 gBX10_readStatement_74
    have q1 : x ≠ nI 1 := fun z => (hx 1 z (by omega)).1 rfl
    have q4 : x ≠ nI 4 := fun z => (hx 4 z (by omega)).2 rfl
    rw [n0, n1, m, gx_bs, if_neg q1, n3, m_mustE ve (by omega) (by omega), gx_bs, n4, if_neg q4, st79E ve (by omega) (by omega)]
  have gn := g_n rc.2.1
  have gp : gal mK S 1 (nI 3) = some (nI c.2.2.2.length) := by rw [mK_a1 (by omega), rc.2.2.2.1]
  have L0 : ∀ {h' : jx_H} {X : Option (Int32 × jx_H)} {v : Nat}, X = some (nI v, h') → v ≤ 1 → (bind2 X fun x20 h21 => if x20 = 0 ∨ x20 = 1 then some (x20, h21) else none) = some (nI v, h') := by
    rintro h' X v rfl hv
    rw [b2s]
    rcases (show v = 0 ∨ v = 1 by omega) with rfl | rfl
    · rw [if_pos (Or.inl (by rw [n0]))]
    · rw [if_pos (Or.inr (by rw [n1]))]
  have run01 : ∀ {X : Option (Int32 × jx_H)} {Y : Option MS}, ((∃ h' S', X = some (nI 1, h') ∧ Y = some S' ∧ stOK h h' S S' a L b t) ∨ (∃ h' S', X = some (nI 0, h') ∧ Y = some S' ∧ stER h h' S S' a L b)) → ((∃ h' S', (bind2 X fun x20 h21 => if x20 = 0 ∨ x20 = 1 then some (x20, h21) else none) = some (nI 1, h') ∧ Y = some S' ∧ stOK h h' S S' a L b t) ∨ (∃ h' S', (bind2 X fun x20 h21 => if x20 = 0 ∨ x20 = 1 then some (x20, h21) else none) = some (nI 0, h') ∧ Y = some S' ∧ stER h h' S S' a L b) ∨ (∃ h' S' S'', (bind2 X fun x20 h21 => if x20 = 0 ∨ x20 = 1 then some (x20, h21) else none) = some (nI 0, h') ∧ Y = some S' ∧ S'.1 13 ≠ nI 3 ∧ gFX10_must (nI 0) (nI 1) S' = some S'' ∧ stER h h' S S'' a L b)) := by
    rintro X Y (⟨h', S', x1, x2, x3⟩ | ⟨h', S', x1, x2, x3⟩)
    · exact Or.inl ⟨h', S', L0 x1 (by omega), x2, x3⟩
    · exact Or.inr (Or.inl ⟨h', S', L0 x1 (by omega), x2, x3⟩)
  have cw0 := wK 0 (by omega)
  have cw1 := wK 1 (by omega)
  have cw3 := wK 3 (by omega)
  have cw4 := wK 4 (by omega)
  rw [show ciw 0 = 1 from rfl] at cw0
  rw [show ciw 1 = 2 from rfl] at cw1
  rw [show ciw 3 = 4 from rfl] at cw3
  rw [show ciw 4 = 0 from rfl] at cw4
  by_cases w1 : wdF b t = 1
  · have cS : FX3_readStatement (a + 90) (bI fi) h = bind2 (FX3_readJoin (a + 90) h) fun x40 h41 => if x40 = 0 ∨ x40 = 1 then some (x40, h41) else none := by
      unfold FX3_readStatement
      rw [K.1.g0, gx_bs, HT0.o7, gx_bs, cw0, gx_bs, decide_eq_true w1, if_neg (by rw [bF]; decide), K.1.ob, gx_bs]
    have rS : gFX10_readStatement (bI fi) S = gBX10_readStatement_24 (nI 1) S := by
      unfold gFX10_readStatement
      rw [rW, w1, if_pos (show 1 < 5 by omega), gx_bs, n1, nm1, if_neg (by rw [nI_ne_m1 (by omega)]; exact id), n3, if_neg (by rw [nI_eqN (by omega) (by omega)]; omega), n0, if_neg (by rw [nI_eqN (by omega) (by omega)]; omega)]
    by_cases hn : (Lm c.2.1).length < 12
    · refine fin _ ((gFX10_goesOn S).bind gFX10_readJoin) cS ?_ (run01 (both_join R hn ht0'))
      rw [rS]
      unfold gBX10_readStatement_24 gBX10_readStatement_29 gBX10_readStatement_48 gBX10_readStatement_53 gBX10_readStatement_74 gBX10_readStatement_79
      rw [n1, m_must1, gx_bs, if_pos rfl, gn, gx_bs, n12, if_neg (by rw [nI_leN (by omega) (by omega)]; omega), m_must1, gx_bs, n4, if_neg (by rw [nI_eqN (by omega) (by omega)]; omega), m_must1, gx_bs, gx_bs, K.2.2.2.2.2.2.1, if_pos (by rw [n0, nI_leN (by omega) (by omega)]; omega)]
      cases gFX10_goesOn S with
      | none => rfl
      | some V => rw [gx_bs, gx_bs, n0, if_neg (by rw [nI_eqN (by omega) (by omega)]; omega), if_pos rfl]
    · refine erb 3 (by omega) (by omega) ?_ fun V m ve => ?_
      · have g2 : hgi h (a + 91) 5 2 = some (nI (Lm c.2.1).length) := by rw [← sU.2.2.1.1]; exact hU.i2
        rw [cS]
        unfold FX3_readJoin
        rw [K.1.g2, gx_bs, g2, gx_bs, n12, if_neg (by rw [nI_ltN (by omega) (by omega)]; exact hn), n3, K.1.g0, gx_bs, HT0.t3, gx_bs, K.1.ob, gx_bs]
        obtain ⟨h5, k1, -⟩ := err2 (S := S) (c := 3) (p := t.2.1) K.1 (K.2.1.imp fun _ z => ⟨z.1, z.2.1⟩) K.2.2.2.2.2.2.1 K.2.2.2.2.2.1.2.1 (by have := K.2.2.1.1; have := K.2.2.1.2.1; omega) (by omega) (by omega)
        rw [hN0.2.1, k1, b2s, if_pos (Or.inl (by rw [n0])), b2s, if_pos (Or.inl (by rw [n0]))]
      · rw [rS]
        unfold gBX10_readStatement_24 gBX10_readStatement_29 gBX10_readStatement_53 gBX10_readStatement_74
        rw [n1, m_must1, gx_bs, if_pos rfl, gn, gx_bs, n12, if_pos (by rw [nI_leN (by omega) (by omega)]; omega), n0, n3, m, gx_bs, n4, if_neg (by rw [nI_eqN (by omega) (by omega)]; omega), st79E ve (by omega) (by omega)]
  by_cases w2 : wdF b t = 2
  · have cS : FX3_readStatement (a + 90) (bI fi) h = cRule (a + 90) h := by
      unfold FX3_readStatement cRule
      rw [K.1.g0, gx_bs, HT0.o7, gx_bs, cw0, gx_bs, decide_eq_false w1, if_pos (by rw [bF]), gx_bs, HT0.o7, gx_bs, cw1, gx_bs, decide_eq_true w2, if_neg (by rw [bF]; decide), K.1.ob, gx_bs]
    refine fin _ ((gFX10_goesOn S).bind gFX10_readRule) cS ?_ (both_rule R ht0')
    unfold gFX10_readStatement
    rw [rW, w2, if_pos (show 2 < 5 by omega), gx_bs, n1, nm1, if_neg (by rw [nI_ne_m1 (by omega)]; exact id), n3, if_neg (by rw [nI_eqN (by omega) (by omega)]; omega), n0, if_neg (by rw [nI_eqN (by omega) (by omega)]; omega)]
    unfold gBX10_readStatement_24 gBX10_readStatement_29 gBX10_readStatement_48 gBX10_readStatement_53 gBX10_readStatement_74 gBX10_readStatement_79
    rw [n1, m_must1, gx_bs, if_neg (by rw [nI_eqN (by omega) (by omega)]; omega), m_must1, gx_bs, n4, if_neg (by rw [nI_eqN (by omega) (by omega)]; omega), m_must1, gx_bs, gx_bs, K.2.2.2.2.2.2.1, if_pos (by rw [n0, nI_leN (by omega) (by omega)]; omega)]
    cases gFX10_goesOn S with
    | none => rfl
    | some V => rw [gx_bs, gx_bs, n0, if_neg (by rw [nI_eqN (by omega) (by omega)]; omega), if_neg (by rw [nI_eqN (by omega) (by omega)]; omega), n2, if_pos rfl]
  by_cases w4 : wdF b t = 4
  · have cS : FX3_readStatement (a + 90) (bI fi) h = bind2 (FX3_readPoint (a + 90) h) fun x40 h41 => if x40 = 0 ∨ x40 = 1 then some (x40, h41) else none := by
      unfold FX3_readStatement
      rw [K.1.g0, gx_bs, HT0.o7, gx_bs, cw0, gx_bs, decide_eq_false w1, if_pos (by rw [bF]), gx_bs, HT0.o7, gx_bs, cw1, gx_bs, decide_eq_false w2, if_pos (by rw [bF]), gx_bs, HT0.o7, gx_bs, cw3, gx_bs, decide_eq_true w4, if_neg (by rw [bF]; decide), K.1.ob, gx_bs]
    have rS : gFX10_readStatement (bI fi) S = gBX10_readStatement_24 (nI 4) S := by
      unfold gFX10_readStatement
      rw [rW, w4, if_pos (show 4 < 5 by omega), gx_bs, n1, nm1, if_neg (by rw [nI_ne_m1 (by omega)]; exact id), n3, if_neg (by rw [nI_eqN (by omega) (by omega)]; omega), n0, if_neg (by rw [nI_eqN (by omega) (by omega)]; omega)]
    by_cases hn : c.2.2.2.length < 12
    · refine fin _ ((gFX10_goesOn S).bind gFX10_readPoint) cS ?_ (run01 (both_point R hn ht0'))
      rw [rS]
      unfold gBX10_readStatement_24 gBX10_readStatement_29 gBX10_readStatement_48 gBX10_readStatement_53 gBX10_readStatement_74 gBX10_readStatement_79
      rw [n1, m_must1, gx_bs, if_neg (by rw [nI_eqN (by omega) (by omega)]; omega), m_must1, gx_bs, n4, if_pos rfl, n3, gp, gx_bs, n12, if_neg (by rw [nI_leN (by omega) (by omega)]; omega), m_must1, gx_bs, gx_bs, K.2.2.2.2.2.2.1, if_pos (by rw [n0, nI_leN (by omega) (by omega)]; omega)]
      cases gFX10_goesOn S with
      | none => rfl
      | some V => rw [gx_bs, gx_bs, n0, if_neg (by rw [nI_eqN (by omega) (by omega)]; omega), if_neg (by rw [nI_eqN (by omega) (by omega)]; omega), n2, if_neg (by rw [nI_eqN (by omega) (by omega)]; omega)]
    · refine erb 3 (by omega) (by omega) ?_ fun V m ve => ?_
      · have g9 : hgi h (a + 91) 5 9 = some (nI c.2.2.2.length) := by rw [← sU.2.2.2.2.1]; exact hU.i9
        rw [cS]
        unfold FX3_readPoint
        rw [K.1.g2, gx_bs, g9, gx_bs, n12, if_neg (by rw [nI_ltN (by omega) (by omega)]; exact hn), n3, K.1.g0, gx_bs, HT0.t3, gx_bs, K.1.ob, gx_bs]
        obtain ⟨h5, k1, -⟩ := err2 (S := S) (c := 3) (p := t.2.1) K.1 (K.2.1.imp fun _ z => ⟨z.1, z.2.1⟩) K.2.2.2.2.2.2.1 K.2.2.2.2.2.1.2.1 (by have := K.2.2.1.1; have := K.2.2.1.2.1; omega) (by omega) (by omega)
        rw [hN0.2.1, k1, b2s, if_pos (Or.inl (by rw [n0])), b2s, if_pos (Or.inl (by rw [n0]))]
      · rw [rS]
        unfold gBX10_readStatement_24 gBX10_readStatement_29 gBX10_readStatement_48 gBX10_readStatement_53 
        rw [n1, m_must1, gx_bs, if_neg (by rw [nI_eqN (by omega) (by omega)]; omega), m_must1, gx_bs, n4, if_pos rfl, n3, gp, gx_bs, n12, if_pos (by rw [nI_leN (by omega) (by omega)]; omega), n0]
        unfold gBX10_readStatement_79
        rw [n3, m, gx_bs, gx_bs, ve, if_neg (by rw [n0, nI_leN (by omega) (by omega)]; omega)]
  by_cases w0 : wdF b t = 0 ∧ fi = true
  · obtain ⟨w0, rfl⟩ := w0
    have cS : FX3_readStatement (a + 90) (bI true) h = bind2 (FX3_readPrime (a + 90) h) fun x40 h41 => if x40 = 0 ∨ x40 = 1 then some (x40, h41) else none := by
      unfold FX3_readStatement
      rw [K.1.g0, gx_bs, HT0.o7, gx_bs, cw0, gx_bs, decide_eq_false w1, if_pos (by rw [bF]), gx_bs, HT0.o7, gx_bs, cw1, gx_bs, decide_eq_false w2, if_pos (by rw [bF]), gx_bs, HT0.o7, gx_bs, cw3, gx_bs, decide_eq_false w4, if_pos (by rw [bF]), if_neg (by rw [bF]; decide), gx_bs, HT0.o7, gx_bs, cw4, gx_bs, decide_eq_true w0, if_neg (by rw [bF]; decide), K.1.ob, gx_bs]
    refine fin _ ((gFX10_goesOn S).bind gFX10_readPrime) cS ?_ (run01 (both_prime R (hfi rfl) ht0'))
    unfold gFX10_readStatement
    rw [rW, w0, if_pos (show 0 < 5 by omega), gx_bs, n1, nm1, if_neg (by rw [nI_ne_m1 (by omega)]; exact id), n3, if_neg (by rw [nI_eqN (by omega) (by omega)]; omega), if_pos (by rw [n0]), if_neg (by rw [bF]; decide)]
    unfold gBX10_readStatement_24 gBX10_readStatement_29 gBX10_readStatement_48 gBX10_readStatement_53 gBX10_readStatement_74 gBX10_readStatement_79
    rw [n1, m_must1, gx_bs, if_neg (by rw [nI_eqN (by omega) (by omega)]; omega), m_must1, gx_bs, n4, if_neg (by rw [nI_eqN (by omega) (by omega)]; omega), m_must1, gx_bs, gx_bs, K.2.2.2.2.2.2.1, if_pos (by rw [n0, nI_leN (by omega) (by omega)]; omega)]
    cases gFX10_goesOn S with
    | none => rfl
    | some V => rw [gx_bs, gx_bs, n0, if_pos rfl]
  · refine erb 1 (by omega) (by omega) ?_ fun V m ve => ?_
    · unfold FX3_readStatement
      rw [K.1.g0, gx_bs, HT0.o7, gx_bs, cw0, gx_bs, decide_eq_false w1, if_pos (by rw [bF]), gx_bs, HT0.o7, gx_bs, cw1, gx_bs, decide_eq_false w2, if_pos (by rw [bF]), gx_bs, HT0.o7, gx_bs, cw3, gx_bs, decide_eq_false w4, if_pos (by rw [bF])]
      unfold BX3_readStatement_87
      cases fi with
      | false => rw [if_pos (by rw [bF]), K.1.g0, gx_bs, n1, gx_bs]
      | true =>
        have w0' : ¬ wdF b t = 0 := fun z => w0 ⟨z, rfl⟩
        rw [if_neg (by rw [bF]; decide), gx_bs, HT0.o7, gx_bs, cw4, gx_bs, decide_eq_false w0', if_pos (by rw [bF]), K.1.g0, gx_bs, n1, gx_bs]
    · unfold gFX10_readStatement
      rw [rW, gx_bs]
      by_cases w5 : wdF b t < 5
      · rw [if_pos w5, n1, nm1, if_neg (by rw [nI_ne_m1 (by omega)]; exact id)]
        have q := r28 (nI (wdF b t)) V m ve (fun y z hy => by rw [nI_eqN (by omega) (by omega)] at z; omega) (Or.inr ⟨_, by omega, rfl⟩)
        by_cases w3 : wdF b t = 3
        · rw [n3, if_pos (by rw [w3]), q]
        · rw [n3, if_neg (by rw [nI_eqN (by omega) (by omega)]; exact w3)]
          have z0 : wdF b t = 0 := by omega
          have ff : fi = false := by
            cases fi with
            | false => rfl
            | true => exact absurd ⟨z0, rfl⟩ w0
          rw [if_pos (by rw [z0, n0]), ff, if_pos (by rw [bF]), q]
      · rw [if_neg w5, n1, nm1, if_pos rfl]
        exact r28 m1 V m ve (fun y z hy => by rw [m1_ne_nI (by omega)] at z; exact z.elim) (Or.inl rfl)
end
