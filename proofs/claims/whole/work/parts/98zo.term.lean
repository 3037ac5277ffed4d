/-! the parser: a term, a symbol, on both sides -/
section
variable {h : jx_H} {S : MS} {a L : Nat} {F : Nat → Int32} {b : Nat → Nat} {t : Tok}
theorem TKR.g (R : TKR h S a F L b t) {k : Nat} {v : Int32} (hk : k = 18 ∨ k = 19) : TKR h (gpi S k v) a F L b t := by
  obtain ⟨P, HT, ok, Hr, W, hr, he, e16, f4, f5⟩ := R
  refine ⟨P, HT, ok, ⟨Hr.1, by rw [gpi_1, upd_o (by omega)]; exact Hr.2.1, by rw [gpi_2]; exact Hr.2.2⟩, W.fr gpi_2, ⟨by rw [gpi_1, upd_o (by omega)]; exact hr.1, by rw [gpi_1, upd_o (by omega)]; exact hr.2.1, by rw [gpi_1, upd_o (by omega)]; exact hr.2.2.1, fun z => by rw [gpi_1, upd_o (by omega)]; exact hr.2.2.2 z⟩, by rw [gpi_1, upd_o (by omega)]; exact he, by rw [gpi_1, upd_o (by omega)]; exact e16, f4, f5⟩
theorem ERR.g (R : ERR h S a L b) {k : Nat} {v : Int32} (hk : k = 18 ∨ k = 19) : ERR h (gpi S k v) a L b := by
  obtain ⟨F, c, p, P, HT, c1, c2, hp, f4, f5, e1, e2⟩ := R
  exact ⟨F, c, p, P, HT, c1, c2, hp, f4, f5, by rw [gpi_1, upd_o (by omega)]; exact e1, by rw [gpi_1, upd_o (by omega)]; exact e2⟩
/-- a field of the Parser that is no error -/
theorem TKR.f (R : TKR h S a F L b t) {k : Nat} {v : Int32} (hk : 6 ≤ k ∧ k ≤ 10) : ∃ h', hp h (a + 90) 3 k (.int v) = some h' ∧ tch h h' a ∧ TKR h' S a (upd F k v) L b t := by
  obtain ⟨P, ⟨T, HT, H, hN⟩, ok, Hr, W, hr, he, e16, f4, f5⟩ := R
  obtain ⟨p1, t1⟩ := hpPO (h := h) (a := a) (F := F) (v := v) (k := k)
  exact ⟨_, P.hp (by omega), t1, p1, ⟨T, HT.tup, H, hN⟩, ok, Hr, W, hr, he, e16, by rw [upd_o (by omega)]; exact f4, by rw [upd_o (by omega)]; exact f5⟩
theorem rch.g {S' : MS} (R : rch S S') {k : Nat} {v : Int32} (hk : k = 18 ∨ k = 19) : rch S (gpi S' k v) := ⟨by rw [gpi_2]; exact R.1, fun q hq => by rw [gpi_1, upd_o (by omega)]; exact R.2 q hq⟩
/-- the same position, an error on both sides -/
theorem both_err (R : TKR h S a F L b t) {c p : Nat} (h1 : 1 ≤ c) (h5 : c ≤ 5) (hp : S.1 12 = nI p) (hpL : p ≤ L) : ∃ h', FX3_fail (a + 90) (nI c) (nI p) h = some (nI 0, h') ∧ tch h h' a ∧ gFX10_must (nI 0) (nI c) S = some (gpi (gpi S 15 (nI c)) 16 (nI p)) ∧ rch S (gpi (gpi S 15 (nI c)) 16 (nI p)) ∧ ERR h' (gpi (gpi S 15 (nI c)) 16 (nI p)) a L b := by
  obtain ⟨P, ⟨T, HT, H, hN⟩, ok, Hr, W, hr, he, -⟩ := R
  obtain ⟨h', f1, f2, f3, f4⟩ := c_fail P (c := nI c) (p := nI p)
  exact ⟨h', f1, f3, m_must0 he hp, ⟨by rw [gpi_2, gpi_2], fun q hq => by rw [gpi_1, gpi_1, upd_o (by omega), upd_o (by omega)]⟩, _, c, p, f2, ⟨T, f4 HT, H⟩, h1, h5, hpL, by rw [upd_o (by decide), upd_s], by rw [upd_s], by rw [gpi_1, gpi_1, upd_o (by decide), upd_s], by rw [gpi_1, upd_s]⟩
/-- a symbol that stands there, or not -/
theorem c_symOK (R : TKR h S a F L b t) {k : Nat} (hk : k = 3 ∨ k = 4) (ht : t.1 = k) : ∃ h' S', FX3_takeSymbol (a + 90) (nI (cK k)) h = some (nI 1, h') ∧ tch h h' a ∧ gFX10_goesOn S = some S' ∧ rch S S' ∧ TKR h' S' a F L b (lexAt b L t.2.2.1) ∧ (∀ q, ¬ (11 ≤ q ∧ q ≤ 14) → S'.1 q = S.1 q) := by
  obtain ⟨h', S', a1, a2, a3, a4, a5, a6⟩ := both_next R
  obtain ⟨P, ⟨T, HT, H, hN⟩, -⟩ := R
  refine ⟨h', S', ?_, a2, a3, a4, a5, a6⟩
  unfold FX3_takeSymbol
  rw [P.g0, gx_bs, HT.t2, gx_bs, hN.1, ht, if_pos rfl, gx_bs, HT.o7, gx_bs, a1, gx_bs, n1]
theorem cK_ne {i j : Nat} (hi : i ≤ 6) (hj : j ≤ 6) (h : cK i = cK j) : i = j := by
  have key : ∀ i, i < 7 → ∀ j, j < 7 → cK i = cK j → i = j := by decide +kernel
  exact key i (by omega) j (by omega) h
theorem c_symNO (R : TKR h S a F L b t) {k : Nat} (hk : k = 3 ∨ k = 4) (ht : t.1 ≠ k) : ∃ h' S', FX3_takeSymbol (a + 90) (nI (cK k)) h = some (nI 0, h') ∧ tch h h' a ∧ gFX10_must (nI 0) (nI 1) S = some S' ∧ rch S S' ∧ ERR h' S' a L b := by
  have R' := R
  obtain ⟨P, ⟨T, HT, H, hN⟩, ok, Hr, W, hr, he, -⟩ := R
  have k6 := ok.2.2.1
  have ck := cK_lt k6
  have ck2 := cK_lt (k := k) (by omega)
  obtain ⟨h', f1, f2, f3, f4, f5⟩ := both_err R' (c := 1) (by omega) (by omega) hr.2.1 (by have := ok.1; have := ok.2.1; omega)
  refine ⟨h', _, ?_, f2, f3, f4, f5⟩
  unfold FX3_takeSymbol
  rw [P.g0, gx_bs, HT.t2, gx_bs, hN.1, if_neg (by rw [nI_eqN (by omega) (by omega)]; exact fun z => ht (cK_ne k6 (by omega) z)), gx_bs, HT.t3, gx_bs, hN.2.1, P.ob, gx_bs, n1, f1, b2s, if_pos (Or.inl (by rw [n0]))]
/-- the coefficient of a term -/
def cfN (p : Nat) (neg : Bool) (c : Nat) : Nat := rsd (if neg then -(c : Int) else c) p
/-- what a term that is right leaves -/
def termOK (h h' : jx_H) (S S1 S2 : MS) (a : Nat) (F : Nat → Int32) (L : Nat) (b : Nat → Nat) (t : Tok) (lim p : Nat) : Prop := ∃ F' t' neg c i j st, tch h h' a ∧ rch S S1 ∧ rch S S2 ∧ S1.1 18 = nI (cfN p neg c) ∧ S2.1 18 = nI (cfN p neg c) ∧ S1.1 19 = nI i ∧ S2.1 19 = nI i ∧ S1.1 14 = nI j ∧ S1.1 12 = nI st ∧ S1.1 15 = nI 0 ∧ gFX10_reads (nI 0) (nI lim) S1 = some (nI j, S2) ∧ TKR h' S2 a F' L b t' ∧ F' 6 = nI i ∧ F' 7 = nI j ∧ F' 8 = nI (cfN p neg c) ∧ F' 9 = nI st ∧ F' 10 = F 10 ∧ c ≤ 999 ∧ i ≤ lim ∧ j ≤ lim ∧ st ≤ L ∧ t.2.1 + 1 ≤ t'.2.1
theorem lex_adv {i : Nat} (h : i ≤ L) : i ≤ (lexAt b L i).2.1 := (lex_ok (b := b) h).1
theorem both_term (R : TKR h S a F L b t) {lim p : Nat} (hl : lim ≤ 9999) (hp : p ∈ prs) (Hp : S.2 1 0 = nI p) :
    (∃ h' S1 S2, FX3_readTerm (a + 90) (nI lim) (nI p) h = some (nI 1, h') ∧ gFX10_readTerm (nI lim) S = some S1 ∧ termOK h h' S S1 S2 a F L b t lim p) ∨ (∃ h' S1, FX3_readTerm (a + 90) (nI lim) (nI p) h = some (nI 0, h') ∧ gFX10_readTerm (nI lim) S = some S1 ∧ tch h h' a ∧ rch S S1 ∧ ERR h' S1 a L b ∧ ¬ (t.1 = 2 ∧ False)) := by
  have pb := prs_b p hp
  have k6 := R.2.2.1.2.2.1
  have ck := cK_lt k6
  -- from the number on
  have rest : ∀ (neg : Bool) (h1 : jx_H) (S1 : MS) (t1 : Tok), tch h h1 a → rch S S1 → TKR h1 S1 a F L b t1 → t.2.1 ≤ t1.2.1 → (∃ h' U1 U2, BX3_readTerm_29 (a + 90) (nI lim) (nI p) (bI neg) h1 = some (nI 1, h') ∧ gBX10_readTerm_29 (nI lim) (bI neg) S1 = some U1 ∧ termOK h h' S U1 U2 a F L b t lim p) ∨ (∃ h' U1, BX3_readTerm_29 (a + 90) (nI lim) (nI p) (bI neg) h1 = some (nI 0, h') ∧ gBX10_readTerm_29 (nI lim) (bI neg) S1 = some U1 ∧ tch h h' a ∧ rch S U1 ∧ ERR h' U1 a L b ∧ ¬ (t.1 = 2 ∧ False)) := by
    intro neg h1 S1 t1 c1 r1 R1 ht1
    have Hp1 : S1.2 1 0 = nI p := by rw [r1.1]; exact Hp
    by_cases g1 : goodN t1 0 999
    · obtain ⟨h2, S2, a1, a2, a3, a4, a5, a6⟩ := c_takeOK R1 (lim := 999) (by omega) g1
      have hc9 := g1.2.2
      generalize hcv : t1.2.2.2.1 = c at a1 a3 a5 hc9
      -- the coefficient
      have Hp2 : S2.2 1 0 = nI p := by rw [a4.1]; exact Hp1
      have hz : (if neg then -(nI c) else nI c).toInt = (if neg then -(c : Int) else c) := by
        cases neg with
        | true => exact nI_neg_toInt (by omega)
        | false => exact nI_toInt (by omega)
      have hzb : (if neg then -(c : Int) else c).natAbs < 1073741824 := by cases neg <;> simp <;> omega
      have pr := p_res hz (show 0 < p by omega) (show p < 32768 by omega) hzb
      have mr := m_mod (S := S2) Hp2 hz (show 0 < p by omega) (show p < 32768 by omega) hzb
      have hcf : rsd (if neg then -(c : Int) else c) p = cfN p neg c := rfl
      rw [hcf] at pr mr
      obtain ⟨h3, b1, b2, b3⟩ := a5.f (k := 8) (v := nI (cfN p neg c)) (by omega)
      have b4 := b3.g (k := 18) (v := nI (cfN p neg c)) (Or.inl rfl)
      have adv1 : t1.2.1 + 1 ≤ (lexAt b L t1.2.2.1).2.1 := by
        have := lex_adv (b := b) (L := L) R1.2.2.1.2.1
        have := R1.2.2.1.2.2.2.1 (by rw [g1.1]; omega)
        omega
      -- both sides up to here
      have cls : BX3_readTerm_29 (a + 90) (nI lim) (nI p) (bI neg) h1 = bind2 (FX3_takeNumber (a + 90) (nI lim) h3) fun x4 h5 => if x4 = 0 then some ((0 : Int32), h5) else (isO h5 (a + 90) 3).bind fun _ => bind2 (FX3_takeNumber (a + 90) (nI lim) h5) fun x7 h8 => if x7 = 0 then some ((0 : Int32), h8) else some ((1 : Int32), h8) := by
        have s7 : hgi h2 (a + 90) 3 7 = some (nI c) := by rw [a5.1.gi (by omega), upd_o (by decide), upd_s]
        have go : BX3_readTerm_58 (a + 90) (nI lim) (nI p) (a + 90) (if neg then -(nI c) else nI c) h2 = bind2 (FX3_takeNumber (a + 90) (nI lim) h3) fun x4 h5 => if x4 = 0 then some ((0 : Int32), h5) else (isO h5 (a + 90) 3).bind fun _ => bind2 (FX3_takeNumber (a + 90) (nI lim) h5) fun x7 h8 => if x7 = 0 then some ((0 : Int32), h8) else some ((1 : Int32), h8) := by
          unfold BX3_readTerm_58
          rw [q_residue, pr, gx_bs, b1, gx_bs, b3.1.ob, gx_bs]
        unfold BX3_readTerm_29
        rw [R1.1.ob, gx_bs, n999, a1, b2s, if_neg (by rw [n0, nI_eqN (by omega) (by omega)]; omega), s7, gx_bs, gx_bs]
        cases neg with
        | false => rw [if_pos (by rw [bF])]; exact go
        | true => rw [if_neg (by rw [bF]; decide)]; exact go
      have ref : gBX10_readTerm_29 (nI lim) (bI neg) S1 = bind2 (gFX10_reads (nI 0) (nI lim) (gpi S2 18 (nI (cfN p neg c)))) fun x5 h6 => (some (gpi h6 19 x5)).bind fun h7 => (gFX10_looks (0 : Int32) (nI lim) h7).bind fun h9 => some h9 := by
        have go : gBX10_readTerm_50 (nI lim) (if neg then -(nI c) else nI c) S2 = bind2 (gFX10_reads (nI 0) (nI lim) (gpi S2 18 (nI (cfN p neg c)))) fun x5 h6 => (some (gpi h6 19 x5)).bind fun h7 => (gFX10_looks (0 : Int32) (nI lim) h7).bind fun h9 => some h9 := by
          unfold gBX10_readTerm_50
          rw [mr, gx_bs, gx_bs, n0]
        unfold gBX10_readTerm_29
        rw [n0, n999, a3, b2s]
        cases neg with
        | false => rw [if_pos bI_f]; rw [n0] at go; exact go
        | true => rw [if_neg (by rw [bI_0]; decide)]; rw [n0] at go; exact go
      have rb : rch S (gpi S2 18 (nI (cfN p neg c))) := (r1.tr a4).g (Or.inl rfl)
      have cb : tch h h3 a := (c1.tr a2).tr b2
      -- the first power
      by_cases g2 : goodN (lexAt b L t1.2.2.1) 0 lim
      · obtain ⟨h4, S4, d1, d2, d3, d4, d5, d6⟩ := c_takeOK b4 hl g2
        generalize hiv : (lexAt b L t1.2.2.1).2.2.2.1 = i at d1 d3 d5
        have hil : i ≤ lim := by rw [← hiv]; exact g2.2.2
        have d7 := d5.g (k := 19) (v := nI i) (Or.inr rfl)
        have rd : rch S (gpi S4 19 (nI i)) := (rb.tr d4).g (Or.inr rfl)
        have adv2 : (lexAt b L t1.2.2.1).2.1 + 1 ≤ (lexAt b L (lexAt b L t1.2.2.1).2.2.1).2.1 := by
          have := lex_adv (b := b) (L := L) b4.2.2.1.2.1
          have := b4.2.2.1.2.2.2.1 (by rw [g2.1]; omega)
          omega
        generalize hu : lexAt b L (lexAt b L t1.2.2.1).2.2.1 = u at d5 d7 adv2
        by_cases g3 : goodN u 0 lim
        · left
          obtain ⟨h5, S5, e1, e2, e3, e4, e5, e6⟩ := c_takeOK d7 hl g3
          have q3 := good_r (lo := 0) d7.2.2.1 hl g3.1
          have eqn : u.2.2.2.1 = u.2.2.2.2 := q3.2.1 g3.2.2
          have adv3 : u.2.1 ≤ (lexAt b L u.2.2.1).2.1 := by
            have := lex_adv (b := b) (L := L) d7.2.2.1.2.1
            have := d7.2.2.1.1
            omega
          refine ⟨h5, gpi S4 19 (nI i), S5, ?_, ?_, _, _, neg, c, i, u.2.2.2.1, u.2.1, (cb.tr d2).tr e2, rd, rd.tr e4, ?_, ?_, ?_, ?_, ?_, ?_, ?_, e3, e5, ?_, ?_, ?_, ?_, ?_, hc9, hil, g3.2.2, ?_, ?_⟩
          · rw [cls, d1, b2s, if_neg (by rw [n0, nI_eqN (by omega) (by omega)]; omega), d5.1.ob, gx_bs, e1, b2s, if_neg (by rw [n0, nI_eqN (by omega) (by omega)]; omega), n1]
          · rw [ref, d3, b2s, gx_bs, n0, m_looksOK d7.2.2.2.2.2.1 d7.2.2.1 hl (by omega) g3, gx_bs]
          · rw [gpi_1, upd_o (by decide), d6 18 (by omega), gpi_1, upd_s]
          · rw [e6 18 (by omega), gpi_1, upd_o (by decide), d6 18 (by omega), gpi_1, upd_s]
          · rw [gpi_1, upd_s]
          · rw [e6 19 (by omega), gpi_1, upd_s]
          · rw [d7.2.2.2.2.2.1.2.2.2 g3.1, eqn]
          · exact d7.2.2.2.2.2.1.2.1
          · exact d7.2.2.2.2.2.2.1
          · rw [upd_o (by decide), upd_o (by decide), upd_s, upd_o (by decide), upd_s]
          · rw [upd_o (by decide), upd_s]
          · rw [upd_o (by decide), upd_o (by decide), upd_o (by decide), upd_o (by decide), upd_o (by decide), upd_o (by decide), upd_s]
          · rw [upd_s]
          · rw [upd_o (by decide), upd_o (by decide), upd_o (by decide), upd_o (by decide), upd_o (by decide), upd_o (by decide), upd_o (by decide), upd_o (by decide), upd_o (by decide), upd_o (by decide)]
          · have := d7.2.2.1.1; have := d7.2.2.1.2.1; omega
          · omega
        · right
          obtain ⟨h5, S5, e1, e2, e3, e4, e5, e6⟩ := c_takeNO d7 hl g3
          refine ⟨h5, S5, ?_, ?_, (cb.tr d2).tr e2, rd.tr e5, e6, fun z => z.2⟩
          · rw [cls, d1, b2s, if_neg (by rw [n0, nI_eqN (by omega) (by omega)]; omega), d5.1.ob, gx_bs, e1, b2s, if_pos (by rw [n0]), n0]
          · rw [ref, d3, b2s, gx_bs, n0, e3, gx_bs]
      · right
        obtain ⟨h4, S4, d1, d2, d3, d4, d5, d6⟩ := c_takeNO b4 hl g2
        obtain ⟨F9, c9, p9, -, -, q1, q2, -, -, -, q3, -⟩ := id d6
        have d7 := d6.g (k := 19) (v := nI 0) (Or.inr rfl)
        refine ⟨h4, gpi S4 19 (nI 0), ?_, ?_, cb.tr d2, (rb.tr d5).g (Or.inr rfl), d7, fun z => z.2⟩
        · rw [cls, d1, b2s, if_pos (by rw [n0]), n0]
        · rw [ref, d4, b2s, gx_bs, m_looksE (e := c9) (by rw [gpi_1, upd_o (by decide)]; exact q3) (by omega) q2, gx_bs]
    · right
      obtain ⟨h2, S2, a1, a2, a3, a4, a5, a6⟩ := c_takeNO R1 (lim := 999) (by omega) g1
      obtain ⟨F9, c9, p9, -, -, q1, q2, -, -, -, q3, -⟩ := id a6
      have Hp2 : S2.2 1 0 = nI p := by rw [a5.1]; exact Hp1
      have fin : ∀ x : Int32, ∃ U1, gBX10_readTerm_50 (nI lim) x S2 = some U1 ∧ rch S U1 ∧ ERR h2 U1 a L b := by
        intro x
        obtain ⟨y, hy⟩ := m_modT (x := x) Hp2 (show 0 < p by omega) (by omega)
        have g18 := a6.g (k := 18) (v := y) (Or.inl rfl)
        have g19 := g18.g (k := 19) (v := (0 : Int32)) (Or.inr rfl)
        refine ⟨gpi (gpi S2 18 y) 19 (0 : Int32), ?_, ((r1.tr a5).g (Or.inl rfl)).g (Or.inr rfl), g19⟩
        unfold gBX10_readTerm_50
        rw [hy, gx_bs, gx_bs, m_readsE (e := c9) (by rw [gpi_1, upd_o (by decide)]; exact q3) (by omega) q2, b2s, gx_bs, m_looksE (e := c9) (by rw [gpi_1, gpi_1, upd_o (by decide), upd_o (by decide)]; exact q3) (by omega) q2, gx_bs]
      obtain ⟨V1, v1, v2, v3⟩ := fin (nI 0)
      obtain ⟨V2, w1, w2, w3⟩ := fin (-(nI 0))
      have cls : BX3_readTerm_29 (a + 90) (nI lim) (nI p) (bI neg) h1 = some (nI 0, h2) := by
        unfold BX3_readTerm_29
        rw [R1.1.ob, gx_bs, n999, a1, b2s, if_pos (by rw [n0]), n0]
      cases neg with
      | false =>
        refine ⟨h2, V1, cls, ?_, c1.tr a2, v2, v3, fun z => z.2⟩
        unfold gBX10_readTerm_29
        rw [n0, n999, a4, b2s, if_pos bI_f, v1]
      | true =>
        refine ⟨h2, V2, cls, ?_, c1.tr a2, w2, w3, fun z => z.2⟩
        unfold gBX10_readTerm_29
        rw [n0, n999, a4, b2s, if_neg (by rw [bI_0]; decide), w1]
  have R' := R
  obtain ⟨P, ⟨T, HT, H, hN⟩, ok, Hr, W, hr, he, -⟩ := R
  by_cases hneg : t.1 = 5
  · obtain ⟨h1, S1, a1, a2, a3, a4, a5, a6⟩ := both_next R'
    have cls : FX3_readTerm (a + 90) (nI lim) (nI p) h = BX3_readTerm_29 (a + 90) (nI lim) (nI p) (bI true) h1 := by
      unfold FX3_readTerm BX3_readTerm_17
      rw [P.g0, gx_bs, HT.t2, gx_bs, hN.1, hneg, n45, if_pos (show nI (cK 5) = nI 45 from rfl), n1, n0, if_neg (by rw [nI_eqN (by omega) (by omega)]; omega), gx_bs, HT.o7, gx_bs, a1, gx_bs]
      rfl
    have ref : gFX10_readTerm (nI lim) S = gBX10_readTerm_29 (nI lim) (bI true) S1 := by
      unfold gFX10_readTerm gBX10_readTerm_20
      rw [gx_bs, he, n0, if_pos rfl, gx_bs, hr.1, hneg, n5, if_pos rfl, n1, if_neg (by rw [nI_eqN (by omega) (by omega)]; omega), a3, gx_bs]
      rfl
    rw [cls, ref]
    exact rest true h1 S1 _ a2 a4 a5 (by
      have := lex_adv (b := b) (L := L) ok.2.1
      have := ok.1
      omega)
  · have cls : FX3_readTerm (a + 90) (nI lim) (nI p) h = BX3_readTerm_29 (a + 90) (nI lim) (nI p) (bI false) h := by
      unfold FX3_readTerm BX3_readTerm_17
      rw [P.g0, gx_bs, HT.t2, gx_bs, hN.1, n45, if_neg (by rw [nI_eqN (by omega) (by omega)]; exact fun z => hneg (cK_ne (j := 5) k6 (by omega) z)), n0, if_pos rfl]
      rfl
    have ref : gFX10_readTerm (nI lim) S = gBX10_readTerm_29 (nI lim) (bI false) S := by
      unfold gFX10_readTerm gBX10_readTerm_19 gBX10_readTerm_20
      rw [gx_bs, he, n0, if_pos rfl, gx_bs, hr.1, n5, if_neg (by rw [nI_eqN (by omega) (by omega)]; exact hneg), if_pos rfl]
      rfl
    rw [cls, ref]
    exact rest false h S t tch.rf rch.rf R' (Nat.le_refl _)
end
