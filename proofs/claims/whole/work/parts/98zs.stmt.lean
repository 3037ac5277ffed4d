/-! the parser: a rule whole, a statement, on both sides -/
section
variable {h : jx_H} {S : MS} {a L : Nat} {F : Nat → Int32} {b : Nat → Nat} {t : Tok} {c : Cf}
/-- the class's word, wherever it is asked -/
theorem K_word (K : TKR h S a F L b t) {w : Nat} (hw : w < 5) : FX7_isWord (a + 88) w h = some (bI (decide (wdF b t = ciw w))) := by
  obtain ⟨T, HT, H, hN⟩ := K.2.1
  rw [HT.run (F := FX7_isWord (a + 88) w) eFX7_isWord]
  exact c_isWord H hN K.2.2.1 hw
theorem R_word (K : TKR h S a F L b t) : gFX10_wordHere S = some (if wdF b t < 5 then nI (wdF b t) else m1) := m_word K.2.2.2.1 K.2.2.2.2.1 K.2.2.2.2.2.1 K.2.2.1
/-- the reference's word after an error -/
theorem R_wordE (K : TKR h S a F L b t) {c d : Int32} : gFX10_wordHere (gpi (gpi S 15 c) 16 d) = some (if wdF b t < 5 then nI (wdF b t) else m1) := by
  obtain ⟨-, -, ok, Hr, W, hr, -⟩ := K
  refine m_word ⟨Hr.1, by rw [gpi_1, gpi_1, upd_o (by decide), upd_o (by decide)]; exact Hr.2.1, by rw [gpi_2, gpi_2]; exact Hr.2.2⟩ (W.fr (by rw [gpi_2, gpi_2])) ⟨?_, ?_, ?_, fun z => ?_⟩ ok
  · rw [gpi_1, gpi_1, upd_o (by decide), upd_o (by decide)]; exact hr.1
  · rw [gpi_1, gpi_1, upd_o (by decide), upd_o (by decide)]; exact hr.2.1
  · rw [gpi_1, gpi_1, upd_o (by decide), upd_o (by decide)]; exact hr.2.2.1
  · rw [gpi_1, gpi_1, upd_o (by decide), upd_o (by decide)]; exact hr.2.2.2 z
theorem m_ruleE {V : MS} {e : Nat} {s0 : Int32} {x : Int32} (he : V.1 15 = nI e) (h0 : 0 < e) (h5 : e ≤ 5) (hw : gFX10_wordHere V = some x) : gBX10_readRule_65 s0 V = some V := by
  unfold gBX10_readRule_65 gBX10_readRule_88
  rw [m_readsE he h0 h5, b2s, hw, gx_bs]
  split
  · rw [m_mustE he h0 h5, gx_bs, gx_bs, he, if_neg (by rw [n0, nI_leN (by omega) (by omega)]; omega)]
  · rw [m_mustE he h0 h5, gx_bs, gx_bs, he, if_neg (by rw [n0, nI_leN (by omega) (by omega)]; omega)]
/-- the error that a wrong number leaves, by name -/
theorem takeNO_eq (K : TKR h S a F L b t) {lim : Nat} (hl : lim ≤ 9999) (g : ¬ goodN t 0 lim) {S' : MS} (e : gFX10_looks (nI 0) (nI lim) S = some S') : S' = gpi (gpi S 15 (nI (if t.1 = 2 then 2 else 1))) 16 (nI t.2.1) := by
  have := m_looksNO K.2.2.2.2.2.1 K.2.2.1 K.2.2.2.2.2.2.1 hl (show 0 ≤ 9999 by omega) g
  rw [e] at this
  exact Option.some.inj this
/-- the class reads a rule -/
noncomputable def cRule (q : Nat) (h : jx_H) : Option (Int32 × jx_H) := bind2 (FX3_readRuleHead q h) fun x31 h32 => if x31 = 0 then some ((0 : Int32), h32) else (isO h32 q 3).bind fun _ => bind2 (FX3_readRuleTerms q h32) fun x34 h35 => if x34 = 0 then some ((0 : Int32), h35) else some ((1 : Int32), h35)
theorem both_rule (R : SIM h S a F L b t c) (ht0' : t.1 ≠ 0) :
    (∃ h' S', cRule (a + 90) h = some (nI 1, h') ∧ (gFX10_goesOn S).bind gFX10_readRule = some S' ∧ stOK h h' S S' a L b t) ∨ (∃ h' S', cRule (a + 90) h = some (nI 0, h') ∧ (gFX10_goesOn S).bind gFX10_readRule = some S' ∧ stER h h' S S' a L b) ∨ (∃ h' S' S'', cRule (a + 90) h = some (nI 0, h') ∧ (gFX10_goesOn S).bind gFX10_readRule = some S' ∧ S'.1 13 ≠ nI 3 ∧ gFX10_must (nI 0) (nI 1) S' = some S'' ∧ stER h h' S S'' a L b) := by
  obtain ⟨K, ⟨U, hU, sU⟩, ⟨W, hW⟩, rc, oc'⟩ := id R
  have w := oc'.2.1
  have lm := oc'.2.2.2.1
  have l := Lm_len w
  obtain ⟨h1, S1, a1, a2, a3, a4, a5, a6⟩ := both_next K
  have R1 := R.t a2 a4 a5
  have adv0 : t.2.1 + 1 ≤ (lexAt b L t.2.2.1).2.1 := by
    have := lex_adv (b := b) (L := L) K.2.2.1.2.1
    have := K.2.2.1.2.2.2.1 ht0'
    omega
  obtain ⟨T0, HT0, -, -⟩ := id K.2.1
  -- the class's head that fails
  have headNO : ∀ h', FX3_readRuleHead (a + 90) h = some (nI 0, h') → cRule (a + 90) h = some (nI 0, h') := fun h' e => by
    unfold cRule
    rw [e, b2s, if_pos (by rw [n0]), n0]
  have cls : FX3_readRuleHead (a + 90) h = bind2 (FX3_takeNumber (a + 90) (nI 12) h1) fun x5 h6 => if x5 = 0 then some ((0 : Int32), h6) else (isO h6 (a + 90) 3).bind fun _ => bind2 (FX3_takeNumber (a + 90) (nI 12) h6) fun x8 h9 => if x8 = 0 then some ((0 : Int32), h9) else (hgr h9 (a + 90) 3 2).bind fun x10 => (hgi h9 (a + 90) 3 6).bind fun x11 => (hgi h9 (a + 90) 3 7).bind fun x12 => (isO h9 x10 5).bind fun _ => (FX5_borderNumberOf x10 x11 x12 h9).bind fun x14 => (_root_.Jvm.Pilot.CBorderBasisLaw_law_r2185_396265.hp h9 (a + 90) 3 10 (.int x14)).bind fun h15 => (hgi h15 (a + 90) 3 10).bind fun x16 => if x16 = (-1 : Int32) then (hgi h15 (a + 90) 3 9).bind fun x34 => (isO h15 (a + 90) 3).bind fun _ => bind2 (FX3_fail (a + 90) (4 : Int32) x34 h15) fun x36 h37 => if x36 = 0 ∨ x36 = 1 then some (x36, h37) else none else (hgr h15 (a + 90) 3 0).bind fun x17 => (isO h15 x17 7).bind fun _ => (FX7_isWord x17 2 h15).bind fun x19 => if x19 = 0 then (hgr h15 (a + 90) 3 0).bind fun x27 => (hgi h15 x27 7 3).bind fun x28 => (isO h15 (a + 90) 3).bind fun _ => bind2 (FX3_fail (a + 90) (1 : Int32) x28 h15) fun x30 h31 => if x30 = 0 ∨ x30 = 1 then some (x30, h31) else none else (hgr h15 (a + 90) 3 0).bind fun x20 => (isO h15 x20 7).bind fun _ => (FX7_advance x20 h15).bind fun h22 => (hgr h22 (a + 90) 3 2).bind fun x23 => (hgi h22 (a + 90) 3 10).bind fun x24 => (isO h22 x23 5).bind fun _ => (FX5_clearRule x23 x24 h22).bind fun h26 => some ((1 : Int32), h26) := by
    unfold FX3_readRuleHead
    rw [K.1.g0, gx_bs, HT0.o7, gx_bs, a1, gx_bs, a5.1.ob, gx_bs, n12]
  rw [gb a3]
  by_cases g1 : goodN (lexAt b L t.2.2.1) 0 12
  · obtain ⟨h2, S2, b1, b2, b3, b4, b5, b6⟩ := c_takeOK a5 (lim := 12) (by omega) g1
    have R2 := R1.t b2 b4 b5
    generalize hiv : (lexAt b L t.2.2.1).2.2.2.1 = i at b1 b3 b5 R2
    have hi : i ≤ 12 := by rw [← hiv]; exact g1.2.2
    have adv1 : (lexAt b L t.2.2.1).2.1 ≤ (lexAt b L (lexAt b L t.2.2.1).2.2.1).2.1 := by
      have := lex_adv (b := b) (L := L) a5.2.2.1.2.1
      have := a5.2.2.1.1
      omega
    generalize lexAt b L (lexAt b L t.2.2.1).2.2.1 = u at b5 R2 adv1
    rw [b1, b2s, if_neg (by rw [n0, nI_eqN (by omega) (by omega)]; omega), b5.1.ob, gx_bs] at cls
    by_cases g2' : goodN u 0 12
    · obtain ⟨h3, S3, d1, d2, d3, d4, d5, d6⟩ := c_takeOK b5 (lim := 12) (by omega) g2'
      have R3 := R2.t d2 d4 d5
      have q3 := good_r (lo := 0) b5.2.2.1 (show (12 : Nat) ≤ 9999 by omega) g2'.1
      have eqn : u.2.2.2.1 = u.2.2.2.2 := q3.2.1 g2'.2.2
      generalize hjv : u.2.2.2.1 = j at d1 d3 d5 R3 eqn
      have hj : j ≤ 12 := by rw [← hjv]; exact g2'.2.2
      have adv2 : u.2.1 ≤ (lexAt b L u.2.2.1).2.1 := by
        have := lex_adv (b := b) (L := L) b5.2.2.1.2.1
        have := b5.2.2.1.1
        omega
      generalize lexAt b L u.2.2.1 = v at d5 R3 adv2
      obtain ⟨K3, ⟨U3, hU3, sU3⟩, ⟨W3, hW3⟩, rc3, -⟩ := id R3
      have f6 : hgi h3 (a + 90) 3 6 = some (nI i) := by rw [K3.1.gi (by omega), upd_o (by decide), upd_o (by decide), upd_s, upd_o (by decide), upd_s]
      have f7 : hgi h3 (a + 90) 3 7 = some (nI j) := by rw [K3.1.gi (by omega), upd_o (by decide), upd_s]
      have bn : FX5_borderNumberOf (a + 91) (nI i) (nI j) h3 = some (ixI (Lb c.2.1) (i, j)) := by rw [hU3.run (F := FX5_borderNumberOf (a + 91) (nI i) (nI j)) eFX5_borderNumberOf, s_borderNumberOf sU3 w (by omega) (by omega)]
      have ba := g_borIx (S := S2) (i := i) (j := j) R2.2.2.2.1.2.2.1 (by omega) (Lb_small w) (by omega) (by omega)
      obtain ⟨h4, e1, e2, R4⟩ := R3.hp10 (k := 10) (v := ixI (Lb c.2.1) (i, j)) (by omega)
      have f10 : hgi h4 (a + 90) 3 10 = some (ixI (Lb c.2.1) (i, j)) := by rw [R4.1.1.gi (by omega), upd_s]
      have f9 : hgi h4 (a + 90) 3 9 = some (nI u.2.1) := by rw [R4.1.1.gi (by omega), upd_o (by decide), upd_s]
      rw [d1, b2s, if_neg (by rw [n0, nI_eqN (by omega) (by omega)]; omega), K3.1.g2, gx_bs, f6, gx_bs, f7, gx_bs, hU3.o5, gx_bs, bn, gx_bs, e1, gx_bs, f10, gx_bs] at cls
      have ref2 : gFX10_readRule S1 = if ixI (Lb c.2.1) (i, j) = (-1 : Int32) then gBX10_readRule_41 (nI i) (0 : Int32) S2 else gBX10_readRule_36 (nI i) S2 := by
        unfold gFX10_readRule
        rw [n0, n12, b3, b2s, m_looksOK b5.2.2.2.2.2.1 b5.2.2.1 (by omega) (by omega) g2', gx_bs, gx_bs, b5.2.2.2.2.2.2.1, if_neg (by rw [nI_ltN (by omega) (by omega)]; omega), gx_bs, b5.2.2.2.2.2.1.2.2.2 g2'.1, ← eqn, ba, gx_bs]
      rw [ref2]
      have sc4 := ((a2.tr b2).tr d2).tr e2
      by_cases hm : (i, j) ∈ Lb c.2.1
      · have hk := idx_lt hm
        have hix : ixI (Lb c.2.1) (i, j) = nI ((Lb c.2.1).idxOf (i, j)) := ixI_mem hm
        rw [hix] at cls R4 f10 ba ⊢
        generalize (Lb c.2.1).idxOf (i, j) = bi at cls R4 f10 hk ba ⊢
        have lb := l.2.2.2.1
        have K4 := R4.1
        obtain ⟨T4, HT4, -, hN4⟩ := id K4.2.1
        have w2 := K_word K4 (w := 2) (by omega)
        rw [show ciw 2 = 3 from rfl] at w2
        rw [if_neg (by rw [n1, nm1, nI_ne_m1 (by omega)]; exact id), K4.1.g0, gx_bs, HT4.o7, gx_bs, w2, gx_bs] at cls
        have ref3 : gBX10_readRule_36 (nI i) S2 = if (if wdF b v < 5 then nI (wdF b v) else m1) = (3 : Int32) then gBX10_readRule_88 (nI bi) (1 : Int32) S3 else gBX10_readRule_88 (nI bi) (0 : Int32) S3 := by
          unfold gBX10_readRule_36 gBX10_readRule_41 gBX10_readRule_65
          rw [n1, m_must1, gx_bs, gx_bs, b5.2.2.2.2.2.2.1, if_pos (by rw [n0, nI_leN (by omega) (by omega)]; omega), gx_bs, b5.2.2.2.2.2.1.2.2.2 g2'.1, ← eqn, ba, gx_bs, n0, n12, d3, b2s, R_word K3, gx_bs]
        rw [if_neg (by rw [n1, nm1, nI_ne_m1 (by omega)]; exact id), ref3]
        by_cases hw : wdF b v = 3
        · -- the word is there: the rule is cleared, its terms are read
          have hv0 : v.1 ≠ 0 := by
            have := ((wdF_iff (b := b) (t := v) (v := 3) (by omega)).mp hw).1
            omega
          rw [decide_eq_true hw, if_neg (by rw [bF]; decide)] at cls
          rw [hw, if_pos (show (3 : Nat) < 5 by omega), n3, if_pos rfl]
          obtain ⟨h5, S5, k1, k2, k3, k4, k5, k6⟩ := both_next K4
          have R5 := R4.t k2 k4 k5
          have adv3 : v.2.1 + 1 ≤ (lexAt b L v.2.2.1).2.1 := by
            have := lex_adv (b := b) (L := L) K4.2.2.1.2.1
            have := K4.2.2.1.2.2.2.1 hv0
            omega
          generalize lexAt b L v.2.2.1 = x5 at k5 R5 adv3
          obtain ⟨K5, ⟨U5, hU5, sU5⟩, ⟨W5, hW5⟩, rc5, -⟩ := id R5
          obtain ⟨U6, m1', m2⟩ := s_clearRule sU5 w hk
          have m3 : FX5_clearRule (a + 91) (nI bi) h5 = some (bput sK h5 (a + 91) U6) := by rw [hU5.run (F := FX5_clearRule (a + 91) (nI bi)) eFX5_clearRule, m1', gx_ms]
          have f10' : hgi h5 (a + 90) 3 10 = some (nI bi) := by rw [K5.1.gi (by omega), upd_s]
          rw [gx_bs, HT4.o7, gx_bs, k1, gx_bs, K5.1.g2, gx_bs, f10', gx_bs, hU5.o5, gx_bs, m3, gx_bs] at cls
          -- the reference clears twelve cells
          have clr : ∃ g, itr (fun s : Int32 × MS => gLX10_readRule_107 (nI bi) s.1 s.2) (nI 0, S5) = ((gFX10_isTermHere ((S5.1, setA S5.2 1 g) : MS)).bind fun x7 => itr (fun s : Int32 × Int32 × MS => gLX10_readRule_141 (nI bi) s.1 s.2.1 s.2.2) ((0 : Int32), x7, ((S5.1, setA S5.2 1 g) : MS))) ∧ RC g c.1 c.2.1 (fun b' k' => if b' = bi then 0 else c.2.2.1 b' k') c.2.2.2 := by
            have key : ∀ n k, k + n = 12 → ∀ g : Nat → Int32, RC g c.1 c.2.1 (fun b' k' => if b' = bi ∧ k' < k then 0 else c.2.2.1 b' k') c.2.2.2 → ∃ g', itr (fun s : Int32 × MS => gLX10_readRule_107 (nI bi) s.1 s.2) (nI k, ((S5.1, setA S5.2 1 g) : MS)) = ((gFX10_isTermHere ((S5.1, setA S5.2 1 g') : MS)).bind fun x7 => itr (fun s : Int32 × Int32 × MS => gLX10_readRule_141 (nI bi) s.1 s.2.1 s.2.2) ((0 : Int32), x7, ((S5.1, setA S5.2 1 g') : MS))) ∧ RC g' c.1 c.2.1 (fun b' k' => if b' = bi then 0 else c.2.2.1 b' k') c.2.2.2 := by
              intro n
              induction n with
              | zero =>
                intro k hk' g hg
                obtain rfl : k = 12 := by omega
                refine ⟨g, itr_exL ?_, ⟨hg.1, hg.2.1, hg.2.2.1, hg.2.2.2.1, fun b' k' h1 h2 => ?_, hg.2.2.2.2.2⟩⟩
                · unfold gLX10_readRule_107
                  dsimp only
                  rw [n12, if_pos (by rw [nI_leN (by omega) (by omega)]; omega)]
                · rw [hg.2.2.2.2.1 b' k' h1 h2]
                  dsimp only
                  by_cases e : b' = bi
                  · rw [if_pos ⟨e, by omega⟩, if_pos e]
                  · rw [if_neg (by omega), if_neg e]
              | succ n ih =>
                intro k hk' g hg
                have hs := hg.setAny w lm (k := k) (v := 0) hk (by omega)
                obtain ⟨g', i1, i2⟩ := ih (k + 1) (by omega) (upd g (56 + 12 * bi + k) (nI 0)) ⟨hs.1, hs.2.1, hs.2.2.1, hs.2.2.2.1, fun b' k' h1 h2 => by
                  rw [hs.2.2.2.2.1 b' k' h1 h2]
                  dsimp only
                  by_cases e1 : b' = bi ∧ k' = k
                  · rw [if_pos e1, if_pos (by omega)]
                  · rw [if_neg e1]
                    by_cases e2 : b' = bi ∧ k' < k
                    · rw [if_pos e2, if_pos (by omega)]
                    · rw [if_neg e2, if_neg (by omega)], hs.2.2.2.2.2⟩
                refine ⟨g', ?_, i2⟩
                rw [← i1]
                refine itr_inl ?_
                unfold gLX10_readRule_107 gFX10_ruleAt
                dsimp only
                rw [n12, if_neg (by rw [nI_leN (by omega) (by omega)]; omega), gx_bs, n56, nI_mul, nI_add, nI_add, n0, mK_s1 (by omega), gx_bs, n1, nI_add]
                simp only [mp1, mp2, setA_s, setA_2]
            have := key 12 0 rfl (S5.2 1) ⟨rc5.1, rc5.2.1, rc5.2.2.1, rc5.2.2.2.1, fun b' k' h1 h2 => by dsimp only; rw [rc5.2.2.2.2.1 b' k' h1 h2, if_neg (by omega)], rc5.2.2.2.2.2⟩
            rw [setA_id] at this
            exact this
          obtain ⟨g6, cl1, cl2⟩ := clr
          have oc6 : okC (c.1, c.2.1, (fun b' k' => if b' = bi then 0 else c.2.2.1 b' k'), c.2.2.2) := oc'.rule fun b' k' h1 h2 => by
            have pb := prs_b c.1 oc'.1
            split
            · omega
            · exact oc'.2.2.1 b' k' h1 h2
          have R6 := R5.mk2 (c' := (c.1, c.2.1, (fun b' k' => if b' = bi then 0 else c.2.2.1 b' k'), c.2.2.2)) (h' := bput sK h5 (a + 91) U6) (U' := U6) (W' := W5) (S' := ((S5.1, setA S5.2 1 g6) : MS)) (fun y y1 y2 => bp_else (by show y < a + 91 ∨ a + 91 + 8 < y; omega)) bH.put m2 (hW5.fr (Or.inl (by show a + 10 + 8 < a + 91; omega))) rfl (fun q q1 q3 => by rw [mp2, setA_o q1]) (by rw [mp2, setA_s]; exact cl2) oc6
          have sc6 : sch h (bput sK h5 (a + 91) U6) a := (sc4.tr k2).s.tr ⟨rfl, fun y y1 y2 => bp_else (by show y < a + 91 ∨ a + 91 + 8 < y; omega)⟩
          have sr6 : srch S ((S5.1, setA S5.2 1 g6) : MS) := (((a4.tr b4).tr d4).tr k4).s.tr ⟨fun _ _ => rfl, fun q q1 q3 => by rw [mp2, setA_o q1]⟩
          generalize bput sK h5 (a + 91) U6 = h6 at cls R6 sc6
          have ref4 : gBX10_readRule_88 (nI bi) (1 : Int32) S3 = ((gFX10_isTermHere ((S5.1, setA S5.2 1 g6) : MS)).bind fun x7 => itr (fun s : Int32 × Int32 × MS => gLX10_readRule_141 (nI bi) s.1 s.2.1 s.2.2) ((0 : Int32), x7, ((S5.1, setA S5.2 1 g6) : MS))) := by
            unfold gBX10_readRule_88
            rw [n1, m_must1, gx_bs, gx_bs, K3.2.2.2.2.2.2.1, if_pos (by rw [n0, nI_leN (by omega) (by omega)]; omega), k3, gx_bs, n0, cl1, n0]
          rw [ref4]
          generalize ((S5.1, setA S5.2 1 g6) : MS) = S6 at R6 sr6
          have K6 := R6.1
          obtain ⟨T6, HT6, -, hN6⟩ := id K6.2.1
          have cls2 : cRule (a + 90) h = bind2 (FX3_readRuleTerms (a + 90) h6) fun x34 h35 => if x34 = 0 then some ((0 : Int32), h35) else some ((1 : Int32), h35) := by
            unfold cRule
            rw [cls, b2s, if_neg (by rw [n0, n1, nI_eqN (by omega) (by omega)]; omega), K6.1.ob, gx_bs]
          have x6 := K6.2.2.1.2.2.1
          have ck6 := cK_lt x6
          by_cases h3 : x5.1 = 3
          · -- no terms
            left
            refine ⟨h6, S6, ?_, ?_, _, x5, _, sc6, sr6, R6, by omega⟩
            · rw [cls2]
              unfold FX3_readRuleTerms
              rw [K6.1.g0, gx_bs, HT6.t2, gx_bs, hN6.1, h3, n59, if_pos (show nI (cK 3) = nI 59 from rfl), b2s, if_neg (by rw [n0, n1, nI_eqN (by omega) (by omega)]; omega), n1]
            · unfold gFX10_isTermHere
              rw [gx_bs, K6.2.2.2.2.2.2.1, if_pos (by rw [n0]), gx_bs, K6.2.2.2.2.2.1.1, h3, n2, n5, if_neg (by rw [nI_eqN (by omega) (by omega)]; omega), gx_bs, if_neg (by rw [nI_eqN (by omega) (by omega)]; omega), gx_bs, n0]
              exact m_endLoop
          · have trm : FX3_readRuleTerms (a + 90) h6 = itr (fun s : Int32 × Int32 × jx_H => LX3_readRuleTerms_18 (a + 90) s.1 s.2.1 s.2.2) (nI 0, nI 0, h6) := by
              unfold FX3_readRuleTerms
              rw [K6.1.g0, gx_bs, HT6.t2, gx_bs, hN6.1, n59, if_neg (by rw [nI_eqN (by omega) (by omega)]; exact fun z => h3 (cK_ne (j := 3) x6 (by omega) z)), n0]
            rw [cls2, trm]
            have bt := both_terms (L + 1) h6 S6 _ x5 _ 0 0 bi (by omega) R6 (by rw [upd_s]) hk (by omega) (by omega)
            by_cases hterm : x5.1 = 2 ∨ x5.1 = 5
            · have th : gFX10_isTermHere S6 = some (nI 1) := by
                unfold gFX10_isTermHere
                rw [gx_bs, K6.2.2.2.2.2.2.1, if_pos (by rw [n0]), gx_bs, K6.2.2.2.2.2.1.1, n2, n5, n1]
                rcases hterm with h2 | h5'
                · rw [h2, if_pos rfl]
                · rw [h5', if_neg (by rw [nI_eqN (by omega) (by omega)]; omega), gx_bs, if_pos rfl]
              rw [th, gx_bs, n0]
              rcases bt with ⟨h', S', y1, y2, F', t', c', y3, y4, y5, y6⟩ | ⟨h', S', y1, y2, y3, y4, y5, y6⟩
              · left
                refine ⟨h', S', ?_, y2, F', t', c', sc6.tr y3, sr6.tr y4, y5, by omega⟩
                rw [y1, b2s, if_neg (by rw [nI_eqN (by omega) (by omega)]; omega), n1]
              · right; left
                refine ⟨h', S', ?_, y2, sc6.tr y3, sr6.tr y4, y5, y6⟩
                rw [y1, b2s, if_pos rfl]
            · -- no term here: the class fails; the reference fails where a semicolon must stand
              have ng : ¬ goodN x5 0 999 := fun z => hterm (Or.inl z.1)
              have h2' : x5.1 ≠ 2 := fun z => hterm (Or.inl z)
              have h5' : x5.1 ≠ 5 := fun z => hterm (Or.inr z)
              obtain ⟨h7, S7, y1, y2, y3, y4, y5, y6⟩ := c_takeNO K6 (lim := 999) (by omega) ng
              have es := takeNO_eq K6 (by omega) ng y3
              rw [if_neg h2'] at es
              have mu := m_must0 (c := 1) (s := x5.2.1) K6.2.2.2.2.2.2.1 K6.2.2.2.2.2.1.2.1
              rw [← es] at mu
              right; right
              refine ⟨h7, S6, S7, ?_, ?_, ?_, mu, sc6.tr y2.s, sr6.tr y5.s, y6, R6.b.t y2⟩
              · obtain ⟨-, ⟨U7, hU7, sU7⟩, -, -, -⟩ := id R6
                have gpr : hgi h6 (a + 91) 5 0 = some (nI c.1) := by rw [← sU7.1]; exact hU7.i0
                have e0 : LX3_readRuleTerms_18 (a + 90) (nI 0) (nI 0) h6 = exL (some (nI 0, h7)) := by
                  unfold LX3_readRuleTerms_18
                  rw [n900, if_neg (by rw [nI_leN (by omega) (by omega)]; omega), K6.1.g2, gx_bs, gpr, gx_bs, K6.1.ob, gx_bs]
                  unfold FX3_readTerm BX3_readTerm_17 BX3_readTerm_29
                  rw [K6.1.g0, gx_bs, HT6.t2, gx_bs, hN6.1, n45, if_neg (by rw [nI_eqN (by omega) (by omega)]; exact fun z => h5' (cK_ne (j := 5) x6 (by omega) z)), n0, if_pos rfl, K6.1.ob, gx_bs, n999, y1, b2s, if_pos rfl, b2s, if_pos rfl]
                rw [itr_exL e0, b2s, n0, if_pos rfl]
              · unfold gFX10_isTermHere
                rw [gx_bs, K6.2.2.2.2.2.2.1, if_pos (by rw [n0]), gx_bs, K6.2.2.2.2.2.1.1, n2, n5, if_neg (by rw [nI_eqN (by omega) (by omega)]; omega), gx_bs, if_neg (by rw [nI_eqN (by omega) (by omega)]; omega), gx_bs, n0]
                exact m_endLoop
              · rw [K6.2.2.2.2.2.1.1, Ne, nI_eqN (by omega) (by omega)]
                exact h3
        · -- another word: both fail here
          right; left
          rw [decide_eq_false hw, if_pos (by rw [bF]), gx_bs, HT4.t3, gx_bs, hN4.2.1, K4.1.ob, gx_bs] at cls
          obtain ⟨h5, k1, k2, k3, k4, k5⟩ := err2 (S := S3) (c := 1) (p := v.2.1) K4.1 (K4.2.1.imp fun _ z => ⟨z.1, z.2.1⟩) K3.2.2.2.2.2.2.1 K3.2.2.2.2.2.1.2.1 (by have := K3.2.2.1.1; have := K3.2.2.1.2.1; omega) (by omega) (by omega)
          obtain ⟨F9, c9, p9, -, -, q1, q2, -, -, -, q3', -⟩ := id k5
          refine ⟨h5, _, headNO _ ?_, ?_, (sc4.tr k2).s, (((a4.tr b4).tr d4).tr k4).s, k5, R4.b.t k2⟩
          · rw [cls, n1, k1, b2s, if_pos (Or.inl (by rw [n0]))]
          · have hne : (if wdF b v < 5 then nI (wdF b v) else m1) ≠ (3 : Int32) := by
              rw [n3]
              by_cases h5' : wdF b v < 5
              · rw [if_pos h5', Ne, nI_eqN (by omega) (by omega)]; exact hw
              · rw [if_neg h5', Ne, m1_ne_nI (by omega)]; exact id
            rw [if_neg hne]
            unfold gBX10_readRule_88
            rw [n0, n1, k3, gx_bs, gx_bs, q3', if_neg (by rw [nI_leN (by omega) (by omega)]; omega)]
      · right; left
        have hix : ixI (Lb c.2.1) (i, j) = m1 := by unfold ixI; rw [if_neg hm]
        rw [hix] at cls
        rw [if_pos (by rw [n1, nm1]), f9, gx_bs, R4.1.1.ob, gx_bs] at cls
        obtain ⟨h5, k1, k2, k3, k4, k5⟩ := err2 (S := S2) (c := 4) (p := u.2.1) R4.1.1 (R4.1.2.1.imp fun _ z => ⟨z.1, z.2.1⟩) b5.2.2.2.2.2.2.1 b5.2.2.2.2.2.1.2.1 (by have := b5.2.2.1.1; have := b5.2.2.1.2.1; omega) (by omega) (by omega)
        obtain ⟨F9, c9, p9, -, -, q1, q2, -, -, -, q3', -⟩ := id k5
        refine ⟨h5, _, headNO _ ?_, ?_, (sc4.tr k2).s, ((a4.tr b4).tr k4).s, k5, R4.b.t k2⟩
        · rw [cls, n4, k1, b2s, if_pos (Or.inl (by rw [n0]))]
        · rw [hix, if_pos (by rw [n1, nm1])]
          unfold gBX10_readRule_41
          rw [n0, n4, k3, gx_bs, gx_bs, q3', if_neg (by rw [nI_leN (by omega) (by omega)]; omega)]
          exact m_ruleE q3' (by omega) q2 (R_wordE b5)
    · right; left
      obtain ⟨h3, S3, d1, d2, d3, d4, d5, d6⟩ := c_takeNO b5 (lim := 12) (by omega) g2'
      obtain ⟨F9, c9, p9, -, -, q1, q2, -, -, -, q3, -⟩ := id d6
      have es := takeNO_eq b5 (by omega) g2' d3
      refine ⟨h3, S3, headNO _ (by rw [cls, d1, b2s, if_pos (by rw [n0]), n0]), ?_, ((a2.tr b2).tr d2).s, ((a4.tr b4).tr d5).s, d6, R2.b.t d2⟩
      unfold gFX10_readRule
      rw [n0, n12, b3, b2s, d3, gx_bs, gx_bs, q3, if_pos (by rw [nI_ltN (by omega) (by omega)]; omega)]
      unfold gBX10_readRule_36 gBX10_readRule_41
      rw [n1, m_must1, gx_bs, gx_bs, q3, if_neg (by rw [n0, nI_leN (by omega) (by omega)]; omega)]
      exact m_ruleE q3 (by omega) q2 (by rw [es]; exact R_wordE b5)
  · right; left
    obtain ⟨h2, S2, b1, b2, b3, b4, b5, b6⟩ := c_takeNO a5 (lim := 12) (by omega) g1
    obtain ⟨F9, c9, p9, -, -, q1, q2, -, -, -, q3, -⟩ := id b6
    have es := takeNO_eq a5 (by omega) g1 b3
    refine ⟨h2, S2, headNO _ (by rw [cls, b1, b2s, if_pos (by rw [n0]), n0]), ?_, (a2.tr b2).s, (a4.tr b5).s, b6, R1.b.t b2⟩
    unfold gFX10_readRule
    rw [n0, n12, b4, b2s, m_looksE q3 (by omega) q2, gx_bs, gx_bs, q3, if_pos (by rw [nI_ltN (by omega) (by omega)]; omega)]
    unfold gBX10_readRule_36 gBX10_readRule_41
    rw [n1, m_must1, gx_bs, gx_bs, q3, if_neg (by rw [n0, nI_leN (by omega) (by omega)]; omega)]
    exact m_ruleE q3 (by omega) q2 (by rw [es]; exact R_wordE a5)
end
