/-! the parser: a setup's text, on both sides -/
theorem Lm_ht0 : Lm ht0 = [(0, 0)] := by decide +kernel
theorem okC_0 : okC (31, ht0, (fun _ _ => 0), []) := ⟨by decide +kernel, wfh_0, fun _ _ _ _ => by show 0 < 31; omega, ⟨by show 0 ≤ 12; omega, List.nodup_nil, fun q hq => by (cases hq)⟩⟩
/-- the reference begins -/
theorem g_begins {S : MS} : ∃ g, gFX10_begins S = some (S.1, setA S.2 1 g) ∧ RC g 31 ht0 (fun _ _ => 0) [] := by
  have key : ∀ n k, k + n = 248 → ∀ g : Nat → Int32, (∀ q, q < k → g q = nI 0) → ∃ g', itr (fun s : Int32 × MS => gLX10_begins_2 s.1 s.2) (nI k, ((S.1, setA S.2 1 g) : MS)) = some ((S.1, setA S.2 1 g') : MS) ∧ RC g' 31 ht0 (fun _ _ => 0) [] := by
    intro n
    induction n with
    | zero =>
      intro k hk g hg
      obtain rfl : k = 248 := by omega
      have HM : NowM (upd (upd g 0 (nI 31)) 1 (nI 1)) (Lm ht0) := by
        rw [Lm_ht0]
        refine ⟨by rw [upd_s]; rfl, fun k hk => ?_⟩
        obtain rfl : k = 0 := by
          have : k < 1 := hk
          omega
        rw [upd_o (by omega), upd_o (by omega), upd_o (by omega), upd_o (by omega), hg _ (by omega), hg _ (by omega)]
        exact ⟨rfl, rfl⟩
      obtain ⟨g2, e, hM, hB, hz, hf⟩ := g_laysBorder (S := ((S.1, setA S.2 1 (upd (upd g 0 (nI 31)) 1 (nI 1))) : MS)) (M := Lm ht0) (by show NowM (setA S.2 1 _ 1) _; rw [setA_s]; exact HM) (Lm_ok wfh_0)
      have s2 : (setA (setA S.2 1 (upd (upd g 0 (nI 31)) 1 (nI 1))) 1 g2) = setA S.2 1 g2 := setA_2
      refine ⟨g2, itr_exL ?_, ?_, hM, ?_, ?_, fun b k hb hk => ?_, fun k hk => by cases hk⟩
      · unfold gLX10_begins_2
        dsimp only
        rw [n248, if_pos (by rw [nI_leN (by omega) (by omega)]; omega), n0, n31, n1, mK_s1 (by omega), gx_bs, mK_s1 (by omega), gx_bs]
        simp only [mp1, mp2, setA_s, setA_2]
        rw [e, gx_bs]
        simp only [mp1, mp2, setA_2]
      · rw [hf 0 (by omega) (by omega), mp2, setA_s, upd_o (by decide), upd_s]
      · rw [← (Lm_a wfh_0).2.2.1]; exact hB
      · rw [hf 3 (by omega) (by omega), mp2, setA_s, upd_o (by decide), upd_o (by decide), hg 3 (by omega)]; rfl
      · have l := Lm_len wfh_0
        rw [hz _ (by omega)]
    | succ n ih =>
      intro k hk g hg
      obtain ⟨g', i1, i2⟩ := ih (k + 1) (by omega) (upd g k (nI 0)) fun q hq => by
        by_cases e : q = k
        · rw [e, upd_s]
        · rw [upd_o e]; exact hg q (by omega)
      refine ⟨g', ?_, i2⟩
      rw [← i1]
      refine itr_inl ?_
      unfold gLX10_begins_2
      dsimp only
      rw [n248, if_neg (by rw [nI_leN (by omega) (by omega)]; omega), n0, mK_s1 (by omega), gx_bs, n1, nI_add]
      simp only [mp1, mp2, setA_s, setA_2]
  obtain ⟨g', i1, i2⟩ := key 248 0 rfl (S.2 1) (fun q hq => by omega)
  rw [setA_id] at i1
  refine ⟨g', ?_, i2⟩
  unfold gFX10_begins
  rw [n0]
  exact i1
section
variable {h : jx_H} {S : MS} {a L : Nat} {F : Nat → Int32} {b : Nat → Nat} {t : Tok} {c : Cf}
/-- both open the text -/
theorem both_open (P : PO h a F) {T : MS} (HT : bH tK h (a + 88) T) (H : cTx T L b) (Hr : rTx S L b) (W : WD S) : ∃ h' S' F', FX3_begin (a + 90) h = some h' ∧ gFX10_opensText S = some S' ∧ tch h h' a ∧ rch S S' ∧ TKR h' S' a F' L b (lexAt b L 0) := by
  obtain ⟨p1, t1⟩ := hpPO (h := h) (a := a) (F := F) (v := nI 0) (k := 4)
  obtain ⟨p2, t2⟩ := hpPO (h := ((h.1, jx_up h.2 (a + 90) (.inr (3, pO a (upd F 4 (nI 0))))) : jx_H)) (a := a) (F := upd F 4 (nI 0)) (v := m1) (k := 5)
  generalize hh1 : ((h.1, jx_up h.2 (a + 90) (.inr (3, pO a (upd F 4 (nI 0))))) : jx_H) = h1 at p1 t1 p2 t2
  generalize hh2 : ((h1.1, jx_up h1.2 (a + 90) (.inr (3, pO a (upd (upd F 4 (nI 0)) 5 m1)))) : jx_H) = h2 at p2 t2
  have HT2 : bH tK h2 (a + 88) T := by rw [← hh2]; refine bH.tup ?_; rw [← hh1]; exact HT.tup
  obtain ⟨T', k1, k2⟩ := c_advance (h := h2) (q := a + 88) (T := gpi T 4 (nI 0)) (i := 0) (L := L) (b := b) ⟨H.1, by rw [gpi_1, upd_o (by decide)]; exact H.2.1, by rw [gpi_2]; exact H.2.2⟩ (Nat.zero_le _) (by rw [gpi_1, upd_s])
  obtain ⟨S', j1, j2⟩ := m_goesOn (S := gpi (gpi (gpi S 11 (nI 0)) 15 (nI 0)) 16 m1) (i := 0) (L := L) (b := b) ⟨Hr.1, by rw [gpi_1, gpi_1, gpi_1, upd_o (by decide), upd_o (by decide), upd_o (by decide)]; exact Hr.2.1, by rw [gpi_2, gpi_2, gpi_2]; exact Hr.2.2⟩ (Nat.zero_le _) (by rw [gpi_1, gpi_1, gpi_1, upd_o (by decide), upd_o (by decide), upd_s])
  have r : rch S S' := ⟨by rw [j2.1, gpi_2, gpi_2, gpi_2], fun q hq => by rw [j2.2.1 q (by omega), gpi_1, gpi_1, gpi_1, upd_o (by omega), upd_o (by omega), upd_o (by omega)]⟩
  refine ⟨bput tK h2 (a + 88) T', S', upd (upd F 4 (nI 0)) 5 m1, ?_, ?_, (t1.tr t2).tr ⟨rfl, fun x x1 x2 x3 => bp_else (by show x < a + 88 ∨ a + 88 + 1 < x; omega)⟩, r, p2.fr (bp_else (by show a + 90 < a + 88 ∨ a + 88 + 1 < a + 90; omega)), ⟨T', bH.put, ⟨H.1, ?_, ?_⟩, k2.now⟩, lex_tk (Nat.zero_le _), ⟨Hr.1, ?_, ?_⟩, W.fr (by rw [r.1]), j2.now, ?_, ?_, ?_, ?_⟩
  · unfold FX3_begin
    rw [n0, n1, nm1, P.hp (by omega), gx_bs, hh1, p1.hp (by omega), gx_bs, hh2, p2.g0, gx_bs, HT2.o7, gx_bs]
    have rw1 : FX7_rewind (a + 88) h2 = some (bput tK h2 (a + 88) T') := HT2.run (F := FX7_rewind (a + 88)) (by
      unfold FX7_rewind
      rw [n0, tK_pi4, gx_bs, tK_ob, gx_bs, k1, gx_bs])
    rw [rw1, gx_bs]
  · unfold gFX10_opensText
    rw [gx_bs, gx_bs, n0, n1, nm1, gx_bs, j1, gx_bs]
  · rw [k2.2.1, gpi_1, upd_o (by decide)]; exact H.2.1
  · rw [k2.1, gpi_2]; exact H.2.2
  · rw [r.2 10 (by omega)]; exact Hr.2.1
  · rw [r.1]; exact Hr.2.2
  · rw [j2.2.1 15 (by omega), gpi_1, upd_o (by decide), gpi_1, upd_s]
  · rw [j2.2.1 16 (by omega), gpi_1, upd_s]
  · rw [upd_o (by decide), upd_s]
  · rw [upd_s]
/-- the loop over statements -/
def ldOK (h h' : jx_H) (S S' : MS) (a L : Nat) (b : Nat → Nat) : Prop := ∃ F' t' c', sch h h' a ∧ srch S S' ∧ SIM h' S' a F' L b t' c'
theorem both_load : ∀ (n : Nat) (h : jx_H) (S : MS) (F : Nat → Int32) (t : Tok) (c : Cf) (d : Nat), L < t.2.1 + n → SIM h S a F L b t c → d ≤ t.2.1 → (d = 0 → c = (31, ht0, (fun _ _ => 0), [])) →
    (∃ h' S', itr (fun s : Int32 × Int32 × jx_H => LX3_readSetup_15 (a + 90) s.1 s.2.1 s.2.2) (nI 1, nI d, h) = some (nI 1, h') ∧ itr (fun s : Int32 × MS => gLX10_load_23 s.1 s.2) (bI (decide (d = 0)), S) = gBX10_load_47 S' ∧ ldOK h h' S S' a L b) ∨ (∃ h' S', itr (fun s : Int32 × Int32 × jx_H => LX3_readSetup_15 (a + 90) s.1 s.2.1 s.2.2) (nI 1, nI d, h) = some (nI 0, h') ∧ itr (fun s : Int32 × MS => gLX10_load_23 s.1 s.2) (bI (decide (d = 0)), S) = gBX10_load_47 S' ∧ stER h h' S S' a L b)
  | 0, h, S, F, t, c, d, hn, R, _, _ => by
    have := R.1.2.2.1.1
    have := R.1.2.2.1.2.1
    omega
  | n + 1, h, S, F, t, c, d, hn, R, hd, hc => by
    obtain ⟨K, -⟩ := id R
    obtain ⟨T0, HT0, -, hN0⟩ := id K.2.1
    have hL := K.2.2.2.1.1.1
    have tl := K.2.2.1
    have ck := cK_lt tl.2.2.1
    have t6 := tl.2.2.1
    have tL := tl.2.1
    by_cases h0 : t.1 = 0
    · left
      refine ⟨h, S, itr_exL ?_, itr_exL ?_, F, t, c, sch.rf, srch.rf, R⟩
      · unfold LX3_readSetup_15
        dsimp only
        rw [n0, if_neg (by rw [nI_eqN (by omega) (by omega)]; omega), K.1.g0, gx_bs, HT0.t2, gx_bs, hN0.1, h0, if_pos (show nI (cK 0) = nI 0 from rfl), if_pos (Or.inr (by rw [n1]))]
      · unfold gLX10_load_23
        dsimp only
        rw [gx_bs, K.2.2.2.2.2.2.1, if_pos (by rw [n0]), gx_bs, K.2.2.2.2.2.1.1, h0, if_pos (by rw [n0])]
    · have hlt := tl.2.2.2.1 h0
      have cls : LX3_readSetup_15 (a + 90) (nI 1) (nI d) h = BX3_readSetup_46 (a + 90) (nI d) (a + 90) (bI (decide (d = 0))) h := by
        unfold LX3_readSetup_15
        rw [n0, if_neg (by rw [nI_eqN (by omega) (by omega)]; omega), K.1.g0, gx_bs, HT0.t2, gx_bs, hN0.1, if_neg (fun z => h0 (cK_ne tl.2.2.1 (by omega) (by rw [nI_eqN (by omega) (by omega)] at z; exact z.trans rfl))), n900, if_neg (by rw [nI_leN (by omega) (by omega)]; omega)]
        by_cases d0 : d = 0
        · rw [if_pos (by rw [d0]), decide_eq_true d0, n1]
          rfl
        · rw [if_neg (by rw [nI_eqN (by omega) (by omega)]; exact d0), decide_eq_false d0]
          rfl
      have ref : gLX10_load_23 (bI (decide (d = 0))) S = (gFX10_readStatement (bI (decide (d = 0))) S).bind fun h24 => some (.inl (nI 0, h24)) := by
        unfold gLX10_load_23
        rw [gx_bs, K.2.2.2.2.2.2.1, if_pos (by rw [n0]), gx_bs, K.2.2.2.2.2.1.1, if_neg (by rw [n0, nI_eqN (by omega) (by omega)]; exact h0), n0]
      have nx : nI d + 1 = nI (d + 1) := by rw [n1, nI_add]
      have b0 : bI (decide (d + 1 = 0)) = nI 0 := by rw [decide_eq_false (by omega)]; rfl
      rcases both_stmt (fi := decide (d = 0)) (l := nI d) R h0 (fun z => hc (of_decide_eq_true z)) with ⟨h1, S1, a1, a2, F1, t1, c1, a3, a4, a5, a6⟩ | ⟨h1, S1, a1, a2, a3, a4, a5, a6⟩
      · have ih := both_load n h1 S1 F1 t1 c1 (d + 1) (by omega) a5 (by omega) (fun z => by omega)
        rw [b0] at ih
        have e1 : itr (fun s : Int32 × Int32 × jx_H => LX3_readSetup_15 (a + 90) s.1 s.2.1 s.2.2) (nI 1, nI d, h) = itr (fun s : Int32 × Int32 × jx_H => LX3_readSetup_15 (a + 90) s.1 s.2.1 s.2.2) (nI 1, nI (d + 1), h1) := itr_inl (by dsimp only; rw [cls, a1, nx])
        have e2 : itr (fun s : Int32 × MS => gLX10_load_23 s.1 s.2) (bI (decide (d = 0)), S) = itr (fun s : Int32 × MS => gLX10_load_23 s.1 s.2) (nI 0, S1) := itr_inl (by dsimp only; rw [ref, a2, gx_bs])
        rw [e1, e2]
        rcases ih with ⟨h', S', x1, x2, F', t', c', x3, x4, x5⟩ | ⟨h', S', x1, x2, x3, x4, x5, x6⟩
        · exact Or.inl ⟨h', S', x1, x2, F', t', c', a3.tr x3, a4.tr x4, x5⟩
        · exact Or.inr ⟨h', S', x1, x2, a3.tr x3, a4.tr x4, x5, x6⟩
      · right
        obtain ⟨F9, c9, p9, -, -, q1, q2, -, -, -, q3, -⟩ := id a5
        have e1 : itr (fun s : Int32 × Int32 × jx_H => LX3_readSetup_15 (a + 90) s.1 s.2.1 s.2.2) (nI 1, nI d, h) = itr (fun s : Int32 × Int32 × jx_H => LX3_readSetup_15 (a + 90) s.1 s.2.1 s.2.2) (nI 0, nI (d + 1), h1) := itr_inl (by dsimp only; rw [cls, a1, nx])
        have e2 : itr (fun s : Int32 × MS => gLX10_load_23 s.1 s.2) (bI (decide (d = 0)), S) = itr (fun s : Int32 × MS => gLX10_load_23 s.1 s.2) (nI 0, S1) := itr_inl (by dsimp only; rw [ref, a2, gx_bs])
        rw [e1, e2]
        refine ⟨h1, S1, itr_exL ?_, itr_exL ?_, a3, a4, a5, a6⟩
        · unfold LX3_readSetup_15
          dsimp only
          rw [n0, if_pos rfl, if_pos (Or.inl rfl)]
        · unfold gLX10_load_23
          dsimp only
          rw [gx_bs, q3, if_neg (by rw [n0, nI_eqN (by omega) (by omega)]; omega)]
end
