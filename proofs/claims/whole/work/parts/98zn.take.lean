/-! the parser: one number, on both sides -/
def pO (a : Nat) (F : Nat → Int32) : List Value := [.ref (a + 88), .ref (a + 10), .ref (a + 91), .ref (a + 100), .int (F 4), .int (F 5), .int (F 6), .int (F 7), .int (F 8), .int (F 9), .int (F 10)]
def PO (h : jx_H) (a : Nat) (F : Nat → Int32) : Prop := h.2 (a + 90) = some (.inr (3, pO a F))
/-- what reading tokens may change of the heap, of the reference -/
def tch (h h' : jx_H) (a : Nat) : Prop := h'.1 = h.1 ∧ ∀ x, x ≠ a + 88 → x ≠ a + 89 → x ≠ a + 90 → h'.2 x = h.2 x
theorem tch.rf {h : jx_H} {a : Nat} : tch h h a := ⟨rfl, fun _ _ _ _ => rfl⟩
theorem tch.tr {h h1 h2 : jx_H} {a : Nat} (x : tch h h1 a) (y : tch h1 h2 a) : tch h h2 a := ⟨y.1.trans x.1, fun q a1 a2 a3 => (y.2 q a1 a2 a3).trans (x.2 q a1 a2 a3)⟩
def rch (S S' : MS) : Prop := S'.2 = S.2 ∧ ∀ q, ¬ (11 ≤ q ∧ q ≤ 19) → S'.1 q = S.1 q
theorem rch.rf {S : MS} : rch S S := ⟨rfl, fun _ _ => rfl⟩
theorem rch.tr {S T U : MS} (x : rch S T) (y : rch T U) : rch S U := ⟨y.1.trans x.1, fun q h => (y.2 q h).trans (x.2 q h)⟩
/-- both sides stand at one token, without an error -/
def TKR (h : jx_H) (S : MS) (a : Nat) (F : Nat → Int32) (L : Nat) (b : Nat → Nat) (t : Tok) : Prop := PO h a F ∧ (∃ T, bH tK h (a + 88) T ∧ cTx T L b ∧ cNow T t) ∧ tkOK L t ∧ rTx S L b ∧ WD S ∧ rNow S t ∧ S.1 15 = nI 0 ∧ S.1 16 = m1 ∧ F 4 = nI 0 ∧ F 5 = m1
/-- both sides have the same error -/
def ERR (h : jx_H) (S : MS) (a : Nat) (L : Nat) (b : Nat → Nat) : Prop := ∃ F code pos, PO h a F ∧ (∃ T, bH tK h (a + 88) T ∧ cTx T L b) ∧ 1 ≤ code ∧ code ≤ 5 ∧ pos ≤ L ∧ F 4 = nI code ∧ F 5 = nI pos ∧ S.1 15 = nI code ∧ S.1 16 = nI pos
section
variable {h : jx_H} {S : MS} {a L : Nat} {F : Nat → Int32} {b : Nat → Nat} {t : Tok}
theorem PO.hp (P : PO h a F) {k : Nat} {v : Int32} (hk : 4 ≤ k ∧ k ≤ 10) : hp h (a + 90) 3 k (.int v) = some (h.1, jx_up h.2 (a + 90) (.inr (3, pO a (upd F k v)))) := by
  have hc : k = 4 ∨ k = 5 ∨ k = 6 ∨ k = 7 ∨ k = 8 ∨ k = 9 ∨ k = 10 := by omega
  rcases hc with rfl | rfl | rfl | rfl | rfl | rfl | rfl <;> exact hp_ob P (Nat.le_of_ble_eq_true rfl)
theorem PO.gi (P : PO h a F) {k : Nat} (hk : 4 ≤ k ∧ k ≤ 10) : hgi h (a + 90) 3 k = some (F k) := by
  have hc : k = 4 ∨ k = 5 ∨ k = 6 ∨ k = 7 ∨ k = 8 ∨ k = 9 ∨ k = 10 := by omega
  rcases hc with rfl | rfl | rfl | rfl | rfl | rfl | rfl <;> exact hgi_ob P rfl
theorem PO.g0 (P : PO h a F) : hgr h (a + 90) 3 0 = some (a + 88) := hgr_ob P rfl
theorem PO.g1 (P : PO h a F) : hgr h (a + 90) 3 1 = some (a + 10) := hgr_ob P rfl
theorem PO.g2 (P : PO h a F) : hgr h (a + 90) 3 2 = some (a + 91) := hgr_ob P rfl
theorem PO.g3 (P : PO h a F) : hgr h (a + 90) 3 3 = some (a + 100) := hgr_ob P rfl
theorem PO.ob (P : PO h a F) : isO h (a + 90) 3 = some () := isO_ob P
theorem PO.fr {h' : jx_H} (P : PO h a F) (e : h'.2 (a + 90) = h.2 (a + 90)) : PO h' a F := by show _ = _; rw [e]; exact P
/-- a field of the Parser changes -/
theorem hpPO {v : Int32} {k : Nat} : PO ((h.1, jx_up h.2 (a + 90) (.inr (3, pO a (upd F k v)))) : jx_H) a (upd F k v) ∧ tch h ((h.1, jx_up h.2 (a + 90) (.inr (3, pO a (upd F k v)))) : jx_H) a := ⟨up_s, rfl, fun x _ _ q => up_o q⟩
theorem bH.o7 {h : jx_H} {q : Nat} {S : MS} (H : bH tK h q S) : isO h q 7 = some () := isO_ob H.1
theorem bH.t2 {h : jx_H} {q : Nat} {S : MS} (H : bH tK h q S) : hgi h q 7 2 = some (S.1 2) := hgi_ob H.1 rfl
theorem bH.t3 {h : jx_H} {q : Nat} {S : MS} (H : bH tK h q S) : hgi h q 7 3 = some (S.1 3) := hgi_ob H.1 rfl
theorem bH.t5 {h : jx_H} {q : Nat} {S : MS} (H : bH tK h q S) : hgi h q 7 5 = some (S.1 5) := hgi_ob H.1 rfl
theorem bH.tup {h : jx_H} {q : Nat} {S : MS} {e : jx_E} (H : bH tK h (q + 88) S) : bH tK ((h.1, jx_up h.2 (q + 90) e) : jx_H) (q + 88) S := H.same fun x x1 x2 => by
  have x2 : x ≤ q + 88 + 1 := x2
  exact up_o (by omega)
/-- the class fails -/
theorem c_fail (P : PO h a F) {c p : Int32} : ∃ h', FX3_fail (a + 90) c p h = some (nI 0, h') ∧ PO h' a (upd (upd F 4 c) 5 p) ∧ tch h h' a ∧ ∀ {T : MS}, bH tK h (a + 88) T → bH tK h' (a + 88) T := by
  obtain ⟨p1, t1⟩ := hpPO (h := h) (a := a) (F := F) (v := c) (k := 4)
  obtain ⟨p2, t2⟩ := hpPO (h := ((h.1, jx_up h.2 (a + 90) (.inr (3, pO a (upd F 4 c)))) : jx_H)) (a := a) (F := upd F 4 c) (v := p) (k := 5)
  refine ⟨_, ?_, p2, t1.tr t2, fun H => H.tup.tup⟩
  unfold FX3_fail
  rw [P.hp (by omega), gx_bs, p1.hp (by omega), gx_bs, n0]
/-- the class goes on to the next token -/
theorem c_next {T : MS} (HT : bH tK h (a + 88) T) (H : cTx T L b) (hN : cNow T t) (ok : tkOK L t) : ∃ h' T', FX7_advance (a + 88) h = some h' ∧ tch h h' a ∧ h'.2 (a + 90) = h.2 (a + 90) ∧ bH tK h' (a + 88) T' ∧ cTx T' L b ∧ cNow T' (lexAt b L t.2.2.1) := by
  obtain ⟨T', e1, e2⟩ := c_advance (h := h) (q := a + 88) H ok.2.1 hN.2.2.1
  rw [HT.eq] at e1
  refine ⟨_, T', e1, ⟨rfl, fun x a1 a2 a3 => bp_else ?_⟩, bp_else ?_, bH.put, e2.tx H, e2.now⟩
  · show x < a + 88 ∨ a + 88 + 1 < x
    omega
  · show a + 90 < a + 88 ∨ a + 88 + 1 < a + 90
    omega
theorem m_next (H : rTx S L b) (hN : rNow S t) (ok : tkOK L t) : ∃ S', gFX10_goesOn S = some S' ∧ rch S S' ∧ rTx S' L b ∧ rNow S' (lexAt b L t.2.2.1) ∧ (∀ q, ¬ (11 ≤ q ∧ q ≤ 14) → S'.1 q = S.1 q) := by
  obtain ⟨S', e1, e2⟩ := m_goesOn H ok.2.1 hN.2.2.1
  exact ⟨S', e1, ⟨e2.1, fun q hq => e2.2.1 q (by omega)⟩, e2.tx H, e2.now, e2.2.1⟩
theorem WD.fr {S' : MS} (W : WD S) (e : S'.2 = S.2) : WD S' := by unfold WD; rw [e]; exact W
/-- the next token, on both sides -/
theorem both_next (R : TKR h S a F L b t) : ∃ h' S', FX7_advance (a + 88) h = some h' ∧ tch h h' a ∧ gFX10_goesOn S = some S' ∧ rch S S' ∧ TKR h' S' a F L b (lexAt b L t.2.2.1) ∧ (∀ q, ¬ (11 ≤ q ∧ q ≤ 14) → S'.1 q = S.1 q) := by
  obtain ⟨P, ⟨T, HT, H, hN⟩, ok, Hr, W, hr, he, e16, f4, f5⟩ := R
  obtain ⟨h', T', a1, a2, a3, a4, a5, a6⟩ := c_next HT H hN ok
  obtain ⟨S', b1, b2, b3, b4, b5⟩ := m_next Hr hr ok
  exact ⟨h', S', a1, a2, b1, b2, ⟨P.fr a3, ⟨T', a4, a5, a6⟩, lex_tk ok.2.1, b3, W.fr b2.1, b4, by rw [b5 15 (by omega)]; exact he, by rw [b5 16 (by omega)]; exact e16, f4, f5⟩, b5⟩
theorem m_fails {c : Int32} {s : Nat} (he : S.1 15 = nI 0) (hs : S.1 12 = nI s) : gFX10_fails c S = some (gpi (gpi S 15 c) 16 (nI s)) := by
  unfold gFX10_fails
  rw [gx_bs, he, if_pos (by rw [n0]), gx_bs, gx_bs, gpi_1, upd_o (by decide), hs, gx_bs]
theorem cK_2 {k : Nat} : cK k = 2 ↔ k = 2 := by
  unfold cK
  constructor
  · intro h
    split at h
    · omega
    · split at h
      · omega
      · split at h
        · omega
        · split at h
          · omega
          · exact h
  · rintro rfl; rfl
/-- a number that is right, from lo to hi -/
def goodN (t : Tok) (lo hi : Nat) : Prop := t.1 = 2 ∧ lo ≤ t.2.2.2.1 ∧ t.2.2.2.1 ≤ hi
theorem good_r {lo hi : Nat} (ok : tkOK L t) (hh : hi ≤ 9999) (h2 : t.1 = 2) : (lo ≤ t.2.2.2.1 ∧ t.2.2.2.1 ≤ hi ↔ lo ≤ t.2.2.2.2 ∧ t.2.2.2.2 ≤ hi) ∧ (t.2.2.2.1 ≤ hi → t.2.2.2.1 = t.2.2.2.2) ∧ t.2.2.2.2 ≤ 100099 ∧ t.2.2.2.1 ≤ 100000 := by
  have := ok.2.2.2.2 h2
  unfold numQ at this
  omega
/-- the reference looks at a number: it is right -/
theorem m_looksOK {lo hi : Nat} (hr : rNow S t) (ok : tkOK L t) (hh : hi ≤ 9999) (hl : lo ≤ 9999) (g : goodN t lo hi) : gFX10_looks (nI lo) (nI hi) S = some S := by
  have q := good_r (lo := lo) ok hh g.1
  unfold gFX10_looks
  rw [gx_bs, hr.1, g.1, n2, if_pos rfl, gx_bs, hr.2.2.2 g.1, m_inN (by omega) (by omega) (by omega), gx_bs, decide_eq_true (q.1.mp g.2).1, decide_eq_true (q.1.mp g.2).2, if_neg (by rw [bF]; decide)]
/-- it is wrong -/
theorem m_looksNO {lo hi : Nat} (hr : rNow S t) (ok : tkOK L t) (he : S.1 15 = nI 0) (hh : hi ≤ 9999) (hl : lo ≤ 9999) (g : ¬ goodN t lo hi) : gFX10_looks (nI lo) (nI hi) S = some (gpi (gpi S 15 (nI (if t.1 = 2 then 2 else 1))) 16 (nI t.2.1)) := by
  have k6 := ok.2.2.1
  unfold gFX10_looks
  rw [gx_bs, hr.1]
  by_cases h2 : t.1 = 2
  · have q := good_r (lo := lo) ok hh h2
    rw [h2, n2, if_pos rfl, gx_bs, hr.2.2.2 h2, m_inN (by omega) (by omega) (by omega), gx_bs]
    have : (decide (lo ≤ t.2.2.2.2) && decide (t.2.2.2.2 ≤ hi)) = false := by
      refine Bool.eq_false_iff.mpr fun z => g ⟨h2, q.1.mpr ?_⟩
      rw [Bool.and_eq_true] at z
      exact ⟨of_decide_eq_true z.1, of_decide_eq_true z.2⟩
    rw [this, if_pos (by rw [bF]), m_fails he hr.2.1, gx_bs, if_pos rfl]
  · rw [n2, if_neg (by rw [nI_eqN (by omega) (by omega)]; exact h2), n1, m_fails he hr.2.1, gx_bs, if_neg h2]
/-- an error stays: nothing more is read -/
theorem m_looksE {lo hi : Int32} {e : Nat} (he : S.1 15 = nI e) (h0 : 0 < e) (h5 : e ≤ 5) : gFX10_looks lo hi S = some S := by
  have hf : ∀ c, gFX10_fails c S = some S := fun c => by
    unfold gFX10_fails
    rw [gx_bs, he, if_neg (by rw [n0, nI_eqN (by omega) (by omega)]; omega)]
  unfold gFX10_looks
  rw [gx_bs]
  by_cases h : S.1 13 = (2 : Int32)
  · rw [if_pos h, gx_bs]
    unfold gFX10_in
    by_cases c1 : S.1 14 < lo
    · rw [if_pos c1, gx_bs, if_pos rfl, hf, gx_bs]
    · rw [if_neg c1]
      by_cases c2 : hi < S.1 14
      · rw [if_pos c2, gx_bs, if_pos rfl, hf, gx_bs]
      · rw [if_neg c2, gx_bs, if_neg (by decide)]
  · rw [if_neg h, hf, gx_bs]
theorem m_readsE {lo hi : Int32} {e : Nat} (he : S.1 15 = nI e) (h0 : 0 < e) (h5 : e ≤ 5) : gFX10_reads lo hi S = some (lo, S) := by
  unfold gFX10_reads
  rw [m_looksE he h0 h5, gx_bs, gx_bs, he, if_neg (by rw [n0, nI_leN (by omega) (by omega)]; omega)]
theorem m_mustE {x c : Int32} {e : Nat} (he : S.1 15 = nI e) (h0 : 0 < e) (h5 : e ≤ 5) : gFX10_must x c S = some S := by
  unfold gFX10_must
  by_cases hx : x = 0
  · rw [if_pos hx]
    unfold gFX10_fails
    rw [gx_bs, he, if_neg (by rw [n0, nI_eqN (by omega) (by omega)]; omega), gx_bs]
  · rw [if_neg hx]
theorem m_must1 {c : Int32} : gFX10_must (nI 1) c S = some S := by
  unfold gFX10_must
  rw [n0, if_neg (by rw [nI_eqN (by omega) (by omega)]; omega)]
theorem m_must0 {c s : Nat} (he : S.1 15 = nI 0) (hs : S.1 12 = nI s) : gFX10_must (nI 0) (nI c) S = some (gpi (gpi S 15 (nI c)) 16 (nI s)) := by
  unfold gFX10_must
  rw [n0, if_pos rfl, m_fails he hs, gx_bs]
/-- takeNumber of the class: right -/
theorem c_takeOK (R : TKR h S a F L b t) {lim : Nat} (hl : lim ≤ 9999) (g : goodN t 0 lim) :
    ∃ h' S', FX3_takeNumber (a + 90) (nI lim) h = some (nI 1, h') ∧ tch h h' a ∧ gFX10_reads (nI 0) (nI lim) S = some (nI t.2.2.2.1, S') ∧ rch S S' ∧ TKR h' S' a (upd (upd (upd F 6 (F 7)) 7 (nI t.2.2.2.1)) 9 (nI t.2.1)) L b (lexAt b L t.2.2.1) ∧ (∀ q, ¬ (11 ≤ q ∧ q ≤ 14) → S'.1 q = S.1 q) := by
  obtain ⟨P, ⟨T, HT, H, hN⟩, ok, Hr, W, hr, he, e16, f4, f5⟩ := R
  have q := good_r (lo := 0) ok hl g.1
  obtain ⟨p1, t1⟩ := hpPO (h := h) (a := a) (F := F) (v := F 7) (k := 6)
  have T1 := HT.tup (e := .inr (3, pO a (upd F 6 (F 7))))
  generalize hh1 : ((h.1, jx_up h.2 (a + 90) (.inr (3, pO a (upd F 6 (F 7))))) : jx_H) = h1 at p1 t1 T1
  obtain ⟨p2, t2⟩ := hpPO (h := h1) (a := a) (F := upd F 6 (F 7)) (v := nI t.2.2.2.1) (k := 7)
  have T2 := T1.tup (e := .inr (3, pO a (upd (upd F 6 (F 7)) 7 (nI t.2.2.2.1))))
  generalize hh2 : ((h1.1, jx_up h1.2 (a + 90) (.inr (3, pO a (upd (upd F 6 (F 7)) 7 (nI t.2.2.2.1))))) : jx_H) = h2 at p2 t2 T2
  obtain ⟨p3, t3⟩ := hpPO (h := h2) (a := a) (F := upd (upd F 6 (F 7)) 7 (nI t.2.2.2.1)) (v := nI t.2.1) (k := 9)
  have T3 := T2.tup (e := .inr (3, pO a (upd (upd (upd F 6 (F 7)) 7 (nI t.2.2.2.1)) 9 (nI t.2.1))))
  generalize hh3 : ((h2.1, jx_up h2.2 (a + 90) (.inr (3, pO a (upd (upd (upd F 6 (F 7)) 7 (nI t.2.2.2.1)) 9 (nI t.2.1))))) : jx_H) = h3 at p3 t3 T3
  obtain ⟨h4, T4, a1, a2, a3, a4, a5, a6⟩ := c_next T3 H hN ok
  obtain ⟨S', b1, b2, b3, b4, b5⟩ := m_next Hr hr ok
  refine ⟨h4, S', ?_, ((t1.tr t2).tr t3).tr a2, ?_, b2, ⟨p3.fr a3, ⟨T4, a4, a5, a6⟩, lex_tk ok.2.1, b3, W.fr b2.1, b4, by rw [b5 15 (by omega)]; exact he, by rw [b5 16 (by omega)]; exact e16, by rw [upd_o (by decide), upd_o (by decide), upd_o (by decide)]; exact f4, by rw [upd_o (by decide), upd_o (by decide), upd_o (by decide)]; exact f5⟩, b5⟩
  · unfold FX3_takeNumber
    rw [P.g0, gx_bs, HT.t2, gx_bs, hN.1, g.1, n2, if_pos (show nI (cK 2) = nI 2 from rfl), gx_bs, HT.t5, gx_bs, hN.2.2.2 g.1, if_pos (by rw [nI_leN (by omega) (by omega)]; exact g.2.2), P.gi (by omega), gx_bs, P.hp (by omega), gx_bs, hh1, p1.g0, gx_bs, T1.t5, gx_bs, hN.2.2.2 g.1, p1.hp (by omega), gx_bs, hh2, p2.g0, gx_bs, T2.t3, gx_bs, hN.2.1, p2.hp (by omega), gx_bs, hh3, p3.g0, gx_bs, T3.o7, gx_bs, a1, gx_bs, n1]
  · unfold gFX10_reads
    rw [m_looksOK hr ok hl (by omega) g, gx_bs, gx_bs, he, if_pos (by rw [n0, nI_leN (by omega) (by omega)]; omega), gx_bs, hr.2.2.2 g.1, b1, gx_bs, q.2.1 g.2.2]
/-- takeNumber of the class: wrong -/
theorem c_takeNO (R : TKR h S a F L b t) {lim : Nat} (hl : lim ≤ 9999) (g : ¬ goodN t 0 lim) :
    ∃ h' S', FX3_takeNumber (a + 90) (nI lim) h = some (nI 0, h') ∧ tch h h' a ∧ gFX10_looks (nI 0) (nI lim) S = some S' ∧ gFX10_reads (nI 0) (nI lim) S = some (nI 0, S') ∧ rch S S' ∧ ERR h' S' a L b := by
  obtain ⟨P, ⟨T, HT, H, hN⟩, ok, Hr, W, hr, he, e16, f4, f5⟩ := R
  have lk := m_looksNO hr ok he hl (show 0 ≤ 9999 by omega) g
  have k6 := ok.2.2.1
  have ck := cK_lt k6
  obtain ⟨h', f1, f2, f3, f6⟩ := c_fail P (c := nI (if t.1 = 2 then 2 else 1)) (p := nI t.2.1)
  have code : 1 ≤ (if t.1 = 2 then 2 else 1) ∧ (if t.1 = 2 then 2 else 1) ≤ 5 := by split <;> omega
  refine ⟨h', _, ?_, f3, lk, ?_, ⟨by rw [gpi_2, gpi_2], fun q hq => by rw [gpi_1, gpi_1, upd_o (by omega), upd_o (by omega)]⟩, ⟨_, (if t.1 = 2 then 2 else 1), t.2.1, f2, ⟨T, f6 HT, H⟩, code.1, code.2, by have := ok.1; have := ok.2.1; omega, by rw [upd_o (by decide), upd_s], by rw [upd_s], by rw [gpi_1, gpi_1, upd_o (by decide), upd_s], by rw [gpi_1, upd_s]⟩⟩
  · unfold FX3_takeNumber
    rw [P.g0, gx_bs, HT.t2, gx_bs, hN.1]
    by_cases h2 : t.1 = 2
    · have q := good_r (lo := 0) ok hl h2
      rw [if_pos h2] at f1
      rw [h2, n2, if_pos (show nI (cK 2) = nI 2 from rfl), gx_bs, HT.t5, gx_bs, hN.2.2.2 h2, if_neg (by
        rw [nI_leN (by omega) (by omega)]
        exact fun z => g ⟨h2, Nat.zero_le _, z⟩), gx_bs, HT.t3, gx_bs, hN.2.1, P.ob, gx_bs, f1, b2s, if_pos (Or.inl (by rw [n0]))]
    · rw [if_neg h2] at f1
      rw [n2, if_neg (by rw [nI_eqN (by omega) (by omega), cK_2]; exact h2), gx_bs, HT.t3, gx_bs, hN.2.1, P.ob, gx_bs, n1, f1, b2s, if_pos (Or.inl (by rw [n0]))]
  · unfold gFX10_reads
    rw [lk, gx_bs, gx_bs, gpi_1, upd_o (by decide), gpi_1, upd_s, if_neg (by rw [n0, nI_leN (by omega) (by omega)]; omega)]
end
