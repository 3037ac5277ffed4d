/-! text appended, cut, on both sides -/
theorem bR_u : ∀ v : Nat, v < 256 → (UInt8.ofNat v).toInt8.toInt32 = bR v := by decide +kernel
theorem bR_ex (x : Int32) : ∃ v, v < 256 ∧ vp_nar .byte x = bR v := by
  refine ⟨x.toInt8.toUInt8.toNat, x.toInt8.toUInt8.toNat_lt, ?_⟩
  rw [← bR_u _ x.toInt8.toUInt8.toNat_lt, UInt8.ofNat_toNat]
  rfl
section
variable {T S : MS} {L : Nat} {b : Nat → Nat}
/-- one byte more, on both sides -/
theorem t_app (H : cTx T L b) (Hr : rTx S L b) (hL : L < 900) (x : Int32) : ∃ T' S' b', gFX7_append x T = some T' ∧ cTx T' (L + 1) b' ∧ gas mK S 8 (nI L) (vp_nar .byte x) = some S' ∧ S'.1 = S.1 ∧ (∀ j, j ≠ 8 → S'.2 j = S.2 j) ∧ rTx (gpi S' 10 (nI (L + 1))) (L + 1) b' := by
  obtain ⟨v, hv, e⟩ := bR_ex x
  have B : TXb (L + 1) (fun k => if k = L then v else b k) := ⟨by omega, fun k hk => by
    dsimp only
    by_cases q : k = L
    · rw [if_pos q]; exact hv
    · rw [if_neg q]; exact H.1.2 k (by omega)⟩
  refine ⟨gpi ((T.1, setA T.2 1 (upd (T.2 1) L (bR v))) : MS) 1 (nI (L + 1)), (S.1, setA S.2 8 (upd (S.2 8) L (bR v))), fun k => if k = L then v else b k, ?_, ⟨B, by rw [gpi_1, upd_s], fun k hk => ?_⟩, by rw [mK_s8 (by omega), e], rfl, fun j hj => by rw [mp2, setA_o hj], ⟨B, by rw [gpi_1, upd_s], fun k hk => ?_⟩⟩
  · unfold gFX7_append
    rw [gx_bs, H.2.1, n900, if_neg (by rw [nI_leN (by omega) (by omega)]; omega), gx_bs, gas_ok (K := tK) (N := 900) rfl (by omega) (Nat.le_of_ble_eq_true rfl), gx_bs, gx_bs, mp1, H.2.1, n1, nI_add, gx_bs, e]
  · rw [gpi_2, mp2, setA_s]
    dsimp only
    by_cases q : k = L
    · rw [if_pos q, q, upd_s]
    · rw [if_neg q, upd_o q]; exact H.2.2 k (by omega)
  · rw [gpi_2, mp2, setA_s]
    dsimp only
    by_cases q : k = L
    · rw [if_pos q, q, upd_s]
    · rw [if_neg q, upd_o q]; exact Hr.2.2 k (by omega)
theorem bH.t1 {h : jx_H} {q : Nat} {S : MS} (H : bH tK h q S) : hgi h q 7 1 = some (S.1 1) := hgi_ob H.1 rfl
/-- both texts stand alike -/
def TXT (h : jx_H) (S : MS) (a L : Nat) (b : Nat → Nat) : Prop := (∃ T, bH tK h (a + 88) T ∧ cTx T L b) ∧ rTx S L b
def xch (h h' : jx_H) (S S' : MS) (a : Nat) : Prop := h'.1 = h.1 ∧ (∀ y, y ≠ a + 88 → y ≠ a + 89 → h'.2 y = h.2 y) ∧ (∀ q, q ≠ 10 → S'.1 q = S.1 q) ∧ ∀ j, j ≠ 8 → S'.2 j = S.2 j
theorem xch.tr {h h1 h2 : jx_H} {S S1 S2 : MS} {a : Nat} (x : xch h h1 S S1 a) (y : xch h1 h2 S1 S2 a) : xch h h2 S S2 a := ⟨y.1.trans x.1, fun q a1 a2 => (y.2.1 q a1 a2).trans (x.2.1 q a1 a2), fun q a1 => (y.2.2.1 q a1).trans (x.2.2.1 q a1), fun q a1 => (y.2.2.2 q a1).trans (x.2.2.2 q a1)⟩
theorem app_step {h : jx_H} {a : Nat} (hA : hgr h a 9 10 = some (a + 88)) (H : TXT h S a L b) (hL : L < 900) {x l : Int32} (hl : ¬ l < 0) : ∃ h' S' b', LX9_appendText_24 a x l h = some (.inl (l + (-8 : Int32), h')) ∧ gLX10_appendText_33 x l S = some (.inl (l + (-8 : Int32), S')) ∧ TXT h' S' a (L + 1) b' ∧ xch h h' S S' a := by
  obtain ⟨⟨T, HT, c⟩, r⟩ := H
  obtain ⟨T', S', b', e1, e2, e3, e4, e5, e6⟩ := t_app c r hL ((x >>> (l &&& 31)).toInt8.toInt32)
  have ap : FX7_append (a + 88) ((x >>> (l &&& 31)).toInt8.toInt32) h = some (bput tK h (a + 88) T') := HT.run (F := FX7_append (a + 88) ((x >>> (l &&& 31)).toInt8.toInt32)) (by rw [eFX7_append, e1, gx_ms])
  refine ⟨bput tK h (a + 88) T', gpi S' 10 (nI (L + 1)), b', ?_, ?_, ⟨⟨T', bH.put, e2⟩, e6⟩, rfl, fun y y1 y2 => bp_else (by show y < a + 88 ∨ a + 88 + 1 < y; omega), fun q hq => by rw [gpi_1, upd_o hq, e4], fun j hj => by rw [gpi_2, e5 j hj]⟩
  · unfold LX9_appendText_24
    rw [if_neg hl, hA, gx_bs, HT.o7, gx_bs, ap, gx_bs]
  · unfold gLX10_appendText_33
    rw [if_neg hl, gx_bs, r.2.1, e3, gx_bs, gx_bs, e4, r.2.1, n1, nI_add, gx_bs]
theorem both_app {h : jx_H} {a : Nat} (hA : ∀ h' : jx_H, h'.2 a = h.2 a → hgr h' a 9 10 = some (a + 88)) (H : TXT h S a L b) (hL : L ≤ 896) {x : Int32} : ∃ h' S' b', itr (fun s : Int32 × jx_H => LX9_appendText_24 a x s.1 s.2) ((24 : Int32), h) = some (.inl (nI (L + 4), h')) ∧ itr (fun s : Int32 × MS => gLX10_appendText_33 x s.1 s.2) ((24 : Int32), S) = some (nI (L + 4), S') ∧ TXT h' S' a (L + 4) b' ∧ xch h h' S S' a := by
  obtain ⟨h1, S1, b1, p1, q1, H1, X1⟩ := app_step (x := x) (l := (24 : Int32)) (hA h rfl) H (by omega) (by decide)
  obtain ⟨h2, S2, b2, p2, q2, H2, X2⟩ := app_step (x := x) (l := (24 : Int32) + (-8 : Int32)) (hA h1 (X1.2.1 a (by omega) (by omega))) H1 (by omega) (by decide)
  have Y2 := X1.tr X2
  obtain ⟨h3, S3, b3, p3, q3, H3, X3⟩ := app_step (x := x) (l := (24 : Int32) + (-8 : Int32) + (-8 : Int32)) (hA h2 (Y2.2.1 a (by omega) (by omega))) H2 (by omega) (by decide)
  have Y3 := Y2.tr X3
  obtain ⟨h4, S4, b4, p4, q4, H4, X4⟩ := app_step (x := x) (l := (24 : Int32) + (-8 : Int32) + (-8 : Int32) + (-8 : Int32)) (hA h3 (Y3.2.1 a (by omega) (by omega))) H3 (by omega) (by decide)
  have Y4 := Y3.tr X4
  refine ⟨h4, S4, b4, ?_, ?_, H4, Y4⟩
  · rw [itr_inl (by exact p1), itr_inl (by exact p2), itr_inl (by exact p3), itr_inl (by exact p4)]
    refine itr_exL ?_
    obtain ⟨⟨T, HT, c⟩, r⟩ := H4
    unfold LX9_appendText_24
    dsimp only
    rw [if_pos (by decide), hA h4 (Y4.2.1 a (by omega) (by omega)), gx_bs, HT.t1, gx_bs, c.2.1]
  · rw [itr_inl (by exact q1), itr_inl (by exact q2), itr_inl (by exact q3), itr_inl (by exact q4)]
    refine itr_exL ?_
    unfold gLX10_appendText_33
    dsimp only
    rw [if_pos (by decide), gx_bs, H4.2.2.1]
end
