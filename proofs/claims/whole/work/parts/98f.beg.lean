/-! the class: a change begins -/
theorem h_begin {h : jx_H} {a nx d k : Nat} {f : Nat → Option Nat} {U : Nat → Cf} {c : Cf} {S : MS} {cnt : Nat → Int32} {lo : Nat} {kn df cc cr kz fd ds : Int32} (B : BB h a) (HI : HIS h (a + 29) nx d f) (hn : nx < 8) (hd : d ≤ 8) (HS : bH sK h (a + 1) S) (hc : STc S c) (oc' : okC c) (RU : ringU h nx d f U) (RA : ringA h lo f) (l1 : a + 102 ≤ lo) (b1 : lo < h.1) (hk : k < 6) (ec : h.2 (a + 31) = some (ar 6 cnt)) (T : TO h (a + 35) (a + 1) kn df cc cr) (Z : ZO h (a + 68) (a + 1) (a + 35) (a + 32) kz fd ds) :
    ∃ h1 h' f', FX9_beginChange a (nI k) h = some h' ∧ HIS h1 (a + 29) ((nx + 1) % 8) (min (d + 1) 8) f' ∧ ringU h1 ((nx + 1) % 8) (min (d + 1) 8) f' (pushU U d c) ∧ ringA h1 lo f' ∧ h.1 ≤ h1.1 ∧ (∀ x, x < h.1 → x ≠ a + 29 → x ≠ a + 30 → (∀ j q, j < 8 → f j = some q → x < q ∨ q + 8 < x) → h1.2 x = h.2 x) ∧ h'.1 = h1.1 ∧ (∀ x, x ≠ a + 31 → x ≠ a + 35 → x ≠ a + 68 → h'.2 x = h1.2 x) ∧ h'.2 (a + 31) = some (ar 6 (upd cnt k (cnt k + nI 1))) ∧ TO h' (a + 35) (a + 1) (nI 0) df cc cr ∧ ZO h' (a + 68) (a + 1) (a + 35) (a + 32) (nI 0) fd m1 := by
  obtain ⟨h1, f', e1, e2, e3, e4, e5, e6⟩ := ring_remember HI hn hd HS hc oc' RU RA (by omega) (by omega) b1
  have low : ∀ x, x ≤ lo → x ≠ a + 29 → x ≠ a + 30 → h1.2 x = h.2 x := fun x hx x1 x2 => e6 x (by omega) x1 (by omega) fun j q hj hf => by
    have := (RA.1 j q hj hf).2.1
    omega
  have B1 : BB h1 a := (low a (by omega) (by omega) (by omega)).trans B
  have T1 : TO h1 (a + 35) (a + 1) kn df cc cr := (low (a + 35) (by omega) (by omega) (by omega)).trans T
  have Z1 : ZO h1 (a + 68) (a + 1) (a + 35) (a + 32) kz fd ds := (low (a + 68) (by omega) (by omega) (by omega)).trans Z
  have ec1 : h1.2 (a + 31) = some (ar 6 cnt) := (low (a + 31) (by omega) (by omega) (by omega)).trans ec
  have B2 : BB (h1.1, jx_up h1.2 (a + 31) (ar 6 (upd cnt k (cnt k + nI 1)))) a := by show jx_up h1.2 _ _ a = _; rw [up_o (by omega)]; exact B1
  have T2 : TO (h1.1, jx_up h1.2 (a + 31) (ar 6 (upd cnt k (cnt k + nI 1)))) (a + 35) (a + 1) kn df cc cr := by show jx_up h1.2 _ _ (a + 35) = _; rw [up_o (by omega)]; exact T1
  have Z2 : ZO (h1.1, jx_up h1.2 (a + 31) (ar 6 (upd cnt k (cnt k + nI 1)))) (a + 68) (a + 1) (a + 35) (a + 32) kz fd ds := by show jx_up h1.2 _ _ (a + 68) = _; rw [up_o (by omega)]; exact Z1
  obtain ⟨h', g1, g2, g3, g4, g5⟩ := h_forget B2 T2 Z2
  refine ⟨h1, h', f', ?_, e2, e3, e4, e5, e6, g2, fun x x1 x2 x3 => ?_, ?_, g4, g5⟩
  · have o1 : isO h (a + 29) 1 = some () := isO_ob HI.1
    have o2 : isO (h1.1, jx_up h1.2 (a + 31) (ar 6 (upd cnt k (cnt k + nI 1)))) a 9 = some () := isO_ob B2
    unfold FX9_beginChange
    rw [hgr_ob (x := a + 29) B rfl, gx_bs, hgr_ob (x := a + 1) B rfl, gx_bs, o1, gx_bs, e1, gx_bs, hgr_ob (x := a + 31) B1 rfl, gx_bs, hal_ar ec1 (by omega) (by omega), gx_bs, n1, has_ar ec1 (by omega) (by omega), gx_bs, o2, gx_bs, g1, gx_bs]
  · rw [g3 x x2 x3]
    show jx_up h1.2 (a + 31) _ x = _
    rw [up_o x1]
  · rw [g3 (a + 31) (by omega) (by omega)]
    exact up_s
