/-! the class's object; what is derived is forgotten -/
def bbO (a : Nat) : List Value := [.ref (a + 1), .ref (a + 10), .ref (a + 19), .ref (a + 28), .ref (a + 29), .ref (a + 31), .ref (a + 32), .ref (a + 35), .ref (a + 68), .ref (a + 84), .ref (a + 88), .ref (a + 90), .ref (a + 101), .ref (a + 102)]
def BB (h : jx_H) (a : Nat) : Prop := h.2 a = some (.inr (9, bbO a))
theorem h_forget {h : jx_H} {a : Nat} {kn df cc cr kz fd ds : Int32} (B : BB h a) (T : TO h (a + 35) (a + 1) kn df cc cr) (Z : ZO h (a + 68) (a + 1) (a + 35) (a + 32) kz fd ds) :
    ∃ h', FX9_forgetDerived a h = some h' ∧ h'.1 = h.1 ∧ (∀ x, x ≠ a + 35 → x ≠ a + 68 → h'.2 x = h.2 x) ∧ TO h' (a + 35) (a + 1) (nI 0) df cc cr ∧ ZO h' (a + 68) (a + 1) (a + 35) (a + 32) (nI 0) fd m1 := by
  unfold FX9_forgetDerived FX8_forget
  rw [hgr_ob (x := a + 35) B rfl, gx_bs, n0, hp_ob T (Nat.le_of_ble_eq_true rfl), gx_bs]
  have B1 : BB (h.1, jx_up h.2 (a + 35) (.inr (6, (taO (a + 35) (a + 1) kn df cc cr).set 13 (.int (nI 0))))) a := by
    show jx_up h.2 (a + 35) _ a = _
    rw [up_o (by omega)]
    exact B
  have Z1 : ZO (h.1, jx_up h.2 (a + 35) (.inr (6, (taO (a + 35) (a + 1) kn df cc cr).set 13 (.int (nI 0))))) (a + 68) (a + 1) (a + 35) (a + 32) kz fd ds := by
    show jx_up h.2 (a + 35) _ (a + 68) = _
    rw [up_o (by omega)]
    exact Z
  have o1 : isO (h.1, jx_up h.2 (a + 35) (.inr (6, (taO (a + 35) (a + 1) kn df cc cr).set 13 (.int (nI 0))))) (a + 68) 8 = some () := isO_ob Z1
  rw [hgr_ob (x := a + 68) B1 rfl, gx_bs, o1, gx_bs, hp_ob Z1 (Nat.le_of_ble_eq_true rfl), gx_bs]
  have Z2 : ((h.1, jx_up (jx_up h.2 (a + 35) (.inr (6, (taO (a + 35) (a + 1) kn df cc cr).set 13 (.int (nI 0))))) (a + 68) (.inr (8, (zeO (a + 68) (a + 1) (a + 35) (a + 32) kz fd ds).set 12 (.int (nI 0))))) : jx_H).2 (a + 68) = some (.inr (8, zeO (a + 68) (a + 1) (a + 35) (a + 32) (nI 0) fd ds)) := up_s
  rw [hp_ob Z2 (Nat.le_of_ble_eq_true rfl), gx_bs, gx_bs]
  refine ⟨_, rfl, rfl, fun x x1 x2 => ?_, ?_, ?_⟩
  · show jx_up (jx_up (jx_up h.2 (a + 35) _) (a + 68) _) (a + 68) _ x = _
    rw [up_o x2, up_o x2, up_o x1]
  · show jx_up (jx_up (jx_up h.2 (a + 35) _) (a + 68) _) (a + 68) _ (a + 35) = _
    rw [up_o (by omega), up_o (by omega), up_s]
    rfl
  · show jx_up _ (a + 68) _ (a + 68) = _
    rw [up_s, n1, nm1]
    rfl
