/-! the class: tables prepared, and what is asked of them -/
def TSH (h : jx_H) (t : Nat) : Prop := SH h (t + 1) 12 12 ∧ SH h (t + 4) 12 12 ∧ SH h (t + 7) 12 12 ∧ SH h (t + 10) 12 12 ∧ SH h (t + 13) 12 12 ∧ SH h (t + 16) 12 12 ∧ SH h (t + 19) 12 12 ∧ SH h (t + 22) 12 12
def TK (h : jx_H) (t n p : Nat) (X Y : Nat → Nat → Nat) : Prop := HM h (t + 1) 12 12 n n X ∧ HM h (t + 4) 12 12 n n Y ∧ HM h (t + 7) 12 12 n n (mulM n p X Y) ∧ HM h (t + 10) 12 12 n n (mulM n p Y X)
/-- the tables are known, and right -/
def TP (h : jx_H) (t st n p : Nat) (X Y : Nat → Nat → Nat) : Prop := ∃ cc cr, TO h t st (nI 1) (nI (difN n (mulM n p X Y) (mulM n p Y X))) cc cr ∧ TSH h t ∧ TK h t n p X Y ∧ (difN n (mulM n p X Y) (mulM n p Y X) ≠ 0 → clashP n (mulM n p X Y) (mulM n p Y X) cc cr)
/-- the tables are not known, or right -/
def TI (h : jx_H) (t st n p : Nat) (X Y : Nat → Nat → Nat) : Prop := TP h t st n p X Y ∨ ∃ df cc cr, TO h t st (nI 0) df cc cr ∧ TSH h t
theorem TSH.ex {h h' : jx_H} {t lo hi : Nat} (T : TSH h t) (e : exc h h' lo hi) (d : t + 24 < lo ∨ hi < t + 1) : TSH h' t := ⟨T.1.ex e (by omega), T.2.1.ex e (by omega), T.2.2.1.ex e (by omega), T.2.2.2.1.ex e (by omega), T.2.2.2.2.1.ex e (by omega), T.2.2.2.2.2.1.ex e (by omega), T.2.2.2.2.2.2.1.ex e (by omega), T.2.2.2.2.2.2.2.ex e (by omega)⟩
theorem TK.ex {h h' : jx_H} {t n p lo hi : Nat} {X Y : Nat → Nat → Nat} (T : TK h t n p X Y) (e : exc h h' lo hi) (d : t + 12 < lo ∨ hi < t + 1) : TK h' t n p X Y := ⟨T.1.ex e (by omega), T.2.1.ex e (by omega), T.2.2.1.ex e (by omega), T.2.2.2.ex e (by omega)⟩
section
variable {h : jx_H} {t st p : Nat} {S : MS} {ht : Nat → Nat} {r : Nat → Nat → Nat} {pts : List (Nat × Nat)}
theorem h_prepare (T : TI h t st (Lm ht).length p (tabM ht r 1 0) (tabM ht r 0 1)) (HS : bH sK h st S) (R : ST S p ht r pts) (w : wfh ht) (hp2 : 2 ≤ p) (hp : p < 1000) (hr : ∀ b k, b < (Lb ht).length → k < (Lm ht).length → r b k < p) (dst : st + 8 < t) :
    ∃ h', FX6_prepare t h = some h' ∧ exc h h' t (t + 12) ∧ TP h' t st (Lm ht).length p (tabM ht r 1 0) (tabM ht r 0 1) := by
  have l := Lm_len w
  rcases T with T | ⟨df, cc, cr, T, s1, s2, s3, s4, s5, s6, s7, s8⟩
  · refine ⟨h, ?_, exc.rf, T⟩
    obtain ⟨cc, cr, T, -⟩ := T
    unfold FX6_prepare
    rw [hgi_ob (x := nI 1) T rfl, gx_bs, if_neg (by rw [n0, nI_eqN (by omega) (by omega)]; omega)]
  · have bX := bd_tab (p := p) (r := r) w (Or.inl ⟨rfl, rfl⟩) hp2 hr
    have bY := bd_tab (p := p) (r := r) w (Or.inr ⟨rfl, rfl⟩) hp2 hr
    generalize hX : tabM ht r 1 0 = X at *
    generalize hY : tabM ht r 0 1 = Y at *
    obtain ⟨h1, a1, a2, a3⟩ := h_fillTable T HS R w s1 (by omega) (by omega) (Or.inl ⟨rfl, rfl⟩)
    rw [hX] at a3
    have T1 := T.ex a2 (by omega)
    have S1 : bH sK h1 st S := HS.ex a2 (by show st + 8 < t + 1 ∨ t + 1 + 2 < st; omega)
    obtain ⟨h2, b1, b2, b3⟩ := h_fillTable T1 S1 R w (s2.ex a2 (by omega)) (by omega) (by omega) (Or.inr ⟨rfl, rfl⟩)
    rw [hY] at b3
    have T2 := T1.ex b2 (by omega)
    have S2 : bH sK h2 st S := S1.ex b2 (by show st + 8 < t + 4 ∨ t + 4 + 2 < st; omega)
    have X2 := a3.ex b2 (by omega)
    have g0 : hgi h2 st 5 0 = some (nI p) := by rw [← R.1]; exact hgi_ob S2.1 rfl
    obtain ⟨h3, c1, c2, c3⟩ := h_product z1212 z1212 z1212 ((s3.ex a2 (by omega)).ex b2 (by omega)) X2 b3 (by unfold off; omega) (by unfold off; omega) l.2.1 l.2.1 l.2.1 (by omega) hp bX bY
    have T3 := T2.ex c2 (by omega)
    have S3 : bH sK h3 st S := S2.ex c2 (by show st + 8 < t + 7 ∨ t + 7 + 2 < st; omega)
    have X3 := X2.ex c2 (by omega)
    have Y3 := b3.ex c2 (by omega)
    have g0' : hgi h3 st 5 0 = some (nI p) := by rw [← R.1]; exact hgi_ob S3.1 rfl
    obtain ⟨h4, d1, d2, d3⟩ := h_product z1212 z1212 z1212 (((s4.ex a2 (by omega)).ex b2 (by omega)).ex c2 (by omega)) Y3 X3 (by unfold off; omega) (by unfold off; omega) l.2.1 l.2.1 l.2.1 (by omega) hp bY bX
    have T4 := T3.ex d2 (by omega)
    have S4 : bH sK h4 st S := S3.ex d2 (by show st + 8 < t + 10 ∨ t + 10 + 2 < st; omega)
    have X4 := X3.ex d2 (by omega)
    have Y4 := Y3.ex d2 (by omega)
    have P4 := c3.ex d2 (by omega)
    obtain ⟨h5, cc', cr', e1, e2, e3, e4⟩ := h_compare (p := p) T4 S4 R.2.2.1.1 l.2.1 (Or.inl dst) P4 d3 hp (bd_mul (by omega)) (bd_mul (by omega))
    have e14 : exc h h4 (t + 1) (t + 12) := ((a2.mono (by omega) (by omega)).tr (b2.mono (by omega) (by omega))).tr ((c2.mono (by omega) (by omega)).tr (d2.mono (by omega) (by omega)))
    have e15 : exc h h5 t (t + 12) := (e14.mono (by omega) (by omega)).tr (e2.mono (by omega) (by omega))
    have r1 : hgr h t 6 1 = some (t + 1) := hgr_ob T rfl
    have r2 : hgr h1 t 6 2 = some (t + 4) := hgr_ob T1 rfl
    have r3 : hgr h2 t 6 3 = some (t + 7) := hgr_ob T2 rfl
    have r4 : hgr h2 t 6 1 = some (t + 1) := hgr_ob T2 rfl
    have r5 : hgr h2 t 6 2 = some (t + 4) := hgr_ob T2 rfl
    have r6 : hgr h2 t 6 0 = some st := hgr_ob T2 rfl
    have r7 : hgr h3 t 6 4 = some (t + 10) := hgr_ob T3 rfl
    have r8 : hgr h3 t 6 2 = some (t + 4) := hgr_ob T3 rfl
    have r9 : hgr h3 t 6 1 = some (t + 1) := hgr_ob T3 rfl
    have r10 : hgr h3 t 6 0 = some st := hgr_ob T3 rfl
    have o1 : isO h t 6 = some () := isO_ob T
    have o2 : isO h1 t 6 = some () := isO_ob T1
    have o4 : isO h4 t 6 = some () := isO_ob T4
    unfold FX6_prepare
    rw [hgi_ob (x := nI 0) T rfl, gx_bs, if_pos (by rw [n0]), r1, gx_bs, o1, gx_bs, n1, n0, a1, gx_bs, r2, gx_bs, o2, gx_bs, b1, gx_bs, r3, gx_bs, r4, gx_bs, r5, gx_bs, r6, gx_bs, g0, gx_bs, ((s3.ex a2 (by omega)).ex b2 (by omega)).ob, gx_bs, c1, gx_bs, r7, gx_bs, r8, gx_bs, r9, gx_bs, r10, gx_bs, g0', gx_bs, (((s4.ex a2 (by omega)).ex b2 (by omega)).ex c2 (by omega)).ob, gx_bs, d1, gx_bs, o4, gx_bs, e1, gx_bs, hp_ob e3 (Nat.le_of_ble_eq_true rfl), gx_bs]
    have ef : exc h5 (h5.1, jx_up h5.2 t (.inr (6, (taO t st (nI 0) (nI (difN (Lm ht).length (mulM (Lm ht).length p X Y) (mulM (Lm ht).length p Y X))) cc' cr').set 13 (.int (nI 1))))) t t := ⟨rfl, fun x hx => up_o (by omega)⟩
    have SHa : ∀ {q : Nat}, SH h q 12 12 → (q + 2 < t + 1 ∨ t + 12 < q) → q > t → SH (h5.1, jx_up h5.2 t (.inr (6, (taO t st (nI 0) (nI (difN (Lm ht).length (mulM (Lm ht).length p X Y) (mulM (Lm ht).length p Y X))) cc' cr').set 13 (.int (nI 1))))) q 12 12 := fun s d d2 => (s.ex e15 (by omega)).ex ef (by omega)
    have X5 := (X4.ex e2 (by omega)).ex ef (by omega)
    have Y5 := (Y4.ex e2 (by omega)).ex ef (by omega)
    have P5 := (P4.ex e2 (by omega)).ex ef (by omega)
    have Q5 := (d3.ex e2 (by omega)).ex ef (by omega)
    refine ⟨_, rfl, e15.tr (ef.mono (by omega) (by omega)), cc', cr', up_s, ⟨X5.sh, Y5.sh, P5.sh, Q5.sh, SHa s5 (by omega) (by omega), SHa s6 (by omega) (by omega), SHa s7 (by omega) (by omega), SHa s8 (by omega) (by omega)⟩, ⟨X5, Y5, P5, Q5⟩, e4⟩
end
