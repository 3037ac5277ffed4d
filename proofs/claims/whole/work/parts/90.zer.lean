/-! the class: how often a zero counts -/
def zeO (z st t sp : Nat) (kn fd ds : Int32) : List Value := [.ref st, .ref t, .ref sp, .ref (z + 1), .ref (z + 2), .ref (z + 3), .ref (z + 4), .ref (z + 5), .ref (z + 6), .ref (z + 9), .ref (z + 12), .ref (z + 15), .int kn, .int fd, .int ds]
def ZO (h : jx_H) (z st t sp : Nat) (kn fd ds : Int32) : Prop := h.2 z = some (.inr (8, zeO z st t sp kn fd ds))
theorem HM.same {h h' : jx_H} {q H W R C : Nat} {A : Nat → Nat → Nat} (M : HM h q H W R C A) (e : ∀ x, q ≤ x → x ≤ q + 2 → h'.2 x = h.2 x) : HM h' q H W R C A := by
  obtain ⟨U, u1, u2⟩ := M
  exact ⟨U, ⟨by rw [e q (by omega) (by omega)]; exact u1.1, fun j hj => by
    have hj : 1 ≤ j ∧ j ≤ 2 := hj
    rw [e (q + j) (by omega) (by omega)]; exact u1.2 j hj⟩, u2⟩
theorem TP.far {h h' : jx_H} {t st n p lo hi : Nat} {X Y : Nat → Nat → Nat} (T : TP h t st n p X Y) (e : exc h h' lo hi) (d : t + 24 < lo) : TP h' t st n p X Y := by
  obtain ⟨cc, cr, T, s, k, c⟩ := T
  exact ⟨cc, cr, T.ex e (by omega), s.ex e (by omega), k.ex e (by omega), c⟩
theorem z2412 : SZ 24 12 := ⟨by omega, by omega, by omega⟩
section
variable {h : jx_H} {t st z sp n p : Nat} {X Y : Nat → Nat → Nat} {S : MS} {kn fd ds : Int32}
theorem h_multOf (T : TP h t st n p X Y) (HS : bH sK h st S) (hP : S.1 0 = nI p) (hN : S.1 2 = nI n) (dst : st + 8 < t) (dz : t + 32 < z) (hn : 0 < n) (hn2 : n ≤ 12) (hp2 : 2 ≤ p) (hp : p < 1000) (hX : bdM X n n p) (hY : bdM Y n n p) (Z : ZO h z st t sp kn fd ds) {f k a b : Nat} {za zb zm : Nat → Int32} (ef : fd = nI f) (hf : f ≤ 12) (hk : k < f) (e3 : h.2 (z + 3) = some (ar 12 za)) (e4 : h.2 (z + 4) = some (ar 12 zb)) (e5 : h.2 (z + 5) = some (ar 12 zm)) (s6 : SH h (z + 6) 12 12) (s9 : SH h (z + 9) 24 12) (ha : za k = nI a) (hb : zb k = nI b) (hap : a < p) (hbp : b < p) (hm : zm k = m1) :
    ∃ h', FX8_multiplicityOf z (nI k) h = some (nI n - nI (redF p (2 * n) n n 0 0 1 (stackM n (powR n p (lessM X a p) n) (powR n p (lessM Y b p) n)) (fun _ => 0)).1, h') ∧ h'.1 = h.1 ∧ (∀ x, (x < t + 13 ∨ t + 24 < x) → x ≠ z + 5 → (x < z + 6 ∨ z + 11 < x) → h'.2 x = h.2 x) ∧ TP h' t st n p X Y ∧ SH h' (z + 6) 12 12 ∧ SH h' (z + 9) 24 12 ∧ h'.2 (z + 5) = some (ar 12 (upd zm k (nI n - nI (redF p (2 * n) n n 0 0 1 (stackM n (powR n p (lessM X a p) n) (powR n p (lessM Y b p) n)) (fun _ => 0)).1))) := by
  obtain ⟨U, a1, a2⟩ := h_clear z2412 s9 (R' := 2 * n) (C' := n) (by omega) hn2
  have x1 : exc h (bput (xK 24 12) h (z + 9) U) (z + 9) (z + 11) := exc.bput
  generalize hh1 : bput (xK 24 12) h (z + 9) U = h1 at a1 x1
  have M1 : HM h1 (z + 9) 24 12 (2 * n) n (fun _ _ => 0) := ⟨U, by rw [← hh1]; exact bH.put, a2⟩
  have T1 := T.far x1 (by omega)
  have S1 : bH sK h1 st S := HS.ex x1 (by show st + 8 < z + 9 ∨ z + 11 < st; omega)
  obtain ⟨h2, b1, b2, b3, b4, b5⟩ := h_raise T1 S1 hP dst hn hn2 hp2 hp hX hY (v := 0) (a := a) (e := n) (q0 := z + 6) (by omega) hap (by omega) (s6.ex x1 (by omega)) (by omega)
  have M2 : HM h2 (z + 9) 24 12 (2 * n) n (fun _ _ => 0) := M1.same fun x q1 q2 => b3 x (by omega) (by omega) (by omega)
  have S2 : bH sK h2 st S := S1.ex (lo := t + 13) (hi := z + 8) ⟨b2, fun x hx => b3 x (by omega) (by omega) (by omega)⟩ (by show st + 8 < t + 13 ∨ z + 8 < st; omega)
  obtain ⟨h3, c1, c2, c3⟩ := h_copyRows (f0 := 0) z2412 z1212 M2 b4 (by unfold off; omega) (by omega) hn
  have T3 := b5.far (lo := z + 9) (hi := z + 11) c2 (by omega)
  have S3 : bH sK h3 st S := S2.ex c2 (by show st + 8 < z + 9 ∨ z + 9 + 2 < st; omega)
  obtain ⟨h4, d1, d2, d3, d4, d5⟩ := h_raise T3 S3 hP dst hn hn2 hp2 hp hX hY (v := 1) (a := b) (e := n) (q0 := z + 6) (by omega) hbp (by omega) (b4.sh.ex c2 (by omega)) (by omega)
  have M4 := c3.same (h' := h4) fun x q1 q2 => d3 x (by omega) (by omega) (by omega)
  have S4 : bH sK h4 st S := S3.ex (lo := t + 13) (hi := z + 8) ⟨d2, fun x hx => d3 x (by omega) (by omega) (by omega)⟩ (by show st + 8 < t + 13 ∨ z + 8 < st; omega)
  obtain ⟨h5, f1, f2, f3⟩ := h_copyRows (f0 := n) z2412 z1212 M4 d4 (by unfold off; omega) (by omega) hn
  have T5 := d5.far (lo := z + 9) (hi := z + 11) f2 (by omega)
  have S5 : bH sK h5 st S := S4.ex f2 (by show st + 8 < z + 9 ∨ z + 9 + 2 < st; omega)
  have M5 : HM h5 (z + 9) 24 12 (2 * n) n (stackM n (powR n p (lessM X a p) n) (powR n p (lessM Y b p) n)) := f3.congr fun r c hr hc => by
    unfold stackM
    by_cases q : r < n
    · rw [if_neg (by omega), if_pos (by omega), if_pos q]
      rfl
    · rw [if_pos (by omega), if_neg q]
      rfl
  obtain ⟨h6, g1, g2, g3, -⟩ := h_reduce z2412 M5 hp2 hp (bd_stack (bd_pow hp2 _) (bd_pow hp2 _))
  have T6 := T5.far (lo := z + 9) (hi := z + 11) g2 (by omega)
  -- the cells that stay all the way
  have all : ∀ x, (x < t + 13 ∨ t + 24 < x) → (x < z + 6 ∨ z + 11 < x) → h6.2 x = h.2 x ∧ h5.2 x = h.2 x ∧ h4.2 x = h.2 x ∧ h3.2 x = h.2 x ∧ h2.2 x = h.2 x ∧ h1.2 x = h.2 x := by
    intro x q1 q2
    have w1 : h1.2 x = h.2 x := x1.2 x (by omega)
    have w2 : h2.2 x = h.2 x := by rw [b3 x (by omega) (by omega) (by omega), w1]
    have w3 : h3.2 x = h.2 x := by rw [c2.2 x (by omega), w2]
    have w4 : h4.2 x = h.2 x := by rw [d3 x (by omega) (by omega) (by omega), w3]
    have w5 : h5.2 x = h.2 x := by rw [f2.2 x (by omega), w4]
    exact ⟨by rw [g2.2 x (by omega), w5], w5, w4, w3, w2, w1⟩
  have az := all z (by omega) (by omega)
  have Z1 : ZO h1 z st t sp kn fd ds := az.2.2.2.2.2.trans Z
  have Z2 : ZO h2 z st t sp kn fd ds := az.2.2.2.2.1.trans Z
  have Z3 : ZO h3 z st t sp kn fd ds := az.2.2.2.1.trans Z
  have Z4 : ZO h4 z st t sp kn fd ds := az.2.2.1.trans Z
  have Z5 : ZO h5 z st t sp kn fd ds := az.2.1.trans Z
  have Z6 : ZO h6 z st t sp kn fd ds := az.1.trans Z
  have e5' : h6.2 (z + 5) = some (ar 12 zm) := (all (z + 5) (by omega) (by omega)).1.trans e5
  have e31 : h1.2 (z + 3) = some (ar 12 za) := (all (z + 3) (by omega) (by omega)).2.2.2.2.2.trans e3
  have e43 : h3.2 (z + 4) = some (ar 12 zb) := (all (z + 4) (by omega) (by omega)).2.2.2.1.trans e4
  have gn : hgi h st 5 2 = some (nI n) := by rw [← hN]; exact hgi_ob HS.1 rfl
  have gp : hgi h5 st 5 0 = some (nI p) := by rw [← hP]; exact hgi_ob S5.1 rfl
  have oT1 : isO h1 t 6 = some () := by obtain ⟨cc, cr, q, -⟩ := T1; exact isO_ob q
  have oT3 : isO h3 t 6 = some () := by obtain ⟨cc, cr, q, -⟩ := T3; exact isO_ob q
  have g7 : hgi h z 8 13 = some (nI f) := by rw [← ef]; exact hgi_ob Z rfl
  refine ⟨(h6.1, jx_up h6.2 (z + 5) (ar 12 (upd zm k (nI n - nI (redF p (2 * n) n n 0 0 1 (stackM n (powR n p (lessM X a p) n) (powR n p (lessM Y b p) n)) (fun _ => 0)).1)))), ?_, ?_, fun x q1 q2 q3 => ?_, ?_, ?_, ?_, up_s⟩
  · unfold FX8_multiplicityOf BX8_multiplicityOf_128
    rw [g7, gx_bs, n1, nI_sub (by omega), q_isOutside, p_out, outB_in (by omega) (by omega), gx_bs, n0, if_pos bI_f, hgr_ob (x := z + 5) Z rfl, gx_bs, hal_ar e5 (by omega) (by omega), gx_bs, hm, if_pos (by rw [nm1]), hgr_ob (x := st) Z rfl, gx_bs, gn, gx_bs, hgr_ob (x := z + 9) Z rfl, gx_bs, s9.ob, gx_bs, n2, nI_mul, a1, gx_bs, hgr_ob (x := t) Z1 rfl, gx_bs, hgr_ob (x := z + 6) Z1 rfl, gx_bs, hgr_ob (x := z + 3) Z1 rfl, gx_bs, hal_ar e31 (by omega) (by omega), gx_bs, ha, oT1, gx_bs, b1, gx_bs, hgr_ob (x := z + 9) Z2 rfl, gx_bs, hgr_ob (x := z + 6) Z2 rfl, gx_bs, M2.ob, gx_bs, c1, gx_bs, hgr_ob (x := t) Z3 rfl, gx_bs, hgr_ob (x := z + 6) Z3 rfl, gx_bs, hgr_ob (x := z + 4) Z3 rfl, gx_bs, hal_ar e43 (by omega) (by omega), gx_bs, hb, oT3, gx_bs, d1, gx_bs, hgr_ob (x := z + 9) Z4 rfl, gx_bs, hgr_ob (x := z + 6) Z4 rfl, gx_bs, M4.ob, gx_bs, f1, gx_bs, hgr_ob (x := z + 5) Z5 rfl, gx_bs, hgr_ob (x := z + 9) Z5 rfl, gx_bs, hgr_ob (x := st) Z5 rfl, gx_bs, gp, gx_bs, M5.ob, gx_bs, g1]
    show ((has h6 .int (z + 5) (nI k) (nI n - nI (redF p (2 * n) n n 0 0 1 (stackM n (powR n p (lessM X a p) n) (powR n p (lessM Y b p) n)) (fun _ => 0)).1)).bind fun h39 => (hgr h39 z 8 7).bind fun x1 => (hal h39 .int x1 (nI k)).bind fun x2 => some (x2, h39)) = _
    rw [has_ar e5' (by omega) (by omega), gx_bs]
    have Z7 : ZO (h6.1, jx_up h6.2 (z + 5) (ar 12 (upd zm k (nI n - nI (redF p (2 * n) n n 0 0 1 (stackM n (powR n p (lessM X a p) n) (powR n p (lessM Y b p) n)) (fun _ => 0)).1)))) z st t sp kn fd ds := by
      show jx_up h6.2 (z + 5) _ z = _
      rw [up_o (by omega)]
      exact Z6
    rw [hgr_ob (x := z + 5) Z7 rfl, gx_bs, hal_ar up_s (by omega) (by omega), gx_bs, upd_s]
  · show h6.1 = h.1
    rw [g2.1, f2.1, d2, c2.1, b2, x1.1]
  · show jx_up h6.2 (z + 5) _ x = _
    rw [up_o q2]
    exact (all x q1 q3).1
  · exact T6.far (lo := z + 5) (hi := z + 5) ⟨rfl, fun x hx => up_o (by omega)⟩ (by omega)
  · exact ((d4.sh.ex f2 (by omega)).ex g2 (by omega)).ex (lo := z + 5) (hi := z + 5) ⟨rfl, fun x hx => up_o (by omega)⟩ (by omega)
  · exact g3.sh.ex (lo := z + 5) (hi := z + 5) ⟨rfl, fun x hx => up_o (by omega)⟩ (by omega)
end
