/-! the class: the Zeros object, and its search -/
def zRk (ht : Nat → Nat) (r : Nat → Nat → Nat) (p a b : Nat) : Nat := (redF p (2 * (Lm ht).length) (Lm ht).length (Lm ht).length 0 0 1 (timM ht r p a b) (fun _ => 0)).1
def zVal (ht : Nat → Nat) (r : Nat → Nat → Nat) (p : Nat) (L : List (Nat × Nat)) (zm : Nat → Int32) : Prop := ∀ k, k < L.length → zm k = m1 ∨ zm k = nI (Lm ht).length - nI (zRk ht r p (mx L k) (my L k))
def frmM (ht : Nat → Nat) (p : Nat) (X Y : Nat → Nat → Nat) : Nat → Nat → Nat := fun a b => if b ≤ a then trM (Lm ht).length p (mulM (Lm ht).length p (monM (Lm ht).length p X Y (mx (Lm ht) a) (my (Lm ht) a)) (monM (Lm ht).length p X Y (mx (Lm ht) b) (my (Lm ht) b))) else trM (Lm ht).length p (mulM (Lm ht).length p (monM (Lm ht).length p X Y (mx (Lm ht) b) (my (Lm ht) b)) (monM (Lm ht).length p X Y (mx (Lm ht) a) (my (Lm ht) a)))
def dsV (ht : Nat → Nat) (r : Nat → Nat → Nat) (p : Nat) : Nat := (redF p (Lm ht).length (Lm ht).length (Lm ht).length 0 0 1 (frmM ht p (tabM ht r 1 0) (tabM ht r 0 1)) (fun _ => 0)).1
def ZB (h : jx_H) (z st t sp : Nat) (kz fd ds : Int32) (za zb zm : Nat → Int32) : Prop := ZO h z st t sp kz fd ds ∧ (∃ ra, h.2 (z + 1) = some (bo 97 ra)) ∧ (∃ rb, h.2 (z + 2) = some (bo 97 rb)) ∧ h.2 (z + 3) = some (ar 12 za) ∧ h.2 (z + 4) = some (ar 12 zb) ∧ h.2 (z + 5) = some (ar 12 zm) ∧ SH h (z + 6) 12 12 ∧ SH h (z + 9) 24 12 ∧ SH h (z + 12) 12 12
/-- the zeros are known -/
def ZF (h : jx_H) (z st t sp : Nat) (ht : Nat → Nat) (r : Nat → Nat → Nat) (p : Nat) (ds : Int32) : Prop := ∃ za zb zm, ZB h z st t sp (nI 1) (nI (zAll (zF ht r p) p).length) ds za zb zm ∧ row2 za zb (zAll (zF ht r p) p) ∧ zVal ht r p (zAll (zF ht r p) p) zm
def ZI (h : jx_H) (z st t sp : Nat) (ht : Nat → Nat) (r : Nat → Nat → Nat) (p : Nat) (ds : Int32) : Prop := ZF h z st t sp ht r p ds ∨ ∃ fd za zb zm, ZB h z st t sp (nI 0) fd ds za zb zm
/-- what the Tables object has besides -/
def TX (h : jx_H) (t : Nat) : Prop := SH h (t + 25) 12 13 ∧ (∃ f, h.2 (t + 28) = some (ar 12 f)) ∧ (∃ g, h.2 (t + 29) = some (ar 12 g)) ∧ SH h (t + 30) 21 12
theorem ZB.same {h h' : jx_H} {z st t sp : Nat} {kz fd ds : Int32} {za zb zm : Nat → Int32} (Z : ZB h z st t sp kz fd ds za zb zm) (e : ∀ x, z ≤ x → x ≤ z + 14 → h'.2 x = h.2 x) : ZB h' z st t sp kz fd ds za zb zm := by
  obtain ⟨a, ⟨ra, b⟩, ⟨rb, c⟩, d, f, g, i, j, k⟩ := Z
  exact ⟨by show _ = _; rw [e z (by omega) (by omega)]; exact a, ⟨ra, by rw [e _ (by omega) (by omega)]; exact b⟩, ⟨rb, by rw [e _ (by omega) (by omega)]; exact c⟩, by rw [e _ (by omega) (by omega)]; exact d, by rw [e _ (by omega) (by omega)]; exact f, by rw [e _ (by omega) (by omega)]; exact g, i.same fun x _ _ => e x (by omega) (by omega), j.same fun x _ _ => e x (by omega) (by omega), k.same fun x _ _ => e x (by omega) (by omega)⟩
theorem ZF.same {h h' : jx_H} {z st t sp p : Nat} {ht : Nat → Nat} {r : Nat → Nat → Nat} {ds : Int32} (Z : ZF h z st t sp ht r p ds) (e : ∀ x, z ≤ x → x ≤ z + 14 → h'.2 x = h.2 x) : ZF h' z st t sp ht r p ds := by
  obtain ⟨za, zb, zm, a, b⟩ := Z
  exact ⟨za, zb, zm, a.same e, b⟩
theorem ZI.same {h h' : jx_H} {z st t sp p : Nat} {ht : Nat → Nat} {r : Nat → Nat → Nat} {ds : Int32} (Z : ZI h z st t sp ht r p ds) (e : ∀ x, z ≤ x → x ≤ z + 14 → h'.2 x = h.2 x) : ZI h' z st t sp ht r p ds := by
  rcases Z with Z | ⟨fd, za, zb, zm, a⟩
  · exact Or.inl (Z.same e)
  · exact Or.inr ⟨fd, za, zb, zm, a.same e⟩
theorem TX.same {h h' : jx_H} {t : Nat} (T : TX h t) (e : ∀ x, t + 25 ≤ x → x ≤ t + 32 → h'.2 x = h.2 x) : TX h' t := by
  obtain ⟨a, ⟨f, b⟩, ⟨g, c⟩, d⟩ := T
  exact ⟨a.same fun x _ _ => e x (by omega) (by omega), ⟨f, by rw [e _ (by omega) (by omega)]; exact b⟩, ⟨g, by rw [e _ (by omega) (by omega)]; exact c⟩, d.same fun x _ _ => e x (by omega) (by omega)⟩
theorem ZF.zi {h : jx_H} {z st t sp p : Nat} {ht : Nat → Nat} {r : Nat → Nat → Nat} {ds : Int32} (Z : ZF h z st t sp ht r p ds) : ZI h z st t sp ht r p ds := Or.inl Z
section
variable {h : jx_H} {z st t sp p : Nat} {S : MS} {ht : Nat → Nat} {r : Nat → Nat → Nat} {pts : List (Nat × Nat)} {ds : Int32}
theorem h_find (T : TI h t st (Lm ht).length p (tabM ht r 1 0) (tabM ht r 0 1)) (HS : bH sK h st S) (R : ST S p ht r pts) (w : wfh ht) (hp : p ∈ prs) (hr : ∀ b k, b < (Lb ht).length → k < (Lm ht).length → r b k < p) (o1 : st + 8 < sp) (o2 : sp + 2 < t) (o3 : t + 32 < z) (Z : ZI h z st t sp ht r p ds) (hP : ∃ P, bH pK h sp P) (X : TX h t) :
    ∃ h', FX8_find z h = some h' ∧ h'.1 = h.1 ∧ (∀ x, (x < sp ∨ sp + 2 < x) → (x < t ∨ t + 29 < x) → (x < z ∨ z + 5 < x) → h'.2 x = h.2 x) ∧ TI h' t st (Lm ht).length p (tabM ht r 1 0) (tabM ht r 0 1) ∧ (TP h t st (Lm ht).length p (tabM ht r 1 0) (tabM ht r 0 1) → TP h' t st (Lm ht).length p (tabM ht r 1 0) (tabM ht r 0 1)) ∧ ZF h' z st t sp ht r p ds ∧ (∃ P, bH pK h' sp P) ∧ TX h' t := by
  have pb := prs_b p hp
  have l := Lm_len w
  rcases Z with Z | ⟨fd, za, zb, zm, ZO0, ⟨ra, z1⟩, ⟨rb, z2⟩, z3, z4, z5, z6, z9, z12⟩
  · obtain ⟨za, zb, zm, ⟨ZO0, -⟩, -⟩ := id Z
    refine ⟨h, ?_, rfl, fun _ _ _ _ => rfl, T, id, Z, hP, X⟩
    unfold FX8_find
    rw [hgi_ob ZO0 rfl, gx_bs, if_neg (by rw [n0, nI_eqN (by omega) (by omega)]; omega)]
  · have bX := bd_tab (p := p) (r := r) w (Or.inl ⟨rfl, rfl⟩) (by omega) hr
    have bY := bd_tab (p := p) (r := r) w (Or.inr ⟨rfl, rfl⟩) (by omega) hr
    have oT0 : isO h t 6 = some () := by
      rcases T with ⟨cc, cr, q, -⟩ | ⟨df, cc, cr, q, -⟩
      · exact isO_ob q
      · exact isO_ob q
    obtain ⟨h1, a1, a2, T1⟩ := h_prepare T HS R w (by omega) (by omega) hr (by omega)
    have e1 : ∀ x, (x < t ∨ t + 12 < x) → h1.2 x = h.2 x := fun x q => a2.2 x q
    obtain ⟨x25, ⟨f, x28⟩, ⟨g, x29⟩, x30⟩ := X
    have S1 : bH sK h1 st S := HS.same fun x q1 q2 => by have q2 : x ≤ st + 8 := q2; exact e1 x (by omega)
    obtain ⟨h2, f2, g2, ra2, b1, b2, b3, b4, b5, b6, b7, b8⟩ := h_mark (v := 0) (ra := z + 1) T1 S1 R.1 R.2.2.1.1 (by omega) (by omega) l.2.1 hp bX bY (x25.same fun x _ _ => e1 x (by omega)) (by rw [e1 _ (by omega)]; exact x28) (by rw [e1 _ (by omega)]; exact x29) (by omega) (by rw [e1 _ (by omega)]; exact z1) (by omega)
    have e2 : ∀ x, (x < t ∨ t + 29 < x) → x ≠ z + 1 → h2.2 x = h.2 x := fun x q q' => by rw [b3 x (by omega) q', e1 x (by omega)]
    have T2 : TP h2 t st (Lm ht).length p (tabM ht r 1 0) (tabM ht r 0 1) := T1.same fun x q1 q2 => b3 x (by omega) (by omega)
    have S2 : bH sK h2 st S := HS.same fun x q1 q2 => by have q2 : x ≤ st + 8 := q2; exact e2 x (by omega) (by omega)
    obtain ⟨h3, f3, g3, rb3, c1, c2, c3, c4, c5, c6, c7, c8⟩ := h_mark (v := 1) (ra := z + 2) T2 S2 R.1 R.2.2.1.1 (by omega) (by omega) l.2.1 hp bX bY b4 b5 b6 (by omega) (by rw [e2 _ (by omega) (by omega)]; exact z2) (by omega)
    have e3 : ∀ x, (x < t ∨ t + 29 < x) → x ≠ z + 1 → x ≠ z + 2 → h3.2 x = h.2 x := fun x q q' q'' => by rw [c3 x (by omega) q'', e2 x q q']
    have T3 : TP h3 t st (Lm ht).length p (tabM ht r 1 0) (tabM ht r 0 1) := T2.same fun x q1 q2 => c3 x (by omega) (by omega)
    have Z1 : ZO h1 z st t sp (nI 0) fd ds := by show _ = _; rw [e1 z (by omega)]; exact ZO0
    have Z2 : ZO h2 z st t sp (nI 0) fd ds := by show _ = _; rw [e2 z (by omega) (by omega)]; exact ZO0
    have Z3 : ZO h3 z st t sp (nI 0) fd ds := by show _ = _; rw [e3 z (by omega) (by omega) (by omega)]; exact ZO0
    -- the number found is set to 0
    have u4 : ∀ x, x ≠ z → ((h3.1, jx_up h3.2 z (.inr (8, (zeO z st t sp (nI 0) fd ds).set 13 (.int (nI 0))))) : jx_H).2 x = h3.2 x := fun x q => up_o q
    have Z4 : ZO ((h3.1, jx_up h3.2 z (.inr (8, (zeO z st t sp (nI 0) fd ds).set 13 (.int (nI 0))))) : jx_H) z st t sp (nI 0) (nI 0) ds := up_s
    generalize hh4 : ((h3.1, jx_up h3.2 z (.inr (8, (zeO z st t sp (nI 0) fd ds).set 13 (.int (nI 0))))) : jx_H) = h4 at u4 Z4
    have h41 : h4.1 = h3.1 := by rw [← hh4]
    have S4 : bH sK h4 st S := HS.same fun x q1 q2 => by have q2 : x ≤ st + 8 := q2; rw [u4 x (by omega), e3 x (by omega) (by omega) (by omega)]
    obtain ⟨P, HP⟩ := hP
    have F4 : zfd h4 z st t sp (nI 0) ds [] := ⟨Z4, ⟨P, HP.same fun x q1 q2 => by have q2 : x ≤ sp + 2 := q2; rw [u4 x (by omega), e3 x (by omega) (by omega) (by omega)]⟩, za, zb, by rw [u4 _ (by omega), e3 _ (by omega) (by omega) (by omega)]; exact z3, by rw [u4 _ (by omega), e3 _ (by omega) (by omega) (by omega)]; exact z4, row2.nil⟩
    obtain ⟨h5, zm5, d1, d2, d3, ⟨d4, d5, za5, zb5, d6, d7, d8⟩, d9, d10⟩ := h_grid S4 R w hp hr o1 o2 o3 F4 (by rw [u4 _ (by omega), c3 _ (by omega) (by omega)]; exact b7) (by rw [u4 _ (by omega)]; exact c7) b8 c8 (by rw [u4 _ (by omega), e3 _ (by omega) (by omega) (by omega)]; exact z5)
    have T5 : TP h5 t st (Lm ht).length p (tabM ht r 1 0) (tabM ht r 0 1) := T3.same fun x q1 q2 => by rw [d3 x (by omega) (by omega) (by omega) (by omega) (by omega), u4 x (by omega)]
    have zz : ∀ x, z + 5 < x → h5.2 x = h.2 x := fun x q => by rw [d3 x (by omega) (by omega) (by omega) (by omega) (by omega), u4 x (by omega), e3 x (by omega) (by omega) (by omega)]
    refine ⟨h5, ?_, by rw [d2, h41, c2, b2, a2.1], fun x q1 q2 q3 => ?_, Or.inl T5, fun _ => T5, ⟨za5, zb5, zm5, ⟨d4, ⟨ra2, ?_⟩, ⟨rb3, ?_⟩, d6, d7, d9, z6.same fun x _ _ => zz x (by omega), z9.same fun x _ _ => zz x (by omega), z12.same fun x _ _ => zz x (by omega)⟩, d8, fun k hk => Or.inl (d10 k ?_)⟩, d5, ?_, ⟨f3, ?_⟩, ⟨g3, ?_⟩, ?_⟩
    · unfold FX8_find
      rw [hgi_ob ZO0 rfl, gx_bs, if_pos (by rw [n0]), hgr_ob (x := t) ZO0 rfl, gx_bs, oT0, gx_bs, a1, gx_bs, hgr_ob (x := t) Z1 rfl, gx_bs, hgr_ob (x := z + 1) Z1 rfl, gx_bs]
      obtain ⟨cc, cr, q, -⟩ := id T1
      rw [isO_ob q, gx_bs, n0, b1, gx_bs, hgr_ob (x := t) Z2 rfl, gx_bs, hgr_ob (x := z + 2) Z2 rfl, gx_bs]
      obtain ⟨cc, cr, q, -⟩ := id T2
      rw [isO_ob q, gx_bs, n1, c1, gx_bs, hp_ob Z3 (Nat.le_of_ble_eq_true rfl), gx_bs, hh4, d1]
    · rw [d3 x q1 (by omega) (by omega) (by omega) (by omega), u4 x (by omega), e3 x (by omega) (by omega) (by omega)]
    · rw [d3 _ (by omega) (by omega) (by omega) (by omega) (by omega), u4 _ (by omega), c3 _ (by omega) (by omega)]; exact b7
    · rw [d3 _ (by omega) (by omega) (by omega) (by omega) (by omega), u4 _ (by omega)]; exact c7
    · have := zAll_le (r := r) w hp; omega
    · exact c4.same fun x q1 q2 => by rw [d3 x (by omega) (by omega) (by omega) (by omega) (by omega), u4 x (by omega)]
    · rw [d3 _ (by omega) (by omega) (by omega) (by omega) (by omega), u4 _ (by omega)]; exact c5
    · rw [d3 _ (by omega) (by omega) (by omega) (by omega) (by omega), u4 _ (by omega)]; exact c6
    · exact x30.same fun x q1 q2 => by rw [d3 x (by omega) (by omega) (by omega) (by omega) (by omega), u4 x (by omega), e3 x (by omega) (by omega) (by omega)]
end
