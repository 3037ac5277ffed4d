/-! the class: Horner's rule whole -/
section
variable {h : jx_H} {t st n p : Nat} {X Y : Nat → Nat → Nat} {S : MS} {c : Nat → Nat → Nat}
theorem nI_dec {k : Nat} : nI (k + 1) + (-1 : Int32) = nI k := by
  rw [n1, nm1]
  have e : nI (k + 1) = nI k + nI 1 := (nI_add k 1).symm
  rw [e, Int32.add_assoc, show nI 1 + m1 = (0 : Int32) by decide +kernel, Int32.add_zero]
theorem h_hor (T : TP h t st n p X Y) (HS : bH sK h st S) (hP : S.1 0 = nI p) (hN : S.1 2 = nI n) (dst : st + 8 < t) (hn : 0 < n) (hn2 : n ≤ 12) (hp2 : 2 ≤ p) (hp : p < 1000) (hX : bdM X n n p) (hY : bdM Y n n p) (E : TX h t) (F : HM h (t + 30) 21 12 21 n (fun j k => itV n p Y e0V j k)) {pa ra : Nat} {g f : Nat → Int32} (ep : h.2 pa = some (ar 441 g)) (er : h.2 ra = some (ar 12 f)) (dp : t + 32 < pa) (dr : t + 32 < ra) (hne : pa ≠ ra) (hg : ∀ i j, i < 21 → j < 21 → g (21 * i + j) = nI (c i j) ∧ c i j < p) (hf : ∀ k, k < 12 → f k = nI 0) :
    ∃ h' f', itr (fun s : Int32 × jx_H => LX6_normalFormOf_16 t pa ra s.1 s.2) (nI 20, h) = some h' ∧ h'.1 = h.1 ∧ (∀ x, x ≠ t + 29 → x ≠ ra → h'.2 x = h.2 x) ∧ (∃ g', h'.2 (t + 29) = some (ar 12 g')) ∧ h'.2 ra = some (ar 12 f') ∧ (∀ k, k < n → f' k = nI (polV n p X Y c k)) ∧ ∀ k, n ≤ k → k < 12 → f' k = nI 0 := by
  obtain ⟨x25, -, ⟨g0, x29⟩, -⟩ := E
  obtain ⟨cc, cr, T0, -, ⟨K1, -, -, -⟩, -⟩ := id T
  have st1 : ∀ {hh : jx_H}, (∀ x, x ≠ t + 29 → x ≠ ra → hh.2 x = h.2 x) → bH sK hh st S ∧ hgi hh st 5 2 = some (nI n) ∧ hgi hh st 5 0 = some (nI p) ∧ TO hh t st (nI 1) (nI (difN n (mulM n p X Y) (mulM n p Y X))) cc cr ∧ HM hh (t + 1) 12 12 n n X ∧ HM hh (t + 30) 21 12 21 n (fun j k => itV n p Y e0V j k) ∧ hh.2 pa = some (ar 441 g) := by
    intro hh e
    have S1 : bH sK hh st S := HS.same fun x x1 x2 => by have x2 : x ≤ st + 8 := x2; exact e x (by omega) (by omega)
    exact ⟨S1, by rw [← hN]; exact hgi_ob S1.1 rfl, by rw [← hP]; exact hgi_ob S1.1 rfl, by show _ = _; rw [e t (by omega) (by omega)]; exact T0, K1.same fun x _ _ => e x (by omega) (by omega), F.same fun x _ _ => e x (by omega) (by omega), by rw [e pa (by omega) hne]; exact ep⟩
  have bF : bdM (fun j k => itV n p Y e0V j k) 21 n p := fun j k _ hk => bd_itV (by omega) (bd_e0 hp2) j k hk
  have key : ∃ x, itr (fun s : Int32 × jx_H => LX6_normalFormOf_16 t pa ra s.1 s.2) (nI 20, h) = some x ∧ ∃ f', x.1 = h.1 ∧ (∀ y, y ≠ t + 29 → y ≠ ra → x.2 y = h.2 y) ∧ (∃ g', x.2 (t + 29) = some (ar 12 g')) ∧ x.2 ra = some (ar 12 f') ∧ (∀ k, k < n → f' k = nI (polV n p X Y c k)) ∧ ∀ k, n ≤ k → k < 12 → f' k = nI 0 := by
    refine itr_run 21 (fun s u => ∃ hh f' g', u = (if s = 21 then m1 else nI (20 - s), hh) ∧ hh.1 = h.1 ∧ (∀ x, x ≠ t + 29 → x ≠ ra → hh.2 x = h.2 x) ∧ hh.2 (t + 29) = some (ar 12 g') ∧ hh.2 ra = some (ar 12 f') ∧ VL f' n (hor n p X Y c s) ∧ ∀ k, n ≤ k → k < 12 → f' k = nI 0) ⟨h, f, g0, by rw [if_neg (by omega)], rfl, fun _ _ _ => rfl, x29, er, fun k hk => hf k (by omega), fun k _ hk => hf k hk⟩ ?_ ?_
    · rintro s u hs ⟨hh, f', g', rfl, b0, b1, b2, b3, b4, b5⟩
      left
      obtain ⟨S1, k2, k3, k4, k5, k6, k7⟩ := st1 b1
      obtain ⟨h2, f2, g2, a1, a2, a3, a4, a5, a6, a7⟩ := h_applyTo (v := hor n p X Y c s) z1212 k5 b3 b2 (by omega) (by omega) (by omega) hn2 (by omega) hp hX b4 (bd_hor (by omega) s)
      have c2 : ∀ x, x ≠ t + 29 → x ≠ ra → h2.2 x = h.2 x := fun x q1 q2 => by rw [a3 x q2 q1, b1 x q1 q2]
      have nxt : nI (20 - s) + (-1 : Int32) = if s + 1 = 21 then m1 else nI (20 - (s + 1)) := by
        by_cases e : s = 20
        · rw [if_pos (by omega), e]
          decide +kernel
        · rw [if_neg (by omega), show 20 - s = (20 - (s + 1)) + 1 by omega, nI_dec]
      have inner : ∃ x, itr (fun u : Int32 × jx_H => LX6_normalFormOf_42 t pa ra (nI (20 - s)) u.1 u.2) (nI 0, h2) = some x ∧ ∃ h3 f3, x = .inl (if s + 1 = 21 then m1 else nI (20 - (s + 1)), h3) ∧ h3.1 = h.1 ∧ (∀ x, x ≠ t + 29 → x ≠ ra → h3.2 x = h.2 x) ∧ h3.2 (t + 29) = some (ar 12 g2) ∧ h3.2 ra = some (ar 12 f3) ∧ VL f3 n (hor n p X Y c (s + 1)) ∧ ∀ k, n ≤ k → k < 12 → f3 k = nI 0 := by
        refine itr_run 21 (fun j u => ∃ h3 f3, u = (nI j, h3) ∧ h3.1 = h.1 ∧ (∀ x, x ≠ t + 29 → x ≠ ra → h3.2 x = h.2 x) ∧ h3.2 (t + 29) = some (ar 12 g2) ∧ h3.2 ra = some (ar 12 f3) ∧ VL f3 n (fun k => (mulV n p X (hor n p X Y c s) k + sm (fun j => c (20 - s) j * itV n p Y e0V j k) j) % p) ∧ ∀ k, n ≤ k → k < 12 → f3 k = nI 0) ⟨h2, f2, rfl, by rw [a2, b0], c2, a5, a4, fun k hk => by
            dsimp only
            rw [a6 k hk]
            show _ = nI ((mulV n p X (hor n p X Y c s) k + 0) % p)
            rw [Nat.add_zero, Nat.mod_eq_of_lt (bd_mulV (n := n) (by omega) k hk)], fun k h1 h2 => by rw [a7 k h1]; exact b5 k h1 h2⟩ ?_ ?_
        · rintro j u hj ⟨h3, f3, rfl, d0, d1, d2, d3, d4, d5⟩
          left
          obtain ⟨S3, q2, q3, q4, q5, q6, q7⟩ := st1 d1
          have hgj := hg (20 - s) j (by omega) hj
          unfold LX6_normalFormOf_42 BX6_normalFormOf_83
          dsimp only
          rw [n20, if_neg (by rw [nI_ltN (by omega) (by omega)]; omega), hlen_ar q7, gx_bs, n21, nI_mul, nI_add, show (20 - s) * 21 + j = 21 * (20 - s) + j by omega, if_neg (by rw [nI_leN (by omega) (by omega)]; omega), hal_ar q7 (by omega) (by omega), gx_bs, hgj.1]
          by_cases hz : c (20 - s) j = 0
          · rw [if_pos (by rw [hz, n0]), n1, nI_add]
            refine ⟨_, rfl, h3, f3, rfl, d0, d1, d2, d3, fun k hk => ?_, d5⟩
            rw [d4 k hk]
            show _ = nI ((mulV n p X (hor n p X Y c s) k + (sm (fun j => c (20 - s) j * itV n p Y e0V j k) j + c (20 - s) j * itV n p Y e0V j k)) % p)
            rw [hz, Nat.zero_mul, Nat.add_zero]
          · obtain ⟨f4, e1, e2, e3⟩ := h_addForm (a := c (20 - s) j) q4 S3 hP hN hn2 (by omega) hp q6 bF d3 dr dst d4 (fun k _ => Nat.mod_lt _ (by omega)) hj hgj.2
            rw [if_neg (by rw [n0, nI_eqN (by omega) (by omega)]; exact hz), gx_bs, isO_ob q4, gx_bs, e1, gx_bs, n1, nI_add]
            refine ⟨_, rfl, _, f4, rfl, d0, fun x x1 x2 => ?_, ?_, up_s, fun k hk => ?_, fun k k1 k2 => by rw [e3 k k1]; exact d5 k k1 k2⟩
            · show jx_up h3.2 ra _ x = _
              rw [up_o x2, d1 x x1 x2]
            · show jx_up h3.2 ra _ (t + 29) = _
              rw [up_o (by omega)]; exact d2
            · rw [e2 k hk]
              show _ = nI ((mulV n p X (hor n p X Y c s) k + (sm (fun j => c (20 - s) j * itV n p Y e0V j k) j + c (20 - s) j * itV n p Y e0V j k)) % p)
              dsimp only
              rw [Nat.mod_add_mod, Nat.add_assoc]
        · rintro u ⟨h3, f3, rfl, d0, d1, d2, d3, d4, d5⟩
          unfold LX6_normalFormOf_42
          dsimp only
          rw [n20, if_pos (by rw [nI_ltN (by omega) (by omega)]; omega), nxt]
          exact ⟨_, rfl, h3, f3, rfl, d0, d1, d2, d3, d4, d5⟩
      obtain ⟨x, i1, h3, f3, rfl, i2, i3, i4, i5, i6, i7⟩ := inner
      unfold LX6_normalFormOf_16
      dsimp only
      rw [if_neg (show ¬ s = 21 by omega), n0, if_neg (by rw [nI_lt0 (by omega)]; exact id), hgr_ob (x := t + 1) k4 rfl, gx_bs, hgr_ob (x := t + 29) k4 rfl, gx_bs, hgr_ob (x := st) k4 rfl, gx_bs, k3, gx_bs, k5.ob, gx_bs, a1, gx_bs, i1]
      exact ⟨_, rfl, h3, f3, g2, rfl, i2, i3, i4, i5, i6, i7⟩
    · rintro u ⟨hh, f', g', rfl, b0, b1, b2, b3, b4, b5⟩
      unfold LX6_normalFormOf_16
      dsimp only
      rw [if_pos rfl, n0, if_pos (by rw [m1_neg]; trivial)]
      exact ⟨_, rfl, f', b0, b1, ⟨g', b2⟩, b3, fun k hk => by rw [b4 k hk, hor_pol (by omega) hk], b5⟩
  obtain ⟨x, x1, f', x2⟩ := key
  exact ⟨x, f', x1, x2⟩
end
section
variable {h : jx_H} {t st p : Nat} {S : MS} {ht : Nat → Nat} {r : Nat → Nat → Nat} {pts : List (Nat × Nat)} {c : Nat → Nat → Nat}
theorem h_horner (T : TI h t st (Lm ht).length p (tabM ht r 1 0) (tabM ht r 0 1)) (HS : bH sK h st S) (R : ST S p ht r pts) (w : wfh ht) (hp2 : 2 ≤ p) (hp : p < 1000) (hr : ∀ b k, b < (Lb ht).length → k < (Lm ht).length → r b k < p) (dst : st + 8 < t) (E : TX h t) {pa ra : Nat} {g f : Nat → Int32} (ep : h.2 pa = some (ar 441 g)) (er : h.2 ra = some (ar 12 f)) (dp : t + 32 < pa) (dr : t + 32 < ra) (hne : pa ≠ ra) (hg : ∀ i j, i < 21 → j < 21 → g (21 * i + j) = nI (c i j) ∧ c i j < p) :
    ∃ h' f', FX6_normalFormOf t pa ra h = some h' ∧ h'.1 = h.1 ∧ (∀ x, (x < t ∨ t + 32 < x) → x ≠ ra → h'.2 x = h.2 x) ∧ TP h' t st (Lm ht).length p (tabM ht r 1 0) (tabM ht r 0 1) ∧ TX h' t ∧ h'.2 ra = some (ar 12 f') ∧ (∀ k, k < (Lm ht).length → f' k = nI (polV (Lm ht).length p (tabM ht r 1 0) (tabM ht r 0 1) c k)) ∧ ∀ k, (Lm ht).length ≤ k → k < 12 → f' k = nI 0 := by
  have l := Lm_len w
  have bX := bd_tab (p := p) (r := r) w (Or.inl ⟨rfl, rfl⟩) hp2 hr
  have bY := bd_tab (p := p) (r := r) w (Or.inr ⟨rfl, rfl⟩) hp2 hr
  have oT0 : isO h t 6 = some () := by
    rcases T with ⟨cc, cr, q, -⟩ | ⟨df, cc, cr, q, -⟩
    · exact isO_ob q
    · exact isO_ob q
  obtain ⟨h1, a1, a2, T1⟩ := h_prepare T HS R w hp2 hp hr dst
  have e1 : ∀ x, (x < t ∨ t + 12 < x) → h1.2 x = h.2 x := fun x q => a2.2 x q
  have S1 : bH sK h1 st S := HS.same fun x q1 q2 => by have q2 : x ≤ st + 8 := q2; exact e1 x (by omega)
  obtain ⟨h2, b1, b2, b3, b4, b5⟩ := h_forms T1 S1 R.1 R.2.2.1.1 dst (by omega) l.2.1 hp2 hp bX bY (E.same fun x _ _ => e1 x (by omega))
  have T2 : TP h2 t st (Lm ht).length p (tabM ht r 1 0) (tabM ht r 0 1) := T1.same fun x _ _ => b3 x (by omega)
  have S2 : bH sK h2 st S := S1.same fun x q1 q2 => by have q2 : x ≤ st + 8 := q2; exact b3 x (by omega)
  have er2 : h2.2 ra = some (ar 12 f) := by rw [b3 _ (by omega), e1 _ (by omega)]; exact er
  obtain ⟨f3, c1, c2⟩ := h_fill (v := nI 0) er2 (by omega)
  have k3 : ∀ x, x ≠ ra → ((h2.1, jx_up h2.2 ra (ar 12 f3)) : jx_H).2 x = h2.2 x := fun x q => up_o q
  have T3 : TP ((h2.1, jx_up h2.2 ra (ar 12 f3)) : jx_H) t st (Lm ht).length p (tabM ht r 1 0) (tabM ht r 0 1) := T2.same fun x _ _ => k3 x (by omega)
  obtain ⟨h4, f4, d1, d2, d3, d4, d5, d6, d7⟩ := h_hor (c := c) T3 (S2.same fun x q1 q2 => by have q2 : x ≤ st + 8 := q2; exact k3 x (by omega)) R.1 R.2.2.1.1 dst (by omega) l.2.1 hp2 hp bX bY (b4.same fun x _ _ => k3 x (by omega)) (b5.same fun x _ _ => k3 x (by omega)) (by rw [k3 _ hne, b3 _ (by omega), e1 _ (by omega)]; exact ep) up_s dp dr hne hg c2
  obtain ⟨cc1, cr1, q1, -⟩ := id T1
  refine ⟨h4, f4, ?_, by rw [d2, b2, a2.1], fun x x1 x2 => by rw [d3 x (by omega) x2, k3 x x2, b3 x (by omega), e1 x (by omega)], T3.same fun x _ _ => d3 x (by omega) (by omega), ?_, d5, d6, d7⟩
  · unfold FX6_normalFormOf
    rw [oT0, gx_bs, a1, gx_bs, isO_ob q1, gx_bs, b1, gx_bs, n0, c1, gx_bs, n20, d1]
  · obtain ⟨t25, ⟨u, t28⟩, -, t30⟩ := b4
    exact ⟨t25.same fun x _ _ => by rw [d3 x (by omega) (by omega), k3 x (by omega)], ⟨u, by rw [d3 _ (by omega) (by omega), k3 _ (by omega)]; exact t28⟩, d4, t30.same fun x _ _ => by rw [d3 x (by omega) (by omega), k3 x (by omega)]⟩
end
