/-! the class: the search of all zeros -/
section
variable {h : jx_H} {z st t sp p : Nat} {S : MS} {ht : Nat → Nat} {r : Nat → Nat → Nat} {pts : List (Nat × Nat)} {kz ds : Int32}
theorem bF {b : Bool} : (bI b = (0 : Int32)) = (b = false) := by rw [n0, bI_0]
theorem h_grid (HS : bH sK h st S) (R : ST S p ht r pts) (w : wfh ht) (hp : p ∈ prs) (hr : ∀ b k, b < (Lb ht).length → k < (Lm ht).length → r b k < p) (o1 : st + 8 < sp) (o2 : sp + 2 < t) (o3 : t + 32 < z) (F : zfd h z st t sp kz ds []) {ra rb : Nat → Int32} (ea : h.2 (z + 1) = some (bo 97 ra)) (eb : h.2 (z + 2) = some (bo 97 rb)) (hra : ∀ a, a < p → ∃ b, ra a = bI b ∧ ((∃ w, lEig (Lm ht).length p (pickM 0 (tabM ht r 1 0) (tabM ht r 0 1)) a w) → b = true)) (hrb : ∀ a, a < p → ∃ b, rb a = bI b ∧ ((∃ w, lEig (Lm ht).length p (pickM 1 (tabM ht r 1 0) (tabM ht r 0 1)) a w) → b = true)) {zm : Nat → Int32} (em : h.2 (z + 5) = some (ar 12 zm)) :
    ∃ h' zm', itr (fun s : Int32 × jx_H => LX8_find_46 z s.1 s.2) (nI 0, h) = some h' ∧ h'.1 = h.1 ∧ (∀ x, (x < sp ∨ sp + 2 < x) → x ≠ z → x ≠ z + 3 → x ≠ z + 4 → x ≠ z + 5 → h'.2 x = h.2 x) ∧ zfd h' z st t sp (nI 1) ds (zAll (zF ht r p) p) ∧ h'.2 (z + 5) = some (ar 12 zm') ∧ ∀ k, k < 12 → zm' k = m1 := by
  have pb := prs_b p hp
  have l := Lm_len w
  have hz12 := zAll_le (r := r) w hp
  have keep : ∀ {hh : jx_H}, zch h hh z sp → bH sK hh st S ∧ hgi hh st 5 0 = some (nI p) ∧ hh.2 (z + 1) = some (bo 97 ra) ∧ hh.2 (z + 2) = some (bo 97 rb) ∧ hh.2 (z + 5) = some (ar 12 zm) := by
    intro hh c
    have s1 : bH sK hh st S := HS.same fun x q1 q2 => by
      have q2 : x ≤ st + 8 := q2
      exact c.2 x (by omega) (by omega) (by omega) (by omega)
    exact ⟨s1, by rw [← R.1]; exact hgi_ob s1.1 rfl, by rw [c.2 _ (by omega) (by omega) (by omega) (by omega)]; exact ea, by rw [c.2 _ (by omega) (by omega) (by omega) (by omega)]; exact eb, by rw [c.2 _ (by omega) (by omega) (by omega) (by omega)]; exact em⟩
  have key : ∃ x, itr (fun s : Int32 × jx_H => LX8_find_46 z s.1 s.2) (nI 0, h) = some x ∧ ∃ zm', x.1 = h.1 ∧ (∀ y, (y < sp ∨ sp + 2 < y) → y ≠ z → y ≠ z + 3 → y ≠ z + 4 → y ≠ z + 5 → x.2 y = h.2 y) ∧ zfd x z st t sp (nI 1) ds (zAll (zF ht r p) p) ∧ x.2 (z + 5) = some (ar 12 zm') ∧ ∀ k, k < 12 → zm' k = m1 := by
    refine itr_run p (fun a s => ∃ hh, s = (nI a, hh) ∧ zch h hh z sp ∧ zfd hh z st t sp kz ds (zP (zF ht r p) p a 0)) ⟨h, rfl, zch.rf, F⟩ ?_ ?_
    · rintro a s ha ⟨hh, rfl, c, f⟩
      left
      obtain ⟨k1, k2, k3, k4, k5⟩ := keep c
      obtain ⟨ba, ba1, ba2⟩ := hra a ha
      have go : ∃ x, itr (fun s : Int32 × jx_H => LX8_find_65 z (nI a) s.1 s.2) (nI 0, hh) = some x ∧ ∃ h3, x = .inl (nI (a + 1), h3) ∧ zch h h3 z sp ∧ zfd h3 z st t sp kz ds (zP (zF ht r p) p (a + 1) 0) := by
        cases hba : ba with
        | false =>
          have none0 : zP (zF ht r p) p (a + 1) 0 = zP (zF ht r p) p a 0 := by
            rw [zP_a]
            refine zP_none p fun b hb => ?_
            cases hz : zF ht r p a b with
            | false => rfl
            | true =>
              have := ba2 ⟨_, (zero_eig w (by omega) hz).1⟩
              rw [hba] at this
              cases this
          refine ⟨.inl (nI (a + 1), hh), itr_inr ?_, hh, rfl, c, by rw [none0]; exact f⟩
          show LX8_find_65 z (nI a) (nI 0) hh = _
          unfold LX8_find_65 BX8_find_112
          rw [hgr_ob (x := z + 1) f.1 rfl, gx_bs, hal_bo k3 (by omega) (by omega), gx_bs, ba1, hba, if_pos (by rw [bF]), n1, nI_add]
          rfl
        | true =>
          refine itr_run p (fun b s => ∃ h3, s = (nI b, h3) ∧ zch h h3 z sp ∧ zfd h3 z st t sp kz ds (zP (zF ht r p) p a b)) ⟨hh, rfl, c, f⟩ ?_ ?_
          · rintro b s hb ⟨h3, rfl, c3, f3⟩
            left
            obtain ⟨j1, j2, j3, j4, j5⟩ := keep c3
            obtain ⟨bb, bb1, bb2⟩ := hrb b hb
            unfold LX8_find_65 BX8_find_106
            dsimp only
            rw [hgr_ob (x := z + 1) f3.1 rfl, gx_bs, hal_bo j3 (by omega) (by omega), gx_bs, ba1, hba, if_neg (by rw [bF]; decide), hgr_ob (x := st) f3.1 rfl, gx_bs, j2, gx_bs, if_neg (by rw [nI_leN (by omega) (by omega)]; omega), n97, if_neg (by rw [nI_leN (by omega) (by omega)]; omega), hgr_ob (x := z + 2) f3.1 rfl, gx_bs, hal_bo j4 (by omega) (by omega), gx_bs, bb1]
            rw [zP_b]
            cases hbb : bb with
            | false =>
              have hz : zF ht r p a b = false := by
                cases hz : zF ht r p a b with
                | false => rfl
                | true =>
                  have := bb2 ⟨_, (zero_eig w (by omega) hz).2⟩
                  rw [hbb] at this
                  cases this
              rw [if_pos (by rw [bF]), n1, nI_add, hz]
              exact ⟨_, rfl, h3, rfl, c3, by rw [if_neg (by decide), List.append_nil]; exact f3⟩
            | true =>
              have hl := zP_all (Z := zF ht r p) ha (show b ≤ p by omega)
              obtain ⟨h4, t1, t2, t3⟩ := h_try j1 R w (by omega) (by omega) hr o1 o2 o3 f3 ha hb (fun hz => by
                have := zP_all (Z := zF ht r p) ha (show b + 1 ≤ p by omega)
                rw [zP_b, hz, if_pos rfl, List.length_append] at this
                have : (zP (zF ht r p) p a b).length + 1 ≤ (zAll (zF ht r p) p).length := this
                omega) (by omega)
              rw [if_neg (by rw [bF]; decide), isO_ob f3.1, gx_bs, t1, gx_bs, n1, nI_add]
              exact ⟨_, rfl, h4, rfl, c3.tr t2, t3⟩
          · rintro s ⟨h3, rfl, c3, f3⟩
            obtain ⟨j1, j2, j3, j4, j5⟩ := keep c3
            unfold LX8_find_65 BX8_find_112
            dsimp only
            rw [hgr_ob (x := z + 1) f3.1 rfl, gx_bs, hal_bo j3 (by omega) (by omega), gx_bs, ba1, hba, if_neg (by rw [bF]; decide), hgr_ob (x := st) f3.1 rfl, gx_bs, j2, gx_bs, if_pos (by rw [nI_leN (by omega) (by omega)]; omega), n1, nI_add]
            exact ⟨_, rfl, h3, rfl, c3, by rw [zP_a]; exact f3⟩
      obtain ⟨x, x1, h3, rfl, x2⟩ := go
      unfold LX8_find_46
      dsimp only
      rw [hgr_ob (x := st) f.1 rfl, gx_bs, k2, gx_bs, if_neg (by rw [nI_leN (by omega) (by omega)]; omega), n97, if_neg (by rw [nI_leN (by omega) (by omega)]; omega), n0, x1]
      exact ⟨_, rfl, h3, rfl, x2⟩
    · rintro s ⟨hh, rfl, c, f⟩
      obtain ⟨k1, k2, k3, k4, k5⟩ := keep c
      obtain ⟨g', a1, a2⟩ := h_fill (v := m1) k5 (by omega)
      obtain ⟨Z, ⟨P, HP⟩, za, zb, e3, e4, rw2⟩ := f
      have Z1 : ZO ((hh.1, jx_up hh.2 (z + 5) (ar 12 g')) : jx_H) z st t sp kz (nI (zP (zF ht r p) p p 0).length) ds := by show jx_up hh.2 (z + 5) _ z = _; rw [up_o (by omega)]; exact Z
      unfold LX8_find_46 BX8_find_118
      dsimp only
      rw [hgr_ob (x := st) Z rfl, gx_bs, k2, gx_bs, if_pos (by rw [nI_leN (by omega) (by omega)]; omega), hgr_ob (x := z + 5) Z rfl, gx_bs, n1, nm1, a1, gx_bs, hp_ob Z1 (Nat.le_of_ble_eq_true rfl), gx_bs]
      refine ⟨_, rfl, g', c.1, fun y q1 q2 q3 q4 q5 => ?_, ⟨?_, ⟨P, HP.same fun x q1 q2 => ?_⟩, za, zb, ?_, ?_, rw2⟩, ?_, a2⟩
      · show jx_up (jx_up hh.2 (z + 5) _) z _ y = _
        rw [up_o q2, up_o q5, c.2 y q1 q2 q3 q4]
      · show jx_up (jx_up hh.2 (z + 5) _) z _ z = _
        rw [up_s]
        rfl
      · have q2 : x ≤ sp + 2 := q2
        show jx_up (jx_up hh.2 (z + 5) _) z _ x = _
        rw [up_o (by omega), up_o (by omega)]
      · show jx_up (jx_up hh.2 (z + 5) _) z _ (z + 3) = _
        rw [up_o (by omega), up_o (by omega)]; exact e3
      · show jx_up (jx_up hh.2 (z + 5) _) z _ (z + 4) = _
        rw [up_o (by omega), up_o (by omega)]; exact e4
      · show jx_up (jx_up hh.2 (z + 5) _) z _ (z + 5) = _
        rw [up_o (by omega), up_s]
  obtain ⟨x, x1, zm', x2⟩ := key
  exact ⟨x, zm', x1, x2⟩
end
