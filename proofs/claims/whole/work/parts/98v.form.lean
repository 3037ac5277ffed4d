/-! the class: all monomials' tables, the trace form, its rank -/
/-- the rows of a State in a heap -/
theorem bH.s1 {h : jx_H} {q : Nat} {S : MS} (H : bH sK h q S) : h.2 (q + 1) = some (ar 13 (S.2 1)) := H.2 1 ⟨by omega, by show 1 ≤ 8; omega⟩
theorem bH.r1 {h : jx_H} {q : Nat} {S : MS} (H : bH sK h q S) : hgr h q 5 1 = some (q + 1) := hgr_ob H.1 rfl
theorem bH.s2 {h : jx_H} {q : Nat} {S : MS} (H : bH sK h q S) : h.2 (q + 2) = some (ar 12 (S.2 2)) := H.2 2 ⟨by omega, by show 2 ≤ 8; omega⟩
theorem bH.r2 {h : jx_H} {q : Nat} {S : MS} (H : bH sK h q S) : hgr h q 5 3 = some (q + 2) := hgr_ob H.1 rfl
theorem bH.s3 {h : jx_H} {q : Nat} {S : MS} (H : bH sK h q S) : h.2 (q + 3) = some (ar 12 (S.2 3)) := H.2 3 ⟨by omega, by show 3 ≤ 8; omega⟩
theorem bH.r3 {h : jx_H} {q : Nat} {S : MS} (H : bH sK h q S) : hgr h q 5 4 = some (q + 3) := hgr_ob H.1 rfl
theorem bH.s4 {h : jx_H} {q : Nat} {S : MS} (H : bH sK h q S) : h.2 (q + 4) = some (ar 13 (S.2 4)) := H.2 4 ⟨by omega, by show 4 ≤ 8; omega⟩
theorem bH.r4 {h : jx_H} {q : Nat} {S : MS} (H : bH sK h q S) : hgr h q 5 6 = some (q + 4) := hgr_ob H.1 rfl
theorem bH.s5 {h : jx_H} {q : Nat} {S : MS} (H : bH sK h q S) : h.2 (q + 5) = some (ar 13 (S.2 5)) := H.2 5 ⟨by omega, by show 5 ≤ 8; omega⟩
theorem bH.r5 {h : jx_H} {q : Nat} {S : MS} (H : bH sK h q S) : hgr h q 5 7 = some (q + 5) := hgr_ob H.1 rfl
theorem bH.s6 {h : jx_H} {q : Nat} {S : MS} (H : bH sK h q S) : h.2 (q + 6) = some (ar 156 (S.2 6)) := H.2 6 ⟨by omega, by show 6 ≤ 8; omega⟩
theorem bH.r6 {h : jx_H} {q : Nat} {S : MS} (H : bH sK h q S) : hgr h q 5 8 = some (q + 6) := hgr_ob H.1 rfl
theorem bH.s7 {h : jx_H} {q : Nat} {S : MS} (H : bH sK h q S) : h.2 (q + 7) = some (ar 12 (S.2 7)) := H.2 7 ⟨by omega, by show 7 ≤ 8; omega⟩
theorem bH.r7 {h : jx_H} {q : Nat} {S : MS} (H : bH sK h q S) : hgr h q 5 10 = some (q + 7) := hgr_ob H.1 rfl
theorem bH.s8 {h : jx_H} {q : Nat} {S : MS} (H : bH sK h q S) : h.2 (q + 8) = some (ar 12 (S.2 8)) := H.2 8 ⟨by omega, by show 8 ≤ 8; omega⟩
theorem bH.r8 {h : jx_H} {q : Nat} {S : MS} (H : bH sK h q S) : hgr h q 5 11 = some (q + 8) := hgr_ob H.1 rfl
theorem bH.i0 {h : jx_H} {q : Nat} {S : MS} (H : bH sK h q S) : hgi h q 5 0 = some (S.1 0) := hgi_ob H.1 rfl
theorem bH.i2 {h : jx_H} {q : Nat} {S : MS} (H : bH sK h q S) : hgi h q 5 2 = some (S.1 2) := hgi_ob H.1 rfl
theorem bH.i5 {h : jx_H} {q : Nat} {S : MS} (H : bH sK h q S) : hgi h q 5 5 = some (S.1 5) := hgi_ob H.1 rfl
theorem bH.i9 {h : jx_H} {q : Nat} {S : MS} (H : bH sK h q S) : hgi h q 5 9 = some (S.1 9) := hgi_ob H.1 rfl
/-- what making the tables may change: matrices that were there, new places, their row -/
def mtc (h h' : jx_H) (z : Nat) (ft ft' : Nat → Option Nat) : Prop := h.1 ≤ h'.1 ∧ (∀ x, x < h.1 → x ≠ z + 15 → (∀ j q, j < 12 → ft j = some q → x < q ∨ q + 2 < x) → h'.2 x = h.2 x) ∧ ∀ j q, j < 12 → ft' j = some q → ft j = some q ∨ h.1 ≤ q
section
variable {h : jx_H} {z st t sp p lo : Nat} {S : MS} {ht : Nat → Nat} {r : Nat → Nat → Nat} {pts : List (Nat × Nat)} {kz fd ds : Int32} {ft : Nat → Option Nat}
theorem h_monos (T : TP h t st (Lm ht).length p (tabM ht r 1 0) (tabM ht r 0 1)) (HS : bH sK h st S) (R : ST S p ht r pts) (w : wfh ht) (hp2 : 2 ≤ p) (hp : p < 1000) (hr : ∀ b k, b < (Lb ht).length → k < (Lm ht).length → r b k < p) (Z : ZO h z st t sp kz fd ds) (e15 : h.2 (z + 15) = some (qm 12 ft)) (MA : matA h lo ft) (l0 : st + 8 ≤ lo) (l1 : z + 15 ≤ lo) (l2 : t + 24 ≤ lo) (l3 : lo < h.1) (o1 : st + 8 < t) (o2 : t + 24 < z) :
    ∃ h' ft', FX8_makeMonomialTables z h = some h' ∧ mtc h h' z ft ft' ∧ h'.2 (z + 15) = some (qm 12 ft') ∧ matA h' lo ft' ∧ ∀ j, j < (Lm ht).length → ∃ q, ft' j = some q ∧ HM h' q 12 12 (Lm ht).length (Lm ht).length (monM (Lm ht).length p (tabM ht r 1 0) (tabM ht r 0 1) (mx (Lm ht) j) (my (Lm ht) j)) := by
  have l := Lm_len w
  -- everything up to lo but the row of matrices stays
  have stay : ∀ {hh : jx_H} {ff : Nat → Option Nat}, mtc h hh z ft ff → ∀ x, x ≤ lo → x ≠ z + 15 → hh.2 x = h.2 x := by
    intro hh ff c x hx hne
    exact c.2.1 x (by omega) hne fun j q hj hq => by have := (MA.1 j q hj hq).2.1; omega
  have st1 : ∀ {hh : jx_H} {ff : Nat → Option Nat}, mtc h hh z ft ff → TP hh t st (Lm ht).length p (tabM ht r 1 0) (tabM ht r 0 1) ∧ bH sK hh st S ∧ ZO hh z st t sp kz fd ds := by
    intro hh ff c
    refine ⟨T.same fun x _ _ => stay c x (by omega) (by omega), HS.same fun x _ q2 => ?_, ?_⟩
    · have q2 : x ≤ st + 8 := q2
      exact stay c x (by omega) (by omega)
    · show _ = _; rw [stay c z (by omega) (by omega)]; exact Z
  have key : ∃ x, itr (fun s : Int32 × jx_H => LX8_makeMonomialTables_2 z s.1 s.2) (nI 0, h) = some x ∧ ∃ ft', mtc h x z ft ft' ∧ x.2 (z + 15) = some (qm 12 ft') ∧ matA x lo ft' ∧ ∀ j, j < (Lm ht).length → ∃ q, ft' j = some q ∧ HM x q 12 12 (Lm ht).length (Lm ht).length (monM (Lm ht).length p (tabM ht r 1 0) (tabM ht r 0 1) (mx (Lm ht) j) (my (Lm ht) j)) := by
    refine itr_run (Lm ht).length (fun k s => ∃ hh ff, s = (nI k, hh) ∧ mtc h hh z ft ff ∧ hh.2 (z + 15) = some (qm 12 ff) ∧ matA hh lo ff ∧ ∀ j, j < k → ∃ q, ff j = some q ∧ HM hh q 12 12 (Lm ht).length (Lm ht).length (monM (Lm ht).length p (tabM ht r 1 0) (tabM ht r 0 1) (mx (Lm ht) j) (my (Lm ht) j))) ⟨h, ft, rfl, ⟨Nat.le_refl _, fun _ _ _ _ => rfl, fun j q _ e => Or.inl e⟩, e15, MA, fun j hj => by omega⟩ ?_ ?_
    · rintro k s hk ⟨hh, ff, rfl, c, e, M, D⟩
      left
      obtain ⟨T1, S1, Z1⟩ := st1 c
      have gN : hgi hh st 5 2 = some (nI (Lm ht).length) := by rw [← R.2.2.1.1]; exact hgi_ob S1.1 rfl
      -- the step with a matrix that is there
      have go : ∀ (hh : jx_H) (ff : Nat → Option Nat) (q : Nat), mtc h hh z ft ff → hh.2 (z + 15) = some (qm 12 ff) → matA hh lo ff → (∀ j, j < k → ∃ q, ff j = some q ∧ HM hh q 12 12 (Lm ht).length (Lm ht).length (monM (Lm ht).length p (tabM ht r 1 0) (tabM ht r 0 1) (mx (Lm ht) j) (my (Lm ht) j))) → ff k = some q → ∃ h', BX8_makeMonomialTables_39 z (nI k) hh = some (.inl (nI (k + 1), h')) ∧ mtc h h' z ft ff ∧ h'.2 (z + 15) = some (qm 12 ff) ∧ matA h' lo ff ∧ ∀ j, j < k + 1 → ∃ q, ff j = some q ∧ HM h' q 12 12 (Lm ht).length (Lm ht).length (monM (Lm ht).length p (tabM ht r 1 0) (tabM ht r 0 1) (mx (Lm ht) j) (my (Lm ht) j)) := by
        intro hh ff q c e M D hq
        obtain ⟨T1, S1, Z1⟩ := st1 c
        obtain ⟨h', a1, a2, a3⟩ := h_mono T1 S1 R w hp2 hp hr Z1 e M l1 l2 hk hq D
        have mq := M.1 k q (by omega) hq
        have r2 := R.2.2.1.2.2.1 k hk
        refine ⟨h', ?_, ⟨by rw [a2.1]; exact c.1, fun x x1 x2 x3 => ?_, c.2.2⟩, by rw [a2.2 (z + 15) (by omega)]; exact e, M.wr (by omega) hq a2 a3.sh, fun j hj => ?_⟩
        · unfold BX8_makeMonomialTables_39
          rw [hgr_ob (x := z + 15) Z1 rfl, gx_bs, hql_m e (by omega) (by omega), gx_bs, hgr_ob (x := st) Z1 rfl, gx_bs, S1.r2, gx_bs, hal_ar S1.s2 (by omega) (by omega), gx_bs, gx_bs, S1.r3, gx_bs, hal_ar S1.s3 (by omega) (by omega), gx_bs, hq, oc_s, isO_ob Z1, gx_bs, r2.1, r2.2, a1, gx_bs, n1, nI_add]
        · by_cases xq : x < q ∨ q + 2 < x
          · rw [a2.2 x xq]
            exact c.2.1 x x1 x2 x3
          · rcases c.2.2 k q (by omega) hq with z1 | z1
            · exact absurd (x3 k q (by omega) z1) xq
            · omega
        · by_cases ej : j = k
          · rw [ej]; exact ⟨q, hq, a3⟩
          · obtain ⟨q', f1, f2⟩ := D j (by omega)
            have o := M.2 j k q' q (by omega) (by omega) ej f1 hq
            unfold off at o
            exact ⟨q', f1, f2.ex a2 (by omega)⟩
      unfold LX8_makeMonomialTables_2
      dsimp only
      rw [hgr_ob (x := st) Z1 rfl, gx_bs, gN, gx_bs, if_neg (by rw [nI_leN (by omega) (by omega)]; omega), if_neg (by rw [n0, n12, nI_leN (by omega) (by omega), nI_ltN (by omega) (by omega)]; omega), hgr_ob (x := z + 15) Z1 rfl, gx_bs, hql_m e (by omega) (by omega), gx_bs]
      cases hf : ff k with
      | some q =>
        obtain ⟨h', g1, g2⟩ := go hh ff q c e M D hf
        rw [oc_s]
        exact ⟨_, g1, h', ff, rfl, g2⟩
      | none =>
        obtain ⟨h1, b1, b2, b3, b4⟩ := x_new (h := hh) (H := 12) (W := 12) (N1 := 144) (N2 := 12) z1212 (by omega) (by omega)
        have e1 : h1.2 (z + 15) = some (qm 12 ff) := by rw [b3 _ (by have := c.1; omega)]; exact e
        have cl := c.1
        have hs := hqs_m (k := k) e1 (by omega) (by omega) b4.ob
        have vn : ∀ j, j ≠ k → va_up ff k (some hh.1) j = ff j := fun j hj => by unfold va_up; rw [if_neg hj]
        have vs : va_up ff k (some hh.1) k = some hh.1 := by unfold va_up; rw [if_pos rfl]
        have same2 : ∀ x, x ≠ z + 15 → (x < hh.1 ∨ hh.1 + 2 < x) → jx_up h1.2 (z + 15) (qm 12 (va_up ff k (some hh.1))) x = hh.2 x := fun x x1 x2 => by rw [up_o x1, b3 x x2]
        have M2 : matA ((h1.1, jx_up h1.2 (z + 15) (qm 12 (va_up ff k (some hh.1)))) : jx_H) lo (va_up ff k (some hh.1)) := by
          refine ⟨fun j q hj hq => ?_, fun i j q q' hi hj hne hq hq' => ?_⟩
          · by_cases ej : j = k
            · rw [ej, vs] at hq
              cases hq
              refine ⟨b4.same fun x x1 x2 => ?_, by omega, by show hh.1 + 2 < h1.1; omega⟩
              show jx_up h1.2 (z + 15) _ x = _
              rw [up_o (by omega)]
            · rw [vn j ej] at hq
              have m := M.1 j q hj hq
              refine ⟨m.1.same fun x x1 x2 => same2 x (by omega) (by omega), m.2.1, by show q + 2 < h1.1; omega⟩
          · unfold off
            by_cases ei : i = k
            · rw [ei, vs] at hq
              cases hq
              rw [vn j (by omega)] at hq'
              have := (M.1 j q' hj hq').2.2
              omega
            · rw [vn i ei] at hq
              by_cases ej : j = k
              · rw [ej, vs] at hq'
                cases hq'
                have := (M.1 i q hi hq).2.2
                omega
              · rw [vn j ej] at hq'
                have := M.2 i j q q' hi hj hne hq hq'
                unfold off at this
                exact this
        have c2 : mtc h ((h1.1, jx_up h1.2 (z + 15) (qm 12 (va_up ff k (some hh.1)))) : jx_H) z ft (va_up ff k (some hh.1)) := by
          refine ⟨by show h.1 ≤ h1.1; omega, fun x x1 x2 x3 => ?_, fun j q hj hq => ?_⟩
          · show jx_up h1.2 (z + 15) _ x = _
            rw [same2 x x2 (by omega)]
            exact c.2.1 x x1 x2 x3
          · by_cases ej : j = k
            · rw [ej, vs] at hq
              cases hq
              exact Or.inr cl
            · rw [vn j ej] at hq
              exact c.2.2 j q hj hq
        obtain ⟨h', g1, g2⟩ := go _ _ hh.1 c2 up_s M2 (fun j hj => by
          obtain ⟨q, f1, f2⟩ := D j hj
          have m := M.1 j q (by omega) f1
          exact ⟨q, by rw [vn j (by omega)]; exact f1, f2.same fun x x1 x2 => same2 x (by omega) (by omega)⟩) vs
        refine ⟨_, ?_, h', _, rfl, g2⟩
        unfold hnw
        rw [oc_n, gx_bs, gx_bs, n12, b1, gx_bs, hs, gx_bs]
        exact g1
    · rintro s ⟨hh, ff, rfl, c, e, M, D⟩
      obtain ⟨T1, S1, Z1⟩ := st1 c
      have gN : hgi hh st 5 2 = some (nI (Lm ht).length) := by rw [← R.2.2.1.1]; exact hgi_ob S1.1 rfl
      unfold LX8_makeMonomialTables_2
      dsimp only
      rw [hgr_ob (x := st) Z1 rfl, gx_bs, gN, gx_bs, if_pos (by rw [nI_leN (by omega) (by omega)]; omega)]
      exact ⟨_, rfl, ff, c, e, M, D⟩
  obtain ⟨x, x1, ft', x2⟩ := key
  refine ⟨x, ft', ?_, x2⟩
  unfold FX8_makeMonomialTables
  rw [n0]
  exact x1
end
