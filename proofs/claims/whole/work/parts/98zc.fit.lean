/-! the class: values of monomials at points, in a matrix -/
theorem z1291 : SZ 12 91 := ⟨by omega, by omega, by omega⟩
theorem cols_n : ∀ m, m < 13 → ((nI m + nI 1) * (nI m + nI 2)) / nI 2 = nI (tri (m + 1)) := by decide +kernel
theorem col_n : ∀ i, i < 13 → ∀ j, j < 13 → (((nI i + nI j) * ((nI i + nI j) + nI 1)) / nI 2) + nI j = nI (colN (i, j)) := by decide +kernel
theorem h_columnOf {h : jx_H} {i j : Nat} (hi : i < 13) (hj : j < 13) : FX0_columnOf (nI i) (nI j) h = some (nI (colN (i, j))) := by
  unfold FX0_columnOf
  rw [n1, n2, col_n i hi j hj]
theorem col_small {i j : Nat} (h : i + j ≤ 12) : colN (i, j) < 91 := Nat.lt_of_lt_of_le (col_C h) (tri_91 (Nat.le_refl _))
theorem h_exponent {h : jx_H} {i j : Nat} (hd : i + j ≤ 12) : FX0_exponentOfColumn (nI (colN (i, j))) h = some (nI i) := by
  have cs := col_small hd
  unfold FX0_exponentOfColumn
  rw [n0]
  have ct : ∀ d, d ≤ i + j → tri d ≤ colN (i, j) := fun d h => by have := tri_le h; show tri d ≤ tri (i + j) + j; omega
  refine itr_val (i + j) (fun d s => s = nI d) rfl ?_ ?_
  · rintro d s hdd rfl
    left
    refine ⟨_, ?_, rfl⟩
    have h1 := ct d (by omega)
    have h2 : tri d + (d + 1) ≤ colN (i, j) := ct (d + 1) (by omega)
    unfold LX0_exponentOfColumn_2 BX0_exponentOfColumn_29
    rw [n12, if_neg (by rw [nI_ltN (by omega) (by omega)]; omega), n0, h_columnOf (by omega) (by omega), gx_bs, show colN (d, 0) = tri d from rfl, nI_sub h1, if_neg (by rw [nI_lt0 (by omega)]; exact id), if_pos (by rw [nI_ltN (by omega) (by omega)]; omega), n1, nI_add]
  · rintro s rfl
    have h1 := ct (i + j) (by omega)
    have h2 : colN (i, j) - tri (i + j) = j := by show tri (i + j) + j - tri (i + j) = j; omega
    unfold LX0_exponentOfColumn_2
    rw [n12, if_neg (by rw [nI_ltN (by omega) (by omega)]; omega), n0, h_columnOf (by omega) (by omega), gx_bs, show colN (i + j, 0) = tri (i + j) from rfl, nI_sub h1, h2, if_neg (by rw [nI_lt0 (by omega)]; exact id), if_neg (by rw [nI_ltN (by omega) (by omega)]; omega), nI_sub (by omega), Nat.add_sub_cancel]
    rfl
def FO (h : jx_H) (f sp : Nat) : Prop := h.2 f = some (.inr (0, [.ref sp, .ref (f + 1)]))
theorem bH.up {h : jx_H} {K : BK} {q j : Nat} {S : MS} {g : Nat → Int32} (H : bH K h q S) (hj : 1 ≤ j ∧ j ≤ K.2.2.2.2) : bH K (h.1, jx_up h.2 (q + j) (.inl (K.2.2.1 j, K.2.2.2.1 j, .inl g))) q (S.1, setA S.2 j g) := by
  refine ⟨?_, fun i hi => ?_⟩
  · show jx_up h.2 (q + j) _ q = _
    rw [up_o (by omega)]
    exact H.1
  · show jx_up h.2 (q + j) _ (q + i) = some (.inl (K.2.2.1 i, K.2.2.2.1 i, .inl (setA S.2 j g i)))
    by_cases e : i = j
    · rw [e, up_s, setA_s]
    · rw [up_o (by omega), setA_o e]
      exact H.2 i hi
theorem h_reduceP {h : jx_H} {q H W R C p : Nat} {A : Nat → Nat → Nat} (z : SZ H W) (M : HM h q H W R C A) (hp2 : 2 ≤ p) (hp : p < 1000) (hA : bdM A R C p) : ∃ h' T, FX2_reduceRows q (nI p) h = some (nI (redF p R C C 0 0 1 A (fun _ => 0)).1, h') ∧ exc h h' q (q + 2) ∧ bH (xK H W) h' q T ∧ MX H W T R C (redF p R C C 0 0 1 A (fun _ => 0)).2.2.1 ∧ ∀ k, k < (redF p R C C 0 0 1 A (fun _ => 0)).1 → T.2 2 k = nI ((redF p R C C 0 0 1 A (fun _ => 0)).2.2.2 k) := by
  obtain ⟨S, h1, h2⟩ := M
  obtain ⟨T, t1, t2, t3, t4⟩ := x_reduce z h2 hp2 hp hA
  refine ⟨bput (xK H W) h q T, T, ?_, exc.bput, bH.put, t2, t4⟩
  rw [h1.run (F := FX2_reduceRows q (nI p)) eFX2_reduceRows, t1, gx_ms]
section
variable {h : jx_H} {f st sp p : Nat} {S : MS} {ht : Nat → Nat} {r : Nat → Nat → Nat} {pts : List (Nat × Nat)}
theorem h_fillValues (F : FO h f sp) (HP : ∃ P, bH pK h sp P) (HS : bH sK h st S) (R : ST S p ht r pts) (hp2 : 2 ≤ p) (hp : p < 1000) (hpts : pin pts p) (V : SH h (f + 1) 12 91) (o1 : st + 8 < sp) (o2 : sp + 2 < f) :
    ∃ h', FX0_fillValues f st h = some h' ∧ h'.1 = h.1 ∧ (∀ x, (x < sp ∨ sp + 2 < x) → (x < f + 1 ∨ f + 3 < x) → h'.2 x = h.2 x) ∧ (∃ P, bH pK h' sp P) ∧ HM h' (f + 1) 12 91 pts.length (tri (pts.length + 1)) (valM p pts) := by
  have lm := hpts.1
  have hC := tri_91 lm
  have g9 : hgi h st 5 9 = some (nI pts.length) := by rw [← R.2.2.2.2.1]; exact HS.i9
  obtain ⟨U, u1, u2⟩ := h_clear z1291 V (R' := pts.length) (C' := tri (pts.length + 1)) lm hC
  have x1 : exc h (bput (xK 12 91) h (f + 1) U) (f + 1) (f + 3) := exc.bput
  have M1 : HM (bput (xK 12 91) h (f + 1) U) (f + 1) 12 91 pts.length (tri (pts.length + 1)) (fun _ _ => 0) := ⟨U, bH.put, u2⟩
  generalize bput (xK 12 91) h (f + 1) U = h1 at u1 x1 M1
  have st1 : ∀ {hh : jx_H}, (∀ x, (x < sp ∨ sp + 2 < x) → (x < f + 1 ∨ f + 3 < x) → hh.2 x = h.2 x) → bH sK hh st S ∧ FO hh f sp := by
    intro hh e
    exact ⟨HS.same fun x a b => by have b : x ≤ st + 8 := b; exact e x (by omega) (by omega), by show _ = _; rw [e f (by omega) (by omega)]; exact F⟩
  have ptl : ∀ q, q < pts.length → mx pts q < p ∧ my pts q < p := fun q hq => by
    have mem : pts.getD q (0, 0) ∈ pts := by
      rw [List.getD_eq_getElem?_getD, List.getElem?_eq_getElem hq]
      exact List.getElem_mem hq
    exact hpts.2.2 _ mem
  have key : ∃ x, itr (fun s : Int32 × jx_H => LX0_fillValues_27 f st (nI pts.length) s.1 s.2) (nI 0, h1) = some x ∧ x.1 = h.1 ∧ (∀ y, (y < sp ∨ sp + 2 < y) → (y < f + 1 ∨ f + 3 < y) → x.2 y = h.2 y) ∧ (∃ P, bH pK x sp P) ∧ HM x (f + 1) 12 91 pts.length (tri (pts.length + 1)) (valM p pts) := by
    refine itr_run pts.length (fun q s => ∃ hh A, s = (nI q, hh) ∧ hh.1 = h.1 ∧ (∀ x, (x < sp ∨ sp + 2 < x) → (x < f + 1 ∨ f + 3 < x) → hh.2 x = h.2 x) ∧ (∃ P, bH pK hh sp P) ∧ HM hh (f + 1) 12 91 pts.length (tri (pts.length + 1)) A ∧ ∀ x c, x < q → c < tri (pts.length + 1) → A x c = valM p pts x c) ⟨h1, _, rfl, x1.1, fun x _ b => x1.2 x b, ?_, M1, fun x c hx => by omega⟩ ?_ ?_
    · obtain ⟨P, HP⟩ := HP
      exact ⟨P, HP.ex x1 (by show sp + 2 < f + 1 ∨ f + 3 < sp; omega)⟩
    · rintro q s hq ⟨hh, A, rfl, b0, b1, ⟨P, b2⟩, b3, b4⟩
      left
      obtain ⟨S1, F1⟩ := st1 b1
      have pq := ptl q hq
      have rq := R.2.2.2.2.2 q hq
      obtain ⟨P1, m1', m2, m3, m4⟩ := s_moveTo (S := P) hp2 hp pq.1 pq.2
      have mv : FX4_moveTo sp (nI (mx pts q)) (nI (my pts q)) (nI p) hh = some (bput pK hh sp P1) := by rw [b2.run (F := FX4_moveTo sp (nI (mx pts q)) (nI (my pts q)) (nI p)) eFX4_moveTo, m1', gx_ms]
      have y1 : exc hh (bput pK hh sp P1) sp (sp + 2) := exc.bput
      have HP1 : bH pK (bput pK hh sp P1) sp P1 := bH.put
      generalize bput pK hh sp P1 = h2 at mv y1 HP1
      -- what a put keeps
      have inner : ∃ x, itr (fun s : Int32 × jx_H => LX0_fillValues_61 f st (nI pts.length) (nI q) s.1 s.2) (nI 0, h2) = some x ∧ ∃ h3 A3, x = .inl (nI (q + 1), h3) ∧ exc h2 h3 (f + 1) (f + 3) ∧ HM h3 (f + 1) 12 91 pts.length (tri (pts.length + 1)) A3 ∧ ∀ x c, x < q + 1 → c < tri (pts.length + 1) → A3 x c = valM p pts x c := by
        refine itr_run (pts.length + 1) (fun d s => ∃ h3 A3, s = (nI d, h3) ∧ exc h2 h3 (f + 1) (f + 3) ∧ HM h3 (f + 1) 12 91 pts.length (tri (pts.length + 1)) A3 ∧ ∀ x c, (x < q ∨ (x = q ∧ c < tri d)) → c < tri (pts.length + 1) → A3 x c = valM p pts x c) ⟨h2, A, rfl, exc.rf, b3.ex y1 (by omega), fun x c hx hc => b4 x c (hx.resolve_right fun z => Nat.not_lt_zero _ z.2) hc⟩ ?_ ?_
        · rintro d s hd ⟨h3, A3, rfl, c1, c2, c3⟩
          left
          have inner2 : ∃ x, itr (fun s : Int32 × jx_H => LX0_fillValues_70 f st (nI pts.length) (nI q) (nI d) s.1 s.2) (nI 0, h3) = some x ∧ ∃ h4 A4, x = .inl (nI (d + 1), h4) ∧ exc h2 h4 (f + 1) (f + 3) ∧ HM h4 (f + 1) 12 91 pts.length (tri (pts.length + 1)) A4 ∧ ∀ x c, (x < q ∨ (x = q ∧ c < tri (d + 1))) → c < tri (pts.length + 1) → A4 x c = valM p pts x c := by
            refine itr_run (d + 1) (fun j s => ∃ h4 A4, s = (nI j, h4) ∧ exc h2 h4 (f + 1) (f + 3) ∧ HM h4 (f + 1) 12 91 pts.length (tri (pts.length + 1)) A4 ∧ ∀ x c, (x < q ∨ (x = q ∧ c < tri d + j)) → c < tri (pts.length + 1) → A4 x c = valM p pts x c) ⟨h3, A3, rfl, c1, c2, fun x c hx hc => c3 x c (by omega) hc⟩ ?_ ?_
            · rintro j s hj ⟨h4, A4, rfl, d1, d2, d3⟩
              left
              have cC : colN (d - j, j) < tri (pts.length + 1) := col_C (by omega)
              have cN : colN (d - j, j) = tri d + j := by show tri (d - j + j) + j = _; rw [show d - j + j = d by omega]
              have F4 : FO h4 f sp := by show _ = _; rw [d1.2 f (by omega), y1.2 f (by omega)]; exact F1
              have HP4 : bH pK h4 sp P1 := HP1.ex d1 (by show sp + 2 < f + 1 ∨ f + 3 < sp; omega)
              have vm : FX4_valueOfMonomial sp (nI (d - j)) (nI j) h4 = some (nI (mvN p (mx pts q) (my pts q) (d - j) j)) := by rw [HP4.run (F := FX4_valueOfMonomial sp (nI (d - j)) (nI j)) eFX4_valueOfMonomial, s_valMon m2 m3 m4 (by omega) hp (by omega) (by omega)]
              obtain ⟨h5, p1, p2, p3⟩ := h_put (v := mvN p (mx pts q) (my pts q) (d - j) j) z1291 d2 hq cC
              unfold LX0_fillValues_70
              dsimp only
              rw [if_neg (by rw [nI_ltN (by omega) (by omega)]; omega), hgr_ob (x := f + 1) F4 rfl, gx_bs, nI_sub (by omega), h_columnOf (by omega) (by omega), gx_bs, hgr_ob (x := sp) F4 rfl, gx_bs, HP4.o4, gx_bs, vm, gx_bs, d2.ob, gx_bs, p1, gx_bs, n1, nI_add]
              refine ⟨_, rfl, h5, _, rfl, d1.tr p2, p3, fun x c hx hc => ?_⟩
              unfold up2
              by_cases e : x = q ∧ c = colN (d - j, j)
              · rw [if_pos e, e.1, e.2]
                unfold valM
                rw [dec_col]
              · rw [if_neg e]
                exact d3 x c (by omega) hc
            · rintro s ⟨h4, A4, rfl, d1, d2, d3⟩
              unfold LX0_fillValues_70
              dsimp only
              rw [if_pos (by rw [nI_ltN (by omega) (by omega)]; omega), n1, nI_add]
              exact ⟨_, rfl, h4, A4, rfl, d1, d2, fun x c hx hc => d3 x c hx hc⟩
          obtain ⟨x, i1, h4, A4, rfl, i2⟩ := inner2
          unfold LX0_fillValues_61
          dsimp only
          rw [if_neg (by rw [nI_ltN (by omega) (by omega)]; omega), n0, i1]
          exact ⟨_, rfl, h4, A4, rfl, i2⟩
        · rintro s ⟨h3, A3, rfl, c1, c2, c3⟩
          unfold LX0_fillValues_61
          dsimp only
          rw [if_pos (by rw [nI_ltN (by omega) (by omega)]; omega), n1, nI_add]
          exact ⟨_, rfl, h3, A3, rfl, c1, c2, fun x c hx hc => c3 x c (by omega) hc⟩
      obtain ⟨x, i1, h3, A3, rfl, i2, i3, i4⟩ := inner
      have g9' : hgi hh st 5 9 = some (nI pts.length) := by rw [← R.2.2.2.2.1]; exact S1.i9
      have g0' : hgi hh st 5 0 = some (nI p) := by rw [← R.1]; exact S1.i0
      unfold LX0_fillValues_27
      dsimp only
      rw [g9', gx_bs, if_neg (by rw [nI_leN (by omega) (by omega)]; omega), hgr_ob (x := sp) F1 rfl, gx_bs, S1.r7, gx_bs, hal_ar S1.s7 (by omega) (by omega), gx_bs, S1.r8, gx_bs, hal_ar S1.s8 (by omega) (by omega), gx_bs, g0', gx_bs, b2.o4, gx_bs, rq.1, rq.2, mv, gx_bs, n0, i1]
      exact ⟨_, rfl, h3, A3, rfl, by rw [i2.1, y1.1, b0], fun x a b => by rw [i2.2 x b, y1.2 x a, b1 x a b], ⟨P1, HP1.ex i2 (by show sp + 2 < f + 1 ∨ f + 3 < sp; omega)⟩, i3, i4⟩
    · rintro s ⟨hh, A, rfl, b0, b1, b2, b3, b4⟩
      obtain ⟨S1, F1⟩ := st1 b1
      have g9' : hgi hh st 5 9 = some (nI pts.length) := by rw [← R.2.2.2.2.1]; exact S1.i9
      unfold LX0_fillValues_27
      dsimp only
      rw [g9', gx_bs, if_pos (by rw [nI_leN (by omega) (by omega)]; omega)]
      exact ⟨_, rfl, b0, b1, b2, b3.congr fun x c hx hc => b4 x c hx hc⟩
  obtain ⟨x, k1, k2⟩ := key
  refine ⟨x, ?_, k2⟩
  unfold FX0_fillValues
  rw [g9, gx_bs, hgr_ob (x := f + 1) F rfl, gx_bs, gx_bs, V.ob, gx_bs, n1, n2, cols_n _ (by omega), u1, gx_bs, n0, k1]
end
