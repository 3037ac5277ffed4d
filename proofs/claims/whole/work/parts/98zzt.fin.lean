/-! the start, and all calls together -/
def cf0 : Cf := (31, ht0, (fun _ _ => 0), [])
theorem CL0.cls {h : jx_H} {a : Nat} (C : CL0 h a) (sz : a + 128 < h.1) : CLS h a cf0 0 (fun _ => cf0) (fun _ => none) (fun _ => 0) 0 (fun _ => 0) (nI 0) m1 (fun _ => 0) := by
  obtain ⟨⟨B, ⟨S, HS, sS⟩, W, W2⟩, ⟨e28, HI, e31, hP⟩, ⟨T, TS, X⟩, ⟨⟨za, zb, zm, Z⟩, e83⟩, ⟨F, G⟩, tx, ⟨pa, hpa, e100⟩, e101, e102⟩ := C
  refine ⟨⟨B, sz⟩, ⟨⟨S, HS, sS⟩, okC_0⟩, ⟨W, W2⟩, ⟨by omega, fun k hk => by omega⟩, ⟨0, fun _ => none, fun _ => none, by omega, HI, fun k hk => by omega, ⟨fun j q hj hq => (by cases hq), fun i j q q' hi hj hne hq => (by cases hq)⟩, e28, ⟨fun k hk hv => rfl, fun k v hk hv => (by cases hv), fun q hq => (by cases hq)⟩⟩, e31, ⟨m1, fun _ => none, Or.inr ⟨0, 0, 0, T, TS⟩, X, ⟨ms0, hP⟩, Or.inr ⟨0, za, zb, zm, Z⟩, Or.inl rfl, e83, ⟨fun j q hj hq => (by cases hq), fun i j q q' hi hj hne hq => (by cases hq)⟩⟩, ⟨F, G⟩, ⟨⟨ms0, tx, ⟨by omega, fun k hk => by omega⟩, n0, fun k hk => by omega⟩, ⟨fun q => if q = 5 then m1 else 0, pa, ?_, ?_⟩, hpa, _, e100⟩, e101, _, e102⟩
  · show (if 4 = 5 then m1 else (0 : Int32)) = nI 0
    rw [if_neg (by decide)]
    exact n0
  · exact if_pos rfl
theorem CL0.fr {h h' : jx_H} {a : Nat} (C : CL0 h a) (e : ∀ y, y < a + 103 → h'.2 y = h.2 y) : CL0 h' a := by
  obtain ⟨⟨B, ⟨S, HS, sS⟩, ⟨W, HW⟩, ⟨W2, HW2⟩⟩, ⟨e28, HI, e31, hP⟩, ⟨T, TS, X⟩, ⟨⟨za, zb, zm, Z⟩, e83⟩, ⟨F, G⟩, tx, ⟨pa, ⟨Q, hpa⟩, e100⟩, e101, e102⟩ := C
  have up : ∀ {q : Nat} {S : MS}, q + 8 < a + 103 → bH sK h q S → bH sK h' q S := fun {q} _ hq H => H.same fun x x1 x2 => by
    have x2 : x ≤ q + 8 := x2
    exact e x (by omega)
  refine ⟨⟨B.fr (e a (by omega)), ⟨S, up (by omega) HS, sS⟩, ⟨W, up (by omega) HW⟩, ⟨W2, up (by omega) HW2⟩⟩, ⟨(e _ (by omega)).trans e28, ⟨(e _ (by omega)).trans HI.1, (e _ (by omega)).trans HI.2⟩, (e _ (by omega)).trans e31, hP.same fun x x1 x2 => ?_⟩, ⟨(e _ (by omega)).trans T, TS.same fun x x1 x2 => e x (by omega), X.same fun x x1 x2 => e x (by omega)⟩, ⟨⟨za, zb, zm, Z.same fun x x1 x2 => e x (by omega)⟩, (e _ (by omega)).trans e83⟩, ⟨(e _ (by omega)).trans F, G.same fun x x1 x2 => e x (by omega)⟩, tx.same fun x x1 x2 => ?_, ⟨(e _ (by omega)).trans pa, ⟨Q, up (by omega) hpa⟩, (e _ (by omega)).trans e100⟩, (e _ (by omega)).trans e101, (e _ (by omega)).trans e102⟩
  · have x2 : x ≤ a + 32 + 2 := x2
    exact e x (by omega)
  · have x2 : x ≤ a + 88 + 1 := x2
    exact e x (by omega)
theorem ref0 {R1 : Nat → Int32} (H : RC R1 31 ht0 (fun _ _ => 0) []) : REF ((refI, setA refR 1 R1) : MS) cf0 0 (fun _ => cf0) (fun _ => none) (fun _ => 0) 0 (fun _ => 0) (nI 0) m1 (fun _ => 0) := by
  have z : ∀ j, j ≠ 1 → j ≠ 9 → ∀ k, (setA refR 1 R1) j k = 0 := fun j h1 h9 k => by
    rw [setA_o h1]
    unfold refR
    rw [if_neg h9]
  have i : ∀ q, q ≠ 16 → refI q = 0 := fun q h => if_neg h
  refine ⟨by rw [mp2, setA_s]; exact H, ⟨by rw [mp1, i 5 (by decide)]; exact n0, fun k hk => by omega⟩, ⟨fun k hk hv => by rw [mp2, z 6 (by decide) (by decide)]; exact n0, fun k v hk hv => (by cases hv)⟩, fun k hk => by rw [mp2, z 7 (by decide) (by decide)], ⟨⟨⟨by omega, fun k hk => by omega⟩, by rw [mp1, i 10 (by decide)]; exact n0, fun k hk => by omega⟩, fun j hj => ?_⟩, ⟨by rw [mp1, i 15 (by decide)]; exact n0, ?_⟩, fun k hk => by rw [mp2, z 18 (by decide) (by decide)]⟩
  · rw [mp2, setA_o (by decide)]
    exact wdR_ok j hj
  · show (if 16 = 16 then m1 else (0 : Int32)) = m1
    exact if_pos rfl
def sy_Inv : Nat → Nat → Nat → jx_H → Prop := INV
theorem sy_init : St_init sy_Inv := by
  intro a
  obtain ⟨h2, x1, x2, x3, x4⟩ := n_cls (g := (a, fun _ => none))
  obtain ⟨h4, y1, y2, y3, R1, y4, y5⟩ := n_ref (g := h2)
  have x2 : h2.1 = a + 103 := x2
  have x4 : CL0 h2 a := x4
  obtain ⟨h5, hh5⟩ : ∃ h5 : jx_H, h5 = (h4.1 + 1, jx_up h4.2 h4.1 (.inl (.long, 1, .inr (.inl (fun _ => 0))))) := ⟨_, rfl⟩
  have sz : h5.1 = a + 129 := by rw [hh5]; show h4.1 + 1 = _; omega
  have fr : ∀ y, y < a + 128 → h5.2 y = h4.2 y := fun y hy => by rw [hh5]; exact up_o (by omega)
  have c5 : CL0 h5 a := x4.fr fun y hy => by rw [fr y (by omega), y3 y (by omega)]
  refine ⟨hno (a, fun _ => none) 9 fsX9, h2, hno h2 10 fsX10, h4, h5, rfl, x1, rfl, y1, ?_, x2, by omega, ⟨fun _ => 0, ?_⟩, _, cf0, 0, fun _ => cf0, fun _ => none, fun _ => 0, 0, fun _ => 0, nI 0, m1, fun _ => 0, ?_, c5.cls (by omega), ref0 y5⟩
  · unfold hnl
    rw [hh5, n1, nI_clamp (by omega), if_neg]
    intro z
    rcases z with z | z
    · rw [n0, nI_lt0 (by omega)] at z; exact z
    · omega
  · rw [show a + 128 = h4.1 by omega, hh5]
    exact up_s
  · rw [← x2]
    exact y4.same fun y w1 w2 => by
      have w2 : y ≤ h2.1 + 24 := w2
      exact fr y (by omega)
theorem sy_steps : ∀ a m o, St_all (sy_Inv a m o) a m o := fun _ _ _ => ⟨o_appendText, o_truncateText, o_load, o_reduce, o_errorCode, o_errorPosition, o_result, o_count, o_changes, o_refusal, o_join, o_leave, o_monomial, o_border, o_place, o_setRule, o_rule, o_value, o_table, o_commutes, o_clash, o_trace, o_normal, o_determinant, o_kernel, o_zeros, o_zero, o_multiplicity, o_share, o_addPoint, o_removePoint, o_point, o_fit, o_misfits, o_undo, o_save, o_restore⟩
