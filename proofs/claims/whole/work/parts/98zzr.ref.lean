/-! the constructors of the class and of the reference -/
def wdR : Nat → Int32 := (upd (upd (upd (upd (upd (upd (upd (upd (upd (upd (upd (upd (upd (upd (upd (upd (upd (upd (upd (upd (upd (upd (upd (upd (upd (fun _ => 0) 0 (vp_nar .byte (112 : Int32))) 1 (vp_nar .byte (114 : Int32))) 2 (vp_nar .byte (105 : Int32))) 3 (vp_nar .byte (109 : Int32))) 4 (vp_nar .byte (101 : Int32))) 5 (vp_nar .byte (32 : Int32))) 6 (vp_nar .byte (106 : Int32))) 7 (vp_nar .byte (111 : Int32))) 8 (vp_nar .byte (105 : Int32))) 9 (vp_nar .byte (110 : Int32))) 10 (vp_nar .byte (32 : Int32))) 11 (vp_nar .byte (114 : Int32))) 12 (vp_nar .byte (117 : Int32))) 13 (vp_nar .byte (108 : Int32))) 14 (vp_nar .byte (101 : Int32))) 15 (vp_nar .byte (32 : Int32))) 16 (vp_nar .byte (105 : Int32))) 17 (vp_nar .byte (115 : Int32))) 18 (vp_nar .byte (32 : Int32))) 19 (vp_nar .byte (112 : Int32))) 20 (vp_nar .byte (111 : Int32))) 21 (vp_nar .byte (105 : Int32))) 22 (vp_nar .byte (110 : Int32))) 23 (vp_nar .byte (116 : Int32))) 24 (vp_nar .byte (32 : Int32)))
theorem wdR_ok : ∀ j, j < 25 → wdR j = nI (wds.getD j 0) := by decide +kernel
theorem n_wds {g : jx_H} : ∃ g', (∀ {β : Type} (K : jx_H → Option β), ((hna g .byte (25 : Int32)).bind fun h18 => (has h18 .byte g.1 (0 : Int32) (vp_nar .byte (112 : Int32))).bind fun h19 => (has h19 .byte g.1 (1 : Int32) (vp_nar .byte (114 : Int32))).bind fun h20 => (has h20 .byte g.1 (2 : Int32) (vp_nar .byte (105 : Int32))).bind fun h21 => (has h21 .byte g.1 (3 : Int32) (vp_nar .byte (109 : Int32))).bind fun h22 => (has h22 .byte g.1 (4 : Int32) (vp_nar .byte (101 : Int32))).bind fun h23 => (has h23 .byte g.1 (5 : Int32) (vp_nar .byte (32 : Int32))).bind fun h24 => (has h24 .byte g.1 (6 : Int32) (vp_nar .byte (106 : Int32))).bind fun h25 => (has h25 .byte g.1 (7 : Int32) (vp_nar .byte (111 : Int32))).bind fun h26 => (has h26 .byte g.1 (8 : Int32) (vp_nar .byte (105 : Int32))).bind fun h27 => (has h27 .byte g.1 (9 : Int32) (vp_nar .byte (110 : Int32))).bind fun h28 => (has h28 .byte g.1 (10 : Int32) (vp_nar .byte (32 : Int32))).bind fun h29 => (has h29 .byte g.1 (11 : Int32) (vp_nar .byte (114 : Int32))).bind fun h30 => (has h30 .byte g.1 (12 : Int32) (vp_nar .byte (117 : Int32))).bind fun h31 => (has h31 .byte g.1 (13 : Int32) (vp_nar .byte (108 : Int32))).bind fun h32 => (has h32 .byte g.1 (14 : Int32) (vp_nar .byte (101 : Int32))).bind fun h33 => (has h33 .byte g.1 (15 : Int32) (vp_nar .byte (32 : Int32))).bind fun h34 => (has h34 .byte g.1 (16 : Int32) (vp_nar .byte (105 : Int32))).bind fun h35 => (has h35 .byte g.1 (17 : Int32) (vp_nar .byte (115 : Int32))).bind fun h36 => (has h36 .byte g.1 (18 : Int32) (vp_nar .byte (32 : Int32))).bind fun h37 => (has h37 .byte g.1 (19 : Int32) (vp_nar .byte (112 : Int32))).bind fun h38 => (has h38 .byte g.1 (20 : Int32) (vp_nar .byte (111 : Int32))).bind fun h39 => (has h39 .byte g.1 (21 : Int32) (vp_nar .byte (105 : Int32))).bind fun h40 => (has h40 .byte g.1 (22 : Int32) (vp_nar .byte (110 : Int32))).bind fun h41 => (has h41 .byte g.1 (23 : Int32) (vp_nar .byte (116 : Int32))).bind fun h42 => (has h42 .byte g.1 (24 : Int32) (vp_nar .byte (32 : Int32))).bind K) = K g') ∧ g'.1 = g.1 + 1 ∧ (∀ y, y ≠ g.1 → g'.2 y = g.2 y) ∧ g'.2 g.1 = some (.inl (.byte, 25, .inl wdR)) := by
  obtain ⟨k0, hk0⟩ : ∃ k0 : jx_H, k0 = (g.1 + 1, jx_up g.2 g.1 (.inl (.byte, 25, .inl (fun _ => 0)))) := ⟨_, rfl⟩
  have a0 : hna g .byte (25 : Int32) = some k0 := by rw [show (25 : Int32) = nI 25 by decide +kernel, hna_t (by omega), hk0]
  have c0 : k0.2 g.1 = some (.inl (.byte, 25, .inl (fun _ => 0))) := by rw [hk0]; exact up_s
  have s0 : k0.1 = g.1 + 1 := by rw [hk0]
  have f0 : ∀ y, y ≠ g.1 → k0.2 y = g.2 y := fun y h => by rw [hk0]; exact up_o h
  obtain ⟨k1, e1, s1, f1, c1⟩ := st_has (g := k0) (ty := .byte) (a := g.1) (N := 25) (k := 0) (j := 0) (vp_nar .byte (112 : Int32)) (by decide +kernel) c0 (by decide) (by decide)
  obtain ⟨k2, e2, s2, f2, c2⟩ := st_has (g := k1) (ty := .byte) (a := g.1) (N := 25) (k := 1) (j := 1) (vp_nar .byte (114 : Int32)) (by decide +kernel) c1 (by decide) (by decide)
  obtain ⟨k3, e3, s3, f3, c3⟩ := st_has (g := k2) (ty := .byte) (a := g.1) (N := 25) (k := 2) (j := 2) (vp_nar .byte (105 : Int32)) (by decide +kernel) c2 (by decide) (by decide)
  obtain ⟨k4, e4, s4, f4, c4⟩ := st_has (g := k3) (ty := .byte) (a := g.1) (N := 25) (k := 3) (j := 3) (vp_nar .byte (109 : Int32)) (by decide +kernel) c3 (by decide) (by decide)
  obtain ⟨k5, e5, s5, f5, c5⟩ := st_has (g := k4) (ty := .byte) (a := g.1) (N := 25) (k := 4) (j := 4) (vp_nar .byte (101 : Int32)) (by decide +kernel) c4 (by decide) (by decide)
  obtain ⟨k6, e6, s6, f6, c6⟩ := st_has (g := k5) (ty := .byte) (a := g.1) (N := 25) (k := 5) (j := 5) (vp_nar .byte (32 : Int32)) (by decide +kernel) c5 (by decide) (by decide)
  obtain ⟨k7, e7, s7, f7, c7⟩ := st_has (g := k6) (ty := .byte) (a := g.1) (N := 25) (k := 6) (j := 6) (vp_nar .byte (106 : Int32)) (by decide +kernel) c6 (by decide) (by decide)
  obtain ⟨k8, e8, s8, f8, c8⟩ := st_has (g := k7) (ty := .byte) (a := g.1) (N := 25) (k := 7) (j := 7) (vp_nar .byte (111 : Int32)) (by decide +kernel) c7 (by decide) (by decide)
  obtain ⟨k9, e9, s9, f9, c9⟩ := st_has (g := k8) (ty := .byte) (a := g.1) (N := 25) (k := 8) (j := 8) (vp_nar .byte (105 : Int32)) (by decide +kernel) c8 (by decide) (by decide)
  obtain ⟨k10, e10, s10, f10, c10⟩ := st_has (g := k9) (ty := .byte) (a := g.1) (N := 25) (k := 9) (j := 9) (vp_nar .byte (110 : Int32)) (by decide +kernel) c9 (by decide) (by decide)
  obtain ⟨k11, e11, s11, f11, c11⟩ := st_has (g := k10) (ty := .byte) (a := g.1) (N := 25) (k := 10) (j := 10) (vp_nar .byte (32 : Int32)) (by decide +kernel) c10 (by decide) (by decide)
  obtain ⟨k12, e12, s12, f12, c12⟩ := st_has (g := k11) (ty := .byte) (a := g.1) (N := 25) (k := 11) (j := 11) (vp_nar .byte (114 : Int32)) (by decide +kernel) c11 (by decide) (by decide)
  obtain ⟨k13, e13, s13, f13, c13⟩ := st_has (g := k12) (ty := .byte) (a := g.1) (N := 25) (k := 12) (j := 12) (vp_nar .byte (117 : Int32)) (by decide +kernel) c12 (by decide) (by decide)
  obtain ⟨k14, e14, s14, f14, c14⟩ := st_has (g := k13) (ty := .byte) (a := g.1) (N := 25) (k := 13) (j := 13) (vp_nar .byte (108 : Int32)) (by decide +kernel) c13 (by decide) (by decide)
  obtain ⟨k15, e15, s15, f15, c15⟩ := st_has (g := k14) (ty := .byte) (a := g.1) (N := 25) (k := 14) (j := 14) (vp_nar .byte (101 : Int32)) (by decide +kernel) c14 (by decide) (by decide)
  obtain ⟨k16, e16, s16, f16, c16⟩ := st_has (g := k15) (ty := .byte) (a := g.1) (N := 25) (k := 15) (j := 15) (vp_nar .byte (32 : Int32)) (by decide +kernel) c15 (by decide) (by decide)
  obtain ⟨k17, e17, s17, f17, c17⟩ := st_has (g := k16) (ty := .byte) (a := g.1) (N := 25) (k := 16) (j := 16) (vp_nar .byte (105 : Int32)) (by decide +kernel) c16 (by decide) (by decide)
  obtain ⟨k18, e18, s18, f18, c18⟩ := st_has (g := k17) (ty := .byte) (a := g.1) (N := 25) (k := 17) (j := 17) (vp_nar .byte (115 : Int32)) (by decide +kernel) c17 (by decide) (by decide)
  obtain ⟨k19, e19, s19, f19, c19⟩ := st_has (g := k18) (ty := .byte) (a := g.1) (N := 25) (k := 18) (j := 18) (vp_nar .byte (32 : Int32)) (by decide +kernel) c18 (by decide) (by decide)
  obtain ⟨k20, e20, s20, f20, c20⟩ := st_has (g := k19) (ty := .byte) (a := g.1) (N := 25) (k := 19) (j := 19) (vp_nar .byte (112 : Int32)) (by decide +kernel) c19 (by decide) (by decide)
  obtain ⟨k21, e21, s21, f21, c21⟩ := st_has (g := k20) (ty := .byte) (a := g.1) (N := 25) (k := 20) (j := 20) (vp_nar .byte (111 : Int32)) (by decide +kernel) c20 (by decide) (by decide)
  obtain ⟨k22, e22, s22, f22, c22⟩ := st_has (g := k21) (ty := .byte) (a := g.1) (N := 25) (k := 21) (j := 21) (vp_nar .byte (105 : Int32)) (by decide +kernel) c21 (by decide) (by decide)
  obtain ⟨k23, e23, s23, f23, c23⟩ := st_has (g := k22) (ty := .byte) (a := g.1) (N := 25) (k := 22) (j := 22) (vp_nar .byte (110 : Int32)) (by decide +kernel) c22 (by decide) (by decide)
  obtain ⟨k24, e24, s24, f24, c24⟩ := st_has (g := k23) (ty := .byte) (a := g.1) (N := 25) (k := 23) (j := 23) (vp_nar .byte (116 : Int32)) (by decide +kernel) c23 (by decide) (by decide)
  obtain ⟨k25, e25, s25, f25, c25⟩ := st_has (g := k24) (ty := .byte) (a := g.1) (N := 25) (k := 24) (j := 24) (vp_nar .byte (32 : Int32)) (by decide +kernel) c24 (by decide) (by decide)
  refine ⟨k25, fun K => ?_, by rw [s25, s24, s23, s22, s21, s20, s19, s18, s17, s16, s15, s14, s13, s12, s11, s10, s9, s8, s7, s6, s5, s4, s3, s2, s1, s0], fun y h => by rw [f25 y h, f24 y h, f23 y h, f22 y h, f21 y h, f20 y h, f19 y h, f18 y h, f17 y h, f16 y h, f15 y h, f14 y h, f13 y h, f12 y h, f11 y h, f10 y h, f9 y h, f8 y h, f7 y h, f6 y h, f5 y h, f4 y h, f3 y h, f2 y h, f1 y h, f0 y h], c25⟩
  rw [a0, gx_bs, e1, e2, e3, e4, e5, e6, e7, e8, e9, e10, e11, e12, e13, e14, e15, e16, e17, e18, e19, e20, e21, e22, e23, e24, e25]
def refI : Nat → Int32 := fun q => if q = 16 then m1 else 0
def refR : Nat → Nat → Int32 := fun j => if j = 9 then wdR else fun _ => 0
set_option maxHeartbeats 8000000 in
theorem n_ref {g : jx_H} : ∃ g', FX10_init g.1 (hno g 10 fsX10) = some g' ∧ g'.1 = g.1 + 25 ∧ (∀ y, y < g.1 → g'.2 y = g.2 y) ∧ ∃ R1, bH mK g' g.1 (refI, setA refR 1 R1) ∧ RC R1 31 ht0 (fun _ _ => 0) [] := by
  obtain ⟨g0, hg0⟩ : ∃ g0, g0 = hno g 10 fsX10 := ⟨_, rfl⟩
  have s0 : g0.1 = g.1 + 1 := by rw [hg0]; rfl
  have o0 : g0.2 g.1 = some (.inr (10, fsX10)) := by rw [hg0]; exact up_s
  have f0 : ∀ y, y < g.1 → g0.2 y = g.2 y := fun y hy => by rw [hg0]; exact up_o (by omega)
  rw [← hg0]
  generalize g.1 = t at *
  unfold FX10_init
  obtain ⟨g1, e1, s1, f1, o1, p1⟩ := st_arr (g := g0) (t := t) (ci := 10) (i := 1) (n := t + 1) (k := 248) (x := 248) .int n248 (by omega) o0 (by omega) (by omega) (Nat.le_of_ble_eq_true rfl)
  rw [e1]
  replace o1 : g1.2 t = some (.inr (10, [.int 0, .ref (t + 1), .null, .null, .null, .int 0, .null, .null, .null, .null, .int 0, .int 0, .int 0, .int 0, .int 0, .int 0, .int 0, .null, .int 0, .int 0, .null, .null, .null, .null, .null, .null, .null, .null, .int 0, .int 0, .null, .null, .null, .null, .int 0, .null, .null, .null])) := o1
  obtain ⟨g2, e2, s2, f2, o2, p2⟩ := st_arr (g := g1) (t := t) (ci := 10) (i := 2) (n := t + 2) (k := 248) (x := 248) .int n248 (by omega) o1 (by omega) (by omega) (Nat.le_of_ble_eq_true rfl)
  rw [e2]
  replace o2 : g2.2 t = some (.inr (10, [.int 0, .ref (t + 1), .ref (t + 2), .null, .null, .int 0, .null, .null, .null, .null, .int 0, .int 0, .int 0, .int 0, .int 0, .int 0, .int 0, .null, .int 0, .int 0, .null, .null, .null, .null, .null, .null, .null, .null, .int 0, .int 0, .null, .null, .null, .null, .int 0, .null, .null, .null])) := o2
  obtain ⟨g3, e3, s3, f3, o3, p3⟩ := st_arr (g := g2) (t := t) (ci := 10) (i := 3) (n := t + 3) (k := 248) (x := 248) .int n248 (by omega) o2 (by omega) (by omega) (Nat.le_of_ble_eq_true rfl)
  rw [e3]
  replace o3 : g3.2 t = some (.inr (10, [.int 0, .ref (t + 1), .ref (t + 2), .ref (t + 3), .null, .int 0, .null, .null, .null, .null, .int 0, .int 0, .int 0, .int 0, .int 0, .int 0, .int 0, .null, .int 0, .int 0, .null, .null, .null, .null, .null, .null, .null, .null, .int 0, .int 0, .null, .null, .null, .null, .int 0, .null, .null, .null])) := o3
  obtain ⟨g4, e4, s4, f4, o4, p4⟩ := st_arr (g := g3) (t := t) (ci := 10) (i := 4) (n := t + 4) (k := 1984) (x := 1984) .int (by decide +kernel) (by omega) o3 (by omega) (by omega) (Nat.le_of_ble_eq_true rfl)
  rw [e4]
  replace o4 : g4.2 t = some (.inr (10, [.int 0, .ref (t + 1), .ref (t + 2), .ref (t + 3), .ref (t + 4), .int 0, .null, .null, .null, .null, .int 0, .int 0, .int 0, .int 0, .int 0, .int 0, .int 0, .null, .int 0, .int 0, .null, .null, .null, .null, .null, .null, .null, .null, .int 0, .int 0, .null, .null, .null, .null, .int 0, .null, .null, .null])) := o4
  obtain ⟨g5, e5, s5, f5, o5, p5⟩ := st_arr (g := g4) (t := t) (ci := 10) (i := 6) (n := t + 5) (k := 496) (x := 496) .int (by decide +kernel) (by omega) o4 (by omega) (by omega) (Nat.le_of_ble_eq_true rfl)
  rw [e5]
  replace o5 : g5.2 t = some (.inr (10, [.int 0, .ref (t + 1), .ref (t + 2), .ref (t + 3), .ref (t + 4), .int 0, .ref (t + 5), .null, .null, .null, .int 0, .int 0, .int 0, .int 0, .int 0, .int 0, .int 0, .null, .int 0, .int 0, .null, .null, .null, .null, .null, .null, .null, .null, .int 0, .int 0, .null, .null, .null, .null, .int 0, .null, .null, .null])) := o5
  obtain ⟨g6, e6, s6, f6, o6, p6⟩ := st_arr (g := g5) (t := t) (ci := 10) (i := 7) (n := t + 6) (k := 2) (x := 2) .boolean n2 (by omega) o5 (by omega) (by omega) (Nat.le_of_ble_eq_true rfl)
  rw [e6]
  replace o6 : g6.2 t = some (.inr (10, [.int 0, .ref (t + 1), .ref (t + 2), .ref (t + 3), .ref (t + 4), .int 0, .ref (t + 5), .ref (t + 6), .null, .null, .int 0, .int 0, .int 0, .int 0, .int 0, .int 0, .int 0, .null, .int 0, .int 0, .null, .null, .null, .null, .null, .null, .null, .null, .int 0, .int 0, .null, .null, .null, .null, .int 0, .null, .null, .null])) := o6
  obtain ⟨g7, e7, s7, f7, o7, p7⟩ := st_arr (g := g6) (t := t) (ci := 10) (i := 8) (n := t + 7) (k := 6) (x := 6) .int n6 (by omega) o6 (by omega) (by omega) (Nat.le_of_ble_eq_true rfl)
  rw [e7]
  replace o7 : g7.2 t = some (.inr (10, [.int 0, .ref (t + 1), .ref (t + 2), .ref (t + 3), .ref (t + 4), .int 0, .ref (t + 5), .ref (t + 6), .ref (t + 7), .null, .int 0, .int 0, .int 0, .int 0, .int 0, .int 0, .int 0, .null, .int 0, .int 0, .null, .null, .null, .null, .null, .null, .null, .null, .int 0, .int 0, .null, .null, .null, .null, .int 0, .null, .null, .null])) := o7
  obtain ⟨g8, e8, s8, f8, o8, p8⟩ := st_arr (g := g7) (t := t) (ci := 10) (i := 9) (n := t + 8) (k := 900) (x := 900) .byte n900 (by omega) o7 (by omega) (by omega) (Nat.le_of_ble_eq_true rfl)
  rw [e8]
  replace o8 : g8.2 t = some (.inr (10, [.int 0, .ref (t + 1), .ref (t + 2), .ref (t + 3), .ref (t + 4), .int 0, .ref (t + 5), .ref (t + 6), .ref (t + 7), .ref (t + 8), .int 0, .int 0, .int 0, .int 0, .int 0, .int 0, .int 0, .null, .int 0, .int 0, .null, .null, .null, .null, .null, .null, .null, .null, .int 0, .int 0, .null, .null, .null, .null, .int 0, .null, .null, .null])) := o8
  obtain ⟨g9, e9, s9, f9, o9⟩ := st_set (g := g8) (t := t) (ci := 10) (i := 16) (n := t + 9) (.int (-1 : Int32)) o8 (by omega) (Nat.le_of_ble_eq_true rfl)
  rw [e9]
  replace o9 : g9.2 t = some (.inr (10, [.int 0, .ref (t + 1), .ref (t + 2), .ref (t + 3), .ref (t + 4), .int 0, .ref (t + 5), .ref (t + 6), .ref (t + 7), .ref (t + 8), .int 0, .int 0, .int 0, .int 0, .int 0, .int 0, .int (-1 : Int32), .null, .int 0, .int 0, .null, .null, .null, .null, .null, .null, .null, .null, .int 0, .int 0, .null, .null, .null, .null, .int 0, .null, .null, .null])) := o9
  obtain ⟨gw, ew, sw, fw, cw⟩ := n_wds (g := g9)
  rw [ew]
  have ow := (fw t (by omega)).trans o9
  obtain ⟨gv, ev, sv, fv, ov⟩ := st_set (g := gw) (t := t) (ci := 10) (i := 17) (n := t + 10) (.ref g9.1) ow (by omega) (Nat.le_of_ble_eq_true rfl)
  rw [ev]
  obtain ⟨g10, hgv⟩ : ∃ z, z = gv := ⟨_, rfl⟩
  rw [← hgv] at sv fv ov ⊢
  have s10 : g10.1 = t + 10 := sv
  have e9w : g9.1 = t + 9 := by omega
  rw [e9w] at ov cw
  have f10 : ∀ y, y < t + 9 → y ≠ t → g10.2 y = g9.2 y := fun y h1 h2 => (fv y (by omega) h2).trans (fw y (by omega))
  have o10 : g10.2 t = some (.inr (10, [.int 0, .ref (t + 1), .ref (t + 2), .ref (t + 3), .ref (t + 4), .int 0, .ref (t + 5), .ref (t + 6), .ref (t + 7), .ref (t + 8), .int 0, .int 0, .int 0, .int 0, .int 0, .int 0, .int (-1 : Int32), .ref (t + 9), .int 0, .int 0, .null, .null, .null, .null, .null, .null, .null, .null, .int 0, .int 0, .null, .null, .null, .null, .int 0, .null, .null, .null])) := ov
  have p10 : g10.2 (t + 9) = some (.inl (.byte, 25, .inl wdR)) := (fv _ (by omega) (by omega)).trans cw
  obtain ⟨g11, e11, s11, f11, o11, p11⟩ := st_arr (g := g10) (t := t) (ci := 10) (i := 20) (n := t + 10) (k := 144) (x := 144) .int n144 (by omega) o10 (by omega) (by omega) (Nat.le_of_ble_eq_true rfl)
  rw [e11]
  replace o11 : g11.2 t = some (.inr (10, [.int 0, .ref (t + 1), .ref (t + 2), .ref (t + 3), .ref (t + 4), .int 0, .ref (t + 5), .ref (t + 6), .ref (t + 7), .ref (t + 8), .int 0, .int 0, .int 0, .int 0, .int 0, .int 0, .int (-1 : Int32), .ref (t + 9), .int 0, .int 0, .ref (t + 10), .null, .null, .null, .null, .null, .null, .null, .int 0, .int 0, .null, .null, .null, .null, .int 0, .null, .null, .null])) := o11
  obtain ⟨g12, e12, s12, f12, o12, p12⟩ := st_arr (g := g11) (t := t) (ci := 10) (i := 21) (n := t + 11) (k := 144) (x := 144) .int n144 (by omega) o11 (by omega) (by omega) (Nat.le_of_ble_eq_true rfl)
  rw [e12]
  replace o12 : g12.2 t = some (.inr (10, [.int 0, .ref (t + 1), .ref (t + 2), .ref (t + 3), .ref (t + 4), .int 0, .ref (t + 5), .ref (t + 6), .ref (t + 7), .ref (t + 8), .int 0, .int 0, .int 0, .int 0, .int 0, .int 0, .int (-1 : Int32), .ref (t + 9), .int 0, .int 0, .ref (t + 10), .ref (t + 11), .null, .null, .null, .null, .null, .null, .int 0, .int 0, .null, .null, .null, .null, .int 0, .null, .null, .null])) := o12
  obtain ⟨g13, e13, s13, f13, o13, p13⟩ := st_arr (g := g12) (t := t) (ci := 10) (i := 22) (n := t + 12) (k := 144) (x := 144) .int n144 (by omega) o12 (by omega) (by omega) (Nat.le_of_ble_eq_true rfl)
  rw [e13]
  replace o13 : g13.2 t = some (.inr (10, [.int 0, .ref (t + 1), .ref (t + 2), .ref (t + 3), .ref (t + 4), .int 0, .ref (t + 5), .ref (t + 6), .ref (t + 7), .ref (t + 8), .int 0, .int 0, .int 0, .int 0, .int 0, .int 0, .int (-1 : Int32), .ref (t + 9), .int 0, .int 0, .ref (t + 10), .ref (t + 11), .ref (t + 12), .null, .null, .null, .null, .null, .int 0, .int 0, .null, .null, .null, .null, .int 0, .null, .null, .null])) := o13
  obtain ⟨g14, e14, s14, f14, o14, p14⟩ := st_arr (g := g13) (t := t) (ci := 10) (i := 23) (n := t + 13) (k := 144) (x := 144) .int n144 (by omega) o13 (by omega) (by omega) (Nat.le_of_ble_eq_true rfl)
  rw [e14]
  replace o14 : g14.2 t = some (.inr (10, [.int 0, .ref (t + 1), .ref (t + 2), .ref (t + 3), .ref (t + 4), .int 0, .ref (t + 5), .ref (t + 6), .ref (t + 7), .ref (t + 8), .int 0, .int 0, .int 0, .int 0, .int 0, .int 0, .int (-1 : Int32), .ref (t + 9), .int 0, .int 0, .ref (t + 10), .ref (t + 11), .ref (t + 12), .ref (t + 13), .null, .null, .null, .null, .int 0, .int 0, .null, .null, .null, .null, .int 0, .null, .null, .null])) := o14
  obtain ⟨g15, e15, s15, f15, o15, p15⟩ := st_arr (g := g14) (t := t) (ci := 10) (i := 24) (n := t + 14) (k := 144) (x := 144) .int n144 (by omega) o14 (by omega) (by omega) (Nat.le_of_ble_eq_true rfl)
  rw [e15]
  replace o15 : g15.2 t = some (.inr (10, [.int 0, .ref (t + 1), .ref (t + 2), .ref (t + 3), .ref (t + 4), .int 0, .ref (t + 5), .ref (t + 6), .ref (t + 7), .ref (t + 8), .int 0, .int 0, .int 0, .int 0, .int 0, .int 0, .int (-1 : Int32), .ref (t + 9), .int 0, .int 0, .ref (t + 10), .ref (t + 11), .ref (t + 12), .ref (t + 13), .ref (t + 14), .null, .null, .null, .int 0, .int 0, .null, .null, .null, .null, .int 0, .null, .null, .null])) := o15
  obtain ⟨g16, e16, s16, f16, o16, p16⟩ := st_arr (g := g15) (t := t) (ci := 10) (i := 25) (n := t + 15) (k := 288) (x := 288) .int (by decide +kernel) (by omega) o15 (by omega) (by omega) (Nat.le_of_ble_eq_true rfl)
  rw [e16]
  replace o16 : g16.2 t = some (.inr (10, [.int 0, .ref (t + 1), .ref (t + 2), .ref (t + 3), .ref (t + 4), .int 0, .ref (t + 5), .ref (t + 6), .ref (t + 7), .ref (t + 8), .int 0, .int 0, .int 0, .int 0, .int 0, .int 0, .int (-1 : Int32), .ref (t + 9), .int 0, .int 0, .ref (t + 10), .ref (t + 11), .ref (t + 12), .ref (t + 13), .ref (t + 14), .ref (t + 15), .null, .null, .int 0, .int 0, .null, .null, .null, .null, .int 0, .null, .null, .null])) := o16
  obtain ⟨g17, e17, s17, f17, o17, p17⟩ := st_arr (g := g16) (t := t) (ci := 10) (i := 26) (n := t + 16) (k := 12) (x := 12) .int n12 (by omega) o16 (by omega) (by omega) (Nat.le_of_ble_eq_true rfl)
  rw [e17]
  replace o17 : g17.2 t = some (.inr (10, [.int 0, .ref (t + 1), .ref (t + 2), .ref (t + 3), .ref (t + 4), .int 0, .ref (t + 5), .ref (t + 6), .ref (t + 7), .ref (t + 8), .int 0, .int 0, .int 0, .int 0, .int 0, .int 0, .int (-1 : Int32), .ref (t + 9), .int 0, .int 0, .ref (t + 10), .ref (t + 11), .ref (t + 12), .ref (t + 13), .ref (t + 14), .ref (t + 15), .ref (t + 16), .null, .int 0, .int 0, .null, .null, .null, .null, .int 0, .null, .null, .null])) := o17
  obtain ⟨g18, e18, s18, f18, o18, p18⟩ := st_arr (g := g17) (t := t) (ci := 10) (i := 27) (n := t + 17) (k := 12) (x := 12) .int n12 (by omega) o17 (by omega) (by omega) (Nat.le_of_ble_eq_true rfl)
  rw [e18]
  replace o18 : g18.2 t = some (.inr (10, [.int 0, .ref (t + 1), .ref (t + 2), .ref (t + 3), .ref (t + 4), .int 0, .ref (t + 5), .ref (t + 6), .ref (t + 7), .ref (t + 8), .int 0, .int 0, .int 0, .int 0, .int 0, .int 0, .int (-1 : Int32), .ref (t + 9), .int 0, .int 0, .ref (t + 10), .ref (t + 11), .ref (t + 12), .ref (t + 13), .ref (t + 14), .ref (t + 15), .ref (t + 16), .ref (t + 17), .int 0, .int 0, .null, .null, .null, .null, .int 0, .null, .null, .null])) := o18
  obtain ⟨g19, e19, s19, f19, o19, p19⟩ := st_arr (g := g18) (t := t) (ci := 10) (i := 30) (n := t + 18) (k := 12) (x := 12) .int n12 (by omega) o18 (by omega) (by omega) (Nat.le_of_ble_eq_true rfl)
  rw [e19]
  replace o19 : g19.2 t = some (.inr (10, [.int 0, .ref (t + 1), .ref (t + 2), .ref (t + 3), .ref (t + 4), .int 0, .ref (t + 5), .ref (t + 6), .ref (t + 7), .ref (t + 8), .int 0, .int 0, .int 0, .int 0, .int 0, .int 0, .int (-1 : Int32), .ref (t + 9), .int 0, .int 0, .ref (t + 10), .ref (t + 11), .ref (t + 12), .ref (t + 13), .ref (t + 14), .ref (t + 15), .ref (t + 16), .ref (t + 17), .int 0, .int 0, .ref (t + 18), .null, .null, .null, .int 0, .null, .null, .null])) := o19
  obtain ⟨g20, e20, s20, f20, o20, p20⟩ := st_arr (g := g19) (t := t) (ci := 10) (i := 31) (n := t + 19) (k := 12) (x := 12) .int n12 (by omega) o19 (by omega) (by omega) (Nat.le_of_ble_eq_true rfl)
  rw [e20]
  replace o20 : g20.2 t = some (.inr (10, [.int 0, .ref (t + 1), .ref (t + 2), .ref (t + 3), .ref (t + 4), .int 0, .ref (t + 5), .ref (t + 6), .ref (t + 7), .ref (t + 8), .int 0, .int 0, .int 0, .int 0, .int 0, .int 0, .int (-1 : Int32), .ref (t + 9), .int 0, .int 0, .ref (t + 10), .ref (t + 11), .ref (t + 12), .ref (t + 13), .ref (t + 14), .ref (t + 15), .ref (t + 16), .ref (t + 17), .int 0, .int 0, .ref (t + 18), .ref (t + 19), .null, .null, .int 0, .null, .null, .null])) := o20
  obtain ⟨g21, e21, s21, f21, o21, p21⟩ := st_arr (g := g20) (t := t) (ci := 10) (i := 32) (n := t + 20) (k := 13) (x := 13) .int n13 (by omega) o20 (by omega) (by omega) (Nat.le_of_ble_eq_true rfl)
  rw [e21]
  replace o21 : g21.2 t = some (.inr (10, [.int 0, .ref (t + 1), .ref (t + 2), .ref (t + 3), .ref (t + 4), .int 0, .ref (t + 5), .ref (t + 6), .ref (t + 7), .ref (t + 8), .int 0, .int 0, .int 0, .int 0, .int 0, .int 0, .int (-1 : Int32), .ref (t + 9), .int 0, .int 0, .ref (t + 10), .ref (t + 11), .ref (t + 12), .ref (t + 13), .ref (t + 14), .ref (t + 15), .ref (t + 16), .ref (t + 17), .int 0, .int 0, .ref (t + 18), .ref (t + 19), .ref (t + 20), .null, .int 0, .null, .null, .null])) := o21
  obtain ⟨g22, e22, s22, f22, o22, p22⟩ := st_arr (g := g21) (t := t) (ci := 10) (i := 33) (n := t + 21) (k := 13) (x := 13) .int n13 (by omega) o21 (by omega) (by omega) (Nat.le_of_ble_eq_true rfl)
  rw [e22]
  replace o22 : g22.2 t = some (.inr (10, [.int 0, .ref (t + 1), .ref (t + 2), .ref (t + 3), .ref (t + 4), .int 0, .ref (t + 5), .ref (t + 6), .ref (t + 7), .ref (t + 8), .int 0, .int 0, .int 0, .int 0, .int 0, .int 0, .int (-1 : Int32), .ref (t + 9), .int 0, .int 0, .ref (t + 10), .ref (t + 11), .ref (t + 12), .ref (t + 13), .ref (t + 14), .ref (t + 15), .ref (t + 16), .ref (t + 17), .int 0, .int 0, .ref (t + 18), .ref (t + 19), .ref (t + 20), .ref (t + 21), .int 0, .null, .null, .null])) := o22
  obtain ⟨g23, e23, s23, f23, o23, p23⟩ := st_arr (g := g22) (t := t) (ci := 10) (i := 35) (n := t + 22) (k := 9409) (x := 9409) .int (by decide +kernel) (by omega) o22 (by omega) (by omega) (Nat.le_of_ble_eq_true rfl)
  rw [e23]
  replace o23 : g23.2 t = some (.inr (10, [.int 0, .ref (t + 1), .ref (t + 2), .ref (t + 3), .ref (t + 4), .int 0, .ref (t + 5), .ref (t + 6), .ref (t + 7), .ref (t + 8), .int 0, .int 0, .int 0, .int 0, .int 0, .int 0, .int (-1 : Int32), .ref (t + 9), .int 0, .int 0, .ref (t + 10), .ref (t + 11), .ref (t + 12), .ref (t + 13), .ref (t + 14), .ref (t + 15), .ref (t + 16), .ref (t + 17), .int 0, .int 0, .ref (t + 18), .ref (t + 19), .ref (t + 20), .ref (t + 21), .int 0, .ref (t + 22), .null, .null])) := o23
  obtain ⟨g24, e24, s24, f24, o24, p24⟩ := st_arr (g := g23) (t := t) (ci := 10) (i := 36) (n := t + 23) (k := 9409) (x := 9409) .int (by decide +kernel) (by omega) o23 (by omega) (by omega) (Nat.le_of_ble_eq_true rfl)
  rw [e24]
  replace o24 : g24.2 t = some (.inr (10, [.int 0, .ref (t + 1), .ref (t + 2), .ref (t + 3), .ref (t + 4), .int 0, .ref (t + 5), .ref (t + 6), .ref (t + 7), .ref (t + 8), .int 0, .int 0, .int 0, .int 0, .int 0, .int 0, .int (-1 : Int32), .ref (t + 9), .int 0, .int 0, .ref (t + 10), .ref (t + 11), .ref (t + 12), .ref (t + 13), .ref (t + 14), .ref (t + 15), .ref (t + 16), .ref (t + 17), .int 0, .int 0, .ref (t + 18), .ref (t + 19), .ref (t + 20), .ref (t + 21), .int 0, .ref (t + 22), .ref (t + 23), .null])) := o24
  obtain ⟨g25, e25, s25, f25, o25, p25⟩ := st_arr (g := g24) (t := t) (ci := 10) (i := 37) (n := t + 24) (k := 156) (x := 156) .int n156 (by omega) o24 (by omega) (by omega) (Nat.le_of_ble_eq_true rfl)
  rw [e25]
  replace o25 : g25.2 t = some (.inr (10, [.int 0, .ref (t + 1), .ref (t + 2), .ref (t + 3), .ref (t + 4), .int 0, .ref (t + 5), .ref (t + 6), .ref (t + 7), .ref (t + 8), .int 0, .int 0, .int 0, .int 0, .int 0, .int 0, .int (-1 : Int32), .ref (t + 9), .int 0, .int 0, .ref (t + 10), .ref (t + 11), .ref (t + 12), .ref (t + 13), .ref (t + 14), .ref (t + 15), .ref (t + 16), .ref (t + 17), .int 0, .int 0, .ref (t + 18), .ref (t + 19), .ref (t + 20), .ref (t + 21), .int 0, .ref (t + 22), .ref (t + 23), .ref (t + 24)])) := o25
  have F25 : ∀ y, y < t + 25 → y ≠ t → g25.2 y = g25.2 y := fun _ _ _ => rfl
  have F24 : ∀ y, y < t + 24 → y ≠ t → g25.2 y = g24.2 y := fr_tr F25 f25 (by decide)
  have F23 : ∀ y, y < t + 23 → y ≠ t → g25.2 y = g23.2 y := fr_tr F24 f24 (by decide)
  have F22 : ∀ y, y < t + 22 → y ≠ t → g25.2 y = g22.2 y := fr_tr F23 f23 (by decide)
  have F21 : ∀ y, y < t + 21 → y ≠ t → g25.2 y = g21.2 y := fr_tr F22 f22 (by decide)
  have F20 : ∀ y, y < t + 20 → y ≠ t → g25.2 y = g20.2 y := fr_tr F21 f21 (by decide)
  have F19 : ∀ y, y < t + 19 → y ≠ t → g25.2 y = g19.2 y := fr_tr F20 f20 (by decide)
  have F18 : ∀ y, y < t + 18 → y ≠ t → g25.2 y = g18.2 y := fr_tr F19 f19 (by decide)
  have F17 : ∀ y, y < t + 17 → y ≠ t → g25.2 y = g17.2 y := fr_tr F18 f18 (by decide)
  have F16 : ∀ y, y < t + 16 → y ≠ t → g25.2 y = g16.2 y := fr_tr F17 f17 (by decide)
  have F15 : ∀ y, y < t + 15 → y ≠ t → g25.2 y = g15.2 y := fr_tr F16 f16 (by decide)
  have F14 : ∀ y, y < t + 14 → y ≠ t → g25.2 y = g14.2 y := fr_tr F15 f15 (by decide)
  have F13 : ∀ y, y < t + 13 → y ≠ t → g25.2 y = g13.2 y := fr_tr F14 f14 (by decide)
  have F12 : ∀ y, y < t + 12 → y ≠ t → g25.2 y = g12.2 y := fr_tr F13 f13 (by decide)
  have F11 : ∀ y, y < t + 11 → y ≠ t → g25.2 y = g11.2 y := fr_tr F12 f12 (by decide)
  have F10 : ∀ y, y < t + 10 → y ≠ t → g25.2 y = g10.2 y := fr_tr F11 f11 (by decide)
  have F9 : ∀ y, y < t + 9 → y ≠ t → g25.2 y = g9.2 y := fr_tr F10 f10 (by decide)
  have F8 : ∀ y, y < t + 9 → y ≠ t → g25.2 y = g8.2 y := fr_tr F9 f9 (by decide)
  have F7 : ∀ y, y < t + 8 → y ≠ t → g25.2 y = g7.2 y := fr_tr F8 f8 (by decide)
  have F6 : ∀ y, y < t + 7 → y ≠ t → g25.2 y = g6.2 y := fr_tr F7 f7 (by decide)
  have F5 : ∀ y, y < t + 6 → y ≠ t → g25.2 y = g5.2 y := fr_tr F6 f6 (by decide)
  have F4 : ∀ y, y < t + 5 → y ≠ t → g25.2 y = g4.2 y := fr_tr F5 f5 (by decide)
  have F3 : ∀ y, y < t + 4 → y ≠ t → g25.2 y = g3.2 y := fr_tr F4 f4 (by decide)
  have F2 : ∀ y, y < t + 3 → y ≠ t → g25.2 y = g2.2 y := fr_tr F3 f3 (by decide)
  have F1 : ∀ y, y < t + 2 → y ≠ t → g25.2 y = g1.2 y := fr_tr F2 f2 (by decide)
  have F0 : ∀ y, y < t + 1 → y ≠ t → g25.2 y = g0.2 y := fr_tr F1 f1 (by decide)
  have c1 : g25.2 (t + 1) = some (.inl (mK_T 1, mK_L 1, .inl (refR 1))) := cel_fr p1 F1 (by decide) (by decide)
  have c2 : g25.2 (t + 2) = some (.inl (mK_T 2, mK_L 2, .inl (refR 2))) := cel_fr p2 F2 (by decide) (by decide)
  have c3 : g25.2 (t + 3) = some (.inl (mK_T 3, mK_L 3, .inl (refR 3))) := cel_fr p3 F3 (by decide) (by decide)
  have c4 : g25.2 (t + 4) = some (.inl (mK_T 4, mK_L 4, .inl (refR 4))) := cel_fr p4 F4 (by decide) (by decide)
  have c5 : g25.2 (t + 5) = some (.inl (mK_T 5, mK_L 5, .inl (refR 5))) := cel_fr p5 F5 (by decide) (by decide)
  have c6 : g25.2 (t + 6) = some (.inl (mK_T 6, mK_L 6, .inl (refR 6))) := cel_fr p6 F6 (by decide) (by decide)
  have c7 : g25.2 (t + 7) = some (.inl (mK_T 7, mK_L 7, .inl (refR 7))) := cel_fr p7 F7 (by decide) (by decide)
  have c8 : g25.2 (t + 8) = some (.inl (mK_T 8, mK_L 8, .inl (refR 8))) := cel_fr p8 F8 (by decide) (by decide)
  have c9 : g25.2 (t + 9) = some (.inl (mK_T 9, mK_L 9, .inl (refR 9))) := cel_fr p10 F10 (by decide) (by decide)
  have c10 : g25.2 (t + 10) = some (.inl (mK_T 10, mK_L 10, .inl (refR 10))) := cel_fr p11 F11 (by decide) (by decide)
  have c11 : g25.2 (t + 11) = some (.inl (mK_T 11, mK_L 11, .inl (refR 11))) := cel_fr p12 F12 (by decide) (by decide)
  have c12 : g25.2 (t + 12) = some (.inl (mK_T 12, mK_L 12, .inl (refR 12))) := cel_fr p13 F13 (by decide) (by decide)
  have c13 : g25.2 (t + 13) = some (.inl (mK_T 13, mK_L 13, .inl (refR 13))) := cel_fr p14 F14 (by decide) (by decide)
  have c14 : g25.2 (t + 14) = some (.inl (mK_T 14, mK_L 14, .inl (refR 14))) := cel_fr p15 F15 (by decide) (by decide)
  have c15 : g25.2 (t + 15) = some (.inl (mK_T 15, mK_L 15, .inl (refR 15))) := cel_fr p16 F16 (by decide) (by decide)
  have c16 : g25.2 (t + 16) = some (.inl (mK_T 16, mK_L 16, .inl (refR 16))) := cel_fr p17 F17 (by decide) (by decide)
  have c17 : g25.2 (t + 17) = some (.inl (mK_T 17, mK_L 17, .inl (refR 17))) := cel_fr p18 F18 (by decide) (by decide)
  have c18 : g25.2 (t + 18) = some (.inl (mK_T 18, mK_L 18, .inl (refR 18))) := cel_fr p19 F19 (by decide) (by decide)
  have c19 : g25.2 (t + 19) = some (.inl (mK_T 19, mK_L 19, .inl (refR 19))) := cel_fr p20 F20 (by decide) (by decide)
  have c20 : g25.2 (t + 20) = some (.inl (mK_T 20, mK_L 20, .inl (refR 20))) := cel_fr p21 F21 (by decide) (by decide)
  have c21 : g25.2 (t + 21) = some (.inl (mK_T 21, mK_L 21, .inl (refR 21))) := cel_fr p22 F22 (by decide) (by decide)
  have c22 : g25.2 (t + 22) = some (.inl (mK_T 22, mK_L 22, .inl (refR 22))) := cel_fr p23 F23 (by decide) (by decide)
  have c23 : g25.2 (t + 23) = some (.inl (mK_T 23, mK_L 23, .inl (refR 23))) := cel_fr p24 F24 (by decide) (by decide)
  have c24 : g25.2 (t + 24) = some (.inl (mK_T 24, mK_L 24, .inl (refR 24))) := cel_fr p25 F25 (by decide) (by decide)
  have HM : bH mK g25 t (refI, refR) := by
    refine ⟨o25, fun j hj => ?_⟩
    have hj : 1 ≤ j ∧ j ≤ 24 := hj
    have hj : j = 1 ∨ j = 2 ∨ j = 3 ∨ j = 4 ∨ j = 5 ∨ j = 6 ∨ j = 7 ∨ j = 8 ∨ j = 9 ∨ j = 10 ∨ j = 11 ∨ j = 12 ∨ j = 13 ∨ j = 14 ∨ j = 15 ∨ j = 16 ∨ j = 17 ∨ j = 18 ∨ j = 19 ∨ j = 20 ∨ j = 21 ∨ j = 22 ∨ j = 23 ∨ j = 24 := by omega
    rcases hj with rfl | rfl | rfl | rfl | rfl | rfl | rfl | rfl | rfl | rfl | rfl | rfl | rfl | rfl | rfl | rfl | rfl | rfl | rfl | rfl | rfl | rfl | rfl | rfl
    · exact c1
    · exact c2
    · exact c3
    · exact c4
    · exact c5
    · exact c6
    · exact c7
    · exact c8
    · exact c9
    · exact c10
    · exact c11
    · exact c12
    · exact c13
    · exact c14
    · exact c15
    · exact c16
    · exact c17
    · exact c18
    · exact c19
    · exact c20
    · exact c21
    · exact c22
    · exact c23
    · exact c24
  obtain ⟨R1, b1, b2⟩ := g_begins (S := ((refI, refR) : MS))
  have run : FX10_begins t g25 = some (bput mK g25 t (refI, setA refR 1 R1)) := by rw [HM.run (F := FX10_begins t) eFX10_begins, b1, gx_ms]
  rw [isO_ob o25, gx_bs, run, gx_bs]
  refine ⟨_, rfl, ?_, fun y hy => ?_, R1, bH.put, b2⟩
  · show g25.1 = _
    rw [s25]
  · rw [bp_else (K := mK) (Or.inl hy)]
    exact (F0 y (Nat.lt_succ_of_lt hy) (Nat.ne_of_lt hy)).trans (f0 y hy)
