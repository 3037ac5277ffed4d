/-! the class, made -/
def CL0 (h : jx_H) (a : Nat) : Prop := (BB h a ∧ (∃ S, bH sK h (a + 1) S ∧ ST S 31 ht0 (fun _ _ => 0) []) ∧ (∃ S, bH sK h (a + 10) S) ∧ (∃ S, bH sK h (a + 19) S)) ∧ (h.2 (a + 28) = some (qs 2 (fun _ => none)) ∧ HIS h (a + 29) 0 0 (fun _ => none) ∧ h.2 (a + 31) = some (ar 6 (fun _ => 0)) ∧ bH pK h (a + 32) ms0) ∧ (TO h (a + 35) (a + 1) (nI 0) 0 0 0 ∧ TSH h (a + 35) ∧ TX h (a + 35)) ∧ ((∃ za zb zm, ZB h (a + 68) (a + 1) (a + 35) (a + 32) (nI 0) 0 m1 za zb zm) ∧ h.2 (a + 83) = some (qm 12 (fun _ => none))) ∧ (FO h (a + 84) (a + 32) ∧ SH h (a + 85) 12 91) ∧ bH tK h (a + 88) ms0 ∧ (h.2 (a + 90) = some (.inr (3, [.ref (a + 88), .ref (a + 10), .ref (a + 91), .ref (a + 100), .int 0, .int (-1 : Int32), .int 0, .int 0, .int 0, .int 0, .int 0])) ∧ (∃ S, bH sK h (a + 91) S) ∧ h.2 (a + 100) = some (ar 441 (fun _ => 0))) ∧ h.2 (a + 101) = some (ar 12 (fun _ => 0)) ∧ h.2 (a + 102) = some (ar 12 (fun _ => 0))
section
variable {w gF : jx_H} {t lo hi p : Nat}
theorem sta_fr {N : Nat} {g : jx_H} {S : MS} (H : bH sK g (t + p) S) (F : ∀ y, y < t + N → y ≠ t → gF.2 y = g.2 y) (h : p + 8 < N) (h0 : 0 < p) : bH sK gF (t + p) S := H.same fun y y1 y2 => by
  have y2 : y ≤ t + p + 8 := y2
  exact F y (by omega) (by omega)
theorem gcel {x : Option jx_E} (e : w.2 (t + p) = x) (G : ∀ y, t + lo ≤ y → y < t + hi → gF.2 y = w.2 y) (h1 : lo ≤ p) (h2 : p < hi) : gF.2 (t + p) = x := (G _ (by omega) (by omega)).trans e
theorem g_his (H : HIS w (t + p) 0 0 (fun _ => none)) (G : ∀ y, t + lo ≤ y → y < t + hi → gF.2 y = w.2 y) (h1 : lo ≤ p) (h2 : p + 1 < hi) : HIS gF (t + p) 0 0 (fun _ => none) := ⟨(G _ (by omega) (by omega)).trans H.1, (G _ (by omega) (by omega)).trans H.2⟩
theorem g_sta {S : MS} (H : bH sK w (t + p) S) (G : ∀ y, t + lo ≤ y → y < t + hi → gF.2 y = w.2 y) (h1 : lo ≤ p) (h2 : p + 8 < hi) : bH sK gF (t + p) S := H.same fun y y1 y2 => by
  have y2 : y ≤ t + p + 8 := y2
  exact G y (by omega) (by omega)
theorem g_spo {S : MS} (H : bH pK w (t + p) S) (G : ∀ y, t + lo ≤ y → y < t + hi → gF.2 y = w.2 y) (h1 : lo ≤ p) (h2 : p + 2 < hi) : bH pK gF (t + p) S := H.same fun y y1 y2 => by
  have y2 : y ≤ t + p + 2 := y2
  exact G y (by omega) (by omega)
theorem g_txt {S : MS} (H : bH tK w (t + p) S) (G : ∀ y, t + lo ≤ y → y < t + hi → gF.2 y = w.2 y) (h1 : lo ≤ p) (h2 : p + 1 < hi) : bH tK gF (t + p) S := H.same fun y y1 y2 => by
  have y2 : y ≤ t + p + 1 := y2
  exact G y (by omega) (by omega)
theorem g_sh {H W : Nat} (S : SH w (t + p) H W) (G : ∀ y, t + lo ≤ y → y < t + hi → gF.2 y = w.2 y) (h1 : lo ≤ p) (h2 : p + 2 < hi) : SH gF (t + p) H W := S.same fun y y1 y2 => G y (by omega) (by omega)
theorem g_tsh (S : TSH w (t + p)) (G : ∀ y, t + lo ≤ y → y < t + hi → gF.2 y = w.2 y) (h1 : lo ≤ p) (h2 : p + 24 < hi) : TSH gF (t + p) := S.same fun y y1 y2 => G y (by omega) (by omega)
theorem g_tx (S : TX w (t + p)) (G : ∀ y, t + lo ≤ y → y < t + hi → gF.2 y = w.2 y) (h1 : lo ≤ p) (h2 : p + 32 < hi) : TX gF (t + p) := S.same fun y y1 y2 => G y (by omega) (by omega)
theorem g_zb {st tt sp : Nat} (S : ∃ za zb zm, ZB w (t + p) st tt sp (nI 0) 0 m1 za zb zm) (G : ∀ y, t + lo ≤ y → y < t + hi → gF.2 y = w.2 y) (h1 : lo ≤ p) (h2 : p + 14 < hi) : ∃ za zb zm, ZB gF (t + p) st tt sp (nI 0) 0 m1 za zb zm := by
  obtain ⟨za, zb, zm, Z⟩ := S
  exact ⟨za, zb, zm, Z.same fun y y1 y2 => G y (by omega) (by omega)⟩
end
set_option maxHeartbeats 2000000 in
theorem n_cls {g : jx_H} : ∃ g', FX9_init g.1 (hno g 9 fsX9) = some g' ∧ g'.1 = g.1 + 103 ∧ (∀ y, y < g.1 → g'.2 y = g.2 y) ∧ CL0 g' g.1 := by
  obtain ⟨g0, hg0⟩ : ∃ g0, g0 = hno g 9 fsX9 := ⟨_, rfl⟩
  have s0 : g0.1 = g.1 + 1 := by rw [hg0]; rfl
  have o0 : g0.2 g.1 = some (.inr (9, fsX9)) := by rw [hg0]; exact up_s
  have f0 : ∀ y, y < g.1 → g0.2 y = g.2 y := fun y hy => by rw [hg0]; exact up_o (by omega)
  rw [← hg0]
  generalize g.1 = t at *
  unfold FX9_init
  obtain ⟨g1, e1, s1, f1, o1, p1⟩ := st_sta (g := g0) (t := t) (ci := 9) (i := 0) (n := t + 1) o0 (by omega) (by omega) (Nat.le_of_ble_eq_true rfl)
  rw [e1]
  replace o1 : g1.2 t = some (.inr (9, [.ref (t + 1), .null, .null, .null, .null, .null, .null, .null, .null, .null, .null, .null, .null, .null])) := o1
  obtain ⟨g2, e2, s2, f2, o2, p2⟩ := st_sta (g := g1) (t := t) (ci := 9) (i := 1) (n := t + 10) o1 (by omega) (by omega) (Nat.le_of_ble_eq_true rfl)
  rw [e2]
  replace o2 : g2.2 t = some (.inr (9, [.ref (t + 1), .ref (t + 10), .null, .null, .null, .null, .null, .null, .null, .null, .null, .null, .null, .null])) := o2
  obtain ⟨g3, e3, s3, f3, o3, p3⟩ := st_sta (g := g2) (t := t) (ci := 9) (i := 2) (n := t + 19) o2 (by omega) (by omega) (Nat.le_of_ble_eq_true rfl)
  rw [e3]
  replace o3 : g3.2 t = some (.inr (9, [.ref (t + 1), .ref (t + 10), .ref (t + 19), .null, .null, .null, .null, .null, .null, .null, .null, .null, .null, .null])) := o3
  obtain ⟨g4, e4, s4, f4, o4, p4⟩ := st_ary (g := g3) (t := t) (ci := 9) (i := 3) (n := t + 28) (k := 2) (x := 2) "BorderBasis$State" n2 (by omega) o3 (by omega) (by omega) (Nat.le_of_ble_eq_true rfl)
  rw [e4]
  replace o4 : g4.2 t = some (.inr (9, [.ref (t + 1), .ref (t + 10), .ref (t + 19), .ref (t + 28), .null, .null, .null, .null, .null, .null, .null, .null, .null, .null])) := o4
  obtain ⟨w4, x4, y4, z4, q4_0⟩ := n_his (g := g4)
  have es4 : g4.1 = t + 29 := by omega
  obtain ⟨g5, e5, s5, f5, o5, u5⟩ := st_obj (g := g4) (t := t) (ci := 9) (i := 4) (n := t + 29) (c := 1) (k := 2) (fs' := fsX1) (FX1_init) x4 y4 z4 o4 es4 (by omega) (Nat.le_of_ble_eq_true rfl)
  rw [hnw_e, gx_bs, e5]
  replace o5 : g5.2 t = some (.inr (9, [.ref (t + 1), .ref (t + 10), .ref (t + 19), .ref (t + 28), .ref (t + 29), .null, .null, .null, .null, .null, .null, .null, .null, .null])) := o5
  rw [es4] at q4_0
  obtain ⟨g6, e6, s6, f6, o6, p6⟩ := st_arr (g := g5) (t := t) (ci := 9) (i := 5) (n := t + 31) (k := 6) (x := 6) .int n6 (by omega) o5 (by omega) (by omega) (Nat.le_of_ble_eq_true rfl)
  rw [e6]
  replace o6 : g6.2 t = some (.inr (9, [.ref (t + 1), .ref (t + 10), .ref (t + 19), .ref (t + 28), .ref (t + 29), .ref (t + 31), .null, .null, .null, .null, .null, .null, .null, .null])) := o6
  obtain ⟨w6, x6, y6, z6, q6_0⟩ := n_spo (g := g6)
  have es6 : g6.1 = t + 32 := by omega
  obtain ⟨g7, e7, s7, f7, o7, u7⟩ := st_obj (g := g6) (t := t) (ci := 9) (i := 6) (n := t + 32) (c := 4) (k := 3) (fs' := fsX4) (FX4_init) x6 y6 z6 o6 es6 (by omega) (Nat.le_of_ble_eq_true rfl)
  rw [hnw_e, gx_bs, e7]
  replace o7 : g7.2 t = some (.inr (9, [.ref (t + 1), .ref (t + 10), .ref (t + 19), .ref (t + 28), .ref (t + 29), .ref (t + 31), .ref (t + 32), .null, .null, .null, .null, .null, .null, .null])) := o7
  rw [es6] at q6_0
  obtain ⟨w7, x7, y7, z7, q7_0, q7_1, q7_2⟩ := n_tab (g := g7) (st := t + 1)
  have es7 : g7.1 = t + 35 := by omega
  have h7 : (hno g7 6 fsX6).2 t = some (.inr (9, [.ref (t + 1), .ref (t + 10), .ref (t + 19), .ref (t + 28), .ref (t + 29), .ref (t + 31), .ref (t + 32), .null, .null, .null, .null, .null, .null, .null])) := by show jx_up g7.2 g7.1 _ t = _; rw [up_o (by omega)]; exact o7
  obtain ⟨g8, e8, s8, f8, o8, u8⟩ := st_obj (g := g7) (t := t) (ci := 9) (i := 7) (n := t + 35) (c := 6) (k := 33) (fs' := fsX6) (fun n h => FX6_init n (t + 1) h) x7 y7 z7 o7 es7 (by omega) (Nat.le_of_ble_eq_true rfl)
  rw [hnw_e, gx_bs, hgr_ob (x := t + 1) h7 rfl, gx_bs, e8]
  replace o8 : g8.2 t = some (.inr (9, [.ref (t + 1), .ref (t + 10), .ref (t + 19), .ref (t + 28), .ref (t + 29), .ref (t + 31), .ref (t + 32), .ref (t + 35), .null, .null, .null, .null, .null, .null])) := o8
  rw [es7] at q7_0 q7_1 q7_2
  obtain ⟨w8, x8, y8, z8, q8_0, q8_1⟩ := n_zer (g := g8) (st := t + 1) (tt := t + 35) (sp := t + 32)
  have es8 : g8.1 = t + 68 := by omega
  have h8 : (hno g8 8 fsX8).2 t = some (.inr (9, [.ref (t + 1), .ref (t + 10), .ref (t + 19), .ref (t + 28), .ref (t + 29), .ref (t + 31), .ref (t + 32), .ref (t + 35), .null, .null, .null, .null, .null, .null])) := by show jx_up g8.2 g8.1 _ t = _; rw [up_o (by omega)]; exact o8
  obtain ⟨g9, e9, s9, f9, o9, u9⟩ := st_obj (g := g8) (t := t) (ci := 9) (i := 8) (n := t + 68) (c := 8) (k := 16) (fs' := fsX8) (fun n h => FX8_init n (t + 1) (t + 35) (t + 32) h) x8 y8 z8 o8 es8 (by omega) (Nat.le_of_ble_eq_true rfl)
  rw [hnw_e, gx_bs, hgr_ob (x := t + 1) h8 rfl, gx_bs, hgr_ob (x := t + 35) h8 rfl, gx_bs, hgr_ob (x := t + 32) h8 rfl, gx_bs, e9]
  replace o9 : g9.2 t = some (.inr (9, [.ref (t + 1), .ref (t + 10), .ref (t + 19), .ref (t + 28), .ref (t + 29), .ref (t + 31), .ref (t + 32), .ref (t + 35), .ref (t + 68), .null, .null, .null, .null, .null])) := o9
  rw [es8] at q8_0 q8_1
  obtain ⟨w9, x9, y9, z9, q9_0, q9_1⟩ := n_fit (g := g9) (sp := t + 32)
  have es9 : g9.1 = t + 84 := by omega
  have h9 : (hno g9 0 fsX0).2 t = some (.inr (9, [.ref (t + 1), .ref (t + 10), .ref (t + 19), .ref (t + 28), .ref (t + 29), .ref (t + 31), .ref (t + 32), .ref (t + 35), .ref (t + 68), .null, .null, .null, .null, .null])) := by show jx_up g9.2 g9.1 _ t = _; rw [up_o (by omega)]; exact o9
  obtain ⟨g10, e10, s10, f10, o10, u10⟩ := st_obj (g := g9) (t := t) (ci := 9) (i := 9) (n := t + 84) (c := 0) (k := 4) (fs' := fsX0) (fun n h => FX0_init n (t + 32) h) x9 y9 z9 o9 es9 (by omega) (Nat.le_of_ble_eq_true rfl)
  rw [hnw_e, gx_bs, hgr_ob (x := t + 32) h9 rfl, gx_bs, e10]
  replace o10 : g10.2 t = some (.inr (9, [.ref (t + 1), .ref (t + 10), .ref (t + 19), .ref (t + 28), .ref (t + 29), .ref (t + 31), .ref (t + 32), .ref (t + 35), .ref (t + 68), .ref (t + 84), .null, .null, .null, .null])) := o10
  rw [es9] at q9_0 q9_1
  obtain ⟨w10, x10, y10, z10, q10_0⟩ := n_txt (g := g10)
  have es10 : g10.1 = t + 88 := by omega
  obtain ⟨g11, e11, s11, f11, o11, u11⟩ := st_obj (g := g10) (t := t) (ci := 9) (i := 10) (n := t + 88) (c := 7) (k := 2) (fs' := fsX7) (FX7_init) x10 y10 z10 o10 es10 (by omega) (Nat.le_of_ble_eq_true rfl)
  rw [hnw_e, gx_bs, e11]
  replace o11 : g11.2 t = some (.inr (9, [.ref (t + 1), .ref (t + 10), .ref (t + 19), .ref (t + 28), .ref (t + 29), .ref (t + 31), .ref (t + 32), .ref (t + 35), .ref (t + 68), .ref (t + 84), .ref (t + 88), .null, .null, .null])) := o11
  rw [es10] at q10_0
  obtain ⟨w11, x11, y11, z11, q11_0, q11_1, q11_2⟩ := n_par (g := g11) (tx := t + 88) (sp := t + 10)
  have es11 : g11.1 = t + 90 := by omega
  have h11 : (hno g11 3 fsX3).2 t = some (.inr (9, [.ref (t + 1), .ref (t + 10), .ref (t + 19), .ref (t + 28), .ref (t + 29), .ref (t + 31), .ref (t + 32), .ref (t + 35), .ref (t + 68), .ref (t + 84), .ref (t + 88), .null, .null, .null])) := by show jx_up g11.2 g11.1 _ t = _; rw [up_o (by omega)]; exact o11
  obtain ⟨g12, e12, s12, f12, o12, u12⟩ := st_obj (g := g11) (t := t) (ci := 9) (i := 11) (n := t + 90) (c := 3) (k := 11) (fs' := fsX3) (fun n h => FX3_init n (t + 88) (t + 10) h) x11 y11 z11 o11 es11 (by omega) (Nat.le_of_ble_eq_true rfl)
  rw [hnw_e, gx_bs, hgr_ob (x := t + 88) h11 rfl, gx_bs, hgr_ob (x := t + 10) h11 rfl, gx_bs, e12]
  replace o12 : g12.2 t = some (.inr (9, [.ref (t + 1), .ref (t + 10), .ref (t + 19), .ref (t + 28), .ref (t + 29), .ref (t + 31), .ref (t + 32), .ref (t + 35), .ref (t + 68), .ref (t + 84), .ref (t + 88), .ref (t + 90), .null, .null])) := o12
  rw [es11] at q11_0 q11_1 q11_2
  obtain ⟨g13, e13, s13, f13, o13, p13⟩ := st_arr (g := g12) (t := t) (ci := 9) (i := 12) (n := t + 101) (k := 12) (x := 12) .int n12 (by omega) o12 (by omega) (by omega) (Nat.le_of_ble_eq_true rfl)
  rw [e13]
  replace o13 : g13.2 t = some (.inr (9, [.ref (t + 1), .ref (t + 10), .ref (t + 19), .ref (t + 28), .ref (t + 29), .ref (t + 31), .ref (t + 32), .ref (t + 35), .ref (t + 68), .ref (t + 84), .ref (t + 88), .ref (t + 90), .ref (t + 101), .null])) := o13
  obtain ⟨g14, e14, s14, f14, o14, p14⟩ := st_arr (g := g13) (t := t) (ci := 9) (i := 13) (n := t + 102) (k := 12) (x := 12) .int n12 (by omega) o13 (by omega) (by omega) (Nat.le_of_ble_eq_true rfl)
  rw [e14]
  replace o14 : g14.2 t = some (.inr (9, [.ref (t + 1), .ref (t + 10), .ref (t + 19), .ref (t + 28), .ref (t + 29), .ref (t + 31), .ref (t + 32), .ref (t + 35), .ref (t + 68), .ref (t + 84), .ref (t + 88), .ref (t + 90), .ref (t + 101), .ref (t + 102)])) := o14
  have F14 : ∀ y, y < t + 103 → y ≠ t → g14.2 y = g14.2 y := fun _ _ _ => rfl
  have F13 : ∀ y, y < t + 102 → y ≠ t → g14.2 y = g13.2 y := fr_tr F14 f14 (by decide)
  have F12 : ∀ y, y < t + 101 → y ≠ t → g14.2 y = g12.2 y := fr_tr F13 f13 (by decide)
  have F11 : ∀ y, y < t + 90 → y ≠ t → g14.2 y = g11.2 y := fr_tr F12 f12 (by decide)
  have F10 : ∀ y, y < t + 88 → y ≠ t → g14.2 y = g10.2 y := fr_tr F11 f11 (by decide)
  have F9 : ∀ y, y < t + 84 → y ≠ t → g14.2 y = g9.2 y := fr_tr F10 f10 (by decide)
  have F8 : ∀ y, y < t + 68 → y ≠ t → g14.2 y = g8.2 y := fr_tr F9 f9 (by decide)
  have F7 : ∀ y, y < t + 35 → y ≠ t → g14.2 y = g7.2 y := fr_tr F8 f8 (by decide)
  have F6 : ∀ y, y < t + 32 → y ≠ t → g14.2 y = g6.2 y := fr_tr F7 f7 (by decide)
  have F5 : ∀ y, y < t + 31 → y ≠ t → g14.2 y = g5.2 y := fr_tr F6 f6 (by decide)
  have F4 : ∀ y, y < t + 29 → y ≠ t → g14.2 y = g4.2 y := fr_tr F5 f5 (by decide)
  have F3 : ∀ y, y < t + 28 → y ≠ t → g14.2 y = g3.2 y := fr_tr F4 f4 (by decide)
  have F2 : ∀ y, y < t + 19 → y ≠ t → g14.2 y = g2.2 y := fr_tr F3 f3 (by decide)
  have F1 : ∀ y, y < t + 10 → y ≠ t → g14.2 y = g1.2 y := fr_tr F2 f2 (by decide)
  have F0 : ∀ y, y < t + 1 → y ≠ t → g14.2 y = g0.2 y := fr_tr F1 f1 (by decide)
  have G4 : ∀ y, t + 29 ≤ y → y < t + 31 → g14.2 y = w4.2 y := fun y h1 h2 => (F5 y h2 (Nat.ne_of_gt (Nat.lt_of_lt_of_le (Nat.lt_add_of_pos_right (by decide)) h1))).trans (u5 y h1)
  have G6 : ∀ y, t + 32 ≤ y → y < t + 35 → g14.2 y = w6.2 y := fun y h1 h2 => (F7 y h2 (Nat.ne_of_gt (Nat.lt_of_lt_of_le (Nat.lt_add_of_pos_right (by decide)) h1))).trans (u7 y h1)
  have G7 : ∀ y, t + 35 ≤ y → y < t + 68 → g14.2 y = w7.2 y := fun y h1 h2 => (F8 y h2 (Nat.ne_of_gt (Nat.lt_of_lt_of_le (Nat.lt_add_of_pos_right (by decide)) h1))).trans (u8 y h1)
  have G8 : ∀ y, t + 68 ≤ y → y < t + 84 → g14.2 y = w8.2 y := fun y h1 h2 => (F9 y h2 (Nat.ne_of_gt (Nat.lt_of_lt_of_le (Nat.lt_add_of_pos_right (by decide)) h1))).trans (u9 y h1)
  have G9 : ∀ y, t + 84 ≤ y → y < t + 88 → g14.2 y = w9.2 y := fun y h1 h2 => (F10 y h2 (Nat.ne_of_gt (Nat.lt_of_lt_of_le (Nat.lt_add_of_pos_right (by decide)) h1))).trans (u10 y h1)
  have G10 : ∀ y, t + 88 ≤ y → y < t + 90 → g14.2 y = w10.2 y := fun y h1 h2 => (F11 y h2 (Nat.ne_of_gt (Nat.lt_of_lt_of_le (Nat.lt_add_of_pos_right (by decide)) h1))).trans (u11 y h1)
  have G11 : ∀ y, t + 90 ≤ y → y < t + 101 → g14.2 y = w11.2 y := fun y h1 h2 => (F12 y h2 (Nat.ne_of_gt (Nat.lt_of_lt_of_le (Nat.lt_add_of_pos_right (by decide)) h1))).trans (u12 y h1)
  obtain ⟨T1, hT1, sT1⟩ := p1
  obtain ⟨T2, hT2, sT2⟩ := p2
  obtain ⟨T3, hT3, sT3⟩ := p3
  refine ⟨g14, rfl, by rw [s14], fun y hy => (F0 y (Nat.lt_succ_of_lt hy) (Nat.ne_of_lt hy)).trans (f0 y hy), ⟨?_, ?_, ?_, ?_⟩, ⟨?_, ?_, ?_, ?_⟩, ⟨?_, ?_, ?_⟩, ⟨?_, ?_⟩, ⟨?_, ?_⟩, ?_, ⟨?_, ?_, ?_⟩, ?_, ?_⟩
  · exact o14
  · exact ⟨T1, sta_fr hT1 F1 (by decide) (by decide), sT1⟩
  · exact ⟨T2, sta_fr hT2 F2 (by decide) (by decide)⟩
  · exact ⟨T3, sta_fr hT3 F3 (by decide) (by decide)⟩
  · exact cel_fr p4 F4 (by decide) (by decide)
  · exact g_his q4_0 G4 (by decide) (by decide)
  · exact cel_fr p6 F6 (by decide) (by decide)
  · exact g_spo q6_0 G6 (by decide) (by decide)
  · exact gcel q7_0 G7 (by decide) (by decide)
  · exact g_tsh q7_1 G7 (by decide) (by decide)
  · exact g_tx q7_2 G7 (by decide) (by decide)
  · exact g_zb q8_0 G8 (by decide) (by decide)
  · exact gcel (p := 83) q8_1 G8 (by decide) (by decide)
  · exact gcel q9_0 G9 (by decide) (by decide)
  · exact g_sh (p := 85) q9_1 G9 (by decide) (by decide)
  · exact g_txt q10_0 G10 (by decide) (by decide)
  · exact gcel q11_0 G11 (by decide) (by decide)
  · obtain ⟨S, hS⟩ := q11_1
    exact ⟨S, g_sta (p := 91) hS G11 (by decide) (by decide)⟩
  · exact gcel (p := 100) q11_2 G11 (by decide) (by decide)
  · exact cel_fr p13 F13 (by decide) (by decide)
  · exact cel_fr p14 F14 (by decide) (by decide)
