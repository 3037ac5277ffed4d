/-! the constructors -/
theorem hnw_e {h : jx_H} {c : Nat} {fs : List Value} : hnw h c fs = some (hno h c fs) := rfl
theorem hna_t {h : jx_H} {ty : FieldType} {n : Nat} (hn : n ≤ 100000) : hna h ty (nI n) = some (h.1 + 1, jx_up h.2 h.1 (.inl (ty, n, .inl (fun _ => 0)))) := by
  unfold hna
  rw [nI_clamp (by omega), if_neg]
  intro z
  rcases z with z | z
  · rw [n0, nI_lt0 (by omega)] at z; exact z
  · omega
theorem hnq_t {h : jx_H} {C : String} {n : Nat} (hn : n ≤ 100000) : hnq h C (nI n) = some (h.1 + 1, jx_up h.2 h.1 (.inl (.object C, n, .inr (.inr (.inr (.inr (fun _ => none))))))) := by
  unfold hnq
  rw [nI_clamp (by omega), if_neg]
  intro z
  rcases z with z | z
  · rw [n0, nI_lt0 (by omega)] at z; exact z
  · omega
section
variable {g : jx_H} {t ci i n : Nat} {fs : List Value}
theorem st_set (v : Value) (o : g.2 t = some (.inr (ci, fs))) (hn : g.1 = n) (hi : i < fs.length) : ∃ g', (∀ {β : Type} (K : jx_H → Option β), ((hp g t ci i v).bind K) = K g') ∧ g'.1 = n ∧ (∀ y, y < n → y ≠ t → g'.2 y = g.2 y) ∧ g'.2 t = some (.inr (ci, fs.set i v)) := by
  refine ⟨(g.1, jx_up g.2 t (.inr (ci, fs.set i v))), fun K => by rw [hp_ob o hi, gx_bs], hn, fun y _ h => up_o h, up_s⟩
theorem st_arr {k : Nat} {x : Int32} (ty : FieldType) (hx : x = nI k) (hk : k ≤ 100000) (o : g.2 t = some (.inr (ci, fs))) (hn : g.1 = n) (ht : t < n) (hi : i < fs.length) : ∃ g', (∀ {β : Type} (K : jx_H → Option β), ((hna g ty x).bind fun h1 => (hp h1 t ci i (.ref g.1)).bind K) = K g') ∧ g'.1 = n + 1 ∧ (∀ y, y < n → y ≠ t → g'.2 y = g.2 y) ∧ g'.2 t = some (.inr (ci, fs.set i (.ref n))) ∧ g'.2 n = some (.inl (ty, k, .inl (fun _ => 0))) := by
  subst hn
  have o1 : ((g.1 + 1, jx_up g.2 g.1 (.inl (ty, k, .inl (fun _ => 0)))) : jx_H).2 t = some (.inr (ci, fs)) := by show jx_up g.2 g.1 _ t = _; rw [up_o (by omega)]; exact o
  refine ⟨(g.1 + 1, jx_up (jx_up g.2 g.1 (.inl (ty, k, .inl (fun _ => 0)))) t (.inr (ci, fs.set i (.ref g.1)))), fun K => by rw [hx, hna_t hk, gx_bs, hp_ob o1 hi, gx_bs], rfl, fun y h1 h2 => ?_, up_s, ?_⟩
  · show jx_up (jx_up g.2 g.1 _) t _ y = _
    rw [up_o h2, up_o (by omega)]
  · show jx_up (jx_up g.2 g.1 _) t _ g.1 = _
    rw [up_o (by omega), up_s]
theorem st_ary {k : Nat} {x : Int32} (C : String) (hx : x = nI k) (hk : k ≤ 100000) (o : g.2 t = some (.inr (ci, fs))) (hn : g.1 = n) (ht : t < n) (hi : i < fs.length) : ∃ g', (∀ {β : Type} (K : jx_H → Option β), ((hnq g C x).bind fun h1 => (hp h1 t ci i (.ref g.1)).bind K) = K g') ∧ g'.1 = n + 1 ∧ (∀ y, y < n → y ≠ t → g'.2 y = g.2 y) ∧ g'.2 t = some (.inr (ci, fs.set i (.ref n))) ∧ g'.2 n = some (.inl (.object C, k, .inr (.inr (.inr (.inr (fun _ => none)))))) := by
  subst hn
  have o1 : ((g.1 + 1, jx_up g.2 g.1 (.inl (.object C, k, .inr (.inr (.inr (.inr (fun _ => none))))))) : jx_H).2 t = some (.inr (ci, fs)) := by show jx_up g.2 g.1 _ t = _; rw [up_o (by omega)]; exact o
  refine ⟨(g.1 + 1, jx_up (jx_up g.2 g.1 (.inl (.object C, k, .inr (.inr (.inr (.inr (fun _ => none))))))) t (.inr (ci, fs.set i (.ref g.1)))), fun K => by rw [hx, hnq_t hk, gx_bs, hp_ob o1 hi, gx_bs], rfl, fun y h1 h2 => ?_, up_s, ?_⟩
  · show jx_up (jx_up g.2 g.1 _) t _ y = _
    rw [up_o h2, up_o (by omega)]
  · show jx_up (jx_up g.2 g.1 _) t _ g.1 = _
    rw [up_o (by omega), up_s]
theorem st_mat {H W N1 N2 : Nat} {x y : Int32} (hx : x = nI H) (hy : y = nI W) (z : SZ H W) (h1 : H * W ≤ N1) (h2 : H ≤ N2) (o : g.2 t = some (.inr (ci, fs))) (hn : g.1 = n) (ht : t < n) (hi : i < fs.length) : ∃ g', (∀ {β : Type} (K : jx_H → Option β), ((hnw g 2 fsX2).bind fun h1 => (FX2_init N1 N2 g.1 x y h1).bind fun h2 => (hp h2 t ci i (.ref g.1)).bind K) = K g') ∧ g'.1 = n + 3 ∧ (∀ y, y < n → y ≠ t → g'.2 y = g.2 y) ∧ g'.2 t = some (.inr (ci, fs.set i (.ref n))) ∧ SH g' n H W := by
  subst hn
  obtain ⟨g1, k1, k2, k3, k4⟩ := x_new (h := g) (N1 := N1) (N2 := N2) z h1 h2
  have o1 : g1.2 t = some (.inr (ci, fs)) := by rw [k3 t (Or.inl ht)]; exact o
  refine ⟨(g1.1, jx_up g1.2 t (.inr (ci, fs.set i (.ref g.1)))), fun K => by rw [hnw_e, gx_bs, hx, hy, k1, gx_bs, hp_ob o1 hi, gx_bs], k2, fun y h1 h2 => ?_, up_s, k4.same fun y y1 _ => up_o (by omega)⟩
  show jx_up g1.2 t _ y = _
  rw [up_o h2, k3 y (Or.inl h1)]
theorem st_sta (o : g.2 t = some (.inr (ci, fs))) (hn : g.1 = n) (ht : t < n) (hi : i < fs.length) : ∃ g', (∀ {β : Type} (K : jx_H → Option β), ((hnw g 5 fsX5).bind fun h1 => (FX5_init g.1 h1).bind fun h2 => (hp h2 t ci i (.ref g.1)).bind K) = K g') ∧ g'.1 = n + 9 ∧ (∀ y, y < n → y ≠ t → g'.2 y = g.2 y) ∧ g'.2 t = some (.inr (ci, fs.set i (.ref n))) ∧ ∃ T, bH sK g' n T ∧ ST T 31 ht0 (fun _ _ => 0) [] := by
  subst hn
  obtain ⟨T, k1, k2⟩ := s_new (h := g)
  have o1 : (bput sK (g.1 + 9, g.2) g.1 T).2 t = some (.inr (ci, fs)) := by rw [bp_else (K := sK) (Or.inl ht)]; exact o
  refine ⟨((bput sK (g.1 + 9, g.2) g.1 T).1, jx_up (bput sK (g.1 + 9, g.2) g.1 T).2 t (.inr (ci, fs.set i (.ref g.1)))), fun K => by rw [hnw_e, gx_bs, k1, gx_bs, hp_ob o1 hi, gx_bs], rfl, fun y h1 h2 => ?_, up_s, T, (bH.put (K := sK) (h := (g.1 + 9, g.2)) (q := g.1) (S := T)).same fun y y1 _ => up_o (by omega), k2⟩
  show jx_up _ t _ y = _
  rw [up_o h2, bp_else (K := sK) (Or.inl h1)]
theorem st_obj {g1 : jx_H} {c k : Nat} {fs' : List Value} (F : Nat → jx_H → Option jx_H) (hF : F g.1 (hno g c fs') = some g1) (s : g1.1 = g.1 + k) (f : ∀ y, y < g.1 → g1.2 y = g.2 y) (o : g.2 t = some (.inr (ci, fs))) (hn : g.1 = n) (ht : t < n) (hi : i < fs.length) : ∃ g', (∀ {β : Type} (K : jx_H → Option β), ((F g.1 (hno g c fs')).bind fun h2 => (hp h2 t ci i (.ref g.1)).bind K) = K g') ∧ g'.1 = n + k ∧ (∀ y, y < n → y ≠ t → g'.2 y = g.2 y) ∧ g'.2 t = some (.inr (ci, fs.set i (.ref n))) ∧ ∀ y, n ≤ y → g'.2 y = g1.2 y := by
  subst hn
  have o1 : g1.2 t = some (.inr (ci, fs)) := by rw [f t ht]; exact o
  refine ⟨(g1.1, jx_up g1.2 t (.inr (ci, fs.set i (.ref g.1)))), fun K => by rw [hF, gx_bs, hp_ob o1 hi, gx_bs], s, fun y h1 h2 => ?_, up_s, fun y hy => up_o (by omega)⟩
  show jx_up g1.2 t _ y = _
  rw [up_o h2, f y h1]
theorem st_has {ty : FieldType} {a N k : Nat} {f : Nat → Int32} {j : Int32} (x : Int32) (hj : j = nI k) (e : g.2 a = some (.inl (ty, N, .inl f))) (hk : k < N) (hN : N < 2 ^ 31) : ∃ g', (∀ {β : Type} (K : jx_H → Option β), ((has g ty a j x).bind K) = K g') ∧ g'.1 = g.1 ∧ (∀ y, y ≠ a → g'.2 y = g.2 y) ∧ g'.2 a = some (.inl (ty, N, .inl (upd f k x))) := by
  refine ⟨(g.1, jx_up g.2 a (.inl (ty, N, .inl (upd f k x)))), fun K => ?_, rfl, fun y h => up_o h, up_s⟩
  have q : has g ty a j x = some (g.1, jx_up g.2 a (.inl (ty, N, .inl (upd f k x)))) := by
    unfold has
    rw [e, hj]
    show (if _ ∧ _ then some (g.1, jx_up g.2 a (.inl (ty, N, .inl (upd f (nI k).toNatClampNeg x)))) else none) = _
    rw [if_pos ⟨rfl, nI_in hk hN⟩, nI_clamp (by omega)]
  rw [q, gx_bs]
theorem fr_tr {N N' : Nat} {g g1 gF : jx_H} (F : ∀ y, y < t + N' → y ≠ t → gF.2 y = g1.2 y) (f : ∀ y, y < t + N → y ≠ t → g1.2 y = g.2 y) (h : N ≤ N') : ∀ y, y < t + N → y ≠ t → gF.2 y = g.2 y := fun y h1 h2 => (F y (by omega) h2).trans (f y h1 h2)
theorem SH.fr2 {N p H W : Nat} {g gF : jx_H} (S : SH g (t + p) H W) (F : ∀ y, y < t + N → y ≠ t → gF.2 y = g.2 y) (h : p + 2 < N) (h0 : 0 < p) : SH gF (t + p) H W := S.same fun y y1 y2 => F y (by omega) (by omega)
theorem cel_fr {N p : Nat} {g gF : jx_H} {x : Option jx_E} (e : g.2 (t + p) = x) (F : ∀ y, y < t + N → y ≠ t → gF.2 y = g.2 y) (h : p < N) (h0 : 0 < p) : gF.2 (t + p) = x := (F _ (by omega) (by omega)).trans e
end
theorem n_tab {g : jx_H} {st : Nat} : ∃ g', FX6_init g.1 st (hno g 6 fsX6) = some g' ∧ g'.1 = g.1 + 33 ∧ (∀ y, y < g.1 → g'.2 y = g.2 y) ∧ TO g' g.1 st (nI 0) 0 0 0 ∧ TSH g' g.1 ∧ TX g' g.1 := by
  obtain ⟨g0, hg0⟩ : ∃ g0, g0 = hno g 6 fsX6 := ⟨_, rfl⟩
  have s0 : g0.1 = g.1 + 1 := by rw [hg0]; rfl
  have o0 : g0.2 g.1 = some (.inr (6, fsX6)) := by rw [hg0]; exact up_s
  have f0 : ∀ y, y < g.1 → g0.2 y = g.2 y := fun y hy => by rw [hg0]; exact up_o (by omega)
  rw [← hg0]
  generalize g.1 = t at *
  unfold FX6_init
  obtain ⟨g1, e1, s1, f1, o1, p1⟩ := st_mat (g := g0) (t := t) (ci := 6) (i := 1) (n := t + 1) (H := 12) (W := 12) (N1 := 144) (N2 := 12) (x := 12) (y := 12) n12 n12 z1212 (by decide) (by decide) o0 (by omega) (by omega) (Nat.le_of_ble_eq_true rfl)
  rw [e1]
  replace o1 : g1.2 t = some (.inr (6, [.null, .ref (t + 1), .null, .null, .null, .null, .null, .null, .null, .null, .null, .null, .null, .int 0, .int 0, .int 0, .int 0])) := o1
  obtain ⟨g2, e2, s2, f2, o2, p2⟩ := st_mat (g := g1) (t := t) (ci := 6) (i := 2) (n := t + 4) (H := 12) (W := 12) (N1 := 144) (N2 := 12) (x := 12) (y := 12) n12 n12 z1212 (by decide) (by decide) o1 (by omega) (by omega) (Nat.le_of_ble_eq_true rfl)
  rw [e2]
  replace o2 : g2.2 t = some (.inr (6, [.null, .ref (t + 1), .ref (t + 4), .null, .null, .null, .null, .null, .null, .null, .null, .null, .null, .int 0, .int 0, .int 0, .int 0])) := o2
  obtain ⟨g3, e3, s3, f3, o3, p3⟩ := st_mat (g := g2) (t := t) (ci := 6) (i := 3) (n := t + 7) (H := 12) (W := 12) (N1 := 144) (N2 := 12) (x := 12) (y := 12) n12 n12 z1212 (by decide) (by decide) o2 (by omega) (by omega) (Nat.le_of_ble_eq_true rfl)
  rw [e3]
  replace o3 : g3.2 t = some (.inr (6, [.null, .ref (t + 1), .ref (t + 4), .ref (t + 7), .null, .null, .null, .null, .null, .null, .null, .null, .null, .int 0, .int 0, .int 0, .int 0])) := o3
  obtain ⟨g4, e4, s4, f4, o4, p4⟩ := st_mat (g := g3) (t := t) (ci := 6) (i := 4) (n := t + 10) (H := 12) (W := 12) (N1 := 144) (N2 := 12) (x := 12) (y := 12) n12 n12 z1212 (by decide) (by decide) o3 (by omega) (by omega) (Nat.le_of_ble_eq_true rfl)
  rw [e4]
  replace o4 : g4.2 t = some (.inr (6, [.null, .ref (t + 1), .ref (t + 4), .ref (t + 7), .ref (t + 10), .null, .null, .null, .null, .null, .null, .null, .null, .int 0, .int 0, .int 0, .int 0])) := o4
  obtain ⟨g5, e5, s5, f5, o5, p5⟩ := st_mat (g := g4) (t := t) (ci := 6) (i := 5) (n := t + 13) (H := 12) (W := 12) (N1 := 144) (N2 := 12) (x := 12) (y := 12) n12 n12 z1212 (by decide) (by decide) o4 (by omega) (by omega) (Nat.le_of_ble_eq_true rfl)
  rw [e5]
  replace o5 : g5.2 t = some (.inr (6, [.null, .ref (t + 1), .ref (t + 4), .ref (t + 7), .ref (t + 10), .ref (t + 13), .null, .null, .null, .null, .null, .null, .null, .int 0, .int 0, .int 0, .int 0])) := o5
  obtain ⟨g6, e6, s6, f6, o6, p6⟩ := st_mat (g := g5) (t := t) (ci := 6) (i := 6) (n := t + 16) (H := 12) (W := 12) (N1 := 144) (N2 := 12) (x := 12) (y := 12) n12 n12 z1212 (by decide) (by decide) o5 (by omega) (by omega) (Nat.le_of_ble_eq_true rfl)
  rw [e6]
  replace o6 : g6.2 t = some (.inr (6, [.null, .ref (t + 1), .ref (t + 4), .ref (t + 7), .ref (t + 10), .ref (t + 13), .ref (t + 16), .null, .null, .null, .null, .null, .null, .int 0, .int 0, .int 0, .int 0])) := o6
  obtain ⟨g7, e7, s7, f7, o7, p7⟩ := st_mat (g := g6) (t := t) (ci := 6) (i := 7) (n := t + 19) (H := 12) (W := 12) (N1 := 144) (N2 := 12) (x := 12) (y := 12) n12 n12 z1212 (by decide) (by decide) o6 (by omega) (by omega) (Nat.le_of_ble_eq_true rfl)
  rw [e7]
  replace o7 : g7.2 t = some (.inr (6, [.null, .ref (t + 1), .ref (t + 4), .ref (t + 7), .ref (t + 10), .ref (t + 13), .ref (t + 16), .ref (t + 19), .null, .null, .null, .null, .null, .int 0, .int 0, .int 0, .int 0])) := o7
  obtain ⟨g8, e8, s8, f8, o8, p8⟩ := st_mat (g := g7) (t := t) (ci := 6) (i := 8) (n := t + 22) (H := 12) (W := 12) (N1 := 144) (N2 := 12) (x := 12) (y := 12) n12 n12 z1212 (by decide) (by decide) o7 (by omega) (by omega) (Nat.le_of_ble_eq_true rfl)
  rw [e8]
  replace o8 : g8.2 t = some (.inr (6, [.null, .ref (t + 1), .ref (t + 4), .ref (t + 7), .ref (t + 10), .ref (t + 13), .ref (t + 16), .ref (t + 19), .ref (t + 22), .null, .null, .null, .null, .int 0, .int 0, .int 0, .int 0])) := o8
  obtain ⟨g9, e9, s9, f9, o9, p9⟩ := st_mat (g := g8) (t := t) (ci := 6) (i := 9) (n := t + 25) (H := 12) (W := 13) (N1 := 156) (N2 := 12) (x := 12) (y := 13) n12 n13 z1213 (by decide) (by decide) o8 (by omega) (by omega) (Nat.le_of_ble_eq_true rfl)
  rw [e9]
  replace o9 : g9.2 t = some (.inr (6, [.null, .ref (t + 1), .ref (t + 4), .ref (t + 7), .ref (t + 10), .ref (t + 13), .ref (t + 16), .ref (t + 19), .ref (t + 22), .ref (t + 25), .null, .null, .null, .int 0, .int 0, .int 0, .int 0])) := o9
  obtain ⟨g10, e10, s10, f10, o10, p10⟩ := st_arr (g := g9) (t := t) (ci := 6) (i := 10) (n := t + 28) (k := 12) (x := 12) .int n12 (by omega) o9 (by omega) (by omega) (Nat.le_of_ble_eq_true rfl)
  rw [e10]
  replace o10 : g10.2 t = some (.inr (6, [.null, .ref (t + 1), .ref (t + 4), .ref (t + 7), .ref (t + 10), .ref (t + 13), .ref (t + 16), .ref (t + 19), .ref (t + 22), .ref (t + 25), .ref (t + 28), .null, .null, .int 0, .int 0, .int 0, .int 0])) := o10
  obtain ⟨g11, e11, s11, f11, o11, p11⟩ := st_arr (g := g10) (t := t) (ci := 6) (i := 11) (n := t + 29) (k := 12) (x := 12) .int n12 (by omega) o10 (by omega) (by omega) (Nat.le_of_ble_eq_true rfl)
  rw [e11]
  replace o11 : g11.2 t = some (.inr (6, [.null, .ref (t + 1), .ref (t + 4), .ref (t + 7), .ref (t + 10), .ref (t + 13), .ref (t + 16), .ref (t + 19), .ref (t + 22), .ref (t + 25), .ref (t + 28), .ref (t + 29), .null, .int 0, .int 0, .int 0, .int 0])) := o11
  obtain ⟨g12, e12, s12, f12, o12, p12⟩ := st_mat (g := g11) (t := t) (ci := 6) (i := 12) (n := t + 30) (H := 21) (W := 12) (N1 := 252) (N2 := 21) (x := 21) (y := 12) n21 n12 ⟨by omega, by omega, by omega⟩ (by decide) (by decide) o11 (by omega) (by omega) (Nat.le_of_ble_eq_true rfl)
  rw [e12]
  replace o12 : g12.2 t = some (.inr (6, [.null, .ref (t + 1), .ref (t + 4), .ref (t + 7), .ref (t + 10), .ref (t + 13), .ref (t + 16), .ref (t + 19), .ref (t + 22), .ref (t + 25), .ref (t + 28), .ref (t + 29), .ref (t + 30), .int 0, .int 0, .int 0, .int 0])) := o12
  obtain ⟨g13, e13, s13, f13, o13⟩ := st_set (g := g12) (t := t) (ci := 6) (i := 0) (n := t + 33) (.ref st) o12 (by omega) (Nat.le_of_ble_eq_true rfl)
  rw [e13]
  replace o13 : g13.2 t = some (.inr (6, [.ref st, .ref (t + 1), .ref (t + 4), .ref (t + 7), .ref (t + 10), .ref (t + 13), .ref (t + 16), .ref (t + 19), .ref (t + 22), .ref (t + 25), .ref (t + 28), .ref (t + 29), .ref (t + 30), .int 0, .int 0, .int 0, .int 0])) := o13
  have F13 : ∀ y, y < t + 33 → y ≠ t → g13.2 y = g13.2 y := fun _ _ _ => rfl
  have F12 : ∀ y, y < t + 33 → y ≠ t → g13.2 y = g12.2 y := fr_tr F13 f13 (by decide)
  have F11 : ∀ y, y < t + 30 → y ≠ t → g13.2 y = g11.2 y := fr_tr F12 f12 (by decide)
  have F10 : ∀ y, y < t + 29 → y ≠ t → g13.2 y = g10.2 y := fr_tr F11 f11 (by decide)
  have F9 : ∀ y, y < t + 28 → y ≠ t → g13.2 y = g9.2 y := fr_tr F10 f10 (by decide)
  have F8 : ∀ y, y < t + 25 → y ≠ t → g13.2 y = g8.2 y := fr_tr F9 f9 (by decide)
  have F7 : ∀ y, y < t + 22 → y ≠ t → g13.2 y = g7.2 y := fr_tr F8 f8 (by decide)
  have F6 : ∀ y, y < t + 19 → y ≠ t → g13.2 y = g6.2 y := fr_tr F7 f7 (by decide)
  have F5 : ∀ y, y < t + 16 → y ≠ t → g13.2 y = g5.2 y := fr_tr F6 f6 (by decide)
  have F4 : ∀ y, y < t + 13 → y ≠ t → g13.2 y = g4.2 y := fr_tr F5 f5 (by decide)
  have F3 : ∀ y, y < t + 10 → y ≠ t → g13.2 y = g3.2 y := fr_tr F4 f4 (by decide)
  have F2 : ∀ y, y < t + 7 → y ≠ t → g13.2 y = g2.2 y := fr_tr F3 f3 (by decide)
  have F1 : ∀ y, y < t + 4 → y ≠ t → g13.2 y = g1.2 y := fr_tr F2 f2 (by decide)
  have F0 : ∀ y, y < t + 1 → y ≠ t → g13.2 y = g0.2 y := fr_tr F1 f1 (by decide)
  refine ⟨g13, rfl, by omega, fun y hy => (F0 y (by omega) (by omega)).trans (f0 y hy), ?_, ⟨p1.fr2 F1 (by decide) (by decide), p2.fr2 F2 (by decide) (by decide), p3.fr2 F3 (by decide) (by decide), p4.fr2 F4 (by decide) (by decide), p5.fr2 F5 (by decide) (by decide), p6.fr2 F6 (by decide) (by decide), p7.fr2 F7 (by decide) (by decide), p8.fr2 F8 (by decide) (by decide)⟩, ⟨p9.fr2 F9 (by decide) (by decide), ⟨_, cel_fr p10 F10 (by decide) (by decide)⟩, ⟨_, cel_fr p11 F11 (by decide) (by decide)⟩, p12.fr2 F12 (by decide) (by decide)⟩⟩
  show g13.2 t = some (.inr (6, taO t st (nI 0) 0 0 0))
  rw [o13, ← n0]
  rfl
theorem n_zer {g : jx_H} {st tt sp : Nat} : ∃ g', FX8_init g.1 st tt sp (hno g 8 fsX8) = some g' ∧ g'.1 = g.1 + 16 ∧ (∀ y, y < g.1 → g'.2 y = g.2 y) ∧ (∃ za zb zm, ZB g' g.1 st tt sp (nI 0) 0 m1 za zb zm) ∧ g'.2 (g.1 + 15) = some (qm 12 (fun _ => none)) := by
  obtain ⟨g0, hg0⟩ : ∃ g0, g0 = hno g 8 fsX8 := ⟨_, rfl⟩
  have s0 : g0.1 = g.1 + 1 := by rw [hg0]; rfl
  have o0 : g0.2 g.1 = some (.inr (8, fsX8)) := by rw [hg0]; exact up_s
  have f0 : ∀ y, y < g.1 → g0.2 y = g.2 y := fun y hy => by rw [hg0]; exact up_o (by omega)
  rw [← hg0]
  generalize g.1 = t at *
  unfold FX8_init
  obtain ⟨g1, e1, s1, f1, o1, p1⟩ := st_arr (g := g0) (t := t) (ci := 8) (i := 3) (n := t + 1) (k := 97) (x := 97) .boolean n97 (by omega) o0 (by omega) (by omega) (Nat.le_of_ble_eq_true rfl)
  rw [e1]
  replace o1 : g1.2 t = some (.inr (8, [.null, .null, .null, .ref (t + 1), .null, .null, .null, .null, .null, .null, .null, .null, .int 0, .int 0, .int 0])) := o1
  obtain ⟨g2, e2, s2, f2, o2, p2⟩ := st_arr (g := g1) (t := t) (ci := 8) (i := 4) (n := t + 2) (k := 97) (x := 97) .boolean n97 (by omega) o1 (by omega) (by omega) (Nat.le_of_ble_eq_true rfl)
  rw [e2]
  replace o2 : g2.2 t = some (.inr (8, [.null, .null, .null, .ref (t + 1), .ref (t + 2), .null, .null, .null, .null, .null, .null, .null, .int 0, .int 0, .int 0])) := o2
  obtain ⟨g3, e3, s3, f3, o3, p3⟩ := st_arr (g := g2) (t := t) (ci := 8) (i := 5) (n := t + 3) (k := 12) (x := 12) .int n12 (by omega) o2 (by omega) (by omega) (Nat.le_of_ble_eq_true rfl)
  rw [e3]
  replace o3 : g3.2 t = some (.inr (8, [.null, .null, .null, .ref (t + 1), .ref (t + 2), .ref (t + 3), .null, .null, .null, .null, .null, .null, .int 0, .int 0, .int 0])) := o3
  obtain ⟨g4, e4, s4, f4, o4, p4⟩ := st_arr (g := g3) (t := t) (ci := 8) (i := 6) (n := t + 4) (k := 12) (x := 12) .int n12 (by omega) o3 (by omega) (by omega) (Nat.le_of_ble_eq_true rfl)
  rw [e4]
  replace o4 : g4.2 t = some (.inr (8, [.null, .null, .null, .ref (t + 1), .ref (t + 2), .ref (t + 3), .ref (t + 4), .null, .null, .null, .null, .null, .int 0, .int 0, .int 0])) := o4
  obtain ⟨g5, e5, s5, f5, o5, p5⟩ := st_arr (g := g4) (t := t) (ci := 8) (i := 7) (n := t + 5) (k := 12) (x := 12) .int n12 (by omega) o4 (by omega) (by omega) (Nat.le_of_ble_eq_true rfl)
  rw [e5]
  replace o5 : g5.2 t = some (.inr (8, [.null, .null, .null, .ref (t + 1), .ref (t + 2), .ref (t + 3), .ref (t + 4), .ref (t + 5), .null, .null, .null, .null, .int 0, .int 0, .int 0])) := o5
  obtain ⟨g6, e6, s6, f6, o6, p6⟩ := st_mat (g := g5) (t := t) (ci := 8) (i := 8) (n := t + 6) (H := 12) (W := 12) (N1 := 144) (N2 := 12) (x := 12) (y := 12) n12 n12 z1212 (by decide) (by decide) o5 (by omega) (by omega) (Nat.le_of_ble_eq_true rfl)
  rw [e6]
  replace o6 : g6.2 t = some (.inr (8, [.null, .null, .null, .ref (t + 1), .ref (t + 2), .ref (t + 3), .ref (t + 4), .ref (t + 5), .ref (t + 6), .null, .null, .null, .int 0, .int 0, .int 0])) := o6
  obtain ⟨g7, e7, s7, f7, o7, p7⟩ := st_mat (g := g6) (t := t) (ci := 8) (i := 9) (n := t + 9) (H := 24) (W := 12) (N1 := 288) (N2 := 24) (x := 24) (y := 12) (by decide +kernel) n12 z2412 (by decide) (by decide) o6 (by omega) (by omega) (Nat.le_of_ble_eq_true rfl)
  rw [e7]
  replace o7 : g7.2 t = some (.inr (8, [.null, .null, .null, .ref (t + 1), .ref (t + 2), .ref (t + 3), .ref (t + 4), .ref (t + 5), .ref (t + 6), .ref (t + 9), .null, .null, .int 0, .int 0, .int 0])) := o7
  obtain ⟨g8, e8, s8, f8, o8, p8⟩ := st_mat (g := g7) (t := t) (ci := 8) (i := 10) (n := t + 12) (H := 12) (W := 12) (N1 := 144) (N2 := 12) (x := 12) (y := 12) n12 n12 z1212 (by decide) (by decide) o7 (by omega) (by omega) (Nat.le_of_ble_eq_true rfl)
  rw [e8]
  replace o8 : g8.2 t = some (.inr (8, [.null, .null, .null, .ref (t + 1), .ref (t + 2), .ref (t + 3), .ref (t + 4), .ref (t + 5), .ref (t + 6), .ref (t + 9), .ref (t + 12), .null, .int 0, .int 0, .int 0])) := o8
  obtain ⟨g9, e9, s9, f9, o9, p9⟩ := st_ary (g := g8) (t := t) (ci := 8) (i := 11) (n := t + 15) (k := 12) (x := 12) "BorderBasis$Matrix" n12 (by omega) o8 (by omega) (by omega) (Nat.le_of_ble_eq_true rfl)
  rw [e9]
  replace o9 : g9.2 t = some (.inr (8, [.null, .null, .null, .ref (t + 1), .ref (t + 2), .ref (t + 3), .ref (t + 4), .ref (t + 5), .ref (t + 6), .ref (t + 9), .ref (t + 12), .ref (t + 15), .int 0, .int 0, .int 0])) := o9
  obtain ⟨g10, e10, s10, f10, o10⟩ := st_set (g := g9) (t := t) (ci := 8) (i := 14) (n := t + 16) (.int (-1 : Int32)) o9 (by omega) (Nat.le_of_ble_eq_true rfl)
  rw [e10]
  replace o10 : g10.2 t = some (.inr (8, [.null, .null, .null, .ref (t + 1), .ref (t + 2), .ref (t + 3), .ref (t + 4), .ref (t + 5), .ref (t + 6), .ref (t + 9), .ref (t + 12), .ref (t + 15), .int 0, .int 0, .int (-1 : Int32)])) := o10
  obtain ⟨g11, e11, s11, f11, o11⟩ := st_set (g := g10) (t := t) (ci := 8) (i := 0) (n := t + 16) (.ref st) o10 (by omega) (Nat.le_of_ble_eq_true rfl)
  rw [e11]
  replace o11 : g11.2 t = some (.inr (8, [.ref st, .null, .null, .ref (t + 1), .ref (t + 2), .ref (t + 3), .ref (t + 4), .ref (t + 5), .ref (t + 6), .ref (t + 9), .ref (t + 12), .ref (t + 15), .int 0, .int 0, .int (-1 : Int32)])) := o11
  obtain ⟨g12, e12, s12, f12, o12⟩ := st_set (g := g11) (t := t) (ci := 8) (i := 1) (n := t + 16) (.ref tt) o11 (by omega) (Nat.le_of_ble_eq_true rfl)
  rw [e12]
  replace o12 : g12.2 t = some (.inr (8, [.ref st, .ref tt, .null, .ref (t + 1), .ref (t + 2), .ref (t + 3), .ref (t + 4), .ref (t + 5), .ref (t + 6), .ref (t + 9), .ref (t + 12), .ref (t + 15), .int 0, .int 0, .int (-1 : Int32)])) := o12
  obtain ⟨g13, e13, s13, f13, o13⟩ := st_set (g := g12) (t := t) (ci := 8) (i := 2) (n := t + 16) (.ref sp) o12 (by omega) (Nat.le_of_ble_eq_true rfl)
  rw [e13]
  replace o13 : g13.2 t = some (.inr (8, [.ref st, .ref tt, .ref sp, .ref (t + 1), .ref (t + 2), .ref (t + 3), .ref (t + 4), .ref (t + 5), .ref (t + 6), .ref (t + 9), .ref (t + 12), .ref (t + 15), .int 0, .int 0, .int (-1 : Int32)])) := o13
  have F13 : ∀ y, y < t + 16 → y ≠ t → g13.2 y = g13.2 y := fun _ _ _ => rfl
  have F12 : ∀ y, y < t + 16 → y ≠ t → g13.2 y = g12.2 y := fr_tr F13 f13 (by decide)
  have F11 : ∀ y, y < t + 16 → y ≠ t → g13.2 y = g11.2 y := fr_tr F12 f12 (by decide)
  have F10 : ∀ y, y < t + 16 → y ≠ t → g13.2 y = g10.2 y := fr_tr F11 f11 (by decide)
  have F9 : ∀ y, y < t + 16 → y ≠ t → g13.2 y = g9.2 y := fr_tr F10 f10 (by decide)
  have F8 : ∀ y, y < t + 15 → y ≠ t → g13.2 y = g8.2 y := fr_tr F9 f9 (by decide)
  have F7 : ∀ y, y < t + 12 → y ≠ t → g13.2 y = g7.2 y := fr_tr F8 f8 (by decide)
  have F6 : ∀ y, y < t + 9 → y ≠ t → g13.2 y = g6.2 y := fr_tr F7 f7 (by decide)
  have F5 : ∀ y, y < t + 6 → y ≠ t → g13.2 y = g5.2 y := fr_tr F6 f6 (by decide)
  have F4 : ∀ y, y < t + 5 → y ≠ t → g13.2 y = g4.2 y := fr_tr F5 f5 (by decide)
  have F3 : ∀ y, y < t + 4 → y ≠ t → g13.2 y = g3.2 y := fr_tr F4 f4 (by decide)
  have F2 : ∀ y, y < t + 3 → y ≠ t → g13.2 y = g2.2 y := fr_tr F3 f3 (by decide)
  have F1 : ∀ y, y < t + 2 → y ≠ t → g13.2 y = g1.2 y := fr_tr F2 f2 (by decide)
  have F0 : ∀ y, y < t + 1 → y ≠ t → g13.2 y = g0.2 y := fr_tr F1 f1 (by decide)
  refine ⟨g13, rfl, by omega, fun y hy => (F0 y (by omega) (by omega)).trans (f0 y hy), ⟨_, _, _, ?_, ⟨_, cel_fr p1 F1 (by decide) (by decide)⟩, ⟨_, cel_fr p2 F2 (by decide) (by decide)⟩, cel_fr p3 F3 (by decide) (by decide), cel_fr p4 F4 (by decide) (by decide), cel_fr p5 F5 (by decide) (by decide), p6.fr2 F6 (by decide) (by decide), p7.fr2 F7 (by decide) (by decide), p8.fr2 F8 (by decide) (by decide)⟩, cel_fr p9 F9 (by decide) (by decide)⟩
  show g13.2 t = some (.inr (8, zeO t st tt sp (nI 0) 0 m1))
  rw [o13, ← n0]
  rfl
theorem n_fit {g : jx_H} {sp : Nat} : ∃ g', FX0_init g.1 sp (hno g 0 fsX0) = some g' ∧ g'.1 = g.1 + 4 ∧ (∀ y, y < g.1 → g'.2 y = g.2 y) ∧ FO g' g.1 sp ∧ SH g' (g.1 + 1) 12 91 := by
  obtain ⟨g0, hg0⟩ : ∃ g0, g0 = hno g 0 fsX0 := ⟨_, rfl⟩
  have s0 : g0.1 = g.1 + 1 := by rw [hg0]; rfl
  have o0 : g0.2 g.1 = some (.inr (0, fsX0)) := by rw [hg0]; exact up_s
  have f0 : ∀ y, y < g.1 → g0.2 y = g.2 y := fun y hy => by rw [hg0]; exact up_o (by omega)
  rw [← hg0]
  generalize g.1 = t at *
  unfold FX0_init
  obtain ⟨g1, e1, s1, f1, o1, p1⟩ := st_mat (g := g0) (t := t) (ci := 0) (i := 1) (n := t + 1) (H := 12) (W := 91) (N1 := 1092) (N2 := 12) (x := 12) (y := 91) n12 (by decide +kernel) ⟨by omega, by omega, by omega⟩ (by decide) (by decide) o0 (by omega) (by omega) (Nat.le_of_ble_eq_true rfl)
  rw [e1]
  replace o1 : g1.2 t = some (.inr (0, [.null, .ref (t + 1)])) := o1
  obtain ⟨g2, e2, s2, f2, o2⟩ := st_set (g := g1) (t := t) (ci := 0) (i := 0) (n := t + 4) (.ref sp) o1 (by omega) (Nat.le_of_ble_eq_true rfl)
  rw [e2]
  replace o2 : g2.2 t = some (.inr (0, [.ref sp, .ref (t + 1)])) := o2
  have F2 : ∀ y, y < t + 4 → y ≠ t → g2.2 y = g2.2 y := fun _ _ _ => rfl
  have F1 : ∀ y, y < t + 4 → y ≠ t → g2.2 y = g1.2 y := fr_tr F2 f2 (by decide)
  have F0 : ∀ y, y < t + 1 → y ≠ t → g2.2 y = g0.2 y := fr_tr F1 f1 (by decide)
  refine ⟨g2, rfl, by omega, fun y hy => (F0 y (by omega) (by omega)).trans (f0 y hy), ?_, p1.fr2 F1 (by decide) (by decide)⟩
  show g2.2 t = some (.inr (0, [.ref sp, .ref (t + 1)]))
  rw [o2]
theorem n_txt {g : jx_H} : ∃ g', FX7_init g.1 (hno g 7 fsX7) = some g' ∧ g'.1 = g.1 + 2 ∧ (∀ y, y < g.1 → g'.2 y = g.2 y) ∧ bH tK g' g.1 ms0 := by
  obtain ⟨g0, hg0⟩ : ∃ g0, g0 = hno g 7 fsX7 := ⟨_, rfl⟩
  have s0 : g0.1 = g.1 + 1 := by rw [hg0]; rfl
  have o0 : g0.2 g.1 = some (.inr (7, fsX7)) := by rw [hg0]; exact up_s
  have f0 : ∀ y, y < g.1 → g0.2 y = g.2 y := fun y hy => by rw [hg0]; exact up_o (by omega)
  rw [← hg0]
  generalize g.1 = t at *
  unfold FX7_init
  obtain ⟨g1, e1, s1, f1, o1, p1⟩ := st_arr (g := g0) (t := t) (ci := 7) (i := 0) (n := t + 1) (k := 900) (x := 900) .byte n900 (by omega) o0 (by omega) (by omega) (Nat.le_of_ble_eq_true rfl)
  rw [e1]
  replace o1 : g1.2 t = some (.inr (7, [.ref (t + 1), .int 0, .int 0, .int 0, .int 0, .int 0])) := o1
  have F1 : ∀ y, y < t + 2 → y ≠ t → g1.2 y = g1.2 y := fun _ _ _ => rfl
  have F0 : ∀ y, y < t + 1 → y ≠ t → g1.2 y = g0.2 y := fr_tr F1 f1 (by decide)
  refine ⟨g1, rfl, by omega, fun y hy => (F0 y (by omega) (by omega)).trans (f0 y hy), ?_, fun j hj => ?_⟩
  · rw [o1]
    rfl
  · have hj : 1 ≤ j ∧ j ≤ 1 := hj
    obtain rfl : j = 1 := by omega
    exact p1
theorem n_spo {g : jx_H} : ∃ g', FX4_init g.1 (hno g 4 fsX4) = some g' ∧ g'.1 = g.1 + 3 ∧ (∀ y, y < g.1 → g'.2 y = g.2 y) ∧ bH pK g' g.1 ms0 := by
  obtain ⟨g0, hg0⟩ : ∃ g0, g0 = hno g 4 fsX4 := ⟨_, rfl⟩
  have s0 : g0.1 = g.1 + 1 := by rw [hg0]; rfl
  have o0 : g0.2 g.1 = some (.inr (4, fsX4)) := by rw [hg0]; exact up_s
  have f0 : ∀ y, y < g.1 → g0.2 y = g.2 y := fun y hy => by rw [hg0]; exact up_o (by omega)
  rw [← hg0]
  generalize g.1 = t at *
  unfold FX4_init
  obtain ⟨g1, e1, s1, f1, o1, p1⟩ := st_arr (g := g0) (t := t) (ci := 4) (i := 0) (n := t + 1) (k := 13) (x := 13) .int n13 (by omega) o0 (by omega) (by omega) (Nat.le_of_ble_eq_true rfl)
  rw [e1]
  replace o1 : g1.2 t = some (.inr (4, [.ref (t + 1), .null, .int 0])) := o1
  obtain ⟨g2, e2, s2, f2, o2, p2⟩ := st_arr (g := g1) (t := t) (ci := 4) (i := 1) (n := t + 2) (k := 13) (x := 13) .int n13 (by omega) o1 (by omega) (by omega) (Nat.le_of_ble_eq_true rfl)
  rw [e2]
  replace o2 : g2.2 t = some (.inr (4, [.ref (t + 1), .ref (t + 2), .int 0])) := o2
  have F2 : ∀ y, y < t + 3 → y ≠ t → g2.2 y = g2.2 y := fun _ _ _ => rfl
  have F1 : ∀ y, y < t + 2 → y ≠ t → g2.2 y = g1.2 y := fr_tr F2 f2 (by decide)
  have F0 : ∀ y, y < t + 1 → y ≠ t → g2.2 y = g0.2 y := fr_tr F1 f1 (by decide)
  refine ⟨g2, rfl, by omega, fun y hy => (F0 y (by omega) (by omega)).trans (f0 y hy), ?_, fun j hj => ?_⟩
  · rw [o2]
    rfl
  · have hj : 1 ≤ j ∧ j ≤ 2 := hj
    have hj : j = 1 ∨ j = 2 := by omega
    rcases hj with rfl | rfl
    · rw [F1 _ (by omega) (by omega)]; exact p1
    · exact p2
theorem n_his {g : jx_H} : ∃ g', FX1_init g.1 (hno g 1 fsX1) = some g' ∧ g'.1 = g.1 + 2 ∧ (∀ y, y < g.1 → g'.2 y = g.2 y) ∧ HIS g' g.1 0 0 (fun _ => none) := by
  obtain ⟨g0, hg0⟩ : ∃ g0, g0 = hno g 1 fsX1 := ⟨_, rfl⟩
  have s0 : g0.1 = g.1 + 1 := by rw [hg0]; rfl
  have o0 : g0.2 g.1 = some (.inr (1, fsX1)) := by rw [hg0]; exact up_s
  have f0 : ∀ y, y < g.1 → g0.2 y = g.2 y := fun y hy => by rw [hg0]; exact up_o (by omega)
  rw [← hg0]
  generalize g.1 = t at *
  unfold FX1_init
  obtain ⟨g1, e1, s1, f1, o1, p1⟩ := st_ary (g := g0) (t := t) (ci := 1) (i := 0) (n := t + 1) (k := 8) (x := 8) "BorderBasis$State" n8 (by omega) o0 (by omega) (by omega) (Nat.le_of_ble_eq_true rfl)
  rw [e1]
  replace o1 : g1.2 t = some (.inr (1, [.ref (t + 1), .int 0, .int 0])) := o1
  have F1 : ∀ y, y < t + 2 → y ≠ t → g1.2 y = g1.2 y := fun _ _ _ => rfl
  have F0 : ∀ y, y < t + 1 → y ≠ t → g1.2 y = g0.2 y := fr_tr F1 f1 (by decide)
  refine ⟨g1, rfl, by omega, fun y hy => (F0 y (by omega) (by omega)).trans (f0 y hy), ?_, p1⟩
  show g1.2 t = some (.inr (1, hisO t 0 0))
  rw [o1]
  unfold hisO
  rw [← n0]
theorem n_par {g : jx_H} {tx sp : Nat} : ∃ g', FX3_init g.1 tx sp (hno g 3 fsX3) = some g' ∧ g'.1 = g.1 + 11 ∧ (∀ y, y < g.1 → g'.2 y = g.2 y) ∧ g'.2 g.1 = some (.inr (3, [.ref tx, .ref sp, .ref (g.1 + 1), .ref (g.1 + 10), .int 0, .int (-1 : Int32), .int 0, .int 0, .int 0, .int 0, .int 0])) ∧ (∃ S, bH sK g' (g.1 + 1) S) ∧ g'.2 (g.1 + 10) = some (ar 441 (fun _ => 0)) := by
  obtain ⟨g0, hg0⟩ : ∃ g0, g0 = hno g 3 fsX3 := ⟨_, rfl⟩
  have s0 : g0.1 = g.1 + 1 := by rw [hg0]; rfl
  have o0 : g0.2 g.1 = some (.inr (3, fsX3)) := by rw [hg0]; exact up_s
  have f0 : ∀ y, y < g.1 → g0.2 y = g.2 y := fun y hy => by rw [hg0]; exact up_o (by omega)
  rw [← hg0]
  generalize g.1 = t at *
  unfold FX3_init
  obtain ⟨g1, e1, s1, f1, o1, p1⟩ := st_sta (g := g0) (t := t) (ci := 3) (i := 2) (n := t + 1) o0 (by omega) (by omega) (Nat.le_of_ble_eq_true rfl)
  rw [e1]
  replace o1 : g1.2 t = some (.inr (3, [.null, .null, .ref (t + 1), .null, .int 0, .int 0, .int 0, .int 0, .int 0, .int 0, .int 0])) := o1
  obtain ⟨g2, e2, s2, f2, o2, p2⟩ := st_arr (g := g1) (t := t) (ci := 3) (i := 3) (n := t + 10) (k := 441) (x := 441) .int (by decide +kernel) (by omega) o1 (by omega) (by omega) (Nat.le_of_ble_eq_true rfl)
  rw [e2]
  replace o2 : g2.2 t = some (.inr (3, [.null, .null, .ref (t + 1), .ref (t + 10), .int 0, .int 0, .int 0, .int 0, .int 0, .int 0, .int 0])) := o2
  obtain ⟨g3, e3, s3, f3, o3⟩ := st_set (g := g2) (t := t) (ci := 3) (i := 5) (n := t + 11) (.int (-1 : Int32)) o2 (by omega) (Nat.le_of_ble_eq_true rfl)
  rw [e3]
  replace o3 : g3.2 t = some (.inr (3, [.null, .null, .ref (t + 1), .ref (t + 10), .int 0, .int (-1 : Int32), .int 0, .int 0, .int 0, .int 0, .int 0])) := o3
  obtain ⟨g4, e4, s4, f4, o4⟩ := st_set (g := g3) (t := t) (ci := 3) (i := 0) (n := t + 11) (.ref tx) o3 (by omega) (Nat.le_of_ble_eq_true rfl)
  rw [e4]
  replace o4 : g4.2 t = some (.inr (3, [.ref tx, .null, .ref (t + 1), .ref (t + 10), .int 0, .int (-1 : Int32), .int 0, .int 0, .int 0, .int 0, .int 0])) := o4
  obtain ⟨g5, e5, s5, f5, o5⟩ := st_set (g := g4) (t := t) (ci := 3) (i := 1) (n := t + 11) (.ref sp) o4 (by omega) (Nat.le_of_ble_eq_true rfl)
  rw [e5]
  replace o5 : g5.2 t = some (.inr (3, [.ref tx, .ref sp, .ref (t + 1), .ref (t + 10), .int 0, .int (-1 : Int32), .int 0, .int 0, .int 0, .int 0, .int 0])) := o5
  have F5 : ∀ y, y < t + 11 → y ≠ t → g5.2 y = g5.2 y := fun _ _ _ => rfl
  have F4 : ∀ y, y < t + 11 → y ≠ t → g5.2 y = g4.2 y := fr_tr F5 f5 (by decide)
  have F3 : ∀ y, y < t + 11 → y ≠ t → g5.2 y = g3.2 y := fr_tr F4 f4 (by decide)
  have F2 : ∀ y, y < t + 11 → y ≠ t → g5.2 y = g2.2 y := fr_tr F3 f3 (by decide)
  have F1 : ∀ y, y < t + 10 → y ≠ t → g5.2 y = g1.2 y := fr_tr F2 f2 (by decide)
  have F0 : ∀ y, y < t + 1 → y ≠ t → g5.2 y = g0.2 y := fr_tr F1 f1 (by decide)
  obtain ⟨T, hT, -⟩ := p1
  refine ⟨g5, rfl, by omega, fun y hy => (F0 y (by omega) (by omega)).trans (f0 y hy), ?_, ⟨T, hT.same fun y y1 y2 => F1 y (by have y2 : y ≤ t + 1 + 8 := y2; omega) (by omega)⟩, cel_fr p2 F2 (by decide) (by decide)⟩
  rw [o5]
