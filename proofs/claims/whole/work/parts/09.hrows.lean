/-! rows that read and write the heap -/
theorem jx_dom {h0 h : jx_H} {a : Nat} {e0 e : jx_E} (hd : ∀ q : Nat, h.2 q ≠ none → jx_A h0 q) (ha : h.2 a = some e0) : ∀ q : Nat, (h.1, jx_up h.2 a e).2 q ≠ none → jx_A h0 q := by
  intro q hq
  by_cases hqa : q = a
  · subst hqa
    exact hd _ (by rw [ha]; exact fun z => by cases z)
  · exact hd q (by simpa [jx_up, hqa] using hq)
theorem j_get {X : jx_X} {cc : ByteArray} {own : String} {k n pc : Nat} {lv : List (Nat × Value)} {st : List Value} {h : jx_H} {ci a : Nat} {RC ref : String} {T : u_T} {N index : Nat} (q : Nat) {v : Value} (C : jx_ok X cc own) (hc : jx_cl[ci]? = some (RC, T, N)) (hin : ∀ w ∈ u_ws RC T N, jx_mem w) (hq : q < N) (w : jx_mem (Cond.fieldLink own index ref (T q).2.1 (T q).2.2.1)) (hsame : (T q).1 = ref) (d : decode cc pc = .ok (.getfield index, 3)) (hv : hg h a ci q = some v) (kk : jx_J X k n (pc + 3) lv (v :: st) h) : jx_J X k n pc lv (.ref a :: st) h := by
  obtain ⟨p, l, e, R, s, m, args, below, meth, c, D, h0, nL, Q⟩ := X
  obtain ⟨hx, hb, hml, hown, hlk, hsz, hF, hfl⟩ := C
  intro H locs ls hR hdm hS hl
  obtain ⟨fs, he, hfs⟩ := hg_spec hv
  have hat : va_at D.1 jx_cl (a, .inr (ci, fs)) H := hR.2 a _ he
  have hP : va_P D.1 jx_cl [(a, .inr (ci, fs))] H := fun i x hi => by
    have hi0 : i < 1 := (List.getElem?_eq_some_iff.mp hi).1
    obtain rfl : i = 0 := by omega
    cases hi
    exact hat
  exact va_get (D := D.1) (cl := jx_cl) (tys := []) (ws := [(a, .inr (ci, fs))]) (Ts := u_ws RC T N) hx hb (fun w hw => jx_use (hin w hw).2 (hF.1 w (hin w hw).1 (hin w hw).2)) (fun _ hw => hw) hown hF.2.2.2.1 hP 0 rfl hc q hq (jx_use w.2 (hF.1 _ w.1 w.2)) (fun x hx => by rw [← hsame]; exact hx) hfs d (kk H locs ls hR hdm hS hl)
theorem j_geti {X : jx_X} {cc : ByteArray} {own : String} {k n pc : Nat} {lv : List (Nat × Value)} {st : List Value} {h : jx_H} {ci a : Nat} {RC ref : String} {T : u_T} {N index : Nat} (q : Nat) {v : Int32} (C : jx_ok X cc own) (hc : jx_cl[ci]? = some (RC, T, N)) (hin : ∀ w ∈ u_ws RC T N, jx_mem w) (hq : q < N) (w : jx_mem (Cond.fieldLink own index ref (T q).2.1 (T q).2.2.1)) (hsame : (T q).1 = ref) (d : decode cc pc = .ok (.getfield index, 3)) (hv : hgi h a ci q = some v) (kk : jx_J X k n (pc + 3) lv (.int v :: st) h) : jx_J X k n pc lv (.ref a :: st) h := j_get q C hc hin hq w hsame d (hgi_spec hv) kk
theorem j_getr {X : jx_X} {cc : ByteArray} {own : String} {k n pc : Nat} {lv : List (Nat × Value)} {st : List Value} {h : jx_H} {ci a : Nat} {RC ref : String} {T : u_T} {N index : Nat} (q : Nat) {v : Nat} (C : jx_ok X cc own) (hc : jx_cl[ci]? = some (RC, T, N)) (hin : ∀ w ∈ u_ws RC T N, jx_mem w) (hq : q < N) (w : jx_mem (Cond.fieldLink own index ref (T q).2.1 (T q).2.2.1)) (hsame : (T q).1 = ref) (d : decode cc pc = .ok (.getfield index, 3)) (hv : hgr h a ci q = some v) (kk : jx_J X k n (pc + 3) lv (.ref v :: st) h) : jx_J X k n pc lv (.ref a :: st) h := j_get q C hc hin hq w hsame d (hgr_spec hv) kk
theorem j_put {X : jx_X} {cc : ByteArray} {own : String} {k n pc : Nat} {lv : List (Nat × Value)} {st : List Value} {h h1 : jx_H} {ci a : Nat} {RC ref : String} {T : u_T} {N index : Nat} (q : Nat) {v : Value} {ty0 : Nat → FieldType} (C : jx_ok X cc own) (hc : jx_cl[ci]? = some (RC, T, N)) (hin : ∀ w ∈ u_ws RC T N, jx_mem w) (hty : ∀ j, j < N → parseFieldDescriptor (T j).2.2.1 = some (ty0 j)) (hnm : ∀ a, a < N → ∀ b, b < N → a ≠ b → (T a).2.1 ≠ (T b).2.1) (hq : q < N) (w : jx_mem (Cond.fieldLink own index ref (T q).2.1 (T q).2.2.1)) (hsame : (T q).1 = ref) (hfin : (T q).2.2.2 = false) (hn : narrow (ty0 q) v = v) (hfit : fits (ty0 q) v = true) (d : decode cc pc = .ok (.putfield index, 3)) (hv : hp h a ci q v = some h1) (kk : jx_J X k n (pc + 3) lv st h1) : jx_J X k n pc lv (v :: .ref a :: st) h := by
  obtain ⟨p, l, e, R, s, m, args, below, meth, c, D, h0, nL, Q⟩ := X
  obtain ⟨hx, hb, hml, hown, hlk, hsz, hF, hfl⟩ := C
  intro H locs ls hR hdm hS hl
  obtain ⟨fs, he, hlq, rfl⟩ := hp_spec hv
  have hts : ∀ w ∈ u_ws RC T N, w.before args s = true := fun w hw => jx_use (hin w hw).2 (hF.1 w (hin w hw).1 (hin w hw).2)
  have hlink := jx_use (args := args) w.2 (hF.1 _ w.1 w.2)
  have hK := hF.2.2.2.1
  have hap := va_apart (own := own) (cl := jx_cl) (tys := []) hts (fun _ hw => hw) ty0 hty hnm hK hc
  obtain ⟨r, h9, cell, q1, q2, q3, q4⟩ := (show va_at D.1 jx_cl (a, .inr (ci, fs)) H from hR.2 a _ he)
  have hr : r = (RC, T, N) := Option.some.inj (h9.symm.trans hc)
  subst hr
  obtain ⟨hS1, hfc, kC, hkC, hkind⟩ := hK.1 ci _ hc
  obtain ⟨cf, kf, fi, f, hi, hsl⟩ := hS1 q hq
  have hlay := hts _ (u_in_lay hq)
  unfold u_lay at hlay
  rw [if_neg (by rw [hfin]; decide)] at hlay
  have hst := (u_facts hfc hkC (u_lays hts (fun _ hw => hw) hq) hi).1
  have h6 := u_store hfc hkC hkind hlay hi (hty q hq) hn hfit
  refine W.putK hx hb (f := f) ⟨hown, hlink, ⟨_, _, _, by rw [← hsame]; exact hi⟩, hst⟩ (by rw [q2]; exact h6) q1 q3 (by rw [hsl]; exact k2_hasslot (q4 q hq)) rfl rfl d fun H1 e1 e2 e3 => ?_
  rw [hsl] at e1 ⊢
  exact kk H1 _ ls (hR.put (show jx_at D.1 s a (.inr (ci, fs.set q v)) H1 from ⟨_, hc, t_OB.to (V := updV (vp_V fs) q v) ⟨_, e1, q2, q3, t_set q4 hap hq v⟩ (fun j _ => vp_updV_set hlq v j)⟩) e2 e3) (jx_dom hdm he) (hS.put e2 e3 (hdm a (by rw [he]; exact fun z => by cases z))) hl
theorem j_putF {X : jx_X} {cc : ByteArray} {own : String} {k n pc : Nat} {lv : List (Nat × Value)} {st : List Value} {h h1 : jx_H} {ci a : Nat} {RC ref : String} {T : u_T} {N index : Nat} (q : Nat) {v : Value} {ty0 : Nat → FieldType} (C : jx_ok X cc own) (hc : jx_cl[ci]? = some (RC, T, N)) (hin : ∀ w ∈ u_ws RC T N, jx_mem w) (hty : ∀ j, j < N → parseFieldDescriptor (T j).2.2.1 = some (ty0 j)) (hnm : ∀ a, a < N → ∀ b, b < N → a ≠ b → (T a).2.1 ≠ (T b).2.1) (hq : q < N) (w : jx_mem (Cond.fieldLink own index ref (T q).2.1 (T q).2.2.1)) (hsame : (T q).1 = ref) (hfin : (T q).2.2.2 = true) {y : MethodName} (hin1 : jx_nm X y) (hin2 : y.name = "<init>") (hdecl : (T q).1 = own) (hn : narrow (ty0 q) v = v) (hfit : fits (ty0 q) v = true) (d : decode cc pc = .ok (.putfield index, 3)) (hv : hp h a ci q v = some h1) (kk : jx_J X k n (pc + 3) lv st h1) : jx_J X k n pc lv (v :: .ref a :: st) h := by
  obtain ⟨p, l, e, R, s, m, args, below, meth, c, D, h0, nL, Q⟩ := X
  obtain ⟨hx, hb, hml, hown, hlk, hsz, hF, hfl⟩ := C
  intro H locs ls hR hdm hS hl
  obtain ⟨fs, he, hlq, rfl⟩ := hp_spec hv
  have hts : ∀ w ∈ u_ws RC T N, w.before args s = true := fun w hw => jx_use (hin w hw).2 (hF.1 w (hin w hw).1 (hin w hw).2)
  have hlink := jx_use (args := args) w.2 (hF.1 _ w.1 w.2)
  have hK := hF.2.2.2.1
  have hap := va_apart (own := own) (cl := jx_cl) (tys := []) hts (fun _ hw => hw) ty0 hty hnm hK hc
  obtain ⟨r, h9, cell, q1, q2, q3, q4⟩ := (show va_at D.1 jx_cl (a, .inr (ci, fs)) H from hR.2 a _ he)
  have hr : r = (RC, T, N) := Option.some.inj (h9.symm.trans hc)
  subst hr
  obtain ⟨hS1, hfc, kC, hkC, hkind⟩ := hK.1 ci _ hc
  obtain ⟨cf, kf, fi, f, hi, hsl⟩ := hS1 q hq
  have hlay := hts _ (u_in_lay hq)
  unfold u_lay at hlay
  rw [if_pos hfin] at hlay
  have hst := (u_facts hfc hkC (u_lays hts (fun _ hw => hw) hq) hi).1
  have hcf : m.cls = cf := by
    obtain ⟨_, _, c', _, _, _, -, -, hf', -, -, -, hown2, -⟩ := Cond.laysFinal_spec hlay
    have e1 : c' = cf := by have := hi.symm.trans hf'; simp at this; exact this.1.symm
    rw [hdecl] at hown2
    rw [← e1]; exact Option.some.inj (hown.symm.trans hown2)
  have h6 := u_fits hfc hkC hkind (Or.inr hlay) hi (hty q hq) hn hfit
  refine W.putFinK hx hb hown hlink (by rw [← hsame]; exact hi) hst hcf ((show meth.name = y.name from hin1).trans hin2) (by rw [q2]; exact h6) q1 q3 (by rw [hsl]; exact k2_hasslot (q4 q hq)) rfl rfl d fun H1 e1 e2 e3 => ?_
  rw [hsl] at e1 ⊢
  exact kk H1 _ ls (hR.put (show jx_at D.1 s a (.inr (ci, fs.set q v)) H1 from ⟨_, hc, t_OB.to (V := updV (vp_V fs) q v) ⟨_, e1, q2, q3, t_set q4 hap hq v⟩ (fun j _ => vp_updV_set hlq v j)⟩) e2 e3) (jx_dom hdm he) (hS.put e2 e3 (hdm a (by rw [he]; exact fun z => by cases z))) hl
theorem j_iald {X : jx_X} {cc : ByteArray} {own : String} {k n pc : Nat} {lv : List (Nat × Value)} {st : List Value} {h : jx_H} (C : jx_ok X cc own) {a : Nat} {i x : Int32} (d : decode cc pc = .ok (.iaload, 1)) (hv : hal h .int a i = some x) (kk : jx_J X k n (pc + 1) lv (.int x :: st) h) : jx_J X k n pc lv (.int i :: .ref a :: st) h := by
  obtain ⟨p, l, e, R, s, m, args, below, meth, c, D, h0, nL, Q⟩ := X
  obtain ⟨hx, hb, hml, hown, hlk, hsz, hF, hfl⟩ := C
  intro H locs ls hR hdm hS hl
  obtain ⟨N, f, he, hi, rfl⟩ := hal_spec hv
  obtain ⟨cA, g1, g2, g3⟩ := (show jx_at D.1 s a (.inl (.int, N, .inl f)) H from hR.2 a _ he)
  have hlt : i.toNatClampNeg < N := Nat.not_le.mp fun q => hi (Or.inr q)
  exact W.iald (v := .int (f i.toNatClampNeg)) hx hb g3 (g1 N (fun j => .int (f j))) (fun q => by cases q) (by show ¬ (i < 0 ∨ (arrV _ _ _).slots.size ≤ _); rw [arrV_size]; exact hi) (by show (arrV _ _ _).slots[_]? = _; rw [arrV_read _ _ hlt]) rfl rfl d (kk H locs ls hR hdm hS hl)
theorem j_bald {X : jx_X} {cc : ByteArray} {own : String} {k n pc : Nat} {lv : List (Nat × Value)} {st : List Value} {h : jx_H} (C : jx_ok X cc own) {a : Nat} {i x : Int32} (d : decode cc pc = .ok (.baload, 1)) (hv : hal h .byte a i = some x) (kk : jx_J X k n (pc + 1) lv (.int x :: st) h) : jx_J X k n pc lv (.int i :: .ref a :: st) h := by
  obtain ⟨p, l, e, R, s, m, args, below, meth, c, D, h0, nL, Q⟩ := X
  obtain ⟨hx, hb, hml, hown, hlk, hsz, hF, hfl⟩ := C
  intro H locs ls hR hdm hS hl
  obtain ⟨N, f, he, hi, rfl⟩ := hal_spec hv
  obtain ⟨cA, g1, g2, g3⟩ := (show jx_at D.1 s a (.inl (.byte, N, .inl f)) H from hR.2 a _ he)
  have hlt : i.toNatClampNeg < N := Nat.not_le.mp fun q => hi (Or.inr q)
  exact W.bald (v := .int (f i.toNatClampNeg)) hx hb g3 (g1 N (fun j => .int (f j))) (fun q => by cases q) (by show ¬ (i < 0 ∨ (arrV _ _ _).slots.size ≤ _); rw [arrV_size]; exact hi) (by show (arrV _ _ _).slots[_]? = _; rw [arrV_read _ _ hlt]) rfl rfl d (kk H locs ls hR hdm hS hl)
theorem j_zald {X : jx_X} {cc : ByteArray} {own : String} {k n pc : Nat} {lv : List (Nat × Value)} {st : List Value} {h : jx_H} (C : jx_ok X cc own) {a : Nat} {i x : Int32} (d : decode cc pc = .ok (.baload, 1)) (hv : hal h .boolean a i = some x) (kk : jx_J X k n (pc + 1) lv (.int x :: st) h) : jx_J X k n pc lv (.int i :: .ref a :: st) h := by
  obtain ⟨p, l, e, R, s, m, args, below, meth, c, D, h0, nL, Q⟩ := X
  obtain ⟨hx, hb, hml, hown, hlk, hsz, hF, hfl⟩ := C
  intro H locs ls hR hdm hS hl
  obtain ⟨N, f, he, hi, rfl⟩ := hal_spec hv
  obtain ⟨cA, g1, g2, g3⟩ := (show jx_at D.1 s a (.inl (.boolean, N, .inl f)) H from hR.2 a _ he)
  have hlt : i.toNatClampNeg < N := Nat.not_le.mp fun q => hi (Or.inr q)
  exact W.zald (v := .int (f i.toNatClampNeg)) hx hb g3 (g1 N (fun j => .int (f j))) (fun q => by cases q) (by show ¬ (i < 0 ∨ (arrV _ _ _).slots.size ≤ _); rw [arrV_size]; exact hi) (by show (arrV _ _ _).slots[_]? = _; rw [arrV_read _ _ hlt]) rfl rfl d (kk H locs ls hR hdm hS hl)
theorem j_iast {X : jx_X} {cc : ByteArray} {own : String} {k n pc : Nat} {lv : List (Nat × Value)} {st : List Value} {h h1 : jx_H} (C : jx_ok X cc own) {a : Nat} {i x : Int32} (d : decode cc pc = .ok (.iastore, 1)) (hv : has h .int a i x = some h1) (kk : jx_J X k n (pc + 1) lv st h1) : jx_J X k n pc lv (.int x :: .int i :: .ref a :: st) h := by
  obtain ⟨p, l, e, R, s, m, args, below, meth, c, D, h0, nL, Q⟩ := X
  obtain ⟨hx, hb, hml, hown, hlk, hsz, hF, hfl⟩ := C
  intro H locs ls hR hdm hS hl
  obtain ⟨N, f, he, hi, rfl⟩ := has_spec hv
  obtain ⟨cA, g1, g2, g3⟩ := (show jx_at D.1 s a (.inl (.int, N, .inl f)) H from hR.2 a _ he)
  refine W.iast hx hb g3 (g1 N (fun j => .int (f j))) (fun q => by cases q) (by show ¬ (i < 0 ∨ (arrV _ _ _).slots.size ≤ _); rw [arrV_size]; exact hi) rfl rfl d fun H1 e z oq => ?_
  refine kk H1 _ ls (hR.put (show jx_at D.1 s a (.inl (.int, N, .inl (upd f i.toNatClampNeg x))) H1 from ⟨cA, g1, g2, ?_⟩) z oq) (jx_dom hdm he) (hS.put z oq (hdm a (by rw [he]; exact fun z => by cases z))) hl
  rw [e]
  rw [vp_cell_i, vp_cell_i, arrV_store]
  congr 2
  funext q
  by_cases hq : q = i.toNatClampNeg
  · subst hq
    simp [updV, upd, vp_nar]
    try rfl
  · simp [updV, upd, hq]
theorem j_bast {X : jx_X} {cc : ByteArray} {own : String} {k n pc : Nat} {lv : List (Nat × Value)} {st : List Value} {h h1 : jx_H} (C : jx_ok X cc own) {a : Nat} {i x : Int32} (d : decode cc pc = .ok (.bastore, 1)) (hv : has h .byte a i (vp_nar .byte x) = some h1) (kk : jx_J X k n (pc + 1) lv st h1) : jx_J X k n pc lv (.int x :: .int i :: .ref a :: st) h := by
  obtain ⟨p, l, e, R, s, m, args, below, meth, c, D, h0, nL, Q⟩ := X
  obtain ⟨hx, hb, hml, hown, hlk, hsz, hF, hfl⟩ := C
  intro H locs ls hR hdm hS hl
  obtain ⟨N, f, he, hi, rfl⟩ := has_spec hv
  obtain ⟨cA, g1, g2, g3⟩ := (show jx_at D.1 s a (.inl (.byte, N, .inl f)) H from hR.2 a _ he)
  refine W.bast hx hb g3 (g1 N (fun j => .int (f j))) (fun q => by cases q) (by show ¬ (i < 0 ∨ (arrV _ _ _).slots.size ≤ _); rw [arrV_size]; exact hi) rfl rfl d fun H1 e z oq => ?_
  refine kk H1 _ ls (hR.put (show jx_at D.1 s a (.inl (.byte, N, .inl (upd f i.toNatClampNeg (vp_nar .byte x)))) H1 from ⟨cA, g1, g2, ?_⟩) z oq) (jx_dom hdm he) (hS.put z oq (hdm a (by rw [he]; exact fun z => by cases z))) hl
  rw [e]
  rw [vp_cell_i, vp_cell_i, arrV_store]
  congr 2
  funext q
  by_cases hq : q = i.toNatClampNeg
  · subst hq
    simp [updV, upd, vp_nar]
    try rfl
  · simp [updV, upd, hq]
theorem j_zast {X : jx_X} {cc : ByteArray} {own : String} {k n pc : Nat} {lv : List (Nat × Value)} {st : List Value} {h h1 : jx_H} (C : jx_ok X cc own) {a : Nat} {i x : Int32} (d : decode cc pc = .ok (.bastore, 1)) (hv : has h .boolean a i (vp_nar .boolean x) = some h1) (kk : jx_J X k n (pc + 1) lv st h1) : jx_J X k n pc lv (.int x :: .int i :: .ref a :: st) h := by
  obtain ⟨p, l, e, R, s, m, args, below, meth, c, D, h0, nL, Q⟩ := X
  obtain ⟨hx, hb, hml, hown, hlk, hsz, hF, hfl⟩ := C
  intro H locs ls hR hdm hS hl
  obtain ⟨N, f, he, hi, rfl⟩ := has_spec hv
  obtain ⟨cA, g1, g2, g3⟩ := (show jx_at D.1 s a (.inl (.boolean, N, .inl f)) H from hR.2 a _ he)
  refine W.zast hx hb g3 (g1 N (fun j => .int (f j))) (fun q => by cases q) (by show ¬ (i < 0 ∨ (arrV _ _ _).slots.size ≤ _); rw [arrV_size]; exact hi) rfl rfl d fun H1 e z oq => ?_
  refine kk H1 _ ls (hR.put (show jx_at D.1 s a (.inl (.boolean, N, .inl (upd f i.toNatClampNeg (vp_nar .boolean x)))) H1 from ⟨cA, g1, g2, ?_⟩) z oq) (jx_dom hdm he) (hS.put z oq (hdm a (by rw [he]; exact fun z => by cases z))) hl
  rw [e]
  rw [vp_cell_i, vp_cell_i, arrV_store]
  congr 2
  funext q
  by_cases hq : q = i.toNatClampNeg
  · subst hq
    simp [updV, upd, vp_nar]
    try rfl
  · simp [updV, upd, hq]
theorem j_lald {X : jx_X} {cc : ByteArray} {own : String} {k n pc : Nat} {lv : List (Nat × Value)} {st : List Value} {h : jx_H} (C : jx_ok X cc own) {a : Nat} {i : Int32} {x : Int64} (d : decode cc pc = .ok (.laload, 1)) (hv : hll h a i = some x) (kk : jx_J X k n (pc + 1) lv (.long x :: st) h) : jx_J X k n pc lv (.int i :: .ref a :: st) h := by
  obtain ⟨p, l, e, R, s, m, args, below, meth, c, D, h0, nL, Q⟩ := X
  obtain ⟨hx, hb, hml, hown, hlk, hsz, hF, hfl⟩ := C
  intro H locs ls hR hdm hS hl
  obtain ⟨N, f, he, hi, rfl⟩ := hll_spec hv
  obtain ⟨cA, g1, g2, g3⟩ := (show jx_at D.1 s a (.inl (.long, N, .inr (.inl f))) H from hR.2 a _ he)
  have hlt : i.toNatClampNeg < N := Nat.not_le.mp fun q => hi (Or.inr q)
  exact W.lald (v := .long (f i.toNatClampNeg)) hx hb g3 (g1 N (fun j => .long (f j))) (fun q => by cases q) (by show ¬ (i < 0 ∨ (arrV _ _ _).slots.size ≤ _); rw [arrV_size]; exact hi) (by show (arrV _ _ _).slots[_]? = _; rw [arrV_read _ _ hlt]) rfl rfl d (kk H locs ls hR hdm hS hl)
theorem j_last {X : jx_X} {cc : ByteArray} {own : String} {k n pc : Nat} {lv : List (Nat × Value)} {st : List Value} {h h1 : jx_H} (C : jx_ok X cc own) {a : Nat} {i : Int32} {x : Int64} (d : decode cc pc = .ok (.lastore, 1)) (hv : hls h a i x = some h1) (kk : jx_J X k n (pc + 1) lv st h1) : jx_J X k n pc lv (.long x :: .int i :: .ref a :: st) h := by
  obtain ⟨p, l, e, R, s, m, args, below, meth, c, D, h0, nL, Q⟩ := X
  obtain ⟨hx, hb, hml, hown, hlk, hsz, hF, hfl⟩ := C
  intro H locs ls hR hdm hS hl
  obtain ⟨N, f, he, hi, rfl⟩ := hls_spec hv
  obtain ⟨cA, g1, g2, g3⟩ := (show jx_at D.1 s a (.inl (.long, N, .inr (.inl f))) H from hR.2 a _ he)
  refine W.last hx hb g3 (g1 N (fun j => .long (f j))) (fun q => by cases q) (by show ¬ (i < 0 ∨ (arrV _ _ _).slots.size ≤ _); rw [arrV_size]; exact hi) rfl rfl d fun H1 e z oq => ?_
  refine kk H1 _ ls (hR.put (show jx_at D.1 s a (.inl (.long, N, .inr (.inl (vp_updL f i.toNatClampNeg x)))) H1 from ⟨cA, g1, g2, ?_⟩) z oq) (jx_dom hdm he) (hS.put z oq (hdm a (by rw [he]; exact fun z => by cases z))) hl
  rw [e]
  rw [vp_cell_l, vp_cell_l, arrV_store]
  congr 2
  funext q
  by_cases hq : q = i.toNatClampNeg
  · subst hq
    simp [updV, vp_updL]
  · simp [updV, vp_updL, hq]
theorem j_aald {X : jx_X} {cc : ByteArray} {own : String} {k n pc : Nat} {lv : List (Nat × Value)} {st : List Value} {h : jx_H} (C : jx_ok X cc own) {a : Nat} {cn : String} {i : Int32} {x : Option Nat} (d : decode cc pc = .ok (.aaload, 1)) (hv : hql h cn a i = some x) (kk : jx_J X k n (pc + 1) lv (va_rf x :: st) h) : jx_J X k n pc lv (.int i :: .ref a :: st) h := by
  obtain ⟨p, l, e, R, s, m, args, below, meth, c, D, h0, nL, Q⟩ := X
  obtain ⟨hx, hb, hml, hown, hlk, hsz, hF, hfl⟩ := C
  intro H locs ls hR hdm hS hl
  obtain ⟨N, f, he, hi, rfl⟩ := hql_spec hv
  obtain ⟨cA, g1, g2, g3⟩ := (show jx_at D.1 s a (.inl (.object cn, N, .inr (.inr (.inr (.inr f))))) H from hR.2 a _ he)
  have hlt : i.toNatClampNeg < N := Nat.not_le.mp fun q => hi (Or.inr q)
  exact W.aald (v := va_rf (f i.toNatClampNeg)) (ty := .object cn) hx hb g3 (g1 N (fun j => va_rf (f j))) rfl (fun q => by cases q) (by show ¬ (i < 0 ∨ (arrV _ _ _).slots.size ≤ _); rw [arrV_size]; exact hi) (by show (arrV _ _ _).slots[_]? = _; rw [arrV_read _ _ hlt]) rfl rfl d (kk H locs ls hR hdm hS hl)
theorem j_aast {X : jx_X} {cc : ByteArray} {own : String} {k n pc : Nat} {lv : List (Nat × Value)} {st : List Value} {h h1 : jx_H} (C : jx_ok X cc own) {a ci v : Nat} {cn : String} {T : u_T} {N0 : Nat} {i : Int32} (hc : jx_cl[ci]? = some (cn, T, N0)) (d : decode cc pc = .ok (.aastore, 1)) (hv : hqs h cn ci a i v = some h1) (kk : jx_J X k n (pc + 1) lv st h1) : jx_J X k n pc lv (.ref v :: .int i :: .ref a :: st) h := by
  obtain ⟨p, l, e, R, s, m, args, below, meth, c, D, h0, nL, Q⟩ := X
  obtain ⟨hx, hb, hml, hown, hlk, hsz, hF, hfl⟩ := C
  intro H locs ls hR hdm hS hl
  obtain ⟨N, f, he, hi, hiv, rfl⟩ := hqs_spec hv
  obtain ⟨cA, g1, g2, g3⟩ := (show jx_at D.1 s a (.inl (.object cn, N, .inr (.inr (.inr (.inr f))))) H from hR.2 a _ he)
  obtain ⟨fs, hv2⟩ := isO_spec hiv
  have hlt : i.toNatClampNeg < N := Nat.not_le.mp fun q => hi (Or.inr q)
  have hi0 : ¬ i < 0 := fun q => hi (Or.inl q)
  obtain ⟨r, hr, cellV, c1, c2, c3, -⟩ := (show va_at D.1 jx_cl (v, .inr (ci, fs)) H from hR.2 v _ hv2)
  have hK := hF.2.2.2.1
  have hcls := (hK.1 ci _ hc).2
  obtain ⟨kA, comp, k1, k2, k3, k4⟩ := g2
  have hcomp : comp = D.1.1 ci := Option.some.inj (k3.symm.trans hcls.1)
  subst hcomp
  obtain ⟨kC, hkC, -⟩ := id hcls.2
  refine W.aast hx hb g3 (fun q h => by cases h) (fun h => by cases h) k1 k2 rfl hkC ⟨hi0, by show _ < (arrV _ _ _).slots.size; rw [arrV_size]; exact hlt⟩ c1 (fun q h => by rw [c3] at h; cases h) (by rw [c2]; exact hkC) (by rw [c2]; exact va_assign hcls) rfl rfl d fun H1 e z oq => ?_
  refine kk H1 _ ls (hR.put (show jx_at D.1 s a (.inl (.object cn, N, .inr (.inr (.inr (.inr (va_up f i.toNatClampNeg (some v))))))) H1 from ⟨cA, g1, ⟨kA, _, k1, k2, k3, k4⟩, ?_⟩) z oq) (jx_dom hdm he) (hS.put z oq (hdm a (by rw [he]; exact fun z => by cases z))) hl
  rw [e]
  rw [vp_cell_q, vp_cell_q, arrV_store]
  congr 2
  funext q
  by_cases hq : q = i.toNatClampNeg
  · subst hq
    simp [updV, va_up, va_rf]
  · simp [updV, va_up, hq]
theorem j_alen {X : jx_X} {cc : ByteArray} {own : String} {k n pc : Nat} {lv : List (Nat × Value)} {st : List Value} {h : jx_H} (C : jx_ok X cc own) {a : Nat} {x : Int32} (d : decode cc pc = .ok (.arraylength, 1)) (hv : hlen h a = some x) (kk : jx_J X k n (pc + 1) lv (.int x :: st) h) : jx_J X k n pc lv (.ref a :: st) h := by
  obtain ⟨p, l, e, R, s, m, args, below, meth, c, D, h0, nL, Q⟩ := X
  obtain ⟨hx, hb, hml, hown, hlk, hsz, hF, hfl⟩ := C
  intro H locs ls hR hdm hS hl
  obtain ⟨⟨ty, y⟩, he, rfl⟩ := hlen_spec hv
  obtain ⟨cA, g1, g2, g3⟩ := (show jx_at D.1 s a (.inl (ty, y)) H from hR.2 a _ he)
  have hP : va_P D.1 jx_cl [(a, .inl (cA, y))] H := fun i x hi => by
    have hi0 : i < 1 := (List.getElem?_eq_some_iff.mp hi).1
    obtain rfl : i = 0 := by omega
    cases hi
    exact g3
  have hK : va_K D.1 jx_cl [(cA, ty)] s := ⟨hF.2.2.2.1.1, fun i x hi => by
    have hi0 : i < 1 := (List.getElem?_eq_some_iff.mp hi).1
    obtain rfl : i = 0 := by omega
    cases hi
    exact ⟨g1, g2⟩⟩
  exact va_alen (D := D.1) (cl := jx_cl) hx hb hK hP 0 0 rfl rfl rfl d (kk H locs ls hR hdm hS hl)
