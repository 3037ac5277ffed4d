/-! string constants: their cells lie outside; the library's methods over them -/
def jx_dD (X : jx_X) : jx_D := X.2.2.2.2.2.2.2.2.2.2.1
def jx_sa (X : jx_X) (i : Nat) : Nat := (jx_dD X).2.1 i
def jx_sv (X : jx_X) (i : Nat) : Nat := (jx_dD X).2.2 i
def jx_CtD (y : MethodName) (cc : ByteArray) (maxL : Nat) (ret : Option FieldType) (rm : Room) (av : jx_D → List Value) (h : jx_H) (post : jx_P) : Prop := ∀ (l : Launch) (D : jx_D), l.stackTraces = false → Met l y [.code y cc maxL ret] rm (jx_Pc D (av D) h) (jx_Qc D h post) rm.cells rm.slots (jx_A h)
theorem jx_CtD.of {y : MethodName} {cc : ByteArray} {maxL : Nat} {ret : Option FieldType} {rm : Room} {av : jx_D → List Value} {h : jx_H} {post : jx_P} {own : String} (hy : plainName y.cls = true) (ho : y.cls = own) (hlen : ∀ D, (lg_sl (av D)).length ≤ maxL)
    (body : ∀ X : jx_X, jx_ok X cc own → jx_q X ret post rm.cells rm.slots → jx_r X rm → jx_nl X maxL → jx_nm X y → jx_J X 0 0 0 (lv_args 0 (av (jx_dD X))) [] h) : jx_CtD y cc maxL ret rm av h post := by
  intro l D hl
  refine Met.ofW (cc := cc) (maxL := maxL) (ret := ret) hy rfl ?_
  intro p e s m args below meth c s₁ B hml hv
  obtain ⟨rfl, hR, hF⟩ := hv
  have K := body (p, l, e, rm, s, m, (av D).toArray, below, meth, c, D, h, maxL, MQ below (jx_Qc D h post) (av D).toArray s rm.cells rm.slots (jx_A h)) ⟨B.exec, B.bytes, hml, by rw [← ho]; exact findClass_of_methodNamed B.named, B.notSynchronized, hR.1, hF, hl⟩ ⟨rfl, B.returns⟩ rfl rfl (name_of_methodNamed B.named B.method).1
  have hl := lv_entry (av D) (n := maxL) (hlen D)
  rw [lg_entry_eq]
  exact K s.heap [] _ hR (fun q hq => Or.inl hq) va_S.rf hl
abbrev jx_CtX (X : jx_X) (y : MethodName) (cc : ByteArray) (maxL : Nat) (ret : Option FieldType) (rm : Room) (av : List Value) (h : jx_H) (post : jx_P) : Prop := ∀ (l : Launch), l.stackTraces = false → Met l y [.code y cc maxL ret] rm (jx_Pc (jx_dD X) av h) (jx_Qc (jx_dD X) h post) rm.cells rm.slots (jx_A h)
theorem j_callVD {X : jx_X} {cc bytes : ByteArray} {own RC : String} {k n pc index maxL : Nat} {lv : List (Nat × Value)} {As st : List Value} {h : jx_H} {b ci : Nat} {T : u_T} {N : Nat} {y : MethodName} {ret : Option FieldType} {rm rmY : Room} {post : jx_P} {k1 n1 na : Nat} (C : jx_ok X cc own) (hr : jx_r X rm) (hM : jx_CtX X y bytes maxL ret rmY (.ref b :: As) h post) (hc : jx_cl[ci]? = some (RC, T, N)) (ho : isO h b ci = some ())
    (w : jx_mem (Cond.methodLink own index y)) (w2 : jx_mem (Cond.instanceMethod y)) (w3 : jx_mem (Cond.selects RC y y)) (w4 : jx_mem (Cond.initialized RC)) (w5 : jx_mem (Cond.code y bytes maxL ret)) (hd : y.cls = RC ∧ y.cls ≠ "java/lang/invoke/MethodHandle" ∧ y.cls ≠ "java/lang/invoke/VarHandle" ∧ (parseMethodDescriptor y.desc).map (fun d => d.parameters.length) = some na) (hna : As.length = na)
    (hfr : rmY.frames + 1 ≤ rm.frames ∧ 8 + (maxL + 11) + rmY.locals ≤ rm.locals) (hcat : (st.map fun v => v.category).sum ≤ 8) (hk : k + rmY.cells = k1 ∧ n + rmY.slots = n1 ∧ k1 ≤ rm.cells ∧ n1 ≤ rm.slots) (d : decode cc pc = .ok (.invokevirtual index, 3))
    (kk : ∀ (r : Option Value) (h1 : jx_H), post r h1 → jx_J X k1 n1 (pc + 3) lv (r.toList ++ st) h1) : jx_J X k n pc lv (As.reverse ++ .ref b :: st) h := by
  obtain ⟨p, l, e, R, s, m, args, below, meth, c, D, h0, nL, Q⟩ := X
  obtain ⟨hx, hb, hml, hown, hlk, hsz, hF, hfl⟩ := C
  obtain rfl : R = rm := hr
  obtain ⟨rfl, rfl, hk⟩ := hk
  subst hna
  intro H locs ls hR hdm hS hl
  obtain ⟨hd1, hd2, hd3, hd4⟩ := hd
  have c5 : (Cond.code y bytes maxL ret).before args s = true := jx_use w5.2 (hF.1 _ w5.1 w5.2)
  obtain ⟨fs, ho1⟩ := isO_spec ho
  obtain ⟨r9, hr9, cell, q1, q2, q3, q4⟩ := (show va_at D.1 jx_cl (b, .inr (ci, fs)) H from hR.2 b _ ho1)
  refine jx_after (D := D) (h0 := h0) (nL := nL) hR hsz hS hdm hl (va_runV (bytes := bytes) (maxL := maxL) (ret := ret) (As := As) (rest := st) (Ts := [Cond.code y bytes maxL ret]) (C := RC) ⟨hx, hb, hml, hown, fun w hw => by obtain rfl := List.mem_singleton.mp hw; exact c5⟩ (hM l hfl) ⟨?_, jx_use w2.2 (hF.1 _ w2.1 w2.2), jx_use w3.2 (hF.1 _ w3.1 w3.2)⟩ ⟨jx_PcB, ⟨cell, q1, by rw [q3]; rfl, by rw [q2]; exact (hF.2.2.2.1.1 ci _ hc).2.1⟩, jx_pre hR hsz hS hdm hF⟩ rfl rfl hl.1 rfl (lv_room hcat) d hk) kk
  refine ⟨rfl, rfl, hfr.1, hfr.2, pay_in (fun w hw => by obtain rfl := List.mem_singleton.mp hw; exact c5) jx_good, List.mem_singleton.mpr rfl, c5, by rw [hd1]; exact jx_use w4.2 (hF.1 _ w4.1 w4.2), ⟨hd2, hd3⟩, fun sig hs => ?_, jx_use w.2 (hF.1 _ w.1 w.2)⟩
  rw [hs] at hd4
  exact (Option.some.inj hd4).symm
theorem j_callSD {X : jx_X} {cc bytes : ByteArray} {own : String} {k n pc index maxL : Nat} {lv : List (Nat × Value)} {As st : List Value} {h : jx_H} {y : MethodName} {ret : Option FieldType} {rm rmY : Room} {post : jx_P} {k1 n1 na : Nat} (C : jx_ok X cc own) (hr : jx_r X rm) (hM : jx_CtX X y bytes maxL ret rmY As h post)
    (w : jx_mem (Cond.methodLink own index y)) (w2 : jx_mem (Cond.static y)) (w4 : jx_mem (Cond.initialized y.cls)) (w5 : jx_mem (Cond.code y bytes maxL ret)) (hd : y.cls ≠ "java/lang/invoke/MethodHandle" ∧ y.cls ≠ "java/lang/invoke/VarHandle" ∧ (parseMethodDescriptor y.desc).map (fun d => d.parameters.length) = some na) (hna : As.length = na)
    (hfr : rmY.frames + 1 ≤ rm.frames ∧ 8 + (maxL + 11) + rmY.locals ≤ rm.locals) (hcat : (st.map fun v => v.category).sum ≤ 8) (hk : k + rmY.cells = k1 ∧ n + rmY.slots = n1 ∧ k1 ≤ rm.cells ∧ n1 ≤ rm.slots) (d : decode cc pc = .ok (.invokestatic index, 3))
    (kk : ∀ (r : Option Value) (h1 : jx_H), post r h1 → jx_J X k1 n1 (pc + 3) lv (r.toList ++ st) h1) : jx_J X k n pc lv (As.reverse ++ st) h := by
  obtain ⟨p, l, e, R, s, m, args, below, meth, c, D, h0, nL, Q⟩ := X
  obtain ⟨hx, hb, hml, hown, hlk, hsz, hF, hfl⟩ := C
  obtain rfl : R = rm := hr
  obtain ⟨rfl, rfl, hk⟩ := hk
  subst hna
  intro H locs ls hR hdm hS hl
  obtain ⟨hd2, hd3, hd4⟩ := hd
  have c5 : (Cond.code y bytes maxL ret).before args s = true := jx_use w5.2 (hF.1 _ w5.1 w5.2)
  refine jx_after (D := D) (h0 := h0) (nL := nL) hR hsz hS hdm hl (va_runS (bytes := bytes) (maxL := maxL) (ret := ret) (As := As) (rest := st) (Ts := [Cond.code y bytes maxL ret]) ⟨hx, hb, hml, hown, fun w hw => by obtain rfl := List.mem_singleton.mp hw; exact c5⟩ (hM l hfl) ⟨?_, jx_use w2.2 (hF.1 _ w2.1 w2.2)⟩ ⟨jx_PcB, jx_pre hR hsz hS hdm hF⟩ rfl rfl hl.1 rfl (lv_room hcat) d hk) kk
  refine ⟨rfl, rfl, hfr.1, hfr.2, pay_in (fun w hw => by obtain rfl := List.mem_singleton.mp hw; exact c5) jx_good, List.mem_singleton.mpr rfl, c5, jx_use w4.2 (hF.1 _ w4.1 w4.2), ⟨hd2, hd3⟩, fun sig hs => ?_, jx_use w.2 (hF.1 _ w.1 w.2)⟩
  rw [hs] at hd4
  exact (Option.some.inj hd4).symm
theorem j_callVs {X : jx_X} {cc bytes : ByteArray} {own RC : String} {k n pc index maxL : Nat} {lv : List (Nat × Value)} {As st : List Value} {h : jx_H} {b : Nat} {y : MethodName} {ret : Option FieldType} {rm rmY : Room} {post : jx_P} {k1 n1 na : Nat} (C : jx_ok X cc own) (hr : jx_r X rm) {i : Nat} (hi : i < 5) (hb0 : jx_sa X i = b) (hRC : RC = "java/lang/String") (hM : jx_CtX X y bytes maxL ret rmY (.ref b :: As) h post)
    (w : jx_mem (Cond.methodLink own index y)) (w2 : jx_mem (Cond.instanceMethod y)) (w3 : jx_mem (Cond.selects RC y y)) (w4 : jx_mem (Cond.initialized RC)) (w5 : jx_mem (Cond.code y bytes maxL ret)) (hd : y.cls = RC ∧ y.cls ≠ "java/lang/invoke/MethodHandle" ∧ y.cls ≠ "java/lang/invoke/VarHandle" ∧ (parseMethodDescriptor y.desc).map (fun d => d.parameters.length) = some na) (hna : As.length = na)
    (hfr : rmY.frames + 1 ≤ rm.frames ∧ 8 + (maxL + 11) + rmY.locals ≤ rm.locals) (hcat : (st.map fun v => v.category).sum ≤ 8) (hk : k + rmY.cells = k1 ∧ n + rmY.slots = n1 ∧ k1 ≤ rm.cells ∧ n1 ≤ rm.slots) (d : decode cc pc = .ok (.invokevirtual index, 3))
    (kk : ∀ (r : Option Value) (h1 : jx_H), post r h1 → jx_J X k1 n1 (pc + 3) lv (r.toList ++ st) h1) : jx_J X k n pc lv (As.reverse ++ .ref b :: st) h := by
  obtain ⟨p, l, e, R, s, m, args, below, meth, c, D, h0, nL, Q⟩ := X
  obtain ⟨hx, hb, hml, hown, hlk, hsz, hF, hfl⟩ := C
  obtain rfl : R = rm := hr
  obtain ⟨rfl, rfl, hk⟩ := hk
  subst hna
  intro H locs ls hR hdm hS hl
  obtain ⟨hd1, hd2, hd3, hd4⟩ := hd
  have c5 : (Cond.code y bytes maxL ret).before args s = true := jx_use w5.2 (hF.1 _ w5.1 w5.2)
  subst hRC
  obtain ⟨cell, q1, q2, q3⟩ := vk_recv hF.2.2.2.2.2.1 hi hS
  have q1 : H[b]? = some cell := by rw [← hb0]; exact q1
  refine jx_after (D := D) (h0 := h0) (nL := nL) hR hsz hS hdm hl (va_runV (bytes := bytes) (maxL := maxL) (ret := ret) (As := As) (rest := st) (Ts := [Cond.code y bytes maxL ret]) (C := "java/lang/String") ⟨hx, hb, hml, hown, fun w hw => by obtain rfl := List.mem_singleton.mp hw; exact c5⟩ (hM l hfl) ⟨?_, jx_use w2.2 (hF.1 _ w2.1 w2.2), jx_use w3.2 (hF.1 _ w3.1 w3.2)⟩ ⟨jx_PcB, ⟨cell, q1, q2, q3⟩, jx_pre hR hsz hS hdm hF⟩ rfl rfl hl.1 rfl (lv_room hcat) d hk) kk
  refine ⟨rfl, rfl, hfr.1, hfr.2, pay_in (fun w hw => by obtain rfl := List.mem_singleton.mp hw; exact c5) jx_good, List.mem_singleton.mpr rfl, c5, by rw [hd1]; exact jx_use w4.2 (hF.1 _ w4.1 w4.2), ⟨hd2, hd3⟩, fun sig hs => ?_, jx_use w.2 (hF.1 _ w.1 w.2)⟩
  rw [hs] at hd4
  exact (Option.some.inj hd4).symm
theorem j_i2c {X : jx_X} {cc : ByteArray} {own : String} {k n pc : Nat} {lv : List (Nat × Value)} {st : List Value} {h : jx_H} (C : jx_ok X cc own) {x : Int32} (d : decode cc pc = .ok (.i2c, 1)) (kk : jx_J X k n (pc + 1) lv (.int (x.toUInt32 % 65536).toInt32 :: st) h) : jx_J X k n pc lv (.int x :: st) h := by
  obtain ⟨p, l, e, R, s, m, args, below, meth, c, D, h0, nL, Q⟩ := X
  obtain ⟨hx, hb, hml, hown, hlk, hsz, hF, hfl⟩ := C
  intro H locs ls hR hdm hS hl
  exact lv_i2c hx hb d rfl (kk H locs ls hR hdm hS hl)
theorem j_ldcS {X : jx_X} {cc : ByteArray} {k n pc : Nat} {lv : List (Nat × Value)} {st : List Value} {h : jx_H} (C : jx_ok X cc RX3) (i : Nat) (hi : i < 5) (d : decode cc pc = .ok (.ldc (jx_sk i), 2)) (kk : jx_J X k n (pc + 2) lv (.ref (jx_sa X i) :: st) h) : jx_J X k n pc lv st h := by
  obtain ⟨p, l, e, R, s, m, args, below, meth, c, D, h0, nL, Q⟩ := X
  obtain ⟨hx, hb, hml, hown, hlk, hsz, hF, hfl⟩ := C
  intro H locs ls hR hdm hS hl
  exact va_ldcS hx hb hown (hF.2.2.2.2.1 i hi) d (kk H locs ls hR hdm hS hl)
theorem j_sgetv {X : jx_X} {cc : ByteArray} {own : String} {k n pc index i : Nat} {lv : List (Nat × Value)} {st : List Value} {h : jx_H} (C : jx_ok X cc own) (hi : i < 5) (w : jx_mem (Cond.fieldLink own index "java/lang/String" "value" "[B")) (d : decode cc pc = .ok (.getfield index, 3)) (kk : jx_J X k n (pc + 3) lv (.ref (jx_sv X i) :: st) h) : jx_J X k n pc lv (.ref (jx_sa X i) :: st) h := by
  obtain ⟨p, l, e, R, s, m, args, below, meth, c, D, h0, nL, Q⟩ := X
  obtain ⟨hx, hb, hml, hown, hlk, hsz, hF, hfl⟩ := C
  intro H locs ls hR hdm hS hl
  exact vk_getf hx hb (hF.2.2.2.2.2.1.1 i hi).2.2.1 hS hown (jx_use w.2 (hF.1 _ w.1 w.2)) (fun _ z => z) d (kk H locs ls hR hdm hS hl)
theorem j_sgetc {X : jx_X} {cc : ByteArray} {own : String} {k n pc index i : Nat} {lv : List (Nat × Value)} {st : List Value} {h : jx_H} (C : jx_ok X cc own) (hi : i < 5) (w : jx_mem (Cond.fieldLink own index "java/lang/String" "coder" "B")) (d : decode cc pc = .ok (.getfield index, 3)) (kk : jx_J X k n (pc + 3) lv (.int 0 :: st) h) : jx_J X k n pc lv (.ref (jx_sa X i) :: st) h := by
  obtain ⟨p, l, e, R, s, m, args, below, meth, c, D, h0, nL, Q⟩ := X
  obtain ⟨hx, hb, hml, hown, hlk, hsz, hF, hfl⟩ := C
  intro H locs ls hR hdm hS hl
  exact vk_getf hx hb (hF.2.2.2.2.2.1.1 i hi).2.1 hS hown (jx_use w.2 (hF.1 _ w.1 w.2)) (fun _ z => z) d (kk H locs ls hR hdm hS hl)
theorem j_gsC {X : jx_X} {cc : ByteArray} {own : String} {k n pc index : Nat} {lv : List (Nat × Value)} {st : List Value} {h : jx_H} (C : jx_ok X cc own) (w : jx_mem (Cond.fieldLink own index "java/lang/String" "COMPACT_STRINGS" "Z")) (d : decode cc pc = .ok (.getstatic index, 3)) (kk : jx_J X k n (pc + 3) lv (.int 1 :: st) h) : jx_J X k n pc lv st h := by
  obtain ⟨p, l, e, R, s, m, args, below, meth, c, D, h0, nL, Q⟩ := X
  obtain ⟨hx, hb, hml, hown, hlk, hsz, hF, hfl⟩ := C
  intro H locs ls hR hdm hS hl
  exact va_gets hx hb hF.2.2.2.2.2.2.1 hS hown (jx_use w.2 (hF.1 _ w.1 w.2)) (fun _ z => z) d (kk H locs ls hR hdm hS hl)
theorem j_gsF {X : jx_X} {cc : ByteArray} {own : String} {k n pc index : Nat} {lv : List (Nat × Value)} {st : List Value} {h : jx_H} (C : jx_ok X cc own) (w : jx_mem (Cond.fieldLink own index "jdk/internal/util/Preconditions" "SIOOBE_FORMATTER" "Ljava/util/function/BiFunction;")) (d : decode cc pc = .ok (.getstatic index, 3)) (kk : ∀ q : Option Nat, jx_J X k n (pc + 3) lv (va_rf q :: st) h) : jx_J X k n pc lv st h := by
  obtain ⟨p, l, e, R, s, m, args, below, meth, c, D, h0, nL, Q⟩ := X
  obtain ⟨hx, hb, hml, hown, hlk, hsz, hF, hfl⟩ := C
  intro H locs ls hR hdm hS hl
  rcases hF.2.2.2.2.2.2.2.1 with z | ⟨t, z⟩
  · exact va_gets hx hb z hS hown (jx_use w.2 (hF.1 _ w.1 w.2)) (fun _ z => z) d (kk none H locs ls hR hdm hS hl)
  · exact va_gets hx hb z hS hown (jx_use w.2 (hF.1 _ w.1 w.2)) (fun _ z => z) d (kk (some t) H locs ls hR hdm hS hl)
theorem j_salen {X : jx_X} {cc : ByteArray} {own : String} {k n pc i : Nat} {lv : List (Nat × Value)} {st : List Value} {h : jx_H} (C : jx_ok X cc own) (hi : i < 5) (d : decode cc pc = .ok (.arraylength, 1)) (kk : jx_J X k n (pc + 1) lv (.int (Int32.ofNat (jx_sl.getD i 0)) :: st) h) : jx_J X k n pc lv (.ref (jx_sv X i) :: st) h := by
  obtain ⟨p, l, e, R, s, m, args, below, meth, c, D, h0, nL, Q⟩ := X
  obtain ⟨hx, hb, hml, hown, hlk, hsz, hF, hfl⟩ := C
  intro H locs ls hR hdm hS hl
  exact va_tlen hx hb (hF.2.2.2.2.2.1.1 i hi).2.2.2 hS rfl d (kk H locs ls hR hdm hS hl)
theorem j_sbald {X : jx_X} {cc : ByteArray} {own : String} {k n pc i : Nat} {lv : List (Nat × Value)} {st : List Value} {h : jx_H} {z : Int32} (C : jx_ok X cc own) (hi : i < 5) (hz : vp_in z (jx_sl.getD i 0)) (d : decode cc pc = .ok (.baload, 1)) (kk : jx_J X k n (pc + 1) lv (.int ((jx_sb.getD i []).getD z.toNatClampNeg 0) :: st) h) : jx_J X k n pc lv (.int z :: .ref (jx_sv X i) :: st) h := by
  obtain ⟨p, l, e, R, s, m, args, below, meth, c, D, h0, nL, Q⟩ := X
  obtain ⟨hx, hb, hml, hown, hlk, hsz, hF, hfl⟩ := C
  intro H locs ls hR hdm hS hl
  exact va_tb hx hb (hF.2.2.2.2.2.1.1 i hi).2.2.2 hS hz rfl d (kk H locs ls hR hdm hS hl)
def sl_v (i k : Nat) : Int32 := ((((jx_sb.getD i []).getD k 0) &&& 255).toUInt32 % 65536).toInt32
def sl_n (i : Nat) : Option Int32 := if i < 5 then some (Int32.ofNat (jx_sl.getD i 0)) else none
def sl_c (i : Nat) (k : Int32) : Option Int32 := if i < 5 ∧ ¬ (k < 0 ∨ jx_sl.getD i 0 ≤ k.toNatClampNeg) then some (sl_v i k.toNatClampNeg) else none
theorem sl_n_spec {i : Nat} {r : Int32} (e : sl_n i = some r) : i < 5 ∧ r = Int32.ofNat (jx_sl.getD i 0) := by
  unfold sl_n at e
  split at e
  · next h => cases e; exact ⟨h, rfl⟩
  · cases e
theorem sl_c_spec {i : Nat} {k r : Int32} (e : sl_c i k = some r) : i < 5 ∧ vp_in k (jx_sl.getD i 0) ∧ r = sl_v i k.toNatClampNeg := by
  unfold sl_c at e
  split at e
  · next h => cases e; exact ⟨h.1, h.2, rfl⟩
  · cases e
theorem sl_lt_n {i : Nat} {r : Int32} (e : sl_n i = some r) : i < 5 := (sl_n_spec e).1
theorem sl_lt_c {i : Nat} {k r : Int32} (e : sl_c i k = some r) : i < 5 := (sl_c_spec e).1
theorem sl_sh : ∀ i, i < 5 → Int32.ofNat (jx_sl.getD i 0) >>> ((0 : Int32) &&& 31) = Int32.ofNat (jx_sl.getD i 0) := by decide +kernel
theorem sl_nar : ∀ i, i < 5 → ∀ k, k < jx_sl.getD i 0 → ((sl_v i k).toUInt32 % 65536).toInt32 = sl_v i k := by decide +kernel
theorem sl_len5 : ∀ i, i < 5 → jx_sl.getD i 0 ≤ 5 := by decide +kernel
theorem sl_in {i : Nat} {k : Int32} (hi : i < 5) (h : vp_in k (jx_sl.getD i 0)) : ¬ k < 0 ∧ k < Int32.ofNat (jx_sl.getD i 0) := by
  have h0 : ¬ k < 0 := fun q => h (Or.inl q)
  have h1 : k.toNatClampNeg < jx_sl.getD i 0 := Nat.not_le.mp fun q => h (Or.inr q)
  have h5 := sl_len5 i hi
  refine ⟨h0, ?_⟩
  generalize jx_sl.getD i 0 = N at h1 h5
  have a := Int32.le_iff_toInt_le.mp (Int32.not_lt.mp h0)
  have e0 : (0 : Int32).toInt = 0 := rfl
  have h1 : k.toInt.toNat < N := h1
  have e1 : (Int32.ofNat N).toInt = (N : Int) := Int32.toInt_ofNat_of_lt (by omega)
  refine Int32.lt_iff_toInt_lt.mpr ?_
  omega
def rmJa : Room := { frames := 0, cells := 0, slots := 0, locals := 0 }
def rmJ0_length_8abf5 : Room := { frames := 1, cells := 0, slots := 0, locals := 20 }
def rmJb : Room := { frames := 1, cells := 0, slots := 0, locals := 22 }
def rmJc : Room := { frames := 2, cells := 0, slots := 0, locals := 43 }
def rmJ0_charAt_5068e : Room := { frames := 3, cells := 0, slots := 0, locals := 64 }
theorem sJ0_coder {i : Nat} {h : jx_H} (hi : i < 5) : jx_CtD yJ0_coder_7d493 cJ0_coder_7d493 1 (some .byte) rmJa (fun D => [.ref (D.2.1 i)]) h (fun r' h' => some (.int 0) = r' ∧ h = h') := by
  refine jx_CtD.of (own := RJ0) (by decide) rfl (fun D => Nat.le_of_ble_eq_true rfl) (fun X C hq hr hL hN => ?_)
  refine jx_sub (lv' := [(0, .ref (jx_sa X i))]) [0] rfl ?_
  refine j_gsC C kJ0_38 dJ0_coder_7d493_0 ?_
  refine j_if_eq (tgt := 13) C dJ0_coder_7d493_3 (by decide) (fun c => absurd c (by decide)) (fun _ => ?_)
  refine j_aload_n C dJ0_coder_7d493_6 rfl rfl ?_
  refine j_sgetc C hi kJ0_15 dJ0_coder_7d493_7 ?_
  refine j_goto (tgt := 14) C dJ0_coder_7d493_10 (by decide) ?_
  exact j_iret C hq rfl dJ0_coder_7d493_14 ⟨Nat.le_of_ble_eq_true rfl, Nat.le_of_ble_eq_true rfl⟩ ⟨rfl, rfl⟩
theorem sJ0_isLatin1 {i : Nat} {h : jx_H} (hi : i < 5) : jx_CtD yJ0_isLatin1_aae02 cJ0_isLatin1_aae02 1 (some .boolean) rmJa (fun D => [.ref (D.2.1 i)]) h (fun r' h' => some (.int 1) = r' ∧ h = h') := by
  refine jx_CtD.of (own := RJ0) (by decide) rfl (fun D => Nat.le_of_ble_eq_true rfl) (fun X C hq hr hL hN => ?_)
  refine jx_sub (lv' := [(0, .ref (jx_sa X i))]) [0] rfl ?_
  refine j_gsC C kJ0_38 dJ0_isLatin1_aae02_0 ?_
  refine j_if_eq (tgt := 17) C dJ0_isLatin1_aae02_3 (by decide) (fun c => absurd c (by decide)) (fun _ => ?_)
  refine j_aload_n C dJ0_isLatin1_aae02_6 rfl rfl ?_
  refine j_sgetc C hi kJ0_15 dJ0_isLatin1_aae02_7 ?_
  refine j_if_ne (tgt := 17) C dJ0_isLatin1_aae02_10 (by decide) (fun c => absurd rfl c) (fun _ => ?_)
  refine j_iconst (v := (1 : Int32)) C dJ0_isLatin1_aae02_13 (by decide) ?_
  refine j_goto (tgt := 18) C dJ0_isLatin1_aae02_14 (by decide) ?_
  exact j_iret C hq rfl dJ0_isLatin1_aae02_18 ⟨Nat.le_of_ble_eq_true rfl, Nat.le_of_ble_eq_true rfl⟩ ⟨rfl, rfl⟩
theorem sJ0_length_8abf5 {i : Nat} {h : jx_H} {r : Int32} (e : sl_n i = some r) : jx_CtD yJ0_length_8abf5 cJ0_length_8abf5 1 (some .int) rmJ0_length_8abf5 (fun D => [.ref (D.2.1 i)]) h (fun r' h' => some (.int r) = r' ∧ h = h') := by
  obtain ⟨hi, rfl⟩ := sl_n_spec e
  refine jx_CtD.of (own := RJ0) (by decide) rfl (fun D => Nat.le_of_ble_eq_true rfl) (fun X C hq hr hL hN => ?_)
  refine jx_sub (lv' := [(0, .ref (jx_sa X i))]) [0] rfl ?_
  refine j_aload_n C dJ0_length_8abf5_0 rfl rfl ?_
  refine j_sgetv C hi kJ0_9 dJ0_length_8abf5_1 ?_
  refine j_salen C hi dJ0_length_8abf5_4 ?_
  refine j_aload_n C dJ0_length_8abf5_5 rfl rfl ?_
  refine j_callVs (i := i) (RC := RJ0) (As := []) (b := jx_sa X i) (na := 0) (st := [.int (Int32.ofNat (jx_sl.getD i 0))]) (k1 := 0) (n1 := 0) C hr hi rfl rfl (fun l hl => sJ0_coder (h := h) hi l (jx_dD X) hl) kJ0_335 kim_J0_coder_7d493 ksel_J0_coder_7d493 kini_J0 kc_J0_coder_7d493 (by decide) rfl ⟨(Nat.le_of_ble_eq_true rfl), (Nat.le_of_ble_eq_true rfl)⟩ (Nat.le_of_ble_eq_true rfl) ⟨rfl, rfl, (Nat.le_of_ble_eq_true rfl), (Nat.le_of_ble_eq_true rfl)⟩ dJ0_length_8abf5_6 ?_
  rintro _ _ ⟨rfl, rfl⟩
  show jx_J X 0 0 9 [(0, .ref (jx_sa X i))] [.int 0, .int (Int32.ofNat (jx_sl.getD i 0))] h
  refine j_ishr C dJ0_length_8abf5_9 ?_
  rw [sl_sh i hi]
  exact j_iret C hq rfl dJ0_length_8abf5_10 ⟨Nat.le_of_ble_eq_true rfl, Nat.le_of_ble_eq_true rfl⟩ ⟨rfl, rfl⟩
theorem sJ3_checkIndex {k n : Int32} {q : Option Nat} {h : jx_H} (h0 : ¬ k < 0) (h1 : k < n) : jx_Ct yJ3_checkIndex_8e157 cJ3_checkIndex_8e157 3 (some .int) rmJa [.int k, .int n, va_rf q] h (fun r' h' => some (.int k) = r' ∧ h = h') := by
  have hlen : (lg_sl [.int k, .int n, va_rf q]).length ≤ 3 := by cases q <;> exact Nat.le_of_ble_eq_true rfl
  refine jx_Ct.of (own := RJ3) (by decide) rfl hlen (fun X C hq hr hL hN => ?_)
  refine jx_sub (lv' := [(0, .int k), (1, .int n), (2, va_rf q)]) [0, 1, 2] rfl ?_
  refine j_iload_n C dJ3_checkIndex_8e157_0 rfl rfl ?_
  refine j_if_lt (tgt := 9) C dJ3_checkIndex_8e157_1 (by decide) (fun c => absurd c h0) (fun _ => ?_)
  refine j_iload_n C dJ3_checkIndex_8e157_4 rfl rfl ?_
  refine j_iload_n C dJ3_checkIndex_8e157_5 rfl rfl ?_
  refine j_icmp_lt (tgt := 16) C dJ3_checkIndex_8e157_6 (by decide) (fun _ => ?_) (fun c => absurd h1 c)
  refine j_iload_n C dJ3_checkIndex_8e157_16 rfl rfl ?_
  exact j_iret C hq rfl dJ3_checkIndex_8e157_17 ⟨Nat.le_of_ble_eq_true rfl, Nat.le_of_ble_eq_true rfl⟩ ⟨rfl, rfl⟩
theorem sJ0_checkIndex {k n : Int32} {h : jx_H} (h0 : ¬ k < 0) (h1 : k < n) : jx_Ct yJ0_checkIndex_df160 cJ0_checkIndex_df160 2 none rmJb [.int k, .int n] h (fun r' h' => none = r' ∧ h = h') := by
  refine jx_Ct.of (own := RJ0) (by decide) rfl (Nat.le_of_ble_eq_true rfl) (fun X C hq hr hL hN => ?_)
  refine jx_sub (lv' := [(0, .int k), (1, .int n)]) [0, 1] rfl ?_
  refine j_iload_n C dJ0_checkIndex_df160_0 rfl rfl ?_
  refine j_iload_n C dJ0_checkIndex_df160_1 rfl rfl ?_
  refine j_gsF C kJ0_1053 dJ0_checkIndex_df160_2 (fun q => ?_)
  refine j_callS (As := [.int k, .int n, va_rf q]) (na := 3) (st := []) (k1 := 0) (n1 := 0) C hr (sJ3_checkIndex h0 h1) kJ0_1059 kst_J3_checkIndex_8e157 kini_J3 kc_J3_checkIndex_8e157 (by decide) rfl ⟨(Nat.le_of_ble_eq_true rfl), (Nat.le_of_ble_eq_true rfl)⟩ (Nat.le_of_ble_eq_true rfl) ⟨rfl, rfl, (Nat.le_of_ble_eq_true rfl), (Nat.le_of_ble_eq_true rfl)⟩ dJ0_checkIndex_df160_5 ?_
  rintro _ _ ⟨rfl, rfl⟩
  show jx_J X 0 0 8 [(0, .int k), (1, .int n)] [.int k] h
  refine j_pop C dJ0_checkIndex_df160_8 rfl ?_
  exact j_vret C hq dJ0_checkIndex_df160_9 ⟨Nat.le_of_ble_eq_true rfl, Nat.le_of_ble_eq_true rfl⟩ ⟨rfl, rfl⟩
theorem sJ1_charAt {i : Nat} {k : Int32} {h : jx_H} (hi : i < 5) (hk : vp_in k (jx_sl.getD i 0)) : jx_CtD yJ1_charAt_3b067 cJ1_charAt_3b067 2 (some .char) rmJc (fun D => [.ref (D.2.2 i), .int k]) h (fun r' h' => some (.int (sl_v i k.toNatClampNeg)) = r' ∧ h = h') := by
  obtain ⟨h0, h1⟩ := sl_in hi hk
  have hkn : k.toNatClampNeg < jx_sl.getD i 0 := Nat.not_le.mp fun q => hk (Or.inr q)
  refine jx_CtD.of (own := RJ1) (by decide) rfl (fun D => Nat.le_of_ble_eq_true rfl) (fun X C hq hr hL hN => ?_)
  refine jx_sub (lv' := [(0, .ref (jx_sv X i)), (1, .int k)]) [0, 1] rfl ?_
  refine j_iload_n C dJ1_charAt_3b067_0 rfl rfl ?_
  refine j_aload_n C dJ1_charAt_3b067_1 rfl rfl ?_
  refine j_salen C hi dJ1_charAt_3b067_2 ?_
  refine j_callS (As := [.int k, .int (Int32.ofNat (jx_sl.getD i 0))]) (na := 2) (st := []) (k1 := 0) (n1 := 0) C hr (sJ0_checkIndex h0 h1) kJ1_9 kst_J0_checkIndex_df160 kini_J0 kc_J0_checkIndex_df160 (by decide) rfl ⟨(Nat.le_of_ble_eq_true rfl), (Nat.le_of_ble_eq_true rfl)⟩ (Nat.le_of_ble_eq_true rfl) ⟨rfl, rfl, (Nat.le_of_ble_eq_true rfl), (Nat.le_of_ble_eq_true rfl)⟩ dJ1_charAt_3b067_3 ?_
  rintro _ _ ⟨rfl, rfl⟩
  show jx_J X 0 0 6 [(0, .ref (jx_sv X i)), (1, .int k)] [] h
  refine j_aload_n C dJ1_charAt_3b067_6 rfl rfl ?_
  refine j_iload_n C dJ1_charAt_3b067_7 rfl rfl ?_
  refine j_sbald C hi hk dJ1_charAt_3b067_8 ?_
  refine j_sipush (v := (255 : Int32)) C dJ1_charAt_3b067_9 (by decide) ?_
  refine j_iand C dJ1_charAt_3b067_12 ?_
  refine j_i2c C dJ1_charAt_3b067_13 ?_
  exact j_iret C hq (congrArg Value.int (sl_nar i hi _ hkn)) dJ1_charAt_3b067_14 ⟨Nat.le_of_ble_eq_true rfl, Nat.le_of_ble_eq_true rfl⟩ ⟨rfl, rfl⟩
theorem sJ0_charAt_5068e {i : Nat} {k : Int32} {h : jx_H} {r : Int32} (e : sl_c i k = some r) : jx_CtD yJ0_charAt_5068e cJ0_charAt_5068e 2 (some .char) rmJ0_charAt_5068e (fun D => [.ref (D.2.1 i), .int k]) h (fun r' h' => some (.int r) = r' ∧ h = h') := by
  obtain ⟨hi, hk, rfl⟩ := sl_c_spec e
  have hkn : k.toNatClampNeg < jx_sl.getD i 0 := Nat.not_le.mp fun q => hk (Or.inr q)
  refine jx_CtD.of (own := RJ0) (by decide) rfl (fun D => Nat.le_of_ble_eq_true rfl) (fun X C hq hr hL hN => ?_)
  refine jx_sub (lv' := [(0, .ref (jx_sa X i)), (1, .int k)]) [0, 1] rfl ?_
  refine j_aload_n C dJ0_charAt_5068e_0 rfl rfl ?_
  refine j_callVs (i := i) (RC := RJ0) (As := []) (b := jx_sa X i) (na := 0) (st := []) (k1 := 0) (n1 := 0) C hr hi rfl rfl (fun l hl => sJ0_isLatin1 (h := h) hi l (jx_dD X) hl) kJ0_492 kim_J0_isLatin1_aae02 ksel_J0_isLatin1_aae02 kini_J0 kc_J0_isLatin1_aae02 (by decide) rfl ⟨(Nat.le_of_ble_eq_true rfl), (Nat.le_of_ble_eq_true rfl)⟩ (Nat.le_of_ble_eq_true rfl) ⟨rfl, rfl, (Nat.le_of_ble_eq_true rfl), (Nat.le_of_ble_eq_true rfl)⟩ dJ0_charAt_5068e_1 ?_
  rintro _ _ ⟨rfl, rfl⟩
  show jx_J X 0 0 4 [(0, .ref (jx_sa X i)), (1, .int k)] [.int 1] h
  refine j_if_eq (tgt := 16) C dJ0_charAt_5068e_4 (by decide) (fun c => absurd c (by decide)) (fun _ => ?_)
  refine j_aload_n C dJ0_charAt_5068e_7 rfl rfl ?_
  refine j_sgetv C hi kJ0_9 dJ0_charAt_5068e_8 ?_
  refine j_iload_n C dJ0_charAt_5068e_11 rfl rfl ?_
  refine j_callSD (As := [.ref (jx_sv X i), .int k]) (na := 2) (st := []) (k1 := 0) (n1 := 0) C hr (fun l hl => sJ1_charAt (h := h) hi hk l (jx_dD X) hl) kJ0_495 kst_J1_charAt_3b067 kini_J1 kc_J1_charAt_3b067 (by decide) rfl ⟨(Nat.le_of_ble_eq_true rfl), (Nat.le_of_ble_eq_true rfl)⟩ (Nat.le_of_ble_eq_true rfl) ⟨rfl, rfl, (Nat.le_of_ble_eq_true rfl), (Nat.le_of_ble_eq_true rfl)⟩ dJ0_charAt_5068e_12 ?_
  rintro _ _ ⟨rfl, rfl⟩
  show jx_J X 0 0 15 [(0, .ref (jx_sa X i)), (1, .int k)] [.int (sl_v i k.toNatClampNeg)] h
  exact j_iret C hq (congrArg Value.int (sl_nar i hi _ hkn)) dJ0_charAt_5068e_15 ⟨Nat.le_of_ble_eq_true rfl, Nat.le_of_ble_eq_true rfl⟩ ⟨rfl, rfl⟩
