/-! methods that throw: their contract, their ends, the throw itself -/
abbrev jx_PX : Type := String → jx_H → Prop
def jx_XC (D : jx_D) (h0 : jx_H) (postX : jx_PX) : String → State → State → Prop := fun E st t => (∃ h1 : jx_H, postX E h1 ∧ jx_R D.1 t h1 t.heap ∧ ∀ q : Nat, h1.2 q ≠ none → jx_A h0 q) ∧ va_F (jx_A h0) st t
def jx_Cx (y : MethodName) (cc : ByteArray) (maxL : Nat) (ret : Option FieldType) (rm : Room) (av : List Value) (h : jx_H) (post : jx_P) (postX : jx_PX) : Prop := ∀ (l : Launch) (D : jx_D), l.stackTraces = false → vx_Met l y [.code y cc maxL ret] rm (jx_Pc D av h) (jx_Qc D h post) (jx_XC D h postX) rm.cells rm.slots (jx_A h)
/-- how such a method ends -/
def jx_qx (X : jx_X) (rt : Option FieldType) (post : jx_P) (postX : jx_PX) (mc ms : Nat) : Prop := match X with
  | (p, l, e, R, s, m, args, below, meth, c, D, h0, nL, Q) => Q = vx_MQ below (jx_Qc D h0 post) (jx_XC D h0 postX) args s mc ms (jx_A h0) ∧ meth.sig.returnType = rt ∧ (∀ x ∈ c.exceptionTable.toList, False)
theorem jx_Cx.of {y : MethodName} {cc : ByteArray} {maxL : Nat} {ret : Option FieldType} {rm : Room} {av : List Value} {h : jx_H} {post : jx_P} {postX : jx_PX} {own : String} (hy : plainName y.cls = true) (ho : y.cls = own) (hlen : (lg_sl av).length ≤ maxL)
    (body : ∀ X : jx_X, jx_ok X cc own → jx_qx X ret post postX rm.cells rm.slots → jx_r X rm → jx_nl X maxL → jx_nm X y → jx_J X 0 0 0 (lv_args 0 av) [] h) : jx_Cx y cc maxL ret rm av h post postX := by
  intro l D hl
  refine vx_ofW (cc := cc) (maxL := maxL) (ret := ret) hy rfl ?_
  intro p e s m args below meth c s₁ B hml hnt hv
  obtain ⟨rfl, hR, hF⟩ := hv
  have K := body (p, l, e, rm, s, m, av.toArray, below, meth, c, D, h, maxL, vx_MQ below (jx_Qc D h post) (jx_XC D h postX) av.toArray s rm.cells rm.slots (jx_A h)) ⟨B.exec, B.bytes, hml, by rw [← ho]; exact findClass_of_methodNamed B.named, B.notSynchronized, hR.1, hF, hl⟩ ⟨rfl, B.returns, hnt⟩ rfl rfl (name_of_methodNamed B.named B.method).1
  have hl := lv_entry av (n := maxL) hlen
  rw [lg_entry_eq]
  exact K s.heap [] _ hR (fun q hq => Or.inl hq) va_S.rf hl
theorem j_iretX {X : jx_X} {cc : ByteArray} {own : String} {k n pc mc ms : Nat} {lv : List (Nat × Value)} {h : jx_H} {v : Int32} {ty : FieldType} {post : jx_P} {postX : jx_PX} (C : jx_ok X cc own) (hq : jx_qx X (some ty) post postX mc ms) (hn : narrow ty (.int v) = .int v) (d : decode cc pc = .ok (.ireturn, 1)) (hk : k ≤ mc ∧ n ≤ ms) (hp : post (some (.int v)) h) : jx_J X k n pc lv [.int v] h := by
  obtain ⟨p, l, e, R, s, m, args, below, meth, c, D, h0, nL, Q⟩ := X
  obtain ⟨hx, hb, hml, hown, hlk, hsz, hF, hfl⟩ := C
  obtain ⟨rfl, hrt, -⟩ := hq
  intro H locs ls hR hdm hS hl
  exact vx_ret (W.widen hk.1 hk.2 (W.zret hx hb hrt hn (fun t ht hW => ⟨⟨_, _, rfl, hp, by rw [ht]; exact hR.moved hW.alike, hdm⟩, hS.F ht⟩) hS.2.2 d hlk))
theorem j_vretX {X : jx_X} {cc : ByteArray} {own : String} {k n pc mc ms : Nat} {lv : List (Nat × Value)} {h : jx_H} {post : jx_P} {postX : jx_PX} (C : jx_ok X cc own) (hq : jx_qx X none post postX mc ms) (d : decode cc pc = .ok (.return_, 1)) (hk : k ≤ mc ∧ n ≤ ms) (hp : post none h) : jx_J X k n pc lv [] h := by
  obtain ⟨p, l, e, R, s, m, args, below, meth, c, D, h0, nL, Q⟩ := X
  obtain ⟨hx, hb, hml, hown, hlk, hsz, hF, hfl⟩ := C
  obtain ⟨rfl, hrt, -⟩ := hq
  intro H locs ls hR hdm hS hl
  exact vx_ret (W.widen hk.1 hk.2 (W.vret hx hb hrt (fun t ht hW => ⟨⟨_, _, rfl, hp, by rw [ht]; exact hR.moved hW.alike, hdm⟩, hS.F ht⟩) hS.2.2 d hlk))
theorem j_throw0 {X : jx_X} {cc : ByteArray} {own cls : String} {names : List String} {ik ic k n pc mc ms : Nat} {lv : List (Nat × Value)} {st : List Value} {h : jx_H} {rt : Option FieldType} {post : jx_P} {postX : jx_PX} {rm : Room} (C : jx_ok X cc own) (hr : jx_r X rm) (hq : jx_qx X rt post postX mc ms) (hcls : Bundle.fit cls = true) (hnames : ∀ n ∈ names, Bundle.fit n = true)
    (wk : jx_mem (Cond.classLink own ik cls)) (wi : jx_mem (Cond.initialized cls)) (wa : ∀ w ∈ vx_at0 own ic cls names, jx_mem w ∧ vx_ot w = true) (wg : vx_ot (Cond.classLink own ik cls) = true ∧ vx_ot (Cond.initialized cls) = true)
    (d0 : decode cc pc = .ok (.new ik, 3)) (d3 : decode cc (pc + 3) = .ok (.dup, 1)) (d4 : decode cc (pc + 4) = .ok (.invokespecial ic, 3)) (d7 : decode cc (pc + 7) = .ok (.athrow, 1))
    (hfr : names.length + 3 < rm.frames) (hlo : (st.map fun v => v.category).sum + (13 * (names.length + 1) + 42) ≤ rm.locals) (hk : k + 1 ≤ mc ∧ n + 6 ≤ ms ∧ k + 1 ≤ rm.cells ∧ n + 6 ≤ rm.slots) (hp : ∀ sz : Nat, h.1 ≤ sz → postX cls (sz, h.2)) : jx_J X k n pc lv st h := by
  obtain ⟨p, l, e, R, s, m, args, below, meth, c, D, h0, nL, Q⟩ := X
  obtain ⟨hx, hb, hml, hown, hlk, hsz, hF, hfl⟩ := C
  obtain ⟨rfl, hrt, hnt⟩ := hq
  obtain rfl : R = rm := hr
  intro H locs ls hR hdm hS hl
  refine vx_throw0 (names := names) hx hb hfl hown hcls hnames (jx_use wk.2 (hF.1 _ wk.1 wk.2)) (jx_use wi.2 (hF.1 _ wi.1 wi.2)) (fun w hw => jx_use (wa w hw).1.2 (hF.1 _ (wa w hw).1.1 (wa w hw).1.2)) (fun w hw => ?_) hF.2.2.2.2.2.2.2.2.1 hF.2.2.2.2.2.2.2.2.2.1 hS (hl.1.trans hml.symm) d0 d3 d4 d7 (fun x hx => (hnt x hx).elim) hfr hlo hk.2.2.1 hk.2.2.2 hlk (fun t hvm hz ho => ?_) hS.2.2 hk.1 hk.2.1
  · rcases List.mem_cons.mp hw with rfl | hw
    · exact wg.1
    · rcases List.mem_cons.mp hw with rfl | hw
      · exact wg.2
      · exact (wa w hw).2
  · exact ⟨⟨(t.heap.size, h.2), hp _ (by rw [← hR.1]; exact hz), ⟨rfl, fun a e he => ((hR.2 a e he).kept (ho a (hR.2 a e he).lt)).moved hvm⟩, hdm⟩, Nat.le_trans hS.1 hz, fun q q1 q2 => (ho q (Nat.lt_of_lt_of_le q1 hS.1)).trans (hS.2.1 q q1 q2)⟩
/-- the words of a throw in BorderBasis -/
def jx_names : List String := ["java/lang/RuntimeException", "java/lang/Exception"]
set_option maxRecDepth 200000 in
theorem jx_fits : (∀ n ∈ jx_names, Bundle.fit n = true) ∧ Bundle.fit "java/lang/IllegalStateException" = true ∧ Bundle.fit "java/lang/IllegalArgumentException" = true ∧ Bundle.fit "java/lang/IndexOutOfBoundsException" = true := by decide +kernel
set_option maxRecDepth 200000 in
theorem jx_thISE : ∀ w ∈ vx_at0 RX9 99 "java/lang/IllegalStateException" jx_names, (w ∈ lw_tbl ∧ jx_tw w = true) ∧ vx_ot w = true := by decide +kernel
set_option maxRecDepth 200000 in
theorem jx_thIAE : ∀ w ∈ vx_at0 RX9 106 "java/lang/IllegalArgumentException" jx_names, (w ∈ lw_tbl ∧ jx_tw w = true) ∧ vx_ot w = true := by decide +kernel
set_option maxRecDepth 200000 in
theorem jx_thIOB : ∀ w ∈ vx_at0 RX9 154 "java/lang/IndexOutOfBoundsException" jx_names, (w ∈ lw_tbl ∧ jx_tw w = true) ∧ vx_ot w = true := by decide +kernel
