/-! calls by contract, and ends -/
theorem jx_good {y : MethodName} {cc : ByteArray} {maxL : Nat} {ret : Option FieldType} : GoodIn [Cond.code y cc maxL ret] [Cond.code y cc maxL ret] := fun w hw => ⟨hw, by
  obtain rfl := List.mem_singleton.mp hw
  exact Or.inl rfl⟩
theorem jx_PcB {D : jx_D} {av : List Value} {h : jx_H} : FrameBlind (jx_Pc D av h) := by
  intro a U g mk q
  obtain ⟨q0, q1, q2⟩ := q
  exact ⟨q0, jx_R.moved (u := U) (U := U.calling g mk a) (Vm.Alike.refl U.vm) q1, q2.to (State.WarmedH.refl U) (fun _ _ _ => rfl) (fun _ z => z)⟩
theorem jx_sub_A {h0 h : jx_H} {s : State} {D : va_G} {H : Heap} {locs : List Loc} (hR : jx_R D s h H) (hsz : s.heap.size = h0.1) (hS : va_S (jx_A h0) s.heap H locs) (hd : ∀ q : Nat, h.2 q ≠ none → jx_A h0 q) : ∀ q, jx_A h q → jx_A h0 q := by
  intro q hq
  rcases hq with hq | hq
  · exact hd q hq
  · refine Or.inr ?_
    rw [← hsz]
    exact Nat.le_trans hS.1 (by rw [hR.1]; exact hq)
/-- the callee's start -/
theorem jx_pre {h0 h : jx_H} {s : State} {D : jx_D} {H : Heap} {locs : List Loc} {av : List Value} (hR : jx_R D.1 s h H) (hsz : s.heap.size = h0.1) (hS : va_S (jx_A h0) s.heap H locs) (hd : ∀ q : Nat, h.2 q ≠ none → jx_A h0 q) (hF : jx_F D (jx_A h0) s s.heap) : ∀ U : State, U.heap = H → s.WarmedH U.vm → jx_Pc D av h av.toArray U := by
  intro U hU hW
  refine ⟨rfl, by rw [hU]; exact hR.moved hW.alike, ?_⟩
  rw [hU]
  exact hF.to hW hS.2.1 (jx_sub_A hR hsz hS hd)
/-- behind a call -/
theorem jx_after {p : Program} {l : Launch} {e : Env} {R : Room} {s : State} {m : MethodId} {args : Array Value} {below : List Frame} {meth : Method} {c : Code} {D : jx_D} {h0 h : jx_H} {nL : Nat} {Q : State → Prop} {k n mc ms pc : Nat} {lv : List (Nat × Value)} {rest st0 : List Value} {post : jx_P} {H : Heap} {locs : List Loc} {ls : Array Slot} {av : Array Value}
    (hR : jx_R D.1 s h H) (hsz : s.heap.size = h0.1) (hS : va_S (jx_A h0) s.heap H locs) (hd : ∀ q : Nat, h.2 q ≠ none → jx_A h0 q) (hl : lv_has ls nL lv)
    (hr : va_Run p l e R s m args below meth c H locs k n mc ms (F0 m pc ls st0) rest (jx_Qc D h post av) (jx_A h))
    (kk : ∀ (r : Option Value) (h1 : jx_H), post r h1 → jx_J (p, l, e, R, s, m, args, below, meth, c, D, h0, nL, Q) (k + mc) (n + ms) (pc + 3) lv (r.toList ++ rest) h1) :
    W p l e R s m args below meth c H locs k n Q (F0 m pc ls st0) := by
  have hsub := jx_sub_A hR hsz hS hd
  intro T hT X
  obtain ⟨v, st₀, t, T', L, g0, X', hL, e1, e2, ⟨⟨r, h1, hv, hp, hR1, hd1⟩, hz, hk⟩, st⟩ := hr T hT X
  cases hv
  rw [g0] at hz hk
  have hR2 : jx_R D.1 s h1 T'.heap := by
    rw [e1]
    exact hR1.moved (by rw [← e2]; exact X'.warmed.alike.symm)
  obtain ⟨t2, a1, b1⟩ := kk v h1 hp T'.heap (locs ++ L) ls hR2 (fun q hq => hsub q (hd1 q hq))
    ⟨Nat.le_trans hS.1 (by rw [e1]; exact hz), fun q q1 q2 => by rw [e1, hk q (Nat.lt_of_lt_of_le q1 hS.1) (fun z => q2 (hsub q z))]; exact hS.2.1 q q1 q2, fun q hq => by
      rcases List.mem_append.mp hq with q1 | q1
      · exact hS.2.2 q q1
      · exact hsub _ (hL q q1)⟩ hl T' rfl X'
  exact ⟨t2, st t2 a1, b1⟩
theorem j_callV {X : jx_X} {cc bytes : ByteArray} {own RC : String} {k n pc index maxL : Nat} {lv : List (Nat × Value)} {As st : List Value} {h : jx_H} {b ci : Nat} {T : u_T} {N : Nat} {y : MethodName} {ret : Option FieldType} {rm rmY : Room} {post : jx_P} {k1 n1 na : Nat} (C : jx_ok X cc own) (hr : jx_r X rm) (hM : jx_Ct y bytes maxL ret rmY (.ref b :: As) h post) (hc : jx_cl[ci]? = some (RC, T, N)) (ho : isO h b ci = some ())
    (w : jx_mem (Cond.methodLink own index y)) (w2 : jx_mem (Cond.instanceMethod y)) (w3 : jx_mem (Cond.selects RC y y)) (w4 : jx_mem (Cond.initialized RC)) (w5 : jx_mem (Cond.code y bytes maxL ret)) (hd : y.cls = RC ∧ y.cls ≠ "java/lang/invoke/MethodHandle" ∧ y.cls ≠ "java/lang/invoke/VarHandle" ∧ (parseMethodDescriptor y.desc).map (fun d => d.parameters.length) = some na) (hna : As.length = na)
    (hfr : rmY.frames + 1 ≤ rm.frames ∧ 8 + (maxL + 11) + rmY.locals ≤ rm.locals) (hcat : (st.map fun v => v.category).sum ≤ 8) (hk : k + rmY.cells = k1 ∧ n + rmY.slots = n1 ∧ k1 ≤ rm.cells ∧ n1 ≤ rm.slots) (d : decode cc pc = .ok (.invokevirtual index, 3))
    (kk : ∀ (r : Option Value) (h1 : jx_H), post r h1 → jx_J X k1 n1 (pc + 3) lv (r.toList ++ st) h1) : jx_J X k n pc lv (As.reverse ++ .ref b :: st) h := by
  obtain ⟨p, l, e, R, s, m, args, below, meth, c, D, h0, nL, Q⟩ := X
  obtain ⟨hx, hb, hml, hown, hlk, hsz, hF, hfl⟩ := C
  obtain rfl : R = rm := hr
  obtain ⟨rfl, rfl, hk⟩ := hk
  subst hna
  intro H locs ls hR hdm hS hl
  obtain ⟨hd1, hd2, hd3, hd4⟩ := hd
  have c5 : (Cond.code y bytes maxL ret).before args s = true := jx_use w5.2 (hF.1 _ w5.1 w5.2)
  obtain ⟨fs, ho1⟩ := isO_spec ho
  obtain ⟨r9, hr9, cell, q1, q2, q3, q4⟩ := (show va_at D.1 jx_cl (b, .inr (ci, fs)) H from hR.2 b _ ho1)
  refine jx_after (D := D) (h0 := h0) (nL := nL) hR hsz hS hdm hl (va_runV (bytes := bytes) (maxL := maxL) (ret := ret) (As := As) (rest := st) (Ts := [Cond.code y bytes maxL ret]) (C := RC) ⟨hx, hb, hml, hown, fun w hw => by obtain rfl := List.mem_singleton.mp hw; exact c5⟩ (hM l D hfl) ⟨?_, jx_use w2.2 (hF.1 _ w2.1 w2.2), jx_use w3.2 (hF.1 _ w3.1 w3.2)⟩ ⟨jx_PcB, ⟨cell, q1, by rw [q3]; rfl, by rw [q2]; exact (hF.2.2.2.1.1 ci _ hc).2.1⟩, jx_pre hR hsz hS hdm hF⟩ rfl rfl hl.1 rfl (lv_room hcat) d hk) kk
  refine ⟨rfl, rfl, hfr.1, hfr.2, pay_in (fun w hw => by obtain rfl := List.mem_singleton.mp hw; exact c5) jx_good, List.mem_singleton.mpr rfl, c5, by rw [hd1]; exact jx_use w4.2 (hF.1 _ w4.1 w4.2), ⟨hd2, hd3⟩, fun sig hs => ?_, jx_use w.2 (hF.1 _ w.1 w.2)⟩
  rw [hs] at hd4
  exact (Option.some.inj hd4).symm
theorem j_callS {X : jx_X} {cc bytes : ByteArray} {own : String} {k n pc index maxL : Nat} {lv : List (Nat × Value)} {As st : List Value} {h : jx_H} {y : MethodName} {ret : Option FieldType} {rm rmY : Room} {post : jx_P} {k1 n1 na : Nat} (C : jx_ok X cc own) (hr : jx_r X rm) (hM : jx_Ct y bytes maxL ret rmY As h post)
    (w : jx_mem (Cond.methodLink own index y)) (w2 : jx_mem (Cond.static y)) (w4 : jx_mem (Cond.initialized y.cls)) (w5 : jx_mem (Cond.code y bytes maxL ret)) (hd : y.cls ≠ "java/lang/invoke/MethodHandle" ∧ y.cls ≠ "java/lang/invoke/VarHandle" ∧ (parseMethodDescriptor y.desc).map (fun d => d.parameters.length) = some na) (hna : As.length = na)
    (hfr : rmY.frames + 1 ≤ rm.frames ∧ 8 + (maxL + 11) + rmY.locals ≤ rm.locals) (hcat : (st.map fun v => v.category).sum ≤ 8) (hk : k + rmY.cells = k1 ∧ n + rmY.slots = n1 ∧ k1 ≤ rm.cells ∧ n1 ≤ rm.slots) (d : decode cc pc = .ok (.invokestatic index, 3))
    (kk : ∀ (r : Option Value) (h1 : jx_H), post r h1 → jx_J X k1 n1 (pc + 3) lv (r.toList ++ st) h1) : jx_J X k n pc lv (As.reverse ++ st) h := by
  obtain ⟨p, l, e, R, s, m, args, below, meth, c, D, h0, nL, Q⟩ := X
  obtain ⟨hx, hb, hml, hown, hlk, hsz, hF, hfl⟩ := C
  obtain rfl : R = rm := hr
  obtain ⟨rfl, rfl, hk⟩ := hk
  subst hna
  intro H locs ls hR hdm hS hl
  obtain ⟨hd2, hd3, hd4⟩ := hd
  have c5 : (Cond.code y bytes maxL ret).before args s = true := jx_use w5.2 (hF.1 _ w5.1 w5.2)
  refine jx_after (D := D) (h0 := h0) (nL := nL) hR hsz hS hdm hl (va_runS (bytes := bytes) (maxL := maxL) (ret := ret) (As := As) (rest := st) (Ts := [Cond.code y bytes maxL ret]) ⟨hx, hb, hml, hown, fun w hw => by obtain rfl := List.mem_singleton.mp hw; exact c5⟩ (hM l D hfl) ⟨?_, jx_use w2.2 (hF.1 _ w2.1 w2.2)⟩ ⟨jx_PcB, jx_pre hR hsz hS hdm hF⟩ rfl rfl hl.1 rfl (lv_room hcat) d hk) kk
  refine ⟨rfl, rfl, hfr.1, hfr.2, pay_in (fun w hw => by obtain rfl := List.mem_singleton.mp hw; exact c5) jx_good, List.mem_singleton.mpr rfl, c5, jx_use w4.2 (hF.1 _ w4.1 w4.2), ⟨hd2, hd3⟩, fun sig hs => ?_, jx_use w.2 (hF.1 _ w.1 w.2)⟩
  rw [hs] at hd4
  exact (Option.some.inj hd4).symm
theorem j_callSN {X : jx_X} {cc bytes : ByteArray} {own host : String} {k n pc index maxL : Nat} {lv : List (Nat × Value)} {As st : List Value} {h : jx_H} {y : MethodName} {ret : Option FieldType} {rm rmY : Room} {post : jx_P} {k1 n1 na : Nat} (C : jx_ok X cc own) (hr : jx_r X rm) (hM : jx_Ct y bytes maxL ret rmY As h post)
    (w : jx_mem (Cond.methodLinkNest own index y host)) (w2 : jx_mem (Cond.static y)) (w4 : jx_mem (Cond.initialized y.cls)) (w5 : jx_mem (Cond.code y bytes maxL ret)) (hd : y.cls ≠ "java/lang/invoke/MethodHandle" ∧ y.cls ≠ "java/lang/invoke/VarHandle" ∧ (parseMethodDescriptor y.desc).map (fun d => d.parameters.length) = some na) (hna : As.length = na)
    (hfr : rmY.frames + 1 ≤ rm.frames ∧ 8 + (maxL + 11) + rmY.locals ≤ rm.locals) (hcat : (st.map fun v => v.category).sum ≤ 8) (hk : k + rmY.cells = k1 ∧ n + rmY.slots = n1 ∧ k1 ≤ rm.cells ∧ n1 ≤ rm.slots) (d : decode cc pc = .ok (.invokestatic index, 3))
    (kk : ∀ (r : Option Value) (h1 : jx_H), post r h1 → jx_J X k1 n1 (pc + 3) lv (r.toList ++ st) h1) : jx_J X k n pc lv (As.reverse ++ st) h := by
  obtain ⟨p, l, e, R, s, m, args, below, meth, c, D, h0, nL, Q⟩ := X
  obtain ⟨hx, hb, hml, hown, hlk, hsz, hF, hfl⟩ := C
  obtain rfl : R = rm := hr
  obtain ⟨rfl, rfl, hk⟩ := hk
  subst hna
  intro H locs ls hR hdm hS hl
  obtain ⟨hd2, hd3, hd4⟩ := hd
  have c5 : (Cond.code y bytes maxL ret).before args s = true := jx_use w5.2 (hF.1 _ w5.1 w5.2)
  refine jx_after (D := D) (h0 := h0) (nL := nL) hR hsz hS hdm hl (va_runSN (bytes := bytes) (maxL := maxL) (ret := ret) (As := As) (rest := st) (Ts := [Cond.code y bytes maxL ret]) (host := host) ⟨hx, hb, hml, hown, fun w hw => by obtain rfl := List.mem_singleton.mp hw; exact c5⟩ (hM l D hfl) ⟨⟨?_, c5, jx_use w4.2 (hF.1 _ w4.1 w4.2), ⟨hd2, hd3⟩, fun sig hs => ?_, jx_use w.2 (hF.1 _ w.1 w.2)⟩, jx_use w2.2 (hF.1 _ w2.1 w2.2), trivial⟩ ⟨jx_PcB, jx_pre hR hsz hS hdm hF⟩ rfl rfl hl.1 rfl (lv_room hcat) d hk) kk
  · exact ⟨rfl, rfl, hfr.1, hfr.2, pay_in (fun w hw => by obtain rfl := List.mem_singleton.mp hw; exact c5) jx_good, List.mem_singleton.mpr rfl⟩
  · rw [hs] at hd4
    exact (Option.some.inj hd4).symm
theorem j_callI {X : jx_X} {cc bytes : ByteArray} {own : String} {k n pc index maxL : Nat} {lv : List (Nat × Value)} {As st : List Value} {h : jx_H} {b : Nat} {y : MethodName} {rm rmY : Room} {post : jx_P} {k1 n1 na : Nat} (C : jx_ok X cc own) (hr : jx_r X rm) (hM : jx_Ct y bytes maxL none rmY (.ref b :: As) h post)
    (w : jx_mem (Cond.methodLink own index y)) (w2 : jx_mem (Cond.instanceMethod y)) (w4 : jx_mem (Cond.initialized y.cls)) (w5 : jx_mem (Cond.code y bytes maxL none)) (hd : y.name = "<init>" ∧ y.cls ≠ "java/lang/invoke/MethodHandle" ∧ y.cls ≠ "java/lang/invoke/VarHandle" ∧ (parseMethodDescriptor y.desc).map (fun d => d.parameters.length) = some na) (hna : As.length = na)
    (hfr : rmY.frames + 1 ≤ rm.frames ∧ 8 + (maxL + 11) + rmY.locals ≤ rm.locals) (hcat : (st.map fun v => v.category).sum ≤ 8) (hk : k + rmY.cells = k1 ∧ n + rmY.slots = n1 ∧ k1 ≤ rm.cells ∧ n1 ≤ rm.slots) (d : decode cc pc = .ok (.invokespecial index, 3))
    (kk : ∀ (r : Option Value) (h1 : jx_H), post r h1 → jx_J X k1 n1 (pc + 3) lv (r.toList ++ st) h1) : jx_J X k n pc lv (As.reverse ++ .ref b :: st) h := by
  obtain ⟨p, l, e, R, s, m, args, below, meth, c, D, h0, nL, Q⟩ := X
  obtain ⟨hx, hb, hml, hown, hlk, hsz, hF, hfl⟩ := C
  obtain rfl : R = rm := hr
  obtain ⟨rfl, rfl, hk⟩ := hk
  subst hna
  intro H locs ls hR hdm hS hl
  obtain ⟨hd1, hd2, hd3, hd4⟩ := hd
  have c5 : (Cond.code y bytes maxL none).before args s = true := jx_use w5.2 (hF.1 _ w5.1 w5.2)
  refine jx_after (D := D) (h0 := h0) (nL := nL) hR hsz hS hdm hl (va_runI (bytes := bytes) (maxL := maxL) (As := As) (rest := st) (Ts := [Cond.code y bytes maxL none]) ⟨hx, hb, hml, hown, fun w hw => by obtain rfl := List.mem_singleton.mp hw; exact c5⟩ (hM l D hfl) ⟨?_, hd1, jx_use w2.2 (hF.1 _ w2.1 w2.2)⟩ ⟨jx_PcB, jx_pre hR hsz hS hdm hF⟩ rfl rfl hl.1 rfl (lv_room hcat) d hk) kk
  refine ⟨rfl, rfl, hfr.1, hfr.2, pay_in (fun w hw => by obtain rfl := List.mem_singleton.mp hw; exact c5) jx_good, List.mem_singleton.mpr rfl, c5, jx_use w4.2 (hF.1 _ w4.1 w4.2), ⟨hd2, hd3⟩, fun sig hs => ?_, jx_use w.2 (hF.1 _ w.1 w.2)⟩
  rw [hs] at hd4
  exact (Option.some.inj hd4).symm
theorem j_callIN {X : jx_X} {cc bytes : ByteArray} {own host : String} {k n pc index maxL : Nat} {lv : List (Nat × Value)} {As st : List Value} {h : jx_H} {b : Nat} {y : MethodName} {rm rmY : Room} {post : jx_P} {k1 n1 na : Nat} (C : jx_ok X cc own) (hr : jx_r X rm) (hM : jx_Ct y bytes maxL none rmY (.ref b :: As) h post)
    (w : jx_mem (Cond.methodLinkNest own index y host)) (w2 : jx_mem (Cond.instanceMethod y)) (w4 : jx_mem (Cond.initialized y.cls)) (w5 : jx_mem (Cond.code y bytes maxL none)) (hd : y.name = "<init>" ∧ y.cls ≠ "java/lang/invoke/MethodHandle" ∧ y.cls ≠ "java/lang/invoke/VarHandle" ∧ (parseMethodDescriptor y.desc).map (fun d => d.parameters.length) = some na) (hna : As.length = na)
    (hfr : rmY.frames + 1 ≤ rm.frames ∧ 8 + (maxL + 11) + rmY.locals ≤ rm.locals) (hcat : (st.map fun v => v.category).sum ≤ 8) (hk : k + rmY.cells = k1 ∧ n + rmY.slots = n1 ∧ k1 ≤ rm.cells ∧ n1 ≤ rm.slots) (d : decode cc pc = .ok (.invokespecial index, 3))
    (kk : ∀ (r : Option Value) (h1 : jx_H), post r h1 → jx_J X k1 n1 (pc + 3) lv (r.toList ++ st) h1) : jx_J X k n pc lv (As.reverse ++ .ref b :: st) h := by
  obtain ⟨p, l, e, R, s, m, args, below, meth, c, D, h0, nL, Q⟩ := X
  obtain ⟨hx, hb, hml, hown, hlk, hsz, hF, hfl⟩ := C
  obtain rfl : R = rm := hr
  obtain ⟨rfl, rfl, hk⟩ := hk
  subst hna
  intro H locs ls hR hdm hS hl
  obtain ⟨hd1, hd2, hd3, hd4⟩ := hd
  have c5 : (Cond.code y bytes maxL none).before args s = true := jx_use w5.2 (hF.1 _ w5.1 w5.2)
  refine jx_after (D := D) (h0 := h0) (nL := nL) hR hsz hS hdm hl (va_runIN (bytes := bytes) (maxL := maxL) (As := As) (rest := st) (Ts := [Cond.code y bytes maxL none]) (host := host) ⟨hx, hb, hml, hown, fun w hw => by obtain rfl := List.mem_singleton.mp hw; exact c5⟩ (hM l D hfl) ⟨⟨?_, c5, jx_use w4.2 (hF.1 _ w4.1 w4.2), ⟨hd2, hd3⟩, fun sig hs => ?_, jx_use w.2 (hF.1 _ w.1 w.2)⟩, hd1, jx_use w2.2 (hF.1 _ w2.1 w2.2)⟩ ⟨jx_PcB, jx_pre hR hsz hS hdm hF⟩ rfl rfl hl.1 rfl (lv_room hcat) d hk) kk
  · exact ⟨rfl, rfl, hfr.1, hfr.2, pay_in (fun w hw => by obtain rfl := List.mem_singleton.mp hw; exact c5) jx_good, List.mem_singleton.mpr rfl⟩
  · rw [hs] at hd4
    exact (Option.some.inj hd4).symm
/-- ends -/
theorem j_iret {X : jx_X} {cc : ByteArray} {own : String} {k n pc mc ms : Nat} {lv : List (Nat × Value)} {h : jx_H} {v : Int32} {ty : FieldType} {post : jx_P} (C : jx_ok X cc own) (hq : jx_q X (some ty) post mc ms) (hn : narrow ty (.int v) = .int v) (d : decode cc pc = .ok (.ireturn, 1)) (hk : k ≤ mc ∧ n ≤ ms) (hp : post (some (.int v)) h) : jx_J X k n pc lv [.int v] h := by
  obtain ⟨p, l, e, R, s, m, args, below, meth, c, D, h0, nL, Q⟩ := X
  obtain ⟨hx, hb, hml, hown, hlk, hsz, hF, hfl⟩ := C
  obtain ⟨rfl, hrt⟩ := hq
  intro H locs ls hR hdm hS hl
  exact W.widen hk.1 hk.2 (W.zret hx hb hrt hn (fun t ht hW => ⟨⟨_, _, rfl, hp, by rw [ht]; exact hR.moved hW.alike, hdm⟩, hS.F ht⟩) hS.2.2 d hlk)
theorem j_vret {X : jx_X} {cc : ByteArray} {own : String} {k n pc mc ms : Nat} {lv : List (Nat × Value)} {h : jx_H} {post : jx_P} (C : jx_ok X cc own) (hq : jx_q X none post mc ms) (d : decode cc pc = .ok (.return_, 1)) (hk : k ≤ mc ∧ n ≤ ms) (hp : post none h) : jx_J X k n pc lv [] h := by
  obtain ⟨p, l, e, R, s, m, args, below, meth, c, D, h0, nL, Q⟩ := X
  obtain ⟨hx, hb, hml, hown, hlk, hsz, hF, hfl⟩ := C
  obtain ⟨rfl, hrt⟩ := hq
  intro H locs ls hR hdm hS hl
  exact W.widen hk.1 hk.2 (W.vret hx hb hrt (fun t ht hW => ⟨⟨_, _, rfl, hp, by rw [ht]; exact hR.moved hW.alike, hdm⟩, hS.F ht⟩) hS.2.2 d hlk)
theorem j_aret {X : jx_X} {cc : ByteArray} {own : String} {k n pc mc ms : Nat} {lv : List (Nat × Value)} {h : jx_H} {a : Nat} {cn : String} {post : jx_P} (C : jx_ok X cc own) (hq : jx_q X (some (.object cn)) post mc ms) (d : decode cc pc = .ok (.areturn, 1)) (hk : k ≤ mc ∧ n ≤ ms) (hp : post (some (.ref a)) h) : jx_J X k n pc lv [.ref a] h := by
  obtain ⟨p, l, e, R, s, m, args, below, meth, c, D, h0, nL, Q⟩ := X
  obtain ⟨hx, hb, hml, hown, hlk, hsz, hF, hfl⟩ := C
  obtain ⟨rfl, hrt⟩ := hq
  intro H locs ls hR hdm hS hl
  exact W.widen hk.1 hk.2 (W.aret hx hb hrt (Or.inl ⟨cn, rfl⟩) (Or.inr ⟨a, rfl⟩) (fun t ht hW => ⟨⟨_, _, rfl, hp, by rw [ht]; exact hR.moved hW.alike, hdm⟩, hS.F ht⟩) hS.2.2 d hlk)
theorem j_dret {X : jx_X} {cc : ByteArray} {own : String} {k n pc mc ms : Nat} {lv : List (Nat × Value)} {h : jx_H} {v : UInt64} {post : jx_P} (C : jx_ok X cc own) (hq : jx_q X (some .double) post mc ms) (d : decode cc pc = .ok (.dreturn, 1)) (hk : k ≤ mc ∧ n ≤ ms) (hp : post (some (.double v)) h) : jx_J X k n pc lv [.double v] h := by
  obtain ⟨p, l, e, R, s, m, args, below, meth, c, D, h0, nL, Q⟩ := X
  obtain ⟨hx, hb, hml, hown, hlk, hsz, hF, hfl⟩ := C
  obtain ⟨rfl, hrt⟩ := hq
  intro H locs ls hR hdm hS hl
  exact W.widen hk.1 hk.2 (W.dret hx hb hrt (fun t ht hW => ⟨⟨_, _, rfl, hp, by rw [ht]; exact hR.moved hW.alike, hdm⟩, hS.F ht⟩) hS.2.2 d hlk)
