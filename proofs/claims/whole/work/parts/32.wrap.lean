/-! the law's own small methods: they call a method that may throw, and catch -/
def jx_JX (X : jx_X) (k n pc : Nat) (lv : List (Nat × Value)) (st : List Value) (h : jx_H) (q : Addr) (E : String) : Prop := match X with
  | (p, l, e, R, s, m, args, below, meth, c, D, h0, nL, Q) => ∀ (H : Heap) (locs : List Loc) (ls : Array Slot), jx_R D.1 s h H → (∀ q : Nat, h.2 q ≠ none → jx_A h0 q) → va_S (jx_A h0) s.heap H locs → lv_has ls nL lv → (∃ ce : Cell, H[q]? = some ce ∧ ce.vm = .none ∧ s.vm.findClass E = some ce.cls) → vx_W p l e R s m args below meth c H locs k n Q (F0 m pc ls st) q
theorem jx_afterX {p : Program} {l : Launch} {e : Env} {R : Room} {s : State} {m : MethodId} {args : Array Value} {below : List Frame} {meth : Method} {c : Code} {D : jx_D} {h0 h : jx_H} {nL : Nat} {Q : State → Prop} {k n mc ms pc : Nat} {lv : List (Nat × Value)} {rest st0 : List Value} {post : jx_P} {postX : jx_PX} {H : Heap} {locs : List Loc} {ls : Array Slot} {av : Array Value}
    (hR : jx_R D.1 s h H) (hsz : s.heap.size = h0.1) (hS : va_S (jx_A h0) s.heap H locs) (hd : ∀ q : Nat, h.2 q ≠ none → jx_A h0 q) (hl : lv_has ls nL lv)
    (hr : vx_Run p l e R s m args below meth c H locs k n mc ms (F0 m pc ls st0) rest (jx_Qc D h post av) (jx_XC D h postX) (jx_A h))
    (kk : ∀ (r : Option Value) (h1 : jx_H), post r h1 → jx_J (p, l, e, R, s, m, args, below, meth, c, D, h0, nL, Q) (k + mc) (n + ms) (pc + 3) lv (r.toList ++ rest) h1)
    (kx : ∀ (E : String) (q : Addr) (h1 : jx_H), postX E h1 → jx_JX (p, l, e, R, s, m, args, below, meth, c, D, h0, nL, Q) (k + mc) (n + ms) pc lv rest h1 q E) :
    W p l e R s m args below meth c H locs k n Q (F0 m pc ls st0) := by
  have hsub := jx_sub_A hR hsz hS hd
  intro T hT X
  rcases hr T hT X with ⟨v, st₀, t, T', L, g0, X', hL, e1, e2, ⟨⟨r, h1, hv, hp, hR1, hd1⟩, hz, hk⟩, st⟩ | ⟨q, st₀, t, T', L, E, ce, g0, X', hL, e1, e2, ⟨⟨h1, hp, hR1, hd1⟩, hz, hk⟩, hce, hcv, hcl, st⟩
  · cases hv
    rw [g0] at hz hk
    have hR2 : jx_R D.1 s h1 T'.heap := by
      rw [e1]
      exact hR1.moved (by rw [← e2]; exact X'.warmed.alike.symm)
    obtain ⟨t2, a1, b1⟩ := kk v h1 hp T'.heap (locs ++ L) ls hR2 (fun q hq => hsub q (hd1 q hq))
      ⟨Nat.le_trans hS.1 (by rw [e1]; exact hz), fun q q1 q2 => by rw [e1, hk q (Nat.lt_of_lt_of_le q1 hS.1) (fun z => q2 (hsub q z))]; exact hS.2.1 q q1 q2, fun q hq => by
        rcases List.mem_append.mp hq with q1 | q1
        · exact hS.2.2 q q1
        · exact hsub _ (hL q q1)⟩ hl T' rfl X'
    exact ⟨t2, st t2 a1, b1⟩
  · rw [g0] at hz hk
    have hR2 : jx_R D.1 s h1 T'.heap := by
      rw [e1]
      exact hR1.moved (by rw [← e2]; exact X'.warmed.alike.symm)
    obtain ⟨t2, a1, b1⟩ := kx E q h1 hp T'.heap (locs ++ L) ls hR2 (fun q hq => hsub q (hd1 q hq))
      ⟨Nat.le_trans hS.1 (by rw [e1]; exact hz), fun q q1 q2 => by rw [e1, hk q (Nat.lt_of_lt_of_le q1 hS.1) (fun z => q2 (hsub q z))]; exact hS.2.1 q q1 q2, fun q hq => by
        rcases List.mem_append.mp hq with q1 | q1
        · exact hS.2.2 q q1
        · exact hsub _ (hL q q1)⟩ hl ⟨ce, by rw [e1]; exact hce, hcv, hcl⟩ T' rfl X'
    exact ⟨t2, st.trans a1, b1⟩
theorem j_callVX {X : jx_X} {cc bytes : ByteArray} {own RC : String} {k n pc index maxL : Nat} {lv : List (Nat × Value)} {As st : List Value} {h : jx_H} {b ci : Nat} {T : u_T} {N : Nat} {y : MethodName} {ret : Option FieldType} {rm rmY : Room} {post : jx_P} {postX : jx_PX} {k1 n1 na : Nat} (C : jx_ok X cc own) (hr : jx_r X rm) (hM : jx_Cx y bytes maxL ret rmY (.ref b :: As) h post postX) (hc : jx_cl[ci]? = some (RC, T, N)) (ho : isO h b ci = some ())
    (w : jx_mem (Cond.methodLink own index y)) (w2 : jx_mem (Cond.instanceMethod y)) (w3 : jx_mem (Cond.selects RC y y)) (w4 : jx_mem (Cond.initialized RC)) (w5 : jx_mem (Cond.code y bytes maxL ret)) (hd : y.cls = RC ∧ y.cls ≠ "java/lang/invoke/MethodHandle" ∧ y.cls ≠ "java/lang/invoke/VarHandle" ∧ (parseMethodDescriptor y.desc).map (fun d => d.parameters.length) = some na) (hna : As.length = na)
    (hfr : rmY.frames + 1 ≤ rm.frames ∧ 8 + (maxL + 11) + rmY.locals ≤ rm.locals) (hcat : (st.map fun v => v.category).sum ≤ 8) (hk : k + rmY.cells = k1 ∧ n + rmY.slots = n1 ∧ k1 ≤ rm.cells ∧ n1 ≤ rm.slots) (d : decode cc pc = .ok (.invokevirtual index, 3))
    (kk : ∀ (r : Option Value) (h1 : jx_H), post r h1 → jx_J X k1 n1 (pc + 3) lv (r.toList ++ st) h1)
    (kx : ∀ (E : String) (q : Addr) (h1 : jx_H), postX E h1 → jx_JX X k1 n1 pc lv st h1 q E) : jx_J X k n pc lv (As.reverse ++ .ref b :: st) h := by
  obtain ⟨p, l, e, R, s, m, args, below, meth, c, D, h0, nL, Q⟩ := X
  obtain ⟨hx, hb, hml, hown, hlk, hsz, hF, hfl⟩ := C
  obtain rfl : R = rm := hr
  obtain ⟨rfl, rfl, hk⟩ := hk
  subst hna
  intro H locs ls hR hdm hS hl
  obtain ⟨hd1, hd2, hd3, hd4⟩ := hd
  have c5 : (Cond.code y bytes maxL ret).before args s = true := jx_use w5.2 (hF.1 _ w5.1 w5.2)
  obtain ⟨fs, ho1⟩ := isO_spec ho
  obtain ⟨r9, hr9, cell, q1, q2, q3, q4⟩ := (show va_at D.1 jx_cl (b, .inr (ci, fs)) H from hR.2 b _ ho1)
  refine jx_afterX (D := D) (h0 := h0) (nL := nL) hR hsz hS hdm hl (vx_runV (bytes := bytes) (maxL := maxL) (ret := ret) (As := As) (rest := st) (Ts := [Cond.code y bytes maxL ret]) (C := RC) ⟨hx, hb, hml, hown, fun w hw => by obtain rfl := List.mem_singleton.mp hw; exact c5⟩ (hM l D hfl) ⟨?_, jx_use w2.2 (hF.1 _ w2.1 w2.2), jx_use w3.2 (hF.1 _ w3.1 w3.2)⟩ ⟨jx_PcB, ⟨cell, q1, by rw [q3]; rfl, by rw [q2]; exact (hF.2.2.2.1.1 ci _ hc).2.1⟩, jx_pre hR hsz hS hdm hF⟩ rfl rfl hl.1 rfl (lv_room hcat) d hk) kk kx
  refine ⟨rfl, rfl, hfr.1, hfr.2, pay_in (fun w hw => by obtain rfl := List.mem_singleton.mp hw; exact c5) jx_good, List.mem_singleton.mpr rfl, c5, by rw [hd1]; exact jx_use w4.2 (hF.1 _ w4.1 w4.2), ⟨hd2, hd3⟩, fun sig hs => ?_, jx_use w.2 (hF.1 _ w.1 w.2)⟩
  rw [hs] at hd4
  exact (Option.some.inj hd4).symm
def jx_tb (X : jx_X) (hh : List (Nat × Nat × Nat × Nat)) : Prop := X.2.2.2.2.2.2.2.2.2.1.exceptionTable.toList = tableOf hh
theorem j_catch1 {X : jx_X} {cc : ByteArray} {own E : String} {k n pc a b t ct : Nat} {hh suf : List (Nat × Nat × Nat × Nat)} {lv : List (Nat × Value)} {st : List Value} {h : jx_H} {q : Addr} (C : jx_ok X cc own) (ht : jx_tb X hh) (hhe : hh = (a, b, t, ct) :: suf) (hx : covers ⟨a, b, t, ct⟩ pc = true) (h0 : ct ≠ 0) (wl : jx_mem (Cond.classLink own ct E)) (wc : jx_mem (Cond.castable E E)) (kk : jx_J X k n t lv [.ref q] h) : jx_JX X k n pc lv st h q E := by
  obtain ⟨p, l, e, R, s, m, args, below, meth, c, D, h0', nL, Q⟩ := X
  obtain ⟨hx', hb, hml, hown, hlk, hsz, hF, hfl⟩ := C
  subst hhe
  intro H locs ls hR hdm hS hl ⟨ce, c1, c2, c3⟩
  exact vx_catch (rest := st) hown [] ⟨a, b, t, ct⟩ (tableOf suf) ht (fun z hz => nomatch hz) hx h0 (jx_use wl.2 (hF.1 _ wl.1 wl.2)) (jx_use wc.2 (hF.1 _ wc.1 wc.2)) c1 c2 c3 (kk H locs ls hR hdm hS hl)
theorem j_catch2 {X : jx_X} {cc : ByteArray} {own E E1 : String} {k n pc a b t ct a1 b1 t1 ct1 : Nat} {hh suf : List (Nat × Nat × Nat × Nat)} {lv : List (Nat × Value)} {st : List Value} {h : jx_H} {q : Addr} (C : jx_ok X cc own) (ht : jx_tb X hh) (hhe : hh = (a1, b1, t1, ct1) :: (a, b, t, ct) :: suf) (h01 : ct1 ≠ 0) (wl1 : jx_mem (Cond.classLink own ct1 E1)) (hnc : (E, E1) ∈ jx_nc) (hx : covers ⟨a, b, t, ct⟩ pc = true) (h0 : ct ≠ 0) (wl : jx_mem (Cond.classLink own ct E)) (wc : jx_mem (Cond.castable E E)) (kk : jx_J X k n t lv [.ref q] h) : jx_JX X k n pc lv st h q E := by
  obtain ⟨p, l, e, R, s, m, args, below, meth, c, D, h0', nL, Q⟩ := X
  obtain ⟨hx', hb, hml, hown, hlk, hsz, hF, hfl⟩ := C
  subst hhe
  intro H locs ls hR hdm hS hl ⟨ce, c1, c2, c3⟩
  refine vx_catch (rest := st) hown [⟨a1, b1, t1, ct1⟩] ⟨a, b, t, ct⟩ (tableOf suf) ht (fun z hz => ?_) hx h0 (jx_use wl.2 (hF.1 _ wl.1 wl.2)) (jx_use wc.2 (hF.1 _ wc.1 wc.2)) c1 c2 c3 (kk H locs ls hR hdm hS hl)
  obtain rfl := List.mem_singleton.mp hz
  exact Or.inr ⟨h01, E1, jx_use wl1.2 (hF.1 _ wl1.1 wl1.2), hF.2.2.2.2.2.2.2.2.2.2 _ hnc⟩
def jx_Cw (y : MethodName) (cc : ByteArray) (maxL : Nat) (ret : Option FieldType) (hh : List (Nat × Nat × Nat × Nat)) (rm : Room) (av : List Value) (h : jx_H) (post : jx_P) : Prop := ∀ (l : Launch) (D : jx_D), l.stackTraces = false → vx_Met l y [.codeWith y cc maxL ret hh] rm (jx_Pc D av h) (jx_Qc D h post) (jx_XC D h (fun _ _ => False)) rm.cells rm.slots (jx_A h)
def jx_qw (X : jx_X) (rt : Option FieldType) (post : jx_P) (mc ms : Nat) : Prop := match X with
  | (p, l, e, R, s, m, args, below, meth, c, D, h0, nL, Q) => Q = vx_MQ below (jx_Qc D h0 post) (jx_XC D h0 (fun _ _ => False)) args s mc ms (jx_A h0) ∧ meth.sig.returnType = rt
theorem jx_Cw.of {y : MethodName} {cc : ByteArray} {maxL : Nat} {ret : Option FieldType} {hh : List (Nat × Nat × Nat × Nat)} {rm : Room} {av : List Value} {h : jx_H} {post : jx_P} {own : String} (hy : plainName y.cls = true) (ho : y.cls = own) (hlen : (lg_sl av).length ≤ maxL)
    (body : ∀ X : jx_X, jx_ok X cc own → jx_qw X ret post rm.cells rm.slots → jx_r X rm → jx_nl X maxL → jx_tb X hh → jx_J X 0 0 0 (lv_args 0 av) [] h) : jx_Cw y cc maxL ret hh rm av h post := by
  intro l D hl
  refine vx_ofWH (cc := cc) (maxL := maxL) (ret := ret) (hh := hh) hy rfl ?_
  intro p e s m args below meth c s₁ B hml hv
  have ht : c.exceptionTable.toList = tableOf hh := vx_table (x := y) B (atoms_spec (ws := [Cond.codeWith y cc maxL ret hh]) B.pre _ List.mem_cons_self)
  obtain ⟨rfl, hR, hF⟩ := hv
  have K := body (p, l, e, rm, s, m, av.toArray, below, meth, c, D, h, maxL, vx_MQ below (jx_Qc D h post) (jx_XC D h (fun _ _ => False)) av.toArray s rm.cells rm.slots (jx_A h)) ⟨B.exec, B.bytes, hml, by rw [← ho]; exact findClass_of_methodNamed B.named, B.notSynchronized, hR.1, hF, hl⟩ ⟨rfl, B.returns⟩ rfl rfl ht
  have hl := lv_entry av (n := maxL) hlen
  rw [lg_entry_eq]
  exact K s.heap [] _ hR (fun q hq => Or.inl hq) va_S.rf hl
theorem j_iretW {X : jx_X} {cc : ByteArray} {own : String} {k n pc mc ms : Nat} {lv : List (Nat × Value)} {h : jx_H} {v : Int32} {ty : FieldType} {post : jx_P} (C : jx_ok X cc own) (hq : jx_qw X (some ty) post mc ms) (hn : narrow ty (.int v) = .int v) (d : decode cc pc = .ok (.ireturn, 1)) (hk : k ≤ mc ∧ n ≤ ms) (hp : post (some (.int v)) h) : jx_J X k n pc lv [.int v] h := by
  obtain ⟨p, l, e, R, s, m, args, below, meth, c, D, h0, nL, Q⟩ := X
  obtain ⟨hx, hb, hml, hown, hlk, hsz, hF, hfl⟩ := C
  obtain ⟨rfl, hrt⟩ := hq
  intro H locs ls hR hdm hS hl
  exact vx_ret (W.widen hk.1 hk.2 (W.zret hx hb hrt hn (fun t ht hW => ⟨⟨_, _, rfl, hp, by rw [ht]; exact hR.moved hW.alike, hdm⟩, hS.F ht⟩) hS.2.2 d hlk))
theorem jx_goodw {y : MethodName} {cc : ByteArray} {maxL : Nat} {ret : Option FieldType} {hh : List (Nat × Nat × Nat × Nat)} : GoodIn [Cond.codeWith y cc maxL ret hh] [Cond.codeWith y cc maxL ret hh] := fun w hw => ⟨hw, by
  obtain rfl := List.mem_singleton.mp hw
  exact Or.inl rfl⟩
theorem j_callSW {X : jx_X} {cc bytes : ByteArray} {own : String} {k n pc index maxL : Nat} {lv : List (Nat × Value)} {As st : List Value} {h : jx_H} {y : MethodName} {ret : Option FieldType} {hh : List (Nat × Nat × Nat × Nat)} {rm rmY : Room} {post : jx_P} {k1 n1 na : Nat} (C : jx_ok X cc own) (hr : jx_r X rm) (hM : jx_Cw y bytes maxL ret hh rmY As h post)
    (w : jx_mem (Cond.methodLink own index y)) (w2 : jx_mem (Cond.static y)) (w4 : jx_mem (Cond.initialized y.cls)) (w5 : jx_mem (Cond.codeWith y bytes maxL ret hh)) (hd : y.cls ≠ "java/lang/invoke/MethodHandle" ∧ y.cls ≠ "java/lang/invoke/VarHandle" ∧ (parseMethodDescriptor y.desc).map (fun d => d.parameters.length) = some na) (hna : As.length = na)
    (hfr : rmY.frames + 1 ≤ rm.frames ∧ 8 + (maxL + 11) + rmY.locals ≤ rm.locals) (hcat : (st.map fun v => v.category).sum ≤ 8) (hk : k + rmY.cells = k1 ∧ n + rmY.slots = n1 ∧ k1 ≤ rm.cells ∧ n1 ≤ rm.slots) (d : decode cc pc = .ok (.invokestatic index, 3))
    (kk : ∀ (r : Option Value) (h1 : jx_H), post r h1 → jx_J X k1 n1 (pc + 3) lv (r.toList ++ st) h1) : jx_J X k n pc lv (As.reverse ++ st) h := by
  obtain ⟨p, l, e, R, s, m, args, below, meth, c, D, h0, nL, Q⟩ := X
  obtain ⟨hx, hb, hml, hown, hlk, hsz, hF, hfl⟩ := C
  obtain rfl : R = rm := hr
  obtain ⟨rfl, rfl, hk⟩ := hk
  subst hna
  intro H locs ls hR hdm hS hl
  obtain ⟨hd2, hd3, hd4⟩ := hd
  have c5 : (Cond.codeWith y bytes maxL ret hh).before args s = true := jx_use w5.2 (hF.1 _ w5.1 w5.2)
  refine jx_afterX (D := D) (h0 := h0) (nL := nL) hR hsz hS hdm hl (vx_runSX (hh := hh) (bytes := bytes) (maxL := maxL) (ret := ret) (As := As) (rest := st) (Ts := [Cond.codeWith y bytes maxL ret hh]) ⟨hx, hb, hml, hown, fun w hw => by obtain rfl := List.mem_singleton.mp hw; exact c5⟩ (hM l D hfl) ⟨⟨rfl, rfl, hfr.1, hfr.2, pay_in (fun w hw => by obtain rfl := List.mem_singleton.mp hw; exact c5) jx_goodw, List.mem_singleton.mpr rfl⟩, c5, jx_use w4.2 (hF.1 _ w4.1 w4.2), ⟨hd2, hd3⟩, fun sig hs => ?_, jx_use w.2 (hF.1 _ w.1 w.2), jx_use w2.2 (hF.1 _ w2.1 w2.2)⟩ ⟨jx_PcB, jx_pre hR hsz hS hdm hF⟩ rfl rfl hl.1 rfl (lv_room hcat) d hk) kk (fun _ _ _ z => z.elim)
  rw [hs] at hd4
  exact (Option.some.inj hd4).symm
