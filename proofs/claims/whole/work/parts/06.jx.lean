/-! THE FRAME: a heap as a function of addresses, a judgement over it, and its rows -/
abbrev jx_E : Type := (FieldType × vp_A) ⊕ (Nat × List Value)
abbrev jx_H : Type := Nat × (Nat → Option jx_E)
abbrev jx_D : Type := va_G × (Nat → Nat) × (Nat → Nat)
def jx_at (D : va_G) (U : State) (a : Nat) (e : jx_E) (H : Heap) : Prop := match e with
  | .inl x => ∃ cA : ClassId, ArrOfT U cA x.1 ∧ va_RA U cA x.1 ∧ H[a]? = some (vp_cell cA x.2)
  | .inr o => va_at D jx_cl (a, .inr o) H
def jx_R (D : va_G) (U : State) (h : jx_H) (H : Heap) : Prop := H.size = h.1 ∧ ∀ (a : Nat) (e : jx_E), h.2 a = some e → jx_at D U a e H
def jx_A (h : jx_H) : Nat → Prop := fun q => h.2 q ≠ none ∨ h.1 ≤ q
theorem jx_at.moved {D : va_G} {u U : State} {a : Nat} {e : jx_E} {H : Heap} (hvm : u.vm.Alike U.vm) (h : jx_at D u a e H) : jx_at D U a e H := by
  cases e with
  | inl x =>
    obtain ⟨cA, h1, h2, h3⟩ := h
    exact ⟨cA, arrOfT_moved hvm h1, h2.moved hvm, h3⟩
  | inr o => exact h
theorem jx_at.kept {D : va_G} {U : State} {a : Nat} {e : jx_E} {H H1 : Heap} (h : jx_at D U a e H) (hq : H1[a]? = H[a]?) : jx_at D U a e H1 := by
  cases e with
  | inl x =>
    obtain ⟨cA, h1, h2, h3⟩ := h
    exact ⟨cA, h1, h2, hq.trans h3⟩
  | inr o => exact va_at.kept (D := D) (cl := jx_cl) (q := (a, .inr o)) h hq
theorem jx_at.lt {D : va_G} {U : State} {a : Nat} {e : jx_E} {H : Heap} (h : jx_at D U a e H) : a < H.size := by
  cases e with
  | inl x =>
    obtain ⟨cA, h1, h2, h3⟩ := h
    exact (Array.getElem?_eq_some_iff.mp h3).1
  | inr o => exact va_at.lt (D := D) (cl := jx_cl) (q := (a, .inr o)) h
theorem jx_R.moved {D : va_G} {u U : State} {h : jx_H} {H : Heap} (hvm : u.vm.Alike U.vm) (hR : jx_R D u h H) : jx_R D U h H := ⟨hR.1, fun a e he => (hR.2 a e he).moved hvm⟩
def jx_up (f : Nat → Option jx_E) (a : Nat) (e : jx_E) : Nat → Option jx_E := fun b => if b = a then some e else f b
theorem jx_R.put {D : va_G} {U : State} {h : jx_H} {H H1 : Heap} {a : Nat} {e : jx_E} (hR : jx_R D U h H) (he : jx_at D U a e H1) (hz : H1.size = H.size) (ho : ∀ q : Nat, q ≠ a → H1[q]? = H[q]?) : jx_R D U (h.1, jx_up h.2 a e) H1 := by
  refine ⟨hz.trans hR.1, fun b e' hb => ?_⟩
  by_cases hba : b = a
  · subst hba
    have h1 : some e = some e' := by simpa [jx_up] using hb
    cases h1
    exact he
  · have h1 : h.2 b = some e' := by simpa [jx_up, hba] using hb
    exact (hR.2 b e' h1).kept (ho b hba)
theorem jx_R.new {D : va_G} {U : State} {h : jx_H} {H H1 : Heap} {e : jx_E} (hR : jx_R D U h H) (he : jx_at D U h.1 e H1) (hz : H1.size = H.size + 1) (ho : ∀ q : Nat, q < H.size → H1[q]? = H[q]?) : jx_R D U (h.1 + 1, jx_up h.2 h.1 e) H1 := by
  refine ⟨by rw [hz, hR.1], fun b e' hb => ?_⟩
  by_cases hba : b = h.1
  · subst hba
    have h1 : some e = some e' := by simpa [jx_up] using hb
    cases h1
    exact he
  · have h1 : h.2 b = some e' := by simpa [jx_up, hba] using hb
    exact (hR.2 b e' h1).kept (ho b (hR.2 b e' h1).lt)
/-- words of the tables, in any state whose machine is warmed from this one -/
theorem jx_warm {w : Cond} {s U : State} (hW : s.WarmedH U.vm) (hw : jx_tw w = true) (h : va_Nw w s) : va_Nw w U := by
  have gen : (w.onTables && (w.keeps || w.keepsFace)) = true → va_Nw w U := by
    intro g
    simp only [Bool.and_eq_true, Bool.or_eq_true] at g
    obtain ⟨g1, g2 | g2⟩ := g
    · have h1 := Cond.onTables_warm (T := U) (args' := #[]) hW g1 g2 h
      rwa [State.setVm_self] at h1
    · have h3 : w.before #[] (s.setVm U.vm) = true := Cond.before_shiftedFace (State.Shifted.of_warmed hW) _ g2 h
      exact va_tabs g1 (rfl : (s.setVm U.vm).vm = U.vm) h3
  cases w <;> first | exact va_Nw.warmM hW h | exact gen hw | (have h1 : (Cond.arrayClass _).before #[] (s.setVm U.vm) = true := Cond.before_shiftedFace (State.Shifted.of_warmed hW) _ rfl h; exact h1)
theorem jx_use {w : Cond} {args : Array Value} {s : State} (hw : jx_tw w = true) (h : va_Nw w s) : w.before args s = true := by
  have gen : (w.onTables && (w.keeps || w.keepsFace)) = true → w.before args s = true := by
    intro g
    simp only [Bool.and_eq_true, Bool.or_eq_true] at g
    exact va_Nw.use g.1 h
  cases w <;> first | exact va_Nw.use rfl h | exact gen hw | exact h
def jx_sk : Nat → Nat := fun i => match i with | 0 => 81 | 1 => 91 | 2 => 145 | 3 => 99 | _ => 104
def jx_st : Nat → String := fun i => match i with | 0 => "join" | 1 => "rule" | 2 => "is" | 3 => "point" | _ => "prime"
def jx_sl : List Nat := [4, 4, 2, 5, 5]
def jx_sb : List (List Int32) := [[106, 111, 105, 110], [114, 117, 108, 101], [105, 115], [112, 111, 105, 110, 116], [112, 114, 105, 109, 101]]
/-- exceptions that are no kind of another -/
def jx_nc : List (String × String) := [("java/lang/IllegalArgumentException", "java/lang/IllegalStateException"), ("java/lang/IndexOutOfBoundsException", "java/lang/IllegalStateException"), ("java/lang/IllegalStateException", "java/lang/IllegalArgumentException"), ("java/lang/IndexOutOfBoundsException", "java/lang/IllegalArgumentException"), ("java/lang/IllegalStateException", "java/lang/IndexOutOfBoundsException"), ("java/lang/IllegalArgumentException", "java/lang/IndexOutOfBoundsException")]
/-- what holds of the tables, and of the cells that are not ours -/
def jx_F (D : jx_D) (A : Nat → Prop) (U : State) (H : Heap) : Prop :=
  (∀ w ∈ lw_tbl, jx_tw w = true → va_Nw w U) ∧ va_AO "BorderBasis$State" U ∧ va_AO "BorderBasis$Matrix" U ∧ va_K D.1 jx_cl [] U ∧
  (∀ i : Nat, i < 5 → vk_R "BorderBasis$Parser" (jx_sk i) (jx_st i) (D.2.1 i) U) ∧ vk_S 5 jx_sl jx_sb D.2.1 D.2.2 A U H ∧
  va_Z "java/lang/String" "COMPACT_STRINGS" "Z" (.int 1) A U H ∧ va_Zq "jdk/internal/util/Preconditions" "SIOOBE_FORMATTER" "Ljava/util/function/BiFunction;" A U H ∧
  vx_Zq Bundle.tN "UNASSIGNED_STACK" Bundle.steD A U H ∧ vx_Zq Bundle.tN "SUPPRESSED_SENTINEL" Bundle.listD A U H ∧ (∀ q ∈ jx_nc, va_Nc q.1 q.2 U)
theorem jx_F.to {D : jx_D} {A B : Nat → Prop} {s U : State} {H H1 : Heap} (h : jx_F D A s H) (hW : s.WarmedH U.vm) (hq : ∀ a : Nat, a < H.size → ¬ A a → H1[a]? = H[a]?) (hAB : ∀ q, B q → A q) : jx_F D B U H1 := by
  obtain ⟨h1, h2, h3, h4, h5, h6, h7, h8, h9, h10, h11⟩ := h
  have hv := hW.alike
  exact ⟨fun w hw ht => jx_warm hW ht (h1 w hw ht), va_AO.moved hv h2, va_AO.moved hv h3, va_K.moved hv h4, fun i hi => vk_R.warm hW (h5 i hi), vk_S.moved hv ((h6.kept hq).narrow hAB), va_Z.moved hv ((h7.kept hq).narrow hAB), va_Zq.moved hv ((h8.kept hq).narrow hAB), vx_Zq.moved hv ((h9.kept hq).narrow hAB), vx_Zq.moved hv ((h10.kept hq).narrow hAB), fun q hq => va_Nc.moved hv (h11 q hq)⟩
abbrev jx_X : Type := Program × Launch × Env × Room × State × MethodId × Array Value × List Frame × Method × Code × jx_D × jx_H × Nat × (State → Prop)
def jx_J (X : jx_X) (k n pc : Nat) (lv : List (Nat × Value)) (st : List Value) (h : jx_H) : Prop := match X with
  | (p, l, e, R, s, m, args, below, meth, c, D, h0, nL, Q) => ∀ (H : Heap) (locs : List Loc) (ls : Array Slot), jx_R D.1 s h H → (∀ q : Nat, h.2 q ≠ none → jx_A h0 q) → va_S (jx_A h0) s.heap H locs → lv_has ls nL lv → W p l e R s m args below meth c H locs k n Q (F0 m pc ls st)
def jx_ok (X : jx_X) (cc : ByteArray) (own : String) : Prop := match X with
  | (p, l, e, R, s, m, args, below, meth, c, D, h0, nL, Q) => p.tables.exec = Jvm.exec ∧ c.code = cc ∧ c.maxLocals = nL ∧ s.vm.findClass own = some m.cls ∧ meth.locks = false ∧ s.heap.size = h0.1 ∧ jx_F D (jx_A h0) s s.heap ∧ l.stackTraces = false
/-- the locals, and the name, of the method -/
def jx_nl (X : jx_X) (N : Nat) : Prop := X.2.2.2.2.2.2.2.2.2.2.2.2.1 = N
def jx_nm (X : jx_X) (y : MethodName) : Prop := X.2.2.2.2.2.2.2.2.1.name = y.name
/-- the room of the method -/
def jx_r (X : jx_X) (rm : Room) : Prop := match X with
  | (p, l, e, R, s, m, args, below, meth, c, D, h0, nL, Q) => R = rm
abbrev jx_P : Type := Option Value → jx_H → Prop
def jx_Qc (D : jx_D) (h0 : jx_H) (post : jx_P) : Array Value → State → Outcome → State → Prop := fun _ st o t => (∃ (r : Option Value) (h1 : jx_H), o = .returned r ∧ post r h1 ∧ jx_R D.1 t h1 t.heap ∧ ∀ q : Nat, h1.2 q ≠ none → jx_A h0 q) ∧ va_F (jx_A h0) st t
def jx_Pc (D : jx_D) (av : List Value) (h : jx_H) : Array Value → State → Prop := fun v U => v = av.toArray ∧ jx_R D.1 U h U.heap ∧ jx_F D (jx_A h) U U.heap
/-- how the method ends -/
def jx_q (X : jx_X) (rt : Option FieldType) (post : jx_P) (mc ms : Nat) : Prop := match X with
  | (p, l, e, R, s, m, args, below, meth, c, D, h0, nL, Q) => Q = MQ below (jx_Qc D h0 post) args s mc ms (jx_A h0) ∧ meth.sig.returnType = rt
def jx_Ct (y : MethodName) (cc : ByteArray) (maxL : Nat) (ret : Option FieldType) (rm : Room) (av : List Value) (h : jx_H) (post : jx_P) : Prop := ∀ (l : Launch) (D : jx_D), l.stackTraces = false → Met l y [.code y cc maxL ret] rm (jx_Pc D av h) (jx_Qc D h post) rm.cells rm.slots (jx_A h)
theorem jx_Ct.of {y : MethodName} {cc : ByteArray} {maxL : Nat} {ret : Option FieldType} {rm : Room} {av : List Value} {h : jx_H} {post : jx_P} {own : String} (hy : plainName y.cls = true) (ho : y.cls = own) (hlen : (lg_sl av).length ≤ maxL)
    (body : ∀ X : jx_X, jx_ok X cc own → jx_q X ret post rm.cells rm.slots → jx_r X rm → jx_nl X maxL → jx_nm X y → jx_J X 0 0 0 (lv_args 0 av) [] h) : jx_Ct y cc maxL ret rm av h post := by
  intro l D hl
  refine Met.ofW (cc := cc) (maxL := maxL) (ret := ret) hy rfl ?_
  intro p e s m args below meth c s₁ B hml hv
  obtain ⟨rfl, hR, hF⟩ := hv
  have K := body (p, l, e, rm, s, m, av.toArray, below, meth, c, D, h, maxL, MQ below (jx_Qc D h post) av.toArray s rm.cells rm.slots (jx_A h)) ⟨B.exec, B.bytes, hml, by rw [← ho]; exact findClass_of_methodNamed B.named, B.notSynchronized, hR.1, hF, hl⟩ ⟨rfl, B.returns⟩ rfl rfl (name_of_methodNamed B.named B.method).1
  have hl := lv_entry av (n := maxL) hlen
  rw [lg_entry_eq]
  exact K s.heap [] _ hR (fun q hq => Or.inl hq) va_S.rf hl
theorem jx_ok.word {X : jx_X} {cc : ByteArray} {own : String} {w : Cond} (C : jx_ok X cc own) (h : jx_mem w) : va_Nw w X.2.2.2.2.1 := by
  obtain ⟨p, l, e, R, s, m, args, below, meth, c, D, h0, nL, Q⟩ := X
  obtain ⟨-, -, -, -, -, -, hF, -⟩ := C
  exact hF.1 w h.1 h.2
theorem jx_widen {X : jx_X} {k n k1 n1 pc : Nat} {lv : List (Nat × Value)} {st : List Value} {h : jx_H} (h1 : k ≤ k1) (h2 : n ≤ n1) (kk : jx_J X k1 n1 pc lv st h) : jx_J X k n pc lv st h := by
  obtain ⟨p, l, e, R, s, m, args, below, meth, c, D, h0, nL, Q⟩ := X
  intro H locs ls hR hd hS hl
  exact W.widen h1 h2 (kk H locs ls hR hd hS hl)
theorem jx_sub {X : jx_X} {k n pc : Nat} {lv lv' : List (Nat × Value)} {st : List Value} {h : jx_H} (ks : List Nat) (hk : lv_pick lv ks = lv') (kk : jx_J X k n pc lv' st h) : jx_J X k n pc lv st h := by
  obtain ⟨p, l, e, R, s, m, args, below, meth, c, D, h0, nL, Q⟩ := X
  intro H locs ls hR hd hS hl
  exact kk H locs ls hR hd hS (lv_sub hl ks hk)
theorem jx_lk {lv : List (Nat × Value)} {i : Nat} {v : Value} (h : lv.lookup i = some v) : (i, v) ∈ lv := by
  induction lv with
  | nil => simp at h
  | cons q l ih =>
    obtain ⟨j, w⟩ := q
    rw [List.lookup_cons] at h
    by_cases hj : i = j
    · subst hj
      simp at h
      subst h
      exact List.mem_cons_self
    · have : (i == j) = false := by simpa using hj
      rw [this] at h
      exact List.mem_cons_of_mem _ (ih h)
theorem jx_get {ls : Array Slot} {nL : Nat} {lv : List (Nat × Value)} {i : Nat} {v : Value} (hl : lv_has ls nL lv) (h : lv.lookup i = some v) : ls[i]? = some (.val v) := hl.2.2 (i, v) (jx_lk h)
