/-! rows that make cells; copying; calls; ends -/
theorem jx_domN {h0 h : jx_H} {e : jx_E} {s : State} {D : va_G} {H : Heap} {locs : List Loc} (hR : jx_R D s h H) (hsz : s.heap.size = h0.1) (hS : va_S (jx_A h0) s.heap H locs) (hd : ∀ q : Nat, h.2 q ≠ none → jx_A h0 q) : ∀ q : Nat, (h.1 + 1, jx_up h.2 h.1 e).2 q ≠ none → jx_A h0 q := by
  intro q hq
  by_cases hqa : q = h.1
  · subst hqa
    refine Or.inr ?_
    rw [← hsz, ← hR.1]
    exact hS.1
  · exact hd q (by simpa [jx_up, hqa] using hq)
theorem jx_SN {h0 h : jx_H} {s : State} {D : va_G} {H H1 : Heap} {locs : List Loc} (hR : jx_R D s h H) (hS : va_S (jx_A h0) s.heap H locs) (z1 : H1.size = h.1 + 1) (o1 : ∀ q : Nat, q < h.1 → H1[q]? = H[q]?) : va_S (jx_A h0) s.heap H1 locs :=
  ⟨Nat.le_trans hS.1 (by rw [z1, hR.1]; omega), fun x h1 h2 => (o1 x (Nat.lt_of_lt_of_le h1 (by rw [← hR.1]; exact hS.1))).trans (hS.2.1 x h1 h2), hS.2.2⟩
theorem j_newa {X : jx_X} {cc : ByteArray} {own : String} {k n pc : Nat} {lv : List (Nat × Value)} {st : List Value} {h h1 : jx_H} {x : Int32} {N : Nat} {ty : FieldType} {atype : ArrayType} {rm : Room} (C : jx_ok X cc own) (hr : jx_r X rm) (w : jx_mem (Cond.arrayClass ty)) (hty : newarray.typeOf atype = ty) (hdef : defaultValue ty = .int 0) (hcb : componentBytes ty ≤ 4) (d : decode cc pc = .ok (.newarray atype, 2)) (hv : hna h ty x = some h1) (hN : x.toNatClampNeg ≤ N) (hk : k + 1 ≤ rm.cells ∧ n + N ≤ rm.slots) (kk : jx_J X (k + 1) (n + N) (pc + 2) lv (.ref h.1 :: st) h1) : jx_J X k n pc lv (.int x :: st) h := by
  subst hty
  unfold hna at hv
  split at hv
  · cases hv
  · next hx0 =>
    cases hv
    obtain ⟨p, l, e, R, s, m, args, below, meth, c, D, h0, nL, Q⟩ := X
    obtain ⟨hx, hb, hml, hown, hlk, hsz, hF, hfl⟩ := C
    obtain rfl : R = rm := hr
    intro H locs ls hR hdm hS hl
    have h1 : ¬ x < 0 := fun q => hx0 (Or.inl q)
    have h2 : x.toNatClampNeg ≤ 100000 := Nat.not_lt.mp fun q => hx0 (Or.inr q)
    refine va_newaK hx hb (jx_use w.2 (hF.1 _ w.1 w.2)) rfl d rfl h1 rfl (Nat.le_trans (Nat.mul_le_mul h2 hcb) (by decide)) hk.1 (by omega) hR.1 fun H1 cA e1 z1 o1 hAr hNm => ?_
    refine W.widen (Nat.le_refl _) (Nat.add_le_add_left hN n) (kk H1 locs ls (hR.new (e := .inl (newarray.typeOf atype, x.toNatClampNeg, .inl (fun _ => 0))) ⟨cA, hAr, by cases atype <;> exact hNm, ?_⟩ (by rw [z1, hR.1]) (fun q hq => o1 q (by rw [← hR.1]; exact hq))) (jx_domN hR hsz hS hdm) (jx_SN hR hS z1 o1) hl)
    show H1[h.1]? = some (vp_cell cA (x.toNatClampNeg, .inl (fun _ => 0)))
    rw [e1, vp_cell_i, hdef]
theorem j_newl {X : jx_X} {cc : ByteArray} {own : String} {k n pc : Nat} {lv : List (Nat × Value)} {st : List Value} {h h1 : jx_H} {x : Int32} {N : Nat} {atype : ArrayType} {rm : Room} (C : jx_ok X cc own) (hr : jx_r X rm) (w : jx_mem (Cond.arrayClass .long)) (hty : newarray.typeOf atype = .long) (d : decode cc pc = .ok (.newarray atype, 2)) (hv : hnl h x = some h1) (hN : x.toNatClampNeg ≤ N) (hk : k + 1 ≤ rm.cells ∧ n + N ≤ rm.slots) (kk : jx_J X (k + 1) (n + N) (pc + 2) lv (.ref h.1 :: st) h1) : jx_J X k n pc lv (.int x :: st) h := by
  unfold hnl at hv
  split at hv
  · cases hv
  · next hx0 =>
    cases hv
    obtain ⟨p, l, e, R, s, m, args, below, meth, c, D, h0, nL, Q⟩ := X
    obtain ⟨hx, hb, hml, hown, hlk, hsz, hF, hfl⟩ := C
    obtain rfl : R = rm := hr
    intro H locs ls hR hdm hS hl
    have h1 : ¬ x < 0 := fun q => hx0 (Or.inl q)
    have h2 : x.toNatClampNeg ≤ 100000 := Nat.not_lt.mp fun q => hx0 (Or.inr q)
    refine va_newaK hx hb (by rw [hty]; exact jx_use w.2 (hF.1 _ w.1 w.2)) rfl d rfl h1 rfl (by rw [hty]; exact Nat.le_trans (Nat.mul_le_mul h2 (Nat.le_refl _)) (by decide)) hk.1 (by omega) hR.1 fun H1 cA e1 z1 o1 hAr hNm => ?_
    rw [hty] at e1 hAr hNm
    refine W.widen (Nat.le_refl _) (Nat.add_le_add_left hN n) (kk H1 locs ls (hR.new (e := .inl (.long, x.toNatClampNeg, .inr (.inl (fun _ => 0)))) ⟨cA, hAr, hNm, ?_⟩ (by rw [z1, hR.1]) (fun q hq => o1 q (by rw [← hR.1]; exact hq))) (jx_domN hR hsz hS hdm) (jx_SN hR hS z1 o1) hl)
    show H1[h.1]? = some (vp_cell cA (x.toNatClampNeg, .inr (.inl (fun _ => 0))))
    rw [e1, vp_cell_l]
    rfl
theorem j_newq {X : jx_X} {cc : ByteArray} {own : String} {k n pc index : Nat} {lv : List (Nat × Value)} {st : List Value} {h h1 : jx_H} {x : Int32} {N : Nat} {cn : String} {rm : Room} (C : jx_ok X cc own) (hr : jx_r X rm) (w : jx_mem (Cond.classLink own index cn)) (hcn : cn = "BorderBasis$State" ∨ cn = "BorderBasis$Matrix") (d : decode cc pc = .ok (.anewarray index, 3)) (hv : hnq h cn x = some h1) (hN : x.toNatClampNeg ≤ N) (hk : k + 1 ≤ rm.cells ∧ n + N ≤ rm.slots) (kk : jx_J X (k + 1) (n + N) (pc + 3) lv (.ref h.1 :: st) h1) : jx_J X k n pc lv (.int x :: st) h := by
  unfold hnq at hv
  split at hv
  · cases hv
  · next hx0 =>
    cases hv
    obtain ⟨p, l, e, R, s, m, args, below, meth, c, D, h0, nL, Q⟩ := X
    obtain ⟨hx, hb, hml, hown, hlk, hsz, hF, hfl⟩ := C
    obtain rfl : R = rm := hr
    intro H locs ls hR hdm hS hl
    have h1 : ¬ x < 0 := fun q => hx0 (Or.inl q)
    have h2 : x.toNatClampNeg ≤ 100000 := Nat.not_lt.mp fun q => hx0 (Or.inr q)
    have hAO : va_AO cn s := by rcases hcn with rfl | rfl; exact hF.2.1; exact hF.2.2.1
    refine W.anew hx hb hown (jx_use w.2 (hF.1 _ w.1 w.2)) (va_AO.use hAO) rfl d rfl h1 (Nat.le_trans (Nat.mul_le_mul h2 (Nat.le_refl _)) (by decide)) hk.1 (by omega) fun cA kA comp f1 f2 f3 f4 => ?_
    have hsH := hR.1
    rw [hsH]
    generalize hH1 : H.push ({ cls := cA, slots := Array.replicate x.toNatClampNeg .null, vm := .none } : Cell) = H1
    have z1 : H1.size = h.1 + 1 := by rw [← hH1, Array.size_push, hsH]
    have e1 : H1[h.1]? = some (arrV cA x.toNatClampNeg (fun _ => .null)) := by rw [← hH1, ← hsH, Array.getElem?_push_size, ← arrV_new]
    have o1 : ∀ q : Nat, q < h.1 → H1[q]? = H[q]? := fun q hq => by rw [← hH1, Array.getElem?_push, if_neg (by omega)]
    refine W.widen (Nat.le_refl _) (Nat.add_le_add_left hN n) (kk H1 locs ls (hR.new (e := .inl (.object cn, x.toNatClampNeg, .inr (.inr (.inr (.inr (fun _ => none)))))) ⟨cA, fun N z => ⟨(fun k h => by cases h), kA, f2, comp, f3⟩, ⟨kA, comp, f2, f3, f4, f1⟩, ?_⟩ (by rw [z1, hsH]) (fun q hq => o1 q (by rw [← hsH]; exact hq))) (jx_domN hR hsz hS hdm) (jx_SN hR hS z1 o1) hl)
    show H1[h.1]? = some (vp_cell cA (x.toNatClampNeg, .inr (.inr (.inr (.inr (fun _ => none))))))
    rw [e1, vp_cell_q]
    rfl
theorem j_new {X : jx_X} {cc : ByteArray} {own : String} {k n pc index : Nat} {lv : List (Nat × Value)} {st : List Value} {h h1 : jx_H} {ci : Nat} {RC : String} {T : u_T} {N : Nat} {ty0 : Nat → FieldType} {fs : List Value} {rm : Room} (C : jx_ok X cc own) (hr : jx_r X rm) (hc : jx_cl[ci]? = some (RC, T, N)) (hin : ∀ w ∈ u_ws RC T N, jx_mem w) (hty : ∀ j, j < N → parseFieldDescriptor (T j).2.2.1 = some (ty0 j)) (w : jx_mem (Cond.classLink own index RC)) (w2 : jx_mem (Cond.instantiable RC N)) (w3 : jx_mem (Cond.initialized RC)) (hfs : ∀ j, j < N → defaultValue (ty0 j) = vp_V fs j) (d : decode cc pc = .ok (.new index, 3)) (hv : hnw h ci fs = some h1) (hk : k + 1 ≤ rm.cells ∧ n + N ≤ rm.slots) (kk : jx_J X (k + 1) (n + N) (pc + 3) lv (.ref h.1 :: st) h1) : jx_J X k n pc lv st h := by
  obtain rfl := Option.some.inj hv
  obtain ⟨p, l, e, R, s, m, args, below, meth, c, D, h0, nL, Q⟩ := X
  obtain ⟨hx, hb, hml, hown, hlk, hsz, hF, hfl⟩ := C
  obtain rfl : R = rm := hr
  intro H locs ls hR hdm hS hl
  have hts : ∀ w ∈ u_ws RC T N, w.before args s = true := fun w hw => jx_use (hin w hw).2 (hF.1 w (hin w hw).1 (hin w hw).2)
  have hKn := hF.2.2.2.1.1 ci _ hc
  refine W.newcK hx hb hown (jx_use w.2 (hF.1 _ w.1 w.2)) (jx_use w2.2 (hF.1 _ w2.1 w2.2)) (jx_use w3.2 (hF.1 _ w3.1 w3.2)) rfl d hk.1 hk.2 hKn.2.1 hR.1 fun H1 kC hkC e1 z1 o1 => ?_
  exact kk H1 locs ls (hR.new (e := .inr (ci, fs)) (show jx_at D.1 s h.1 (.inr (ci, fs)) H1 from ⟨_, hc, (u_born ty0 hts (fun _ hw => hw) hKn hkC e1 hty).to hfs⟩) (by rw [z1, hR.1]) (fun q hq => o1 q (by rw [← hR.1]; exact hq))) (jx_domN hR hsz hS hdm) (jx_SN hR hS z1 o1) hl
theorem j_objInit {X : jx_X} {cc : ByteArray} {own : String} {k n pc index : Nat} {lv : List (Nat × Value)} {st : List Value} {h : jx_H} {a : Nat} {rm : Room} (C : jx_ok X cc own) (hr : jx_r X rm) (w : jx_mem (Cond.methodLink own index objectInit)) (w2 : jx_mem (Cond.instanceMethod objectInit)) (w3 : jx_mem (Cond.code objectInit ⟨#[0xb1]⟩ 1 none)) (d : decode cc pc = .ok (.invokespecial index, 3)) (hf : 1 ≤ rm.frames) (hlo : (st.map fun v => v.category).sum + 12 ≤ rm.locals) (kk : jx_J X k n (pc + 3) lv st h) : jx_J X k n pc lv (.ref a :: st) h := by
  obtain ⟨p, l, e, R, s, m, args, below, meth, c, D, h0, nL, Q⟩ := X
  obtain ⟨hx, hb, hml, hown, hlk, hsz, hF, hfl⟩ := C
  obtain rfl : R = rm := hr
  intro H locs ls hR hdm hS hl
  exact W.objInit hx hb hown (jx_use w.2 (hF.1 _ w.1 w.2)) (jx_use w2.2 (hF.1 _ w2.1 w2.2)) (jx_use w3.2 (hF.1 _ w3.1 w3.2)) rfl (by rw [hml]; exact hl.1) rfl d hf (by show 2 * 0 + _ + 12 ≤ _; omega) (kk H locs ls hR hdm hS hl)
theorem j_min {X : jx_X} {cc : ByteArray} {own : String} {k n pc index : Nat} {lv : List (Nat × Value)} {st : List Value} {h : jx_H} {x y : Int32} {rm : Room} (C : jx_ok X cc own) (hr : jx_r X rm) (w : jx_mem (Cond.methodLink own index Lib.Math.min.name)) (w2 : jx_mem (Cond.static Lib.Math.min.name)) (w3 : jx_mem (Cond.initialized "java/lang/Math")) (w4 : jx_mem (Cond.code Lib.Math.min.name Lib.Math.min.code 2 (some .int))) (d : decode cc pc = .ok (.invokestatic index, 3)) (hf : 1 ≤ rm.frames) (hlo : (st.map fun v => v.category).sum + 13 ≤ rm.locals) (hk : k ≤ rm.cells ∧ n ≤ rm.slots) (kk : jx_J X k n (pc + 3) lv (.int (if y < x then y else x) :: st) h) : jx_J X k n pc lv (.int y :: .int x :: st) h := by
  obtain ⟨p, l, e, R, s, m, args, below, meth, c, D, h0, nL, Q⟩ := X
  obtain ⟨hx, hb, hml, hown, hlk, hsz, hF, hfl⟩ := C
  obtain rfl : R = rm := hr
  intro H locs ls hR hdm hS hl
  exact va_mmin hx hb (by rw [hml]; exact hl.1.symm) hown (jx_use w.2 (hF.1 _ w.1 w.2)) (jx_use w2.2 (hF.1 _ w2.1 w2.2)) (jx_use w3.2 (hF.1 _ w3.1 w3.2)) (jx_use w4.2 (hF.1 _ w4.1 w4.2)) hf hlo hk.1 hk.2 d (kk H locs ls hR hdm hS hl)
theorem j_copy {X : jx_X} {cc : ByteArray} {own : String} {k n pc index : Nat} {lv : List (Nat × Value)} {st : List Value} {h h1 : jx_H} {a0 a : Nat} {sp dp z : Int32} {rm : Room} (C : jx_ok X cc own) (hr : jx_r X rm) (w : jx_mem (Cond.methodLink own index arraycopyName)) (w2 : jx_mem (Cond.native arraycopyName)) (w3 : jx_mem (Cond.static arraycopyName)) (w4 : jx_mem (Cond.initialized "java/lang/System")) (d : decode cc pc = .ok (.invokestatic index, 3)) (hf : 1 ≤ rm.frames) (hlo : (st.map fun v => v.category).sum + (nativeFrameWords "java/lang/System" "arraycopy" 5 + 11) ≤ rm.locals) (hv : hcp h a0 sp a dp z = some h1) (kk : jx_J X k n (pc + 3) lv st h1) : jx_J X k n pc lv (.int z :: .int dp :: .ref a :: .int sp :: .ref a0 :: st) h := by
  obtain ⟨p, l, e, R, s, m, args, below, meth, c, D, h0, nL, Q⟩ := X
  obtain ⟨hx, hb, hml, hown, hlk, hsz, hF, hfl⟩ := C
  obtain rfl : R = rm := hr
  intro H locs ls hR hdm hS hl
  obtain ⟨n0, n1, f, g, he0, he1, g1, g2, g3, g4, g5, rfl⟩ := hcp_spec hv
  have hlink := jx_use (args := args) w.2 (hF.1 _ w.1 w.2)
  have hnat := jx_use (args := args) w2.2 (hF.1 _ w2.1 w2.2)
  have hstat := jx_use (args := args) w3.2 (hF.1 _ w3.1 w3.2)
  have hini := jx_use (args := args) w4.2 (hF.1 _ w4.1 w4.2)
  have nn : ∀ z : Int32, ¬ z < 0 → z.toInt = (z.toNatClampNeg : Int) := by
    intro z hz
    have hz0 : (0 : Int) ≤ z.toInt := by
      have := Int32.not_lt.mp hz
      simpa using Int32.le_iff_toInt_le.mp this
    show z.toInt = ((z.toInt.toNat : Nat) : Int)
    omega
  obtain ⟨c0, a1, a2, a3⟩ := (show jx_at D.1 s a0 (.inl (.int, n0, .inl f)) H from hR.2 a0 _ he0)
  obtain ⟨c1, b1, b2, b3⟩ := (show jx_at D.1 s a (.inl (.int, n1, .inl g)) H from hR.2 a _ he1)
  intro T hT X
  have hc0 : H[a0]? = some (vp_cell c0 (n0, .inl f)) := a3
  have hc1 : H[a]? = some (vp_cell c1 (n1, .inl g)) := b3
  obtain ⟨-, k0, hk0, cm0, hkk0⟩ := a1 n0 (fun j => .int (f j))
  obtain ⟨-, k1, hk1, cm1, hkk1⟩ := b1 n1 (fun j => .int (g j))
  obtain ⟨vm', X', step⟩ := X.arraycopy hx hown hlink hnat hstat hini (src := a0) (dst := a) (cs := vp_cell c0 (n0, .inl f)) (cd := vp_cell c1 (n1, .inl g)) (srcPos := sp) (destPos := dp) (n := z) (by rw [hT]; exact hc0) (by rw [hT]; exact hc1)
    (fun _ h => by cases h) (fun _ h => by cases h) (fun h => by cases h) (fun h => by cases h) hk0 hk1 hkk0 hkk1 (by simp [show refKind FieldType.int = false from rfl]) g1 g2 g3
    (by rw [nn sp g1, nn z g3]; show ¬ _ > ((arrV c0 n0 (fun j => .int (f j))).slots.size : Int); rw [arrV_size]; omega)
    (by rw [nn dp g2, nn z g3]; show ¬ _ > ((arrV c1 n1 (fun j => .int (g j))).slots.size : Int); rw [arrV_size]; omega)
    (fun vm₁ _ i hi => by
      have e : (vp_cell c0 (n0, .inl f)).slots.getD (sp.toNatClampNeg + i) .null = .int (f (sp.toNatClampNeg + i)) := by
        show (arrV c0 n0 (fun j => .int (f j))).slots.getD _ _ = _
        rw [Array.getD_eq_getD_getElem?, arrV_read _ _ (by omega)]
        rfl
      refine ⟨?_, ?_⟩
      · rw [e]
        rfl
      · rw [e]
        exact trivial)
    (g := F0 m pc ls (.int z :: .int dp :: .ref a :: .int sp :: .ref a0 :: st)) rfl (by rw [hml]; exact hl.1) (rest := st) rfl (by rw [hb]; exact d) hf (by show 2 * 0 + _ + _ ≤ _; omega)
  have e1 : copied (vp_cell c0 (n0, .inl f)) (vp_cell c1 (n1, .inl g)) sp dp z = vp_cell c1 (n1, .inl (va_cpy f g sp.toNatClampNeg dp.toNatClampNeg z.toNatClampNeg)) := va_copied (fun z => .int z) c0 c1 f g g4
  rw [e1] at X' step
  have hla : a < H.size := (Array.getElem?_eq_some_iff.mp hc1).1
  generalize hnc : vp_cell c1 (n1, .inl (va_cpy f g sp.toNatClampNeg dp.toNatClampNeg z.toNatClampNeg)) = nc at X' step
  have hheap : ((T.setVm vm').setCell a nc).heap = H.setIfInBounds a nc := by rw [← hT]; rfl
  have oq : ∀ q : Nat, q ≠ a → (H.setIfInBounds a nc)[q]? = H[q]? := fun q hq => by simp [Array.getElem?_setIfInBounds, Ne.symm hq]
  have haA := hdm a (by rw [he1]; exact fun z => by cases z)
  obtain ⟨t, a9, b9⟩ := kk _ _ ls (hR.put (show jx_at D.1 s a (.inl (.int, n1, .inl (va_cpy f g sp.toNatClampNeg dp.toNatClampNeg z.toNatClampNeg))) (H.setIfInBounds a nc) from ⟨c1, b1, b2, by rw [hnc]; simp [Array.getElem?_setIfInBounds, hla]⟩) (by simp) oq) (jx_dom hdm he1) ⟨by simp; exact hS.1, fun q g1 g2 => by
      rw [oq q (fun e => g2 (by rw [e]; exact haA))]
      exact hS.2.1 q g1 g2, fun q hq => by
      rcases List.mem_append.mp hq with h | h
      · exact hS.2.2 q h
      · obtain ⟨z, -, hz⟩ := List.mem_map.mp h
        rw [← hz]
        exact haA⟩ hl _ hheap X'
  exact ⟨t, step t a9, b9⟩
