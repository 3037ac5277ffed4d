/-! BorderBasis$Matrix.<init>(II)V -/
noncomputable def FX2_init (N1 N2 : Nat) (l0 : Nat) (l1 : Int32) (l2 : Int32) (h : jx_H) : Option (jx_H) :=
if ¬ ((l1 * l2).toNatClampNeg ≤ N1 ∧ l1.toNatClampNeg ≤ N2) then none else
(hp h l0 2 0 (.int l1)).bind fun h1 =>
(hp h1 l0 2 1 (.int l2)).bind fun h2 =>
(hna h2 .int (l1 * l2)).bind fun h3 =>
(hp h3 l0 2 2 (.ref h2.1)).bind fun h4 =>
(hna h4 .int l1).bind fun h5 =>
(hp h5 l0 2 3 (.ref h4.1)).bind fun h6 =>
some h6
def rmX2_init (N1 N2 : Nat) : Room := { frames := 1, cells := 2, slots := N1 + N2, locals := 20 }
set_option maxRecDepth 20000 in
set_option maxHeartbeats 4000000 in
theorem sX2_init {N1 N2 : Nat} {l0 : Nat} {l1 : Int32} {l2 : Int32} {h : jx_H} {h9 : jx_H} (e : FX2_init N1 N2 l0 l1 l2 h = some h9) : jx_Ct yX2_init cX2_init 3 none (rmX2_init N1 N2) [.ref l0, .int l1, .int l2] h (fun r' h' => none = r' ∧ h9 = h') := by
  refine jx_Ct.of (own := RX2) (by decide) rfl (Nat.le_of_ble_eq_true rfl) (fun X C hq hr hL hN => ?_)
  refine jx_sub (lv' := [(0, .ref l0), (1, .int l1), (2, .int l2)]) [0, 1, 2] rfl ?_
  unfold FX2_init at e
  by_cases hb : ¬ ((l1 * l2).toNatClampNeg ≤ N1 ∧ l1.toNatClampNeg ≤ N2)
  · exact nos (ifp hb e)
  replace e := ifn hb e
  obtain ⟨hb1, hb2⟩ := Classical.not_not.mp hb
  refine j_aload_n C dX2_init_0 rfl rfl ?_
  refine j_objInit C hr kX2_3 kim_Oinit kc_Oinit dX2_init_1 (Nat.le_of_ble_eq_true rfl) (Nat.le_of_ble_eq_true rfl) ?_
  refine j_aload_n C dX2_init_4 rfl rfl ?_
  refine j_iload_n C dX2_init_5 rfl rfl ?_
  replace e := ob e
  obtain ⟨h1, eh1, e⟩ := e
  refine j_putF (ci := 2) (RC := RX2) (T := TX2) (N := 7) (ty0 := tyX2) 0 C rfl klX2 tyX2_ok nmX2 (Nat.le_of_ble_eq_true rfl) kX2_9 rfl rfl hN rfl rfl rfl rfl dX2_init_6 eh1 ?_
  refine j_aload_n C dX2_init_9 rfl rfl ?_
  refine j_iload_n C dX2_init_10 rfl rfl ?_
  replace e := ob e
  obtain ⟨h2, eh2, e⟩ := e
  refine j_putF (ci := 2) (RC := RX2) (T := TX2) (N := 7) (ty0 := tyX2) 1 C rfl klX2 tyX2_ok nmX2 (Nat.le_of_ble_eq_true rfl) kX2_15 rfl rfl hN rfl rfl rfl rfl dX2_init_11 eh2 ?_
  refine j_aload_n C dX2_init_14 rfl rfl ?_
  refine j_iload_n C dX2_init_15 rfl rfl ?_
  refine j_iload_n C dX2_init_16 rfl rfl ?_
  refine j_imul C dX2_init_17 ?_
  replace e := ob e
  obtain ⟨h3, eh3, e⟩ := e
  refine j_newa (ty := .int) (N := N1) C hr kac_int rfl rfl (Nat.le_of_ble_eq_true rfl) dX2_init_18 eh3 hb1 ⟨Nat.le_of_ble_eq_true rfl, by show 0 + N1 ≤ N1 + N2; omega⟩ ?_
  replace e := ob e
  obtain ⟨h4, eh4, e⟩ := e
  refine j_putF (ci := 2) (RC := RX2) (T := TX2) (N := 7) (ty0 := tyX2) 2 C rfl klX2 tyX2_ok nmX2 (Nat.le_of_ble_eq_true rfl) kX2_18 rfl rfl hN rfl rfl rfl rfl dX2_init_20 eh4 ?_
  refine j_aload_n C dX2_init_23 rfl rfl ?_
  refine j_iload_n C dX2_init_24 rfl rfl ?_
  replace e := ob e
  obtain ⟨h5, eh5, e⟩ := e
  refine j_newa (ty := .int) (N := N2) C hr kac_int rfl rfl (Nat.le_of_ble_eq_true rfl) dX2_init_25 eh5 hb2 ⟨Nat.le_of_ble_eq_true rfl, by show 0 + N1 + N2 ≤ N1 + N2; omega⟩ ?_
  replace e := ob e
  obtain ⟨h6, eh6, e⟩ := e
  refine j_putF (ci := 2) (RC := RX2) (T := TX2) (N := 7) (ty0 := tyX2) 3 C rfl klX2 tyX2_ok nmX2 (Nat.le_of_ble_eq_true rfl) kX2_22 rfl rfl hN rfl rfl rfl rfl dX2_init_27 eh6 ?_
  cases e
  exact j_vret C hq dX2_init_30 ⟨Nat.le_of_ble_eq_true rfl, by show 0 + N1 + N2 ≤ N1 + N2; omega⟩ ⟨rfl, rfl⟩
/-! BorderBasis$Fitter.<init>(LBorderBasis$Spot;)V -/
noncomputable def FX0_init (l0 : Nat) (l1 : Nat) (h : jx_H) : Option (jx_H) :=
(hnw h 2 fsX2).bind fun h1 =>
(FX2_init 1092 12 h.1 (12 : Int32) (91 : Int32) h1).bind fun h2 =>
(hp h2 l0 0 1 (.ref h.1)).bind fun h3 =>
(hp h3 l0 0 0 (.ref l1)).bind fun h4 =>
some h4
def rmX0_init : Room := { frames := 2, cells := 3, slots := 1111, locals := 42 }
set_option maxRecDepth 20000 in
set_option maxHeartbeats 4000000 in
theorem sX0_init {l0 : Nat} {l1 : Nat} {h : jx_H} {h9 : jx_H} (e : FX0_init l0 l1 h = some h9) : jx_Ct yX0_init cX0_init 2 none rmX0_init [.ref l0, .ref l1] h (fun r' h' => none = r' ∧ h9 = h') := by
  refine jx_Ct.of (own := RX0) (by decide) rfl (Nat.le_of_ble_eq_true rfl) (fun X C hq hr hL hN => ?_)
  refine jx_sub (lv' := [(0, .ref l0), (1, .ref l1)]) [0, 1] rfl ?_
  unfold FX0_init at e
  refine j_aload_n C dX0_init_0 rfl rfl ?_
  refine j_objInit C hr kX0_3 kim_Oinit kc_Oinit dX0_init_1 (Nat.le_of_ble_eq_true rfl) (Nat.le_of_ble_eq_true rfl) ?_
  refine j_aload_n C dX0_init_4 rfl rfl ?_
  replace e := ob e
  obtain ⟨h5, eh5, e⟩ := e
  refine j_new (ci := 2) (RC := RX2) (T := TX2) (N := 7) (ty0 := tyX2) (fs := fsX2) C hr rfl klX2 tyX2_ok kX0_9 kins_X2 kini_X2 fsX2_ok dX0_init_5 eh5 ⟨Nat.le_of_ble_eq_true rfl, Nat.le_of_ble_eq_true rfl⟩ ?_
  refine jx_widen (k1 := 1) (n1 := 7) (Nat.le_of_ble_eq_true rfl) (Nat.le_of_ble_eq_true rfl) ?_
  refine j_dup C dX0_init_8 rfl ?_
  refine j_bipush (v := (12 : Int32)) C dX0_init_9 (by decide) ?_
  refine j_bipush (v := (91 : Int32)) C dX0_init_11 (by decide) ?_
  replace e := ob e
  obtain ⟨h6, eh6, e⟩ := e
  refine j_callI (As := [.int (12 : Int32), .int (91 : Int32)]) (b := h.1) (na := 2) (st := [.ref h.1, .ref l0]) (k1 := 3) (n1 := 1111) C hr (sX2_init eh6) kX0_11 kim_X2_init kini_X2 kc_X2_init (by decide) rfl ⟨(Nat.le_of_ble_eq_true rfl), (Nat.le_of_ble_eq_true rfl)⟩ (Nat.le_of_ble_eq_true rfl) ⟨rfl, rfl, (Nat.le_of_ble_eq_true rfl), (Nat.le_of_ble_eq_true rfl)⟩ dX0_init_13 ?_
  rintro _ _ ⟨rfl, rfl⟩
  show jx_J X 3 1111 16 [(0, .ref l0), (1, .ref l1)] [.ref h.1, .ref l0] h6
  replace e := ob e
  obtain ⟨h7, eh7, e⟩ := e
  refine j_putF (ci := 0) (RC := RX0) (T := TX0) (N := 2) (ty0 := tyX0) 1 C rfl klX0 tyX0_ok nmX0 (Nat.le_of_ble_eq_true rfl) kX0_14 rfl rfl hN rfl rfl rfl rfl dX0_init_16 eh7 ?_
  refine j_aload_n C dX0_init_19 rfl rfl ?_
  refine j_aload_n C dX0_init_20 rfl rfl ?_
  replace e := ob e
  obtain ⟨h8, eh8, e⟩ := e
  refine j_putF (ci := 0) (RC := RX0) (T := TX0) (N := 2) (ty0 := tyX0) 0 C rfl klX0 tyX0_ok nmX0 (Nat.le_of_ble_eq_true rfl) kX0_20 rfl rfl hN rfl rfl rfl rfl dX0_init_21 eh8 ?_
  cases e
  exact j_vret C hq dX0_init_24 ⟨Nat.le_of_ble_eq_true rfl, Nat.le_of_ble_eq_true rfl⟩ ⟨rfl, rfl⟩
/-! java/util/Arrays.fill([II)V -/
noncomputable def LJ7_fill_53178_5 (l0 : Nat) (l1 : Int32) (l3 : Int32) (l2 : Int32) (h : jx_H) : Option ((Int32 × jx_H) ⊕ (jx_H)) :=
if l3 ≤ l2 then
 exL (some h)
else
 (has h .int l0 l2 l1).bind fun h2 =>
 some (.inl ((l2 + (1 : Int32)), h2))
noncomputable def FJ7_fill_53178 (l0 : Nat) (l1 : Int32) (h : jx_H) : Option (jx_H) :=
(hlen h l0).bind fun x1 =>
itr (fun s : Int32 × jx_H => LJ7_fill_53178_5 l0 l1 x1 s.1 s.2) ((0 : Int32), h)
def rmJ7_fill_53178 : Room := { frames := 0, cells := 0, slots := 0, locals := 0 }
set_option maxRecDepth 20000 in
set_option maxHeartbeats 4000000 in
theorem sJ7_fill_53178 {l0 : Nat} {l1 : Int32} {h : jx_H} {h9 : jx_H} (e : FJ7_fill_53178 l0 l1 h = some h9) : jx_Ct yJ7_fill_53178 cJ7_fill_53178 4 none rmJ7_fill_53178 [.ref l0, .int l1] h (fun r' h' => none = r' ∧ h9 = h') := by
  refine jx_Ct.of (own := RJ7) (by decide) rfl (Nat.le_of_ble_eq_true rfl) (fun X C hq hr hL hN => ?_)
  refine jx_sub (lv' := [(0, .ref l0), (1, .int l1)]) [0, 1] rfl ?_
  unfold FJ7_fill_53178 at e
  refine j_iconst (v := (0 : Int32)) C dJ7_fill_53178_0 (by decide) ?_
  refine j_istore_n (lv1 := [(2, .int (0 : Int32)), (0, .ref l0), (1, .int l1)]) C hL dJ7_fill_53178_1 rfl (Nat.le_of_ble_eq_true rfl) rfl ?_
  refine j_aload_n C dJ7_fill_53178_2 rfl rfl ?_
  replace e := ob e
  obtain ⟨x4, ex4, e⟩ := e
  refine j_alen C dJ7_fill_53178_3 ex4 ?_
  refine j_istore_n (lv1 := [(3, .int x4), (2, .int (0 : Int32)), (0, .ref l0), (1, .int l1)]) C hL dJ7_fill_53178_4 rfl (Nat.le_of_ble_eq_true rfl) rfl ?_
  refine jx_sub (lv' := [(0, .ref l0), (1, .int l1), (2, .int (0 : Int32)), (3, .int x4)]) [2, 3, 1, 0] rfl ?_
  refine itr_ind (s0 := ((0 : Int32), h)) (fun s : Int32 × jx_H => jx_J X 0 0 5 [(0, .ref l0), (1, .int l1), (2, .int s.1), (3, .int x4)] [] s.2) e ?_
  clear e
  intro s kI2 kT2 e0
  obtain ⟨z5, h6⟩ := s
  obtain ⟨u2, e0_2⟩ := e0
  have e : LJ7_fill_53178_5 l0 l1 x4 z5 h6 = some u2 := e0_2
  unfold LJ7_fill_53178_5 at e
  refine j_iload_n C dJ7_fill_53178_5 rfl rfl ?_
  refine j_iload_n C dJ7_fill_53178_6 rfl rfl ?_
  refine j_icmp_ge (tgt := 20) C dJ7_fill_53178_7 (by decide) (fun c8 => ?_) (fun c8 => ?_)
  · replace e := ifp c8 e
    obtain ⟨t_3, e_3, eu_3⟩ := exL_spec e
    obtain rfl := kT2 t_3 (e0_2.trans (congrArg some eu_3))
    replace e := e_3
    cases e
    exact j_vret C hq dJ7_fill_53178_20 ⟨Nat.le_of_ble_eq_true rfl, Nat.le_of_ble_eq_true rfl⟩ ⟨rfl, rfl⟩
  · replace e := ifn c8 e
    refine j_aload_n C dJ7_fill_53178_10 rfl rfl ?_
    refine j_iload_n C dJ7_fill_53178_11 rfl rfl ?_
    refine j_iload_n C dJ7_fill_53178_12 rfl rfl ?_
    replace e := ob e
    obtain ⟨h7, eh7, e⟩ := e
    refine j_iast C dJ7_fill_53178_13 eh7 ?_
    refine j_iinc (v := (z5 + (1 : Int32))) (lv1 := [(2, .int (z5 + (1 : Int32))), (0, .ref l0), (1, .int l1), (3, .int x4)]) C hL dJ7_fill_53178_14 rfl rfl (Nat.le_of_ble_eq_true rfl) rfl ?_
    refine j_goto (tgt := 5) C dJ7_fill_53178_17 (by decide) ?_
    obtain rfl := Option.some.inj e
    refine jx_sub (lv' := [(0, .ref l0), (1, .int l1), (2, .int (z5 + (1 : Int32))), (3, .int x4)]) [1, 2, 0, 3] rfl ?_
    exact kI2 ((z5 + (1 : Int32)), h7) e0_2
/-! BorderBasis$Fitter.columnOf(II)I -/
noncomputable def FX0_columnOf (l0 : Int32) (l1 : Int32) (h : jx_H) : Option (Int32) :=
some ((((l0 + l1) * ((l0 + l1) + (1 : Int32))) / (2 : Int32)) + l1)
def rmX0_columnOf : Room := { frames := 0, cells := 0, slots := 0, locals := 0 }
set_option maxRecDepth 20000 in
set_option maxHeartbeats 4000000 in
theorem sX0_columnOf {l0 : Int32} {l1 : Int32} {h : jx_H} {r : Int32}  (e : FX0_columnOf l0 l1 h = some r) : jx_Ct yX0_columnOf cX0_columnOf 2 (some .int) rmX0_columnOf [.int l0, .int l1] h (fun r' h' => some (.int r) = r' ∧ h = h') := by
  refine jx_Ct.of (own := RX0) (by decide) rfl (Nat.le_of_ble_eq_true rfl) (fun X C hq hr hL hN => ?_)
  refine jx_sub (lv' := [(0, .int l0), (1, .int l1)]) [0, 1] rfl ?_
  unfold FX0_columnOf at e
  refine j_iload_n C dX0_columnOf_0 rfl rfl ?_
  refine j_iload_n C dX0_columnOf_1 rfl rfl ?_
  refine j_iadd C dX0_columnOf_2 ?_
  refine j_iload_n C dX0_columnOf_3 rfl rfl ?_
  refine j_iload_n C dX0_columnOf_4 rfl rfl ?_
  refine j_iadd C dX0_columnOf_5 ?_
  refine j_iconst (v := (1 : Int32)) C dX0_columnOf_6 (by decide) ?_
  refine j_iadd C dX0_columnOf_7 ?_
  refine j_imul C dX0_columnOf_8 ?_
  refine j_iconst (v := (2 : Int32)) C dX0_columnOf_9 (by decide) ?_
  refine j_idiv C dX0_columnOf_10 (by decide) ?_
  refine j_iload_n C dX0_columnOf_11 rfl rfl ?_
  refine j_iadd C dX0_columnOf_12 ?_
  cases e
  exact j_iret C hq rfl dX0_columnOf_13 ⟨Nat.le_of_ble_eq_true rfl, Nat.le_of_ble_eq_true rfl⟩ ⟨rfl, rfl⟩
/-! BorderBasis$Fitter.exponentOfColumn(I)I -/
noncomputable def BX0_exponentOfColumn_29 (l0 : Int32) (l1 : Int32) (h : jx_H) : Option ((Int32) ⊕ (Int32)) :=
some (.inl (l1 + (1 : Int32)))
noncomputable def LX0_exponentOfColumn_2 (l0 : Int32) (l1 : Int32) (h : jx_H) : Option ((Int32) ⊕ (Int32)) :=
if (12 : Int32) < l1 then
 exL (some (0 : Int32))
else
 (FX0_columnOf l1 (0 : Int32) h).bind fun x1 =>
 if (l0 - x1) < 0 then
  BX0_exponentOfColumn_29 l0 l1 h
 else
  if l1 < (l0 - x1) then
   BX0_exponentOfColumn_29 l0 l1 h
  else
   exL (some (l1 - (l0 - x1)))
noncomputable def FX0_exponentOfColumn (l0 : Int32) (h : jx_H) : Option (Int32) :=
itr (fun s : Int32 => LX0_exponentOfColumn_2 l0 s h) (0 : Int32)
def rmX0_exponentOfColumn : Room := { frames := 1, cells := 0, slots := 0, locals := 21 }
set_option maxRecDepth 20000 in
set_option maxHeartbeats 4000000 in
theorem sX0_exponentOfColumn {l0 : Int32} {h : jx_H} {r : Int32}  (e : FX0_exponentOfColumn l0 h = some r) : jx_Ct yX0_exponentOfColumn cX0_exponentOfColumn 3 (some .int) rmX0_exponentOfColumn [.int l0] h (fun r' h' => some (.int r) = r' ∧ h = h') := by
  refine jx_Ct.of (own := RX0) (by decide) rfl (Nat.le_of_ble_eq_true rfl) (fun X C hq hr hL hN => ?_)
  refine jx_sub (lv' := [(0, .int l0)]) [0] rfl ?_
  unfold FX0_exponentOfColumn at e
  refine j_iconst (v := (0 : Int32)) C dX0_exponentOfColumn_0 (by decide) ?_
  refine j_istore_n (lv1 := [(1, .int (0 : Int32)), (0, .int l0)]) C hL dX0_exponentOfColumn_1 rfl (Nat.le_of_ble_eq_true rfl) rfl ?_
  refine jx_sub (lv' := [(0, .int l0), (1, .int (0 : Int32))]) [1, 0] rfl ?_
  refine itr_ind (s0 := (0 : Int32)) (fun s : Int32 => jx_J X 0 0 2 [(0, .int l0), (1, .int s)] [] h) e ?_
  clear e
  intro s kI3 kT3 e0
  obtain ⟨z5, es⟩ : ∃ z, z = s := ⟨_, rfl⟩
  subst es
  obtain ⟨u3, e0_3⟩ := e0
  have e : LX0_exponentOfColumn_2 l0 z5 h = some u3 := e0_3
  have b29 : ∀ (y6 : Int32), BX0_exponentOfColumn_29 l0 y6 h = some u3 → jx_J X 0 0 29 [(0, .int l0), (1, .int y6)] [] h := by
    intro y6 e
    unfold BX0_exponentOfColumn_29 at e
    refine j_iinc (v := (y6 + (1 : Int32))) (lv1 := [(1, .int (y6 + (1 : Int32))), (0, .int l0)]) C hL dX0_exponentOfColumn_29 rfl rfl (Nat.le_of_ble_eq_true rfl) rfl ?_
    refine j_goto (tgt := 2) C dX0_exponentOfColumn_32 (by decide) ?_
    obtain rfl := Option.some.inj e
    refine jx_sub (lv' := [(0, .int l0), (1, .int (y6 + (1 : Int32)))]) [1, 0] rfl ?_
    exact kI3 (y6 + (1 : Int32)) e0_3
  unfold LX0_exponentOfColumn_2 at e
  refine j_iload_n C dX0_exponentOfColumn_2 rfl rfl ?_
  refine j_bipush (v := (12 : Int32)) C dX0_exponentOfColumn_3 (by decide) ?_
  refine j_icmp_gt (tgt := 35) C dX0_exponentOfColumn_5 (by decide) (fun c10 => ?_) (fun c10 => ?_)
  · replace e := ifp c10 e
    obtain ⟨t_4, e_4, eu_4⟩ := exL_spec e
    obtain rfl := kT3 t_4 (e0_3.trans (congrArg some eu_4))
    replace e := e_4
    refine j_iconst (v := (0 : Int32)) C dX0_exponentOfColumn_35 (by decide) ?_
    cases e
    exact j_iret C hq rfl dX0_exponentOfColumn_36 ⟨Nat.le_of_ble_eq_true rfl, Nat.le_of_ble_eq_true rfl⟩ ⟨rfl, rfl⟩
  · replace e := ifn c10 e
    refine j_iload_n C dX0_exponentOfColumn_8 rfl rfl ?_
    refine j_iload_n C dX0_exponentOfColumn_9 rfl rfl ?_
    refine j_iconst (v := (0 : Int32)) C dX0_exponentOfColumn_10 (by decide) ?_
    replace e := ob e
    obtain ⟨x7, ex7, e⟩ := e
    refine j_callS (As := [.int z5, .int (0 : Int32)]) (na := 2) (st := [.int l0]) (k1 := 0) (n1 := 0) C hr (sX0_columnOf ex7) kX0_72 kst_X0_columnOf kini_X0 kc_X0_columnOf (by decide) rfl ⟨(Nat.le_of_ble_eq_true rfl), (Nat.le_of_ble_eq_true rfl)⟩ (Nat.le_of_ble_eq_true rfl) ⟨rfl, rfl, (Nat.le_of_ble_eq_true rfl), (Nat.le_of_ble_eq_true rfl)⟩ dX0_exponentOfColumn_11 ?_
    rintro _ _ ⟨rfl, rfl⟩
    show jx_J X 0 0 14 [(0, .int l0), (1, .int z5)] [.int x7, .int l0] h
    refine j_isub C dX0_exponentOfColumn_14 ?_
    refine j_istore_n (lv1 := [(2, .int (l0 - x7)), (0, .int l0), (1, .int z5)]) C hL dX0_exponentOfColumn_15 rfl (Nat.le_of_ble_eq_true rfl) rfl ?_
    refine j_iload_n C dX0_exponentOfColumn_16 rfl rfl ?_
    refine j_if_lt (tgt := 29) C dX0_exponentOfColumn_17 (by decide) (fun c9 => ?_) (fun c9 => ?_)
    · replace e := ifp c9 e
      refine jx_sub (lv' := [(0, .int l0), (1, .int z5)]) [1, 2] rfl ?_
      exact b29 z5 e
    · replace e := ifn c9 e
      refine j_iload_n C dX0_exponentOfColumn_20 rfl rfl ?_
      refine j_iload_n C dX0_exponentOfColumn_21 rfl rfl ?_
      refine j_icmp_gt (tgt := 29) C dX0_exponentOfColumn_22 (by decide) (fun c8 => ?_) (fun c8 => ?_)
      · replace e := ifp c8 e
        refine jx_sub (lv' := [(0, .int l0), (1, .int z5)]) [1, 2] rfl ?_
        exact b29 z5 e
      · replace e := ifn c8 e
        obtain ⟨t_5, e_5, eu_5⟩ := exL_spec e
        obtain rfl := kT3 t_5 (e0_3.trans (congrArg some eu_5))
        replace e := e_5
        refine j_iload_n C dX0_exponentOfColumn_25 rfl rfl ?_
        refine j_iload_n C dX0_exponentOfColumn_26 rfl rfl ?_
        refine j_isub C dX0_exponentOfColumn_27 ?_
        cases e
        exact j_iret C hq rfl dX0_exponentOfColumn_28 ⟨Nat.le_of_ble_eq_true rfl, Nat.le_of_ble_eq_true rfl⟩ ⟨rfl, rfl⟩
/-! BorderBasis$Matrix.clear(II)V -/
noncomputable def FX2_clear (l0 : Nat) (l1 : Int32) (l2 : Int32) (h : jx_H) : Option (jx_H) :=
(hgi h l0 2 0).bind fun x1 =>
(hp h l0 2 4 (.int (if x1 < l1 then x1 else l1))).bind fun h2 =>
(hgi h2 l0 2 1).bind fun x3 =>
(hp h2 l0 2 5 (.int (if x3 < l2 then x3 else l2))).bind fun h4 =>
(hgr h4 l0 2 2).bind fun x5 =>
(FJ7_fill_53178 x5 (0 : Int32) h4).bind fun h6 =>
some h6
def rmX2_clear : Room := { frames := 1, cells := 0, slots := 0, locals := 23 }
set_option maxRecDepth 20000 in
set_option maxHeartbeats 4000000 in
theorem sX2_clear {l0 : Nat} {l1 : Int32} {l2 : Int32} {h : jx_H} {h9 : jx_H} (e : FX2_clear l0 l1 l2 h = some h9) : jx_Ct yX2_clear cX2_clear 3 none rmX2_clear [.ref l0, .int l1, .int l2] h (fun r' h' => none = r' ∧ h9 = h') := by
  refine jx_Ct.of (own := RX2) (by decide) rfl (Nat.le_of_ble_eq_true rfl) (fun X C hq hr hL hN => ?_)
  refine jx_sub (lv' := [(0, .ref l0), (1, .int l1), (2, .int l2)]) [0, 1, 2] rfl ?_
  unfold FX2_clear at e
  refine j_aload_n C dX2_clear_0 rfl rfl ?_
  refine j_iload_n C dX2_clear_1 rfl rfl ?_
  refine j_aload_n C dX2_clear_2 rfl rfl ?_
  replace e := ob e
  obtain ⟨x7, ex7, e⟩ := e
  refine j_geti (ci := 2) (RC := RX2) (T := TX2) (N := 7) 0 C rfl klX2 (Nat.le_of_ble_eq_true rfl) kX2_9 rfl dX2_clear_3 ex7 ?_
  refine j_min C hr kX2_25 kst_Math_min kini_J9 kc_Math_min dX2_clear_6 (Nat.le_of_ble_eq_true rfl) (Nat.le_of_ble_eq_true rfl) ⟨(Nat.le_of_ble_eq_true rfl), (Nat.le_of_ble_eq_true rfl)⟩ ?_
  replace e := ob e
  obtain ⟨h8, eh8, e⟩ := e
  refine j_put (ci := 2) (RC := RX2) (T := TX2) (N := 7) (ty0 := tyX2) 4 C rfl klX2 tyX2_ok nmX2 (Nat.le_of_ble_eq_true rfl) kX2_31 rfl rfl rfl rfl dX2_clear_9 eh8 ?_
  refine j_aload_n C dX2_clear_12 rfl rfl ?_
  refine j_iload_n C dX2_clear_13 rfl rfl ?_
  refine j_aload_n C dX2_clear_14 rfl rfl ?_
  replace e := ob e
  obtain ⟨x9, ex9, e⟩ := e
  refine j_geti (ci := 2) (RC := RX2) (T := TX2) (N := 7) 1 C rfl klX2 (Nat.le_of_ble_eq_true rfl) kX2_15 rfl dX2_clear_15 ex9 ?_
  refine j_min C hr kX2_25 kst_Math_min kini_J9 kc_Math_min dX2_clear_18 (Nat.le_of_ble_eq_true rfl) (Nat.le_of_ble_eq_true rfl) ⟨(Nat.le_of_ble_eq_true rfl), (Nat.le_of_ble_eq_true rfl)⟩ ?_
  replace e := ob e
  obtain ⟨h10, eh10, e⟩ := e
  refine j_put (ci := 2) (RC := RX2) (T := TX2) (N := 7) (ty0 := tyX2) 5 C rfl klX2 tyX2_ok nmX2 (Nat.le_of_ble_eq_true rfl) kX2_34 rfl rfl rfl rfl dX2_clear_21 eh10 ?_
  refine j_aload_n C dX2_clear_24 rfl rfl ?_
  replace e := ob e
  obtain ⟨x11, ex11, e⟩ := e
  refine j_getr (ci := 2) (RC := RX2) (T := TX2) (N := 7) 2 C rfl klX2 (Nat.le_of_ble_eq_true rfl) kX2_18 rfl dX2_clear_25 ex11 ?_
  refine j_iconst (v := (0 : Int32)) C dX2_clear_28 (by decide) ?_
  replace e := ob e
  obtain ⟨h12, eh12, e⟩ := e
  refine j_callS (As := [.ref x11, .int (0 : Int32)]) (na := 2) (st := []) (k1 := 0) (n1 := 0) C hr (sJ7_fill_53178 eh12) kX2_37 kst_J7_fill_53178 kini_J7 kc_J7_fill_53178 (by decide) rfl ⟨(Nat.le_of_ble_eq_true rfl), (Nat.le_of_ble_eq_true rfl)⟩ (Nat.le_of_ble_eq_true rfl) ⟨rfl, rfl, (Nat.le_of_ble_eq_true rfl), (Nat.le_of_ble_eq_true rfl)⟩ dX2_clear_29 ?_
  rintro _ _ ⟨rfl, rfl⟩
  show jx_J X 0 0 32 [(0, .ref l0), (1, .int l1), (2, .int l2)] [] h12
  cases e
  exact j_vret C hq dX2_clear_32 ⟨Nat.le_of_ble_eq_true rfl, Nat.le_of_ble_eq_true rfl⟩ ⟨rfl, rfl⟩
/-! BorderBasis$Matrix.has(II)Z -/
noncomputable def FX2_has (l0 : Nat) (l1 : Int32) (l2 : Int32) (h : jx_H) : Option (Int32) :=
if l1 < 0 then
 some (0 : Int32)
else
 (hgi h l0 2 4).bind fun x1 =>
 if x1 ≤ l1 then
  some (0 : Int32)
 else
  if l2 < 0 then
   some (0 : Int32)
  else
   (hgi h l0 2 5).bind fun x2 =>
   if x2 ≤ l2 then
    some (0 : Int32)
   else
    some (1 : Int32)
def rmX2_has : Room := { frames := 0, cells := 0, slots := 0, locals := 0 }
set_option maxRecDepth 20000 in
set_option maxHeartbeats 4000000 in
theorem sX2_has {l0 : Nat} {l1 : Int32} {l2 : Int32} {h : jx_H} {r : Int32}  (e : FX2_has l0 l1 l2 h = some r) : jx_Ct yX2_has cX2_has 3 (some .boolean) rmX2_has [.ref l0, .int l1, .int l2] h (fun r' h' => some (.int r) = r' ∧ h = h') := by
  refine jx_Ct.of (own := RX2) (by decide) rfl (Nat.le_of_ble_eq_true rfl) (fun X C hq hr hL hN => ?_)
  refine jx_sub (lv' := [(0, .ref l0), (1, .int l1), (2, .int l2)]) [0, 1, 2] rfl ?_
  unfold FX2_has at e
  refine j_iload_n C dX2_has_0 rfl rfl ?_
  refine j_if_lt (tgt := 28) C dX2_has_1 (by decide) (fun c12 => ?_) (fun c12 => ?_)
  · replace e := ifp c12 e
    refine j_iconst (v := (0 : Int32)) C dX2_has_28 (by decide) ?_
    cases e
    exact j_iret C hq rfl dX2_has_29 ⟨Nat.le_of_ble_eq_true rfl, Nat.le_of_ble_eq_true rfl⟩ ⟨rfl, rfl⟩
  · replace e := ifn c12 e
    refine j_iload_n C dX2_has_4 rfl rfl ?_
    refine j_aload_n C dX2_has_5 rfl rfl ?_
    replace e := ob e
    obtain ⟨x7, ex7, e⟩ := e
    refine j_geti (ci := 2) (RC := RX2) (T := TX2) (N := 7) 4 C rfl klX2 (Nat.le_of_ble_eq_true rfl) kX2_31 rfl dX2_has_6 ex7 ?_
    refine j_icmp_ge (tgt := 28) C dX2_has_9 (by decide) (fun c11 => ?_) (fun c11 => ?_)
    · replace e := ifp c11 e
      refine j_iconst (v := (0 : Int32)) C dX2_has_28 (by decide) ?_
      cases e
      exact j_iret C hq rfl dX2_has_29 ⟨Nat.le_of_ble_eq_true rfl, Nat.le_of_ble_eq_true rfl⟩ ⟨rfl, rfl⟩
    · replace e := ifn c11 e
      refine j_iload_n C dX2_has_12 rfl rfl ?_
      refine j_if_lt (tgt := 28) C dX2_has_13 (by decide) (fun c10 => ?_) (fun c10 => ?_)
      · replace e := ifp c10 e
        refine j_iconst (v := (0 : Int32)) C dX2_has_28 (by decide) ?_
        cases e
        exact j_iret C hq rfl dX2_has_29 ⟨Nat.le_of_ble_eq_true rfl, Nat.le_of_ble_eq_true rfl⟩ ⟨rfl, rfl⟩
      · replace e := ifn c10 e
        refine j_iload_n C dX2_has_16 rfl rfl ?_
        refine j_aload_n C dX2_has_17 rfl rfl ?_
        replace e := ob e
        obtain ⟨x8, ex8, e⟩ := e
        refine j_geti (ci := 2) (RC := RX2) (T := TX2) (N := 7) 5 C rfl klX2 (Nat.le_of_ble_eq_true rfl) kX2_34 rfl dX2_has_18 ex8 ?_
        refine j_icmp_ge (tgt := 28) C dX2_has_21 (by decide) (fun c9 => ?_) (fun c9 => ?_)
        · replace e := ifp c9 e
          refine j_iconst (v := (0 : Int32)) C dX2_has_28 (by decide) ?_
          cases e
          exact j_iret C hq rfl dX2_has_29 ⟨Nat.le_of_ble_eq_true rfl, Nat.le_of_ble_eq_true rfl⟩ ⟨rfl, rfl⟩
        · replace e := ifn c9 e
          refine j_iconst (v := (1 : Int32)) C dX2_has_24 (by decide) ?_
          refine j_goto (tgt := 29) C dX2_has_25 (by decide) ?_
          cases e
          exact j_iret C hq rfl dX2_has_29 ⟨Nat.le_of_ble_eq_true rfl, Nat.le_of_ble_eq_true rfl⟩ ⟨rfl, rfl⟩
/-! BorderBasis$Matrix.put(III)V -/
noncomputable def FX2_put (l0 : Nat) (l1 : Int32) (l2 : Int32) (l3 : Int32) (h : jx_H) : Option (jx_H) :=
(isO h l0 2).bind fun _ =>
(FX2_has l0 l1 l2 h).bind fun x2 =>
if x2 = 0 then
 some h
else
 (hgr h l0 2 2).bind fun x3 =>
 (hgi h l0 2 1).bind fun x4 =>
 (has h .int x3 ((l1 * x4) + l2) l3).bind fun h5 =>
 some h5
def rmX2_put : Room := { frames := 1, cells := 0, slots := 0, locals := 22 }
set_option maxRecDepth 20000 in
set_option maxHeartbeats 4000000 in
theorem sX2_put {l0 : Nat} {l1 : Int32} {l2 : Int32} {l3 : Int32} {h : jx_H} {h9 : jx_H} (e : FX2_put l0 l1 l2 l3 h = some h9) : jx_Ct yX2_put cX2_put 4 none rmX2_put [.ref l0, .int l1, .int l2, .int l3] h (fun r' h' => none = r' ∧ h9 = h') := by
  refine jx_Ct.of (own := RX2) (by decide) rfl (Nat.le_of_ble_eq_true rfl) (fun X C hq hr hL hN => ?_)
  refine jx_sub (lv' := [(0, .ref l0), (1, .int l1), (2, .int l2), (3, .int l3)]) [0, 1, 2, 3] rfl ?_
  unfold FX2_put at e
  refine j_aload_n C dX2_put_0 rfl rfl ?_
  refine j_iload_n C dX2_put_1 rfl rfl ?_
  refine j_iload_n C dX2_put_2 rfl rfl ?_
  replace e := ob e
  obtain ⟨_, eo7, e⟩ := e
  replace e := ob e
  obtain ⟨x8, ex8, e⟩ := e
  refine j_callV (ci := 2) (RC := RX2) (T := TX2) (N := 7) (As := [.int l1, .int l2]) (b := l0) (na := 2) (st := []) (k1 := 0) (n1 := 0) C hr (sX2_has ex8) rfl eo7 kX2_43 kim_X2_has ksel_X2_has kini_X2 kc_X2_has (by decide) rfl ⟨(Nat.le_of_ble_eq_true rfl), (Nat.le_of_ble_eq_true rfl)⟩ (Nat.le_of_ble_eq_true rfl) ⟨rfl, rfl, (Nat.le_of_ble_eq_true rfl), (Nat.le_of_ble_eq_true rfl)⟩ dX2_put_3 ?_
  rintro _ _ ⟨rfl, rfl⟩
  show jx_J X 0 0 6 [(0, .ref l0), (1, .int l1), (2, .int l2), (3, .int l3)] [.int x8] h
  refine j_if_eq (tgt := 23) C dX2_put_6 (by decide) (fun c12 => ?_) (fun c12 => ?_)
  · replace e := ifp c12 e
    cases e
    exact j_vret C hq dX2_put_23 ⟨Nat.le_of_ble_eq_true rfl, Nat.le_of_ble_eq_true rfl⟩ ⟨rfl, rfl⟩
  · replace e := ifn c12 e
    refine j_aload_n C dX2_put_9 rfl rfl ?_
    replace e := ob e
    obtain ⟨x9, ex9, e⟩ := e
    refine j_getr (ci := 2) (RC := RX2) (T := TX2) (N := 7) 2 C rfl klX2 (Nat.le_of_ble_eq_true rfl) kX2_18 rfl dX2_put_10 ex9 ?_
    refine j_iload_n C dX2_put_13 rfl rfl ?_
    refine j_aload_n C dX2_put_14 rfl rfl ?_
    replace e := ob e
    obtain ⟨x10, ex10, e⟩ := e
    refine j_geti (ci := 2) (RC := RX2) (T := TX2) (N := 7) 1 C rfl klX2 (Nat.le_of_ble_eq_true rfl) kX2_15 rfl dX2_put_15 ex10 ?_
    refine j_imul C dX2_put_18 ?_
    refine j_iload_n C dX2_put_19 rfl rfl ?_
    refine j_iadd C dX2_put_20 ?_
    refine j_iload_n C dX2_put_21 rfl rfl ?_
    replace e := ob e
    obtain ⟨h11, eh11, e⟩ := e
    refine j_iast C dX2_put_22 eh11 ?_
    cases e
    exact j_vret C hq dX2_put_23 ⟨Nat.le_of_ble_eq_true rfl, Nat.le_of_ble_eq_true rfl⟩ ⟨rfl, rfl⟩
/-! BorderBasis.residue(II)I -/
noncomputable def FX9_residue (l0 : Int32) (l1 : Int32) (h : jx_H) : Option (Int32) :=
if 0 < l1 then
 if l1 = 0 then none else
 if 0 ≤ (l0 - l0 / l1 * l1) then
  some (l0 - l0 / l1 * l1)
 else
  some ((l0 - l0 / l1 * l1) + l1)
else
 some (0 : Int32)
def rmX9_residue : Room := { frames := 0, cells := 0, slots := 0, locals := 0 }
set_option maxRecDepth 20000 in
set_option maxHeartbeats 4000000 in
theorem sX9_residue {l0 : Int32} {l1 : Int32} {h : jx_H} {r : Int32}  (e : FX9_residue l0 l1 h = some r) : jx_Ct yX9_residue cX9_residue 3 (some .int) rmX9_residue [.int l0, .int l1] h (fun r' h' => some (.int r) = r' ∧ h = h') := by
  refine jx_Ct.of (own := RX9) (by decide) rfl (Nat.le_of_ble_eq_true rfl) (fun X C hq hr hL hN => ?_)
  refine jx_sub (lv' := [(0, .int l0), (1, .int l1)]) [0, 1] rfl ?_
  unfold FX9_residue at e
  refine j_iload_n C dX9_residue_0 rfl rfl ?_
  refine j_if_gt (tgt := 6) C dX9_residue_1 (by decide) (fun c6 => ?_) (fun c6 => ?_)
  · replace e := ifp c6 e
    refine j_iload_n C dX9_residue_6 rfl rfl ?_
    refine j_iload_n C dX9_residue_7 rfl rfl ?_
    by_cases c4 : l1 = 0
    · exact nos (ifp c4 e)
    replace e := ifn c4 e
    refine j_irem C dX9_residue_8 c4 ?_
    refine j_istore_n (lv1 := [(2, .int (l0 - l0 / l1 * l1)), (0, .int l0), (1, .int l1)]) C hL dX9_residue_9 rfl (Nat.le_of_ble_eq_true rfl) rfl ?_
    refine j_iload_n C dX9_residue_10 rfl rfl ?_
    refine j_if_ge (tgt := 20) C dX9_residue_11 (by decide) (fun c5 => ?_) (fun c5 => ?_)
    · replace e := ifp c5 e
      refine j_iload_n C dX9_residue_20 rfl rfl ?_
      cases e
      exact j_iret C hq rfl dX9_residue_21 ⟨Nat.le_of_ble_eq_true rfl, Nat.le_of_ble_eq_true rfl⟩ ⟨rfl, rfl⟩
    · replace e := ifn c5 e
      refine j_iload_n C dX9_residue_14 rfl rfl ?_
      refine j_iload_n C dX9_residue_15 rfl rfl ?_
      refine j_iadd C dX9_residue_16 ?_
      refine j_goto (tgt := 21) C dX9_residue_17 (by decide) ?_
      cases e
      exact j_iret C hq rfl dX9_residue_21 ⟨Nat.le_of_ble_eq_true rfl, Nat.le_of_ble_eq_true rfl⟩ ⟨rfl, rfl⟩
  · replace e := ifn c6 e
    refine j_iconst (v := (0 : Int32)) C dX9_residue_4 (by decide) ?_
    cases e
    exact j_iret C hq rfl dX9_residue_5 ⟨Nat.le_of_ble_eq_true rfl, Nat.le_of_ble_eq_true rfl⟩ ⟨rfl, rfl⟩
/-! BorderBasis$Spot.moveTo(III)V -/
noncomputable def LX4_moveTo_22 (l0 : Nat) (l1 : Int32) (l2 : Int32) (l4 : Int32) (h : jx_H) : Option ((Int32 × jx_H) ⊕ (jx_H)) :=
if (12 : Int32) < l4 then
 exL (some h)
else
 (hgr h l0 4 0).bind fun x6 =>
 (hgr h l0 4 0).bind fun x7 =>
 (hal h .int x7 (l4 - (1 : Int32))).bind fun x8 =>
 (hgi h l0 4 2).bind fun x9 =>
 (FX9_residue (x8 * l1) x9 h).bind fun x10 =>
 (has h .int x6 l4 x10).bind fun h11 =>
 (hgr h11 l0 4 1).bind fun x12 =>
 (hgr h11 l0 4 1).bind fun x13 =>
 (hal h11 .int x13 (l4 - (1 : Int32))).bind fun x14 =>
 (hgi h11 l0 4 2).bind fun x15 =>
 (FX9_residue (x14 * l2) x15 h11).bind fun x16 =>
 (has h11 .int x12 l4 x16).bind fun h17 =>
 some (.inl ((l4 + (1 : Int32)), h17))
noncomputable def FX4_moveTo (l0 : Nat) (l1 : Int32) (l2 : Int32) (l3 : Int32) (h : jx_H) : Option (jx_H) :=
(hp h l0 4 2 (.int l3)).bind fun h1 =>
(hgr h1 l0 4 0).bind fun x2 =>
(has h1 .int x2 (0 : Int32) (1 : Int32)).bind fun h3 =>
(hgr h3 l0 4 1).bind fun x4 =>
(has h3 .int x4 (0 : Int32) (1 : Int32)).bind fun h5 =>
itr (fun s : Int32 × jx_H => LX4_moveTo_22 l0 l1 l2 s.1 s.2) ((1 : Int32), h5)
def rmX4_moveTo : Room := { frames := 1, cells := 0, slots := 0, locals := 22 }
set_option maxRecDepth 20000 in
set_option maxHeartbeats 4000000 in
theorem sX4_moveTo {l0 : Nat} {l1 : Int32} {l2 : Int32} {l3 : Int32} {h : jx_H} {h9 : jx_H} (e : FX4_moveTo l0 l1 l2 l3 h = some h9) : jx_Ct yX4_moveTo cX4_moveTo 5 none rmX4_moveTo [.ref l0, .int l1, .int l2, .int l3] h (fun r' h' => none = r' ∧ h9 = h') := by
  refine jx_Ct.of (own := RX4) (by decide) rfl (Nat.le_of_ble_eq_true rfl) (fun X C hq hr hL hN => ?_)
  refine jx_sub (lv' := [(0, .ref l0), (1, .int l1), (2, .int l2), (3, .int l3)]) [0, 1, 2, 3] rfl ?_
  unfold FX4_moveTo at e
  refine j_aload_n C dX4_moveTo_0 rfl rfl ?_
  refine j_iload_n C dX4_moveTo_1 rfl rfl ?_
  replace e := ob e
  obtain ⟨h19, eh19, e⟩ := e
  refine j_put (ci := 4) (RC := RX4) (T := TX4) (N := 3) (ty0 := tyX4) 2 C rfl klX4 tyX4_ok nmX4 (Nat.le_of_ble_eq_true rfl) kX4_18 rfl rfl rfl rfl dX4_moveTo_2 eh19 ?_
  refine j_aload_n C dX4_moveTo_5 rfl rfl ?_
  replace e := ob e
  obtain ⟨x20, ex20, e⟩ := e
  refine j_getr (ci := 4) (RC := RX4) (T := TX4) (N := 3) 0 C rfl klX4 (Nat.le_of_ble_eq_true rfl) kX4_9 rfl dX4_moveTo_6 ex20 ?_
  refine j_iconst (v := (0 : Int32)) C dX4_moveTo_9 (by decide) ?_
  refine j_iconst (v := (1 : Int32)) C dX4_moveTo_10 (by decide) ?_
  replace e := ob e
  obtain ⟨h21, eh21, e⟩ := e
  refine j_iast C dX4_moveTo_11 eh21 ?_
  refine j_aload_n C dX4_moveTo_12 rfl rfl ?_
  replace e := ob e
  obtain ⟨x22, ex22, e⟩ := e
  refine j_getr (ci := 4) (RC := RX4) (T := TX4) (N := 3) 1 C rfl klX4 (Nat.le_of_ble_eq_true rfl) kX4_15 rfl dX4_moveTo_13 ex22 ?_
  refine j_iconst (v := (0 : Int32)) C dX4_moveTo_16 (by decide) ?_
  refine j_iconst (v := (1 : Int32)) C dX4_moveTo_17 (by decide) ?_
  replace e := ob e
  obtain ⟨h23, eh23, e⟩ := e
  refine j_iast C dX4_moveTo_18 eh23 ?_
  refine j_iconst (v := (1 : Int32)) C dX4_moveTo_19 (by decide) ?_
  refine j_istore (lv1 := [(4, .int (1 : Int32)), (0, .ref l0), (1, .int l1), (2, .int l2), (3, .int l3)]) C hL dX4_moveTo_20 (Nat.le_of_ble_eq_true rfl) rfl ?_
  refine jx_sub (lv' := [(0, .ref l0), (1, .int l1), (2, .int l2), (4, .int (1 : Int32))]) [1, 2, 3, 0] rfl ?_
  refine itr_ind (s0 := ((1 : Int32), h23)) (fun s : Int32 × jx_H => jx_J X 0 0 22 [(0, .ref l0), (1, .int l1), (2, .int l2), (4, .int s.1)] [] s.2) e ?_
  clear e
  intro s kI2 kT2 e0
  obtain ⟨z24, h25⟩ := s
  obtain ⟨u2, e0_2⟩ := e0
  have e : LX4_moveTo_22 l0 l1 l2 z24 h25 = some u2 := e0_2
  unfold LX4_moveTo_22 at e
  refine j_iload C dX4_moveTo_22 rfl ?_
  refine j_bipush (v := (12 : Int32)) C dX4_moveTo_24 (by decide) ?_
  refine j_icmp_gt (tgt := 85) C dX4_moveTo_26 (by decide) (fun c38 => ?_) (fun c38 => ?_)
  · replace e := ifp c38 e
    obtain ⟨t_3, e_3, eu_3⟩ := exL_spec e
    obtain rfl := kT2 t_3 (e0_2.trans (congrArg some eu_3))
    replace e := e_3
    cases e
    exact j_vret C hq dX4_moveTo_85 ⟨Nat.le_of_ble_eq_true rfl, Nat.le_of_ble_eq_true rfl⟩ ⟨rfl, rfl⟩
  · replace e := ifn c38 e
    refine j_aload_n C dX4_moveTo_29 rfl rfl ?_
    replace e := ob e
    obtain ⟨x26, ex26, e⟩ := e
    refine j_getr (ci := 4) (RC := RX4) (T := TX4) (N := 3) 0 C rfl klX4 (Nat.le_of_ble_eq_true rfl) kX4_9 rfl dX4_moveTo_30 ex26 ?_
    refine j_iload C dX4_moveTo_33 rfl ?_
    refine j_aload_n C dX4_moveTo_35 rfl rfl ?_
    replace e := ob e
    obtain ⟨x27, ex27, e⟩ := e
    refine j_getr (ci := 4) (RC := RX4) (T := TX4) (N := 3) 0 C rfl klX4 (Nat.le_of_ble_eq_true rfl) kX4_9 rfl dX4_moveTo_36 ex27 ?_
    refine j_iload C dX4_moveTo_39 rfl ?_
    refine j_iconst (v := (1 : Int32)) C dX4_moveTo_41 (by decide) ?_
    refine j_isub C dX4_moveTo_42 ?_
    replace e := ob e
    obtain ⟨x28, ex28, e⟩ := e
    refine j_iald C dX4_moveTo_43 ex28 ?_
    refine j_iload_n C dX4_moveTo_44 rfl rfl ?_
    refine j_imul C dX4_moveTo_45 ?_
    refine j_aload_n C dX4_moveTo_46 rfl rfl ?_
    replace e := ob e
    obtain ⟨x29, ex29, e⟩ := e
    refine j_geti (ci := 4) (RC := RX4) (T := TX4) (N := 3) 2 C rfl klX4 (Nat.le_of_ble_eq_true rfl) kX4_18 rfl dX4_moveTo_47 ex29 ?_
    replace e := ob e
    obtain ⟨x30, ex30, e⟩ := e
    refine j_callSN (As := [.int (x28 * l1), .int x29]) (na := 2) (st := [.int z24, .ref x26]) (k1 := 0) (n1 := 0) C hr (sX9_residue ex30) kX4_22 kst_X9_residue kini_X9 kc_X9_residue (by decide) rfl ⟨(Nat.le_of_ble_eq_true rfl), (Nat.le_of_ble_eq_true rfl)⟩ (Nat.le_of_ble_eq_true rfl) ⟨rfl, rfl, (Nat.le_of_ble_eq_true rfl), (Nat.le_of_ble_eq_true rfl)⟩ dX4_moveTo_50 ?_
    rintro _ _ ⟨rfl, rfl⟩
    show jx_J X 0 0 53 [(0, .ref l0), (1, .int l1), (2, .int l2), (4, .int z24)] [.int x30, .int z24, .ref x26] h25
    replace e := ob e
    obtain ⟨h31, eh31, e⟩ := e
    refine j_iast C dX4_moveTo_53 eh31 ?_
    refine j_aload_n C dX4_moveTo_54 rfl rfl ?_
    replace e := ob e
    obtain ⟨x32, ex32, e⟩ := e
    refine j_getr (ci := 4) (RC := RX4) (T := TX4) (N := 3) 1 C rfl klX4 (Nat.le_of_ble_eq_true rfl) kX4_15 rfl dX4_moveTo_55 ex32 ?_
    refine j_iload C dX4_moveTo_58 rfl ?_
    refine j_aload_n C dX4_moveTo_60 rfl rfl ?_
    replace e := ob e
    obtain ⟨x33, ex33, e⟩ := e
    refine j_getr (ci := 4) (RC := RX4) (T := TX4) (N := 3) 1 C rfl klX4 (Nat.le_of_ble_eq_true rfl) kX4_15 rfl dX4_moveTo_61 ex33 ?_
    refine j_iload C dX4_moveTo_64 rfl ?_
    refine j_iconst (v := (1 : Int32)) C dX4_moveTo_66 (by decide) ?_
    refine j_isub C dX4_moveTo_67 ?_
    replace e := ob e
    obtain ⟨x34, ex34, e⟩ := e
    refine j_iald C dX4_moveTo_68 ex34 ?_
    refine j_iload_n C dX4_moveTo_69 rfl rfl ?_
    refine j_imul C dX4_moveTo_70 ?_
    refine j_aload_n C dX4_moveTo_71 rfl rfl ?_
    replace e := ob e
    obtain ⟨x35, ex35, e⟩ := e
    refine j_geti (ci := 4) (RC := RX4) (T := TX4) (N := 3) 2 C rfl klX4 (Nat.le_of_ble_eq_true rfl) kX4_18 rfl dX4_moveTo_72 ex35 ?_
    replace e := ob e
    obtain ⟨x36, ex36, e⟩ := e
    refine j_callSN (As := [.int (x34 * l2), .int x35]) (na := 2) (st := [.int z24, .ref x32]) (k1 := 0) (n1 := 0) C hr (sX9_residue ex36) kX4_22 kst_X9_residue kini_X9 kc_X9_residue (by decide) rfl ⟨(Nat.le_of_ble_eq_true rfl), (Nat.le_of_ble_eq_true rfl)⟩ (Nat.le_of_ble_eq_true rfl) ⟨rfl, rfl, (Nat.le_of_ble_eq_true rfl), (Nat.le_of_ble_eq_true rfl)⟩ dX4_moveTo_75 ?_
    rintro _ _ ⟨rfl, rfl⟩
    show jx_J X 0 0 78 [(0, .ref l0), (1, .int l1), (2, .int l2), (4, .int z24)] [.int x36, .int z24, .ref x32] h31
    replace e := ob e
    obtain ⟨h37, eh37, e⟩ := e
    refine j_iast C dX4_moveTo_78 eh37 ?_
    refine j_iinc (v := (z24 + (1 : Int32))) (lv1 := [(4, .int (z24 + (1 : Int32))), (0, .ref l0), (1, .int l1), (2, .int l2)]) C hL dX4_moveTo_79 rfl rfl (Nat.le_of_ble_eq_true rfl) rfl ?_
    refine j_goto (tgt := 22) C dX4_moveTo_82 (by decide) ?_
    obtain rfl := Option.some.inj e
    refine jx_sub (lv' := [(0, .ref l0), (1, .int l1), (2, .int l2), (4, .int (z24 + (1 : Int32)))]) [1, 2, 3, 0] rfl ?_
    exact kI2 ((z24 + (1 : Int32)), h37) e0_2
/-! BorderBasis.isOutside(II)Z -/
noncomputable def FX9_isOutside (l0 : Int32) (l1 : Int32) (h : jx_H) : Option (Int32) :=
if l0 < 0 then
 some (1 : Int32)
else
 if l0 ≤ l1 then
  some (0 : Int32)
 else
  some (1 : Int32)
def rmX9_isOutside : Room := { frames := 0, cells := 0, slots := 0, locals := 0 }
set_option maxRecDepth 20000 in
set_option maxHeartbeats 4000000 in
theorem sX9_isOutside {l0 : Int32} {l1 : Int32} {h : jx_H} {r : Int32}  (e : FX9_isOutside l0 l1 h = some r) : jx_Ct yX9_isOutside cX9_isOutside 2 (some .boolean) rmX9_isOutside [.int l0, .int l1] h (fun r' h' => some (.int r) = r' ∧ h = h') := by
  refine jx_Ct.of (own := RX9) (by decide) rfl (Nat.le_of_ble_eq_true rfl) (fun X C hq hr hL hN => ?_)
  refine jx_sub (lv' := [(0, .int l0), (1, .int l1)]) [0, 1] rfl ?_
  unfold FX9_isOutside at e
  refine j_iload_n C dX9_isOutside_0 rfl rfl ?_
  refine j_if_lt (tgt := 9) C dX9_isOutside_1 (by decide) (fun c4 => ?_) (fun c4 => ?_)
  · replace e := ifp c4 e
    refine j_iconst (v := (1 : Int32)) C dX9_isOutside_9 (by decide) ?_
    refine j_goto (tgt := 14) C dX9_isOutside_10 (by decide) ?_
    cases e
    exact j_iret C hq rfl dX9_isOutside_14 ⟨Nat.le_of_ble_eq_true rfl, Nat.le_of_ble_eq_true rfl⟩ ⟨rfl, rfl⟩
  · replace e := ifn c4 e
    refine j_iload_n C dX9_isOutside_4 rfl rfl ?_
    refine j_iload_n C dX9_isOutside_5 rfl rfl ?_
    refine j_icmp_le (tgt := 13) C dX9_isOutside_6 (by decide) (fun c3 => ?_) (fun c3 => ?_)
    · replace e := ifp c3 e
      refine j_iconst (v := (0 : Int32)) C dX9_isOutside_13 (by decide) ?_
      cases e
      exact j_iret C hq rfl dX9_isOutside_14 ⟨Nat.le_of_ble_eq_true rfl, Nat.le_of_ble_eq_true rfl⟩ ⟨rfl, rfl⟩
    · replace e := ifn c3 e
      refine j_iconst (v := (1 : Int32)) C dX9_isOutside_9 (by decide) ?_
      refine j_goto (tgt := 14) C dX9_isOutside_10 (by decide) ?_
      cases e
      exact j_iret C hq rfl dX9_isOutside_14 ⟨Nat.le_of_ble_eq_true rfl, Nat.le_of_ble_eq_true rfl⟩ ⟨rfl, rfl⟩
/-! BorderBasis$Spot.valueOfMonomial(II)I -/
noncomputable def FX4_valueOfMonomial (l0 : Nat) (l1 : Int32) (l2 : Int32) (h : jx_H) : Option (Int32) :=
(FX9_isOutside l1 (12 : Int32) h).bind fun x1 =>
if x1 = 0 then
 (FX9_isOutside l2 (12 : Int32) h).bind fun x2 =>
 if x2 = 0 then
  (hgr h l0 4 0).bind fun x3 =>
  (hal h .int x3 l1).bind fun x4 =>
  (hgr h l0 4 1).bind fun x5 =>
  (hal h .int x5 l2).bind fun x6 =>
  (hgi h l0 4 2).bind fun x7 =>
  (FX9_residue (x4 * x6) x7 h).bind fun x8 =>
  some x8
 else
  some (0 : Int32)
else
 some (0 : Int32)
def rmX4_valueOfMonomial : Room := { frames := 1, cells := 0, slots := 0, locals := 22 }
set_option maxRecDepth 20000 in
set_option maxHeartbeats 4000000 in
theorem sX4_valueOfMonomial {l0 : Nat} {l1 : Int32} {l2 : Int32} {h : jx_H} {r : Int32}  (e : FX4_valueOfMonomial l0 l1 l2 h = some r) : jx_Ct yX4_valueOfMonomial cX4_valueOfMonomial 3 (some .int) rmX4_valueOfMonomial [.ref l0, .int l1, .int l2] h (fun r' h' => some (.int r) = r' ∧ h = h') := by
  refine jx_Ct.of (own := RX4) (by decide) rfl (Nat.le_of_ble_eq_true rfl) (fun X C hq hr hL hN => ?_)
  refine jx_sub (lv' := [(0, .ref l0), (1, .int l1), (2, .int l2)]) [0, 1, 2] rfl ?_
  unfold FX4_valueOfMonomial at e
  refine j_iload_n C dX4_valueOfMonomial_0 rfl rfl ?_
  refine j_bipush (v := (12 : Int32)) C dX4_valueOfMonomial_1 (by decide) ?_
  replace e := ob e
  obtain ⟨x11, ex11, e⟩ := e
  refine j_callSN (As := [.int l1, .int (12 : Int32)]) (na := 2) (st := []) (k1 := 0) (n1 := 0) C hr (sX9_isOutside ex11) kX4_26 kst_X9_isOutside kini_X9 kc_X9_isOutside (by decide) rfl ⟨(Nat.le_of_ble_eq_true rfl), (Nat.le_of_ble_eq_true rfl)⟩ (Nat.le_of_ble_eq_true rfl) ⟨rfl, rfl, (Nat.le_of_ble_eq_true rfl), (Nat.le_of_ble_eq_true rfl)⟩ dX4_valueOfMonomial_3 ?_
  rintro _ _ ⟨rfl, rfl⟩
  show jx_J X 0 0 6 [(0, .ref l0), (1, .int l1), (2, .int l2)] [.int x11] h
  refine j_if_ne (tgt := 18) C dX4_valueOfMonomial_6 (by decide) (fun c20 => ?_) (fun c20 => ?_)
  · replace e := ifn c20 e
    refine j_iconst (v := (0 : Int32)) C dX4_valueOfMonomial_18 (by decide) ?_
    cases e
    exact j_iret C hq rfl dX4_valueOfMonomial_19 ⟨Nat.le_of_ble_eq_true rfl, Nat.le_of_ble_eq_true rfl⟩ ⟨rfl, rfl⟩
  · replace e := ifp c20 e
    refine j_iload_n C dX4_valueOfMonomial_9 rfl rfl ?_
    refine j_bipush (v := (12 : Int32)) C dX4_valueOfMonomial_10 (by decide) ?_
    replace e := ob e
    obtain ⟨x12, ex12, e⟩ := e
    refine j_callSN (As := [.int l2, .int (12 : Int32)]) (na := 2) (st := []) (k1 := 0) (n1 := 0) C hr (sX9_isOutside ex12) kX4_26 kst_X9_isOutside kini_X9 kc_X9_isOutside (by decide) rfl ⟨(Nat.le_of_ble_eq_true rfl), (Nat.le_of_ble_eq_true rfl)⟩ (Nat.le_of_ble_eq_true rfl) ⟨rfl, rfl, (Nat.le_of_ble_eq_true rfl), (Nat.le_of_ble_eq_true rfl)⟩ dX4_valueOfMonomial_12 ?_
    rintro _ _ ⟨rfl, rfl⟩
    show jx_J X 0 0 15 [(0, .ref l0), (1, .int l1), (2, .int l2)] [.int x12] h
    refine j_if_eq (tgt := 20) C dX4_valueOfMonomial_15 (by decide) (fun c19 => ?_) (fun c19 => ?_)
    · replace e := ifp c19 e
      refine j_aload_n C dX4_valueOfMonomial_20 rfl rfl ?_
      replace e := ob e
      obtain ⟨x13, ex13, e⟩ := e
      refine j_getr (ci := 4) (RC := RX4) (T := TX4) (N := 3) 0 C rfl klX4 (Nat.le_of_ble_eq_true rfl) kX4_9 rfl dX4_valueOfMonomial_21 ex13 ?_
      refine j_iload_n C dX4_valueOfMonomial_24 rfl rfl ?_
      replace e := ob e
      obtain ⟨x14, ex14, e⟩ := e
      refine j_iald C dX4_valueOfMonomial_25 ex14 ?_
      refine j_aload_n C dX4_valueOfMonomial_26 rfl rfl ?_
      replace e := ob e
      obtain ⟨x15, ex15, e⟩ := e
      refine j_getr (ci := 4) (RC := RX4) (T := TX4) (N := 3) 1 C rfl klX4 (Nat.le_of_ble_eq_true rfl) kX4_15 rfl dX4_valueOfMonomial_27 ex15 ?_
      refine j_iload_n C dX4_valueOfMonomial_30 rfl rfl ?_
      replace e := ob e
      obtain ⟨x16, ex16, e⟩ := e
      refine j_iald C dX4_valueOfMonomial_31 ex16 ?_
      refine j_imul C dX4_valueOfMonomial_32 ?_
      refine j_aload_n C dX4_valueOfMonomial_33 rfl rfl ?_
      replace e := ob e
      obtain ⟨x17, ex17, e⟩ := e
      refine j_geti (ci := 4) (RC := RX4) (T := TX4) (N := 3) 2 C rfl klX4 (Nat.le_of_ble_eq_true rfl) kX4_18 rfl dX4_valueOfMonomial_34 ex17 ?_
      replace e := ob e
      obtain ⟨x18, ex18, e⟩ := e
      refine j_callSN (As := [.int (x14 * x16), .int x17]) (na := 2) (st := []) (k1 := 0) (n1 := 0) C hr (sX9_residue ex18) kX4_22 kst_X9_residue kini_X9 kc_X9_residue (by decide) rfl ⟨(Nat.le_of_ble_eq_true rfl), (Nat.le_of_ble_eq_true rfl)⟩ (Nat.le_of_ble_eq_true rfl) ⟨rfl, rfl, (Nat.le_of_ble_eq_true rfl), (Nat.le_of_ble_eq_true rfl)⟩ dX4_valueOfMonomial_37 ?_
      rintro _ _ ⟨rfl, rfl⟩
      show jx_J X 0 0 40 [(0, .ref l0), (1, .int l1), (2, .int l2)] [.int x18] h
      cases e
      exact j_iret C hq rfl dX4_valueOfMonomial_40 ⟨Nat.le_of_ble_eq_true rfl, Nat.le_of_ble_eq_true rfl⟩ ⟨rfl, rfl⟩
    · replace e := ifn c19 e
      refine j_iconst (v := (0 : Int32)) C dX4_valueOfMonomial_18 (by decide) ?_
      cases e
      exact j_iret C hq rfl dX4_valueOfMonomial_19 ⟨Nat.le_of_ble_eq_true rfl, Nat.le_of_ble_eq_true rfl⟩ ⟨rfl, rfl⟩
/-! BorderBasis$Fitter.fillValues(LBorderBasis$State;)V -/
noncomputable def LX0_fillValues_70 (l0 : Nat) (l1 : Nat) (l2 : Int32) (l3 : Int32) (l4 : Int32) (l5 : Int32) (h : jx_H) : Option ((Int32 × jx_H) ⊕ ((Int32 × jx_H) ⊕ ((Int32 × jx_H) ⊕ (jx_H)))) :=
if l4 < l5 then
 exL (some (.inl ((l4 + (1 : Int32)), h)))
else
 (hgr h l0 0 1).bind fun x15 =>
 (FX0_columnOf (l4 - l5) l5 h).bind fun x16 =>
 (hgr h l0 0 0).bind fun x17 =>
 (isO h x17 4).bind fun _ =>
 (FX4_valueOfMonomial x17 (l4 - l5) l5 h).bind fun x19 =>
 (isO h x15 2).bind fun _ =>
 (FX2_put x15 l3 x16 x19 h).bind fun h21 =>
 some (.inl ((l5 + (1 : Int32)), h21))
noncomputable def LX0_fillValues_61 (l0 : Nat) (l1 : Nat) (l2 : Int32) (l3 : Int32) (l4 : Int32) (h : jx_H) : Option ((Int32 × jx_H) ⊕ ((Int32 × jx_H) ⊕ (jx_H))) :=
if l2 < l4 then
 exL (some (.inl ((l3 + (1 : Int32)), h)))
else
 itr (fun s : Int32 × jx_H => LX0_fillValues_70 l0 l1 l2 l3 l4 s.1 s.2) ((0 : Int32), h)
noncomputable def LX0_fillValues_27 (l0 : Nat) (l1 : Nat) (l2 : Int32) (l3 : Int32) (h : jx_H) : Option ((Int32 × jx_H) ⊕ (jx_H)) :=
(hgi h l1 5 9).bind fun x6 =>
if x6 ≤ l3 then
 exL (some h)
else
 (hgr h l0 0 0).bind fun x7 =>
 (hgr h l1 5 10).bind fun x8 =>
 (hal h .int x8 l3).bind fun x9 =>
 (hgr h l1 5 11).bind fun x10 =>
 (hal h .int x10 l3).bind fun x11 =>
 (hgi h l1 5 0).bind fun x12 =>
 (isO h x7 4).bind fun _ =>
 (FX4_moveTo x7 x9 x11 x12 h).bind fun h14 =>
 itr (fun s : Int32 × jx_H => LX0_fillValues_61 l0 l1 l2 l3 s.1 s.2) ((0 : Int32), h14)
noncomputable def FX0_fillValues (l0 : Nat) (l1 : Nat) (h : jx_H) : Option (jx_H) :=
(hgi h l1 5 9).bind fun x1 =>
(hgr h l0 0 1).bind fun x2 =>
(hgi h l1 5 9).bind fun x3 =>
(isO h x2 2).bind fun _ =>
(FX2_clear x2 x3 (((x1 + (1 : Int32)) * (x1 + (2 : Int32))) / (2 : Int32)) h).bind fun h5 =>
itr (fun s : Int32 × jx_H => LX0_fillValues_27 l0 l1 x1 s.1 s.2) ((0 : Int32), h5)
def rmX0_fillValues : Room := { frames := 2, cells := 0, slots := 0, locals := 46 }
set_option maxRecDepth 20000 in
set_option maxHeartbeats 4000000 in
theorem sX0_fillValues {l0 : Nat} {l1 : Nat} {h : jx_H} {h9 : jx_H} (e : FX0_fillValues l0 l1 h = some h9) : jx_Ct yX0_fillValues cX0_fillValues 7 none rmX0_fillValues [.ref l0, .ref l1] h (fun r' h' => none = r' ∧ h9 = h') := by
  refine jx_Ct.of (own := RX0) (by decide) rfl (Nat.le_of_ble_eq_true rfl) (fun X C hq hr hL hN => ?_)
  refine jx_sub (lv' := [(0, .ref l0), (1, .ref l1)]) [0, 1] rfl ?_
  unfold FX0_fillValues at e
  refine j_aload_n C dX0_fillValues_0 rfl rfl ?_
  replace e := ob e
  obtain ⟨x25, ex25, e⟩ := e
  refine j_geti (ci := 5) (RC := RX5) (T := TX5) (N := 12) 9 C rfl klX5 (Nat.le_of_ble_eq_true rfl) kX0_83 rfl dX0_fillValues_1 ex25 ?_
  refine j_istore_n (lv1 := [(2, .int x25), (0, .ref l0), (1, .ref l1)]) C hL dX0_fillValues_4 rfl (Nat.le_of_ble_eq_true rfl) rfl ?_
  refine j_aload_n C dX0_fillValues_5 rfl rfl ?_
  replace e := ob e
  obtain ⟨x26, ex26, e⟩ := e
  refine j_getr (ci := 0) (RC := RX0) (T := TX0) (N := 2) 1 C rfl klX0 (Nat.le_of_ble_eq_true rfl) kX0_14 rfl dX0_fillValues_6 ex26 ?_
  refine j_aload_n C dX0_fillValues_9 rfl rfl ?_
  replace e := ob e
  obtain ⟨x27, ex27, e⟩ := e
  refine j_geti (ci := 5) (RC := RX5) (T := TX5) (N := 12) 9 C rfl klX5 (Nat.le_of_ble_eq_true rfl) kX0_83 rfl dX0_fillValues_10 ex27 ?_
  refine j_iload_n C dX0_fillValues_13 rfl rfl ?_
  refine j_iconst (v := (1 : Int32)) C dX0_fillValues_14 (by decide) ?_
  refine j_iadd C dX0_fillValues_15 ?_
  refine j_iload_n C dX0_fillValues_16 rfl rfl ?_
  refine j_iconst (v := (2 : Int32)) C dX0_fillValues_17 (by decide) ?_
  refine j_iadd C dX0_fillValues_18 ?_
  refine j_imul C dX0_fillValues_19 ?_
  refine j_iconst (v := (2 : Int32)) C dX0_fillValues_20 (by decide) ?_
  refine j_idiv C dX0_fillValues_21 (by decide) ?_
  replace e := ob e
  obtain ⟨_, eo28, e⟩ := e
  replace e := ob e
  obtain ⟨h29, eh29, e⟩ := e
  refine j_callV (ci := 2) (RC := RX2) (T := TX2) (N := 7) (As := [.int x27, .int (((x25 + (1 : Int32)) * (x25 + (2 : Int32))) / (2 : Int32))]) (b := x26) (na := 2) (st := []) (k1 := 0) (n1 := 0) C hr (sX2_clear eh29) rfl eo28 kX0_86 kim_X2_clear ksel_X2_clear kini_X2 kc_X2_clear (by decide) rfl ⟨(Nat.le_of_ble_eq_true rfl), (Nat.le_of_ble_eq_true rfl)⟩ (Nat.le_of_ble_eq_true rfl) ⟨rfl, rfl, (Nat.le_of_ble_eq_true rfl), (Nat.le_of_ble_eq_true rfl)⟩ dX0_fillValues_22 ?_
  rintro _ _ ⟨rfl, rfl⟩
  show jx_J X 0 0 25 [(2, .int x25), (0, .ref l0), (1, .ref l1)] [] h29
  refine j_iconst (v := (0 : Int32)) C dX0_fillValues_25 (by decide) ?_
  refine j_istore_n (lv1 := [(3, .int (0 : Int32)), (2, .int x25), (0, .ref l0), (1, .ref l1)]) C hL dX0_fillValues_26 rfl (Nat.le_of_ble_eq_true rfl) rfl ?_
  refine jx_sub (lv' := [(0, .ref l0), (1, .ref l1), (2, .int x25), (3, .int (0 : Int32))]) [2, 3, 1, 0] rfl ?_
  refine itr_ind (s0 := ((0 : Int32), h29)) (fun s : Int32 × jx_H => jx_J X 0 0 27 [(0, .ref l0), (1, .ref l1), (2, .int x25), (3, .int s.1)] [] s.2) e ?_
  clear e
  intro s kI4 kT4 e0
  obtain ⟨z30, h31⟩ := s
  obtain ⟨u4, e0_4⟩ := e0
  have e : LX0_fillValues_27 l0 l1 x25 z30 h31 = some u4 := e0_4
  unfold LX0_fillValues_27 at e
  refine j_iload_n C dX0_fillValues_27 rfl rfl ?_
  refine j_aload_n C dX0_fillValues_28 rfl rfl ?_
  replace e := ob e
  obtain ⟨x32, ex32, e⟩ := e
  refine j_geti (ci := 5) (RC := RX5) (T := TX5) (N := 12) 9 C rfl klX5 (Nat.le_of_ble_eq_true rfl) kX0_83 rfl dX0_fillValues_29 ex32 ?_
  refine j_icmp_ge (tgt := 128) C dX0_fillValues_32 (by decide) (fun c54 => ?_) (fun c54 => ?_)
  · replace e := ifp c54 e
    obtain ⟨t_5, e_5, eu_5⟩ := exL_spec e
    obtain rfl := kT4 t_5 (e0_4.trans (congrArg some eu_5))
    replace e := e_5
    cases e
    exact j_vret C hq dX0_fillValues_128 ⟨Nat.le_of_ble_eq_true rfl, Nat.le_of_ble_eq_true rfl⟩ ⟨rfl, rfl⟩
  · replace e := ifn c54 e
    refine j_aload_n C dX0_fillValues_35 rfl rfl ?_
    replace e := ob e
    obtain ⟨x33, ex33, e⟩ := e
    refine j_getr (ci := 0) (RC := RX0) (T := TX0) (N := 2) 0 C rfl klX0 (Nat.le_of_ble_eq_true rfl) kX0_20 rfl dX0_fillValues_36 ex33 ?_
    refine j_aload_n C dX0_fillValues_39 rfl rfl ?_
    replace e := ob e
    obtain ⟨x34, ex34, e⟩ := e
    refine j_getr (ci := 5) (RC := RX5) (T := TX5) (N := 12) 10 C rfl klX5 (Nat.le_of_ble_eq_true rfl) kX0_89 rfl dX0_fillValues_40 ex34 ?_
    refine j_iload_n C dX0_fillValues_43 rfl rfl ?_
    replace e := ob e
    obtain ⟨x35, ex35, e⟩ := e
    refine j_iald C dX0_fillValues_44 ex35 ?_
    refine j_aload_n C dX0_fillValues_45 rfl rfl ?_
    replace e := ob e
    obtain ⟨x36, ex36, e⟩ := e
    refine j_getr (ci := 5) (RC := RX5) (T := TX5) (N := 12) 11 C rfl klX5 (Nat.le_of_ble_eq_true rfl) kX0_92 rfl dX0_fillValues_46 ex36 ?_
    refine j_iload_n C dX0_fillValues_49 rfl rfl ?_
    replace e := ob e
    obtain ⟨x37, ex37, e⟩ := e
    refine j_iald C dX0_fillValues_50 ex37 ?_
    refine j_aload_n C dX0_fillValues_51 rfl rfl ?_
    replace e := ob e
    obtain ⟨x38, ex38, e⟩ := e
    refine j_geti (ci := 5) (RC := RX5) (T := TX5) (N := 12) 0 C rfl klX5 (Nat.le_of_ble_eq_true rfl) kX0_28 rfl dX0_fillValues_52 ex38 ?_
    replace e := ob e
    obtain ⟨_, eo39, e⟩ := e
    replace e := ob e
    obtain ⟨h40, eh40, e⟩ := e
    refine j_callV (ci := 4) (RC := RX4) (T := TX4) (N := 3) (As := [.int x35, .int x37, .int x38]) (b := x33) (na := 3) (st := []) (k1 := 0) (n1 := 0) C hr (sX4_moveTo eh40) rfl eo39 kX0_95 kim_X4_moveTo ksel_X4_moveTo kini_X4 kc_X4_moveTo (by decide) rfl ⟨(Nat.le_of_ble_eq_true rfl), (Nat.le_of_ble_eq_true rfl)⟩ (Nat.le_of_ble_eq_true rfl) ⟨rfl, rfl, (Nat.le_of_ble_eq_true rfl), (Nat.le_of_ble_eq_true rfl)⟩ dX0_fillValues_55 ?_
    rintro _ _ ⟨rfl, rfl⟩
    show jx_J X 0 0 58 [(0, .ref l0), (1, .ref l1), (2, .int x25), (3, .int z30)] [] h40
    refine j_iconst (v := (0 : Int32)) C dX0_fillValues_58 (by decide) ?_
    refine j_istore (lv1 := [(4, .int (0 : Int32)), (0, .ref l0), (1, .ref l1), (2, .int x25), (3, .int z30)]) C hL dX0_fillValues_59 (Nat.le_of_ble_eq_true rfl) rfl ?_
    refine jx_sub (lv' := [(0, .ref l0), (1, .ref l1), (2, .int x25), (3, .int z30), (4, .int (0 : Int32))]) [1, 2, 3, 4, 0] rfl ?_
    refine itr_ind (s0 := ((0 : Int32), h40)) (fun s : Int32 × jx_H => jx_J X 0 0 61 [(0, .ref l0), (1, .ref l1), (2, .int x25), (3, .int z30), (4, .int s.1)] [] s.2) e ?_
    clear e
    intro s kI6 kT6 e0
    obtain ⟨z41, h42⟩ := s
    obtain ⟨u6, e0_6⟩ := e0
    have e : LX0_fillValues_61 l0 l1 x25 z30 z41 h42 = some u6 := e0_6
    unfold LX0_fillValues_61 at e
    refine j_iload C dX0_fillValues_61 rfl ?_
    refine j_iload_n C dX0_fillValues_63 rfl rfl ?_
    refine j_icmp_gt (tgt := 122) C dX0_fillValues_64 (by decide) (fun c53 => ?_) (fun c53 => ?_)
    · replace e := ifp c53 e
      obtain ⟨t_7, e_7, eu_7⟩ := exL_spec e
      obtain rfl := kT6 t_7 (e0_6.trans (congrArg some eu_7))
      replace e := e_7
      refine j_iinc (v := (z30 + (1 : Int32))) (lv1 := [(3, .int (z30 + (1 : Int32))), (0, .ref l0), (1, .ref l1), (2, .int x25), (4, .int z41)]) C hL dX0_fillValues_122 rfl rfl (Nat.le_of_ble_eq_true rfl) rfl ?_
      refine j_goto (tgt := 27) C dX0_fillValues_125 (by decide) ?_
      obtain rfl := Option.some.inj e
      refine jx_sub (lv' := [(0, .ref l0), (1, .ref l1), (2, .int x25), (3, .int (z30 + (1 : Int32)))]) [1, 2, 3, 0] rfl ?_
      exact kI4 ((z30 + (1 : Int32)), h42) e0_4
    · replace e := ifn c53 e
      refine j_iconst (v := (0 : Int32)) C dX0_fillValues_67 (by decide) ?_
      refine j_istore (lv1 := [(5, .int (0 : Int32)), (0, .ref l0), (1, .ref l1), (2, .int x25), (3, .int z30), (4, .int z41)]) C hL dX0_fillValues_68 (Nat.le_of_ble_eq_true rfl) rfl ?_
      refine jx_sub (lv' := [(0, .ref l0), (1, .ref l1), (2, .int x25), (3, .int z30), (4, .int z41), (5, .int (0 : Int32))]) [1, 2, 3, 4, 5, 0] rfl ?_
      refine itr_ind (s0 := ((0 : Int32), h42)) (fun s : Int32 × jx_H => jx_J X 0 0 70 [(0, .ref l0), (1, .ref l1), (2, .int x25), (3, .int z30), (4, .int z41), (5, .int s.1)] [] s.2) e ?_
      clear e
      intro s kI8 kT8 e0
      obtain ⟨z43, h44⟩ := s
      obtain ⟨u8, e0_8⟩ := e0
      have e : LX0_fillValues_70 l0 l1 x25 z30 z41 z43 h44 = some u8 := e0_8
      unfold LX0_fillValues_70 at e
      refine j_iload C dX0_fillValues_70 rfl ?_
      refine j_iload C dX0_fillValues_72 rfl ?_
      refine j_icmp_gt (tgt := 116) C dX0_fillValues_74 (by decide) (fun c52 => ?_) (fun c52 => ?_)
      · replace e := ifp c52 e
        obtain ⟨t_9, e_9, eu_9⟩ := exL_spec e
        obtain rfl := kT8 t_9 (e0_8.trans (congrArg some eu_9))
        replace e := e_9
        refine j_iinc (v := (z41 + (1 : Int32))) (lv1 := [(4, .int (z41 + (1 : Int32))), (0, .ref l0), (1, .ref l1), (2, .int x25), (3, .int z30), (5, .int z43)]) C hL dX0_fillValues_116 rfl rfl (Nat.le_of_ble_eq_true rfl) rfl ?_
        refine j_goto (tgt := 61) C dX0_fillValues_119 (by decide) ?_
        obtain rfl := Option.some.inj e
        refine jx_sub (lv' := [(0, .ref l0), (1, .ref l1), (2, .int x25), (3, .int z30), (4, .int (z41 + (1 : Int32)))]) [1, 2, 3, 4, 0] rfl ?_
        exact kI6 ((z41 + (1 : Int32)), h44) e0_6
      · replace e := ifn c52 e
        refine j_iload C dX0_fillValues_77 rfl ?_
        refine j_iload C dX0_fillValues_79 rfl ?_
        refine j_isub C dX0_fillValues_81 ?_
        refine j_istore (lv1 := [(6, .int (z41 - z43)), (0, .ref l0), (1, .ref l1), (2, .int x25), (3, .int z30), (4, .int z41), (5, .int z43)]) C hL dX0_fillValues_82 (Nat.le_of_ble_eq_true rfl) rfl ?_
        refine j_aload_n C dX0_fillValues_84 rfl rfl ?_
        replace e := ob e
        obtain ⟨x45, ex45, e⟩ := e
        refine j_getr (ci := 0) (RC := RX0) (T := TX0) (N := 2) 1 C rfl klX0 (Nat.le_of_ble_eq_true rfl) kX0_14 rfl dX0_fillValues_85 ex45 ?_
        refine j_iload_n C dX0_fillValues_88 rfl rfl ?_
        refine j_iload C dX0_fillValues_89 rfl ?_
        refine j_iload C dX0_fillValues_91 rfl ?_
        replace e := ob e
        obtain ⟨x46, ex46, e⟩ := e
        refine j_callS (As := [.int (z41 - z43), .int z43]) (na := 2) (st := [.int z30, .ref x45]) (k1 := 0) (n1 := 0) C hr (sX0_columnOf ex46) kX0_72 kst_X0_columnOf kini_X0 kc_X0_columnOf (by decide) rfl ⟨(Nat.le_of_ble_eq_true rfl), (Nat.le_of_ble_eq_true rfl)⟩ (Nat.le_of_ble_eq_true rfl) ⟨rfl, rfl, (Nat.le_of_ble_eq_true rfl), (Nat.le_of_ble_eq_true rfl)⟩ dX0_fillValues_93 ?_
        rintro _ _ ⟨rfl, rfl⟩
        show jx_J X 0 0 96 [(6, .int (z41 - z43)), (0, .ref l0), (1, .ref l1), (2, .int x25), (3, .int z30), (4, .int z41), (5, .int z43)] [.int x46, .int z30, .ref x45] h44
        refine j_aload_n C dX0_fillValues_96 rfl rfl ?_
        replace e := ob e
        obtain ⟨x47, ex47, e⟩ := e
        refine j_getr (ci := 0) (RC := RX0) (T := TX0) (N := 2) 0 C rfl klX0 (Nat.le_of_ble_eq_true rfl) kX0_20 rfl dX0_fillValues_97 ex47 ?_
        refine j_iload C dX0_fillValues_100 rfl ?_
        refine j_iload C dX0_fillValues_102 rfl ?_
        replace e := ob e
        obtain ⟨_, eo48, e⟩ := e
        replace e := ob e
        obtain ⟨x49, ex49, e⟩ := e
        refine j_callV (ci := 4) (RC := RX4) (T := TX4) (N := 3) (As := [.int (z41 - z43), .int z43]) (b := x47) (na := 2) (st := [.int x46, .int z30, .ref x45]) (k1 := 0) (n1 := 0) C hr (sX4_valueOfMonomial ex49) rfl eo48 kX0_100 kim_X4_valueOfMonomial ksel_X4_valueOfMonomial kini_X4 kc_X4_valueOfMonomial (by decide) rfl ⟨(Nat.le_of_ble_eq_true rfl), (Nat.le_of_ble_eq_true rfl)⟩ (Nat.le_of_ble_eq_true rfl) ⟨rfl, rfl, (Nat.le_of_ble_eq_true rfl), (Nat.le_of_ble_eq_true rfl)⟩ dX0_fillValues_104 ?_
        rintro _ _ ⟨rfl, rfl⟩
        show jx_J X 0 0 107 [(6, .int (z41 - z43)), (0, .ref l0), (1, .ref l1), (2, .int x25), (3, .int z30), (4, .int z41), (5, .int z43)] [.int x49, .int x46, .int z30, .ref x45] h44
        replace e := ob e
        obtain ⟨_, eo50, e⟩ := e
        replace e := ob e
        obtain ⟨h51, eh51, e⟩ := e
        refine j_callV (ci := 2) (RC := RX2) (T := TX2) (N := 7) (As := [.int z30, .int x46, .int x49]) (b := x45) (na := 3) (st := []) (k1 := 0) (n1 := 0) C hr (sX2_put eh51) rfl eo50 kX0_103 kim_X2_put ksel_X2_put kini_X2 kc_X2_put (by decide) rfl ⟨(Nat.le_of_ble_eq_true rfl), (Nat.le_of_ble_eq_true rfl)⟩ (Nat.le_of_ble_eq_true rfl) ⟨rfl, rfl, (Nat.le_of_ble_eq_true rfl), (Nat.le_of_ble_eq_true rfl)⟩ dX0_fillValues_107 ?_
        rintro _ _ ⟨rfl, rfl⟩
        show jx_J X 0 0 110 [(6, .int (z41 - z43)), (0, .ref l0), (1, .ref l1), (2, .int x25), (3, .int z30), (4, .int z41), (5, .int z43)] [] h51
        refine j_iinc (v := (z43 + (1 : Int32))) (lv1 := [(5, .int (z43 + (1 : Int32))), (6, .int (z41 - z43)), (0, .ref l0), (1, .ref l1), (2, .int x25), (3, .int z30), (4, .int z41)]) C hL dX0_fillValues_110 rfl rfl (Nat.le_of_ble_eq_true rfl) rfl ?_
        refine j_goto (tgt := 70) C dX0_fillValues_113 (by decide) ?_
        obtain rfl := Option.some.inj e
        refine jx_sub (lv' := [(0, .ref l0), (1, .ref l1), (2, .int x25), (3, .int z30), (4, .int z41), (5, .int (z43 + (1 : Int32)))]) [2, 3, 4, 5, 6, 0] rfl ?_
        exact kI8 ((z43 + (1 : Int32)), h51) e0_8
/-! BorderBasis$Matrix.at(II)I -/
noncomputable def FX2_at (l0 : Nat) (l1 : Int32) (l2 : Int32) (h : jx_H) : Option (Int32) :=
(isO h l0 2).bind fun _ =>
(FX2_has l0 l1 l2 h).bind fun x2 =>
if x2 = 0 then
 some (0 : Int32)
else
 (hgr h l0 2 2).bind fun x3 =>
 (hgi h l0 2 1).bind fun x4 =>
 (hal h .int x3 ((l1 * x4) + l2)).bind fun x5 =>
 some x5
def rmX2_at : Room := { frames := 1, cells := 0, slots := 0, locals := 22 }
set_option maxRecDepth 20000 in
set_option maxHeartbeats 4000000 in
theorem sX2_at {l0 : Nat} {l1 : Int32} {l2 : Int32} {h : jx_H} {r : Int32}  (e : FX2_at l0 l1 l2 h = some r) : jx_Ct yX2_at cX2_at 3 (some .int) rmX2_at [.ref l0, .int l1, .int l2] h (fun r' h' => some (.int r) = r' ∧ h = h') := by
  refine jx_Ct.of (own := RX2) (by decide) rfl (Nat.le_of_ble_eq_true rfl) (fun X C hq hr hL hN => ?_)
  refine jx_sub (lv' := [(0, .ref l0), (1, .int l1), (2, .int l2)]) [0, 1, 2] rfl ?_
  unfold FX2_at at e
  refine j_aload_n C dX2_at_0 rfl rfl ?_
  refine j_iload_n C dX2_at_1 rfl rfl ?_
  refine j_iload_n C dX2_at_2 rfl rfl ?_
  replace e := ob e
  obtain ⟨_, eo7, e⟩ := e
  replace e := ob e
  obtain ⟨x8, ex8, e⟩ := e
  refine j_callV (ci := 2) (RC := RX2) (T := TX2) (N := 7) (As := [.int l1, .int l2]) (b := l0) (na := 2) (st := []) (k1 := 0) (n1 := 0) C hr (sX2_has ex8) rfl eo7 kX2_43 kim_X2_has ksel_X2_has kini_X2 kc_X2_has (by decide) rfl ⟨(Nat.le_of_ble_eq_true rfl), (Nat.le_of_ble_eq_true rfl)⟩ (Nat.le_of_ble_eq_true rfl) ⟨rfl, rfl, (Nat.le_of_ble_eq_true rfl), (Nat.le_of_ble_eq_true rfl)⟩ dX2_at_3 ?_
  rintro _ _ ⟨rfl, rfl⟩
  show jx_J X 0 0 6 [(0, .ref l0), (1, .int l1), (2, .int l2)] [.int x8] h
  refine j_if_eq (tgt := 25) C dX2_at_6 (by decide) (fun c12 => ?_) (fun c12 => ?_)
  · replace e := ifp c12 e
    refine j_iconst (v := (0 : Int32)) C dX2_at_25 (by decide) ?_
    cases e
    exact j_iret C hq rfl dX2_at_26 ⟨Nat.le_of_ble_eq_true rfl, Nat.le_of_ble_eq_true rfl⟩ ⟨rfl, rfl⟩
  · replace e := ifn c12 e
    refine j_aload_n C dX2_at_9 rfl rfl ?_
    replace e := ob e
    obtain ⟨x9, ex9, e⟩ := e
    refine j_getr (ci := 2) (RC := RX2) (T := TX2) (N := 7) 2 C rfl klX2 (Nat.le_of_ble_eq_true rfl) kX2_18 rfl dX2_at_10 ex9 ?_
    refine j_iload_n C dX2_at_13 rfl rfl ?_
    refine j_aload_n C dX2_at_14 rfl rfl ?_
    replace e := ob e
    obtain ⟨x10, ex10, e⟩ := e
    refine j_geti (ci := 2) (RC := RX2) (T := TX2) (N := 7) 1 C rfl klX2 (Nat.le_of_ble_eq_true rfl) kX2_15 rfl dX2_at_15 ex10 ?_
    refine j_imul C dX2_at_18 ?_
    refine j_iload_n C dX2_at_19 rfl rfl ?_
    refine j_iadd C dX2_at_20 ?_
    replace e := ob e
    obtain ⟨x11, ex11, e⟩ := e
    refine j_iald C dX2_at_21 ex11 ?_
    refine j_goto (tgt := 26) C dX2_at_22 (by decide) ?_
    cases e
    exact j_iret C hq rfl dX2_at_26 ⟨Nat.le_of_ble_eq_true rfl, Nat.le_of_ble_eq_true rfl⟩ ⟨rfl, rfl⟩
/-! BorderBasis$Matrix.subtractRow(IIII)V -/
noncomputable def LX2_subtractRow_46 (l0 : Nat) (l3 : Int32) (l4 : Int32) (l5 : Int32) (l6 : Int32) (l7 : Int32) (h : jx_H) : Option ((Int32 × jx_H) ⊕ (jx_H)) :=
(hgi h l0 2 5).bind fun x7 =>
if x7 ≤ l7 then
 exL (some h)
else
 (hgr h l0 2 2).bind fun x8 =>
 (hgr h l0 2 2).bind fun x9 =>
 (hal h .int x9 (l6 + l7)).bind fun x10 =>
 (hgr h l0 2 2).bind fun x11 =>
 (hal h .int x11 (l5 + l7)).bind fun x12 =>
 (FX9_residue (x10 - (l3 * x12)) l4 h).bind fun x13 =>
 (has h .int x8 (l6 + l7) x13).bind fun h14 =>
 some (.inl ((l7 + (1 : Int32)), h14))
noncomputable def FX2_subtractRow (l0 : Nat) (l1 : Int32) (l2 : Int32) (l3 : Int32) (l4 : Int32) (h : jx_H) : Option (jx_H) :=
(hgi h l0 2 1).bind fun x1 =>
(hgi h l0 2 1).bind fun x2 =>
(hgi h l0 2 4).bind fun x3 =>
(FX9_isOutside l1 (x3 - (1 : Int32)) h).bind fun x4 =>
if x4 = 0 then
 (hgi h l0 2 4).bind fun x5 =>
 (FX9_isOutside l2 (x5 - (1 : Int32)) h).bind fun x6 =>
 if x6 = 0 then
  itr (fun s : Int32 × jx_H => LX2_subtractRow_46 l0 l3 l4 (l2 * x1) (l1 * x2) s.1 s.2) ((0 : Int32), h)
 else
  some h
else
 some h
def rmX2_subtractRow : Room := { frames := 1, cells := 0, slots := 0, locals := 22 }
set_option maxRecDepth 20000 in
set_option maxHeartbeats 4000000 in
theorem sX2_subtractRow {l0 : Nat} {l1 : Int32} {l2 : Int32} {l3 : Int32} {l4 : Int32} {h : jx_H} {h9 : jx_H} (e : FX2_subtractRow l0 l1 l2 l3 l4 h = some h9) : jx_Ct yX2_subtractRow cX2_subtractRow 8 none rmX2_subtractRow [.ref l0, .int l1, .int l2, .int l3, .int l4] h (fun r' h' => none = r' ∧ h9 = h') := by
  refine jx_Ct.of (own := RX2) (by decide) rfl (Nat.le_of_ble_eq_true rfl) (fun X C hq hr hL hN => ?_)
  refine jx_sub (lv' := [(0, .ref l0), (1, .int l1), (2, .int l2), (3, .int l3), (4, .int l4)]) [0, 1, 2, 3, 4] rfl ?_
  unfold FX2_subtractRow at e
  refine j_iload_n C dX2_subtractRow_0 rfl rfl ?_
  refine j_aload_n C dX2_subtractRow_1 rfl rfl ?_
  replace e := ob e
  obtain ⟨x18, ex18, e⟩ := e
  refine j_geti (ci := 2) (RC := RX2) (T := TX2) (N := 7) 1 C rfl klX2 (Nat.le_of_ble_eq_true rfl) kX2_15 rfl dX2_subtractRow_2 ex18 ?_
  refine j_imul C dX2_subtractRow_5 ?_
  refine j_istore (lv1 := [(5, .int (l2 * x18)), (0, .ref l0), (1, .int l1), (2, .int l2), (3, .int l3), (4, .int l4)]) C hL dX2_subtractRow_6 (Nat.le_of_ble_eq_true rfl) rfl ?_
  refine j_iload_n C dX2_subtractRow_8 rfl rfl ?_
  refine j_aload_n C dX2_subtractRow_9 rfl rfl ?_
  replace e := ob e
  obtain ⟨x19, ex19, e⟩ := e
  refine j_geti (ci := 2) (RC := RX2) (T := TX2) (N := 7) 1 C rfl klX2 (Nat.le_of_ble_eq_true rfl) kX2_15 rfl dX2_subtractRow_10 ex19 ?_
  refine j_imul C dX2_subtractRow_13 ?_
  refine j_istore (lv1 := [(6, .int (l1 * x19)), (5, .int (l2 * x18)), (0, .ref l0), (1, .int l1), (2, .int l2), (3, .int l3), (4, .int l4)]) C hL dX2_subtractRow_14 (Nat.le_of_ble_eq_true rfl) rfl ?_
  refine j_iload_n C dX2_subtractRow_16 rfl rfl ?_
  refine j_aload_n C dX2_subtractRow_17 rfl rfl ?_
  replace e := ob e
  obtain ⟨x20, ex20, e⟩ := e
  refine j_geti (ci := 2) (RC := RX2) (T := TX2) (N := 7) 4 C rfl klX2 (Nat.le_of_ble_eq_true rfl) kX2_31 rfl dX2_subtractRow_18 ex20 ?_
  refine j_iconst (v := (1 : Int32)) C dX2_subtractRow_21 (by decide) ?_
  refine j_isub C dX2_subtractRow_22 ?_
  replace e := ob e
  obtain ⟨x21, ex21, e⟩ := e
  refine j_callSN (As := [.int l1, .int (x20 - (1 : Int32))]) (na := 2) (st := []) (k1 := 0) (n1 := 0) C hr (sX9_isOutside ex21) kX2_101 kst_X9_isOutside kini_X9 kc_X9_isOutside (by decide) rfl ⟨(Nat.le_of_ble_eq_true rfl), (Nat.le_of_ble_eq_true rfl)⟩ (Nat.le_of_ble_eq_true rfl) ⟨rfl, rfl, (Nat.le_of_ble_eq_true rfl), (Nat.le_of_ble_eq_true rfl)⟩ dX2_subtractRow_23 ?_
  rintro _ _ ⟨rfl, rfl⟩
  show jx_J X 0 0 26 [(6, .int (l1 * x19)), (5, .int (l2 * x18)), (0, .ref l0), (1, .int l1), (2, .int l2), (3, .int l3), (4, .int l4)] [.int x21] h
  refine j_if_ne (tgt := 42) C dX2_subtractRow_26 (by decide) (fun c36 => ?_) (fun c36 => ?_)
  · replace e := ifn c36 e
    cases e
    exact j_vret C hq dX2_subtractRow_42 ⟨Nat.le_of_ble_eq_true rfl, Nat.le_of_ble_eq_true rfl⟩ ⟨rfl, rfl⟩
  · replace e := ifp c36 e
    refine j_iload_n C dX2_subtractRow_29 rfl rfl ?_
    refine j_aload_n C dX2_subtractRow_30 rfl rfl ?_
    replace e := ob e
    obtain ⟨x22, ex22, e⟩ := e
    refine j_geti (ci := 2) (RC := RX2) (T := TX2) (N := 7) 4 C rfl klX2 (Nat.le_of_ble_eq_true rfl) kX2_31 rfl dX2_subtractRow_31 ex22 ?_
    refine j_iconst (v := (1 : Int32)) C dX2_subtractRow_34 (by decide) ?_
    refine j_isub C dX2_subtractRow_35 ?_
    replace e := ob e
    obtain ⟨x23, ex23, e⟩ := e
    refine j_callSN (As := [.int l2, .int (x22 - (1 : Int32))]) (na := 2) (st := []) (k1 := 0) (n1 := 0) C hr (sX9_isOutside ex23) kX2_101 kst_X9_isOutside kini_X9 kc_X9_isOutside (by decide) rfl ⟨(Nat.le_of_ble_eq_true rfl), (Nat.le_of_ble_eq_true rfl)⟩ (Nat.le_of_ble_eq_true rfl) ⟨rfl, rfl, (Nat.le_of_ble_eq_true rfl), (Nat.le_of_ble_eq_true rfl)⟩ dX2_subtractRow_36 ?_
    rintro _ _ ⟨rfl, rfl⟩
    show jx_J X 0 0 39 [(6, .int (l1 * x19)), (5, .int (l2 * x18)), (0, .ref l0), (1, .int l1), (2, .int l2), (3, .int l3), (4, .int l4)] [.int x23] h
    refine j_if_eq (tgt := 43) C dX2_subtractRow_39 (by decide) (fun c35 => ?_) (fun c35 => ?_)
    · replace e := ifp c35 e
      refine j_iconst (v := (0 : Int32)) C dX2_subtractRow_43 (by decide) ?_
      refine j_istore (lv1 := [(7, .int (0 : Int32)), (6, .int (l1 * x19)), (5, .int (l2 * x18)), (0, .ref l0), (1, .int l1), (2, .int l2), (3, .int l3), (4, .int l4)]) C hL dX2_subtractRow_44 (Nat.le_of_ble_eq_true rfl) rfl ?_
      refine jx_sub (lv' := [(0, .ref l0), (3, .int l3), (4, .int l4), (5, .int (l2 * x18)), (6, .int (l1 * x19)), (7, .int (0 : Int32))]) [3, 6, 7, 2, 1, 0] rfl ?_
      refine itr_ind (s0 := ((0 : Int32), h)) (fun s : Int32 × jx_H => jx_J X 0 0 46 [(0, .ref l0), (3, .int l3), (4, .int l4), (5, .int (l2 * x18)), (6, .int (l1 * x19)), (7, .int s.1)] [] s.2) e ?_
      clear e
      intro s kI2 kT2 e0
      obtain ⟨z24, h25⟩ := s
      obtain ⟨u2, e0_2⟩ := e0
      have e : LX2_subtractRow_46 l0 l3 l4 (l2 * x18) (l1 * x19) z24 h25 = some u2 := e0_2
      unfold LX2_subtractRow_46 at e
      refine j_iload C dX2_subtractRow_46 rfl ?_
      refine j_aload_n C dX2_subtractRow_48 rfl rfl ?_
      replace e := ob e
      obtain ⟨x26, ex26, e⟩ := e
      refine j_geti (ci := 2) (RC := RX2) (T := TX2) (N := 7) 5 C rfl klX2 (Nat.le_of_ble_eq_true rfl) kX2_34 rfl dX2_subtractRow_49 ex26 ?_
      refine j_icmp_ge (tgt := 99) C dX2_subtractRow_52 (by decide) (fun c34 => ?_) (fun c34 => ?_)
      · replace e := ifp c34 e
        obtain ⟨t_3, e_3, eu_3⟩ := exL_spec e
        obtain rfl := kT2 t_3 (e0_2.trans (congrArg some eu_3))
        replace e := e_3
        cases e
        exact j_vret C hq dX2_subtractRow_99 ⟨Nat.le_of_ble_eq_true rfl, Nat.le_of_ble_eq_true rfl⟩ ⟨rfl, rfl⟩
      · replace e := ifn c34 e
        refine j_aload_n C dX2_subtractRow_55 rfl rfl ?_
        replace e := ob e
        obtain ⟨x27, ex27, e⟩ := e
        refine j_getr (ci := 2) (RC := RX2) (T := TX2) (N := 7) 2 C rfl klX2 (Nat.le_of_ble_eq_true rfl) kX2_18 rfl dX2_subtractRow_56 ex27 ?_
        refine j_iload C dX2_subtractRow_59 rfl ?_
        refine j_iload C dX2_subtractRow_61 rfl ?_
        refine j_iadd C dX2_subtractRow_63 ?_
        refine j_aload_n C dX2_subtractRow_64 rfl rfl ?_
        replace e := ob e
        obtain ⟨x28, ex28, e⟩ := e
        refine j_getr (ci := 2) (RC := RX2) (T := TX2) (N := 7) 2 C rfl klX2 (Nat.le_of_ble_eq_true rfl) kX2_18 rfl dX2_subtractRow_65 ex28 ?_
        refine j_iload C dX2_subtractRow_68 rfl ?_
        refine j_iload C dX2_subtractRow_70 rfl ?_
        refine j_iadd C dX2_subtractRow_72 ?_
        replace e := ob e
        obtain ⟨x29, ex29, e⟩ := e
        refine j_iald C dX2_subtractRow_73 ex29 ?_
        refine j_iload_n C dX2_subtractRow_74 rfl rfl ?_
        refine j_aload_n C dX2_subtractRow_75 rfl rfl ?_
        replace e := ob e
        obtain ⟨x30, ex30, e⟩ := e
        refine j_getr (ci := 2) (RC := RX2) (T := TX2) (N := 7) 2 C rfl klX2 (Nat.le_of_ble_eq_true rfl) kX2_18 rfl dX2_subtractRow_76 ex30 ?_
        refine j_iload C dX2_subtractRow_79 rfl ?_
        refine j_iload C dX2_subtractRow_81 rfl ?_
        refine j_iadd C dX2_subtractRow_83 ?_
        replace e := ob e
        obtain ⟨x31, ex31, e⟩ := e
        refine j_iald C dX2_subtractRow_84 ex31 ?_
        refine j_imul C dX2_subtractRow_85 ?_
        refine j_isub C dX2_subtractRow_86 ?_
        refine j_iload C dX2_subtractRow_87 rfl ?_
        replace e := ob e
        obtain ⟨x32, ex32, e⟩ := e
        refine j_callSN (As := [.int (x29 - (l3 * x31)), .int l4]) (na := 2) (st := [.int ((l1 * x19) + z24), .ref x27]) (k1 := 0) (n1 := 0) C hr (sX9_residue ex32) kX2_62 kst_X9_residue kini_X9 kc_X9_residue (by decide) rfl ⟨(Nat.le_of_ble_eq_true rfl), (Nat.le_of_ble_eq_true rfl)⟩ (Nat.le_of_ble_eq_true rfl) ⟨rfl, rfl, (Nat.le_of_ble_eq_true rfl), (Nat.le_of_ble_eq_true rfl)⟩ dX2_subtractRow_89 ?_
        rintro _ _ ⟨rfl, rfl⟩
        show jx_J X 0 0 92 [(0, .ref l0), (3, .int l3), (4, .int l4), (5, .int (l2 * x18)), (6, .int (l1 * x19)), (7, .int z24)] [.int x32, .int ((l1 * x19) + z24), .ref x27] h25
        replace e := ob e
        obtain ⟨h33, eh33, e⟩ := e
        refine j_iast C dX2_subtractRow_92 eh33 ?_
        refine j_iinc (v := (z24 + (1 : Int32))) (lv1 := [(7, .int (z24 + (1 : Int32))), (0, .ref l0), (3, .int l3), (4, .int l4), (5, .int (l2 * x18)), (6, .int (l1 * x19))]) C hL dX2_subtractRow_93 rfl rfl (Nat.le_of_ble_eq_true rfl) rfl ?_
        refine j_goto (tgt := 46) C dX2_subtractRow_96 (by decide) ?_
        obtain rfl := Option.some.inj e
        refine jx_sub (lv' := [(0, .ref l0), (3, .int l3), (4, .int l4), (5, .int (l2 * x18)), (6, .int (l1 * x19)), (7, .int (z24 + (1 : Int32)))]) [1, 2, 3, 4, 5, 0] rfl ?_
        exact kI2 ((z24 + (1 : Int32)), h33) e0_2
    · replace e := ifn c35 e
      cases e
      exact j_vret C hq dX2_subtractRow_42 ⟨Nat.le_of_ble_eq_true rfl, Nat.le_of_ble_eq_true rfl⟩ ⟨rfl, rfl⟩
/-! BorderBasis$Matrix.clearColumn(III)V -/
noncomputable def BX2_clearColumn_42 (l0 : Nat) (l1 : Int32) (l2 : Int32) (l3 : Int32) (l4 : Int32) (h : jx_H) : Option ((Int32 × jx_H) ⊕ (jx_H)) :=
some (.inl ((l4 + (1 : Int32)), h))
noncomputable def LX2_clearColumn_3 (l0 : Nat) (l1 : Int32) (l2 : Int32) (l3 : Int32) (l4 : Int32) (h : jx_H) : Option ((Int32 × jx_H) ⊕ (jx_H)) :=
(hgi h l0 2 4).bind fun x1 =>
if x1 ≤ l4 then
 exL (some h)
else
 (isO h l0 2).bind fun _ =>
 (FX2_at l0 l4 l2 h).bind fun x3 =>
 if l4 = l1 then
  BX2_clearColumn_42 l0 l1 l2 l3 l4 h
 else
  if x3 = 0 then
   BX2_clearColumn_42 l0 l1 l2 l3 l4 h
  else
   (isO h l0 2).bind fun _ =>
   (FX2_subtractRow l0 l4 l1 x3 l3 h).bind fun h5 =>
   BX2_clearColumn_42 l0 l1 l2 l3 l4 h5
noncomputable def FX2_clearColumn (l0 : Nat) (l1 : Int32) (l2 : Int32) (l3 : Int32) (h : jx_H) : Option (jx_H) :=
itr (fun s : Int32 × jx_H => LX2_clearColumn_3 l0 l1 l2 l3 s.1 s.2) ((0 : Int32), h)
def rmX2_clearColumn : Room := { frames := 2, cells := 0, slots := 0, locals := 49 }
set_option maxRecDepth 20000 in
set_option maxHeartbeats 4000000 in
theorem sX2_clearColumn {l0 : Nat} {l1 : Int32} {l2 : Int32} {l3 : Int32} {h : jx_H} {h9 : jx_H} (e : FX2_clearColumn l0 l1 l2 l3 h = some h9) : jx_Ct yX2_clearColumn cX2_clearColumn 6 none rmX2_clearColumn [.ref l0, .int l1, .int l2, .int l3] h (fun r' h' => none = r' ∧ h9 = h') := by
  refine jx_Ct.of (own := RX2) (by decide) rfl (Nat.le_of_ble_eq_true rfl) (fun X C hq hr hL hN => ?_)
  refine jx_sub (lv' := [(0, .ref l0), (1, .int l1), (2, .int l2), (3, .int l3)]) [0, 1, 2, 3] rfl ?_
  unfold FX2_clearColumn at e
  refine j_iconst (v := (0 : Int32)) C dX2_clearColumn_0 (by decide) ?_
  refine j_istore (lv1 := [(4, .int (0 : Int32)), (0, .ref l0), (1, .int l1), (2, .int l2), (3, .int l3)]) C hL dX2_clearColumn_1 (Nat.le_of_ble_eq_true rfl) rfl ?_
  refine jx_sub (lv' := [(0, .ref l0), (1, .int l1), (2, .int l2), (3, .int l3), (4, .int (0 : Int32))]) [1, 2, 3, 4, 0] rfl ?_
  refine itr_ind (s0 := ((0 : Int32), h)) (fun s : Int32 × jx_H => jx_J X 0 0 3 [(0, .ref l0), (1, .int l1), (2, .int l2), (3, .int l3), (4, .int s.1)] [] s.2) e ?_
  clear e
  intro s kI2 kT2 e0
  obtain ⟨z9, h10⟩ := s
  obtain ⟨u2, e0_2⟩ := e0
  have e : LX2_clearColumn_3 l0 l1 l2 l3 z9 h10 = some u2 := e0_2
  have b42 : ∀ (y11 : Int32) (h12 : jx_H), BX2_clearColumn_42 l0 l1 l2 l3 y11 h12 = some u2 → jx_J X 0 0 42 [(0, .ref l0), (1, .int l1), (2, .int l2), (3, .int l3), (4, .int y11)] [] h12 := by
    intro y11 h12 e
    unfold BX2_clearColumn_42 at e
    refine j_iinc (v := (y11 + (1 : Int32))) (lv1 := [(4, .int (y11 + (1 : Int32))), (0, .ref l0), (1, .int l1), (2, .int l2), (3, .int l3)]) C hL dX2_clearColumn_42 rfl rfl (Nat.le_of_ble_eq_true rfl) rfl ?_
    refine j_goto (tgt := 3) C dX2_clearColumn_45 (by decide) ?_
    obtain rfl := Option.some.inj e
    refine jx_sub (lv' := [(0, .ref l0), (1, .int l1), (2, .int l2), (3, .int l3), (4, .int (y11 + (1 : Int32)))]) [1, 2, 3, 4, 0] rfl ?_
    exact kI2 ((y11 + (1 : Int32)), h12) e0_2
  unfold LX2_clearColumn_3 at e
  refine j_iload C dX2_clearColumn_3 rfl ?_
  refine j_aload_n C dX2_clearColumn_5 rfl rfl ?_
  replace e := ob e
  obtain ⟨x13, ex13, e⟩ := e
  refine j_geti (ci := 2) (RC := RX2) (T := TX2) (N := 7) 4 C rfl klX2 (Nat.le_of_ble_eq_true rfl) kX2_31 rfl dX2_clearColumn_6 ex13 ?_
  refine j_icmp_ge (tgt := 48) C dX2_clearColumn_9 (by decide) (fun c20 => ?_) (fun c20 => ?_)
  · replace e := ifp c20 e
    obtain ⟨t_3, e_3, eu_3⟩ := exL_spec e
    obtain rfl := kT2 t_3 (e0_2.trans (congrArg some eu_3))
    replace e := e_3
    cases e
    exact j_vret C hq dX2_clearColumn_48 ⟨Nat.le_of_ble_eq_true rfl, Nat.le_of_ble_eq_true rfl⟩ ⟨rfl, rfl⟩
  · replace e := ifn c20 e
    refine j_aload_n C dX2_clearColumn_12 rfl rfl ?_
    refine j_iload C dX2_clearColumn_13 rfl ?_
    refine j_iload_n C dX2_clearColumn_15 rfl rfl ?_
    replace e := ob e
    obtain ⟨_, eo14, e⟩ := e
    replace e := ob e
    obtain ⟨x15, ex15, e⟩ := e
    refine j_callV (ci := 2) (RC := RX2) (T := TX2) (N := 7) (As := [.int z9, .int l2]) (b := l0) (na := 2) (st := []) (k1 := 0) (n1 := 0) C hr (sX2_at ex15) rfl eo14 kX2_59 kim_X2_at ksel_X2_at kini_X2 kc_X2_at (by decide) rfl ⟨(Nat.le_of_ble_eq_true rfl), (Nat.le_of_ble_eq_true rfl)⟩ (Nat.le_of_ble_eq_true rfl) ⟨rfl, rfl, (Nat.le_of_ble_eq_true rfl), (Nat.le_of_ble_eq_true rfl)⟩ dX2_clearColumn_16 ?_
    rintro _ _ ⟨rfl, rfl⟩
    show jx_J X 0 0 19 [(0, .ref l0), (1, .int l1), (2, .int l2), (3, .int l3), (4, .int z9)] [.int x15] h10
    refine j_istore (lv1 := [(5, .int x15), (0, .ref l0), (1, .int l1), (2, .int l2), (3, .int l3), (4, .int z9)]) C hL dX2_clearColumn_19 (Nat.le_of_ble_eq_true rfl) rfl ?_
    refine j_iload C dX2_clearColumn_21 rfl ?_
    refine j_iload_n C dX2_clearColumn_23 rfl rfl ?_
    refine j_icmp_eq (tgt := 42) C dX2_clearColumn_24 (by decide) (fun c19 => ?_) (fun c19 => ?_)
    · replace e := ifp c19 e
      refine jx_sub (lv' := [(0, .ref l0), (1, .int l1), (2, .int l2), (3, .int l3), (4, .int z9)]) [1, 2, 3, 4, 5] rfl ?_
      exact b42 z9 h10 e
    · replace e := ifn c19 e
      refine j_iload C dX2_clearColumn_27 rfl ?_
      refine j_if_eq (tgt := 42) C dX2_clearColumn_29 (by decide) (fun c18 => ?_) (fun c18 => ?_)
      · replace e := ifp c18 e
        refine jx_sub (lv' := [(0, .ref l0), (1, .int l1), (2, .int l2), (3, .int l3), (4, .int z9)]) [1, 2, 3, 4, 5] rfl ?_
        exact b42 z9 h10 e
      · replace e := ifn c18 e
        refine j_aload_n C dX2_clearColumn_32 rfl rfl ?_
        refine j_iload C dX2_clearColumn_33 rfl ?_
        refine j_iload_n C dX2_clearColumn_35 rfl rfl ?_
        refine j_iload C dX2_clearColumn_36 rfl ?_
        refine j_iload_n C dX2_clearColumn_38 rfl rfl ?_
        replace e := ob e
        obtain ⟨_, eo16, e⟩ := e
        replace e := ob e
        obtain ⟨h17, eh17, e⟩ := e
        refine j_callV (ci := 2) (RC := RX2) (T := TX2) (N := 7) (As := [.int z9, .int l1, .int x15, .int l3]) (b := l0) (na := 4) (st := []) (k1 := 0) (n1 := 0) C hr (sX2_subtractRow eh17) rfl eo16 kX2_97 kim_X2_subtractRow ksel_X2_subtractRow kini_X2 kc_X2_subtractRow (by decide) rfl ⟨(Nat.le_of_ble_eq_true rfl), (Nat.le_of_ble_eq_true rfl)⟩ (Nat.le_of_ble_eq_true rfl) ⟨rfl, rfl, (Nat.le_of_ble_eq_true rfl), (Nat.le_of_ble_eq_true rfl)⟩ dX2_clearColumn_39 ?_
        rintro _ _ ⟨rfl, rfl⟩
        show jx_J X 0 0 42 [(5, .int x15), (0, .ref l0), (1, .int l1), (2, .int l2), (3, .int l3), (4, .int z9)] [] h17
        refine jx_sub (lv' := [(0, .ref l0), (1, .int l1), (2, .int l2), (3, .int l3), (4, .int z9)]) [1, 2, 3, 4, 5] rfl ?_
        exact b42 z9 h17 e
/-! BorderBasis$Matrix.pivotRow(II)I -/
noncomputable def LX2_pivotRow_2 (l0 : Nat) (l2 : Int32) (l3 : Int32) (h : jx_H) : Option ((Int32) ⊕ (Int32)) :=
(hgi h l0 2 4).bind fun x1 =>
if x1 ≤ l3 then
 exL (some (-1 : Int32))
else
 (isO h l0 2).bind fun _ =>
 (FX2_at l0 l3 l2 h).bind fun x3 =>
 if x3 = 0 then
  some (.inl (l3 + (1 : Int32)))
 else
  exL (some l3)
noncomputable def FX2_pivotRow (l0 : Nat) (l1 : Int32) (l2 : Int32) (h : jx_H) : Option (Int32) :=
itr (fun s : Int32 => LX2_pivotRow_2 l0 l2 s h) l1
def rmX2_pivotRow : Room := { frames := 2, cells := 0, slots := 0, locals := 44 }
set_option maxRecDepth 20000 in
set_option maxHeartbeats 4000000 in
theorem sX2_pivotRow {l0 : Nat} {l1 : Int32} {l2 : Int32} {h : jx_H} {r : Int32}  (e : FX2_pivotRow l0 l1 l2 h = some r) : jx_Ct yX2_pivotRow cX2_pivotRow 4 (some .int) rmX2_pivotRow [.ref l0, .int l1, .int l2] h (fun r' h' => some (.int r) = r' ∧ h = h') := by
  refine jx_Ct.of (own := RX2) (by decide) rfl (Nat.le_of_ble_eq_true rfl) (fun X C hq hr hL hN => ?_)
  refine jx_sub (lv' := [(0, .ref l0), (1, .int l1), (2, .int l2)]) [0, 1, 2] rfl ?_
  unfold FX2_pivotRow at e
  refine j_iload_n C dX2_pivotRow_0 rfl rfl ?_
  refine j_istore_n (lv1 := [(3, .int l1), (0, .ref l0), (1, .int l1), (2, .int l2)]) C hL dX2_pivotRow_1 rfl (Nat.le_of_ble_eq_true rfl) rfl ?_
  refine jx_sub (lv' := [(0, .ref l0), (2, .int l2), (3, .int l1)]) [1, 3, 0] rfl ?_
  refine itr_ind (s0 := l1) (fun s : Int32 => jx_J X 0 0 2 [(0, .ref l0), (2, .int l2), (3, .int s)] [] h) e ?_
  clear e
  intro s kI3 kT3 e0
  obtain ⟨z6, es⟩ : ∃ z, z = s := ⟨_, rfl⟩
  subst es
  obtain ⟨u3, e0_3⟩ := e0
  have e : LX2_pivotRow_2 l0 l2 z6 h = some u3 := e0_3
  unfold LX2_pivotRow_2 at e
  refine j_iload_n C dX2_pivotRow_2 rfl rfl ?_
  refine j_aload_n C dX2_pivotRow_3 rfl rfl ?_
  replace e := ob e
  obtain ⟨x7, ex7, e⟩ := e
  refine j_geti (ci := 2) (RC := RX2) (T := TX2) (N := 7) 4 C rfl klX2 (Nat.le_of_ble_eq_true rfl) kX2_31 rfl dX2_pivotRow_4 ex7 ?_
  refine j_icmp_ge (tgt := 27) C dX2_pivotRow_7 (by decide) (fun c11 => ?_) (fun c11 => ?_)
  · replace e := ifp c11 e
    obtain ⟨t_4, e_4, eu_4⟩ := exL_spec e
    obtain rfl := kT3 t_4 (e0_3.trans (congrArg some eu_4))
    replace e := e_4
    refine j_iconst (v := (-1 : Int32)) C dX2_pivotRow_27 (by decide) ?_
    cases e
    exact j_iret C hq rfl dX2_pivotRow_28 ⟨Nat.le_of_ble_eq_true rfl, Nat.le_of_ble_eq_true rfl⟩ ⟨rfl, rfl⟩
  · replace e := ifn c11 e
    refine j_aload_n C dX2_pivotRow_10 rfl rfl ?_
    refine j_iload_n C dX2_pivotRow_11 rfl rfl ?_
    refine j_iload_n C dX2_pivotRow_12 rfl rfl ?_
    replace e := ob e
    obtain ⟨_, eo8, e⟩ := e
    replace e := ob e
    obtain ⟨x9, ex9, e⟩ := e
    refine j_callV (ci := 2) (RC := RX2) (T := TX2) (N := 7) (As := [.int z6, .int l2]) (b := l0) (na := 2) (st := []) (k1 := 0) (n1 := 0) C hr (sX2_at ex9) rfl eo8 kX2_59 kim_X2_at ksel_X2_at kini_X2 kc_X2_at (by decide) rfl ⟨(Nat.le_of_ble_eq_true rfl), (Nat.le_of_ble_eq_true rfl)⟩ (Nat.le_of_ble_eq_true rfl) ⟨rfl, rfl, (Nat.le_of_ble_eq_true rfl), (Nat.le_of_ble_eq_true rfl)⟩ dX2_pivotRow_13 ?_
    rintro _ _ ⟨rfl, rfl⟩
    show jx_J X 0 0 16 [(0, .ref l0), (2, .int l2), (3, .int z6)] [.int x9] h
    refine j_if_eq (tgt := 21) C dX2_pivotRow_16 (by decide) (fun c10 => ?_) (fun c10 => ?_)
    · replace e := ifp c10 e
      refine j_iinc (v := (z6 + (1 : Int32))) (lv1 := [(3, .int (z6 + (1 : Int32))), (0, .ref l0), (2, .int l2)]) C hL dX2_pivotRow_21 rfl rfl (Nat.le_of_ble_eq_true rfl) rfl ?_
      refine j_goto (tgt := 2) C dX2_pivotRow_24 (by decide) ?_
      obtain rfl := Option.some.inj e
      refine jx_sub (lv' := [(0, .ref l0), (2, .int l2), (3, .int (z6 + (1 : Int32)))]) [1, 2, 0] rfl ?_
      exact kI3 (z6 + (1 : Int32)) e0_3
    · replace e := ifn c10 e
      obtain ⟨t_5, e_5, eu_5⟩ := exL_spec e
      obtain rfl := kT3 t_5 (e0_3.trans (congrArg some eu_5))
      replace e := e_5
      refine j_iload_n C dX2_pivotRow_19 rfl rfl ?_
      cases e
      exact j_iret C hq rfl dX2_pivotRow_20 ⟨Nat.le_of_ble_eq_true rfl, Nat.le_of_ble_eq_true rfl⟩ ⟨rfl, rfl⟩
/-! BorderBasis$Matrix.scaleRow(III)V -/
noncomputable def LX2_scaleRow_3 (l0 : Nat) (l1 : Int32) (l2 : Int32) (l3 : Int32) (l4 : Int32) (h : jx_H) : Option ((Int32 × jx_H) ⊕ (jx_H)) :=
(hgi h l0 2 5).bind fun x1 =>
if x1 ≤ l4 then
 exL (some h)
else
 (isO h l0 2).bind fun _ =>
 (FX2_at l0 l1 l4 h).bind fun x3 =>
 (FX9_residue (x3 * l2) l3 h).bind fun x4 =>
 (isO h l0 2).bind fun _ =>
 (FX2_put l0 l1 l4 x4 h).bind fun h6 =>
 some (.inl ((l4 + (1 : Int32)), h6))
noncomputable def FX2_scaleRow (l0 : Nat) (l1 : Int32) (l2 : Int32) (l3 : Int32) (h : jx_H) : Option (jx_H) :=
itr (fun s : Int32 × jx_H => LX2_scaleRow_3 l0 l1 l2 l3 s.1 s.2) ((0 : Int32), h)
def rmX2_scaleRow : Room := { frames := 2, cells := 0, slots := 0, locals := 45 }
set_option maxRecDepth 20000 in
set_option maxHeartbeats 4000000 in
theorem sX2_scaleRow {l0 : Nat} {l1 : Int32} {l2 : Int32} {l3 : Int32} {h : jx_H} {h9 : jx_H} (e : FX2_scaleRow l0 l1 l2 l3 h = some h9) : jx_Ct yX2_scaleRow cX2_scaleRow 5 none rmX2_scaleRow [.ref l0, .int l1, .int l2, .int l3] h (fun r' h' => none = r' ∧ h9 = h') := by
  refine jx_Ct.of (own := RX2) (by decide) rfl (Nat.le_of_ble_eq_true rfl) (fun X C hq hr hL hN => ?_)
  refine jx_sub (lv' := [(0, .ref l0), (1, .int l1), (2, .int l2), (3, .int l3)]) [0, 1, 2, 3] rfl ?_
  unfold FX2_scaleRow at e
  refine j_iconst (v := (0 : Int32)) C dX2_scaleRow_0 (by decide) ?_
  refine j_istore (lv1 := [(4, .int (0 : Int32)), (0, .ref l0), (1, .int l1), (2, .int l2), (3, .int l3)]) C hL dX2_scaleRow_1 (Nat.le_of_ble_eq_true rfl) rfl ?_
  refine jx_sub (lv' := [(0, .ref l0), (1, .int l1), (2, .int l2), (3, .int l3), (4, .int (0 : Int32))]) [1, 2, 3, 4, 0] rfl ?_
  refine itr_ind (s0 := ((0 : Int32), h)) (fun s : Int32 × jx_H => jx_J X 0 0 3 [(0, .ref l0), (1, .int l1), (2, .int l2), (3, .int l3), (4, .int s.1)] [] s.2) e ?_
  clear e
  intro s kI2 kT2 e0
  obtain ⟨z8, h9⟩ := s
  obtain ⟨u2, e0_2⟩ := e0
  have e : LX2_scaleRow_3 l0 l1 l2 l3 z8 h9 = some u2 := e0_2
  unfold LX2_scaleRow_3 at e
  refine j_iload C dX2_scaleRow_3 rfl ?_
  refine j_aload_n C dX2_scaleRow_5 rfl rfl ?_
  replace e := ob e
  obtain ⟨x10, ex10, e⟩ := e
  refine j_geti (ci := 2) (RC := RX2) (T := TX2) (N := 7) 5 C rfl klX2 (Nat.le_of_ble_eq_true rfl) kX2_34 rfl dX2_scaleRow_6 ex10 ?_
  refine j_icmp_ge (tgt := 38) C dX2_scaleRow_9 (by decide) (fun c16 => ?_) (fun c16 => ?_)
  · replace e := ifp c16 e
    obtain ⟨t_3, e_3, eu_3⟩ := exL_spec e
    obtain rfl := kT2 t_3 (e0_2.trans (congrArg some eu_3))
    replace e := e_3
    cases e
    exact j_vret C hq dX2_scaleRow_38 ⟨Nat.le_of_ble_eq_true rfl, Nat.le_of_ble_eq_true rfl⟩ ⟨rfl, rfl⟩
  · replace e := ifn c16 e
    refine j_aload_n C dX2_scaleRow_12 rfl rfl ?_
    refine j_iload_n C dX2_scaleRow_13 rfl rfl ?_
    refine j_iload C dX2_scaleRow_14 rfl ?_
    refine j_aload_n C dX2_scaleRow_16 rfl rfl ?_
    refine j_iload_n C dX2_scaleRow_17 rfl rfl ?_
    refine j_iload C dX2_scaleRow_18 rfl ?_
    replace e := ob e
    obtain ⟨_, eo11, e⟩ := e
    replace e := ob e
    obtain ⟨x12, ex12, e⟩ := e
    refine j_callV (ci := 2) (RC := RX2) (T := TX2) (N := 7) (As := [.int l1, .int z8]) (b := l0) (na := 2) (st := [.int z8, .int l1, .ref l0]) (k1 := 0) (n1 := 0) C hr (sX2_at ex12) rfl eo11 kX2_59 kim_X2_at ksel_X2_at kini_X2 kc_X2_at (by decide) rfl ⟨(Nat.le_of_ble_eq_true rfl), (Nat.le_of_ble_eq_true rfl)⟩ (Nat.le_of_ble_eq_true rfl) ⟨rfl, rfl, (Nat.le_of_ble_eq_true rfl), (Nat.le_of_ble_eq_true rfl)⟩ dX2_scaleRow_20 ?_
    rintro _ _ ⟨rfl, rfl⟩
    show jx_J X 0 0 23 [(0, .ref l0), (1, .int l1), (2, .int l2), (3, .int l3), (4, .int z8)] [.int x12, .int z8, .int l1, .ref l0] h9
    refine j_iload_n C dX2_scaleRow_23 rfl rfl ?_
    refine j_imul C dX2_scaleRow_24 ?_
    refine j_iload_n C dX2_scaleRow_25 rfl rfl ?_
    replace e := ob e
    obtain ⟨x13, ex13, e⟩ := e
    refine j_callSN (As := [.int (x12 * l2), .int l3]) (na := 2) (st := [.int z8, .int l1, .ref l0]) (k1 := 0) (n1 := 0) C hr (sX9_residue ex13) kX2_62 kst_X9_residue kini_X9 kc_X9_residue (by decide) rfl ⟨(Nat.le_of_ble_eq_true rfl), (Nat.le_of_ble_eq_true rfl)⟩ (Nat.le_of_ble_eq_true rfl) ⟨rfl, rfl, (Nat.le_of_ble_eq_true rfl), (Nat.le_of_ble_eq_true rfl)⟩ dX2_scaleRow_26 ?_
    rintro _ _ ⟨rfl, rfl⟩
    show jx_J X 0 0 29 [(0, .ref l0), (1, .int l1), (2, .int l2), (3, .int l3), (4, .int z8)] [.int x13, .int z8, .int l1, .ref l0] h9
    replace e := ob e
    obtain ⟨_, eo14, e⟩ := e
    replace e := ob e
    obtain ⟨h15, eh15, e⟩ := e
    refine j_callV (ci := 2) (RC := RX2) (T := TX2) (N := 7) (As := [.int l1, .int z8, .int x13]) (b := l0) (na := 3) (st := []) (k1 := 0) (n1 := 0) C hr (sX2_put eh15) rfl eo14 kX2_51 kim_X2_put ksel_X2_put kini_X2 kc_X2_put (by decide) rfl ⟨(Nat.le_of_ble_eq_true rfl), (Nat.le_of_ble_eq_true rfl)⟩ (Nat.le_of_ble_eq_true rfl) ⟨rfl, rfl, (Nat.le_of_ble_eq_true rfl), (Nat.le_of_ble_eq_true rfl)⟩ dX2_scaleRow_29 ?_
    rintro _ _ ⟨rfl, rfl⟩
    show jx_J X 0 0 32 [(0, .ref l0), (1, .int l1), (2, .int l2), (3, .int l3), (4, .int z8)] [] h15
    refine j_iinc (v := (z8 + (1 : Int32))) (lv1 := [(4, .int (z8 + (1 : Int32))), (0, .ref l0), (1, .int l1), (2, .int l2), (3, .int l3)]) C hL dX2_scaleRow_32 rfl rfl (Nat.le_of_ble_eq_true rfl) rfl ?_
    refine j_goto (tgt := 3) C dX2_scaleRow_35 (by decide) ?_
    obtain rfl := Option.some.inj e
    refine jx_sub (lv' := [(0, .ref l0), (1, .int l1), (2, .int l2), (3, .int l3), (4, .int (z8 + (1 : Int32)))]) [1, 2, 3, 4, 0] rfl ?_
    exact kI2 ((z8 + (1 : Int32)), h15) e0_2
/-! BorderBasis$Matrix.swapRows(II)V -/
noncomputable def LX2_swapRows_2 (l0 : Nat) (l1 : Int32) (l2 : Int32) (l3 : Int32) (h : jx_H) : Option ((Int32 × jx_H) ⊕ (jx_H)) :=
(hgi h l0 2 5).bind fun x1 =>
if x1 ≤ l3 then
 exL (some h)
else
 (isO h l0 2).bind fun _ =>
 (FX2_at l0 l1 l3 h).bind fun x3 =>
 (isO h l0 2).bind fun _ =>
 (FX2_at l0 l2 l3 h).bind fun x5 =>
 (isO h l0 2).bind fun _ =>
 (FX2_put l0 l1 l3 x5 h).bind fun h7 =>
 (isO h7 l0 2).bind fun _ =>
 (FX2_put l0 l2 l3 x3 h7).bind fun h9 =>
 some (.inl ((l3 + (1 : Int32)), h9))
noncomputable def FX2_swapRows (l0 : Nat) (l1 : Int32) (l2 : Int32) (h : jx_H) : Option (jx_H) :=
itr (fun s : Int32 × jx_H => LX2_swapRows_2 l0 l1 l2 s.1 s.2) ((0 : Int32), h)
def rmX2_swapRows : Room := { frames := 2, cells := 0, slots := 0, locals := 45 }
set_option maxRecDepth 20000 in
set_option maxHeartbeats 4000000 in
theorem sX2_swapRows {l0 : Nat} {l1 : Int32} {l2 : Int32} {h : jx_H} {h9 : jx_H} (e : FX2_swapRows l0 l1 l2 h = some h9) : jx_Ct yX2_swapRows cX2_swapRows 5 none rmX2_swapRows [.ref l0, .int l1, .int l2] h (fun r' h' => none = r' ∧ h9 = h') := by
  refine jx_Ct.of (own := RX2) (by decide) rfl (Nat.le_of_ble_eq_true rfl) (fun X C hq hr hL hN => ?_)
  refine jx_sub (lv' := [(0, .ref l0), (1, .int l1), (2, .int l2)]) [0, 1, 2] rfl ?_
  unfold FX2_swapRows at e
  refine j_iconst (v := (0 : Int32)) C dX2_swapRows_0 (by decide) ?_
  refine j_istore_n (lv1 := [(3, .int (0 : Int32)), (0, .ref l0), (1, .int l1), (2, .int l2)]) C hL dX2_swapRows_1 rfl (Nat.le_of_ble_eq_true rfl) rfl ?_
  refine jx_sub (lv' := [(0, .ref l0), (1, .int l1), (2, .int l2), (3, .int (0 : Int32))]) [1, 2, 3, 0] rfl ?_
  refine itr_ind (s0 := ((0 : Int32), h)) (fun s : Int32 × jx_H => jx_J X 0 0 2 [(0, .ref l0), (1, .int l1), (2, .int l2), (3, .int s.1)] [] s.2) e ?_
  clear e
  intro s kI2 kT2 e0
  obtain ⟨z11, h12⟩ := s
  obtain ⟨u2, e0_2⟩ := e0
  have e : LX2_swapRows_2 l0 l1 l2 z11 h12 = some u2 := e0_2
  unfold LX2_swapRows_2 at e
  refine j_iload_n C dX2_swapRows_2 rfl rfl ?_
  refine j_aload_n C dX2_swapRows_3 rfl rfl ?_
  replace e := ob e
  obtain ⟨x13, ex13, e⟩ := e
  refine j_geti (ci := 2) (RC := RX2) (T := TX2) (N := 7) 5 C rfl klX2 (Nat.le_of_ble_eq_true rfl) kX2_34 rfl dX2_swapRows_4 ex13 ?_
  refine j_icmp_ge (tgt := 44) C dX2_swapRows_7 (by decide) (fun c22 => ?_) (fun c22 => ?_)
  · replace e := ifp c22 e
    obtain ⟨t_3, e_3, eu_3⟩ := exL_spec e
    obtain rfl := kT2 t_3 (e0_2.trans (congrArg some eu_3))
    replace e := e_3
    cases e
    exact j_vret C hq dX2_swapRows_44 ⟨Nat.le_of_ble_eq_true rfl, Nat.le_of_ble_eq_true rfl⟩ ⟨rfl, rfl⟩
  · replace e := ifn c22 e
    refine j_aload_n C dX2_swapRows_10 rfl rfl ?_
    refine j_iload_n C dX2_swapRows_11 rfl rfl ?_
    refine j_iload_n C dX2_swapRows_12 rfl rfl ?_
    replace e := ob e
    obtain ⟨_, eo14, e⟩ := e
    replace e := ob e
    obtain ⟨x15, ex15, e⟩ := e
    refine j_callV (ci := 2) (RC := RX2) (T := TX2) (N := 7) (As := [.int l1, .int z11]) (b := l0) (na := 2) (st := []) (k1 := 0) (n1 := 0) C hr (sX2_at ex15) rfl eo14 kX2_59 kim_X2_at ksel_X2_at kini_X2 kc_X2_at (by decide) rfl ⟨(Nat.le_of_ble_eq_true rfl), (Nat.le_of_ble_eq_true rfl)⟩ (Nat.le_of_ble_eq_true rfl) ⟨rfl, rfl, (Nat.le_of_ble_eq_true rfl), (Nat.le_of_ble_eq_true rfl)⟩ dX2_swapRows_13 ?_
    rintro _ _ ⟨rfl, rfl⟩
    show jx_J X 0 0 16 [(0, .ref l0), (1, .int l1), (2, .int l2), (3, .int z11)] [.int x15] h12
    refine j_istore (lv1 := [(4, .int x15), (0, .ref l0), (1, .int l1), (2, .int l2), (3, .int z11)]) C hL dX2_swapRows_16 (Nat.le_of_ble_eq_true rfl) rfl ?_
    refine j_aload_n C dX2_swapRows_18 rfl rfl ?_
    refine j_iload_n C dX2_swapRows_19 rfl rfl ?_
    refine j_iload_n C dX2_swapRows_20 rfl rfl ?_
    refine j_aload_n C dX2_swapRows_21 rfl rfl ?_
    refine j_iload_n C dX2_swapRows_22 rfl rfl ?_
    refine j_iload_n C dX2_swapRows_23 rfl rfl ?_
    replace e := ob e
    obtain ⟨_, eo16, e⟩ := e
    replace e := ob e
    obtain ⟨x17, ex17, e⟩ := e
    refine j_callV (ci := 2) (RC := RX2) (T := TX2) (N := 7) (As := [.int l2, .int z11]) (b := l0) (na := 2) (st := [.int z11, .int l1, .ref l0]) (k1 := 0) (n1 := 0) C hr (sX2_at ex17) rfl eo16 kX2_59 kim_X2_at ksel_X2_at kini_X2 kc_X2_at (by decide) rfl ⟨(Nat.le_of_ble_eq_true rfl), (Nat.le_of_ble_eq_true rfl)⟩ (Nat.le_of_ble_eq_true rfl) ⟨rfl, rfl, (Nat.le_of_ble_eq_true rfl), (Nat.le_of_ble_eq_true rfl)⟩ dX2_swapRows_24 ?_
    rintro _ _ ⟨rfl, rfl⟩
    show jx_J X 0 0 27 [(4, .int x15), (0, .ref l0), (1, .int l1), (2, .int l2), (3, .int z11)] [.int x17, .int z11, .int l1, .ref l0] h12
    replace e := ob e
    obtain ⟨_, eo18, e⟩ := e
    replace e := ob e
    obtain ⟨h19, eh19, e⟩ := e
    refine j_callV (ci := 2) (RC := RX2) (T := TX2) (N := 7) (As := [.int l1, .int z11, .int x17]) (b := l0) (na := 3) (st := []) (k1 := 0) (n1 := 0) C hr (sX2_put eh19) rfl eo18 kX2_51 kim_X2_put ksel_X2_put kini_X2 kc_X2_put (by decide) rfl ⟨(Nat.le_of_ble_eq_true rfl), (Nat.le_of_ble_eq_true rfl)⟩ (Nat.le_of_ble_eq_true rfl) ⟨rfl, rfl, (Nat.le_of_ble_eq_true rfl), (Nat.le_of_ble_eq_true rfl)⟩ dX2_swapRows_27 ?_
    rintro _ _ ⟨rfl, rfl⟩
    show jx_J X 0 0 30 [(4, .int x15), (0, .ref l0), (1, .int l1), (2, .int l2), (3, .int z11)] [] h19
    refine j_aload_n C dX2_swapRows_30 rfl rfl ?_
    refine j_iload_n C dX2_swapRows_31 rfl rfl ?_
    refine j_iload_n C dX2_swapRows_32 rfl rfl ?_
    refine j_iload C dX2_swapRows_33 rfl ?_
    replace e := ob e
    obtain ⟨_, eo20, e⟩ := e
    replace e := ob e
    obtain ⟨h21, eh21, e⟩ := e
    refine j_callV (ci := 2) (RC := RX2) (T := TX2) (N := 7) (As := [.int l2, .int z11, .int x15]) (b := l0) (na := 3) (st := []) (k1 := 0) (n1 := 0) C hr (sX2_put eh21) rfl eo20 kX2_51 kim_X2_put ksel_X2_put kini_X2 kc_X2_put (by decide) rfl ⟨(Nat.le_of_ble_eq_true rfl), (Nat.le_of_ble_eq_true rfl)⟩ (Nat.le_of_ble_eq_true rfl) ⟨rfl, rfl, (Nat.le_of_ble_eq_true rfl), (Nat.le_of_ble_eq_true rfl)⟩ dX2_swapRows_35 ?_
    rintro _ _ ⟨rfl, rfl⟩
    show jx_J X 0 0 38 [(4, .int x15), (0, .ref l0), (1, .int l1), (2, .int l2), (3, .int z11)] [] h21
    refine j_iinc (v := (z11 + (1 : Int32))) (lv1 := [(3, .int (z11 + (1 : Int32))), (4, .int x15), (0, .ref l0), (1, .int l1), (2, .int l2)]) C hL dX2_swapRows_38 rfl rfl (Nat.le_of_ble_eq_true rfl) rfl ?_
    refine j_goto (tgt := 2) C dX2_swapRows_41 (by decide) ?_
    obtain rfl := Option.some.inj e
    refine jx_sub (lv' := [(0, .ref l0), (1, .int l1), (2, .int l2), (3, .int (z11 + (1 : Int32)))]) [2, 3, 4, 0] rfl ?_
    exact kI2 ((z11 + (1 : Int32)), h21) e0_2
/-! BorderBasis.inverse(II)I -/
noncomputable def BX9_inverse_30 (l1 : Int32) (l2 : Int32) (l3 : Int32) (l4 : Int32) (h : jx_H) : Option ((Int32 × Int32 × Int32) ⊕ (Int32)) :=
(FX9_residue (l3 * l3) l1 h).bind fun x1 =>
some (.inl (l2, x1, (l4 >>> ((1 : Int32) &&& 31))))
noncomputable def LX9_inverse_9 (l1 : Int32) (l2 : Int32) (l3 : Int32) (l4 : Int32) (h : jx_H) : Option ((Int32 × Int32 × Int32) ⊕ (Int32)) :=
if l4 ≤ 0 then
 exL (some l2)
else
 if (l4 &&& (1 : Int32)) = (1 : Int32) then
  (FX9_residue (l2 * l3) l1 h).bind fun x2 =>
  BX9_inverse_30 l1 x2 l3 l4 h
 else
  BX9_inverse_30 l1 l2 l3 l4 h
noncomputable def FX9_inverse (l0 : Int32) (l1 : Int32) (h : jx_H) : Option (Int32) :=
itr (fun s : Int32 × Int32 × Int32 => LX9_inverse_9 l1 s.1 s.2.1 s.2.2 h) ((1 : Int32), l0, (l1 - (2 : Int32)))
def rmX9_inverse : Room := { frames := 1, cells := 0, slots := 0, locals := 22 }
set_option maxRecDepth 20000 in
set_option maxHeartbeats 4000000 in
theorem sX9_inverse {l0 : Int32} {l1 : Int32} {h : jx_H} {r : Int32}  (e : FX9_inverse l0 l1 h = some r) : jx_Ct yX9_inverse cX9_inverse 5 (some .int) rmX9_inverse [.int l0, .int l1] h (fun r' h' => some (.int r) = r' ∧ h = h') := by
  refine jx_Ct.of (own := RX9) (by decide) rfl (Nat.le_of_ble_eq_true rfl) (fun X C hq hr hL hN => ?_)
  refine jx_sub (lv' := [(0, .int l0), (1, .int l1)]) [0, 1] rfl ?_
  unfold FX9_inverse at e
  refine j_iconst (v := (1 : Int32)) C dX9_inverse_0 (by decide) ?_
  refine j_istore_n (lv1 := [(2, .int (1 : Int32)), (0, .int l0), (1, .int l1)]) C hL dX9_inverse_1 rfl (Nat.le_of_ble_eq_true rfl) rfl ?_
  refine j_iload_n C dX9_inverse_2 rfl rfl ?_
  refine j_istore_n (lv1 := [(3, .int l0), (2, .int (1 : Int32)), (0, .int l0), (1, .int l1)]) C hL dX9_inverse_3 rfl (Nat.le_of_ble_eq_true rfl) rfl ?_
  refine j_iload_n C dX9_inverse_4 rfl rfl ?_
  refine j_iconst (v := (2 : Int32)) C dX9_inverse_5 (by decide) ?_
  refine j_isub C dX9_inverse_6 ?_
  refine j_istore (lv1 := [(4, .int (l1 - (2 : Int32))), (3, .int l0), (2, .int (1 : Int32)), (0, .int l0), (1, .int l1)]) C hL dX9_inverse_7 (Nat.le_of_ble_eq_true rfl) rfl ?_
  refine jx_sub (lv' := [(1, .int l1), (2, .int (1 : Int32)), (3, .int l0), (4, .int (l1 - (2 : Int32)))]) [4, 2, 1, 0] rfl ?_
  refine itr_ind (s0 := ((1 : Int32), l0, (l1 - (2 : Int32)))) (fun s : Int32 × Int32 × Int32 => jx_J X 0 0 9 [(1, .int l1), (2, .int s.1), (3, .int s.2.1), (4, .int s.2.2)] [] h) e ?_
  clear e
  intro s kI2 kT2 e0
  obtain ⟨z5, z6, z7⟩ := s
  obtain ⟨u2, e0_2⟩ := e0
  have e : LX9_inverse_9 l1 z5 z6 z7 h = some u2 := e0_2
  have b30 : ∀ (y8 : Int32) (y9 : Int32) (y10 : Int32), BX9_inverse_30 l1 y8 y9 y10 h = some u2 → jx_J X 0 0 30 [(1, .int l1), (2, .int y8), (3, .int y9), (4, .int y10)] [] h := by
    intro y8 y9 y10 e
    unfold BX9_inverse_30 at e
    refine j_iload_n C dX9_inverse_30 rfl rfl ?_
    refine j_iload_n C dX9_inverse_31 rfl rfl ?_
    refine j_imul C dX9_inverse_32 ?_
    refine j_iload_n C dX9_inverse_33 rfl rfl ?_
    replace e := ob e
    obtain ⟨x11, ex11, e⟩ := e
    refine j_callS (As := [.int (y9 * y9), .int l1]) (na := 2) (st := []) (k1 := 0) (n1 := 0) C hr (sX9_residue ex11) kX9_319 kst_X9_residue kini_X9 kc_X9_residue (by decide) rfl ⟨(Nat.le_of_ble_eq_true rfl), (Nat.le_of_ble_eq_true rfl)⟩ (Nat.le_of_ble_eq_true rfl) ⟨rfl, rfl, (Nat.le_of_ble_eq_true rfl), (Nat.le_of_ble_eq_true rfl)⟩ dX9_inverse_34 ?_
    rintro _ _ ⟨rfl, rfl⟩
    show jx_J X 0 0 37 [(1, .int l1), (2, .int y8), (3, .int y9), (4, .int y10)] [.int x11] h
    refine j_istore_n (lv1 := [(3, .int x11), (1, .int l1), (2, .int y8), (4, .int y10)]) C hL dX9_inverse_37 rfl (Nat.le_of_ble_eq_true rfl) rfl ?_
    refine j_iload C dX9_inverse_38 rfl ?_
    refine j_iconst (v := (1 : Int32)) C dX9_inverse_40 (by decide) ?_
    refine j_ishr C dX9_inverse_41 ?_
    refine j_istore (lv1 := [(4, .int (y10 >>> ((1 : Int32) &&& 31))), (3, .int x11), (1, .int l1), (2, .int y8)]) C hL dX9_inverse_42 (Nat.le_of_ble_eq_true rfl) rfl ?_
    refine j_goto (tgt := 9) C dX9_inverse_44 (by decide) ?_
    obtain rfl := Option.some.inj e
    refine jx_sub (lv' := [(1, .int l1), (2, .int y8), (3, .int x11), (4, .int (y10 >>> ((1 : Int32) &&& 31)))]) [2, 3, 1, 0] rfl ?_
    exact kI2 (y8, x11, (y10 >>> ((1 : Int32) &&& 31))) e0_2
  unfold LX9_inverse_9 at e
  refine j_iload C dX9_inverse_9 rfl ?_
  refine j_if_le (tgt := 47) C dX9_inverse_11 (by decide) (fun c14 => ?_) (fun c14 => ?_)
  · replace e := ifp c14 e
    obtain ⟨t_3, e_3, eu_3⟩ := exL_spec e
    obtain rfl := kT2 t_3 (e0_2.trans (congrArg some eu_3))
    replace e := e_3
    refine j_iload_n C dX9_inverse_47 rfl rfl ?_
    cases e
    exact j_iret C hq rfl dX9_inverse_48 ⟨Nat.le_of_ble_eq_true rfl, Nat.le_of_ble_eq_true rfl⟩ ⟨rfl, rfl⟩
  · replace e := ifn c14 e
    refine j_iload C dX9_inverse_14 rfl ?_
    refine j_iconst (v := (1 : Int32)) C dX9_inverse_16 (by decide) ?_
    refine j_iand C dX9_inverse_17 ?_
    refine j_iconst (v := (1 : Int32)) C dX9_inverse_18 (by decide) ?_
    refine j_icmp_ne (tgt := 30) C dX9_inverse_19 (by decide) (fun c13 => ?_) (fun c13 => ?_)
    · replace e := ifn c13 e
      exact b30 z5 z6 z7 e
    · replace e := ifp c13 e
      refine j_iload_n C dX9_inverse_22 rfl rfl ?_
      refine j_iload_n C dX9_inverse_23 rfl rfl ?_
      refine j_imul C dX9_inverse_24 ?_
      refine j_iload_n C dX9_inverse_25 rfl rfl ?_
      replace e := ob e
      obtain ⟨x12, ex12, e⟩ := e
      refine j_callS (As := [.int (z5 * z6), .int l1]) (na := 2) (st := []) (k1 := 0) (n1 := 0) C hr (sX9_residue ex12) kX9_319 kst_X9_residue kini_X9 kc_X9_residue (by decide) rfl ⟨(Nat.le_of_ble_eq_true rfl), (Nat.le_of_ble_eq_true rfl)⟩ (Nat.le_of_ble_eq_true rfl) ⟨rfl, rfl, (Nat.le_of_ble_eq_true rfl), (Nat.le_of_ble_eq_true rfl)⟩ dX9_inverse_26 ?_
      rintro _ _ ⟨rfl, rfl⟩
      show jx_J X 0 0 29 [(1, .int l1), (2, .int z5), (3, .int z6), (4, .int z7)] [.int x12] h
      refine j_istore_n (lv1 := [(2, .int x12), (1, .int l1), (3, .int z6), (4, .int z7)]) C hL dX9_inverse_29 rfl (Nat.le_of_ble_eq_true rfl) rfl ?_
      refine jx_sub (lv' := [(1, .int l1), (2, .int x12), (3, .int z6), (4, .int z7)]) [1, 0, 2, 3] rfl ?_
      exact b30 x12 z6 z7 e
/-! BorderBasis$Matrix.reduceRows(I)I -/
noncomputable def BX2_reduceRows_125 (l0 : Nat) (l1 : Int32) (l2 : Int32) (l3 : Int32) (h : jx_H) : Option ((Int32 × Int32 × jx_H) ⊕ (Int32 × jx_H)) :=
some (.inl (l2, (l3 + (1 : Int32)), h))
noncomputable def BX2_reduceRows_73 (l0 : Nat) (l1 : Int32) (l2 : Int32) (l3 : Int32) (h : jx_H) : Option ((Int32 × Int32 × jx_H) ⊕ (Int32 × jx_H)) :=
(hgi h l0 2 6).bind fun x2 =>
(isO h l0 2).bind fun _ =>
(FX2_at l0 l2 l3 h).bind fun x4 =>
(FX9_residue (x2 * x4) l1 h).bind fun x5 =>
(hp h l0 2 6 (.int x5)).bind fun h6 =>
(isO h6 l0 2).bind fun _ =>
(FX2_at l0 l2 l3 h6).bind fun x8 =>
(FX9_inverse x8 l1 h6).bind fun x9 =>
(isO h6 l0 2).bind fun _ =>
(FX2_scaleRow l0 l2 x9 l1 h6).bind fun h11 =>
(isO h11 l0 2).bind fun _ =>
(FX2_clearColumn l0 l2 l3 l1 h11).bind fun h13 =>
(hgr h13 l0 2 3).bind fun x14 =>
(has h13 .int x14 l2 l3).bind fun h15 =>
BX2_reduceRows_125 l0 l1 (l2 + (1 : Int32)) l3 h15
noncomputable def LX2_reduceRows_9 (l0 : Nat) (l1 : Int32) (l2 : Int32) (l3 : Int32) (h : jx_H) : Option ((Int32 × Int32 × jx_H) ⊕ (Int32 × jx_H)) :=
(hgi h l0 2 5).bind fun x16 =>
if x16 ≤ l3 then
 exL (some (l2, h))
else
 (hgi h l0 2 4).bind fun x17 =>
 if x17 ≤ l2 then
  exL (some (l2, h))
 else
  (isO h l0 2).bind fun _ =>
  (FX2_pivotRow l0 l2 l3 h).bind fun x19 =>
  if x19 = (-1 : Int32) then
   (hp h l0 2 6 (.int (0 : Int32))).bind fun h26 =>
   BX2_reduceRows_125 l0 l1 l2 l3 h26
  else
   if x19 = l2 then
    BX2_reduceRows_73 l0 l1 l2 l3 h
   else
    (isO h l0 2).bind fun _ =>
    (FX2_swapRows l0 x19 l2 h).bind fun h21 =>
    (hgi h21 l0 2 6).bind fun x22 =>
    (FX9_residue (-x22) l1 h21).bind fun x23 =>
    (hp h21 l0 2 6 (.int x23)).bind fun h24 =>
    BX2_reduceRows_73 l0 l1 l2 l3 h24
noncomputable def FX2_reduceRows (l0 : Nat) (l1 : Int32) (h : jx_H) : Option (Int32 × jx_H) :=
(hp h l0 2 6 (.int (1 : Int32))).bind fun h1 =>
itr (fun s : Int32 × Int32 × jx_H => LX2_reduceRows_9 l0 l1 s.1 s.2.1 s.2.2) ((0 : Int32), (0 : Int32), h1)
def rmX2_reduceRows : Room := { frames := 3, cells := 0, slots := 0, locals := 74 }
set_option maxRecDepth 20000 in
set_option maxHeartbeats 4000000 in
theorem sX2_reduceRows {l0 : Nat} {l1 : Int32} {h : jx_H} {r : Int32} {h9 : jx_H} (e : FX2_reduceRows l0 l1 h = some (r, h9)) : jx_Ct yX2_reduceRows cX2_reduceRows 5 (some .int) rmX2_reduceRows [.ref l0, .int l1] h (fun r' h' => some (.int r) = r' ∧ h9 = h') := by
  refine jx_Ct.of (own := RX2) (by decide) rfl (Nat.le_of_ble_eq_true rfl) (fun X C hq hr hL hN => ?_)
  refine jx_sub (lv' := [(0, .ref l0), (1, .int l1)]) [0, 1] rfl ?_
  unfold FX2_reduceRows at e
  refine j_aload_n C dX2_reduceRows_0 rfl rfl ?_
  refine j_iconst (v := (1 : Int32)) C dX2_reduceRows_1 (by decide) ?_
  replace e := ob e
  obtain ⟨h30, eh30, e⟩ := e
  refine j_put (ci := 2) (RC := RX2) (T := TX2) (N := 7) (ty0 := tyX2) 6 C rfl klX2 tyX2_ok nmX2 (Nat.le_of_ble_eq_true rfl) kX2_79 rfl rfl rfl rfl dX2_reduceRows_2 eh30 ?_
  refine j_iconst (v := (0 : Int32)) C dX2_reduceRows_5 (by decide) ?_
  refine j_istore_n (lv1 := [(2, .int (0 : Int32)), (0, .ref l0), (1, .int l1)]) C hL dX2_reduceRows_6 rfl (Nat.le_of_ble_eq_true rfl) rfl ?_
  refine j_iconst (v := (0 : Int32)) C dX2_reduceRows_7 (by decide) ?_
  refine j_istore_n (lv1 := [(3, .int (0 : Int32)), (2, .int (0 : Int32)), (0, .ref l0), (1, .int l1)]) C hL dX2_reduceRows_8 rfl (Nat.le_of_ble_eq_true rfl) rfl ?_
  refine jx_sub (lv' := [(0, .ref l0), (1, .int l1), (2, .int (0 : Int32)), (3, .int (0 : Int32))]) [2, 3, 1, 0] rfl ?_
  refine itr_ind (s0 := ((0 : Int32), (0 : Int32), h30)) (fun s : Int32 × Int32 × jx_H => jx_J X 0 0 9 [(0, .ref l0), (1, .int l1), (2, .int s.1), (3, .int s.2.1)] [] s.2.2) e ?_
  clear e
  intro s kI3 kT3 e0
  obtain ⟨z31, z32, h33⟩ := s
  obtain ⟨u3, e0_3⟩ := e0
  have e : LX2_reduceRows_9 l0 l1 z31 z32 h33 = some u3 := e0_3
  have b125 : ∀ (y34 : Int32) (y35 : Int32) (h36 : jx_H), BX2_reduceRows_125 l0 l1 y34 y35 h36 = some u3 → jx_J X 0 0 125 [(0, .ref l0), (1, .int l1), (2, .int y34), (3, .int y35)] [] h36 := by
    intro y34 y35 h36 e
    unfold BX2_reduceRows_125 at e
    refine j_iinc (v := (y35 + (1 : Int32))) (lv1 := [(3, .int (y35 + (1 : Int32))), (0, .ref l0), (1, .int l1), (2, .int y34)]) C hL dX2_reduceRows_125 rfl rfl (Nat.le_of_ble_eq_true rfl) rfl ?_
    refine j_goto (tgt := 9) C dX2_reduceRows_128 (by decide) ?_
    obtain rfl := Option.some.inj e
    refine jx_sub (lv' := [(0, .ref l0), (1, .int l1), (2, .int y34), (3, .int (y35 + (1 : Int32)))]) [1, 2, 3, 0] rfl ?_
    exact kI3 (y34, (y35 + (1 : Int32)), h36) e0_3
  have b73 : ∀ (y37 : Int32) (y38 : Int32) (h39 : jx_H), BX2_reduceRows_73 l0 l1 y37 y38 h39 = some u3 → jx_J X 0 0 73 [(0, .ref l0), (1, .int l1), (2, .int y37), (3, .int y38)] [] h39 := by
    intro y37 y38 h39 e
    unfold BX2_reduceRows_73 at e
    refine j_aload_n C dX2_reduceRows_73 rfl rfl ?_
    refine j_aload_n C dX2_reduceRows_74 rfl rfl ?_
    replace e := ob e
    obtain ⟨x40, ex40, e⟩ := e
    refine j_geti (ci := 2) (RC := RX2) (T := TX2) (N := 7) 6 C rfl klX2 (Nat.le_of_ble_eq_true rfl) kX2_79 rfl dX2_reduceRows_75 ex40 ?_
    refine j_aload_n C dX2_reduceRows_78 rfl rfl ?_
    refine j_iload_n C dX2_reduceRows_79 rfl rfl ?_
    refine j_iload_n C dX2_reduceRows_80 rfl rfl ?_
    replace e := ob e
    obtain ⟨_, eo41, e⟩ := e
    replace e := ob e
    obtain ⟨x42, ex42, e⟩ := e
    refine j_callV (ci := 2) (RC := RX2) (T := TX2) (N := 7) (As := [.int y37, .int y38]) (b := l0) (na := 2) (st := [.int x40, .ref l0]) (k1 := 0) (n1 := 0) C hr (sX2_at ex42) rfl eo41 kX2_59 kim_X2_at ksel_X2_at kini_X2 kc_X2_at (by decide) rfl ⟨(Nat.le_of_ble_eq_true rfl), (Nat.le_of_ble_eq_true rfl)⟩ (Nat.le_of_ble_eq_true rfl) ⟨rfl, rfl, (Nat.le_of_ble_eq_true rfl), (Nat.le_of_ble_eq_true rfl)⟩ dX2_reduceRows_81 ?_
    rintro _ _ ⟨rfl, rfl⟩
    show jx_J X 0 0 84 [(0, .ref l0), (1, .int l1), (2, .int y37), (3, .int y38)] [.int x42, .int x40, .ref l0] h39
    refine j_imul C dX2_reduceRows_84 ?_
    refine j_iload_n C dX2_reduceRows_85 rfl rfl ?_
    replace e := ob e
    obtain ⟨x43, ex43, e⟩ := e
    refine j_callSN (As := [.int (x40 * x42), .int l1]) (na := 2) (st := [.ref l0]) (k1 := 0) (n1 := 0) C hr (sX9_residue ex43) kX2_62 kst_X9_residue kini_X9 kc_X9_residue (by decide) rfl ⟨(Nat.le_of_ble_eq_true rfl), (Nat.le_of_ble_eq_true rfl)⟩ (Nat.le_of_ble_eq_true rfl) ⟨rfl, rfl, (Nat.le_of_ble_eq_true rfl), (Nat.le_of_ble_eq_true rfl)⟩ dX2_reduceRows_86 ?_
    rintro _ _ ⟨rfl, rfl⟩
    show jx_J X 0 0 89 [(0, .ref l0), (1, .int l1), (2, .int y37), (3, .int y38)] [.int x43, .ref l0] h39
    replace e := ob e
    obtain ⟨h44, eh44, e⟩ := e
    refine j_put (ci := 2) (RC := RX2) (T := TX2) (N := 7) (ty0 := tyX2) 6 C rfl klX2 tyX2_ok nmX2 (Nat.le_of_ble_eq_true rfl) kX2_79 rfl rfl rfl rfl dX2_reduceRows_89 eh44 ?_
    refine j_aload_n C dX2_reduceRows_92 rfl rfl ?_
    refine j_iload_n C dX2_reduceRows_93 rfl rfl ?_
    refine j_aload_n C dX2_reduceRows_94 rfl rfl ?_
    refine j_iload_n C dX2_reduceRows_95 rfl rfl ?_
    refine j_iload_n C dX2_reduceRows_96 rfl rfl ?_
    replace e := ob e
    obtain ⟨_, eo45, e⟩ := e
    replace e := ob e
    obtain ⟨x46, ex46, e⟩ := e
    refine j_callV (ci := 2) (RC := RX2) (T := TX2) (N := 7) (As := [.int y37, .int y38]) (b := l0) (na := 2) (st := [.int y37, .ref l0]) (k1 := 0) (n1 := 0) C hr (sX2_at ex46) rfl eo45 kX2_59 kim_X2_at ksel_X2_at kini_X2 kc_X2_at (by decide) rfl ⟨(Nat.le_of_ble_eq_true rfl), (Nat.le_of_ble_eq_true rfl)⟩ (Nat.le_of_ble_eq_true rfl) ⟨rfl, rfl, (Nat.le_of_ble_eq_true rfl), (Nat.le_of_ble_eq_true rfl)⟩ dX2_reduceRows_97 ?_
    rintro _ _ ⟨rfl, rfl⟩
    show jx_J X 0 0 100 [(0, .ref l0), (1, .int l1), (2, .int y37), (3, .int y38)] [.int x46, .int y37, .ref l0] h44
    refine j_iload_n C dX2_reduceRows_100 rfl rfl ?_
    replace e := ob e
    obtain ⟨x47, ex47, e⟩ := e
    refine j_callSN (As := [.int x46, .int l1]) (na := 2) (st := [.int y37, .ref l0]) (k1 := 0) (n1 := 0) C hr (sX9_inverse ex47) kX2_88 kst_X9_inverse kini_X9 kc_X9_inverse (by decide) rfl ⟨(Nat.le_of_ble_eq_true rfl), (Nat.le_of_ble_eq_true rfl)⟩ (Nat.le_of_ble_eq_true rfl) ⟨rfl, rfl, (Nat.le_of_ble_eq_true rfl), (Nat.le_of_ble_eq_true rfl)⟩ dX2_reduceRows_101 ?_
    rintro _ _ ⟨rfl, rfl⟩
    show jx_J X 0 0 104 [(0, .ref l0), (1, .int l1), (2, .int y37), (3, .int y38)] [.int x47, .int y37, .ref l0] h44
    refine j_iload_n C dX2_reduceRows_104 rfl rfl ?_
    replace e := ob e
    obtain ⟨_, eo48, e⟩ := e
    replace e := ob e
    obtain ⟨h49, eh49, e⟩ := e
    refine j_callV (ci := 2) (RC := RX2) (T := TX2) (N := 7) (As := [.int y37, .int x47, .int l1]) (b := l0) (na := 3) (st := []) (k1 := 0) (n1 := 0) C hr (sX2_scaleRow eh49) rfl eo48 kX2_91 kim_X2_scaleRow ksel_X2_scaleRow kini_X2 kc_X2_scaleRow (by decide) rfl ⟨(Nat.le_of_ble_eq_true rfl), (Nat.le_of_ble_eq_true rfl)⟩ (Nat.le_of_ble_eq_true rfl) ⟨rfl, rfl, (Nat.le_of_ble_eq_true rfl), (Nat.le_of_ble_eq_true rfl)⟩ dX2_reduceRows_105 ?_
    rintro _ _ ⟨rfl, rfl⟩
    show jx_J X 0 0 108 [(0, .ref l0), (1, .int l1), (2, .int y37), (3, .int y38)] [] h49
    refine j_aload_n C dX2_reduceRows_108 rfl rfl ?_
    refine j_iload_n C dX2_reduceRows_109 rfl rfl ?_
    refine j_iload_n C dX2_reduceRows_110 rfl rfl ?_
    refine j_iload_n C dX2_reduceRows_111 rfl rfl ?_
    replace e := ob e
    obtain ⟨_, eo50, e⟩ := e
    replace e := ob e
    obtain ⟨h51, eh51, e⟩ := e
    refine j_callV (ci := 2) (RC := RX2) (T := TX2) (N := 7) (As := [.int y37, .int y38, .int l1]) (b := l0) (na := 3) (st := []) (k1 := 0) (n1 := 0) C hr (sX2_clearColumn eh51) rfl eo50 kX2_94 kim_X2_clearColumn ksel_X2_clearColumn kini_X2 kc_X2_clearColumn (by decide) rfl ⟨(Nat.le_of_ble_eq_true rfl), (Nat.le_of_ble_eq_true rfl)⟩ (Nat.le_of_ble_eq_true rfl) ⟨rfl, rfl, (Nat.le_of_ble_eq_true rfl), (Nat.le_of_ble_eq_true rfl)⟩ dX2_reduceRows_112 ?_
    rintro _ _ ⟨rfl, rfl⟩
    show jx_J X 0 0 115 [(0, .ref l0), (1, .int l1), (2, .int y37), (3, .int y38)] [] h51
    refine j_aload_n C dX2_reduceRows_115 rfl rfl ?_
    replace e := ob e
    obtain ⟨x52, ex52, e⟩ := e
    refine j_getr (ci := 2) (RC := RX2) (T := TX2) (N := 7) 3 C rfl klX2 (Nat.le_of_ble_eq_true rfl) kX2_22 rfl dX2_reduceRows_116 ex52 ?_
    refine j_iload_n C dX2_reduceRows_119 rfl rfl ?_
    refine j_iload_n C dX2_reduceRows_120 rfl rfl ?_
    replace e := ob e
    obtain ⟨h53, eh53, e⟩ := e
    refine j_iast C dX2_reduceRows_121 eh53 ?_
    refine j_iinc (v := (y37 + (1 : Int32))) (lv1 := [(2, .int (y37 + (1 : Int32))), (0, .ref l0), (1, .int l1), (3, .int y38)]) C hL dX2_reduceRows_122 rfl rfl (Nat.le_of_ble_eq_true rfl) rfl ?_
    refine jx_sub (lv' := [(0, .ref l0), (1, .int l1), (2, .int (y37 + (1 : Int32))), (3, .int y38)]) [1, 2, 0, 3] rfl ?_
    exact b125 (y37 + (1 : Int32)) y38 h53 e
  unfold LX2_reduceRows_9 at e
  refine j_iload_n C dX2_reduceRows_9 rfl rfl ?_
  refine j_aload_n C dX2_reduceRows_10 rfl rfl ?_
  replace e := ob e
  obtain ⟨x54, ex54, e⟩ := e
  refine j_geti (ci := 2) (RC := RX2) (T := TX2) (N := 7) 5 C rfl klX2 (Nat.le_of_ble_eq_true rfl) kX2_34 rfl dX2_reduceRows_11 ex54 ?_
  refine j_icmp_ge (tgt := 131) C dX2_reduceRows_14 (by decide) (fun c67 => ?_) (fun c67 => ?_)
  · replace e := ifp c67 e
    obtain ⟨t_4, e_4, eu_4⟩ := exL_spec e
    obtain rfl := kT3 t_4 (e0_3.trans (congrArg some eu_4))
    replace e := e_4
    refine j_iload_n C dX2_reduceRows_131 rfl rfl ?_
    cases e
    exact j_iret C hq rfl dX2_reduceRows_132 ⟨Nat.le_of_ble_eq_true rfl, Nat.le_of_ble_eq_true rfl⟩ ⟨rfl, rfl⟩
  · replace e := ifn c67 e
    refine j_iload_n C dX2_reduceRows_17 rfl rfl ?_
    refine j_aload_n C dX2_reduceRows_18 rfl rfl ?_
    replace e := ob e
    obtain ⟨x55, ex55, e⟩ := e
    refine j_geti (ci := 2) (RC := RX2) (T := TX2) (N := 7) 4 C rfl klX2 (Nat.le_of_ble_eq_true rfl) kX2_31 rfl dX2_reduceRows_19 ex55 ?_
    refine j_icmp_ge (tgt := 131) C dX2_reduceRows_22 (by decide) (fun c66 => ?_) (fun c66 => ?_)
    · replace e := ifp c66 e
      obtain ⟨t_5, e_5, eu_5⟩ := exL_spec e
      obtain rfl := kT3 t_5 (e0_3.trans (congrArg some eu_5))
      replace e := e_5
      refine j_iload_n C dX2_reduceRows_131 rfl rfl ?_
      cases e
      exact j_iret C hq rfl dX2_reduceRows_132 ⟨Nat.le_of_ble_eq_true rfl, Nat.le_of_ble_eq_true rfl⟩ ⟨rfl, rfl⟩
    · replace e := ifn c66 e
      refine j_aload_n C dX2_reduceRows_25 rfl rfl ?_
      refine j_iload_n C dX2_reduceRows_26 rfl rfl ?_
      refine j_iload_n C dX2_reduceRows_27 rfl rfl ?_
      replace e := ob e
      obtain ⟨_, eo56, e⟩ := e
      replace e := ob e
      obtain ⟨x57, ex57, e⟩ := e
      refine j_callV (ci := 2) (RC := RX2) (T := TX2) (N := 7) (As := [.int z31, .int z32]) (b := l0) (na := 2) (st := []) (k1 := 0) (n1 := 0) C hr (sX2_pivotRow ex57) rfl eo56 kX2_82 kim_X2_pivotRow ksel_X2_pivotRow kini_X2 kc_X2_pivotRow (by decide) rfl ⟨(Nat.le_of_ble_eq_true rfl), (Nat.le_of_ble_eq_true rfl)⟩ (Nat.le_of_ble_eq_true rfl) ⟨rfl, rfl, (Nat.le_of_ble_eq_true rfl), (Nat.le_of_ble_eq_true rfl)⟩ dX2_reduceRows_28 ?_
      rintro _ _ ⟨rfl, rfl⟩
      show jx_J X 0 0 31 [(0, .ref l0), (1, .int l1), (2, .int z31), (3, .int z32)] [.int x57] h33
      refine j_istore (lv1 := [(4, .int x57), (0, .ref l0), (1, .int l1), (2, .int z31), (3, .int z32)]) C hL dX2_reduceRows_31 (Nat.le_of_ble_eq_true rfl) rfl ?_
      refine j_iload C dX2_reduceRows_33 rfl ?_
      refine j_iconst (v := (-1 : Int32)) C dX2_reduceRows_35 (by decide) ?_
      refine j_icmp_ne (tgt := 47) C dX2_reduceRows_36 (by decide) (fun c65 => ?_) (fun c65 => ?_)
      · replace e := ifn c65 e
        refine j_iload C dX2_reduceRows_47 rfl ?_
        refine j_iload_n C dX2_reduceRows_49 rfl rfl ?_
        refine j_icmp_eq (tgt := 73) C dX2_reduceRows_50 (by decide) (fun c63 => ?_) (fun c63 => ?_)
        · replace e := ifp c63 e
          refine jx_sub (lv' := [(0, .ref l0), (1, .int l1), (2, .int z31), (3, .int z32)]) [1, 2, 3, 4] rfl ?_
          exact b73 z31 z32 h33 e
        · replace e := ifn c63 e
          refine j_aload_n C dX2_reduceRows_53 rfl rfl ?_
          refine j_iload C dX2_reduceRows_54 rfl ?_
          refine j_iload_n C dX2_reduceRows_56 rfl rfl ?_
          replace e := ob e
          obtain ⟨_, eo58, e⟩ := e
          replace e := ob e
          obtain ⟨h59, eh59, e⟩ := e
          refine j_callV (ci := 2) (RC := RX2) (T := TX2) (N := 7) (As := [.int x57, .int z31]) (b := l0) (na := 2) (st := []) (k1 := 0) (n1 := 0) C hr (sX2_swapRows eh59) rfl eo58 kX2_85 kim_X2_swapRows ksel_X2_swapRows kini_X2 kc_X2_swapRows (by decide) rfl ⟨(Nat.le_of_ble_eq_true rfl), (Nat.le_of_ble_eq_true rfl)⟩ (Nat.le_of_ble_eq_true rfl) ⟨rfl, rfl, (Nat.le_of_ble_eq_true rfl), (Nat.le_of_ble_eq_true rfl)⟩ dX2_reduceRows_57 ?_
          rintro _ _ ⟨rfl, rfl⟩
          show jx_J X 0 0 60 [(4, .int x57), (0, .ref l0), (1, .int l1), (2, .int z31), (3, .int z32)] [] h59
          refine j_aload_n C dX2_reduceRows_60 rfl rfl ?_
          refine j_aload_n C dX2_reduceRows_61 rfl rfl ?_
          replace e := ob e
          obtain ⟨x60, ex60, e⟩ := e
          refine j_geti (ci := 2) (RC := RX2) (T := TX2) (N := 7) 6 C rfl klX2 (Nat.le_of_ble_eq_true rfl) kX2_79 rfl dX2_reduceRows_62 ex60 ?_
          refine j_ineg C dX2_reduceRows_65 ?_
          refine j_iload_n C dX2_reduceRows_66 rfl rfl ?_
          replace e := ob e
          obtain ⟨x61, ex61, e⟩ := e
          refine j_callSN (As := [.int (-x60), .int l1]) (na := 2) (st := [.ref l0]) (k1 := 0) (n1 := 0) C hr (sX9_residue ex61) kX2_62 kst_X9_residue kini_X9 kc_X9_residue (by decide) rfl ⟨(Nat.le_of_ble_eq_true rfl), (Nat.le_of_ble_eq_true rfl)⟩ (Nat.le_of_ble_eq_true rfl) ⟨rfl, rfl, (Nat.le_of_ble_eq_true rfl), (Nat.le_of_ble_eq_true rfl)⟩ dX2_reduceRows_67 ?_
          rintro _ _ ⟨rfl, rfl⟩
          show jx_J X 0 0 70 [(4, .int x57), (0, .ref l0), (1, .int l1), (2, .int z31), (3, .int z32)] [.int x61, .ref l0] h59
          replace e := ob e
          obtain ⟨h62, eh62, e⟩ := e
          refine j_put (ci := 2) (RC := RX2) (T := TX2) (N := 7) (ty0 := tyX2) 6 C rfl klX2 tyX2_ok nmX2 (Nat.le_of_ble_eq_true rfl) kX2_79 rfl rfl rfl rfl dX2_reduceRows_70 eh62 ?_
          refine jx_sub (lv' := [(0, .ref l0), (1, .int l1), (2, .int z31), (3, .int z32)]) [1, 2, 3, 4] rfl ?_
          exact b73 z31 z32 h62 e
      · replace e := ifp c65 e
        refine j_aload_n C dX2_reduceRows_39 rfl rfl ?_
        refine j_iconst (v := (0 : Int32)) C dX2_reduceRows_40 (by decide) ?_
        replace e := ob e
        obtain ⟨h64, eh64, e⟩ := e
        refine j_put (ci := 2) (RC := RX2) (T := TX2) (N := 7) (ty0 := tyX2) 6 C rfl klX2 tyX2_ok nmX2 (Nat.le_of_ble_eq_true rfl) kX2_79 rfl rfl rfl rfl dX2_reduceRows_41 eh64 ?_
        refine j_goto (tgt := 125) C dX2_reduceRows_44 (by decide) ?_
        refine jx_sub (lv' := [(0, .ref l0), (1, .int l1), (2, .int z31), (3, .int z32)]) [1, 2, 3, 4] rfl ?_
        exact b125 z31 z32 h64 e
/-! BorderBasis$State.copyFrom(LBorderBasis$State;)V -/
noncomputable def FX5_copyFrom (l0 : Nat) (l1 : Nat) (h : jx_H) : Option (jx_H) :=
(hgi h l1 5 0).bind fun x1 =>
(hp h l0 5 0 (.int x1)).bind fun h2 =>
(hgi h2 l1 5 2).bind fun x3 =>
(hp h2 l0 5 2 (.int x3)).bind fun h4 =>
(hgi h4 l1 5 5).bind fun x5 =>
(hp h4 l0 5 5 (.int x5)).bind fun h6 =>
(hgi h6 l1 5 9).bind fun x7 =>
(hp h6 l0 5 9 (.int x7)).bind fun h8 =>
(hgr h8 l1 5 1).bind fun x9 =>
(hgr h8 l0 5 1).bind fun x10 =>
(hcp h8 x9 (0 : Int32) x10 (0 : Int32) (13 : Int32)).bind fun h11 =>
(hgr h11 l1 5 3).bind fun x12 =>
(hgr h11 l0 5 3).bind fun x13 =>
(hcp h11 x12 (0 : Int32) x13 (0 : Int32) (12 : Int32)).bind fun h14 =>
(hgr h14 l1 5 4).bind fun x15 =>
(hgr h14 l0 5 4).bind fun x16 =>
(hcp h14 x15 (0 : Int32) x16 (0 : Int32) (12 : Int32)).bind fun h17 =>
(hgr h17 l1 5 6).bind fun x18 =>
(hgr h17 l0 5 6).bind fun x19 =>
(hcp h17 x18 (0 : Int32) x19 (0 : Int32) (13 : Int32)).bind fun h20 =>
(hgr h20 l1 5 7).bind fun x21 =>
(hgr h20 l0 5 7).bind fun x22 =>
(hcp h20 x21 (0 : Int32) x22 (0 : Int32) (13 : Int32)).bind fun h23 =>
(hgr h23 l1 5 8).bind fun x24 =>
(hgr h23 l0 5 8).bind fun x25 =>
(hcp h23 x24 (0 : Int32) x25 (0 : Int32) (156 : Int32)).bind fun h26 =>
(hgr h26 l1 5 10).bind fun x27 =>
(hgr h26 l0 5 10).bind fun x28 =>
(hcp h26 x27 (0 : Int32) x28 (0 : Int32) (12 : Int32)).bind fun h29 =>
(hgr h29 l1 5 11).bind fun x30 =>
(hgr h29 l0 5 11).bind fun x31 =>
(hcp h29 x30 (0 : Int32) x31 (0 : Int32) (12 : Int32)).bind fun h32 =>
some h32
def rmX5_copyFrom : Room := { frames := 1, cells := 0, slots := 0, locals := 31 }
set_option maxRecDepth 20000 in
set_option maxHeartbeats 4000000 in
theorem sX5_copyFrom {l0 : Nat} {l1 : Nat} {h : jx_H} {h9 : jx_H} (e : FX5_copyFrom l0 l1 h = some h9) : jx_Ct yX5_copyFrom cX5_copyFrom 2 none rmX5_copyFrom [.ref l0, .ref l1] h (fun r' h' => none = r' ∧ h9 = h') := by
  refine jx_Ct.of (own := RX5) (by decide) rfl (Nat.le_of_ble_eq_true rfl) (fun X C hq hr hL hN => ?_)
  refine jx_sub (lv' := [(0, .ref l0), (1, .ref l1)]) [0, 1] rfl ?_
  unfold FX5_copyFrom at e
  refine j_aload_n C dX5_copyFrom_0 rfl rfl ?_
  refine j_aload_n C dX5_copyFrom_1 rfl rfl ?_
  replace e := ob e
  obtain ⟨x33, ex33, e⟩ := e
  refine j_geti (ci := 5) (RC := RX5) (T := TX5) (N := 12) 0 C rfl klX5 (Nat.le_of_ble_eq_true rfl) kX5_39 rfl dX5_copyFrom_2 ex33 ?_
  replace e := ob e
  obtain ⟨h34, eh34, e⟩ := e
  refine j_put (ci := 5) (RC := RX5) (T := TX5) (N := 12) (ty0 := tyX5) 0 C rfl klX5 tyX5_ok nmX5 (Nat.le_of_ble_eq_true rfl) kX5_39 rfl rfl rfl rfl dX5_copyFrom_5 eh34 ?_
  refine j_aload_n C dX5_copyFrom_8 rfl rfl ?_
  refine j_aload_n C dX5_copyFrom_9 rfl rfl ?_
  replace e := ob e
  obtain ⟨x35, ex35, e⟩ := e
  refine j_geti (ci := 5) (RC := RX5) (T := TX5) (N := 12) 2 C rfl klX5 (Nat.le_of_ble_eq_true rfl) kX5_55 rfl dX5_copyFrom_10 ex35 ?_
  replace e := ob e
  obtain ⟨h36, eh36, e⟩ := e
  refine j_put (ci := 5) (RC := RX5) (T := TX5) (N := 12) (ty0 := tyX5) 2 C rfl klX5 tyX5_ok nmX5 (Nat.le_of_ble_eq_true rfl) kX5_55 rfl rfl rfl rfl dX5_copyFrom_13 eh36 ?_
  refine j_aload_n C dX5_copyFrom_16 rfl rfl ?_
  refine j_aload_n C dX5_copyFrom_17 rfl rfl ?_
  replace e := ob e
  obtain ⟨x37, ex37, e⟩ := e
  refine j_geti (ci := 5) (RC := RX5) (T := TX5) (N := 12) 5 C rfl klX5 (Nat.le_of_ble_eq_true rfl) kX5_58 rfl dX5_copyFrom_18 ex37 ?_
  replace e := ob e
  obtain ⟨h38, eh38, e⟩ := e
  refine j_put (ci := 5) (RC := RX5) (T := TX5) (N := 12) (ty0 := tyX5) 5 C rfl klX5 tyX5_ok nmX5 (Nat.le_of_ble_eq_true rfl) kX5_58 rfl rfl rfl rfl dX5_copyFrom_21 eh38 ?_
  refine j_aload_n C dX5_copyFrom_24 rfl rfl ?_
  refine j_aload_n C dX5_copyFrom_25 rfl rfl ?_
  replace e := ob e
  obtain ⟨x39, ex39, e⟩ := e
  refine j_geti (ci := 5) (RC := RX5) (T := TX5) (N := 12) 9 C rfl klX5 (Nat.le_of_ble_eq_true rfl) kX5_49 rfl dX5_copyFrom_26 ex39 ?_
  replace e := ob e
  obtain ⟨h40, eh40, e⟩ := e
  refine j_put (ci := 5) (RC := RX5) (T := TX5) (N := 12) (ty0 := tyX5) 9 C rfl klX5 tyX5_ok nmX5 (Nat.le_of_ble_eq_true rfl) kX5_49 rfl rfl rfl rfl dX5_copyFrom_29 eh40 ?_
  refine j_aload_n C dX5_copyFrom_32 rfl rfl ?_
  replace e := ob e
  obtain ⟨x41, ex41, e⟩ := e
  refine j_getr (ci := 5) (RC := RX5) (T := TX5) (N := 12) 1 C rfl klX5 (Nat.le_of_ble_eq_true rfl) kX5_9 rfl dX5_copyFrom_33 ex41 ?_
  refine j_iconst (v := (0 : Int32)) C dX5_copyFrom_36 (by decide) ?_
  refine j_aload_n C dX5_copyFrom_37 rfl rfl ?_
  replace e := ob e
  obtain ⟨x42, ex42, e⟩ := e
  refine j_getr (ci := 5) (RC := RX5) (T := TX5) (N := 12) 1 C rfl klX5 (Nat.le_of_ble_eq_true rfl) kX5_9 rfl dX5_copyFrom_38 ex42 ?_
  refine j_iconst (v := (0 : Int32)) C dX5_copyFrom_41 (by decide) ?_
  refine j_bipush (v := (13 : Int32)) C dX5_copyFrom_42 (by decide) ?_
  replace e := ob e
  obtain ⟨h43, eh43, e⟩ := e
  refine j_copy C hr kX5_61 knat_Acopy kst_Acopy kini_J10 dX5_copyFrom_44 (Nat.le_of_ble_eq_true rfl) (Nat.le_of_ble_eq_true rfl) eh43 ?_
  refine j_aload_n C dX5_copyFrom_47 rfl rfl ?_
  replace e := ob e
  obtain ⟨x44, ex44, e⟩ := e
  refine j_getr (ci := 5) (RC := RX5) (T := TX5) (N := 12) 3 C rfl klX5 (Nat.le_of_ble_eq_true rfl) kX5_15 rfl dX5_copyFrom_48 ex44 ?_
  refine j_iconst (v := (0 : Int32)) C dX5_copyFrom_51 (by decide) ?_
  refine j_aload_n C dX5_copyFrom_52 rfl rfl ?_
  replace e := ob e
  obtain ⟨x45, ex45, e⟩ := e
  refine j_getr (ci := 5) (RC := RX5) (T := TX5) (N := 12) 3 C rfl klX5 (Nat.le_of_ble_eq_true rfl) kX5_15 rfl dX5_copyFrom_53 ex45 ?_
  refine j_iconst (v := (0 : Int32)) C dX5_copyFrom_56 (by decide) ?_
  refine j_bipush (v := (12 : Int32)) C dX5_copyFrom_57 (by decide) ?_
  replace e := ob e
  obtain ⟨h46, eh46, e⟩ := e
  refine j_copy C hr kX5_61 knat_Acopy kst_Acopy kini_J10 dX5_copyFrom_59 (Nat.le_of_ble_eq_true rfl) (Nat.le_of_ble_eq_true rfl) eh46 ?_
  refine j_aload_n C dX5_copyFrom_62 rfl rfl ?_
  replace e := ob e
  obtain ⟨x47, ex47, e⟩ := e
  refine j_getr (ci := 5) (RC := RX5) (T := TX5) (N := 12) 4 C rfl klX5 (Nat.le_of_ble_eq_true rfl) kX5_18 rfl dX5_copyFrom_63 ex47 ?_
  refine j_iconst (v := (0 : Int32)) C dX5_copyFrom_66 (by decide) ?_
  refine j_aload_n C dX5_copyFrom_67 rfl rfl ?_
  replace e := ob e
  obtain ⟨x48, ex48, e⟩ := e
  refine j_getr (ci := 5) (RC := RX5) (T := TX5) (N := 12) 4 C rfl klX5 (Nat.le_of_ble_eq_true rfl) kX5_18 rfl dX5_copyFrom_68 ex48 ?_
  refine j_iconst (v := (0 : Int32)) C dX5_copyFrom_71 (by decide) ?_
  refine j_bipush (v := (12 : Int32)) C dX5_copyFrom_72 (by decide) ?_
  replace e := ob e
  obtain ⟨h49, eh49, e⟩ := e
  refine j_copy C hr kX5_61 knat_Acopy kst_Acopy kini_J10 dX5_copyFrom_74 (Nat.le_of_ble_eq_true rfl) (Nat.le_of_ble_eq_true rfl) eh49 ?_
  refine j_aload_n C dX5_copyFrom_77 rfl rfl ?_
  replace e := ob e
  obtain ⟨x50, ex50, e⟩ := e
  refine j_getr (ci := 5) (RC := RX5) (T := TX5) (N := 12) 6 C rfl klX5 (Nat.le_of_ble_eq_true rfl) kX5_21 rfl dX5_copyFrom_78 ex50 ?_
  refine j_iconst (v := (0 : Int32)) C dX5_copyFrom_81 (by decide) ?_
  refine j_aload_n C dX5_copyFrom_82 rfl rfl ?_
  replace e := ob e
  obtain ⟨x51, ex51, e⟩ := e
  refine j_getr (ci := 5) (RC := RX5) (T := TX5) (N := 12) 6 C rfl klX5 (Nat.le_of_ble_eq_true rfl) kX5_21 rfl dX5_copyFrom_83 ex51 ?_
  refine j_iconst (v := (0 : Int32)) C dX5_copyFrom_86 (by decide) ?_
  refine j_bipush (v := (13 : Int32)) C dX5_copyFrom_87 (by decide) ?_
  replace e := ob e
  obtain ⟨h52, eh52, e⟩ := e
  refine j_copy C hr kX5_61 knat_Acopy kst_Acopy kini_J10 dX5_copyFrom_89 (Nat.le_of_ble_eq_true rfl) (Nat.le_of_ble_eq_true rfl) eh52 ?_
  refine j_aload_n C dX5_copyFrom_92 rfl rfl ?_
  replace e := ob e
  obtain ⟨x53, ex53, e⟩ := e
  refine j_getr (ci := 5) (RC := RX5) (T := TX5) (N := 12) 7 C rfl klX5 (Nat.le_of_ble_eq_true rfl) kX5_24 rfl dX5_copyFrom_93 ex53 ?_
  refine j_iconst (v := (0 : Int32)) C dX5_copyFrom_96 (by decide) ?_
  refine j_aload_n C dX5_copyFrom_97 rfl rfl ?_
  replace e := ob e
  obtain ⟨x54, ex54, e⟩ := e
  refine j_getr (ci := 5) (RC := RX5) (T := TX5) (N := 12) 7 C rfl klX5 (Nat.le_of_ble_eq_true rfl) kX5_24 rfl dX5_copyFrom_98 ex54 ?_
  refine j_iconst (v := (0 : Int32)) C dX5_copyFrom_101 (by decide) ?_
  refine j_bipush (v := (13 : Int32)) C dX5_copyFrom_102 (by decide) ?_
  replace e := ob e
  obtain ⟨h55, eh55, e⟩ := e
  refine j_copy C hr kX5_61 knat_Acopy kst_Acopy kini_J10 dX5_copyFrom_104 (Nat.le_of_ble_eq_true rfl) (Nat.le_of_ble_eq_true rfl) eh55 ?_
  refine j_aload_n C dX5_copyFrom_107 rfl rfl ?_
  replace e := ob e
  obtain ⟨x56, ex56, e⟩ := e
  refine j_getr (ci := 5) (RC := RX5) (T := TX5) (N := 12) 8 C rfl klX5 (Nat.le_of_ble_eq_true rfl) kX5_27 rfl dX5_copyFrom_108 ex56 ?_
  refine j_iconst (v := (0 : Int32)) C dX5_copyFrom_111 (by decide) ?_
  refine j_aload_n C dX5_copyFrom_112 rfl rfl ?_
  replace e := ob e
  obtain ⟨x57, ex57, e⟩ := e
  refine j_getr (ci := 5) (RC := RX5) (T := TX5) (N := 12) 8 C rfl klX5 (Nat.le_of_ble_eq_true rfl) kX5_27 rfl dX5_copyFrom_113 ex57 ?_
  refine j_iconst (v := (0 : Int32)) C dX5_copyFrom_116 (by decide) ?_
  refine j_sipush (v := (156 : Int32)) C dX5_copyFrom_117 (by decide) ?_
  replace e := ob e
  obtain ⟨h58, eh58, e⟩ := e
  refine j_copy C hr kX5_61 knat_Acopy kst_Acopy kini_J10 dX5_copyFrom_120 (Nat.le_of_ble_eq_true rfl) (Nat.le_of_ble_eq_true rfl) eh58 ?_
  refine j_aload_n C dX5_copyFrom_123 rfl rfl ?_
  replace e := ob e
  obtain ⟨x59, ex59, e⟩ := e
  refine j_getr (ci := 5) (RC := RX5) (T := TX5) (N := 12) 10 C rfl klX5 (Nat.le_of_ble_eq_true rfl) kX5_30 rfl dX5_copyFrom_124 ex59 ?_
  refine j_iconst (v := (0 : Int32)) C dX5_copyFrom_127 (by decide) ?_
  refine j_aload_n C dX5_copyFrom_128 rfl rfl ?_
  replace e := ob e
  obtain ⟨x60, ex60, e⟩ := e
  refine j_getr (ci := 5) (RC := RX5) (T := TX5) (N := 12) 10 C rfl klX5 (Nat.le_of_ble_eq_true rfl) kX5_30 rfl dX5_copyFrom_129 ex60 ?_
  refine j_iconst (v := (0 : Int32)) C dX5_copyFrom_132 (by decide) ?_
  refine j_bipush (v := (12 : Int32)) C dX5_copyFrom_133 (by decide) ?_
  replace e := ob e
  obtain ⟨h61, eh61, e⟩ := e
  refine j_copy C hr kX5_61 knat_Acopy kst_Acopy kini_J10 dX5_copyFrom_135 (Nat.le_of_ble_eq_true rfl) (Nat.le_of_ble_eq_true rfl) eh61 ?_
  refine j_aload_n C dX5_copyFrom_138 rfl rfl ?_
  replace e := ob e
  obtain ⟨x62, ex62, e⟩ := e
  refine j_getr (ci := 5) (RC := RX5) (T := TX5) (N := 12) 11 C rfl klX5 (Nat.le_of_ble_eq_true rfl) kX5_33 rfl dX5_copyFrom_139 ex62 ?_
  refine j_iconst (v := (0 : Int32)) C dX5_copyFrom_142 (by decide) ?_
  refine j_aload_n C dX5_copyFrom_143 rfl rfl ?_
  replace e := ob e
  obtain ⟨x63, ex63, e⟩ := e
  refine j_getr (ci := 5) (RC := RX5) (T := TX5) (N := 12) 11 C rfl klX5 (Nat.le_of_ble_eq_true rfl) kX5_33 rfl dX5_copyFrom_144 ex63 ?_
  refine j_iconst (v := (0 : Int32)) C dX5_copyFrom_147 (by decide) ?_
  refine j_bipush (v := (12 : Int32)) C dX5_copyFrom_148 (by decide) ?_
  replace e := ob e
  obtain ⟨h64, eh64, e⟩ := e
  refine j_copy C hr kX5_61 knat_Acopy kst_Acopy kini_J10 dX5_copyFrom_150 (Nat.le_of_ble_eq_true rfl) (Nat.le_of_ble_eq_true rfl) eh64 ?_
  cases e
  exact j_vret C hq dX5_copyFrom_153 ⟨Nat.le_of_ble_eq_true rfl, Nat.le_of_ble_eq_true rfl⟩ ⟨rfl, rfl⟩
/-! BorderBasis$State.contains(II)Z -/
noncomputable def FX5_contains (l0 : Nat) (l1 : Int32) (l2 : Int32) (h : jx_H) : Option (Int32) :=
if l1 < 0 then
 some (0 : Int32)
else
 if (12 : Int32) < l1 then
  some (0 : Int32)
 else
  if l2 < 0 then
   some (0 : Int32)
  else
   (hgr h l0 5 1).bind fun x1 =>
   (hal h .int x1 l1).bind fun x2 =>
   if x2 ≤ l2 then
    some (0 : Int32)
   else
    some (1 : Int32)
def rmX5_contains : Room := { frames := 0, cells := 0, slots := 0, locals := 0 }
set_option maxRecDepth 20000 in
set_option maxHeartbeats 4000000 in
theorem sX5_contains {l0 : Nat} {l1 : Int32} {l2 : Int32} {h : jx_H} {r : Int32}  (e : FX5_contains l0 l1 l2 h = some r) : jx_Ct yX5_contains cX5_contains 3 (some .boolean) rmX5_contains [.ref l0, .int l1, .int l2] h (fun r' h' => some (.int r) = r' ∧ h = h') := by
  refine jx_Ct.of (own := RX5) (by decide) rfl (Nat.le_of_ble_eq_true rfl) (fun X C hq hr hL hN => ?_)
  refine jx_sub (lv' := [(0, .ref l0), (1, .int l1), (2, .int l2)]) [0, 1, 2] rfl ?_
  unfold FX5_contains at e
  refine j_iload_n C dX5_contains_0 rfl rfl ?_
  refine j_if_lt (tgt := 28) C dX5_contains_1 (by decide) (fun c12 => ?_) (fun c12 => ?_)
  · replace e := ifp c12 e
    refine j_iconst (v := (0 : Int32)) C dX5_contains_28 (by decide) ?_
    cases e
    exact j_iret C hq rfl dX5_contains_29 ⟨Nat.le_of_ble_eq_true rfl, Nat.le_of_ble_eq_true rfl⟩ ⟨rfl, rfl⟩
  · replace e := ifn c12 e
    refine j_iload_n C dX5_contains_4 rfl rfl ?_
    refine j_bipush (v := (12 : Int32)) C dX5_contains_5 (by decide) ?_
    refine j_icmp_gt (tgt := 28) C dX5_contains_7 (by decide) (fun c11 => ?_) (fun c11 => ?_)
    · replace e := ifp c11 e
      refine j_iconst (v := (0 : Int32)) C dX5_contains_28 (by decide) ?_
      cases e
      exact j_iret C hq rfl dX5_contains_29 ⟨Nat.le_of_ble_eq_true rfl, Nat.le_of_ble_eq_true rfl⟩ ⟨rfl, rfl⟩
    · replace e := ifn c11 e
      refine j_iload_n C dX5_contains_10 rfl rfl ?_
      refine j_if_lt (tgt := 28) C dX5_contains_11 (by decide) (fun c10 => ?_) (fun c10 => ?_)
      · replace e := ifp c10 e
        refine j_iconst (v := (0 : Int32)) C dX5_contains_28 (by decide) ?_
        cases e
        exact j_iret C hq rfl dX5_contains_29 ⟨Nat.le_of_ble_eq_true rfl, Nat.le_of_ble_eq_true rfl⟩ ⟨rfl, rfl⟩
      · replace e := ifn c10 e
        refine j_iload_n C dX5_contains_14 rfl rfl ?_
        refine j_aload_n C dX5_contains_15 rfl rfl ?_
        replace e := ob e
        obtain ⟨x7, ex7, e⟩ := e
        refine j_getr (ci := 5) (RC := RX5) (T := TX5) (N := 12) 1 C rfl klX5 (Nat.le_of_ble_eq_true rfl) kX5_9 rfl dX5_contains_16 ex7 ?_
        refine j_iload_n C dX5_contains_19 rfl rfl ?_
        replace e := ob e
        obtain ⟨x8, ex8, e⟩ := e
        refine j_iald C dX5_contains_20 ex8 ?_
        refine j_icmp_ge (tgt := 28) C dX5_contains_21 (by decide) (fun c9 => ?_) (fun c9 => ?_)
        · replace e := ifp c9 e
          refine j_iconst (v := (0 : Int32)) C dX5_contains_28 (by decide) ?_
          cases e
          exact j_iret C hq rfl dX5_contains_29 ⟨Nat.le_of_ble_eq_true rfl, Nat.le_of_ble_eq_true rfl⟩ ⟨rfl, rfl⟩
        · replace e := ifn c9 e
          refine j_iconst (v := (1 : Int32)) C dX5_contains_24 (by decide) ?_
          refine j_goto (tgt := 29) C dX5_contains_25 (by decide) ?_
          cases e
          exact j_iret C hq rfl dX5_contains_29 ⟨Nat.le_of_ble_eq_true rfl, Nat.le_of_ble_eq_true rfl⟩ ⟨rfl, rfl⟩
/-! BorderBasis$State.listMonomial(II)V -/
noncomputable def BX5_listMonomial_73 (l0 : Nat) (l1 : Int32) (l2 : Int32) (h : jx_H) : Option (jx_H) :=
(hgi h l0 5 5).bind fun x1 =>
if (13 : Int32) ≤ x1 then
 some h
else
 (hgr h l0 5 6).bind fun x2 =>
 (hgi h l0 5 5).bind fun x3 =>
 (has h .int x2 x3 l1).bind fun h4 =>
 (hgr h4 l0 5 7).bind fun x5 =>
 (hgi h4 l0 5 5).bind fun x6 =>
 (has h4 .int x5 x6 l2).bind fun h7 =>
 (hgi h7 l0 5 5).bind fun x8 =>
 (hp h7 l0 5 5 (.int (x8 + (1 : Int32)))).bind fun h9 =>
 some h9
noncomputable def FX5_listMonomial (l0 : Nat) (l1 : Int32) (l2 : Int32) (h : jx_H) : Option (jx_H) :=
(isO h l0 5).bind fun _ =>
(FX5_contains l0 l1 l2 h).bind fun x12 =>
if x12 = 0 then
 (isO h l0 5).bind fun _ =>
 (FX5_contains l0 (l1 - (1 : Int32)) l2 h).bind fun x14 =>
 if x14 = 0 then
  (isO h l0 5).bind fun _ =>
  (FX5_contains l0 l1 (l2 - (1 : Int32)) h).bind fun x16 =>
  if x16 = 0 then
   some h
  else
   BX5_listMonomial_73 l0 l1 l2 h
 else
  BX5_listMonomial_73 l0 l1 l2 h
else
 (hgi h l0 5 2).bind fun x19 =>
 if (12 : Int32) ≤ x19 then
  some h
 else
  (hgr h l0 5 3).bind fun x20 =>
  (hgi h l0 5 2).bind fun x21 =>
  (has h .int x20 x21 l1).bind fun h22 =>
  (hgr h22 l0 5 4).bind fun x23 =>
  (hgi h22 l0 5 2).bind fun x24 =>
  (has h22 .int x23 x24 l2).bind fun h25 =>
  (hgi h25 l0 5 2).bind fun x26 =>
  (hp h25 l0 5 2 (.int (x26 + (1 : Int32)))).bind fun h27 =>
  some h27
def rmX5_listMonomial : Room := { frames := 1, cells := 0, slots := 0, locals := 22 }
set_option maxRecDepth 20000 in
set_option maxHeartbeats 4000000 in
theorem sX5_listMonomial {l0 : Nat} {l1 : Int32} {l2 : Int32} {h : jx_H} {h9 : jx_H} (e : FX5_listMonomial l0 l1 l2 h = some h9) : jx_Ct yX5_listMonomial cX5_listMonomial 3 none rmX5_listMonomial [.ref l0, .int l1, .int l2] h (fun r' h' => none = r' ∧ h9 = h') := by
  refine jx_Ct.of (own := RX5) (by decide) rfl (Nat.le_of_ble_eq_true rfl) (fun X C hq hr hL hN => ?_)
  refine jx_sub (lv' := [(0, .ref l0), (1, .int l1), (2, .int l2)]) [0, 1, 2] rfl ?_
  have b73 : ∀ (y30 : Nat) (y31 : Int32) (y32 : Int32) (h33 : jx_H), BX5_listMonomial_73 y30 y31 y32 h33 = some h9 → jx_J X 0 0 73 [(0, .ref y30), (1, .int y31), (2, .int y32)] [] h33 := by
    intro y30 y31 y32 h33 e
    unfold BX5_listMonomial_73 at e
    refine j_aload_n C dX5_listMonomial_73 rfl rfl ?_
    replace e := ob e
    obtain ⟨x34, ex34, e⟩ := e
    refine j_geti (ci := 5) (RC := RX5) (T := TX5) (N := 12) 5 C rfl klX5 (Nat.le_of_ble_eq_true rfl) kX5_58 rfl dX5_listMonomial_74 ex34 ?_
    refine j_bipush (v := (13 : Int32)) C dX5_listMonomial_77 (by decide) ?_
    refine j_icmp_ge (tgt := 112) C dX5_listMonomial_79 (by decide) (fun c43 => ?_) (fun c43 => ?_)
    · replace e := ifp c43 e
      cases e
      exact j_vret C hq dX5_listMonomial_112 ⟨Nat.le_of_ble_eq_true rfl, Nat.le_of_ble_eq_true rfl⟩ ⟨rfl, rfl⟩
    · replace e := ifn c43 e
      refine j_aload_n C dX5_listMonomial_82 rfl rfl ?_
      replace e := ob e
      obtain ⟨x35, ex35, e⟩ := e
      refine j_getr (ci := 5) (RC := RX5) (T := TX5) (N := 12) 6 C rfl klX5 (Nat.le_of_ble_eq_true rfl) kX5_21 rfl dX5_listMonomial_83 ex35 ?_
      refine j_aload_n C dX5_listMonomial_86 rfl rfl ?_
      replace e := ob e
      obtain ⟨x36, ex36, e⟩ := e
      refine j_geti (ci := 5) (RC := RX5) (T := TX5) (N := 12) 5 C rfl klX5 (Nat.le_of_ble_eq_true rfl) kX5_58 rfl dX5_listMonomial_87 ex36 ?_
      refine j_iload_n C dX5_listMonomial_90 rfl rfl ?_
      replace e := ob e
      obtain ⟨h37, eh37, e⟩ := e
      refine j_iast C dX5_listMonomial_91 eh37 ?_
      refine j_aload_n C dX5_listMonomial_92 rfl rfl ?_
      replace e := ob e
      obtain ⟨x38, ex38, e⟩ := e
      refine j_getr (ci := 5) (RC := RX5) (T := TX5) (N := 12) 7 C rfl klX5 (Nat.le_of_ble_eq_true rfl) kX5_24 rfl dX5_listMonomial_93 ex38 ?_
      refine j_aload_n C dX5_listMonomial_96 rfl rfl ?_
      replace e := ob e
      obtain ⟨x39, ex39, e⟩ := e
      refine j_geti (ci := 5) (RC := RX5) (T := TX5) (N := 12) 5 C rfl klX5 (Nat.le_of_ble_eq_true rfl) kX5_58 rfl dX5_listMonomial_97 ex39 ?_
      refine j_iload_n C dX5_listMonomial_100 rfl rfl ?_
      replace e := ob e
      obtain ⟨h40, eh40, e⟩ := e
      refine j_iast C dX5_listMonomial_101 eh40 ?_
      refine j_aload_n C dX5_listMonomial_102 rfl rfl ?_
      refine j_dup C dX5_listMonomial_103 rfl ?_
      replace e := ob e
      obtain ⟨x41, ex41, e⟩ := e
      refine j_geti (ci := 5) (RC := RX5) (T := TX5) (N := 12) 5 C rfl klX5 (Nat.le_of_ble_eq_true rfl) kX5_58 rfl dX5_listMonomial_104 ex41 ?_
      refine j_iconst (v := (1 : Int32)) C dX5_listMonomial_107 (by decide) ?_
      refine j_iadd C dX5_listMonomial_108 ?_
      replace e := ob e
      obtain ⟨h42, eh42, e⟩ := e
      refine j_put (ci := 5) (RC := RX5) (T := TX5) (N := 12) (ty0 := tyX5) 5 C rfl klX5 tyX5_ok nmX5 (Nat.le_of_ble_eq_true rfl) kX5_58 rfl rfl rfl rfl dX5_listMonomial_109 eh42 ?_
      cases e
      exact j_vret C hq dX5_listMonomial_112 ⟨Nat.le_of_ble_eq_true rfl, Nat.le_of_ble_eq_true rfl⟩ ⟨rfl, rfl⟩
  unfold FX5_listMonomial at e
  refine j_aload_n C dX5_listMonomial_0 rfl rfl ?_
  refine j_iload_n C dX5_listMonomial_1 rfl rfl ?_
  refine j_iload_n C dX5_listMonomial_2 rfl rfl ?_
  replace e := ob e
  obtain ⟨_, eo44, e⟩ := e
  replace e := ob e
  obtain ⟨x45, ex45, e⟩ := e
  refine j_callV (ci := 5) (RC := RX5) (T := TX5) (N := 12) (As := [.int l1, .int l2]) (b := l0) (na := 2) (st := []) (k1 := 0) (n1 := 0) C hr (sX5_contains ex45) rfl eo44 kX5_67 kim_X5_contains ksel_X5_contains kini_X5 kc_X5_contains (by decide) rfl ⟨(Nat.le_of_ble_eq_true rfl), (Nat.le_of_ble_eq_true rfl)⟩ (Nat.le_of_ble_eq_true rfl) ⟨rfl, rfl, (Nat.le_of_ble_eq_true rfl), (Nat.le_of_ble_eq_true rfl)⟩ dX5_listMonomial_3 ?_
  rintro _ _ ⟨rfl, rfl⟩
  show jx_J X 0 0 6 [(0, .ref l0), (1, .int l1), (2, .int l2)] [.int x45] h
  refine j_if_eq (tgt := 51) C dX5_listMonomial_6 (by decide) (fun c62 => ?_) (fun c62 => ?_)
  · replace e := ifp c62 e
    refine j_aload_n C dX5_listMonomial_51 rfl rfl ?_
    refine j_iload_n C dX5_listMonomial_52 rfl rfl ?_
    refine j_iconst (v := (1 : Int32)) C dX5_listMonomial_53 (by decide) ?_
    refine j_isub C dX5_listMonomial_54 ?_
    refine j_iload_n C dX5_listMonomial_55 rfl rfl ?_
    replace e := ob e
    obtain ⟨_, eo46, e⟩ := e
    replace e := ob e
    obtain ⟨x47, ex47, e⟩ := e
    refine j_callV (ci := 5) (RC := RX5) (T := TX5) (N := 12) (As := [.int (l1 - (1 : Int32)), .int l2]) (b := l0) (na := 2) (st := []) (k1 := 0) (n1 := 0) C hr (sX5_contains ex47) rfl eo46 kX5_67 kim_X5_contains ksel_X5_contains kini_X5 kc_X5_contains (by decide) rfl ⟨(Nat.le_of_ble_eq_true rfl), (Nat.le_of_ble_eq_true rfl)⟩ (Nat.le_of_ble_eq_true rfl) ⟨rfl, rfl, (Nat.le_of_ble_eq_true rfl), (Nat.le_of_ble_eq_true rfl)⟩ dX5_listMonomial_56 ?_
    rintro _ _ ⟨rfl, rfl⟩
    show jx_J X 0 0 59 [(0, .ref l0), (1, .int l1), (2, .int l2)] [.int x47] h
    refine j_if_ne (tgt := 73) C dX5_listMonomial_59 (by decide) (fun c51 => ?_) (fun c51 => ?_)
    · replace e := ifn c51 e
      exact b73 l0 l1 l2 h e
    · replace e := ifp c51 e
      refine j_aload_n C dX5_listMonomial_62 rfl rfl ?_
      refine j_iload_n C dX5_listMonomial_63 rfl rfl ?_
      refine j_iload_n C dX5_listMonomial_64 rfl rfl ?_
      refine j_iconst (v := (1 : Int32)) C dX5_listMonomial_65 (by decide) ?_
      refine j_isub C dX5_listMonomial_66 ?_
      replace e := ob e
      obtain ⟨_, eo48, e⟩ := e
      replace e := ob e
      obtain ⟨x49, ex49, e⟩ := e
      refine j_callV (ci := 5) (RC := RX5) (T := TX5) (N := 12) (As := [.int l1, .int (l2 - (1 : Int32))]) (b := l0) (na := 2) (st := []) (k1 := 0) (n1 := 0) C hr (sX5_contains ex49) rfl eo48 kX5_67 kim_X5_contains ksel_X5_contains kini_X5 kc_X5_contains (by decide) rfl ⟨(Nat.le_of_ble_eq_true rfl), (Nat.le_of_ble_eq_true rfl)⟩ (Nat.le_of_ble_eq_true rfl) ⟨rfl, rfl, (Nat.le_of_ble_eq_true rfl), (Nat.le_of_ble_eq_true rfl)⟩ dX5_listMonomial_67 ?_
      rintro _ _ ⟨rfl, rfl⟩
      show jx_J X 0 0 70 [(0, .ref l0), (1, .int l1), (2, .int l2)] [.int x49] h
      refine j_if_eq (tgt := 112) C dX5_listMonomial_70 (by decide) (fun c50 => ?_) (fun c50 => ?_)
      · replace e := ifp c50 e
        cases e
        exact j_vret C hq dX5_listMonomial_112 ⟨Nat.le_of_ble_eq_true rfl, Nat.le_of_ble_eq_true rfl⟩ ⟨rfl, rfl⟩
      · replace e := ifn c50 e
        exact b73 l0 l1 l2 h e
  · replace e := ifn c62 e
    refine j_aload_n C dX5_listMonomial_9 rfl rfl ?_
    replace e := ob e
    obtain ⟨x52, ex52, e⟩ := e
    refine j_geti (ci := 5) (RC := RX5) (T := TX5) (N := 12) 2 C rfl klX5 (Nat.le_of_ble_eq_true rfl) kX5_55 rfl dX5_listMonomial_10 ex52 ?_
    refine j_bipush (v := (12 : Int32)) C dX5_listMonomial_13 (by decide) ?_
    refine j_icmp_ge (tgt := 112) C dX5_listMonomial_15 (by decide) (fun c61 => ?_) (fun c61 => ?_)
    · replace e := ifp c61 e
      cases e
      exact j_vret C hq dX5_listMonomial_112 ⟨Nat.le_of_ble_eq_true rfl, Nat.le_of_ble_eq_true rfl⟩ ⟨rfl, rfl⟩
    · replace e := ifn c61 e
      refine j_aload_n C dX5_listMonomial_18 rfl rfl ?_
      replace e := ob e
      obtain ⟨x53, ex53, e⟩ := e
      refine j_getr (ci := 5) (RC := RX5) (T := TX5) (N := 12) 3 C rfl klX5 (Nat.le_of_ble_eq_true rfl) kX5_15 rfl dX5_listMonomial_19 ex53 ?_
      refine j_aload_n C dX5_listMonomial_22 rfl rfl ?_
      replace e := ob e
      obtain ⟨x54, ex54, e⟩ := e
      refine j_geti (ci := 5) (RC := RX5) (T := TX5) (N := 12) 2 C rfl klX5 (Nat.le_of_ble_eq_true rfl) kX5_55 rfl dX5_listMonomial_23 ex54 ?_
      refine j_iload_n C dX5_listMonomial_26 rfl rfl ?_
      replace e := ob e
      obtain ⟨h55, eh55, e⟩ := e
      refine j_iast C dX5_listMonomial_27 eh55 ?_
      refine j_aload_n C dX5_listMonomial_28 rfl rfl ?_
      replace e := ob e
      obtain ⟨x56, ex56, e⟩ := e
      refine j_getr (ci := 5) (RC := RX5) (T := TX5) (N := 12) 4 C rfl klX5 (Nat.le_of_ble_eq_true rfl) kX5_18 rfl dX5_listMonomial_29 ex56 ?_
      refine j_aload_n C dX5_listMonomial_32 rfl rfl ?_
      replace e := ob e
      obtain ⟨x57, ex57, e⟩ := e
      refine j_geti (ci := 5) (RC := RX5) (T := TX5) (N := 12) 2 C rfl klX5 (Nat.le_of_ble_eq_true rfl) kX5_55 rfl dX5_listMonomial_33 ex57 ?_
      refine j_iload_n C dX5_listMonomial_36 rfl rfl ?_
      replace e := ob e
      obtain ⟨h58, eh58, e⟩ := e
      refine j_iast C dX5_listMonomial_37 eh58 ?_
      refine j_aload_n C dX5_listMonomial_38 rfl rfl ?_
      refine j_dup C dX5_listMonomial_39 rfl ?_
      replace e := ob e
      obtain ⟨x59, ex59, e⟩ := e
      refine j_geti (ci := 5) (RC := RX5) (T := TX5) (N := 12) 2 C rfl klX5 (Nat.le_of_ble_eq_true rfl) kX5_55 rfl dX5_listMonomial_40 ex59 ?_
      refine j_iconst (v := (1 : Int32)) C dX5_listMonomial_43 (by decide) ?_
      refine j_iadd C dX5_listMonomial_44 ?_
      replace e := ob e
      obtain ⟨h60, eh60, e⟩ := e
      refine j_put (ci := 5) (RC := RX5) (T := TX5) (N := 12) (ty0 := tyX5) 2 C rfl klX5 tyX5_ok nmX5 (Nat.le_of_ble_eq_true rfl) kX5_55 rfl rfl rfl rfl dX5_listMonomial_45 eh60 ?_
      refine j_goto (tgt := 112) C dX5_listMonomial_48 (by decide) ?_
      cases e
      exact j_vret C hq dX5_listMonomial_112 ⟨Nat.le_of_ble_eq_true rfl, Nat.le_of_ble_eq_true rfl⟩ ⟨rfl, rfl⟩
/-! BorderBasis$State.listMonomials()V -/
noncomputable def LX5_listMonomials_20 (l0 : Nat) (l1 : Int32) (l2 : Int32) (h : jx_H) : Option ((Int32 × jx_H) ⊕ ((Int32 × jx_H) ⊕ (jx_H))) :=
if l1 < l2 then
 exL (some (.inl ((l1 + (1 : Int32)), h)))
else
 (isO h l0 5).bind fun _ =>
 (FX5_listMonomial l0 (l1 - l2) l2 h).bind fun h4 =>
 some (.inl ((l2 + (1 : Int32)), h4))
noncomputable def LX5_listMonomials_12 (l0 : Nat) (l1 : Int32) (h : jx_H) : Option ((Int32 × jx_H) ⊕ (jx_H)) :=
if (12 : Int32) < l1 then
 exL (some h)
else
 itr (fun s : Int32 × jx_H => LX5_listMonomials_20 l0 l1 s.1 s.2) ((0 : Int32), h)
noncomputable def FX5_listMonomials (l0 : Nat) (h : jx_H) : Option (jx_H) :=
(hp h l0 5 2 (.int (0 : Int32))).bind fun h1 =>
(hp h1 l0 5 5 (.int (0 : Int32))).bind fun h2 =>
itr (fun s : Int32 × jx_H => LX5_listMonomials_12 l0 s.1 s.2) ((0 : Int32), h2)
def rmX5_listMonomials : Room := { frames := 2, cells := 0, slots := 0, locals := 44 }
set_option maxRecDepth 20000 in
set_option maxHeartbeats 4000000 in
theorem sX5_listMonomials {l0 : Nat} {h : jx_H} {h9 : jx_H} (e : FX5_listMonomials l0 h = some h9) : jx_Ct yX5_listMonomials cX5_listMonomials 3 none rmX5_listMonomials [.ref l0] h (fun r' h' => none = r' ∧ h9 = h') := by
  refine jx_Ct.of (own := RX5) (by decide) rfl (Nat.le_of_ble_eq_true rfl) (fun X C hq hr hL hN => ?_)
  refine jx_sub (lv' := [(0, .ref l0)]) [0] rfl ?_
  unfold FX5_listMonomials at e
  refine j_aload_n C dX5_listMonomials_0 rfl rfl ?_
  refine j_iconst (v := (0 : Int32)) C dX5_listMonomials_1 (by decide) ?_
  replace e := ob e
  obtain ⟨h7, eh7, e⟩ := e
  refine j_put (ci := 5) (RC := RX5) (T := TX5) (N := 12) (ty0 := tyX5) 2 C rfl klX5 tyX5_ok nmX5 (Nat.le_of_ble_eq_true rfl) kX5_55 rfl rfl rfl rfl dX5_listMonomials_2 eh7 ?_
  refine j_aload_n C dX5_listMonomials_5 rfl rfl ?_
  refine j_iconst (v := (0 : Int32)) C dX5_listMonomials_6 (by decide) ?_
  replace e := ob e
  obtain ⟨h8, eh8, e⟩ := e
  refine j_put (ci := 5) (RC := RX5) (T := TX5) (N := 12) (ty0 := tyX5) 5 C rfl klX5 tyX5_ok nmX5 (Nat.le_of_ble_eq_true rfl) kX5_58 rfl rfl rfl rfl dX5_listMonomials_7 eh8 ?_
  refine j_iconst (v := (0 : Int32)) C dX5_listMonomials_10 (by decide) ?_
  refine j_istore_n (lv1 := [(1, .int (0 : Int32)), (0, .ref l0)]) C hL dX5_listMonomials_11 rfl (Nat.le_of_ble_eq_true rfl) rfl ?_
  refine jx_sub (lv' := [(0, .ref l0), (1, .int (0 : Int32))]) [1, 0] rfl ?_
  refine itr_ind (s0 := ((0 : Int32), h8)) (fun s : Int32 × jx_H => jx_J X 0 0 12 [(0, .ref l0), (1, .int s.1)] [] s.2) e ?_
  clear e
  intro s kI3 kT3 e0
  obtain ⟨z9, h10⟩ := s
  obtain ⟨u3, e0_3⟩ := e0
  have e : LX5_listMonomials_12 l0 z9 h10 = some u3 := e0_3
  unfold LX5_listMonomials_12 at e
  refine j_iload_n C dX5_listMonomials_12 rfl rfl ?_
  refine j_bipush (v := (12 : Int32)) C dX5_listMonomials_13 (by decide) ?_
  refine j_icmp_gt (tgt := 45) C dX5_listMonomials_15 (by decide) (fun c16 => ?_) (fun c16 => ?_)
  · replace e := ifp c16 e
    obtain ⟨t_4, e_4, eu_4⟩ := exL_spec e
    obtain rfl := kT3 t_4 (e0_3.trans (congrArg some eu_4))
    replace e := e_4
    cases e
    exact j_vret C hq dX5_listMonomials_45 ⟨Nat.le_of_ble_eq_true rfl, Nat.le_of_ble_eq_true rfl⟩ ⟨rfl, rfl⟩
  · replace e := ifn c16 e
    refine j_iconst (v := (0 : Int32)) C dX5_listMonomials_18 (by decide) ?_
    refine j_istore_n (lv1 := [(2, .int (0 : Int32)), (0, .ref l0), (1, .int z9)]) C hL dX5_listMonomials_19 rfl (Nat.le_of_ble_eq_true rfl) rfl ?_
    refine jx_sub (lv' := [(0, .ref l0), (1, .int z9), (2, .int (0 : Int32))]) [1, 2, 0] rfl ?_
    refine itr_ind (s0 := ((0 : Int32), h10)) (fun s : Int32 × jx_H => jx_J X 0 0 20 [(0, .ref l0), (1, .int z9), (2, .int s.1)] [] s.2) e ?_
    clear e
    intro s kI5 kT5 e0
    obtain ⟨z11, h12⟩ := s
    obtain ⟨u5, e0_5⟩ := e0
    have e : LX5_listMonomials_20 l0 z9 z11 h12 = some u5 := e0_5
    unfold LX5_listMonomials_20 at e
    refine j_iload_n C dX5_listMonomials_20 rfl rfl ?_
    refine j_iload_n C dX5_listMonomials_21 rfl rfl ?_
    refine j_icmp_gt (tgt := 39) C dX5_listMonomials_22 (by decide) (fun c15 => ?_) (fun c15 => ?_)
    · replace e := ifp c15 e
      obtain ⟨t_6, e_6, eu_6⟩ := exL_spec e
      obtain rfl := kT5 t_6 (e0_5.trans (congrArg some eu_6))
      replace e := e_6
      refine j_iinc (v := (z9 + (1 : Int32))) (lv1 := [(1, .int (z9 + (1 : Int32))), (0, .ref l0), (2, .int z11)]) C hL dX5_listMonomials_39 rfl rfl (Nat.le_of_ble_eq_true rfl) rfl ?_
      refine j_goto (tgt := 12) C dX5_listMonomials_42 (by decide) ?_
      obtain rfl := Option.some.inj e
      refine jx_sub (lv' := [(0, .ref l0), (1, .int (z9 + (1 : Int32)))]) [1, 0] rfl ?_
      exact kI3 ((z9 + (1 : Int32)), h12) e0_3
    · replace e := ifn c15 e
      refine j_aload_n C dX5_listMonomials_25 rfl rfl ?_
      refine j_iload_n C dX5_listMonomials_26 rfl rfl ?_
      refine j_iload_n C dX5_listMonomials_27 rfl rfl ?_
      refine j_isub C dX5_listMonomials_28 ?_
      refine j_iload_n C dX5_listMonomials_29 rfl rfl ?_
      replace e := ob e
      obtain ⟨_, eo13, e⟩ := e
      replace e := ob e
      obtain ⟨h14, eh14, e⟩ := e
      refine j_callV (ci := 5) (RC := RX5) (T := TX5) (N := 12) (As := [.int (z9 - z11), .int z11]) (b := l0) (na := 2) (st := []) (k1 := 0) (n1 := 0) C hr (sX5_listMonomial eh14) rfl eo13 kX5_88 kim_X5_listMonomial ksel_X5_listMonomial kini_X5 kc_X5_listMonomial (by decide) rfl ⟨(Nat.le_of_ble_eq_true rfl), (Nat.le_of_ble_eq_true rfl)⟩ (Nat.le_of_ble_eq_true rfl) ⟨rfl, rfl, (Nat.le_of_ble_eq_true rfl), (Nat.le_of_ble_eq_true rfl)⟩ dX5_listMonomials_30 ?_
      rintro _ _ ⟨rfl, rfl⟩
      show jx_J X 0 0 33 [(0, .ref l0), (1, .int z9), (2, .int z11)] [] h14
      refine j_iinc (v := (z11 + (1 : Int32))) (lv1 := [(2, .int (z11 + (1 : Int32))), (0, .ref l0), (1, .int z9)]) C hL dX5_listMonomials_33 rfl rfl (Nat.le_of_ble_eq_true rfl) rfl ?_
      refine j_goto (tgt := 20) C dX5_listMonomials_36 (by decide) ?_
      obtain rfl := Option.some.inj e
      refine jx_sub (lv' := [(0, .ref l0), (1, .int z9), (2, .int (z11 + (1 : Int32)))]) [1, 2, 0] rfl ?_
      exact kI5 ((z11 + (1 : Int32)), h14) e0_5
/-! BorderBasis$State.hasCoefficient(II)Z -/
noncomputable def FX5_hasCoefficient (l0 : Nat) (l1 : Int32) (l2 : Int32) (h : jx_H) : Option (Int32) :=
if l1 < 0 then
 some (0 : Int32)
else
 (hgi h l0 5 5).bind fun x1 =>
 if x1 ≤ l1 then
  some (0 : Int32)
 else
  if l2 < 0 then
   some (0 : Int32)
  else
   (hgi h l0 5 2).bind fun x2 =>
   if x2 ≤ l2 then
    some (0 : Int32)
   else
    some (1 : Int32)
def rmX5_hasCoefficient : Room := { frames := 0, cells := 0, slots := 0, locals := 0 }
set_option maxRecDepth 20000 in
set_option maxHeartbeats 4000000 in
theorem sX5_hasCoefficient {l0 : Nat} {l1 : Int32} {l2 : Int32} {h : jx_H} {r : Int32}  (e : FX5_hasCoefficient l0 l1 l2 h = some r) : jx_Ct yX5_hasCoefficient cX5_hasCoefficient 3 (some .boolean) rmX5_hasCoefficient [.ref l0, .int l1, .int l2] h (fun r' h' => some (.int r) = r' ∧ h = h') := by
  refine jx_Ct.of (own := RX5) (by decide) rfl (Nat.le_of_ble_eq_true rfl) (fun X C hq hr hL hN => ?_)
  refine jx_sub (lv' := [(0, .ref l0), (1, .int l1), (2, .int l2)]) [0, 1, 2] rfl ?_
  unfold FX5_hasCoefficient at e
  refine j_iload_n C dX5_hasCoefficient_0 rfl rfl ?_
  refine j_if_lt (tgt := 28) C dX5_hasCoefficient_1 (by decide) (fun c12 => ?_) (fun c12 => ?_)
  · replace e := ifp c12 e
    refine j_iconst (v := (0 : Int32)) C dX5_hasCoefficient_28 (by decide) ?_
    cases e
    exact j_iret C hq rfl dX5_hasCoefficient_29 ⟨Nat.le_of_ble_eq_true rfl, Nat.le_of_ble_eq_true rfl⟩ ⟨rfl, rfl⟩
  · replace e := ifn c12 e
    refine j_iload_n C dX5_hasCoefficient_4 rfl rfl ?_
    refine j_aload_n C dX5_hasCoefficient_5 rfl rfl ?_
    replace e := ob e
    obtain ⟨x7, ex7, e⟩ := e
    refine j_geti (ci := 5) (RC := RX5) (T := TX5) (N := 12) 5 C rfl klX5 (Nat.le_of_ble_eq_true rfl) kX5_58 rfl dX5_hasCoefficient_6 ex7 ?_
    refine j_icmp_ge (tgt := 28) C dX5_hasCoefficient_9 (by decide) (fun c11 => ?_) (fun c11 => ?_)
    · replace e := ifp c11 e
      refine j_iconst (v := (0 : Int32)) C dX5_hasCoefficient_28 (by decide) ?_
      cases e
      exact j_iret C hq rfl dX5_hasCoefficient_29 ⟨Nat.le_of_ble_eq_true rfl, Nat.le_of_ble_eq_true rfl⟩ ⟨rfl, rfl⟩
    · replace e := ifn c11 e
      refine j_iload_n C dX5_hasCoefficient_12 rfl rfl ?_
      refine j_if_lt (tgt := 28) C dX5_hasCoefficient_13 (by decide) (fun c10 => ?_) (fun c10 => ?_)
      · replace e := ifp c10 e
        refine j_iconst (v := (0 : Int32)) C dX5_hasCoefficient_28 (by decide) ?_
        cases e
        exact j_iret C hq rfl dX5_hasCoefficient_29 ⟨Nat.le_of_ble_eq_true rfl, Nat.le_of_ble_eq_true rfl⟩ ⟨rfl, rfl⟩
      · replace e := ifn c10 e
        refine j_iload_n C dX5_hasCoefficient_16 rfl rfl ?_
        refine j_aload_n C dX5_hasCoefficient_17 rfl rfl ?_
        replace e := ob e
        obtain ⟨x8, ex8, e⟩ := e
        refine j_geti (ci := 5) (RC := RX5) (T := TX5) (N := 12) 2 C rfl klX5 (Nat.le_of_ble_eq_true rfl) kX5_55 rfl dX5_hasCoefficient_18 ex8 ?_
        refine j_icmp_ge (tgt := 28) C dX5_hasCoefficient_21 (by decide) (fun c9 => ?_) (fun c9 => ?_)
        · replace e := ifp c9 e
          refine j_iconst (v := (0 : Int32)) C dX5_hasCoefficient_28 (by decide) ?_
          cases e
          exact j_iret C hq rfl dX5_hasCoefficient_29 ⟨Nat.le_of_ble_eq_true rfl, Nat.le_of_ble_eq_true rfl⟩ ⟨rfl, rfl⟩
        · replace e := ifn c9 e
          refine j_iconst (v := (1 : Int32)) C dX5_hasCoefficient_24 (by decide) ?_
          refine j_goto (tgt := 29) C dX5_hasCoefficient_25 (by decide) ?_
          cases e
          exact j_iret C hq rfl dX5_hasCoefficient_29 ⟨Nat.le_of_ble_eq_true rfl, Nat.le_of_ble_eq_true rfl⟩ ⟨rfl, rfl⟩
/-! BorderBasis$State.setCoefficient(III)V -/
noncomputable def FX5_setCoefficient (l0 : Nat) (l1 : Int32) (l2 : Int32) (l3 : Int32) (h : jx_H) : Option (jx_H) :=
(isO h l0 5).bind fun _ =>
(FX5_hasCoefficient l0 l1 l2 h).bind fun x2 =>
if x2 = 0 then
 some h
else
 (hgr h l0 5 8).bind fun x3 =>
 (has h .int x3 ((l1 * (12 : Int32)) + l2) l3).bind fun h4 =>
 some h4
def rmX5_setCoefficient : Room := { frames := 1, cells := 0, slots := 0, locals := 22 }
set_option maxRecDepth 20000 in
set_option maxHeartbeats 4000000 in
theorem sX5_setCoefficient {l0 : Nat} {l1 : Int32} {l2 : Int32} {l3 : Int32} {h : jx_H} {h9 : jx_H} (e : FX5_setCoefficient l0 l1 l2 l3 h = some h9) : jx_Ct yX5_setCoefficient cX5_setCoefficient 4 none rmX5_setCoefficient [.ref l0, .int l1, .int l2, .int l3] h (fun r' h' => none = r' ∧ h9 = h') := by
  refine jx_Ct.of (own := RX5) (by decide) rfl (Nat.le_of_ble_eq_true rfl) (fun X C hq hr hL hN => ?_)
  refine jx_sub (lv' := [(0, .ref l0), (1, .int l1), (2, .int l2), (3, .int l3)]) [0, 1, 2, 3] rfl ?_
  unfold FX5_setCoefficient at e
  refine j_aload_n C dX5_setCoefficient_0 rfl rfl ?_
  refine j_iload_n C dX5_setCoefficient_1 rfl rfl ?_
  refine j_iload_n C dX5_setCoefficient_2 rfl rfl ?_
  replace e := ob e
  obtain ⟨_, eo6, e⟩ := e
  replace e := ob e
  obtain ⟨x7, ex7, e⟩ := e
  refine j_callV (ci := 5) (RC := RX5) (T := TX5) (N := 12) (As := [.int l1, .int l2]) (b := l0) (na := 2) (st := []) (k1 := 0) (n1 := 0) C hr (sX5_hasCoefficient ex7) rfl eo6 kX5_101 kim_X5_hasCoefficient ksel_X5_hasCoefficient kini_X5 kc_X5_hasCoefficient (by decide) rfl ⟨(Nat.le_of_ble_eq_true rfl), (Nat.le_of_ble_eq_true rfl)⟩ (Nat.le_of_ble_eq_true rfl) ⟨rfl, rfl, (Nat.le_of_ble_eq_true rfl), (Nat.le_of_ble_eq_true rfl)⟩ dX5_setCoefficient_3 ?_
  rintro _ _ ⟨rfl, rfl⟩
  show jx_J X 0 0 6 [(0, .ref l0), (1, .int l1), (2, .int l2), (3, .int l3)] [.int x7] h
  refine j_if_eq (tgt := 21) C dX5_setCoefficient_6 (by decide) (fun c10 => ?_) (fun c10 => ?_)
  · replace e := ifp c10 e
    cases e
    exact j_vret C hq dX5_setCoefficient_21 ⟨Nat.le_of_ble_eq_true rfl, Nat.le_of_ble_eq_true rfl⟩ ⟨rfl, rfl⟩
  · replace e := ifn c10 e
    refine j_aload_n C dX5_setCoefficient_9 rfl rfl ?_
    replace e := ob e
    obtain ⟨x8, ex8, e⟩ := e
    refine j_getr (ci := 5) (RC := RX5) (T := TX5) (N := 12) 8 C rfl klX5 (Nat.le_of_ble_eq_true rfl) kX5_27 rfl dX5_setCoefficient_10 ex8 ?_
    refine j_iload_n C dX5_setCoefficient_13 rfl rfl ?_
    refine j_bipush (v := (12 : Int32)) C dX5_setCoefficient_14 (by decide) ?_
    refine j_imul C dX5_setCoefficient_16 ?_
    refine j_iload_n C dX5_setCoefficient_17 rfl rfl ?_
    refine j_iadd C dX5_setCoefficient_18 ?_
    refine j_iload_n C dX5_setCoefficient_19 rfl rfl ?_
    replace e := ob e
    obtain ⟨h9, eh9, e⟩ := e
    refine j_iast C dX5_setCoefficient_20 eh9 ?_
    cases e
    exact j_vret C hq dX5_setCoefficient_21 ⟨Nat.le_of_ble_eq_true rfl, Nat.le_of_ble_eq_true rfl⟩ ⟨rfl, rfl⟩
/-! BorderBasis$Fitter.fitPoints(LBorderBasis$State;LBorderBasis$State;)V -/
noncomputable def LX0_fitPoints_117 (l0 : Nat) (l2 : Nat) (l3 : Int32) (l4 : Int32) (l5 : Int32) (l6 : Int32) (h : jx_H) : Option ((Int32 × jx_H) ⊕ ((Int32 × jx_H) ⊕ (jx_H))) :=
if l3 ≤ l6 then
 exL (some (.inl ((l4 + (1 : Int32)), h)))
else
 (hgr h l0 0 1).bind fun x22 =>
 (isO h x22 2).bind fun _ =>
 (FX2_at x22 l6 l5 h).bind fun x24 =>
 (isO h l2 5).bind fun _ =>
 (FX5_setCoefficient l2 l4 l6 x24 h).bind fun h26 =>
 some (.inl ((l6 + (1 : Int32)), h26))
noncomputable def LX0_fitPoints_86 (l0 : Nat) (l2 : Nat) (l3 : Int32) (l4 : Int32) (h : jx_H) : Option ((Int32 × jx_H) ⊕ (jx_H)) :=
(hgi h l2 5 5).bind fun x16 =>
if x16 ≤ l4 then
 exL (some h)
else
 (hgr h l2 5 6).bind fun x17 =>
 (hal h .int x17 l4).bind fun x18 =>
 (hgr h l2 5 7).bind fun x19 =>
 (hal h .int x19 l4).bind fun x20 =>
 (FX0_columnOf x18 x20 h).bind fun x21 =>
 itr (fun s : Int32 × jx_H => LX0_fitPoints_117 l0 l2 l3 l4 x21 s.1 s.2) ((0 : Int32), h)
noncomputable def LX0_fitPoints_33 (l0 : Nat) (l2 : Nat) (l3 : Int32) (l4 : Int32) (h : jx_H) : Option ((Int32 × jx_H) ⊕ (jx_H)) :=
if l3 ≤ l4 then
 exL ((isO h l2 5).bind fun _ =>
 (FX5_listMonomials l2 h).bind fun h13 =>
 (hgr h13 l2 5 8).bind fun x14 =>
 (FJ7_fill_53178 x14 (0 : Int32) h13).bind fun h15 =>
 itr (fun s : Int32 × jx_H => LX0_fitPoints_86 l0 l2 l3 s.1 s.2) ((0 : Int32), h15))
else
 (hgr h l0 0 1).bind fun x29 =>
 (hgr h x29 2 3).bind fun x30 =>
 (hal h .int x30 l4).bind fun x31 =>
 (FX0_exponentOfColumn x31 h).bind fun x32 =>
 (hgr h l2 5 1).bind fun x33 =>
 (hal h .int x33 x32).bind fun x34 =>
 (has h .int x33 x32 (x34 + (1 : Int32))).bind fun h35 =>
 some (.inl ((l4 + (1 : Int32)), h35))
noncomputable def FX0_fitPoints (l0 : Nat) (l1 : Nat) (l2 : Nat) (h : jx_H) : Option (jx_H) :=
(isO h l0 0).bind fun _ =>
(FX0_fillValues l0 l1 h).bind fun h2 =>
(hgr h2 l0 0 1).bind fun x3 =>
(hgi h2 l1 5 0).bind fun x4 =>
(isO h2 x3 2).bind fun _ =>
bind2 (FX2_reduceRows x3 x4 h2) fun x6 h7 =>
(isO h7 l2 5).bind fun _ =>
(FX5_copyFrom l2 l1 h7).bind fun h9 =>
(hgr h9 l2 5 1).bind fun x10 =>
(FJ7_fill_53178 x10 (0 : Int32) h9).bind fun h11 =>
itr (fun s : Int32 × jx_H => LX0_fitPoints_33 l0 l2 x6 s.1 s.2) ((0 : Int32), h11)
def rmX0_fitPoints : Room := { frames := 4, cells := 0, slots := 0, locals := 98 }
set_option maxRecDepth 20000 in
set_option maxHeartbeats 4000000 in
theorem sX0_fitPoints {l0 : Nat} {l1 : Nat} {l2 : Nat} {h : jx_H} {h9 : jx_H} (e : FX0_fitPoints l0 l1 l2 h = some h9) : jx_Ct yX0_fitPoints cX0_fitPoints 7 none rmX0_fitPoints [.ref l0, .ref l1, .ref l2] h (fun r' h' => none = r' ∧ h9 = h') := by
  refine jx_Ct.of (own := RX0) (by decide) rfl (Nat.le_of_ble_eq_true rfl) (fun X C hq hr hL hN => ?_)
  refine jx_sub (lv' := [(0, .ref l0), (1, .ref l1), (2, .ref l2)]) [0, 1, 2] rfl ?_
  unfold FX0_fitPoints at e
  refine j_aload_n C dX0_fitPoints_0 rfl rfl ?_
  refine j_aload_n C dX0_fitPoints_1 rfl rfl ?_
  replace e := ob e
  obtain ⟨_, eo37, e⟩ := e
  replace e := ob e
  obtain ⟨h38, eh38, e⟩ := e
  refine j_callV (ci := 0) (RC := RX0) (T := TX0) (N := 2) (As := [.ref l1]) (b := l0) (na := 1) (st := []) (k1 := 0) (n1 := 0) C hr (sX0_fillValues eh38) rfl eo37 kX0_24 kim_X0_fillValues ksel_X0_fillValues kini_X0 kc_X0_fillValues (by decide) rfl ⟨(Nat.le_of_ble_eq_true rfl), (Nat.le_of_ble_eq_true rfl)⟩ (Nat.le_of_ble_eq_true rfl) ⟨rfl, rfl, (Nat.le_of_ble_eq_true rfl), (Nat.le_of_ble_eq_true rfl)⟩ dX0_fitPoints_2 ?_
  rintro _ _ ⟨rfl, rfl⟩
  show jx_J X 0 0 5 [(0, .ref l0), (1, .ref l1), (2, .ref l2)] [] h38
  refine j_aload_n C dX0_fitPoints_5 rfl rfl ?_
  replace e := ob e
  obtain ⟨x39, ex39, e⟩ := e
  refine j_getr (ci := 0) (RC := RX0) (T := TX0) (N := 2) 1 C rfl klX0 (Nat.le_of_ble_eq_true rfl) kX0_14 rfl dX0_fitPoints_6 ex39 ?_
  refine j_aload_n C dX0_fitPoints_9 rfl rfl ?_
  replace e := ob e
  obtain ⟨x40, ex40, e⟩ := e
  refine j_geti (ci := 5) (RC := RX5) (T := TX5) (N := 12) 0 C rfl klX5 (Nat.le_of_ble_eq_true rfl) kX0_28 rfl dX0_fitPoints_10 ex40 ?_
  replace e := ob e
  obtain ⟨_, eo41, e⟩ := e
  replace e := ob2 e
  obtain ⟨x42, h43, ex42, e⟩ := e
  refine j_callV (ci := 2) (RC := RX2) (T := TX2) (N := 7) (As := [.int x40]) (b := x39) (na := 1) (st := []) (k1 := 0) (n1 := 0) C hr (sX2_reduceRows ex42) rfl eo41 kX0_34 kim_X2_reduceRows ksel_X2_reduceRows kini_X2 kc_X2_reduceRows (by decide) rfl ⟨(Nat.le_of_ble_eq_true rfl), (Nat.le_of_ble_eq_true rfl)⟩ (Nat.le_of_ble_eq_true rfl) ⟨rfl, rfl, (Nat.le_of_ble_eq_true rfl), (Nat.le_of_ble_eq_true rfl)⟩ dX0_fitPoints_13 ?_
  rintro _ _ ⟨rfl, rfl⟩
  show jx_J X 0 0 16 [(0, .ref l0), (1, .ref l1), (2, .ref l2)] [.int x42] h43
  refine j_istore_n (lv1 := [(3, .int x42), (0, .ref l0), (1, .ref l1), (2, .ref l2)]) C hL dX0_fitPoints_16 rfl (Nat.le_of_ble_eq_true rfl) rfl ?_
  refine j_aload_n C dX0_fitPoints_17 rfl rfl ?_
  refine j_aload_n C dX0_fitPoints_18 rfl rfl ?_
  replace e := ob e
  obtain ⟨_, eo44, e⟩ := e
  replace e := ob e
  obtain ⟨h45, eh45, e⟩ := e
  refine j_callV (ci := 5) (RC := RX5) (T := TX5) (N := 12) (As := [.ref l1]) (b := l2) (na := 1) (st := []) (k1 := 0) (n1 := 0) C hr (sX5_copyFrom eh45) rfl eo44 kX0_38 kim_X5_copyFrom ksel_X5_copyFrom kini_X5 kc_X5_copyFrom (by decide) rfl ⟨(Nat.le_of_ble_eq_true rfl), (Nat.le_of_ble_eq_true rfl)⟩ (Nat.le_of_ble_eq_true rfl) ⟨rfl, rfl, (Nat.le_of_ble_eq_true rfl), (Nat.le_of_ble_eq_true rfl)⟩ dX0_fitPoints_19 ?_
  rintro _ _ ⟨rfl, rfl⟩
  show jx_J X 0 0 22 [(3, .int x42), (0, .ref l0), (1, .ref l1), (2, .ref l2)] [] h45
  refine j_aload_n C dX0_fitPoints_22 rfl rfl ?_
  replace e := ob e
  obtain ⟨x46, ex46, e⟩ := e
  refine j_getr (ci := 5) (RC := RX5) (T := TX5) (N := 12) 1 C rfl klX5 (Nat.le_of_ble_eq_true rfl) kX0_41 rfl dX0_fitPoints_23 ex46 ?_
  refine j_iconst (v := (0 : Int32)) C dX0_fitPoints_26 (by decide) ?_
  replace e := ob e
  obtain ⟨h47, eh47, e⟩ := e
  refine j_callS (As := [.ref x46, .int (0 : Int32)]) (na := 2) (st := []) (k1 := 0) (n1 := 0) C hr (sJ7_fill_53178 eh47) kX0_45 kst_J7_fill_53178 kini_J7 kc_J7_fill_53178 (by decide) rfl ⟨(Nat.le_of_ble_eq_true rfl), (Nat.le_of_ble_eq_true rfl)⟩ (Nat.le_of_ble_eq_true rfl) ⟨rfl, rfl, (Nat.le_of_ble_eq_true rfl), (Nat.le_of_ble_eq_true rfl)⟩ dX0_fitPoints_27 ?_
  rintro _ _ ⟨rfl, rfl⟩
  show jx_J X 0 0 30 [(3, .int x42), (0, .ref l0), (1, .ref l1), (2, .ref l2)] [] h47
  refine j_iconst (v := (0 : Int32)) C dX0_fitPoints_30 (by decide) ?_
  refine j_istore (lv1 := [(4, .int (0 : Int32)), (3, .int x42), (0, .ref l0), (1, .ref l1), (2, .ref l2)]) C hL dX0_fitPoints_31 (Nat.le_of_ble_eq_true rfl) rfl ?_
  refine jx_sub (lv' := [(0, .ref l0), (2, .ref l2), (3, .int x42), (4, .int (0 : Int32))]) [2, 4, 1, 0] rfl ?_
  refine itr_ind (s0 := ((0 : Int32), h47)) (fun s : Int32 × jx_H => jx_J X 0 0 33 [(0, .ref l0), (2, .ref l2), (3, .int x42), (4, .int s.1)] [] s.2) e ?_
  clear e
  intro s kI4 kT4 e0
  obtain ⟨z48, h49⟩ := s
  obtain ⟨u4, e0_4⟩ := e0
  have e : LX0_fitPoints_33 l0 l2 x42 z48 h49 = some u4 := e0_4
  unfold LX0_fitPoints_33 at e
  refine j_iload C dX0_fitPoints_33 rfl ?_
  refine j_iload_n C dX0_fitPoints_35 rfl rfl ?_
  refine j_icmp_ge (tgt := 71) C dX0_fitPoints_36 (by decide) (fun c78 => ?_) (fun c78 => ?_)
  · replace e := ifp c78 e
    obtain ⟨t_9, e_9, eu_9⟩ := exL_spec e
    obtain rfl := kT4 t_9 (e0_4.trans (congrArg some eu_9))
    replace e := e_9
    refine j_aload_n C dX0_fitPoints_71 rfl rfl ?_
    replace e := ob e
    obtain ⟨_, eo50, e⟩ := e
    replace e := ob e
    obtain ⟨h51, eh51, e⟩ := e
    refine j_callV (ci := 5) (RC := RX5) (T := TX5) (N := 12) (As := []) (b := l2) (na := 0) (st := []) (k1 := 0) (n1 := 0) C hr (sX5_listMonomials eh51) rfl eo50 kX0_57 kim_X5_listMonomials ksel_X5_listMonomials kini_X5 kc_X5_listMonomials (by decide) rfl ⟨(Nat.le_of_ble_eq_true rfl), (Nat.le_of_ble_eq_true rfl)⟩ (Nat.le_of_ble_eq_true rfl) ⟨rfl, rfl, (Nat.le_of_ble_eq_true rfl), (Nat.le_of_ble_eq_true rfl)⟩ dX0_fitPoints_72 ?_
    rintro _ _ ⟨rfl, rfl⟩
    show jx_J X 0 0 75 [(0, .ref l0), (2, .ref l2), (3, .int x42), (4, .int z48)] [] h51
    refine j_aload_n C dX0_fitPoints_75 rfl rfl ?_
    replace e := ob e
    obtain ⟨x52, ex52, e⟩ := e
    refine j_getr (ci := 5) (RC := RX5) (T := TX5) (N := 12) 8 C rfl klX5 (Nat.le_of_ble_eq_true rfl) kX0_60 rfl dX0_fitPoints_76 ex52 ?_
    refine j_iconst (v := (0 : Int32)) C dX0_fitPoints_79 (by decide) ?_
    replace e := ob e
    obtain ⟨h53, eh53, e⟩ := e
    refine j_callS (As := [.ref x52, .int (0 : Int32)]) (na := 2) (st := []) (k1 := 0) (n1 := 0) C hr (sJ7_fill_53178 eh53) kX0_45 kst_J7_fill_53178 kini_J7 kc_J7_fill_53178 (by decide) rfl ⟨(Nat.le_of_ble_eq_true rfl), (Nat.le_of_ble_eq_true rfl)⟩ (Nat.le_of_ble_eq_true rfl) ⟨rfl, rfl, (Nat.le_of_ble_eq_true rfl), (Nat.le_of_ble_eq_true rfl)⟩ dX0_fitPoints_80 ?_
    rintro _ _ ⟨rfl, rfl⟩
    show jx_J X 0 0 83 [(0, .ref l0), (2, .ref l2), (3, .int x42), (4, .int z48)] [] h53
    refine j_iconst (v := (0 : Int32)) C dX0_fitPoints_83 (by decide) ?_
    refine j_istore (lv1 := [(4, .int (0 : Int32)), (0, .ref l0), (2, .ref l2), (3, .int x42)]) C hL dX0_fitPoints_84 (Nat.le_of_ble_eq_true rfl) rfl ?_
    refine jx_sub (lv' := [(0, .ref l0), (2, .ref l2), (3, .int x42), (4, .int (0 : Int32))]) [1, 2, 3, 0] rfl ?_
    refine itr_ind (s0 := ((0 : Int32), h53)) (fun s : Int32 × jx_H => jx_J X 0 0 86 [(0, .ref l0), (2, .ref l2), (3, .int x42), (4, .int s.1)] [] s.2) e ?_
    clear e
    intro s kI5 kT5 e0
    obtain ⟨z54, h55⟩ := s
    obtain ⟨u5, e0_5⟩ := e0
    have e : LX0_fitPoints_86 l0 l2 x42 z54 h55 = some u5 := e0_5
    unfold LX0_fitPoints_86 at e
    refine j_iload C dX0_fitPoints_86 rfl ?_
    refine j_aload_n C dX0_fitPoints_88 rfl rfl ?_
    replace e := ob e
    obtain ⟨x56, ex56, e⟩ := e
    refine j_geti (ci := 5) (RC := RX5) (T := TX5) (N := 12) 5 C rfl klX5 (Nat.le_of_ble_eq_true rfl) kX0_63 rfl dX0_fitPoints_89 ex56 ?_
    refine j_icmp_ge (tgt := 154) C dX0_fitPoints_92 (by decide) (fun c70 => ?_) (fun c70 => ?_)
    · replace e := ifp c70 e
      obtain ⟨t_6, e_6, eu_6⟩ := exL_spec e
      obtain rfl := kT5 t_6 (e0_5.trans (congrArg some eu_6))
      replace e := e_6
      cases e
      exact j_vret C hq dX0_fitPoints_154 ⟨Nat.le_of_ble_eq_true rfl, Nat.le_of_ble_eq_true rfl⟩ ⟨rfl, rfl⟩
    · replace e := ifn c70 e
      refine j_aload_n C dX0_fitPoints_95 rfl rfl ?_
      replace e := ob e
      obtain ⟨x57, ex57, e⟩ := e
      refine j_getr (ci := 5) (RC := RX5) (T := TX5) (N := 12) 6 C rfl klX5 (Nat.le_of_ble_eq_true rfl) kX0_66 rfl dX0_fitPoints_96 ex57 ?_
      refine j_iload C dX0_fitPoints_99 rfl ?_
      replace e := ob e
      obtain ⟨x58, ex58, e⟩ := e
      refine j_iald C dX0_fitPoints_101 ex58 ?_
      refine j_aload_n C dX0_fitPoints_102 rfl rfl ?_
      replace e := ob e
      obtain ⟨x59, ex59, e⟩ := e
      refine j_getr (ci := 5) (RC := RX5) (T := TX5) (N := 12) 7 C rfl klX5 (Nat.le_of_ble_eq_true rfl) kX0_69 rfl dX0_fitPoints_103 ex59 ?_
      refine j_iload C dX0_fitPoints_106 rfl ?_
      replace e := ob e
      obtain ⟨x60, ex60, e⟩ := e
      refine j_iald C dX0_fitPoints_108 ex60 ?_
      replace e := ob e
      obtain ⟨x61, ex61, e⟩ := e
      refine j_callS (As := [.int x58, .int x60]) (na := 2) (st := []) (k1 := 0) (n1 := 0) C hr (sX0_columnOf ex61) kX0_72 kst_X0_columnOf kini_X0 kc_X0_columnOf (by decide) rfl ⟨(Nat.le_of_ble_eq_true rfl), (Nat.le_of_ble_eq_true rfl)⟩ (Nat.le_of_ble_eq_true rfl) ⟨rfl, rfl, (Nat.le_of_ble_eq_true rfl), (Nat.le_of_ble_eq_true rfl)⟩ dX0_fitPoints_109 ?_
      rintro _ _ ⟨rfl, rfl⟩
      show jx_J X 0 0 112 [(0, .ref l0), (2, .ref l2), (3, .int x42), (4, .int z54)] [.int x61] h55
      refine j_istore (lv1 := [(5, .int x61), (0, .ref l0), (2, .ref l2), (3, .int x42), (4, .int z54)]) C hL dX0_fitPoints_112 (Nat.le_of_ble_eq_true rfl) rfl ?_
      refine j_iconst (v := (0 : Int32)) C dX0_fitPoints_114 (by decide) ?_
      refine j_istore (lv1 := [(6, .int (0 : Int32)), (5, .int x61), (0, .ref l0), (2, .ref l2), (3, .int x42), (4, .int z54)]) C hL dX0_fitPoints_115 (Nat.le_of_ble_eq_true rfl) rfl ?_
      refine jx_sub (lv' := [(0, .ref l0), (2, .ref l2), (3, .int x42), (4, .int z54), (5, .int x61), (6, .int (0 : Int32))]) [2, 3, 4, 5, 1, 0] rfl ?_
      refine itr_ind (s0 := ((0 : Int32), h55)) (fun s : Int32 × jx_H => jx_J X 0 0 117 [(0, .ref l0), (2, .ref l2), (3, .int x42), (4, .int z54), (5, .int x61), (6, .int s.1)] [] s.2) e ?_
      clear e
      intro s kI7 kT7 e0
      obtain ⟨z62, h63⟩ := s
      obtain ⟨u7, e0_7⟩ := e0
      have e : LX0_fitPoints_117 l0 l2 x42 z54 x61 z62 h63 = some u7 := e0_7
      unfold LX0_fitPoints_117 at e
      refine j_iload C dX0_fitPoints_117 rfl ?_
      refine j_iload_n C dX0_fitPoints_119 rfl rfl ?_
      refine j_icmp_ge (tgt := 148) C dX0_fitPoints_120 (by decide) (fun c69 => ?_) (fun c69 => ?_)
      · replace e := ifp c69 e
        obtain ⟨t_8, e_8, eu_8⟩ := exL_spec e
        obtain rfl := kT7 t_8 (e0_7.trans (congrArg some eu_8))
        replace e := e_8
        refine j_iinc (v := (z54 + (1 : Int32))) (lv1 := [(4, .int (z54 + (1 : Int32))), (0, .ref l0), (2, .ref l2), (3, .int x42), (5, .int x61), (6, .int z62)]) C hL dX0_fitPoints_148 rfl rfl (Nat.le_of_ble_eq_true rfl) rfl ?_
        refine j_goto (tgt := 86) C dX0_fitPoints_151 (by decide) ?_
        obtain rfl := Option.some.inj e
        refine jx_sub (lv' := [(0, .ref l0), (2, .ref l2), (3, .int x42), (4, .int (z54 + (1 : Int32)))]) [1, 2, 3, 0] rfl ?_
        exact kI5 ((z54 + (1 : Int32)), h63) e0_5
      · replace e := ifn c69 e
        refine j_aload_n C dX0_fitPoints_123 rfl rfl ?_
        refine j_iload C dX0_fitPoints_124 rfl ?_
        refine j_iload C dX0_fitPoints_126 rfl ?_
        refine j_aload_n C dX0_fitPoints_128 rfl rfl ?_
        replace e := ob e
        obtain ⟨x64, ex64, e⟩ := e
        refine j_getr (ci := 0) (RC := RX0) (T := TX0) (N := 2) 1 C rfl klX0 (Nat.le_of_ble_eq_true rfl) kX0_14 rfl dX0_fitPoints_129 ex64 ?_
        refine j_iload C dX0_fitPoints_132 rfl ?_
        refine j_iload C dX0_fitPoints_134 rfl ?_
        replace e := ob e
        obtain ⟨_, eo65, e⟩ := e
        replace e := ob e
        obtain ⟨x66, ex66, e⟩ := e
        refine j_callV (ci := 2) (RC := RX2) (T := TX2) (N := 7) (As := [.int z62, .int x61]) (b := x64) (na := 2) (st := [.int z62, .int z54, .ref l2]) (k1 := 0) (n1 := 0) C hr (sX2_at ex66) rfl eo65 kX0_76 kim_X2_at ksel_X2_at kini_X2 kc_X2_at (by decide) rfl ⟨(Nat.le_of_ble_eq_true rfl), (Nat.le_of_ble_eq_true rfl)⟩ (Nat.le_of_ble_eq_true rfl) ⟨rfl, rfl, (Nat.le_of_ble_eq_true rfl), (Nat.le_of_ble_eq_true rfl)⟩ dX0_fitPoints_136 ?_
        rintro _ _ ⟨rfl, rfl⟩
        show jx_J X 0 0 139 [(0, .ref l0), (2, .ref l2), (3, .int x42), (4, .int z54), (5, .int x61), (6, .int z62)] [.int x66, .int z62, .int z54, .ref l2] h63
        replace e := ob e
        obtain ⟨_, eo67, e⟩ := e
        replace e := ob e
        obtain ⟨h68, eh68, e⟩ := e
        refine j_callV (ci := 5) (RC := RX5) (T := TX5) (N := 12) (As := [.int z54, .int z62, .int x66]) (b := l2) (na := 3) (st := []) (k1 := 0) (n1 := 0) C hr (sX5_setCoefficient eh68) rfl eo67 kX0_79 kim_X5_setCoefficient ksel_X5_setCoefficient kini_X5 kc_X5_setCoefficient (by decide) rfl ⟨(Nat.le_of_ble_eq_true rfl), (Nat.le_of_ble_eq_true rfl)⟩ (Nat.le_of_ble_eq_true rfl) ⟨rfl, rfl, (Nat.le_of_ble_eq_true rfl), (Nat.le_of_ble_eq_true rfl)⟩ dX0_fitPoints_139 ?_
        rintro _ _ ⟨rfl, rfl⟩
        show jx_J X 0 0 142 [(0, .ref l0), (2, .ref l2), (3, .int x42), (4, .int z54), (5, .int x61), (6, .int z62)] [] h68
        refine j_iinc (v := (z62 + (1 : Int32))) (lv1 := [(6, .int (z62 + (1 : Int32))), (0, .ref l0), (2, .ref l2), (3, .int x42), (4, .int z54), (5, .int x61)]) C hL dX0_fitPoints_142 rfl rfl (Nat.le_of_ble_eq_true rfl) rfl ?_
        refine j_goto (tgt := 117) C dX0_fitPoints_145 (by decide) ?_
        obtain rfl := Option.some.inj e
        refine jx_sub (lv' := [(0, .ref l0), (2, .ref l2), (3, .int x42), (4, .int z54), (5, .int x61), (6, .int (z62 + (1 : Int32)))]) [1, 2, 3, 4, 5, 0] rfl ?_
        exact kI7 ((z62 + (1 : Int32)), h68) e0_7
  · replace e := ifn c78 e
    refine j_aload_n C dX0_fitPoints_39 rfl rfl ?_
    replace e := ob e
    obtain ⟨x71, ex71, e⟩ := e
    refine j_getr (ci := 0) (RC := RX0) (T := TX0) (N := 2) 1 C rfl klX0 (Nat.le_of_ble_eq_true rfl) kX0_14 rfl dX0_fitPoints_40 ex71 ?_
    replace e := ob e
    obtain ⟨x72, ex72, e⟩ := e
    refine j_getr (ci := 2) (RC := RX2) (T := TX2) (N := 7) 3 C rfl klX2 (Nat.le_of_ble_eq_true rfl) kX0_51 rfl dX0_fitPoints_43 ex72 ?_
    refine j_iload C dX0_fitPoints_46 rfl ?_
    replace e := ob e
    obtain ⟨x73, ex73, e⟩ := e
    refine j_iald C dX0_fitPoints_48 ex73 ?_
    replace e := ob e
    obtain ⟨x74, ex74, e⟩ := e
    refine j_callS (As := [.int x73]) (na := 1) (st := []) (k1 := 0) (n1 := 0) C hr (sX0_exponentOfColumn ex74) kX0_54 kst_X0_exponentOfColumn kini_X0 kc_X0_exponentOfColumn (by decide) rfl ⟨(Nat.le_of_ble_eq_true rfl), (Nat.le_of_ble_eq_true rfl)⟩ (Nat.le_of_ble_eq_true rfl) ⟨rfl, rfl, (Nat.le_of_ble_eq_true rfl), (Nat.le_of_ble_eq_true rfl)⟩ dX0_fitPoints_49 ?_
    rintro _ _ ⟨rfl, rfl⟩
    show jx_J X 0 0 52 [(0, .ref l0), (2, .ref l2), (3, .int x42), (4, .int z48)] [.int x74] h49
    refine j_istore (lv1 := [(5, .int x74), (0, .ref l0), (2, .ref l2), (3, .int x42), (4, .int z48)]) C hL dX0_fitPoints_52 (Nat.le_of_ble_eq_true rfl) rfl ?_
    refine j_aload_n C dX0_fitPoints_54 rfl rfl ?_
    replace e := ob e
    obtain ⟨x75, ex75, e⟩ := e
    refine j_getr (ci := 5) (RC := RX5) (T := TX5) (N := 12) 1 C rfl klX5 (Nat.le_of_ble_eq_true rfl) kX0_41 rfl dX0_fitPoints_55 ex75 ?_
    refine j_iload C dX0_fitPoints_58 rfl ?_
    refine j_dup2 C dX0_fitPoints_60 rfl rfl ?_
    replace e := ob e
    obtain ⟨x76, ex76, e⟩ := e
    refine j_iald C dX0_fitPoints_61 ex76 ?_
    refine j_iconst (v := (1 : Int32)) C dX0_fitPoints_62 (by decide) ?_
    refine j_iadd C dX0_fitPoints_63 ?_
    replace e := ob e
    obtain ⟨h77, eh77, e⟩ := e
    refine j_iast C dX0_fitPoints_64 eh77 ?_
    refine j_iinc (v := (z48 + (1 : Int32))) (lv1 := [(4, .int (z48 + (1 : Int32))), (5, .int x74), (0, .ref l0), (2, .ref l2), (3, .int x42)]) C hL dX0_fitPoints_65 rfl rfl (Nat.le_of_ble_eq_true rfl) rfl ?_
    refine j_goto (tgt := 33) C dX0_fitPoints_68 (by decide) ?_
    obtain rfl := Option.some.inj e
    refine jx_sub (lv' := [(0, .ref l0), (2, .ref l2), (3, .int x42), (4, .int (z48 + (1 : Int32)))]) [2, 3, 4, 0] rfl ?_
    exact kI4 ((z48 + (1 : Int32)), h77) e0_4
/-! BorderBasis$History.<init>()V -/
noncomputable def FX1_init (l0 : Nat) (h : jx_H) : Option (jx_H) :=
(hnq h "BorderBasis$State" (8 : Int32)).bind fun h1 =>
(hp h1 l0 1 0 (.ref h.1)).bind fun h2 =>
some h2
def rmX1_init : Room := { frames := 1, cells := 1, slots := 8, locals := 20 }
set_option maxRecDepth 20000 in
set_option maxHeartbeats 4000000 in
theorem sX1_init {l0 : Nat} {h : jx_H} {h9 : jx_H} (e : FX1_init l0 h = some h9) : jx_Ct yX1_init cX1_init 1 none rmX1_init [.ref l0] h (fun r' h' => none = r' ∧ h9 = h') := by
  refine jx_Ct.of (own := RX1) (by decide) rfl (Nat.le_of_ble_eq_true rfl) (fun X C hq hr hL hN => ?_)
  refine jx_sub (lv' := [(0, .ref l0)]) [0] rfl ?_
  unfold FX1_init at e
  refine j_aload_n C dX1_init_0 rfl rfl ?_
  refine j_objInit C hr kX1_3 kim_Oinit kc_Oinit dX1_init_1 (Nat.le_of_ble_eq_true rfl) (Nat.le_of_ble_eq_true rfl) ?_
  refine j_aload_n C dX1_init_4 rfl rfl ?_
  refine j_bipush (v := (8 : Int32)) C dX1_init_5 (by decide) ?_
  replace e := ob e
  obtain ⟨h3, eh3, e⟩ := e
  refine j_newq (cn := "BorderBasis$State") (N := 8) C hr kX1_9 (Or.inl rfl) dX1_init_7 eh3 (Nat.le_of_ble_eq_true rfl) ⟨Nat.le_of_ble_eq_true rfl, Nat.le_of_ble_eq_true rfl⟩ ?_
  refine jx_widen (k1 := 1) (n1 := 8) (Nat.le_of_ble_eq_true rfl) (Nat.le_of_ble_eq_true rfl) ?_
  replace e := ob e
  obtain ⟨h4, eh4, e⟩ := e
  refine j_putF (ci := 1) (RC := RX1) (T := TX1) (N := 3) (ty0 := tyX1) 0 C rfl klX1 tyX1_ok nmX1 (Nat.le_of_ble_eq_true rfl) kX1_11 rfl rfl hN rfl rfl rfl rfl dX1_init_10 eh4 ?_
  cases e
  exact j_vret C hq dX1_init_13 ⟨Nat.le_of_ble_eq_true rfl, Nat.le_of_ble_eq_true rfl⟩ ⟨rfl, rfl⟩
/-! BorderBasis$State.reset()V -/
noncomputable def FX5_reset (l0 : Nat) (h : jx_H) : Option (jx_H) :=
(hp h l0 5 0 (.int (31 : Int32))).bind fun h1 =>
(hgr h1 l0 5 1).bind fun x2 =>
(FJ7_fill_53178 x2 (0 : Int32) h1).bind fun h3 =>
(hgr h3 l0 5 1).bind fun x4 =>
(has h3 .int x4 (0 : Int32) (1 : Int32)).bind fun h5 =>
(hgr h5 l0 5 8).bind fun x6 =>
(FJ7_fill_53178 x6 (0 : Int32) h5).bind fun h7 =>
(hp h7 l0 5 9 (.int (0 : Int32))).bind fun h8 =>
(isO h8 l0 5).bind fun _ =>
(FX5_listMonomials l0 h8).bind fun h10 =>
some h10
def rmX5_reset : Room := { frames := 3, cells := 0, slots := 0, locals := 66 }
set_option maxRecDepth 20000 in
set_option maxHeartbeats 4000000 in
theorem sX5_reset {l0 : Nat} {h : jx_H} {h9 : jx_H} (e : FX5_reset l0 h = some h9) : jx_Ct yX5_reset cX5_reset 1 none rmX5_reset [.ref l0] h (fun r' h' => none = r' ∧ h9 = h') := by
  refine jx_Ct.of (own := RX5) (by decide) rfl (Nat.le_of_ble_eq_true rfl) (fun X C hq hr hL hN => ?_)
  refine jx_sub (lv' := [(0, .ref l0)]) [0] rfl ?_
  unfold FX5_reset at e
  refine j_aload_n C dX5_reset_0 rfl rfl ?_
  refine j_bipush (v := (31 : Int32)) C dX5_reset_1 (by decide) ?_
  replace e := ob e
  obtain ⟨h11, eh11, e⟩ := e
  refine j_put (ci := 5) (RC := RX5) (T := TX5) (N := 12) (ty0 := tyX5) 0 C rfl klX5 tyX5_ok nmX5 (Nat.le_of_ble_eq_true rfl) kX5_39 rfl rfl rfl rfl dX5_reset_3 eh11 ?_
  refine j_aload_n C dX5_reset_6 rfl rfl ?_
  replace e := ob e
  obtain ⟨x12, ex12, e⟩ := e
  refine j_getr (ci := 5) (RC := RX5) (T := TX5) (N := 12) 1 C rfl klX5 (Nat.le_of_ble_eq_true rfl) kX5_9 rfl dX5_reset_7 ex12 ?_
  refine j_iconst (v := (0 : Int32)) C dX5_reset_10 (by decide) ?_
  replace e := ob e
  obtain ⟨h13, eh13, e⟩ := e
  refine j_callS (As := [.ref x12, .int (0 : Int32)]) (na := 2) (st := []) (k1 := 0) (n1 := 0) C hr (sJ7_fill_53178 eh13) kX5_43 kst_J7_fill_53178 kini_J7 kc_J7_fill_53178 (by decide) rfl ⟨(Nat.le_of_ble_eq_true rfl), (Nat.le_of_ble_eq_true rfl)⟩ (Nat.le_of_ble_eq_true rfl) ⟨rfl, rfl, (Nat.le_of_ble_eq_true rfl), (Nat.le_of_ble_eq_true rfl)⟩ dX5_reset_11 ?_
  rintro _ _ ⟨rfl, rfl⟩
  show jx_J X 0 0 14 [(0, .ref l0)] [] h13
  refine j_aload_n C dX5_reset_14 rfl rfl ?_
  replace e := ob e
  obtain ⟨x14, ex14, e⟩ := e
  refine j_getr (ci := 5) (RC := RX5) (T := TX5) (N := 12) 1 C rfl klX5 (Nat.le_of_ble_eq_true rfl) kX5_9 rfl dX5_reset_15 ex14 ?_
  refine j_iconst (v := (0 : Int32)) C dX5_reset_18 (by decide) ?_
  refine j_iconst (v := (1 : Int32)) C dX5_reset_19 (by decide) ?_
  replace e := ob e
  obtain ⟨h15, eh15, e⟩ := e
  refine j_iast C dX5_reset_20 eh15 ?_
  refine j_aload_n C dX5_reset_21 rfl rfl ?_
  replace e := ob e
  obtain ⟨x16, ex16, e⟩ := e
  refine j_getr (ci := 5) (RC := RX5) (T := TX5) (N := 12) 8 C rfl klX5 (Nat.le_of_ble_eq_true rfl) kX5_27 rfl dX5_reset_22 ex16 ?_
  refine j_iconst (v := (0 : Int32)) C dX5_reset_25 (by decide) ?_
  replace e := ob e
  obtain ⟨h17, eh17, e⟩ := e
  refine j_callS (As := [.ref x16, .int (0 : Int32)]) (na := 2) (st := []) (k1 := 0) (n1 := 0) C hr (sJ7_fill_53178 eh17) kX5_43 kst_J7_fill_53178 kini_J7 kc_J7_fill_53178 (by decide) rfl ⟨(Nat.le_of_ble_eq_true rfl), (Nat.le_of_ble_eq_true rfl)⟩ (Nat.le_of_ble_eq_true rfl) ⟨rfl, rfl, (Nat.le_of_ble_eq_true rfl), (Nat.le_of_ble_eq_true rfl)⟩ dX5_reset_26 ?_
  rintro _ _ ⟨rfl, rfl⟩
  show jx_J X 0 0 29 [(0, .ref l0)] [] h17
  refine j_aload_n C dX5_reset_29 rfl rfl ?_
  refine j_iconst (v := (0 : Int32)) C dX5_reset_30 (by decide) ?_
  replace e := ob e
  obtain ⟨h18, eh18, e⟩ := e
  refine j_put (ci := 5) (RC := RX5) (T := TX5) (N := 12) (ty0 := tyX5) 9 C rfl klX5 tyX5_ok nmX5 (Nat.le_of_ble_eq_true rfl) kX5_49 rfl rfl rfl rfl dX5_reset_31 eh18 ?_
  refine j_aload_n C dX5_reset_34 rfl rfl ?_
  replace e := ob e
  obtain ⟨_, eo19, e⟩ := e
  replace e := ob e
  obtain ⟨h20, eh20, e⟩ := e
  refine j_callV (ci := 5) (RC := RX5) (T := TX5) (N := 12) (As := []) (b := l0) (na := 0) (st := []) (k1 := 0) (n1 := 0) C hr (sX5_listMonomials eh20) rfl eo19 kX5_52 kim_X5_listMonomials ksel_X5_listMonomials kini_X5 kc_X5_listMonomials (by decide) rfl ⟨(Nat.le_of_ble_eq_true rfl), (Nat.le_of_ble_eq_true rfl)⟩ (Nat.le_of_ble_eq_true rfl) ⟨rfl, rfl, (Nat.le_of_ble_eq_true rfl), (Nat.le_of_ble_eq_true rfl)⟩ dX5_reset_35 ?_
  rintro _ _ ⟨rfl, rfl⟩
  show jx_J X 0 0 38 [(0, .ref l0)] [] h20
  cases e
  exact j_vret C hq dX5_reset_38 ⟨Nat.le_of_ble_eq_true rfl, Nat.le_of_ble_eq_true rfl⟩ ⟨rfl, rfl⟩
/-! BorderBasis$State.<init>()V -/
noncomputable def FX5_init (l0 : Nat) (h : jx_H) : Option (jx_H) :=
(hna h .int (13 : Int32)).bind fun h1 =>
(hp h1 l0 5 1 (.ref h.1)).bind fun h2 =>
(hna h2 .int (12 : Int32)).bind fun h3 =>
(hp h3 l0 5 3 (.ref h2.1)).bind fun h4 =>
(hna h4 .int (12 : Int32)).bind fun h5 =>
(hp h5 l0 5 4 (.ref h4.1)).bind fun h6 =>
(hna h6 .int (13 : Int32)).bind fun h7 =>
(hp h7 l0 5 6 (.ref h6.1)).bind fun h8 =>
(hna h8 .int (13 : Int32)).bind fun h9 =>
(hp h9 l0 5 7 (.ref h8.1)).bind fun h10 =>
(hna h10 .int (156 : Int32)).bind fun h11 =>
(hp h11 l0 5 8 (.ref h10.1)).bind fun h12 =>
(hna h12 .int (12 : Int32)).bind fun h13 =>
(hp h13 l0 5 10 (.ref h12.1)).bind fun h14 =>
(hna h14 .int (12 : Int32)).bind fun h15 =>
(hp h15 l0 5 11 (.ref h14.1)).bind fun h16 =>
(isO h16 l0 5).bind fun _ =>
(FX5_reset l0 h16).bind fun h18 =>
some h18
def rmX5_init : Room := { frames := 4, cells := 8, slots := 243, locals := 86 }
set_option maxRecDepth 20000 in
set_option maxHeartbeats 4000000 in
theorem sX5_init {l0 : Nat} {h : jx_H} {h9 : jx_H} (e : FX5_init l0 h = some h9) : jx_Ct yX5_init cX5_init 1 none rmX5_init [.ref l0] h (fun r' h' => none = r' ∧ h9 = h') := by
  refine jx_Ct.of (own := RX5) (by decide) rfl (Nat.le_of_ble_eq_true rfl) (fun X C hq hr hL hN => ?_)
  refine jx_sub (lv' := [(0, .ref l0)]) [0] rfl ?_
  unfold FX5_init at e
  refine j_aload_n C dX5_init_0 rfl rfl ?_
  refine j_objInit C hr kX5_3 kim_Oinit kc_Oinit dX5_init_1 (Nat.le_of_ble_eq_true rfl) (Nat.le_of_ble_eq_true rfl) ?_
  refine j_aload_n C dX5_init_4 rfl rfl ?_
  refine j_bipush (v := (13 : Int32)) C dX5_init_5 (by decide) ?_
  replace e := ob e
  obtain ⟨h19, eh19, e⟩ := e
  refine j_newa (ty := .int) (N := 13) C hr kac_int rfl rfl (Nat.le_of_ble_eq_true rfl) dX5_init_7 eh19 (Nat.le_of_ble_eq_true rfl) ⟨Nat.le_of_ble_eq_true rfl, Nat.le_of_ble_eq_true rfl⟩ ?_
  refine jx_widen (k1 := 1) (n1 := 13) (Nat.le_of_ble_eq_true rfl) (Nat.le_of_ble_eq_true rfl) ?_
  replace e := ob e
  obtain ⟨h20, eh20, e⟩ := e
  refine j_putF (ci := 5) (RC := RX5) (T := TX5) (N := 12) (ty0 := tyX5) 1 C rfl klX5 tyX5_ok nmX5 (Nat.le_of_ble_eq_true rfl) kX5_9 rfl rfl hN rfl rfl rfl rfl dX5_init_9 eh20 ?_
  refine j_aload_n C dX5_init_12 rfl rfl ?_
  refine j_bipush (v := (12 : Int32)) C dX5_init_13 (by decide) ?_
  replace e := ob e
  obtain ⟨h21, eh21, e⟩ := e
  refine j_newa (ty := .int) (N := 12) C hr kac_int rfl rfl (Nat.le_of_ble_eq_true rfl) dX5_init_15 eh21 (Nat.le_of_ble_eq_true rfl) ⟨Nat.le_of_ble_eq_true rfl, Nat.le_of_ble_eq_true rfl⟩ ?_
  refine jx_widen (k1 := 2) (n1 := 25) (Nat.le_of_ble_eq_true rfl) (Nat.le_of_ble_eq_true rfl) ?_
  replace e := ob e
  obtain ⟨h22, eh22, e⟩ := e
  refine j_putF (ci := 5) (RC := RX5) (T := TX5) (N := 12) (ty0 := tyX5) 3 C rfl klX5 tyX5_ok nmX5 (Nat.le_of_ble_eq_true rfl) kX5_15 rfl rfl hN rfl rfl rfl rfl dX5_init_17 eh22 ?_
  refine j_aload_n C dX5_init_20 rfl rfl ?_
  refine j_bipush (v := (12 : Int32)) C dX5_init_21 (by decide) ?_
  replace e := ob e
  obtain ⟨h23, eh23, e⟩ := e
  refine j_newa (ty := .int) (N := 12) C hr kac_int rfl rfl (Nat.le_of_ble_eq_true rfl) dX5_init_23 eh23 (Nat.le_of_ble_eq_true rfl) ⟨Nat.le_of_ble_eq_true rfl, Nat.le_of_ble_eq_true rfl⟩ ?_
  refine jx_widen (k1 := 3) (n1 := 37) (Nat.le_of_ble_eq_true rfl) (Nat.le_of_ble_eq_true rfl) ?_
  replace e := ob e
  obtain ⟨h24, eh24, e⟩ := e
  refine j_putF (ci := 5) (RC := RX5) (T := TX5) (N := 12) (ty0 := tyX5) 4 C rfl klX5 tyX5_ok nmX5 (Nat.le_of_ble_eq_true rfl) kX5_18 rfl rfl hN rfl rfl rfl rfl dX5_init_25 eh24 ?_
  refine j_aload_n C dX5_init_28 rfl rfl ?_
  refine j_bipush (v := (13 : Int32)) C dX5_init_29 (by decide) ?_
  replace e := ob e
  obtain ⟨h25, eh25, e⟩ := e
  refine j_newa (ty := .int) (N := 13) C hr kac_int rfl rfl (Nat.le_of_ble_eq_true rfl) dX5_init_31 eh25 (Nat.le_of_ble_eq_true rfl) ⟨Nat.le_of_ble_eq_true rfl, Nat.le_of_ble_eq_true rfl⟩ ?_
  refine jx_widen (k1 := 4) (n1 := 50) (Nat.le_of_ble_eq_true rfl) (Nat.le_of_ble_eq_true rfl) ?_
  replace e := ob e
  obtain ⟨h26, eh26, e⟩ := e
  refine j_putF (ci := 5) (RC := RX5) (T := TX5) (N := 12) (ty0 := tyX5) 6 C rfl klX5 tyX5_ok nmX5 (Nat.le_of_ble_eq_true rfl) kX5_21 rfl rfl hN rfl rfl rfl rfl dX5_init_33 eh26 ?_
  refine j_aload_n C dX5_init_36 rfl rfl ?_
  refine j_bipush (v := (13 : Int32)) C dX5_init_37 (by decide) ?_
  replace e := ob e
  obtain ⟨h27, eh27, e⟩ := e
  refine j_newa (ty := .int) (N := 13) C hr kac_int rfl rfl (Nat.le_of_ble_eq_true rfl) dX5_init_39 eh27 (Nat.le_of_ble_eq_true rfl) ⟨Nat.le_of_ble_eq_true rfl, Nat.le_of_ble_eq_true rfl⟩ ?_
  refine jx_widen (k1 := 5) (n1 := 63) (Nat.le_of_ble_eq_true rfl) (Nat.le_of_ble_eq_true rfl) ?_
  replace e := ob e
  obtain ⟨h28, eh28, e⟩ := e
  refine j_putF (ci := 5) (RC := RX5) (T := TX5) (N := 12) (ty0 := tyX5) 7 C rfl klX5 tyX5_ok nmX5 (Nat.le_of_ble_eq_true rfl) kX5_24 rfl rfl hN rfl rfl rfl rfl dX5_init_41 eh28 ?_
  refine j_aload_n C dX5_init_44 rfl rfl ?_
  refine j_sipush (v := (156 : Int32)) C dX5_init_45 (by decide) ?_
  replace e := ob e
  obtain ⟨h29, eh29, e⟩ := e
  refine j_newa (ty := .int) (N := 156) C hr kac_int rfl rfl (Nat.le_of_ble_eq_true rfl) dX5_init_48 eh29 (Nat.le_of_ble_eq_true rfl) ⟨Nat.le_of_ble_eq_true rfl, Nat.le_of_ble_eq_true rfl⟩ ?_
  refine jx_widen (k1 := 6) (n1 := 219) (Nat.le_of_ble_eq_true rfl) (Nat.le_of_ble_eq_true rfl) ?_
  replace e := ob e
  obtain ⟨h30, eh30, e⟩ := e
  refine j_putF (ci := 5) (RC := RX5) (T := TX5) (N := 12) (ty0 := tyX5) 8 C rfl klX5 tyX5_ok nmX5 (Nat.le_of_ble_eq_true rfl) kX5_27 rfl rfl hN rfl rfl rfl rfl dX5_init_50 eh30 ?_
  refine j_aload_n C dX5_init_53 rfl rfl ?_
  refine j_bipush (v := (12 : Int32)) C dX5_init_54 (by decide) ?_
  replace e := ob e
  obtain ⟨h31, eh31, e⟩ := e
  refine j_newa (ty := .int) (N := 12) C hr kac_int rfl rfl (Nat.le_of_ble_eq_true rfl) dX5_init_56 eh31 (Nat.le_of_ble_eq_true rfl) ⟨Nat.le_of_ble_eq_true rfl, Nat.le_of_ble_eq_true rfl⟩ ?_
  refine jx_widen (k1 := 7) (n1 := 231) (Nat.le_of_ble_eq_true rfl) (Nat.le_of_ble_eq_true rfl) ?_
  replace e := ob e
  obtain ⟨h32, eh32, e⟩ := e
  refine j_putF (ci := 5) (RC := RX5) (T := TX5) (N := 12) (ty0 := tyX5) 10 C rfl klX5 tyX5_ok nmX5 (Nat.le_of_ble_eq_true rfl) kX5_30 rfl rfl hN rfl rfl rfl rfl dX5_init_58 eh32 ?_
  refine j_aload_n C dX5_init_61 rfl rfl ?_
  refine j_bipush (v := (12 : Int32)) C dX5_init_62 (by decide) ?_
  replace e := ob e
  obtain ⟨h33, eh33, e⟩ := e
  refine j_newa (ty := .int) (N := 12) C hr kac_int rfl rfl (Nat.le_of_ble_eq_true rfl) dX5_init_64 eh33 (Nat.le_of_ble_eq_true rfl) ⟨Nat.le_of_ble_eq_true rfl, Nat.le_of_ble_eq_true rfl⟩ ?_
  refine jx_widen (k1 := 8) (n1 := 243) (Nat.le_of_ble_eq_true rfl) (Nat.le_of_ble_eq_true rfl) ?_
  replace e := ob e
  obtain ⟨h34, eh34, e⟩ := e
  refine j_putF (ci := 5) (RC := RX5) (T := TX5) (N := 12) (ty0 := tyX5) 11 C rfl klX5 tyX5_ok nmX5 (Nat.le_of_ble_eq_true rfl) kX5_33 rfl rfl hN rfl rfl rfl rfl dX5_init_66 eh34 ?_
  refine j_aload_n C dX5_init_69 rfl rfl ?_
  replace e := ob e
  obtain ⟨_, eo35, e⟩ := e
  replace e := ob e
  obtain ⟨h36, eh36, e⟩ := e
  refine j_callV (ci := 5) (RC := RX5) (T := TX5) (N := 12) (As := []) (b := l0) (na := 0) (st := []) (k1 := 8) (n1 := 243) C hr (sX5_reset eh36) rfl eo35 kX5_36 kim_X5_reset ksel_X5_reset kini_X5 kc_X5_reset (by decide) rfl ⟨(Nat.le_of_ble_eq_true rfl), (Nat.le_of_ble_eq_true rfl)⟩ (Nat.le_of_ble_eq_true rfl) ⟨rfl, rfl, (Nat.le_of_ble_eq_true rfl), (Nat.le_of_ble_eq_true rfl)⟩ dX5_init_70 ?_
  rintro _ _ ⟨rfl, rfl⟩
  show jx_J X 8 243 73 [(0, .ref l0)] [] h36
  cases e
  exact j_vret C hq dX5_init_73 ⟨Nat.le_of_ble_eq_true rfl, Nat.le_of_ble_eq_true rfl⟩ ⟨rfl, rfl⟩
/-! BorderBasis$History.remember(LBorderBasis$State;)V -/
noncomputable def BX1_remember_28 (l0 : Nat) (l1 : Nat) (h : jx_H) : Option (jx_H) :=
(hgr h l0 1 0).bind fun x1 =>
(hgi h l0 1 1).bind fun x2 =>
(hql h "BorderBasis$State" x1 x2).bind fun x3 =>
oc x3 none fun q4 =>
(isO h q4 5).bind fun _ =>
(FX5_copyFrom q4 l1 h).bind fun h6 =>
(hgi h6 l0 1 1).bind fun x7 =>
(hp h6 l0 1 1 (.int ((x7 + (1 : Int32)) - (x7 + (1 : Int32)) / (8 : Int32) * (8 : Int32)))).bind fun h8 =>
(hgi h8 l0 1 2).bind fun x9 =>
(hp h8 l0 1 2 (.int (if (8 : Int32) < (x9 + (1 : Int32)) then (8 : Int32) else (x9 + (1 : Int32))))).bind fun h10 =>
some h10
noncomputable def FX1_remember (l0 : Nat) (l1 : Nat) (h : jx_H) : Option (jx_H) :=
(hgr h l0 1 0).bind fun x11 =>
(hgi h l0 1 1).bind fun x12 =>
(hql h "BorderBasis$State" x11 x12).bind fun x13 =>
oc x13 (
 (hgr h l0 1 0).bind fun x15 =>
 (hgi h l0 1 1).bind fun x16 =>
 (hnw h 5 fsX5).bind fun h17 =>
 (FX5_init h.1 h17).bind fun h18 =>
 (hqs h18 "BorderBasis$State" 5 x15 x16 h.1).bind fun h19 =>
 BX1_remember_28 l0 l1 h19) fun q14 =>
 BX1_remember_28 l0 l1 h
def rmX1_remember : Room := { frames := 5, cells := 9, slots := 255, locals := 106 }
set_option maxRecDepth 20000 in
set_option maxHeartbeats 4000000 in
theorem sX1_remember {l0 : Nat} {l1 : Nat} {h : jx_H} {h9 : jx_H} (e : FX1_remember l0 l1 h = some h9) : jx_Ct yX1_remember cX1_remember 2 none rmX1_remember [.ref l0, .ref l1] h (fun r' h' => none = r' ∧ h9 = h') := by
  refine jx_Ct.of (own := RX1) (by decide) rfl (Nat.le_of_ble_eq_true rfl) (fun X C hq hr hL hN => ?_)
  refine jx_sub (lv' := [(0, .ref l0), (1, .ref l1)]) [0, 1] rfl ?_
  have b28 : ∀ (y20 : Nat) (y21 : Nat) (h22 : jx_H), BX1_remember_28 y20 y21 h22 = some h9 → jx_J X 9 255 28 [(0, .ref y20), (1, .ref y21)] [] h22 := by
    intro y20 y21 h22 e
    unfold BX1_remember_28 at e
    refine j_aload_n C dX1_remember_28 rfl rfl ?_
    replace e := ob e
    obtain ⟨x23, ex23, e⟩ := e
    refine j_getr (ci := 1) (RC := RX1) (T := TX1) (N := 3) 0 C rfl klX1 (Nat.le_of_ble_eq_true rfl) kX1_11 rfl dX1_remember_29 ex23 ?_
    refine j_aload_n C dX1_remember_32 rfl rfl ?_
    replace e := ob e
    obtain ⟨x24, ex24, e⟩ := e
    refine j_geti (ci := 1) (RC := RX1) (T := TX1) (N := 3) 1 C rfl klX1 (Nat.le_of_ble_eq_true rfl) kX1_17 rfl dX1_remember_33 ex24 ?_
    replace e := ob e
    obtain ⟨x25, ex25, e⟩ := e
    refine j_aald C dX1_remember_36 ex25 ?_
    refine j_aload_n C dX1_remember_37 rfl rfl ?_
    rcases eq26 : x25 with _ | q26
    · exact nos (ocn eq26 e)
    replace e := ocs eq26 e
    replace e := ob e
    obtain ⟨_, eo27, e⟩ := e
    replace e := ob e
    obtain ⟨h28, eh28, e⟩ := e
    refine j_callV (ci := 5) (RC := RX5) (T := TX5) (N := 12) (As := [.ref y21]) (b := q26) (na := 1) (st := []) (k1 := 9) (n1 := 255) C hr (sX5_copyFrom eh28) rfl eo27 kX1_22 kim_X5_copyFrom ksel_X5_copyFrom kini_X5 kc_X5_copyFrom (by decide) rfl ⟨(Nat.le_of_ble_eq_true rfl), (Nat.le_of_ble_eq_true rfl)⟩ (Nat.le_of_ble_eq_true rfl) ⟨rfl, rfl, (Nat.le_of_ble_eq_true rfl), (Nat.le_of_ble_eq_true rfl)⟩ dX1_remember_38 ?_
    rintro _ _ ⟨rfl, rfl⟩
    show jx_J X 9 255 41 [(0, .ref y20), (1, .ref y21)] [] h28
    refine j_aload_n C dX1_remember_41 rfl rfl ?_
    refine j_aload_n C dX1_remember_42 rfl rfl ?_
    replace e := ob e
    obtain ⟨x29, ex29, e⟩ := e
    refine j_geti (ci := 1) (RC := RX1) (T := TX1) (N := 3) 1 C rfl klX1 (Nat.le_of_ble_eq_true rfl) kX1_17 rfl dX1_remember_43 ex29 ?_
    refine j_iconst (v := (1 : Int32)) C dX1_remember_46 (by decide) ?_
    refine j_iadd C dX1_remember_47 ?_
    refine j_bipush (v := (8 : Int32)) C dX1_remember_48 (by decide) ?_
    refine j_irem C dX1_remember_50 (by decide) ?_
    replace e := ob e
    obtain ⟨h30, eh30, e⟩ := e
    refine j_put (ci := 1) (RC := RX1) (T := TX1) (N := 3) (ty0 := tyX1) 1 C rfl klX1 tyX1_ok nmX1 (Nat.le_of_ble_eq_true rfl) kX1_17 rfl rfl rfl rfl dX1_remember_51 eh30 ?_
    refine j_aload_n C dX1_remember_54 rfl rfl ?_
    refine j_aload_n C dX1_remember_55 rfl rfl ?_
    replace e := ob e
    obtain ⟨x31, ex31, e⟩ := e
    refine j_geti (ci := 1) (RC := RX1) (T := TX1) (N := 3) 2 C rfl klX1 (Nat.le_of_ble_eq_true rfl) kX1_26 rfl dX1_remember_56 ex31 ?_
    refine j_iconst (v := (1 : Int32)) C dX1_remember_59 (by decide) ?_
    refine j_iadd C dX1_remember_60 ?_
    refine j_bipush (v := (8 : Int32)) C dX1_remember_61 (by decide) ?_
    refine j_min C hr kX1_29 kst_Math_min kini_J9 kc_Math_min dX1_remember_63 (Nat.le_of_ble_eq_true rfl) (Nat.le_of_ble_eq_true rfl) ⟨(Nat.le_of_ble_eq_true rfl), (Nat.le_of_ble_eq_true rfl)⟩ ?_
    replace e := ob e
    obtain ⟨h32, eh32, e⟩ := e
    refine j_put (ci := 1) (RC := RX1) (T := TX1) (N := 3) (ty0 := tyX1) 2 C rfl klX1 tyX1_ok nmX1 (Nat.le_of_ble_eq_true rfl) kX1_26 rfl rfl rfl rfl dX1_remember_66 eh32 ?_
    cases e
    exact j_vret C hq dX1_remember_69 ⟨Nat.le_of_ble_eq_true rfl, Nat.le_of_ble_eq_true rfl⟩ ⟨rfl, rfl⟩
  unfold FX1_remember at e
  refine j_aload_n C dX1_remember_0 rfl rfl ?_
  replace e := ob e
  obtain ⟨x33, ex33, e⟩ := e
  refine j_getr (ci := 1) (RC := RX1) (T := TX1) (N := 3) 0 C rfl klX1 (Nat.le_of_ble_eq_true rfl) kX1_11 rfl dX1_remember_1 ex33 ?_
  refine j_aload_n C dX1_remember_4 rfl rfl ?_
  replace e := ob e
  obtain ⟨x34, ex34, e⟩ := e
  refine j_geti (ci := 1) (RC := RX1) (T := TX1) (N := 3) 1 C rfl klX1 (Nat.le_of_ble_eq_true rfl) kX1_17 rfl dX1_remember_5 ex34 ?_
  replace e := ob e
  obtain ⟨x35, ex35, e⟩ := e
  refine j_aald C dX1_remember_8 ex35 ?_
  refine j_ifnonnull (tgt := 28) C dX1_remember_9 (by decide) (fun q36 eq36 => ?_) (fun eq36 => ?_)
  · replace e := ocs eq36 e
    subst eq36
    refine jx_widen (k1 := 9) (n1 := 255) (Nat.le_of_ble_eq_true rfl) (Nat.le_of_ble_eq_true rfl) ?_
    exact b28 l0 l1 h e
  · replace e := ocn eq36 e
    refine j_aload_n C dX1_remember_12 rfl rfl ?_
    replace e := ob e
    obtain ⟨x37, ex37, e⟩ := e
    refine j_getr (ci := 1) (RC := RX1) (T := TX1) (N := 3) 0 C rfl klX1 (Nat.le_of_ble_eq_true rfl) kX1_11 rfl dX1_remember_13 ex37 ?_
    refine j_aload_n C dX1_remember_16 rfl rfl ?_
    replace e := ob e
    obtain ⟨x38, ex38, e⟩ := e
    refine j_geti (ci := 1) (RC := RX1) (T := TX1) (N := 3) 1 C rfl klX1 (Nat.le_of_ble_eq_true rfl) kX1_17 rfl dX1_remember_17 ex38 ?_
    replace e := ob e
    obtain ⟨h39, eh39, e⟩ := e
    refine j_new (ci := 5) (RC := RX5) (T := TX5) (N := 12) (ty0 := tyX5) (fs := fsX5) C hr rfl klX5 tyX5_ok kX1_9 kins_X5 kini_X5 fsX5_ok dX1_remember_20 eh39 ⟨Nat.le_of_ble_eq_true rfl, Nat.le_of_ble_eq_true rfl⟩ ?_
    refine jx_widen (k1 := 1) (n1 := 12) (Nat.le_of_ble_eq_true rfl) (Nat.le_of_ble_eq_true rfl) ?_
    refine j_dup C dX1_remember_23 rfl ?_
    replace e := ob e
    obtain ⟨h40, eh40, e⟩ := e
    refine j_callI (As := []) (b := h.1) (na := 0) (st := [.ref h.1, .int x38, .ref x37]) (k1 := 9) (n1 := 255) C hr (sX5_init eh40) kX1_21 kim_X5_init kini_X5 kc_X5_init (by decide) rfl ⟨(Nat.le_of_ble_eq_true rfl), (Nat.le_of_ble_eq_true rfl)⟩ (Nat.le_of_ble_eq_true rfl) ⟨rfl, rfl, (Nat.le_of_ble_eq_true rfl), (Nat.le_of_ble_eq_true rfl)⟩ dX1_remember_24 ?_
    rintro _ _ ⟨rfl, rfl⟩
    show jx_J X 9 255 27 [(0, .ref l0), (1, .ref l1)] [.ref h.1, .int x38, .ref x37] h40
    replace e := ob e
    obtain ⟨h41, eh41, e⟩ := e
    refine j_aast (ci := 5) (T := TX5) (N0 := 12) C rfl dX1_remember_27 eh41 ?_
    exact b28 l0 l1 h41 e
/-! BorderBasis$History.bringBack(LBorderBasis$State;)V -/
noncomputable def FX1_bringBack (l0 : Nat) (l1 : Nat) (h : jx_H) : Option (jx_H) :=
(hgi h l0 1 1).bind fun x1 =>
(hgi h l0 1 2).bind fun x2 =>
if x2 ≤ 0 then
 some h
else
 (hgr h l0 1 0).bind fun x3 =>
 (hql h "BorderBasis$State" x3 (((x1 + (8 : Int32)) - (1 : Int32)) - ((x1 + (8 : Int32)) - (1 : Int32)) / (8 : Int32) * (8 : Int32))).bind fun x4 =>
 oc x4 (
  some h) fun q5 =>
  (hgr h l0 1 0).bind fun x6 =>
  (hql h "BorderBasis$State" x6 (((x1 + (8 : Int32)) - (1 : Int32)) - ((x1 + (8 : Int32)) - (1 : Int32)) / (8 : Int32) * (8 : Int32))).bind fun x7 =>
  oc x7 none fun q8 =>
  (isO h l1 5).bind fun _ =>
  (FX5_copyFrom l1 q8 h).bind fun h10 =>
  (hp h10 l0 1 1 (.int (((x1 + (8 : Int32)) - (1 : Int32)) - ((x1 + (8 : Int32)) - (1 : Int32)) / (8 : Int32) * (8 : Int32)))).bind fun h11 =>
  (hgi h11 l0 1 2).bind fun x12 =>
  (hp h11 l0 1 2 (.int (x12 - (1 : Int32)))).bind fun h13 =>
  some h13
def rmX1_bringBack : Room := { frames := 2, cells := 0, slots := 0, locals := 52 }
set_option maxRecDepth 20000 in
set_option maxHeartbeats 4000000 in
theorem sX1_bringBack {l0 : Nat} {l1 : Nat} {h : jx_H} {h9 : jx_H} (e : FX1_bringBack l0 l1 h = some h9) : jx_Ct yX1_bringBack cX1_bringBack 3 none rmX1_bringBack [.ref l0, .ref l1] h (fun r' h' => none = r' ∧ h9 = h') := by
  refine jx_Ct.of (own := RX1) (by decide) rfl (Nat.le_of_ble_eq_true rfl) (fun X C hq hr hL hN => ?_)
  refine jx_sub (lv' := [(0, .ref l0), (1, .ref l1)]) [0, 1] rfl ?_
  unfold FX1_bringBack at e
  refine j_aload_n C dX1_bringBack_0 rfl rfl ?_
  replace e := ob e
  obtain ⟨x15, ex15, e⟩ := e
  refine j_geti (ci := 1) (RC := RX1) (T := TX1) (N := 3) 1 C rfl klX1 (Nat.le_of_ble_eq_true rfl) kX1_17 rfl dX1_bringBack_1 ex15 ?_
  refine j_bipush (v := (8 : Int32)) C dX1_bringBack_4 (by decide) ?_
  refine j_iadd C dX1_bringBack_6 ?_
  refine j_iconst (v := (1 : Int32)) C dX1_bringBack_7 (by decide) ?_
  refine j_isub C dX1_bringBack_8 ?_
  refine j_bipush (v := (8 : Int32)) C dX1_bringBack_9 (by decide) ?_
  refine j_irem C dX1_bringBack_11 (by decide) ?_
  refine j_istore_n (lv1 := [(2, .int (((x15 + (8 : Int32)) - (1 : Int32)) - ((x15 + (8 : Int32)) - (1 : Int32)) / (8 : Int32) * (8 : Int32))), (0, .ref l0), (1, .ref l1)]) C hL dX1_bringBack_12 rfl (Nat.le_of_ble_eq_true rfl) rfl ?_
  refine j_aload_n C dX1_bringBack_13 rfl rfl ?_
  replace e := ob e
  obtain ⟨x16, ex16, e⟩ := e
  refine j_geti (ci := 1) (RC := RX1) (T := TX1) (N := 3) 2 C rfl klX1 (Nat.le_of_ble_eq_true rfl) kX1_26 rfl dX1_bringBack_14 ex16 ?_
  refine j_if_le (tgt := 54) C dX1_bringBack_17 (by decide) (fun c28 => ?_) (fun c28 => ?_)
  · replace e := ifp c28 e
    cases e
    exact j_vret C hq dX1_bringBack_54 ⟨Nat.le_of_ble_eq_true rfl, Nat.le_of_ble_eq_true rfl⟩ ⟨rfl, rfl⟩
  · replace e := ifn c28 e
    refine j_aload_n C dX1_bringBack_20 rfl rfl ?_
    replace e := ob e
    obtain ⟨x17, ex17, e⟩ := e
    refine j_getr (ci := 1) (RC := RX1) (T := TX1) (N := 3) 0 C rfl klX1 (Nat.le_of_ble_eq_true rfl) kX1_11 rfl dX1_bringBack_21 ex17 ?_
    refine j_iload_n C dX1_bringBack_24 rfl rfl ?_
    replace e := ob e
    obtain ⟨x18, ex18, e⟩ := e
    refine j_aald C dX1_bringBack_25 ex18 ?_
    refine j_ifnull (tgt := 54) C dX1_bringBack_26 (by decide) (fun eq19 => ?_) (fun q19 eq19 => ?_)
    · replace e := ocn eq19 e
      cases e
      exact j_vret C hq dX1_bringBack_54 ⟨Nat.le_of_ble_eq_true rfl, Nat.le_of_ble_eq_true rfl⟩ ⟨rfl, rfl⟩
    · replace e := ocs eq19 e
      subst eq19
      refine j_aload_n C dX1_bringBack_29 rfl rfl ?_
      refine j_aload_n C dX1_bringBack_30 rfl rfl ?_
      replace e := ob e
      obtain ⟨x20, ex20, e⟩ := e
      refine j_getr (ci := 1) (RC := RX1) (T := TX1) (N := 3) 0 C rfl klX1 (Nat.le_of_ble_eq_true rfl) kX1_11 rfl dX1_bringBack_31 ex20 ?_
      refine j_iload_n C dX1_bringBack_34 rfl rfl ?_
      replace e := ob e
      obtain ⟨x21, ex21, e⟩ := e
      refine j_aald C dX1_bringBack_35 ex21 ?_
      rcases eq22 : x21 with _ | q22
      · exact nos (ocn eq22 e)
      replace e := ocs eq22 e
      replace e := ob e
      obtain ⟨_, eo23, e⟩ := e
      replace e := ob e
      obtain ⟨h24, eh24, e⟩ := e
      refine j_callV (ci := 5) (RC := RX5) (T := TX5) (N := 12) (As := [.ref q22]) (b := l1) (na := 1) (st := []) (k1 := 0) (n1 := 0) C hr (sX5_copyFrom eh24) rfl eo23 kX1_22 kim_X5_copyFrom ksel_X5_copyFrom kini_X5 kc_X5_copyFrom (by decide) rfl ⟨(Nat.le_of_ble_eq_true rfl), (Nat.le_of_ble_eq_true rfl)⟩ (Nat.le_of_ble_eq_true rfl) ⟨rfl, rfl, (Nat.le_of_ble_eq_true rfl), (Nat.le_of_ble_eq_true rfl)⟩ dX1_bringBack_36 ?_
      rintro _ _ ⟨rfl, rfl⟩
      show jx_J X 0 0 39 [(2, .int (((x15 + (8 : Int32)) - (1 : Int32)) - ((x15 + (8 : Int32)) - (1 : Int32)) / (8 : Int32) * (8 : Int32))), (0, .ref l0), (1, .ref l1)] [] h24
      refine j_aload_n C dX1_bringBack_39 rfl rfl ?_
      refine j_iload_n C dX1_bringBack_40 rfl rfl ?_
      replace e := ob e
      obtain ⟨h25, eh25, e⟩ := e
      refine j_put (ci := 1) (RC := RX1) (T := TX1) (N := 3) (ty0 := tyX1) 1 C rfl klX1 tyX1_ok nmX1 (Nat.le_of_ble_eq_true rfl) kX1_17 rfl rfl rfl rfl dX1_bringBack_41 eh25 ?_
      refine j_aload_n C dX1_bringBack_44 rfl rfl ?_
      refine j_dup C dX1_bringBack_45 rfl ?_
      replace e := ob e
      obtain ⟨x26, ex26, e⟩ := e
      refine j_geti (ci := 1) (RC := RX1) (T := TX1) (N := 3) 2 C rfl klX1 (Nat.le_of_ble_eq_true rfl) kX1_26 rfl dX1_bringBack_46 ex26 ?_
      refine j_iconst (v := (1 : Int32)) C dX1_bringBack_49 (by decide) ?_
      refine j_isub C dX1_bringBack_50 ?_
      replace e := ob e
      obtain ⟨h27, eh27, e⟩ := e
      refine j_put (ci := 1) (RC := RX1) (T := TX1) (N := 3) (ty0 := tyX1) 2 C rfl klX1 tyX1_ok nmX1 (Nat.le_of_ble_eq_true rfl) kX1_26 rfl rfl rfl rfl dX1_bringBack_51 eh27 ?_
      cases e
      exact j_vret C hq dX1_bringBack_54 ⟨Nat.le_of_ble_eq_true rfl, Nat.le_of_ble_eq_true rfl⟩ ⟨rfl, rfl⟩
/-! BorderBasis$Matrix.becomeIdentity(I)V -/
noncomputable def LX2_becomeIdentity_8 (l0 : Nat) (l2 : Int32) (h : jx_H) : Option ((Int32 × jx_H) ⊕ (jx_H)) :=
(hgi h l0 2 4).bind fun x3 =>
if x3 ≤ l2 then
 exL (some h)
else
 (isO h l0 2).bind fun _ =>
 (FX2_put l0 l2 l2 (1 : Int32) h).bind fun h5 =>
 some (.inl ((l2 + (1 : Int32)), h5))
noncomputable def FX2_becomeIdentity (l0 : Nat) (l1 : Int32) (h : jx_H) : Option (jx_H) :=
(isO h l0 2).bind fun _ =>
(FX2_clear l0 l1 l1 h).bind fun h2 =>
itr (fun s : Int32 × jx_H => LX2_becomeIdentity_8 l0 s.1 s.2) ((0 : Int32), h2)
def rmX2_becomeIdentity : Room := { frames := 2, cells := 0, slots := 0, locals := 45 }
set_option maxRecDepth 20000 in
set_option maxHeartbeats 4000000 in
theorem sX2_becomeIdentity {l0 : Nat} {l1 : Int32} {h : jx_H} {h9 : jx_H} (e : FX2_becomeIdentity l0 l1 h = some h9) : jx_Ct yX2_becomeIdentity cX2_becomeIdentity 3 none rmX2_becomeIdentity [.ref l0, .int l1] h (fun r' h' => none = r' ∧ h9 = h') := by
  refine jx_Ct.of (own := RX2) (by decide) rfl (Nat.le_of_ble_eq_true rfl) (fun X C hq hr hL hN => ?_)
  refine jx_sub (lv' := [(0, .ref l0), (1, .int l1)]) [0, 1] rfl ?_
  unfold FX2_becomeIdentity at e
  refine j_aload_n C dX2_becomeIdentity_0 rfl rfl ?_
  refine j_iload_n C dX2_becomeIdentity_1 rfl rfl ?_
  refine j_iload_n C dX2_becomeIdentity_2 rfl rfl ?_
  replace e := ob e
  obtain ⟨_, eo7, e⟩ := e
  replace e := ob e
  obtain ⟨h8, eh8, e⟩ := e
  refine j_callV (ci := 2) (RC := RX2) (T := TX2) (N := 7) (As := [.int l1, .int l1]) (b := l0) (na := 2) (st := []) (k1 := 0) (n1 := 0) C hr (sX2_clear eh8) rfl eo7 kX2_47 kim_X2_clear ksel_X2_clear kini_X2 kc_X2_clear (by decide) rfl ⟨(Nat.le_of_ble_eq_true rfl), (Nat.le_of_ble_eq_true rfl)⟩ (Nat.le_of_ble_eq_true rfl) ⟨rfl, rfl, (Nat.le_of_ble_eq_true rfl), (Nat.le_of_ble_eq_true rfl)⟩ dX2_becomeIdentity_3 ?_
  rintro _ _ ⟨rfl, rfl⟩
  show jx_J X 0 0 6 [(0, .ref l0), (1, .int l1)] [] h8
  refine j_iconst (v := (0 : Int32)) C dX2_becomeIdentity_6 (by decide) ?_
  refine j_istore_n (lv1 := [(2, .int (0 : Int32)), (0, .ref l0), (1, .int l1)]) C hL dX2_becomeIdentity_7 rfl (Nat.le_of_ble_eq_true rfl) rfl ?_
  refine jx_sub (lv' := [(0, .ref l0), (2, .int (0 : Int32))]) [1, 0] rfl ?_
  refine itr_ind (s0 := ((0 : Int32), h8)) (fun s : Int32 × jx_H => jx_J X 0 0 8 [(0, .ref l0), (2, .int s.1)] [] s.2) e ?_
  clear e
  intro s kI2 kT2 e0
  obtain ⟨z9, h10⟩ := s
  obtain ⟨u2, e0_2⟩ := e0
  have e : LX2_becomeIdentity_8 l0 z9 h10 = some u2 := e0_2
  unfold LX2_becomeIdentity_8 at e
  refine j_iload_n C dX2_becomeIdentity_8 rfl rfl ?_
  refine j_aload_n C dX2_becomeIdentity_9 rfl rfl ?_
  replace e := ob e
  obtain ⟨x11, ex11, e⟩ := e
  refine j_geti (ci := 2) (RC := RX2) (T := TX2) (N := 7) 4 C rfl klX2 (Nat.le_of_ble_eq_true rfl) kX2_31 rfl dX2_becomeIdentity_10 ex11 ?_
  refine j_icmp_ge (tgt := 29) C dX2_becomeIdentity_13 (by decide) (fun c14 => ?_) (fun c14 => ?_)
  · replace e := ifp c14 e
    obtain ⟨t_3, e_3, eu_3⟩ := exL_spec e
    obtain rfl := kT2 t_3 (e0_2.trans (congrArg some eu_3))
    replace e := e_3
    cases e
    exact j_vret C hq dX2_becomeIdentity_29 ⟨Nat.le_of_ble_eq_true rfl, Nat.le_of_ble_eq_true rfl⟩ ⟨rfl, rfl⟩
  · replace e := ifn c14 e
    refine j_aload_n C dX2_becomeIdentity_16 rfl rfl ?_
    refine j_iload_n C dX2_becomeIdentity_17 rfl rfl ?_
    refine j_iload_n C dX2_becomeIdentity_18 rfl rfl ?_
    refine j_iconst (v := (1 : Int32)) C dX2_becomeIdentity_19 (by decide) ?_
    replace e := ob e
    obtain ⟨_, eo12, e⟩ := e
    replace e := ob e
    obtain ⟨h13, eh13, e⟩ := e
    refine j_callV (ci := 2) (RC := RX2) (T := TX2) (N := 7) (As := [.int z9, .int z9, .int (1 : Int32)]) (b := l0) (na := 3) (st := []) (k1 := 0) (n1 := 0) C hr (sX2_put eh13) rfl eo12 kX2_51 kim_X2_put ksel_X2_put kini_X2 kc_X2_put (by decide) rfl ⟨(Nat.le_of_ble_eq_true rfl), (Nat.le_of_ble_eq_true rfl)⟩ (Nat.le_of_ble_eq_true rfl) ⟨rfl, rfl, (Nat.le_of_ble_eq_true rfl), (Nat.le_of_ble_eq_true rfl)⟩ dX2_becomeIdentity_20 ?_
    rintro _ _ ⟨rfl, rfl⟩
    show jx_J X 0 0 23 [(0, .ref l0), (2, .int z9)] [] h13
    refine j_iinc (v := (z9 + (1 : Int32))) (lv1 := [(2, .int (z9 + (1 : Int32))), (0, .ref l0)]) C hL dX2_becomeIdentity_23 rfl rfl (Nat.le_of_ble_eq_true rfl) rfl ?_
    refine j_goto (tgt := 8) C dX2_becomeIdentity_26 (by decide) ?_
    obtain rfl := Option.some.inj e
    refine jx_sub (lv' := [(0, .ref l0), (2, .int (z9 + (1 : Int32)))]) [1, 0] rfl ?_
    exact kI2 ((z9 + (1 : Int32)), h13) e0_2
/-! BorderBasis$Matrix.copyRows(LBorderBasis$Matrix;I)V -/
noncomputable def LX2_copyRows_30 (l0 : Nat) (l1 : Nat) (l2 : Int32) (l3 : Int32) (l4 : Int32) (l5 : Int32) (h : jx_H) : Option ((Int32 × jx_H) ⊕ (jx_H)) :=
if l3 ≤ l5 then
 exL (some h)
else
 if l2 < 0 then
  exL (some h)
 else
  if l4 ≤ 0 then
   exL (some h)
  else
   (hgr h l1 2 2).bind fun x5 =>
   (hgi h l1 2 1).bind fun x6 =>
   (hgr h l0 2 2).bind fun x7 =>
   (hgi h l0 2 1).bind fun x8 =>
   (hcp h x5 (l5 * x6) x7 ((l2 + l5) * x8) l4).bind fun h9 =>
   some (.inl ((l5 + (1 : Int32)), h9))
noncomputable def FX2_copyRows (l0 : Nat) (l1 : Nat) (l2 : Int32) (h : jx_H) : Option (jx_H) :=
(hgi h l1 2 4).bind fun x1 =>
(hgi h l0 2 4).bind fun x2 =>
(hgi h l1 2 5).bind fun x3 =>
(hgi h l0 2 5).bind fun x4 =>
itr (fun s : Int32 × jx_H => LX2_copyRows_30 l0 l1 l2 (if (x2 - l2) < x1 then (x2 - l2) else x1) (if x4 < x3 then x4 else x3) s.1 s.2) ((0 : Int32), h)
def rmX2_copyRows : Room := { frames := 1, cells := 0, slots := 0, locals := 31 }
set_option maxRecDepth 20000 in
set_option maxHeartbeats 4000000 in
theorem sX2_copyRows {l0 : Nat} {l1 : Nat} {l2 : Int32} {h : jx_H} {h9 : jx_H} (e : FX2_copyRows l0 l1 l2 h = some h9) : jx_Ct yX2_copyRows cX2_copyRows 6 none rmX2_copyRows [.ref l0, .ref l1, .int l2] h (fun r' h' => none = r' ∧ h9 = h') := by
  refine jx_Ct.of (own := RX2) (by decide) rfl (Nat.le_of_ble_eq_true rfl) (fun X C hq hr hL hN => ?_)
  refine jx_sub (lv' := [(0, .ref l0), (1, .ref l1), (2, .int l2)]) [0, 1, 2] rfl ?_
  unfold FX2_copyRows at e
  refine j_aload_n C dX2_copyRows_0 rfl rfl ?_
  replace e := ob e
  obtain ⟨x13, ex13, e⟩ := e
  refine j_geti (ci := 2) (RC := RX2) (T := TX2) (N := 7) 4 C rfl klX2 (Nat.le_of_ble_eq_true rfl) kX2_31 rfl dX2_copyRows_1 ex13 ?_
  refine j_aload_n C dX2_copyRows_4 rfl rfl ?_
  replace e := ob e
  obtain ⟨x14, ex14, e⟩ := e
  refine j_geti (ci := 2) (RC := RX2) (T := TX2) (N := 7) 4 C rfl klX2 (Nat.le_of_ble_eq_true rfl) kX2_31 rfl dX2_copyRows_5 ex14 ?_
  refine j_iload_n C dX2_copyRows_8 rfl rfl ?_
  refine j_isub C dX2_copyRows_9 ?_
  refine j_min C hr kX2_25 kst_Math_min kini_J9 kc_Math_min dX2_copyRows_10 (Nat.le_of_ble_eq_true rfl) (Nat.le_of_ble_eq_true rfl) ⟨(Nat.le_of_ble_eq_true rfl), (Nat.le_of_ble_eq_true rfl)⟩ ?_
  refine j_istore_n (lv1 := [(3, .int (if (x14 - l2) < x13 then (x14 - l2) else x13)), (0, .ref l0), (1, .ref l1), (2, .int l2)]) C hL dX2_copyRows_13 rfl (Nat.le_of_ble_eq_true rfl) rfl ?_
  refine j_aload_n C dX2_copyRows_14 rfl rfl ?_
  replace e := ob e
  obtain ⟨x15, ex15, e⟩ := e
  refine j_geti (ci := 2) (RC := RX2) (T := TX2) (N := 7) 5 C rfl klX2 (Nat.le_of_ble_eq_true rfl) kX2_34 rfl dX2_copyRows_15 ex15 ?_
  refine j_aload_n C dX2_copyRows_18 rfl rfl ?_
  replace e := ob e
  obtain ⟨x16, ex16, e⟩ := e
  refine j_geti (ci := 2) (RC := RX2) (T := TX2) (N := 7) 5 C rfl klX2 (Nat.le_of_ble_eq_true rfl) kX2_34 rfl dX2_copyRows_19 ex16 ?_
  refine j_min C hr kX2_25 kst_Math_min kini_J9 kc_Math_min dX2_copyRows_22 (Nat.le_of_ble_eq_true rfl) (Nat.le_of_ble_eq_true rfl) ⟨(Nat.le_of_ble_eq_true rfl), (Nat.le_of_ble_eq_true rfl)⟩ ?_
  refine j_istore (lv1 := [(4, .int (if x16 < x15 then x16 else x15)), (3, .int (if (x14 - l2) < x13 then (x14 - l2) else x13)), (0, .ref l0), (1, .ref l1), (2, .int l2)]) C hL dX2_copyRows_25 (Nat.le_of_ble_eq_true rfl) rfl ?_
  refine j_iconst (v := (0 : Int32)) C dX2_copyRows_27 (by decide) ?_
  refine j_istore (lv1 := [(5, .int (0 : Int32)), (4, .int (if x16 < x15 then x16 else x15)), (3, .int (if (x14 - l2) < x13 then (x14 - l2) else x13)), (0, .ref l0), (1, .ref l1), (2, .int l2)]) C hL dX2_copyRows_28 (Nat.le_of_ble_eq_true rfl) rfl ?_
  refine jx_sub (lv' := [(0, .ref l0), (1, .ref l1), (2, .int l2), (3, .int (if (x14 - l2) < x13 then (x14 - l2) else x13)), (4, .int (if x16 < x15 then x16 else x15)), (5, .int (0 : Int32))]) [3, 4, 5, 2, 1, 0] rfl ?_
  refine itr_ind (s0 := ((0 : Int32), h)) (fun s : Int32 × jx_H => jx_J X 0 0 30 [(0, .ref l0), (1, .ref l1), (2, .int l2), (3, .int (if (x14 - l2) < x13 then (x14 - l2) else x13)), (4, .int (if x16 < x15 then x16 else x15)), (5, .int s.1)] [] s.2) e ?_
  clear e
  intro s kI4 kT4 e0
  obtain ⟨z17, h18⟩ := s
  obtain ⟨u4, e0_4⟩ := e0
  have e : LX2_copyRows_30 l0 l1 l2 (if (x14 - l2) < x13 then (x14 - l2) else x13) (if x16 < x15 then x16 else x15) z17 h18 = some u4 := e0_4
  unfold LX2_copyRows_30 at e
  refine j_iload C dX2_copyRows_30 rfl ?_
  refine j_iload_n C dX2_copyRows_32 rfl rfl ?_
  refine j_icmp_ge (tgt := 80) C dX2_copyRows_33 (by decide) (fun c26 => ?_) (fun c26 => ?_)
  · replace e := ifp c26 e
    obtain ⟨t_5, e_5, eu_5⟩ := exL_spec e
    obtain rfl := kT4 t_5 (e0_4.trans (congrArg some eu_5))
    replace e := e_5
    cases e
    exact j_vret C hq dX2_copyRows_80 ⟨Nat.le_of_ble_eq_true rfl, Nat.le_of_ble_eq_true rfl⟩ ⟨rfl, rfl⟩
  · replace e := ifn c26 e
    refine j_iload_n C dX2_copyRows_36 rfl rfl ?_
    refine j_if_lt (tgt := 80) C dX2_copyRows_37 (by decide) (fun c25 => ?_) (fun c25 => ?_)
    · replace e := ifp c25 e
      obtain ⟨t_6, e_6, eu_6⟩ := exL_spec e
      obtain rfl := kT4 t_6 (e0_4.trans (congrArg some eu_6))
      replace e := e_6
      cases e
      exact j_vret C hq dX2_copyRows_80 ⟨Nat.le_of_ble_eq_true rfl, Nat.le_of_ble_eq_true rfl⟩ ⟨rfl, rfl⟩
    · replace e := ifn c25 e
      refine j_iload C dX2_copyRows_40 rfl ?_
      refine j_if_le (tgt := 80) C dX2_copyRows_42 (by decide) (fun c24 => ?_) (fun c24 => ?_)
      · replace e := ifp c24 e
        obtain ⟨t_7, e_7, eu_7⟩ := exL_spec e
        obtain rfl := kT4 t_7 (e0_4.trans (congrArg some eu_7))
        replace e := e_7
        cases e
        exact j_vret C hq dX2_copyRows_80 ⟨Nat.le_of_ble_eq_true rfl, Nat.le_of_ble_eq_true rfl⟩ ⟨rfl, rfl⟩
      · replace e := ifn c24 e
        refine j_aload_n C dX2_copyRows_45 rfl rfl ?_
        replace e := ob e
        obtain ⟨x19, ex19, e⟩ := e
        refine j_getr (ci := 2) (RC := RX2) (T := TX2) (N := 7) 2 C rfl klX2 (Nat.le_of_ble_eq_true rfl) kX2_18 rfl dX2_copyRows_46 ex19 ?_
        refine j_iload C dX2_copyRows_49 rfl ?_
        refine j_aload_n C dX2_copyRows_51 rfl rfl ?_
        replace e := ob e
        obtain ⟨x20, ex20, e⟩ := e
        refine j_geti (ci := 2) (RC := RX2) (T := TX2) (N := 7) 1 C rfl klX2 (Nat.le_of_ble_eq_true rfl) kX2_15 rfl dX2_copyRows_52 ex20 ?_
        refine j_imul C dX2_copyRows_55 ?_
        refine j_aload_n C dX2_copyRows_56 rfl rfl ?_
        replace e := ob e
        obtain ⟨x21, ex21, e⟩ := e
        refine j_getr (ci := 2) (RC := RX2) (T := TX2) (N := 7) 2 C rfl klX2 (Nat.le_of_ble_eq_true rfl) kX2_18 rfl dX2_copyRows_57 ex21 ?_
        refine j_iload_n C dX2_copyRows_60 rfl rfl ?_
        refine j_iload C dX2_copyRows_61 rfl ?_
        refine j_iadd C dX2_copyRows_63 ?_
        refine j_aload_n C dX2_copyRows_64 rfl rfl ?_
        replace e := ob e
        obtain ⟨x22, ex22, e⟩ := e
        refine j_geti (ci := 2) (RC := RX2) (T := TX2) (N := 7) 1 C rfl klX2 (Nat.le_of_ble_eq_true rfl) kX2_15 rfl dX2_copyRows_65 ex22 ?_
        refine j_imul C dX2_copyRows_68 ?_
        refine j_iload C dX2_copyRows_69 rfl ?_
        replace e := ob e
        obtain ⟨h23, eh23, e⟩ := e
        refine j_copy C hr kX2_65 knat_Acopy kst_Acopy kini_J10 dX2_copyRows_71 (Nat.le_of_ble_eq_true rfl) (Nat.le_of_ble_eq_true rfl) eh23 ?_
        refine j_iinc (v := (z17 + (1 : Int32))) (lv1 := [(5, .int (z17 + (1 : Int32))), (0, .ref l0), (1, .ref l1), (2, .int l2), (3, .int (if (x14 - l2) < x13 then (x14 - l2) else x13)), (4, .int (if x16 < x15 then x16 else x15))]) C hL dX2_copyRows_74 rfl rfl (Nat.le_of_ble_eq_true rfl) rfl ?_
        refine j_goto (tgt := 30) C dX2_copyRows_77 (by decide) ?_
        obtain rfl := Option.some.inj e
        refine jx_sub (lv' := [(0, .ref l0), (1, .ref l1), (2, .int l2), (3, .int (if (x14 - l2) < x13 then (x14 - l2) else x13)), (4, .int (if x16 < x15 then x16 else x15)), (5, .int (z17 + (1 : Int32)))]) [1, 2, 3, 4, 5, 0] rfl ?_
        exact kI4 ((z17 + (1 : Int32)), h23) e0_4
/-! BorderBasis$Matrix.becomeShifted(LBorderBasis$Matrix;II)V -/
noncomputable def LX2_becomeShifted_21 (l0 : Nat) (l2 : Int32) (l3 : Int32) (l4 : Int32) (h : jx_H) : Option ((Int32 × jx_H) ⊕ (jx_H)) :=
(hgi h l0 2 4).bind fun x7 =>
if x7 ≤ l4 then
 exL (some h)
else
 (isO h l0 2).bind fun _ =>
 (FX2_at l0 l4 l4 h).bind fun x9 =>
 (FX9_residue (x9 - l2) l3 h).bind fun x10 =>
 (isO h l0 2).bind fun _ =>
 (FX2_put l0 l4 l4 x10 h).bind fun h12 =>
 some (.inl ((l4 + (1 : Int32)), h12))
noncomputable def FX2_becomeShifted (l0 : Nat) (l1 : Nat) (l2 : Int32) (l3 : Int32) (h : jx_H) : Option (jx_H) :=
(hgi h l1 2 4).bind fun x1 =>
(hgi h l1 2 5).bind fun x2 =>
(isO h l0 2).bind fun _ =>
(FX2_clear l0 x1 x2 h).bind fun h4 =>
(isO h4 l0 2).bind fun _ =>
(FX2_copyRows l0 l1 (0 : Int32) h4).bind fun h6 =>
itr (fun s : Int32 × jx_H => LX2_becomeShifted_21 l0 l2 l3 s.1 s.2) ((0 : Int32), h6)
def rmX2_becomeShifted : Room := { frames := 2, cells := 0, slots := 0, locals := 56 }
set_option maxRecDepth 20000 in
set_option maxHeartbeats 4000000 in
theorem sX2_becomeShifted {l0 : Nat} {l1 : Nat} {l2 : Int32} {l3 : Int32} {h : jx_H} {h9 : jx_H} (e : FX2_becomeShifted l0 l1 l2 l3 h = some h9) : jx_Ct yX2_becomeShifted cX2_becomeShifted 5 none rmX2_becomeShifted [.ref l0, .ref l1, .int l2, .int l3] h (fun r' h' => none = r' ∧ h9 = h') := by
  refine jx_Ct.of (own := RX2) (by decide) rfl (Nat.le_of_ble_eq_true rfl) (fun X C hq hr hL hN => ?_)
  refine jx_sub (lv' := [(0, .ref l0), (1, .ref l1), (2, .int l2), (3, .int l3)]) [0, 1, 2, 3] rfl ?_
  unfold FX2_becomeShifted at e
  refine j_aload_n C dX2_becomeShifted_0 rfl rfl ?_
  refine j_aload_n C dX2_becomeShifted_1 rfl rfl ?_
  replace e := ob e
  obtain ⟨x14, ex14, e⟩ := e
  refine j_geti (ci := 2) (RC := RX2) (T := TX2) (N := 7) 4 C rfl klX2 (Nat.le_of_ble_eq_true rfl) kX2_31 rfl dX2_becomeShifted_2 ex14 ?_
  refine j_aload_n C dX2_becomeShifted_5 rfl rfl ?_
  replace e := ob e
  obtain ⟨x15, ex15, e⟩ := e
  refine j_geti (ci := 2) (RC := RX2) (T := TX2) (N := 7) 5 C rfl klX2 (Nat.le_of_ble_eq_true rfl) kX2_34 rfl dX2_becomeShifted_6 ex15 ?_
  replace e := ob e
  obtain ⟨_, eo16, e⟩ := e
  replace e := ob e
  obtain ⟨h17, eh17, e⟩ := e
  refine j_callV (ci := 2) (RC := RX2) (T := TX2) (N := 7) (As := [.int x14, .int x15]) (b := l0) (na := 2) (st := []) (k1 := 0) (n1 := 0) C hr (sX2_clear eh17) rfl eo16 kX2_47 kim_X2_clear ksel_X2_clear kini_X2 kc_X2_clear (by decide) rfl ⟨(Nat.le_of_ble_eq_true rfl), (Nat.le_of_ble_eq_true rfl)⟩ (Nat.le_of_ble_eq_true rfl) ⟨rfl, rfl, (Nat.le_of_ble_eq_true rfl), (Nat.le_of_ble_eq_true rfl)⟩ dX2_becomeShifted_9 ?_
  rintro _ _ ⟨rfl, rfl⟩
  show jx_J X 0 0 12 [(0, .ref l0), (1, .ref l1), (2, .int l2), (3, .int l3)] [] h17
  refine j_aload_n C dX2_becomeShifted_12 rfl rfl ?_
  refine j_aload_n C dX2_becomeShifted_13 rfl rfl ?_
  refine j_iconst (v := (0 : Int32)) C dX2_becomeShifted_14 (by decide) ?_
  replace e := ob e
  obtain ⟨_, eo18, e⟩ := e
  replace e := ob e
  obtain ⟨h19, eh19, e⟩ := e
  refine j_callV (ci := 2) (RC := RX2) (T := TX2) (N := 7) (As := [.ref l1, .int (0 : Int32)]) (b := l0) (na := 2) (st := []) (k1 := 0) (n1 := 0) C hr (sX2_copyRows eh19) rfl eo18 kX2_55 kim_X2_copyRows ksel_X2_copyRows kini_X2 kc_X2_copyRows (by decide) rfl ⟨(Nat.le_of_ble_eq_true rfl), (Nat.le_of_ble_eq_true rfl)⟩ (Nat.le_of_ble_eq_true rfl) ⟨rfl, rfl, (Nat.le_of_ble_eq_true rfl), (Nat.le_of_ble_eq_true rfl)⟩ dX2_becomeShifted_15 ?_
  rintro _ _ ⟨rfl, rfl⟩
  show jx_J X 0 0 18 [(0, .ref l0), (1, .ref l1), (2, .int l2), (3, .int l3)] [] h19
  refine j_iconst (v := (0 : Int32)) C dX2_becomeShifted_18 (by decide) ?_
  refine j_istore (lv1 := [(4, .int (0 : Int32)), (0, .ref l0), (1, .ref l1), (2, .int l2), (3, .int l3)]) C hL dX2_becomeShifted_19 (Nat.le_of_ble_eq_true rfl) rfl ?_
  refine jx_sub (lv' := [(0, .ref l0), (2, .int l2), (3, .int l3), (4, .int (0 : Int32))]) [1, 3, 4, 0] rfl ?_
  refine itr_ind (s0 := ((0 : Int32), h19)) (fun s : Int32 × jx_H => jx_J X 0 0 21 [(0, .ref l0), (2, .int l2), (3, .int l3), (4, .int s.1)] [] s.2) e ?_
  clear e
  intro s kI2 kT2 e0
  obtain ⟨z20, h21⟩ := s
  obtain ⟨u2, e0_2⟩ := e0
  have e : LX2_becomeShifted_21 l0 l2 l3 z20 h21 = some u2 := e0_2
  unfold LX2_becomeShifted_21 at e
  refine j_iload C dX2_becomeShifted_21 rfl ?_
  refine j_aload_n C dX2_becomeShifted_23 rfl rfl ?_
  replace e := ob e
  obtain ⟨x22, ex22, e⟩ := e
  refine j_geti (ci := 2) (RC := RX2) (T := TX2) (N := 7) 4 C rfl klX2 (Nat.le_of_ble_eq_true rfl) kX2_31 rfl dX2_becomeShifted_24 ex22 ?_
  refine j_icmp_ge (tgt := 58) C dX2_becomeShifted_27 (by decide) (fun c28 => ?_) (fun c28 => ?_)
  · replace e := ifp c28 e
    obtain ⟨t_3, e_3, eu_3⟩ := exL_spec e
    obtain rfl := kT2 t_3 (e0_2.trans (congrArg some eu_3))
    replace e := e_3
    cases e
    exact j_vret C hq dX2_becomeShifted_58 ⟨Nat.le_of_ble_eq_true rfl, Nat.le_of_ble_eq_true rfl⟩ ⟨rfl, rfl⟩
  · replace e := ifn c28 e
    refine j_aload_n C dX2_becomeShifted_30 rfl rfl ?_
    refine j_iload C dX2_becomeShifted_31 rfl ?_
    refine j_iload C dX2_becomeShifted_33 rfl ?_
    refine j_aload_n C dX2_becomeShifted_35 rfl rfl ?_
    refine j_iload C dX2_becomeShifted_36 rfl ?_
    refine j_iload C dX2_becomeShifted_38 rfl ?_
    replace e := ob e
    obtain ⟨_, eo23, e⟩ := e
    replace e := ob e
    obtain ⟨x24, ex24, e⟩ := e
    refine j_callV (ci := 2) (RC := RX2) (T := TX2) (N := 7) (As := [.int z20, .int z20]) (b := l0) (na := 2) (st := [.int z20, .int z20, .ref l0]) (k1 := 0) (n1 := 0) C hr (sX2_at ex24) rfl eo23 kX2_59 kim_X2_at ksel_X2_at kini_X2 kc_X2_at (by decide) rfl ⟨(Nat.le_of_ble_eq_true rfl), (Nat.le_of_ble_eq_true rfl)⟩ (Nat.le_of_ble_eq_true rfl) ⟨rfl, rfl, (Nat.le_of_ble_eq_true rfl), (Nat.le_of_ble_eq_true rfl)⟩ dX2_becomeShifted_40 ?_
    rintro _ _ ⟨rfl, rfl⟩
    show jx_J X 0 0 43 [(0, .ref l0), (2, .int l2), (3, .int l3), (4, .int z20)] [.int x24, .int z20, .int z20, .ref l0] h21
    refine j_iload_n C dX2_becomeShifted_43 rfl rfl ?_
    refine j_isub C dX2_becomeShifted_44 ?_
    refine j_iload_n C dX2_becomeShifted_45 rfl rfl ?_
    replace e := ob e
    obtain ⟨x25, ex25, e⟩ := e
    refine j_callSN (As := [.int (x24 - l2), .int l3]) (na := 2) (st := [.int z20, .int z20, .ref l0]) (k1 := 0) (n1 := 0) C hr (sX9_residue ex25) kX2_62 kst_X9_residue kini_X9 kc_X9_residue (by decide) rfl ⟨(Nat.le_of_ble_eq_true rfl), (Nat.le_of_ble_eq_true rfl)⟩ (Nat.le_of_ble_eq_true rfl) ⟨rfl, rfl, (Nat.le_of_ble_eq_true rfl), (Nat.le_of_ble_eq_true rfl)⟩ dX2_becomeShifted_46 ?_
    rintro _ _ ⟨rfl, rfl⟩
    show jx_J X 0 0 49 [(0, .ref l0), (2, .int l2), (3, .int l3), (4, .int z20)] [.int x25, .int z20, .int z20, .ref l0] h21
    replace e := ob e
    obtain ⟨_, eo26, e⟩ := e
    replace e := ob e
    obtain ⟨h27, eh27, e⟩ := e
    refine j_callV (ci := 2) (RC := RX2) (T := TX2) (N := 7) (As := [.int z20, .int z20, .int x25]) (b := l0) (na := 3) (st := []) (k1 := 0) (n1 := 0) C hr (sX2_put eh27) rfl eo26 kX2_51 kim_X2_put ksel_X2_put kini_X2 kc_X2_put (by decide) rfl ⟨(Nat.le_of_ble_eq_true rfl), (Nat.le_of_ble_eq_true rfl)⟩ (Nat.le_of_ble_eq_true rfl) ⟨rfl, rfl, (Nat.le_of_ble_eq_true rfl), (Nat.le_of_ble_eq_true rfl)⟩ dX2_becomeShifted_49 ?_
    rintro _ _ ⟨rfl, rfl⟩
    show jx_J X 0 0 52 [(0, .ref l0), (2, .int l2), (3, .int l3), (4, .int z20)] [] h27
    refine j_iinc (v := (z20 + (1 : Int32))) (lv1 := [(4, .int (z20 + (1 : Int32))), (0, .ref l0), (2, .int l2), (3, .int l3)]) C hL dX2_becomeShifted_52 rfl rfl (Nat.le_of_ble_eq_true rfl) rfl ?_
    refine j_goto (tgt := 21) C dX2_becomeShifted_55 (by decide) ?_
    obtain rfl := Option.some.inj e
    refine jx_sub (lv' := [(0, .ref l0), (2, .int l2), (3, .int l3), (4, .int (z20 + (1 : Int32)))]) [1, 2, 3, 0] rfl ?_
    exact kI2 ((z20 + (1 : Int32)), h27) e0_2
/-! BorderBasis$Matrix.becomeProduct(LBorderBasis$Matrix;LBorderBasis$Matrix;I)V -/
noncomputable def LX2_becomeProduct_55 (l0 : Nat) (l1 : Nat) (l2 : Nat) (l3 : Int32) (l4 : Int32) (l5 : Int32) (l6 : Int32) (l7 : Int32) (l8 : Int32) (h : jx_H) : Option ((Int32 × Int32) ⊕ ((Int32 × jx_H) ⊕ ((Int32 × jx_H) ⊕ (jx_H)))) :=
if l4 ≤ l8 then
 exL ((hgr h l0 2 2).bind fun x9 =>
 (hgi h l0 2 1).bind fun x10 =>
 (FX9_residue l7 l3 h).bind fun x11 =>
 (has h .int x9 ((l5 * x10) + l6) x11).bind fun h12 =>
 some (.inl ((l6 + (1 : Int32)), h12)))
else
 (hgr h l1 2 2).bind fun x13 =>
 (hgi h l1 2 1).bind fun x14 =>
 (hal h .int x13 ((l5 * x14) + l8)).bind fun x15 =>
 (hgr h l2 2 2).bind fun x16 =>
 (hgi h l2 2 1).bind fun x17 =>
 (hal h .int x16 ((l8 * x17) + l6)).bind fun x18 =>
 some (.inl ((l7 + (x15 * x18)), (l8 + (1 : Int32))))
noncomputable def LX2_becomeProduct_40 (l0 : Nat) (l1 : Nat) (l2 : Nat) (l3 : Int32) (l4 : Int32) (l5 : Int32) (l6 : Int32) (h : jx_H) : Option ((Int32 × jx_H) ⊕ ((Int32 × jx_H) ⊕ (jx_H))) :=
(hgi h l0 2 5).bind fun x8 =>
if x8 ≤ l6 then
 exL (some (.inl ((l5 + (1 : Int32)), h)))
else
 itr (fun s : Int32 × Int32 => LX2_becomeProduct_55 l0 l1 l2 l3 l4 l5 l6 s.1 s.2 h) ((0 : Int32), (0 : Int32))
noncomputable def LX2_becomeProduct_28 (l0 : Nat) (l1 : Nat) (l2 : Nat) (l3 : Int32) (l4 : Int32) (l5 : Int32) (h : jx_H) : Option ((Int32 × jx_H) ⊕ (jx_H)) :=
(hgi h l0 2 4).bind fun x7 =>
if x7 ≤ l5 then
 exL (some h)
else
 itr (fun s : Int32 × jx_H => LX2_becomeProduct_40 l0 l1 l2 l3 l4 l5 s.1 s.2) ((0 : Int32), h)
noncomputable def FX2_becomeProduct (l0 : Nat) (l1 : Nat) (l2 : Nat) (l3 : Int32) (h : jx_H) : Option (jx_H) :=
(hgi h l1 2 4).bind fun x1 =>
(hgi h l2 2 5).bind fun x2 =>
(isO h l0 2).bind fun _ =>
(FX2_clear l0 x1 x2 h).bind fun h4 =>
(hgi h4 l1 2 5).bind fun x5 =>
(hgi h4 l2 2 4).bind fun x6 =>
itr (fun s : Int32 × jx_H => LX2_becomeProduct_28 l0 l1 l2 l3 (if x6 < x5 then x6 else x5) s.1 s.2) ((0 : Int32), h4)
def rmX2_becomeProduct : Room := { frames := 2, cells := 0, slots := 0, locals := 45 }
set_option maxRecDepth 20000 in
set_option maxHeartbeats 4000000 in
theorem sX2_becomeProduct {l0 : Nat} {l1 : Nat} {l2 : Nat} {l3 : Int32} {h : jx_H} {h9 : jx_H} (e : FX2_becomeProduct l0 l1 l2 l3 h = some h9) : jx_Ct yX2_becomeProduct cX2_becomeProduct 9 none rmX2_becomeProduct [.ref l0, .ref l1, .ref l2, .int l3] h (fun r' h' => none = r' ∧ h9 = h') := by
  refine jx_Ct.of (own := RX2) (by decide) rfl (Nat.le_of_ble_eq_true rfl) (fun X C hq hr hL hN => ?_)
  refine jx_sub (lv' := [(0, .ref l0), (1, .ref l1), (2, .ref l2), (3, .int l3)]) [0, 1, 2, 3] rfl ?_
  unfold FX2_becomeProduct at e
  refine j_aload_n C dX2_becomeProduct_0 rfl rfl ?_
  refine j_aload_n C dX2_becomeProduct_1 rfl rfl ?_
  replace e := ob e
  obtain ⟨x22, ex22, e⟩ := e
  refine j_geti (ci := 2) (RC := RX2) (T := TX2) (N := 7) 4 C rfl klX2 (Nat.le_of_ble_eq_true rfl) kX2_31 rfl dX2_becomeProduct_2 ex22 ?_
  refine j_aload_n C dX2_becomeProduct_5 rfl rfl ?_
  replace e := ob e
  obtain ⟨x23, ex23, e⟩ := e
  refine j_geti (ci := 2) (RC := RX2) (T := TX2) (N := 7) 5 C rfl klX2 (Nat.le_of_ble_eq_true rfl) kX2_34 rfl dX2_becomeProduct_6 ex23 ?_
  replace e := ob e
  obtain ⟨_, eo24, e⟩ := e
  replace e := ob e
  obtain ⟨h25, eh25, e⟩ := e
  refine j_callV (ci := 2) (RC := RX2) (T := TX2) (N := 7) (As := [.int x22, .int x23]) (b := l0) (na := 2) (st := []) (k1 := 0) (n1 := 0) C hr (sX2_clear eh25) rfl eo24 kX2_47 kim_X2_clear ksel_X2_clear kini_X2 kc_X2_clear (by decide) rfl ⟨(Nat.le_of_ble_eq_true rfl), (Nat.le_of_ble_eq_true rfl)⟩ (Nat.le_of_ble_eq_true rfl) ⟨rfl, rfl, (Nat.le_of_ble_eq_true rfl), (Nat.le_of_ble_eq_true rfl)⟩ dX2_becomeProduct_9 ?_
  rintro _ _ ⟨rfl, rfl⟩
  show jx_J X 0 0 12 [(0, .ref l0), (1, .ref l1), (2, .ref l2), (3, .int l3)] [] h25
  refine j_aload_n C dX2_becomeProduct_12 rfl rfl ?_
  replace e := ob e
  obtain ⟨x26, ex26, e⟩ := e
  refine j_geti (ci := 2) (RC := RX2) (T := TX2) (N := 7) 5 C rfl klX2 (Nat.le_of_ble_eq_true rfl) kX2_34 rfl dX2_becomeProduct_13 ex26 ?_
  refine j_aload_n C dX2_becomeProduct_16 rfl rfl ?_
  replace e := ob e
  obtain ⟨x27, ex27, e⟩ := e
  refine j_geti (ci := 2) (RC := RX2) (T := TX2) (N := 7) 4 C rfl klX2 (Nat.le_of_ble_eq_true rfl) kX2_31 rfl dX2_becomeProduct_17 ex27 ?_
  refine j_min C hr kX2_25 kst_Math_min kini_J9 kc_Math_min dX2_becomeProduct_20 (Nat.le_of_ble_eq_true rfl) (Nat.le_of_ble_eq_true rfl) ⟨(Nat.le_of_ble_eq_true rfl), (Nat.le_of_ble_eq_true rfl)⟩ ?_
  refine j_istore (lv1 := [(4, .int (if x27 < x26 then x27 else x26)), (0, .ref l0), (1, .ref l1), (2, .ref l2), (3, .int l3)]) C hL dX2_becomeProduct_23 (Nat.le_of_ble_eq_true rfl) rfl ?_
  refine j_iconst (v := (0 : Int32)) C dX2_becomeProduct_25 (by decide) ?_
  refine j_istore (lv1 := [(5, .int (0 : Int32)), (4, .int (if x27 < x26 then x27 else x26)), (0, .ref l0), (1, .ref l1), (2, .ref l2), (3, .int l3)]) C hL dX2_becomeProduct_26 (Nat.le_of_ble_eq_true rfl) rfl ?_
  refine jx_sub (lv' := [(0, .ref l0), (1, .ref l1), (2, .ref l2), (3, .int l3), (4, .int (if x27 < x26 then x27 else x26)), (5, .int (0 : Int32))]) [2, 3, 4, 5, 1, 0] rfl ?_
  refine itr_ind (s0 := ((0 : Int32), h25)) (fun s : Int32 × jx_H => jx_J X 0 0 28 [(0, .ref l0), (1, .ref l1), (2, .ref l2), (3, .int l3), (4, .int (if x27 < x26 then x27 else x26)), (5, .int s.1)] [] s.2) e ?_
  clear e
  intro s kI4 kT4 e0
  obtain ⟨z28, h29⟩ := s
  obtain ⟨u4, e0_4⟩ := e0
  have e : LX2_becomeProduct_28 l0 l1 l2 l3 (if x27 < x26 then x27 else x26) z28 h29 = some u4 := e0_4
  unfold LX2_becomeProduct_28 at e
  refine j_iload C dX2_becomeProduct_28 rfl ?_
  refine j_aload_n C dX2_becomeProduct_30 rfl rfl ?_
  replace e := ob e
  obtain ⟨x30, ex30, e⟩ := e
  refine j_geti (ci := 2) (RC := RX2) (T := TX2) (N := 7) 4 C rfl klX2 (Nat.le_of_ble_eq_true rfl) kX2_31 rfl dX2_becomeProduct_31 ex30 ?_
  refine j_icmp_ge (tgt := 137) C dX2_becomeProduct_34 (by decide) (fun c48 => ?_) (fun c48 => ?_)
  · replace e := ifp c48 e
    obtain ⟨t_5, e_5, eu_5⟩ := exL_spec e
    obtain rfl := kT4 t_5 (e0_4.trans (congrArg some eu_5))
    replace e := e_5
    cases e
    exact j_vret C hq dX2_becomeProduct_137 ⟨Nat.le_of_ble_eq_true rfl, Nat.le_of_ble_eq_true rfl⟩ ⟨rfl, rfl⟩
  · replace e := ifn c48 e
    refine j_iconst (v := (0 : Int32)) C dX2_becomeProduct_37 (by decide) ?_
    refine j_istore (lv1 := [(6, .int (0 : Int32)), (0, .ref l0), (1, .ref l1), (2, .ref l2), (3, .int l3), (4, .int (if x27 < x26 then x27 else x26)), (5, .int z28)]) C hL dX2_becomeProduct_38 (Nat.le_of_ble_eq_true rfl) rfl ?_
    refine jx_sub (lv' := [(0, .ref l0), (1, .ref l1), (2, .ref l2), (3, .int l3), (4, .int (if x27 < x26 then x27 else x26)), (5, .int z28), (6, .int (0 : Int32))]) [1, 2, 3, 4, 5, 6, 0] rfl ?_
    refine itr_ind (s0 := ((0 : Int32), h29)) (fun s : Int32 × jx_H => jx_J X 0 0 40 [(0, .ref l0), (1, .ref l1), (2, .ref l2), (3, .int l3), (4, .int (if x27 < x26 then x27 else x26)), (5, .int z28), (6, .int s.1)] [] s.2) e ?_
    clear e
    intro s kI6 kT6 e0
    obtain ⟨z31, h32⟩ := s
    obtain ⟨u6, e0_6⟩ := e0
    have e : LX2_becomeProduct_40 l0 l1 l2 l3 (if x27 < x26 then x27 else x26) z28 z31 h32 = some u6 := e0_6
    unfold LX2_becomeProduct_40 at e
    refine j_iload C dX2_becomeProduct_40 rfl ?_
    refine j_aload_n C dX2_becomeProduct_42 rfl rfl ?_
    replace e := ob e
    obtain ⟨x33, ex33, e⟩ := e
    refine j_geti (ci := 2) (RC := RX2) (T := TX2) (N := 7) 5 C rfl klX2 (Nat.le_of_ble_eq_true rfl) kX2_34 rfl dX2_becomeProduct_43 ex33 ?_
    refine j_icmp_ge (tgt := 131) C dX2_becomeProduct_46 (by decide) (fun c47 => ?_) (fun c47 => ?_)
    · replace e := ifp c47 e
      obtain ⟨t_7, e_7, eu_7⟩ := exL_spec e
      obtain rfl := kT6 t_7 (e0_6.trans (congrArg some eu_7))
      replace e := e_7
      refine j_iinc (v := (z28 + (1 : Int32))) (lv1 := [(5, .int (z28 + (1 : Int32))), (0, .ref l0), (1, .ref l1), (2, .ref l2), (3, .int l3), (4, .int (if x27 < x26 then x27 else x26)), (6, .int z31)]) C hL dX2_becomeProduct_131 rfl rfl (Nat.le_of_ble_eq_true rfl) rfl ?_
      refine j_goto (tgt := 28) C dX2_becomeProduct_134 (by decide) ?_
      obtain rfl := Option.some.inj e
      refine jx_sub (lv' := [(0, .ref l0), (1, .ref l1), (2, .ref l2), (3, .int l3), (4, .int (if x27 < x26 then x27 else x26)), (5, .int (z28 + (1 : Int32)))]) [1, 2, 3, 4, 5, 0] rfl ?_
      exact kI4 ((z28 + (1 : Int32)), h32) e0_4
    · replace e := ifn c47 e
      refine j_iconst (v := (0 : Int32)) C dX2_becomeProduct_49 (by decide) ?_
      refine j_istore (lv1 := [(7, .int (0 : Int32)), (0, .ref l0), (1, .ref l1), (2, .ref l2), (3, .int l3), (4, .int (if x27 < x26 then x27 else x26)), (5, .int z28), (6, .int z31)]) C hL dX2_becomeProduct_50 (Nat.le_of_ble_eq_true rfl) rfl ?_
      refine j_iconst (v := (0 : Int32)) C dX2_becomeProduct_52 (by decide) ?_
      refine j_istore (lv1 := [(8, .int (0 : Int32)), (7, .int (0 : Int32)), (0, .ref l0), (1, .ref l1), (2, .ref l2), (3, .int l3), (4, .int (if x27 < x26 then x27 else x26)), (5, .int z28), (6, .int z31)]) C hL dX2_becomeProduct_53 (Nat.le_of_ble_eq_true rfl) rfl ?_
      refine jx_sub (lv' := [(0, .ref l0), (1, .ref l1), (2, .ref l2), (3, .int l3), (4, .int (if x27 < x26 then x27 else x26)), (5, .int z28), (6, .int z31), (7, .int (0 : Int32)), (8, .int (0 : Int32))]) [2, 3, 4, 5, 6, 7, 8, 1, 0] rfl ?_
      refine itr_ind (s0 := ((0 : Int32), (0 : Int32))) (fun s : Int32 × Int32 => jx_J X 0 0 55 [(0, .ref l0), (1, .ref l1), (2, .ref l2), (3, .int l3), (4, .int (if x27 < x26 then x27 else x26)), (5, .int z28), (6, .int z31), (7, .int s.1), (8, .int s.2)] [] h32) e ?_
      clear e
      intro s kI8 kT8 e0
      obtain ⟨z34, z35⟩ := s
      obtain ⟨u8, e0_8⟩ := e0
      have e : LX2_becomeProduct_55 l0 l1 l2 l3 (if x27 < x26 then x27 else x26) z28 z31 z34 z35 h32 = some u8 := e0_8
      unfold LX2_becomeProduct_55 at e
      refine j_iload C dX2_becomeProduct_55 rfl ?_
      refine j_iload C dX2_becomeProduct_57 rfl ?_
      refine j_icmp_ge (tgt := 104) C dX2_becomeProduct_59 (by decide) (fun c46 => ?_) (fun c46 => ?_)
      · replace e := ifp c46 e
        obtain ⟨t_9, e_9, eu_9⟩ := exL_spec e
        obtain rfl := kT8 t_9 (e0_8.trans (congrArg some eu_9))
        replace e := e_9
        refine j_aload_n C dX2_becomeProduct_104 rfl rfl ?_
        replace e := ob e
        obtain ⟨x36, ex36, e⟩ := e
        refine j_getr (ci := 2) (RC := RX2) (T := TX2) (N := 7) 2 C rfl klX2 (Nat.le_of_ble_eq_true rfl) kX2_18 rfl dX2_becomeProduct_105 ex36 ?_
        refine j_iload C dX2_becomeProduct_108 rfl ?_
        refine j_aload_n C dX2_becomeProduct_110 rfl rfl ?_
        replace e := ob e
        obtain ⟨x37, ex37, e⟩ := e
        refine j_geti (ci := 2) (RC := RX2) (T := TX2) (N := 7) 1 C rfl klX2 (Nat.le_of_ble_eq_true rfl) kX2_15 rfl dX2_becomeProduct_111 ex37 ?_
        refine j_imul C dX2_becomeProduct_114 ?_
        refine j_iload C dX2_becomeProduct_115 rfl ?_
        refine j_iadd C dX2_becomeProduct_117 ?_
        refine j_iload C dX2_becomeProduct_118 rfl ?_
        refine j_iload_n C dX2_becomeProduct_120 rfl rfl ?_
        replace e := ob e
        obtain ⟨x38, ex38, e⟩ := e
        refine j_callSN (As := [.int z34, .int l3]) (na := 2) (st := [.int ((z28 * x37) + z31), .ref x36]) (k1 := 0) (n1 := 0) C hr (sX9_residue ex38) kX2_62 kst_X9_residue kini_X9 kc_X9_residue (by decide) rfl ⟨(Nat.le_of_ble_eq_true rfl), (Nat.le_of_ble_eq_true rfl)⟩ (Nat.le_of_ble_eq_true rfl) ⟨rfl, rfl, (Nat.le_of_ble_eq_true rfl), (Nat.le_of_ble_eq_true rfl)⟩ dX2_becomeProduct_121 ?_
        rintro _ _ ⟨rfl, rfl⟩
        show jx_J X 0 0 124 [(0, .ref l0), (1, .ref l1), (2, .ref l2), (3, .int l3), (4, .int (if x27 < x26 then x27 else x26)), (5, .int z28), (6, .int z31), (7, .int z34), (8, .int z35)] [.int x38, .int ((z28 * x37) + z31), .ref x36] h32
        replace e := ob e
        obtain ⟨h39, eh39, e⟩ := e
        refine j_iast C dX2_becomeProduct_124 eh39 ?_
        refine j_iinc (v := (z31 + (1 : Int32))) (lv1 := [(6, .int (z31 + (1 : Int32))), (0, .ref l0), (1, .ref l1), (2, .ref l2), (3, .int l3), (4, .int (if x27 < x26 then x27 else x26)), (5, .int z28), (7, .int z34), (8, .int z35)]) C hL dX2_becomeProduct_125 rfl rfl (Nat.le_of_ble_eq_true rfl) rfl ?_
        refine j_goto (tgt := 40) C dX2_becomeProduct_128 (by decide) ?_
        obtain rfl := Option.some.inj e
        refine jx_sub (lv' := [(0, .ref l0), (1, .ref l1), (2, .ref l2), (3, .int l3), (4, .int (if x27 < x26 then x27 else x26)), (5, .int z28), (6, .int (z31 + (1 : Int32)))]) [1, 2, 3, 4, 5, 6, 0] rfl ?_
        exact kI6 ((z31 + (1 : Int32)), h39) e0_6
      · replace e := ifn c46 e
        refine j_iload C dX2_becomeProduct_62 rfl ?_
        refine j_aload_n C dX2_becomeProduct_64 rfl rfl ?_
        replace e := ob e
        obtain ⟨x40, ex40, e⟩ := e
        refine j_getr (ci := 2) (RC := RX2) (T := TX2) (N := 7) 2 C rfl klX2 (Nat.le_of_ble_eq_true rfl) kX2_18 rfl dX2_becomeProduct_65 ex40 ?_
        refine j_iload C dX2_becomeProduct_68 rfl ?_
        refine j_aload_n C dX2_becomeProduct_70 rfl rfl ?_
        replace e := ob e
        obtain ⟨x41, ex41, e⟩ := e
        refine j_geti (ci := 2) (RC := RX2) (T := TX2) (N := 7) 1 C rfl klX2 (Nat.le_of_ble_eq_true rfl) kX2_15 rfl dX2_becomeProduct_71 ex41 ?_
        refine j_imul C dX2_becomeProduct_74 ?_
        refine j_iload C dX2_becomeProduct_75 rfl ?_
        refine j_iadd C dX2_becomeProduct_77 ?_
        replace e := ob e
        obtain ⟨x42, ex42, e⟩ := e
        refine j_iald C dX2_becomeProduct_78 ex42 ?_
        refine j_aload_n C dX2_becomeProduct_79 rfl rfl ?_
        replace e := ob e
        obtain ⟨x43, ex43, e⟩ := e
        refine j_getr (ci := 2) (RC := RX2) (T := TX2) (N := 7) 2 C rfl klX2 (Nat.le_of_ble_eq_true rfl) kX2_18 rfl dX2_becomeProduct_80 ex43 ?_
        refine j_iload C dX2_becomeProduct_83 rfl ?_
        refine j_aload_n C dX2_becomeProduct_85 rfl rfl ?_
        replace e := ob e
        obtain ⟨x44, ex44, e⟩ := e
        refine j_geti (ci := 2) (RC := RX2) (T := TX2) (N := 7) 1 C rfl klX2 (Nat.le_of_ble_eq_true rfl) kX2_15 rfl dX2_becomeProduct_86 ex44 ?_
        refine j_imul C dX2_becomeProduct_89 ?_
        refine j_iload C dX2_becomeProduct_90 rfl ?_
        refine j_iadd C dX2_becomeProduct_92 ?_
        replace e := ob e
        obtain ⟨x45, ex45, e⟩ := e
        refine j_iald C dX2_becomeProduct_93 ex45 ?_
        refine j_imul C dX2_becomeProduct_94 ?_
        refine j_iadd C dX2_becomeProduct_95 ?_
        refine j_istore (lv1 := [(7, .int (z34 + (x42 * x45))), (0, .ref l0), (1, .ref l1), (2, .ref l2), (3, .int l3), (4, .int (if x27 < x26 then x27 else x26)), (5, .int z28), (6, .int z31), (8, .int z35)]) C hL dX2_becomeProduct_96 (Nat.le_of_ble_eq_true rfl) rfl ?_
        refine j_iinc (v := (z35 + (1 : Int32))) (lv1 := [(8, .int (z35 + (1 : Int32))), (7, .int (z34 + (x42 * x45))), (0, .ref l0), (1, .ref l1), (2, .ref l2), (3, .int l3), (4, .int (if x27 < x26 then x27 else x26)), (5, .int z28), (6, .int z31)]) C hL dX2_becomeProduct_98 rfl rfl (Nat.le_of_ble_eq_true rfl) rfl ?_
        refine j_goto (tgt := 55) C dX2_becomeProduct_101 (by decide) ?_
        obtain rfl := Option.some.inj e
        refine jx_sub (lv' := [(0, .ref l0), (1, .ref l1), (2, .ref l2), (3, .int l3), (4, .int (if x27 < x26 then x27 else x26)), (5, .int z28), (6, .int z31), (7, .int (z34 + (x42 * x45))), (8, .int (z35 + (1 : Int32)))]) [2, 3, 4, 5, 6, 7, 8, 1, 0] rfl ?_
        exact kI8 ((z34 + (x42 * x45)), (z35 + (1 : Int32))) e0_8
/-! BorderBasis$Matrix.becomePower(LBorderBasis$Matrix;ILBorderBasis$Matrix;I)V -/
noncomputable def BX2_becomePower_58 (l0 : Nat) (l1 : Nat) (l3 : Nat) (l4 : Int32) (l5 : Int32) (h : jx_H) : Option ((Int32 × jx_H) ⊕ (jx_H)) :=
some (.inl ((l5 >>> ((1 : Int32) &&& 31)), h))
noncomputable def BX2_becomePower_38 (l0 : Nat) (l1 : Nat) (l3 : Nat) (l4 : Int32) (l5 : Int32) (h : jx_H) : Option ((Int32 × jx_H) ⊕ (jx_H)) :=
if l5 ≤ (1 : Int32) then
 BX2_becomePower_58 l0 l1 l3 l4 l5 h
else
 (isO h l3 2).bind fun _ =>
 (FX2_becomeProduct l3 l1 l1 l4 h).bind fun h5 =>
 (isO h5 l1 2).bind fun _ =>
 (FX2_copyRows l1 l3 (0 : Int32) h5).bind fun h7 =>
 BX2_becomePower_58 l0 l1 l3 l4 l5 h7
noncomputable def LX2_becomePower_11 (l0 : Nat) (l1 : Nat) (l3 : Nat) (l4 : Int32) (l5 : Int32) (h : jx_H) : Option ((Int32 × jx_H) ⊕ (jx_H)) :=
if l5 ≤ 0 then
 exL (some h)
else
 if (l5 &&& (1 : Int32)) = (1 : Int32) then
  (isO h l3 2).bind fun _ =>
  (FX2_becomeProduct l3 l0 l1 l4 h).bind fun h10 =>
  (isO h10 l0 2).bind fun _ =>
  (FX2_copyRows l0 l3 (0 : Int32) h10).bind fun h12 =>
  BX2_becomePower_38 l0 l1 l3 l4 l5 h12
 else
  BX2_becomePower_38 l0 l1 l3 l4 l5 h
noncomputable def FX2_becomePower (l0 : Nat) (l1 : Nat) (l2 : Int32) (l3 : Nat) (l4 : Int32) (h : jx_H) : Option (jx_H) :=
(hgi h l1 2 4).bind fun x1 =>
(isO h l0 2).bind fun _ =>
(FX2_becomeIdentity l0 x1 h).bind fun h3 =>
itr (fun s : Int32 × jx_H => LX2_becomePower_11 l0 l1 l3 l4 s.1 s.2) (l2, h3)
def rmX2_becomePower : Room := { frames := 3, cells := 0, slots := 0, locals := 73 }
set_option maxRecDepth 20000 in
set_option maxHeartbeats 4000000 in
theorem sX2_becomePower {l0 : Nat} {l1 : Nat} {l2 : Int32} {l3 : Nat} {l4 : Int32} {h : jx_H} {h9 : jx_H} (e : FX2_becomePower l0 l1 l2 l3 l4 h = some h9) : jx_Ct yX2_becomePower cX2_becomePower 6 none rmX2_becomePower [.ref l0, .ref l1, .int l2, .ref l3, .int l4] h (fun r' h' => none = r' ∧ h9 = h') := by
  refine jx_Ct.of (own := RX2) (by decide) rfl (Nat.le_of_ble_eq_true rfl) (fun X C hq hr hL hN => ?_)
  refine jx_sub (lv' := [(0, .ref l0), (1, .ref l1), (2, .int l2), (3, .ref l3), (4, .int l4)]) [0, 1, 2, 3, 4] rfl ?_
  unfold FX2_becomePower at e
  refine j_aload_n C dX2_becomePower_0 rfl rfl ?_
  refine j_aload_n C dX2_becomePower_1 rfl rfl ?_
  replace e := ob e
  obtain ⟨x15, ex15, e⟩ := e
  refine j_geti (ci := 2) (RC := RX2) (T := TX2) (N := 7) 4 C rfl klX2 (Nat.le_of_ble_eq_true rfl) kX2_31 rfl dX2_becomePower_2 ex15 ?_
  replace e := ob e
  obtain ⟨_, eo16, e⟩ := e
  replace e := ob e
  obtain ⟨h17, eh17, e⟩ := e
  refine j_callV (ci := 2) (RC := RX2) (T := TX2) (N := 7) (As := [.int x15]) (b := l0) (na := 1) (st := []) (k1 := 0) (n1 := 0) C hr (sX2_becomeIdentity eh17) rfl eo16 kX2_71 kim_X2_becomeIdentity ksel_X2_becomeIdentity kini_X2 kc_X2_becomeIdentity (by decide) rfl ⟨(Nat.le_of_ble_eq_true rfl), (Nat.le_of_ble_eq_true rfl)⟩ (Nat.le_of_ble_eq_true rfl) ⟨rfl, rfl, (Nat.le_of_ble_eq_true rfl), (Nat.le_of_ble_eq_true rfl)⟩ dX2_becomePower_5 ?_
  rintro _ _ ⟨rfl, rfl⟩
  show jx_J X 0 0 8 [(0, .ref l0), (1, .ref l1), (2, .int l2), (3, .ref l3), (4, .int l4)] [] h17
  refine j_iload_n C dX2_becomePower_8 rfl rfl ?_
  refine j_istore (lv1 := [(5, .int l2), (0, .ref l0), (1, .ref l1), (2, .int l2), (3, .ref l3), (4, .int l4)]) C hL dX2_becomePower_9 (Nat.le_of_ble_eq_true rfl) rfl ?_
  refine jx_sub (lv' := [(0, .ref l0), (1, .ref l1), (3, .ref l3), (4, .int l4), (5, .int l2)]) [1, 2, 4, 5, 0] rfl ?_
  refine itr_ind (s0 := (l2, h17)) (fun s : Int32 × jx_H => jx_J X 0 0 11 [(0, .ref l0), (1, .ref l1), (3, .ref l3), (4, .int l4), (5, .int s.1)] [] s.2) e ?_
  clear e
  intro s kI2 kT2 e0
  obtain ⟨z18, h19⟩ := s
  obtain ⟨u2, e0_2⟩ := e0
  have e : LX2_becomePower_11 l0 l1 l3 l4 z18 h19 = some u2 := e0_2
  have b58 : ∀ (y20 : Int32) (h21 : jx_H), BX2_becomePower_58 l0 l1 l3 l4 y20 h21 = some u2 → jx_J X 0 0 58 [(0, .ref l0), (1, .ref l1), (3, .ref l3), (4, .int l4), (5, .int y20)] [] h21 := by
    intro y20 h21 e
    unfold BX2_becomePower_58 at e
    refine j_iload C dX2_becomePower_58 rfl ?_
    refine j_iconst (v := (1 : Int32)) C dX2_becomePower_60 (by decide) ?_
    refine j_ishr C dX2_becomePower_61 ?_
    refine j_istore (lv1 := [(5, .int (y20 >>> ((1 : Int32) &&& 31))), (0, .ref l0), (1, .ref l1), (3, .ref l3), (4, .int l4)]) C hL dX2_becomePower_62 (Nat.le_of_ble_eq_true rfl) rfl ?_
    refine j_goto (tgt := 11) C dX2_becomePower_64 (by decide) ?_
    obtain rfl := Option.some.inj e
    refine jx_sub (lv' := [(0, .ref l0), (1, .ref l1), (3, .ref l3), (4, .int l4), (5, .int (y20 >>> ((1 : Int32) &&& 31)))]) [1, 2, 3, 4, 0] rfl ?_
    exact kI2 ((y20 >>> ((1 : Int32) &&& 31)), h21) e0_2
  have b38 : ∀ (y22 : Int32) (h23 : jx_H), BX2_becomePower_38 l0 l1 l3 l4 y22 h23 = some u2 → jx_J X 0 0 38 [(0, .ref l0), (1, .ref l1), (3, .ref l3), (4, .int l4), (5, .int y22)] [] h23 := by
    intro y22 h23 e
    unfold BX2_becomePower_38 at e
    refine j_iload C dX2_becomePower_38 rfl ?_
    refine j_iconst (v := (1 : Int32)) C dX2_becomePower_40 (by decide) ?_
    refine j_icmp_le (tgt := 58) C dX2_becomePower_41 (by decide) (fun c28 => ?_) (fun c28 => ?_)
    · replace e := ifp c28 e
      exact b58 y22 h23 e
    · replace e := ifn c28 e
      refine j_aload_n C dX2_becomePower_44 rfl rfl ?_
      refine j_aload_n C dX2_becomePower_45 rfl rfl ?_
      refine j_aload_n C dX2_becomePower_46 rfl rfl ?_
      refine j_iload C dX2_becomePower_47 rfl ?_
      replace e := ob e
      obtain ⟨_, eo24, e⟩ := e
      replace e := ob e
      obtain ⟨h25, eh25, e⟩ := e
      refine j_callV (ci := 2) (RC := RX2) (T := TX2) (N := 7) (As := [.ref l1, .ref l1, .int l4]) (b := l3) (na := 3) (st := []) (k1 := 0) (n1 := 0) C hr (sX2_becomeProduct eh25) rfl eo24 kX2_75 kim_X2_becomeProduct ksel_X2_becomeProduct kini_X2 kc_X2_becomeProduct (by decide) rfl ⟨(Nat.le_of_ble_eq_true rfl), (Nat.le_of_ble_eq_true rfl)⟩ (Nat.le_of_ble_eq_true rfl) ⟨rfl, rfl, (Nat.le_of_ble_eq_true rfl), (Nat.le_of_ble_eq_true rfl)⟩ dX2_becomePower_49 ?_
      rintro _ _ ⟨rfl, rfl⟩
      show jx_J X 0 0 52 [(0, .ref l0), (1, .ref l1), (3, .ref l3), (4, .int l4), (5, .int y22)] [] h25
      refine j_aload_n C dX2_becomePower_52 rfl rfl ?_
      refine j_aload_n C dX2_becomePower_53 rfl rfl ?_
      refine j_iconst (v := (0 : Int32)) C dX2_becomePower_54 (by decide) ?_
      replace e := ob e
      obtain ⟨_, eo26, e⟩ := e
      replace e := ob e
      obtain ⟨h27, eh27, e⟩ := e
      refine j_callV (ci := 2) (RC := RX2) (T := TX2) (N := 7) (As := [.ref l3, .int (0 : Int32)]) (b := l1) (na := 2) (st := []) (k1 := 0) (n1 := 0) C hr (sX2_copyRows eh27) rfl eo26 kX2_55 kim_X2_copyRows ksel_X2_copyRows kini_X2 kc_X2_copyRows (by decide) rfl ⟨(Nat.le_of_ble_eq_true rfl), (Nat.le_of_ble_eq_true rfl)⟩ (Nat.le_of_ble_eq_true rfl) ⟨rfl, rfl, (Nat.le_of_ble_eq_true rfl), (Nat.le_of_ble_eq_true rfl)⟩ dX2_becomePower_55 ?_
      rintro _ _ ⟨rfl, rfl⟩
      show jx_J X 0 0 58 [(0, .ref l0), (1, .ref l1), (3, .ref l3), (4, .int l4), (5, .int y22)] [] h27
      exact b58 y22 h27 e
  unfold LX2_becomePower_11 at e
  refine j_iload C dX2_becomePower_11 rfl ?_
  refine j_if_le (tgt := 67) C dX2_becomePower_13 (by decide) (fun c34 => ?_) (fun c34 => ?_)
  · replace e := ifp c34 e
    obtain ⟨t_3, e_3, eu_3⟩ := exL_spec e
    obtain rfl := kT2 t_3 (e0_2.trans (congrArg some eu_3))
    replace e := e_3
    cases e
    exact j_vret C hq dX2_becomePower_67 ⟨Nat.le_of_ble_eq_true rfl, Nat.le_of_ble_eq_true rfl⟩ ⟨rfl, rfl⟩
  · replace e := ifn c34 e
    refine j_iload C dX2_becomePower_16 rfl ?_
    refine j_iconst (v := (1 : Int32)) C dX2_becomePower_18 (by decide) ?_
    refine j_iand C dX2_becomePower_19 ?_
    refine j_iconst (v := (1 : Int32)) C dX2_becomePower_20 (by decide) ?_
    refine j_icmp_ne (tgt := 38) C dX2_becomePower_21 (by decide) (fun c33 => ?_) (fun c33 => ?_)
    · replace e := ifn c33 e
      exact b38 z18 h19 e
    · replace e := ifp c33 e
      refine j_aload_n C dX2_becomePower_24 rfl rfl ?_
      refine j_aload_n C dX2_becomePower_25 rfl rfl ?_
      refine j_aload_n C dX2_becomePower_26 rfl rfl ?_
      refine j_iload C dX2_becomePower_27 rfl ?_
      replace e := ob e
      obtain ⟨_, eo29, e⟩ := e
      replace e := ob e
      obtain ⟨h30, eh30, e⟩ := e
      refine j_callV (ci := 2) (RC := RX2) (T := TX2) (N := 7) (As := [.ref l0, .ref l1, .int l4]) (b := l3) (na := 3) (st := []) (k1 := 0) (n1 := 0) C hr (sX2_becomeProduct eh30) rfl eo29 kX2_75 kim_X2_becomeProduct ksel_X2_becomeProduct kini_X2 kc_X2_becomeProduct (by decide) rfl ⟨(Nat.le_of_ble_eq_true rfl), (Nat.le_of_ble_eq_true rfl)⟩ (Nat.le_of_ble_eq_true rfl) ⟨rfl, rfl, (Nat.le_of_ble_eq_true rfl), (Nat.le_of_ble_eq_true rfl)⟩ dX2_becomePower_29 ?_
      rintro _ _ ⟨rfl, rfl⟩
      show jx_J X 0 0 32 [(0, .ref l0), (1, .ref l1), (3, .ref l3), (4, .int l4), (5, .int z18)] [] h30
      refine j_aload_n C dX2_becomePower_32 rfl rfl ?_
      refine j_aload_n C dX2_becomePower_33 rfl rfl ?_
      refine j_iconst (v := (0 : Int32)) C dX2_becomePower_34 (by decide) ?_
      replace e := ob e
      obtain ⟨_, eo31, e⟩ := e
      replace e := ob e
      obtain ⟨h32, eh32, e⟩ := e
      refine j_callV (ci := 2) (RC := RX2) (T := TX2) (N := 7) (As := [.ref l3, .int (0 : Int32)]) (b := l0) (na := 2) (st := []) (k1 := 0) (n1 := 0) C hr (sX2_copyRows eh32) rfl eo31 kX2_55 kim_X2_copyRows ksel_X2_copyRows kini_X2 kc_X2_copyRows (by decide) rfl ⟨(Nat.le_of_ble_eq_true rfl), (Nat.le_of_ble_eq_true rfl)⟩ (Nat.le_of_ble_eq_true rfl) ⟨rfl, rfl, (Nat.le_of_ble_eq_true rfl), (Nat.le_of_ble_eq_true rfl)⟩ dX2_becomePower_35 ?_
      rintro _ _ ⟨rfl, rfl⟩
      show jx_J X 0 0 38 [(0, .ref l0), (1, .ref l1), (3, .ref l3), (4, .int l4), (5, .int z18)] [] h32
      exact b38 z18 h32 e
/-! BorderBasis$Matrix.traceOfProduct(LBorderBasis$Matrix;I)I -/
noncomputable def LX2_traceOfProduct_17 (l0 : Nat) (l1 : Nat) (l2 : Int32) (l4 : Int32) (l3 : Int32) (l5 : Int32) (h : jx_H) : Option ((Int32 × Int32) ⊕ ((Int32 × Int32) ⊕ (Int32))) :=
(hgi h l0 2 5).bind fun x3 =>
if x3 ≤ l5 then
 exL (some (.inl (l3, (l4 + (1 : Int32)))))
else
 (isO h l0 2).bind fun _ =>
 (FX2_at l0 l4 l5 h).bind fun x5 =>
 (isO h l1 2).bind fun _ =>
 (FX2_at l1 l5 l4 h).bind fun x7 =>
 some (.inl ((l3 + (x5 * x7)), (l5 + (1 : Int32))))
noncomputable def LX2_traceOfProduct_5 (l0 : Nat) (l1 : Nat) (l2 : Int32) (l3 : Int32) (l4 : Int32) (h : jx_H) : Option ((Int32 × Int32) ⊕ (Int32)) :=
(hgi h l0 2 4).bind fun x1 =>
if x1 ≤ l4 then
 exL ((FX9_residue l3 l2 h).bind fun x2 =>
 some x2)
else
 itr (fun s : Int32 × Int32 => LX2_traceOfProduct_17 l0 l1 l2 l4 s.1 s.2 h) (l3, (0 : Int32))
noncomputable def FX2_traceOfProduct (l0 : Nat) (l1 : Nat) (l2 : Int32) (h : jx_H) : Option (Int32) :=
itr (fun s : Int32 × Int32 => LX2_traceOfProduct_5 l0 l1 l2 s.1 s.2 h) ((0 : Int32), (0 : Int32))
def rmX2_traceOfProduct : Room := { frames := 2, cells := 0, slots := 0, locals := 44 }
set_option maxRecDepth 20000 in
set_option maxHeartbeats 4000000 in
theorem sX2_traceOfProduct {l0 : Nat} {l1 : Nat} {l2 : Int32} {h : jx_H} {r : Int32}  (e : FX2_traceOfProduct l0 l1 l2 h = some r) : jx_Ct yX2_traceOfProduct cX2_traceOfProduct 6 (some .int) rmX2_traceOfProduct [.ref l0, .ref l1, .int l2] h (fun r' h' => some (.int r) = r' ∧ h = h') := by
  refine jx_Ct.of (own := RX2) (by decide) rfl (Nat.le_of_ble_eq_true rfl) (fun X C hq hr hL hN => ?_)
  refine jx_sub (lv' := [(0, .ref l0), (1, .ref l1), (2, .int l2)]) [0, 1, 2] rfl ?_
  unfold FX2_traceOfProduct at e
  refine j_iconst (v := (0 : Int32)) C dX2_traceOfProduct_0 (by decide) ?_
  refine j_istore_n (lv1 := [(3, .int (0 : Int32)), (0, .ref l0), (1, .ref l1), (2, .int l2)]) C hL dX2_traceOfProduct_1 rfl (Nat.le_of_ble_eq_true rfl) rfl ?_
  refine j_iconst (v := (0 : Int32)) C dX2_traceOfProduct_2 (by decide) ?_
  refine j_istore (lv1 := [(4, .int (0 : Int32)), (3, .int (0 : Int32)), (0, .ref l0), (1, .ref l1), (2, .int l2)]) C hL dX2_traceOfProduct_3 (Nat.le_of_ble_eq_true rfl) rfl ?_
  refine jx_sub (lv' := [(0, .ref l0), (1, .ref l1), (2, .int l2), (3, .int (0 : Int32)), (4, .int (0 : Int32))]) [2, 3, 4, 1, 0] rfl ?_
  refine itr_ind (s0 := ((0 : Int32), (0 : Int32))) (fun s : Int32 × Int32 => jx_J X 0 0 5 [(0, .ref l0), (1, .ref l1), (2, .int l2), (3, .int s.1), (4, .int s.2)] [] h) e ?_
  clear e
  intro s kI3 kT3 e0
  obtain ⟨z10, z11⟩ := s
  obtain ⟨u3, e0_3⟩ := e0
  have e : LX2_traceOfProduct_5 l0 l1 l2 z10 z11 h = some u3 := e0_3
  unfold LX2_traceOfProduct_5 at e
  refine j_iload C dX2_traceOfProduct_5 rfl ?_
  refine j_aload_n C dX2_traceOfProduct_7 rfl rfl ?_
  replace e := ob e
  obtain ⟨x12, ex12, e⟩ := e
  refine j_geti (ci := 2) (RC := RX2) (T := TX2) (N := 7) 4 C rfl klX2 (Nat.le_of_ble_eq_true rfl) kX2_31 rfl dX2_traceOfProduct_8 ex12 ?_
  refine j_icmp_ge (tgt := 58) C dX2_traceOfProduct_11 (by decide) (fun c22 => ?_) (fun c22 => ?_)
  · replace e := ifp c22 e
    obtain ⟨t_4, e_4, eu_4⟩ := exL_spec e
    obtain rfl := kT3 t_4 (e0_3.trans (congrArg some eu_4))
    replace e := e_4
    refine j_iload_n C dX2_traceOfProduct_58 rfl rfl ?_
    refine j_iload_n C dX2_traceOfProduct_59 rfl rfl ?_
    replace e := ob e
    obtain ⟨x13, ex13, e⟩ := e
    refine j_callSN (As := [.int z10, .int l2]) (na := 2) (st := []) (k1 := 0) (n1 := 0) C hr (sX9_residue ex13) kX2_62 kst_X9_residue kini_X9 kc_X9_residue (by decide) rfl ⟨(Nat.le_of_ble_eq_true rfl), (Nat.le_of_ble_eq_true rfl)⟩ (Nat.le_of_ble_eq_true rfl) ⟨rfl, rfl, (Nat.le_of_ble_eq_true rfl), (Nat.le_of_ble_eq_true rfl)⟩ dX2_traceOfProduct_60 ?_
    rintro _ _ ⟨rfl, rfl⟩
    show jx_J X 0 0 63 [(0, .ref l0), (1, .ref l1), (2, .int l2), (3, .int z10), (4, .int z11)] [.int x13] h
    cases e
    exact j_iret C hq rfl dX2_traceOfProduct_63 ⟨Nat.le_of_ble_eq_true rfl, Nat.le_of_ble_eq_true rfl⟩ ⟨rfl, rfl⟩
  · replace e := ifn c22 e
    refine j_iconst (v := (0 : Int32)) C dX2_traceOfProduct_14 (by decide) ?_
    refine j_istore (lv1 := [(5, .int (0 : Int32)), (0, .ref l0), (1, .ref l1), (2, .int l2), (3, .int z10), (4, .int z11)]) C hL dX2_traceOfProduct_15 (Nat.le_of_ble_eq_true rfl) rfl ?_
    refine jx_sub (lv' := [(0, .ref l0), (1, .ref l1), (2, .int l2), (3, .int z10), (4, .int z11), (5, .int (0 : Int32))]) [1, 2, 3, 4, 5, 0] rfl ?_
    refine itr_ind (s0 := (z10, (0 : Int32))) (fun s : Int32 × Int32 => jx_J X 0 0 17 [(0, .ref l0), (1, .ref l1), (2, .int l2), (3, .int s.1), (4, .int z11), (5, .int s.2)] [] h) e ?_
    clear e
    intro s kI5 kT5 e0
    obtain ⟨z14, z15⟩ := s
    obtain ⟨u5, e0_5⟩ := e0
    have e : LX2_traceOfProduct_17 l0 l1 l2 z11 z14 z15 h = some u5 := e0_5
    unfold LX2_traceOfProduct_17 at e
    refine j_iload C dX2_traceOfProduct_17 rfl ?_
    refine j_aload_n C dX2_traceOfProduct_19 rfl rfl ?_
    replace e := ob e
    obtain ⟨x16, ex16, e⟩ := e
    refine j_geti (ci := 2) (RC := RX2) (T := TX2) (N := 7) 5 C rfl klX2 (Nat.le_of_ble_eq_true rfl) kX2_34 rfl dX2_traceOfProduct_20 ex16 ?_
    refine j_icmp_ge (tgt := 52) C dX2_traceOfProduct_23 (by decide) (fun c21 => ?_) (fun c21 => ?_)
    · replace e := ifp c21 e
      obtain ⟨t_6, e_6, eu_6⟩ := exL_spec e
      obtain rfl := kT5 t_6 (e0_5.trans (congrArg some eu_6))
      replace e := e_6
      refine j_iinc (v := (z11 + (1 : Int32))) (lv1 := [(4, .int (z11 + (1 : Int32))), (0, .ref l0), (1, .ref l1), (2, .int l2), (3, .int z14), (5, .int z15)]) C hL dX2_traceOfProduct_52 rfl rfl (Nat.le_of_ble_eq_true rfl) rfl ?_
      refine j_goto (tgt := 5) C dX2_traceOfProduct_55 (by decide) ?_
      obtain rfl := Option.some.inj e
      refine jx_sub (lv' := [(0, .ref l0), (1, .ref l1), (2, .int l2), (3, .int z14), (4, .int (z11 + (1 : Int32)))]) [1, 2, 3, 4, 0] rfl ?_
      exact kI3 (z14, (z11 + (1 : Int32))) e0_3
    · replace e := ifn c21 e
      refine j_iload_n C dX2_traceOfProduct_26 rfl rfl ?_
      refine j_aload_n C dX2_traceOfProduct_27 rfl rfl ?_
      refine j_iload C dX2_traceOfProduct_28 rfl ?_
      refine j_iload C dX2_traceOfProduct_30 rfl ?_
      replace e := ob e
      obtain ⟨_, eo17, e⟩ := e
      replace e := ob e
      obtain ⟨x18, ex18, e⟩ := e
      refine j_callV (ci := 2) (RC := RX2) (T := TX2) (N := 7) (As := [.int z11, .int z15]) (b := l0) (na := 2) (st := [.int z14]) (k1 := 0) (n1 := 0) C hr (sX2_at ex18) rfl eo17 kX2_59 kim_X2_at ksel_X2_at kini_X2 kc_X2_at (by decide) rfl ⟨(Nat.le_of_ble_eq_true rfl), (Nat.le_of_ble_eq_true rfl)⟩ (Nat.le_of_ble_eq_true rfl) ⟨rfl, rfl, (Nat.le_of_ble_eq_true rfl), (Nat.le_of_ble_eq_true rfl)⟩ dX2_traceOfProduct_32 ?_
      rintro _ _ ⟨rfl, rfl⟩
      show jx_J X 0 0 35 [(0, .ref l0), (1, .ref l1), (2, .int l2), (3, .int z14), (4, .int z11), (5, .int z15)] [.int x18, .int z14] h
      refine j_aload_n C dX2_traceOfProduct_35 rfl rfl ?_
      refine j_iload C dX2_traceOfProduct_36 rfl ?_
      refine j_iload C dX2_traceOfProduct_38 rfl ?_
      replace e := ob e
      obtain ⟨_, eo19, e⟩ := e
      replace e := ob e
      obtain ⟨x20, ex20, e⟩ := e
      refine j_callV (ci := 2) (RC := RX2) (T := TX2) (N := 7) (As := [.int z15, .int z11]) (b := l1) (na := 2) (st := [.int x18, .int z14]) (k1 := 0) (n1 := 0) C hr (sX2_at ex20) rfl eo19 kX2_59 kim_X2_at ksel_X2_at kini_X2 kc_X2_at (by decide) rfl ⟨(Nat.le_of_ble_eq_true rfl), (Nat.le_of_ble_eq_true rfl)⟩ (Nat.le_of_ble_eq_true rfl) ⟨rfl, rfl, (Nat.le_of_ble_eq_true rfl), (Nat.le_of_ble_eq_true rfl)⟩ dX2_traceOfProduct_40 ?_
      rintro _ _ ⟨rfl, rfl⟩
      show jx_J X 0 0 43 [(0, .ref l0), (1, .ref l1), (2, .int l2), (3, .int z14), (4, .int z11), (5, .int z15)] [.int x20, .int x18, .int z14] h
      refine j_imul C dX2_traceOfProduct_43 ?_
      refine j_iadd C dX2_traceOfProduct_44 ?_
      refine j_istore_n (lv1 := [(3, .int (z14 + (x18 * x20))), (0, .ref l0), (1, .ref l1), (2, .int l2), (4, .int z11), (5, .int z15)]) C hL dX2_traceOfProduct_45 rfl (Nat.le_of_ble_eq_true rfl) rfl ?_
      refine j_iinc (v := (z15 + (1 : Int32))) (lv1 := [(5, .int (z15 + (1 : Int32))), (3, .int (z14 + (x18 * x20))), (0, .ref l0), (1, .ref l1), (2, .int l2), (4, .int z11)]) C hL dX2_traceOfProduct_46 rfl rfl (Nat.le_of_ble_eq_true rfl) rfl ?_
      refine j_goto (tgt := 17) C dX2_traceOfProduct_49 (by decide) ?_
      obtain rfl := Option.some.inj e
      refine jx_sub (lv' := [(0, .ref l0), (1, .ref l1), (2, .int l2), (3, .int (z14 + (x18 * x20))), (4, .int z11), (5, .int (z15 + (1 : Int32)))]) [2, 3, 4, 1, 5, 0] rfl ?_
      exact kI5 ((z14 + (x18 * x20)), (z15 + (1 : Int32))) e0_5
/-! BorderBasis$Matrix.applyTo([I[II)V -/
noncomputable def LX2_applyTo_39 (l0 : Nat) (l1 : Nat) (l2 : Nat) (l3 : Int32) (l4 : Int32) (l5 : Int32) (l6 : Int32) (l7 : Int32) (h : jx_H) : Option ((Int32 × Int32) ⊕ ((Int32 × jx_H) ⊕ (jx_H))) :=
if l4 ≤ l7 then
 exL ((FX9_residue l6 l3 h).bind fun x6 =>
 (has h .int l2 l5 x6).bind fun h7 =>
 some (.inl ((l5 + (1 : Int32)), h7)))
else
 (hgr h l0 2 2).bind fun x8 =>
 (hgi h l0 2 1).bind fun x9 =>
 (hal h .int x8 ((l5 * x9) + l7)).bind fun x10 =>
 (hal h .int l1 l7).bind fun x11 =>
 some (.inl ((l6 + (x10 * x11)), (l7 + (1 : Int32))))
noncomputable def LX2_applyTo_26 (l0 : Nat) (l1 : Nat) (l2 : Nat) (l3 : Int32) (l4 : Int32) (l5 : Int32) (h : jx_H) : Option ((Int32 × jx_H) ⊕ (jx_H)) :=
if l4 ≤ l5 then
 exL ((hcp h l2 (0 : Int32) l1 (0 : Int32) l4).bind fun h5 =>
 some h5)
else
 itr (fun s : Int32 × Int32 => LX2_applyTo_39 l0 l1 l2 l3 l4 l5 s.1 s.2 h) ((0 : Int32), (0 : Int32))
noncomputable def FX2_applyTo (l0 : Nat) (l1 : Nat) (l2 : Nat) (l3 : Int32) (h : jx_H) : Option (jx_H) :=
(hgi h l0 2 4).bind fun x1 =>
(hgi h l0 2 5).bind fun x2 =>
(hlen h l1).bind fun x3 =>
(hlen h l2).bind fun x4 =>
itr (fun s : Int32 × jx_H => LX2_applyTo_26 l0 l1 l2 l3 (if (if x4 < x3 then x4 else x3) < (if x2 < x1 then x2 else x1) then (if x4 < x3 then x4 else x3) else (if x2 < x1 then x2 else x1)) s.1 s.2) ((0 : Int32), h)
def rmX2_applyTo : Room := { frames := 1, cells := 0, slots := 0, locals := 31 }
set_option maxRecDepth 20000 in
set_option maxHeartbeats 4000000 in
theorem sX2_applyTo {l0 : Nat} {l1 : Nat} {l2 : Nat} {l3 : Int32} {h : jx_H} {h9 : jx_H} (e : FX2_applyTo l0 l1 l2 l3 h = some h9) : jx_Ct yX2_applyTo cX2_applyTo 8 none rmX2_applyTo [.ref l0, .ref l1, .ref l2, .int l3] h (fun r' h' => none = r' ∧ h9 = h') := by
  refine jx_Ct.of (own := RX2) (by decide) rfl (Nat.le_of_ble_eq_true rfl) (fun X C hq hr hL hN => ?_)
  refine jx_sub (lv' := [(0, .ref l0), (1, .ref l1), (2, .ref l2), (3, .int l3)]) [0, 1, 2, 3] rfl ?_
  unfold FX2_applyTo at e
  refine j_aload_n C dX2_applyTo_0 rfl rfl ?_
  replace e := ob e
  obtain ⟨x14, ex14, e⟩ := e
  refine j_geti (ci := 2) (RC := RX2) (T := TX2) (N := 7) 4 C rfl klX2 (Nat.le_of_ble_eq_true rfl) kX2_31 rfl dX2_applyTo_1 ex14 ?_
  refine j_aload_n C dX2_applyTo_4 rfl rfl ?_
  replace e := ob e
  obtain ⟨x15, ex15, e⟩ := e
  refine j_geti (ci := 2) (RC := RX2) (T := TX2) (N := 7) 5 C rfl klX2 (Nat.le_of_ble_eq_true rfl) kX2_34 rfl dX2_applyTo_5 ex15 ?_
  refine j_min C hr kX2_25 kst_Math_min kini_J9 kc_Math_min dX2_applyTo_8 (Nat.le_of_ble_eq_true rfl) (Nat.le_of_ble_eq_true rfl) ⟨(Nat.le_of_ble_eq_true rfl), (Nat.le_of_ble_eq_true rfl)⟩ ?_
  refine j_aload_n C dX2_applyTo_11 rfl rfl ?_
  replace e := ob e
  obtain ⟨x16, ex16, e⟩ := e
  refine j_alen C dX2_applyTo_12 ex16 ?_
  refine j_aload_n C dX2_applyTo_13 rfl rfl ?_
  replace e := ob e
  obtain ⟨x17, ex17, e⟩ := e
  refine j_alen C dX2_applyTo_14 ex17 ?_
  refine j_min C hr kX2_25 kst_Math_min kini_J9 kc_Math_min dX2_applyTo_15 (Nat.le_of_ble_eq_true rfl) (Nat.le_of_ble_eq_true rfl) ⟨(Nat.le_of_ble_eq_true rfl), (Nat.le_of_ble_eq_true rfl)⟩ ?_
  refine j_min C hr kX2_25 kst_Math_min kini_J9 kc_Math_min dX2_applyTo_18 (Nat.le_of_ble_eq_true rfl) (Nat.le_of_ble_eq_true rfl) ⟨(Nat.le_of_ble_eq_true rfl), (Nat.le_of_ble_eq_true rfl)⟩ ?_
  refine j_istore (lv1 := [(4, .int (if (if x17 < x16 then x17 else x16) < (if x15 < x14 then x15 else x14) then (if x17 < x16 then x17 else x16) else (if x15 < x14 then x15 else x14))), (0, .ref l0), (1, .ref l1), (2, .ref l2), (3, .int l3)]) C hL dX2_applyTo_21 (Nat.le_of_ble_eq_true rfl) rfl ?_
  refine j_iconst (v := (0 : Int32)) C dX2_applyTo_23 (by decide) ?_
  refine j_istore (lv1 := [(5, .int (0 : Int32)), (4, .int (if (if x17 < x16 then x17 else x16) < (if x15 < x14 then x15 else x14) then (if x17 < x16 then x17 else x16) else (if x15 < x14 then x15 else x14))), (0, .ref l0), (1, .ref l1), (2, .ref l2), (3, .int l3)]) C hL dX2_applyTo_24 (Nat.le_of_ble_eq_true rfl) rfl ?_
  refine jx_sub (lv' := [(0, .ref l0), (1, .ref l1), (2, .ref l2), (3, .int l3), (4, .int (if (if x17 < x16 then x17 else x16) < (if x15 < x14 then x15 else x14) then (if x17 < x16 then x17 else x16) else (if x15 < x14 then x15 else x14))), (5, .int (0 : Int32))]) [2, 3, 4, 5, 1, 0] rfl ?_
  refine itr_ind (s0 := ((0 : Int32), h)) (fun s : Int32 × jx_H => jx_J X 0 0 26 [(0, .ref l0), (1, .ref l1), (2, .ref l2), (3, .int l3), (4, .int (if (if x17 < x16 then x17 else x16) < (if x15 < x14 then x15 else x14) then (if x17 < x16 then x17 else x16) else (if x15 < x14 then x15 else x14))), (5, .int s.1)] [] s.2) e ?_
  clear e
  intro s kI3 kT3 e0
  obtain ⟨z18, h19⟩ := s
  obtain ⟨u3, e0_3⟩ := e0
  have e : LX2_applyTo_26 l0 l1 l2 l3 (if (if x17 < x16 then x17 else x16) < (if x15 < x14 then x15 else x14) then (if x17 < x16 then x17 else x16) else (if x15 < x14 then x15 else x14)) z18 h19 = some u3 := e0_3
  unfold LX2_applyTo_26 at e
  refine j_iload C dX2_applyTo_26 rfl ?_
  refine j_iload C dX2_applyTo_28 rfl ?_
  refine j_icmp_ge (tgt := 93) C dX2_applyTo_30 (by decide) (fun c30 => ?_) (fun c30 => ?_)
  · replace e := ifp c30 e
    obtain ⟨t_4, e_4, eu_4⟩ := exL_spec e
    obtain rfl := kT3 t_4 (e0_3.trans (congrArg some eu_4))
    replace e := e_4
    refine j_aload_n C dX2_applyTo_93 rfl rfl ?_
    refine j_iconst (v := (0 : Int32)) C dX2_applyTo_94 (by decide) ?_
    refine j_aload_n C dX2_applyTo_95 rfl rfl ?_
    refine j_iconst (v := (0 : Int32)) C dX2_applyTo_96 (by decide) ?_
    refine j_iload C dX2_applyTo_97 rfl ?_
    replace e := ob e
    obtain ⟨h20, eh20, e⟩ := e
    refine j_copy C hr kX2_65 knat_Acopy kst_Acopy kini_J10 dX2_applyTo_99 (Nat.le_of_ble_eq_true rfl) (Nat.le_of_ble_eq_true rfl) eh20 ?_
    cases e
    exact j_vret C hq dX2_applyTo_102 ⟨Nat.le_of_ble_eq_true rfl, Nat.le_of_ble_eq_true rfl⟩ ⟨rfl, rfl⟩
  · replace e := ifn c30 e
    refine j_iconst (v := (0 : Int32)) C dX2_applyTo_33 (by decide) ?_
    refine j_istore (lv1 := [(6, .int (0 : Int32)), (0, .ref l0), (1, .ref l1), (2, .ref l2), (3, .int l3), (4, .int (if (if x17 < x16 then x17 else x16) < (if x15 < x14 then x15 else x14) then (if x17 < x16 then x17 else x16) else (if x15 < x14 then x15 else x14))), (5, .int z18)]) C hL dX2_applyTo_34 (Nat.le_of_ble_eq_true rfl) rfl ?_
    refine j_iconst (v := (0 : Int32)) C dX2_applyTo_36 (by decide) ?_
    refine j_istore (lv1 := [(7, .int (0 : Int32)), (6, .int (0 : Int32)), (0, .ref l0), (1, .ref l1), (2, .ref l2), (3, .int l3), (4, .int (if (if x17 < x16 then x17 else x16) < (if x15 < x14 then x15 else x14) then (if x17 < x16 then x17 else x16) else (if x15 < x14 then x15 else x14))), (5, .int z18)]) C hL dX2_applyTo_37 (Nat.le_of_ble_eq_true rfl) rfl ?_
    refine jx_sub (lv' := [(0, .ref l0), (1, .ref l1), (2, .ref l2), (3, .int l3), (4, .int (if (if x17 < x16 then x17 else x16) < (if x15 < x14 then x15 else x14) then (if x17 < x16 then x17 else x16) else (if x15 < x14 then x15 else x14))), (5, .int z18), (6, .int (0 : Int32)), (7, .int (0 : Int32))]) [2, 3, 4, 5, 6, 7, 1, 0] rfl ?_
    refine itr_ind (s0 := ((0 : Int32), (0 : Int32))) (fun s : Int32 × Int32 => jx_J X 0 0 39 [(0, .ref l0), (1, .ref l1), (2, .ref l2), (3, .int l3), (4, .int (if (if x17 < x16 then x17 else x16) < (if x15 < x14 then x15 else x14) then (if x17 < x16 then x17 else x16) else (if x15 < x14 then x15 else x14))), (5, .int z18), (6, .int s.1), (7, .int s.2)] [] h19) e ?_
    clear e
    intro s kI5 kT5 e0
    obtain ⟨z21, z22⟩ := s
    obtain ⟨u5, e0_5⟩ := e0
    have e : LX2_applyTo_39 l0 l1 l2 l3 (if (if x17 < x16 then x17 else x16) < (if x15 < x14 then x15 else x14) then (if x17 < x16 then x17 else x16) else (if x15 < x14 then x15 else x14)) z18 z21 z22 h19 = some u5 := e0_5
    unfold LX2_applyTo_39 at e
    refine j_iload C dX2_applyTo_39 rfl ?_
    refine j_iload C dX2_applyTo_41 rfl ?_
    refine j_icmp_ge (tgt := 77) C dX2_applyTo_43 (by decide) (fun c29 => ?_) (fun c29 => ?_)
    · replace e := ifp c29 e
      obtain ⟨t_6, e_6, eu_6⟩ := exL_spec e
      obtain rfl := kT5 t_6 (e0_5.trans (congrArg some eu_6))
      replace e := e_6
      refine j_aload_n C dX2_applyTo_77 rfl rfl ?_
      refine j_iload C dX2_applyTo_78 rfl ?_
      refine j_iload C dX2_applyTo_80 rfl ?_
      refine j_iload_n C dX2_applyTo_82 rfl rfl ?_
      replace e := ob e
      obtain ⟨x23, ex23, e⟩ := e
      refine j_callSN (As := [.int z21, .int l3]) (na := 2) (st := [.int z18, .ref l2]) (k1 := 0) (n1 := 0) C hr (sX9_residue ex23) kX2_62 kst_X9_residue kini_X9 kc_X9_residue (by decide) rfl ⟨(Nat.le_of_ble_eq_true rfl), (Nat.le_of_ble_eq_true rfl)⟩ (Nat.le_of_ble_eq_true rfl) ⟨rfl, rfl, (Nat.le_of_ble_eq_true rfl), (Nat.le_of_ble_eq_true rfl)⟩ dX2_applyTo_83 ?_
      rintro _ _ ⟨rfl, rfl⟩
      show jx_J X 0 0 86 [(0, .ref l0), (1, .ref l1), (2, .ref l2), (3, .int l3), (4, .int (if (if x17 < x16 then x17 else x16) < (if x15 < x14 then x15 else x14) then (if x17 < x16 then x17 else x16) else (if x15 < x14 then x15 else x14))), (5, .int z18), (6, .int z21), (7, .int z22)] [.int x23, .int z18, .ref l2] h19
      replace e := ob e
      obtain ⟨h24, eh24, e⟩ := e
      refine j_iast C dX2_applyTo_86 eh24 ?_
      refine j_iinc (v := (z18 + (1 : Int32))) (lv1 := [(5, .int (z18 + (1 : Int32))), (0, .ref l0), (1, .ref l1), (2, .ref l2), (3, .int l3), (4, .int (if (if x17 < x16 then x17 else x16) < (if x15 < x14 then x15 else x14) then (if x17 < x16 then x17 else x16) else (if x15 < x14 then x15 else x14))), (6, .int z21), (7, .int z22)]) C hL dX2_applyTo_87 rfl rfl (Nat.le_of_ble_eq_true rfl) rfl ?_
      refine j_goto (tgt := 26) C dX2_applyTo_90 (by decide) ?_
      obtain rfl := Option.some.inj e
      refine jx_sub (lv' := [(0, .ref l0), (1, .ref l1), (2, .ref l2), (3, .int l3), (4, .int (if (if x17 < x16 then x17 else x16) < (if x15 < x14 then x15 else x14) then (if x17 < x16 then x17 else x16) else (if x15 < x14 then x15 else x14))), (5, .int (z18 + (1 : Int32)))]) [1, 2, 3, 4, 5, 0] rfl ?_
      exact kI3 ((z18 + (1 : Int32)), h24) e0_3
    · replace e := ifn c29 e
      refine j_iload C dX2_applyTo_46 rfl ?_
      refine j_aload_n C dX2_applyTo_48 rfl rfl ?_
      replace e := ob e
      obtain ⟨x25, ex25, e⟩ := e
      refine j_getr (ci := 2) (RC := RX2) (T := TX2) (N := 7) 2 C rfl klX2 (Nat.le_of_ble_eq_true rfl) kX2_18 rfl dX2_applyTo_49 ex25 ?_
      refine j_iload C dX2_applyTo_52 rfl ?_
      refine j_aload_n C dX2_applyTo_54 rfl rfl ?_
      replace e := ob e
      obtain ⟨x26, ex26, e⟩ := e
      refine j_geti (ci := 2) (RC := RX2) (T := TX2) (N := 7) 1 C rfl klX2 (Nat.le_of_ble_eq_true rfl) kX2_15 rfl dX2_applyTo_55 ex26 ?_
      refine j_imul C dX2_applyTo_58 ?_
      refine j_iload C dX2_applyTo_59 rfl ?_
      refine j_iadd C dX2_applyTo_61 ?_
      replace e := ob e
      obtain ⟨x27, ex27, e⟩ := e
      refine j_iald C dX2_applyTo_62 ex27 ?_
      refine j_aload_n C dX2_applyTo_63 rfl rfl ?_
      refine j_iload C dX2_applyTo_64 rfl ?_
      replace e := ob e
      obtain ⟨x28, ex28, e⟩ := e
      refine j_iald C dX2_applyTo_66 ex28 ?_
      refine j_imul C dX2_applyTo_67 ?_
      refine j_iadd C dX2_applyTo_68 ?_
      refine j_istore (lv1 := [(6, .int (z21 + (x27 * x28))), (0, .ref l0), (1, .ref l1), (2, .ref l2), (3, .int l3), (4, .int (if (if x17 < x16 then x17 else x16) < (if x15 < x14 then x15 else x14) then (if x17 < x16 then x17 else x16) else (if x15 < x14 then x15 else x14))), (5, .int z18), (7, .int z22)]) C hL dX2_applyTo_69 (Nat.le_of_ble_eq_true rfl) rfl ?_
      refine j_iinc (v := (z22 + (1 : Int32))) (lv1 := [(7, .int (z22 + (1 : Int32))), (6, .int (z21 + (x27 * x28))), (0, .ref l0), (1, .ref l1), (2, .ref l2), (3, .int l3), (4, .int (if (if x17 < x16 then x17 else x16) < (if x15 < x14 then x15 else x14) then (if x17 < x16 then x17 else x16) else (if x15 < x14 then x15 else x14))), (5, .int z18)]) C hL dX2_applyTo_71 rfl rfl (Nat.le_of_ble_eq_true rfl) rfl ?_
      refine j_goto (tgt := 39) C dX2_applyTo_74 (by decide) ?_
      obtain rfl := Option.some.inj e
      refine jx_sub (lv' := [(0, .ref l0), (1, .ref l1), (2, .ref l2), (3, .int l3), (4, .int (if (if x17 < x16 then x17 else x16) < (if x15 < x14 then x15 else x14) then (if x17 < x16 then x17 else x16) else (if x15 < x14 then x15 else x14))), (5, .int z18), (6, .int (z21 + (x27 * x28))), (7, .int (z22 + (1 : Int32)))]) [2, 3, 4, 5, 6, 7, 1, 0] rfl ?_
      exact kI5 ((z21 + (x27 * x28)), (z22 + (1 : Int32))) e0_5
