/-! BorderBasis$Tables.ofVariable(I)LBorderBasis$Matrix; -/
noncomputable def FX6_ofVariable (l0 : Nat) (l1 : Int32) (h : jx_H) : Option (Nat) :=
if l1 = 0 then
 (hgr h l0 6 1).bind fun x2 =>
 some x2
else
 (hgr h l0 6 2).bind fun x1 =>
 some x1
def rmX6_ofVariable : Room := { frames := 0, cells := 0, slots := 0, locals := 0 }
set_option maxRecDepth 20000 in
set_option maxHeartbeats 4000000 in
theorem sX6_ofVariable {l0 : Nat} {l1 : Int32} {h : jx_H} {r : Nat}  (e : FX6_ofVariable l0 l1 h = some r) : jx_Ct yX6_ofVariable cX6_ofVariable 2 (some (.object "BorderBasis$Matrix")) rmX6_ofVariable [.ref l0, .int l1] h (fun r' h' => some (.ref r) = r' ∧ h = h') := by
  refine jx_Ct.of (own := RX6) (by decide) rfl (Nat.le_of_ble_eq_true rfl) (fun X C hq hr hL hN => ?_)
  refine jx_sub (lv' := [(0, .ref l0), (1, .int l1)]) [0, 1] rfl ?_
  unfold FX6_ofVariable at e
  refine j_iload_n C dX6_ofVariable_0 rfl rfl ?_
  refine j_if_ne (tgt := 11) C dX6_ofVariable_1 (by decide) (fun c6 => ?_) (fun c6 => ?_)
  · replace e := ifn c6 e
    refine j_aload_n C dX6_ofVariable_11 rfl rfl ?_
    replace e := ob e
    obtain ⟨x4, ex4, e⟩ := e
    refine j_getr (ci := 6) (RC := RX6) (T := TX6) (N := 17) 2 C rfl klX6 (Nat.le_of_ble_eq_true rfl) kX6_20 rfl dX6_ofVariable_12 ex4 ?_
    cases e
    exact j_aret C hq dX6_ofVariable_15 ⟨Nat.le_of_ble_eq_true rfl, Nat.le_of_ble_eq_true rfl⟩ ⟨rfl, rfl⟩
  · replace e := ifp c6 e
    refine j_aload_n C dX6_ofVariable_4 rfl rfl ?_
    replace e := ob e
    obtain ⟨x5, ex5, e⟩ := e
    refine j_getr (ci := 6) (RC := RX6) (T := TX6) (N := 17) 1 C rfl klX6 (Nat.le_of_ble_eq_true rfl) kX6_14 rfl dX6_ofVariable_5 ex5 ?_
    refine j_goto (tgt := 15) C dX6_ofVariable_8 (by decide) ?_
    cases e
    exact j_aret C hq dX6_ofVariable_15 ⟨Nat.le_of_ble_eq_true rfl, Nat.le_of_ble_eq_true rfl⟩ ⟨rfl, rfl⟩
/-! BorderBasis$Tables.compareProducts()V -/
noncomputable def BX6_compareProducts_79 (l0 : Nat) (l1 : Int32) (l2 : Int32) (h : jx_H) : Option ((Int32 × jx_H) ⊕ ((Int32 × jx_H) ⊕ (jx_H))) :=
some (.inl ((l2 + (1 : Int32)), h))
noncomputable def BX6_compareProducts_69 (l0 : Nat) (l1 : Int32) (l2 : Int32) (h : jx_H) : Option ((Int32 × jx_H) ⊕ ((Int32 × jx_H) ⊕ (jx_H))) :=
(hgi h l0 6 14).bind fun x4 =>
(hp h l0 6 14 (.int (x4 + (1 : Int32)))).bind fun h5 =>
BX6_compareProducts_79 l0 l1 l2 h5
noncomputable def LX6_compareProducts_20 (l0 : Nat) (l1 : Int32) (l2 : Int32) (h : jx_H) : Option ((Int32 × jx_H) ⊕ ((Int32 × jx_H) ⊕ (jx_H))) :=
(hgr h l0 6 0).bind fun x6 =>
(hgi h x6 5 2).bind fun x7 =>
if x7 ≤ l2 then
 exL (some (.inl ((l1 + (1 : Int32)), h)))
else
 (hgr h l0 6 3).bind fun x8 =>
 (isO h x8 2).bind fun _ =>
 (FX2_at x8 l2 l1 h).bind fun x10 =>
 (hgr h l0 6 4).bind fun x11 =>
 (isO h x11 2).bind fun _ =>
 (FX2_at x11 l2 l1 h).bind fun x13 =>
 if x10 = x13 then
  BX6_compareProducts_79 l0 l1 l2 h
 else
  (hgi h l0 6 14).bind fun x14 =>
  if x14 = 0 then
   (hp h l0 6 15 (.int l1)).bind fun h15 =>
   (hp h15 l0 6 16 (.int l2)).bind fun h16 =>
   BX6_compareProducts_69 l0 l1 l2 h16
  else
   BX6_compareProducts_69 l0 l1 l2 h
noncomputable def LX6_compareProducts_7 (l0 : Nat) (l1 : Int32) (h : jx_H) : Option ((Int32 × jx_H) ⊕ (jx_H)) :=
(hgr h l0 6 0).bind fun x2 =>
(hgi h x2 5 2).bind fun x3 =>
if x3 ≤ l1 then
 exL (some h)
else
 itr (fun s : Int32 × jx_H => LX6_compareProducts_20 l0 l1 s.1 s.2) ((0 : Int32), h)
noncomputable def FX6_compareProducts (l0 : Nat) (h : jx_H) : Option (jx_H) :=
(hp h l0 6 14 (.int (0 : Int32))).bind fun h1 =>
itr (fun s : Int32 × jx_H => LX6_compareProducts_7 l0 s.1 s.2) ((0 : Int32), h1)
def rmX6_compareProducts : Room := { frames := 2, cells := 0, slots := 0, locals := 44 }
set_option maxRecDepth 20000 in
set_option maxHeartbeats 4000000 in
theorem sX6_compareProducts {l0 : Nat} {h : jx_H} {h9 : jx_H} (e : FX6_compareProducts l0 h = some h9) : jx_Ct yX6_compareProducts cX6_compareProducts 3 none rmX6_compareProducts [.ref l0] h (fun r' h' => none = r' ∧ h9 = h') := by
  refine jx_Ct.of (own := RX6) (by decide) rfl (Nat.le_of_ble_eq_true rfl) (fun X C hq hr hL hN => ?_)
  refine jx_sub (lv' := [(0, .ref l0)]) [0] rfl ?_
  unfold FX6_compareProducts at e
  refine j_aload_n C dX6_compareProducts_0 rfl rfl ?_
  refine j_iconst (v := (0 : Int32)) C dX6_compareProducts_1 (by decide) ?_
  replace e := ob e
  obtain ⟨h21, eh21, e⟩ := e
  refine j_put (ci := 6) (RC := RX6) (T := TX6) (N := 17) (ty0 := tyX6) 14 C rfl klX6 tyX6_ok nmX6 (Nat.le_of_ble_eq_true rfl) kX6_69 rfl rfl rfl rfl dX6_compareProducts_2 eh21 ?_
  refine j_iconst (v := (0 : Int32)) C dX6_compareProducts_5 (by decide) ?_
  refine j_istore_n (lv1 := [(1, .int (0 : Int32)), (0, .ref l0)]) C hL dX6_compareProducts_6 rfl (Nat.le_of_ble_eq_true rfl) rfl ?_
  refine jx_sub (lv' := [(0, .ref l0), (1, .int (0 : Int32))]) [1, 0] rfl ?_
  refine itr_ind (s0 := ((0 : Int32), h21)) (fun s : Int32 × jx_H => jx_J X 0 0 7 [(0, .ref l0), (1, .int s.1)] [] s.2) e ?_
  clear e
  intro s kI3 kT3 e0
  obtain ⟨z22, h23⟩ := s
  obtain ⟨u3, e0_3⟩ := e0
  have e : LX6_compareProducts_7 l0 z22 h23 = some u3 := e0_3
  unfold LX6_compareProducts_7 at e
  refine j_iload_n C dX6_compareProducts_7 rfl rfl ?_
  refine j_aload_n C dX6_compareProducts_8 rfl rfl ?_
  replace e := ob e
  obtain ⟨x24, ex24, e⟩ := e
  refine j_getr (ci := 6) (RC := RX6) (T := TX6) (N := 17) 0 C rfl klX6 (Nat.le_of_ble_eq_true rfl) kX6_54 rfl dX6_compareProducts_9 ex24 ?_
  replace e := ob e
  obtain ⟨x25, ex25, e⟩ := e
  refine j_geti (ci := 5) (RC := RX5) (T := TX5) (N := 12) 2 C rfl klX5 (Nat.le_of_ble_eq_true rfl) kX6_99 rfl dX6_compareProducts_12 ex25 ?_
  refine j_icmp_ge (tgt := 91) C dX6_compareProducts_15 (by decide) (fun c48 => ?_) (fun c48 => ?_)
  · replace e := ifp c48 e
    obtain ⟨t_4, e_4, eu_4⟩ := exL_spec e
    obtain rfl := kT3 t_4 (e0_3.trans (congrArg some eu_4))
    replace e := e_4
    cases e
    exact j_vret C hq dX6_compareProducts_91 ⟨Nat.le_of_ble_eq_true rfl, Nat.le_of_ble_eq_true rfl⟩ ⟨rfl, rfl⟩
  · replace e := ifn c48 e
    refine j_iconst (v := (0 : Int32)) C dX6_compareProducts_18 (by decide) ?_
    refine j_istore_n (lv1 := [(2, .int (0 : Int32)), (0, .ref l0), (1, .int z22)]) C hL dX6_compareProducts_19 rfl (Nat.le_of_ble_eq_true rfl) rfl ?_
    refine jx_sub (lv' := [(0, .ref l0), (1, .int z22), (2, .int (0 : Int32))]) [1, 2, 0] rfl ?_
    refine itr_ind (s0 := ((0 : Int32), h23)) (fun s : Int32 × jx_H => jx_J X 0 0 20 [(0, .ref l0), (1, .int z22), (2, .int s.1)] [] s.2) e ?_
    clear e
    intro s kI5 kT5 e0
    obtain ⟨z26, h27⟩ := s
    obtain ⟨u5, e0_5⟩ := e0
    have e : LX6_compareProducts_20 l0 z22 z26 h27 = some u5 := e0_5
    have b79 : ∀ (y28 : Int32) (h29 : jx_H), BX6_compareProducts_79 l0 z22 y28 h29 = some u5 → jx_J X 0 0 79 [(0, .ref l0), (1, .int z22), (2, .int y28)] [] h29 := by
      intro y28 h29 e
      unfold BX6_compareProducts_79 at e
      refine j_iinc (v := (y28 + (1 : Int32))) (lv1 := [(2, .int (y28 + (1 : Int32))), (0, .ref l0), (1, .int z22)]) C hL dX6_compareProducts_79 rfl rfl (Nat.le_of_ble_eq_true rfl) rfl ?_
      refine j_goto (tgt := 20) C dX6_compareProducts_82 (by decide) ?_
      obtain rfl := Option.some.inj e
      refine jx_sub (lv' := [(0, .ref l0), (1, .int z22), (2, .int (y28 + (1 : Int32)))]) [1, 2, 0] rfl ?_
      exact kI5 ((y28 + (1 : Int32)), h29) e0_5
    have b69 : ∀ (y30 : Int32) (h31 : jx_H), BX6_compareProducts_69 l0 z22 y30 h31 = some u5 → jx_J X 0 0 69 [(0, .ref l0), (1, .int z22), (2, .int y30)] [] h31 := by
      intro y30 h31 e
      unfold BX6_compareProducts_69 at e
      refine j_aload_n C dX6_compareProducts_69 rfl rfl ?_
      refine j_dup C dX6_compareProducts_70 rfl ?_
      replace e := ob e
      obtain ⟨x32, ex32, e⟩ := e
      refine j_geti (ci := 6) (RC := RX6) (T := TX6) (N := 17) 14 C rfl klX6 (Nat.le_of_ble_eq_true rfl) kX6_69 rfl dX6_compareProducts_71 ex32 ?_
      refine j_iconst (v := (1 : Int32)) C dX6_compareProducts_74 (by decide) ?_
      refine j_iadd C dX6_compareProducts_75 ?_
      replace e := ob e
      obtain ⟨h33, eh33, e⟩ := e
      refine j_put (ci := 6) (RC := RX6) (T := TX6) (N := 17) (ty0 := tyX6) 14 C rfl klX6 tyX6_ok nmX6 (Nat.le_of_ble_eq_true rfl) kX6_69 rfl rfl rfl rfl dX6_compareProducts_76 eh33 ?_
      exact b79 y30 h33 e
    unfold LX6_compareProducts_20 at e
    refine j_iload_n C dX6_compareProducts_20 rfl rfl ?_
    refine j_aload_n C dX6_compareProducts_21 rfl rfl ?_
    replace e := ob e
    obtain ⟨x34, ex34, e⟩ := e
    refine j_getr (ci := 6) (RC := RX6) (T := TX6) (N := 17) 0 C rfl klX6 (Nat.le_of_ble_eq_true rfl) kX6_54 rfl dX6_compareProducts_22 ex34 ?_
    replace e := ob e
    obtain ⟨x35, ex35, e⟩ := e
    refine j_geti (ci := 5) (RC := RX5) (T := TX5) (N := 12) 2 C rfl klX5 (Nat.le_of_ble_eq_true rfl) kX6_99 rfl dX6_compareProducts_25 ex35 ?_
    refine j_icmp_ge (tgt := 85) C dX6_compareProducts_28 (by decide) (fun c47 => ?_) (fun c47 => ?_)
    · replace e := ifp c47 e
      obtain ⟨t_6, e_6, eu_6⟩ := exL_spec e
      obtain rfl := kT5 t_6 (e0_5.trans (congrArg some eu_6))
      replace e := e_6
      refine j_iinc (v := (z22 + (1 : Int32))) (lv1 := [(1, .int (z22 + (1 : Int32))), (0, .ref l0), (2, .int z26)]) C hL dX6_compareProducts_85 rfl rfl (Nat.le_of_ble_eq_true rfl) rfl ?_
      refine j_goto (tgt := 7) C dX6_compareProducts_88 (by decide) ?_
      obtain rfl := Option.some.inj e
      refine jx_sub (lv' := [(0, .ref l0), (1, .int (z22 + (1 : Int32)))]) [1, 0] rfl ?_
      exact kI3 ((z22 + (1 : Int32)), h27) e0_3
    · replace e := ifn c47 e
      refine j_aload_n C dX6_compareProducts_31 rfl rfl ?_
      replace e := ob e
      obtain ⟨x36, ex36, e⟩ := e
      refine j_getr (ci := 6) (RC := RX6) (T := TX6) (N := 17) 3 C rfl klX6 (Nat.le_of_ble_eq_true rfl) kX6_23 rfl dX6_compareProducts_32 ex36 ?_
      refine j_iload_n C dX6_compareProducts_35 rfl rfl ?_
      refine j_iload_n C dX6_compareProducts_36 rfl rfl ?_
      replace e := ob e
      obtain ⟨_, eo37, e⟩ := e
      replace e := ob e
      obtain ⟨x38, ex38, e⟩ := e
      refine j_callV (ci := 2) (RC := RX2) (T := TX2) (N := 7) (As := [.int z26, .int z22]) (b := x36) (na := 2) (st := []) (k1 := 0) (n1 := 0) C hr (sX2_at ex38) rfl eo37 kX6_65 kim_X2_at ksel_X2_at kini_X2 kc_X2_at (by decide) rfl ⟨(Nat.le_of_ble_eq_true rfl), (Nat.le_of_ble_eq_true rfl)⟩ (Nat.le_of_ble_eq_true rfl) ⟨rfl, rfl, (Nat.le_of_ble_eq_true rfl), (Nat.le_of_ble_eq_true rfl)⟩ dX6_compareProducts_37 ?_
      rintro _ _ ⟨rfl, rfl⟩
      show jx_J X 0 0 40 [(0, .ref l0), (1, .int z22), (2, .int z26)] [.int x38] h27
      refine j_aload_n C dX6_compareProducts_40 rfl rfl ?_
      replace e := ob e
      obtain ⟨x39, ex39, e⟩ := e
      refine j_getr (ci := 6) (RC := RX6) (T := TX6) (N := 17) 4 C rfl klX6 (Nat.le_of_ble_eq_true rfl) kX6_26 rfl dX6_compareProducts_41 ex39 ?_
      refine j_iload_n C dX6_compareProducts_44 rfl rfl ?_
      refine j_iload_n C dX6_compareProducts_45 rfl rfl ?_
      replace e := ob e
      obtain ⟨_, eo40, e⟩ := e
      replace e := ob e
      obtain ⟨x41, ex41, e⟩ := e
      refine j_callV (ci := 2) (RC := RX2) (T := TX2) (N := 7) (As := [.int z26, .int z22]) (b := x39) (na := 2) (st := [.int x38]) (k1 := 0) (n1 := 0) C hr (sX2_at ex41) rfl eo40 kX6_65 kim_X2_at ksel_X2_at kini_X2 kc_X2_at (by decide) rfl ⟨(Nat.le_of_ble_eq_true rfl), (Nat.le_of_ble_eq_true rfl)⟩ (Nat.le_of_ble_eq_true rfl) ⟨rfl, rfl, (Nat.le_of_ble_eq_true rfl), (Nat.le_of_ble_eq_true rfl)⟩ dX6_compareProducts_46 ?_
      rintro _ _ ⟨rfl, rfl⟩
      show jx_J X 0 0 49 [(0, .ref l0), (1, .int z22), (2, .int z26)] [.int x41, .int x38] h27
      refine j_icmp_eq (tgt := 79) C dX6_compareProducts_49 (by decide) (fun c46 => ?_) (fun c46 => ?_)
      · replace e := ifp c46 e
        exact b79 z26 h27 e
      · replace e := ifn c46 e
        refine j_aload_n C dX6_compareProducts_52 rfl rfl ?_
        replace e := ob e
        obtain ⟨x42, ex42, e⟩ := e
        refine j_geti (ci := 6) (RC := RX6) (T := TX6) (N := 17) 14 C rfl klX6 (Nat.le_of_ble_eq_true rfl) kX6_69 rfl dX6_compareProducts_53 ex42 ?_
        refine j_if_ne (tgt := 69) C dX6_compareProducts_56 (by decide) (fun c45 => ?_) (fun c45 => ?_)
        · replace e := ifn c45 e
          exact b69 z26 h27 e
        · replace e := ifp c45 e
          refine j_aload_n C dX6_compareProducts_59 rfl rfl ?_
          refine j_iload_n C dX6_compareProducts_60 rfl rfl ?_
          replace e := ob e
          obtain ⟨h43, eh43, e⟩ := e
          refine j_put (ci := 6) (RC := RX6) (T := TX6) (N := 17) (ty0 := tyX6) 15 C rfl klX6 tyX6_ok nmX6 (Nat.le_of_ble_eq_true rfl) kX6_73 rfl rfl rfl rfl dX6_compareProducts_61 eh43 ?_
          refine j_aload_n C dX6_compareProducts_64 rfl rfl ?_
          refine j_iload_n C dX6_compareProducts_65 rfl rfl ?_
          replace e := ob e
          obtain ⟨h44, eh44, e⟩ := e
          refine j_put (ci := 6) (RC := RX6) (T := TX6) (N := 17) (ty0 := tyX6) 16 C rfl klX6 tyX6_ok nmX6 (Nat.le_of_ble_eq_true rfl) kX6_76 rfl rfl rfl rfl dX6_compareProducts_66 eh44 ?_
          exact b69 z26 h44 e
/-! BorderBasis$Tables.fillTable(LBorderBasis$Matrix;II)V -/
noncomputable def BX6_fillTable_145 (l0 : Nat) (l1 : Nat) (l2 : Int32) (l3 : Int32) (l4 : Int32) (h : jx_H) : Option ((Int32 × jx_H) ⊕ (jx_H)) :=
some (.inl ((l4 + (1 : Int32)), h))
noncomputable def LX6_fillTable_108 (l0 : Nat) (l1 : Nat) (l2 : Int32) (l3 : Int32) (l4 : Int32) (l8 : Int32) (l9 : Int32) (h : jx_H) : Option ((Int32 × jx_H) ⊕ ((Int32 × jx_H) ⊕ (jx_H))) :=
(hgr h l0 6 0).bind fun x21 =>
(hgi h x21 5 2).bind fun x22 =>
if x22 ≤ l9 then
 exL (BX6_fillTable_145 l0 l1 l2 l3 l4 h)
else
 (hgr h l0 6 0).bind fun x23 =>
 (isO h x23 5).bind fun _ =>
 (FX5_coefficient x23 l8 l9 h).bind fun x25 =>
 (isO h l1 2).bind fun _ =>
 (FX2_put l1 l9 l4 x25 h).bind fun h27 =>
 some (.inl ((l9 + (1 : Int32)), h27))
noncomputable def LX6_fillTable_21 (l0 : Nat) (l1 : Nat) (l2 : Int32) (l3 : Int32) (l4 : Int32) (h : jx_H) : Option ((Int32 × jx_H) ⊕ (jx_H)) :=
(hgr h l0 6 0).bind fun x7 =>
(hgi h x7 5 2).bind fun x8 =>
if x8 ≤ l4 then
 exL (some h)
else
 (hgr h l0 6 0).bind fun x9 =>
 (hgr h x9 5 3).bind fun x10 =>
 (hal h .int x10 l4).bind fun x11 =>
 (hgr h l0 6 0).bind fun x12 =>
 (hgr h x12 5 4).bind fun x13 =>
 (hal h .int x13 l4).bind fun x14 =>
 (hgr h l0 6 0).bind fun x15 =>
 (isO h x15 5).bind fun _ =>
 (FX5_numberOf x15 (x11 + l2) (x14 + l3) h).bind fun x17 =>
 if x17 = (-1 : Int32) then
  (hgr h l0 6 0).bind fun x18 =>
  (isO h x18 5).bind fun _ =>
  (FX5_borderNumberOf x18 (x11 + l2) (x14 + l3) h).bind fun x20 =>
  itr (fun s : Int32 × jx_H => LX6_fillTable_108 l0 l1 l2 l3 l4 x20 s.1 s.2) ((0 : Int32), h)
 else
  (isO h l1 2).bind fun _ =>
  (FX2_put l1 x17 l4 (1 : Int32) h).bind fun h30 =>
  BX6_fillTable_145 l0 l1 l2 l3 l4 h30
noncomputable def FX6_fillTable (l0 : Nat) (l1 : Nat) (l2 : Int32) (l3 : Int32) (h : jx_H) : Option (jx_H) :=
(hgr h l0 6 0).bind fun x1 =>
(hgi h x1 5 2).bind fun x2 =>
(hgr h l0 6 0).bind fun x3 =>
(hgi h x3 5 2).bind fun x4 =>
(isO h l1 2).bind fun _ =>
(FX2_clear l1 x2 x4 h).bind fun h6 =>
itr (fun s : Int32 × jx_H => LX6_fillTable_21 l0 l1 l2 l3 s.1 s.2) ((0 : Int32), h6)
def rmX6_fillTable : Room := { frames := 2, cells := 0, slots := 0, locals := 45 }
set_option maxRecDepth 20000 in
set_option maxHeartbeats 4000000 in
theorem sX6_fillTable {l0 : Nat} {l1 : Nat} {l2 : Int32} {l3 : Int32} {h : jx_H} {h9 : jx_H} (e : FX6_fillTable l0 l1 l2 l3 h = some h9) : jx_Ct yX6_fillTable cX6_fillTable 10 none rmX6_fillTable [.ref l0, .ref l1, .int l2, .int l3] h (fun r' h' => none = r' ∧ h9 = h') := by
  refine jx_Ct.of (own := RX6) (by decide) rfl (Nat.le_of_ble_eq_true rfl) (fun X C hq hr hL hN => ?_)
  refine jx_sub (lv' := [(0, .ref l0), (1, .ref l1), (2, .int l2), (3, .int l3)]) [0, 1, 2, 3] rfl ?_
  unfold FX6_fillTable at e
  refine j_aload_n C dX6_fillTable_0 rfl rfl ?_
  refine j_aload_n C dX6_fillTable_1 rfl rfl ?_
  replace e := ob e
  obtain ⟨x33, ex33, e⟩ := e
  refine j_getr (ci := 6) (RC := RX6) (T := TX6) (N := 17) 0 C rfl klX6 (Nat.le_of_ble_eq_true rfl) kX6_54 rfl dX6_fillTable_2 ex33 ?_
  replace e := ob e
  obtain ⟨x34, ex34, e⟩ := e
  refine j_geti (ci := 5) (RC := RX5) (T := TX5) (N := 12) 2 C rfl klX5 (Nat.le_of_ble_eq_true rfl) kX6_99 rfl dX6_fillTable_5 ex34 ?_
  refine j_aload_n C dX6_fillTable_8 rfl rfl ?_
  replace e := ob e
  obtain ⟨x35, ex35, e⟩ := e
  refine j_getr (ci := 6) (RC := RX6) (T := TX6) (N := 17) 0 C rfl klX6 (Nat.le_of_ble_eq_true rfl) kX6_54 rfl dX6_fillTable_9 ex35 ?_
  replace e := ob e
  obtain ⟨x36, ex36, e⟩ := e
  refine j_geti (ci := 5) (RC := RX5) (T := TX5) (N := 12) 2 C rfl klX5 (Nat.le_of_ble_eq_true rfl) kX6_99 rfl dX6_fillTable_12 ex36 ?_
  replace e := ob e
  obtain ⟨_, eo37, e⟩ := e
  replace e := ob e
  obtain ⟨h38, eh38, e⟩ := e
  refine j_callV (ci := 2) (RC := RX2) (T := TX2) (N := 7) (As := [.int x34, .int x36]) (b := l1) (na := 2) (st := []) (k1 := 0) (n1 := 0) C hr (sX2_clear eh38) rfl eo37 kX6_102 kim_X2_clear ksel_X2_clear kini_X2 kc_X2_clear (by decide) rfl ⟨(Nat.le_of_ble_eq_true rfl), (Nat.le_of_ble_eq_true rfl)⟩ (Nat.le_of_ble_eq_true rfl) ⟨rfl, rfl, (Nat.le_of_ble_eq_true rfl), (Nat.le_of_ble_eq_true rfl)⟩ dX6_fillTable_15 ?_
  rintro _ _ ⟨rfl, rfl⟩
  show jx_J X 0 0 18 [(0, .ref l0), (1, .ref l1), (2, .int l2), (3, .int l3)] [] h38
  refine j_iconst (v := (0 : Int32)) C dX6_fillTable_18 (by decide) ?_
  refine j_istore (lv1 := [(4, .int (0 : Int32)), (0, .ref l0), (1, .ref l1), (2, .int l2), (3, .int l3)]) C hL dX6_fillTable_19 (Nat.le_of_ble_eq_true rfl) rfl ?_
  refine jx_sub (lv' := [(0, .ref l0), (1, .ref l1), (2, .int l2), (3, .int l3), (4, .int (0 : Int32))]) [1, 2, 3, 4, 0] rfl ?_
  refine itr_ind (s0 := ((0 : Int32), h38)) (fun s : Int32 × jx_H => jx_J X 0 0 21 [(0, .ref l0), (1, .ref l1), (2, .int l2), (3, .int l3), (4, .int s.1)] [] s.2) e ?_
  clear e
  intro s kI3 kT3 e0
  obtain ⟨z39, h40⟩ := s
  obtain ⟨u3, e0_3⟩ := e0
  have e : LX6_fillTable_21 l0 l1 l2 l3 z39 h40 = some u3 := e0_3
  have b145 : ∀ (y41 : Int32) (h42 : jx_H), BX6_fillTable_145 l0 l1 l2 l3 y41 h42 = some u3 → jx_J X 0 0 145 [(0, .ref l0), (1, .ref l1), (2, .int l2), (3, .int l3), (4, .int y41)] [] h42 := by
    intro y41 h42 e
    unfold BX6_fillTable_145 at e
    refine j_iinc (v := (y41 + (1 : Int32))) (lv1 := [(4, .int (y41 + (1 : Int32))), (0, .ref l0), (1, .ref l1), (2, .int l2), (3, .int l3)]) C hL dX6_fillTable_145 rfl rfl (Nat.le_of_ble_eq_true rfl) rfl ?_
    refine j_goto (tgt := 21) C dX6_fillTable_148 (by decide) ?_
    obtain rfl := Option.some.inj e
    refine jx_sub (lv' := [(0, .ref l0), (1, .ref l1), (2, .int l2), (3, .int l3), (4, .int (y41 + (1 : Int32)))]) [1, 2, 3, 4, 0] rfl ?_
    exact kI3 ((y41 + (1 : Int32)), h42) e0_3
  unfold LX6_fillTable_21 at e
  refine j_iload C dX6_fillTable_21 rfl ?_
  refine j_aload_n C dX6_fillTable_23 rfl rfl ?_
  replace e := ob e
  obtain ⟨x43, ex43, e⟩ := e
  refine j_getr (ci := 6) (RC := RX6) (T := TX6) (N := 17) 0 C rfl klX6 (Nat.le_of_ble_eq_true rfl) kX6_54 rfl dX6_fillTable_24 ex43 ?_
  replace e := ob e
  obtain ⟨x44, ex44, e⟩ := e
  refine j_geti (ci := 5) (RC := RX5) (T := TX5) (N := 12) 2 C rfl klX5 (Nat.le_of_ble_eq_true rfl) kX6_99 rfl dX6_fillTable_27 ex44 ?_
  refine j_icmp_ge (tgt := 151) C dX6_fillTable_30 (by decide) (fun c70 => ?_) (fun c70 => ?_)
  · replace e := ifp c70 e
    obtain ⟨t_4, e_4, eu_4⟩ := exL_spec e
    obtain rfl := kT3 t_4 (e0_3.trans (congrArg some eu_4))
    replace e := e_4
    cases e
    exact j_vret C hq dX6_fillTable_151 ⟨Nat.le_of_ble_eq_true rfl, Nat.le_of_ble_eq_true rfl⟩ ⟨rfl, rfl⟩
  · replace e := ifn c70 e
    refine j_aload_n C dX6_fillTable_33 rfl rfl ?_
    replace e := ob e
    obtain ⟨x45, ex45, e⟩ := e
    refine j_getr (ci := 6) (RC := RX6) (T := TX6) (N := 17) 0 C rfl klX6 (Nat.le_of_ble_eq_true rfl) kX6_54 rfl dX6_fillTable_34 ex45 ?_
    replace e := ob e
    obtain ⟨x46, ex46, e⟩ := e
    refine j_getr (ci := 5) (RC := RX5) (T := TX5) (N := 12) 3 C rfl klX5 (Nat.le_of_ble_eq_true rfl) kX6_105 rfl dX6_fillTable_37 ex46 ?_
    refine j_iload C dX6_fillTable_40 rfl ?_
    replace e := ob e
    obtain ⟨x47, ex47, e⟩ := e
    refine j_iald C dX6_fillTable_42 ex47 ?_
    refine j_iload_n C dX6_fillTable_43 rfl rfl ?_
    refine j_iadd C dX6_fillTable_44 ?_
    refine j_istore (lv1 := [(5, .int (x47 + l2)), (0, .ref l0), (1, .ref l1), (2, .int l2), (3, .int l3), (4, .int z39)]) C hL dX6_fillTable_45 (Nat.le_of_ble_eq_true rfl) rfl ?_
    refine j_aload_n C dX6_fillTable_47 rfl rfl ?_
    replace e := ob e
    obtain ⟨x48, ex48, e⟩ := e
    refine j_getr (ci := 6) (RC := RX6) (T := TX6) (N := 17) 0 C rfl klX6 (Nat.le_of_ble_eq_true rfl) kX6_54 rfl dX6_fillTable_48 ex48 ?_
    replace e := ob e
    obtain ⟨x49, ex49, e⟩ := e
    refine j_getr (ci := 5) (RC := RX5) (T := TX5) (N := 12) 4 C rfl klX5 (Nat.le_of_ble_eq_true rfl) kX6_108 rfl dX6_fillTable_51 ex49 ?_
    refine j_iload C dX6_fillTable_54 rfl ?_
    replace e := ob e
    obtain ⟨x50, ex50, e⟩ := e
    refine j_iald C dX6_fillTable_56 ex50 ?_
    refine j_iload_n C dX6_fillTable_57 rfl rfl ?_
    refine j_iadd C dX6_fillTable_58 ?_
    refine j_istore (lv1 := [(6, .int (x50 + l3)), (5, .int (x47 + l2)), (0, .ref l0), (1, .ref l1), (2, .int l2), (3, .int l3), (4, .int z39)]) C hL dX6_fillTable_59 (Nat.le_of_ble_eq_true rfl) rfl ?_
    refine j_aload_n C dX6_fillTable_61 rfl rfl ?_
    replace e := ob e
    obtain ⟨x51, ex51, e⟩ := e
    refine j_getr (ci := 6) (RC := RX6) (T := TX6) (N := 17) 0 C rfl klX6 (Nat.le_of_ble_eq_true rfl) kX6_54 rfl dX6_fillTable_62 ex51 ?_
    refine j_iload C dX6_fillTable_65 rfl ?_
    refine j_iload C dX6_fillTable_67 rfl ?_
    replace e := ob e
    obtain ⟨_, eo52, e⟩ := e
    replace e := ob e
    obtain ⟨x53, ex53, e⟩ := e
    refine j_callV (ci := 5) (RC := RX5) (T := TX5) (N := 12) (As := [.int (x47 + l2), .int (x50 + l3)]) (b := x51) (na := 2) (st := []) (k1 := 0) (n1 := 0) C hr (sX5_numberOf ex53) rfl eo52 kX6_111 kim_X5_numberOf ksel_X5_numberOf kini_X5 kc_X5_numberOf (by decide) rfl ⟨(Nat.le_of_ble_eq_true rfl), (Nat.le_of_ble_eq_true rfl)⟩ (Nat.le_of_ble_eq_true rfl) ⟨rfl, rfl, (Nat.le_of_ble_eq_true rfl), (Nat.le_of_ble_eq_true rfl)⟩ dX6_fillTable_69 ?_
    rintro _ _ ⟨rfl, rfl⟩
    show jx_J X 0 0 72 [(6, .int (x50 + l3)), (5, .int (x47 + l2)), (0, .ref l0), (1, .ref l1), (2, .int l2), (3, .int l3), (4, .int z39)] [.int x53] h40
    refine j_istore (lv1 := [(7, .int x53), (6, .int (x50 + l3)), (5, .int (x47 + l2)), (0, .ref l0), (1, .ref l1), (2, .int l2), (3, .int l3), (4, .int z39)]) C hL dX6_fillTable_72 (Nat.le_of_ble_eq_true rfl) rfl ?_
    refine j_iload C dX6_fillTable_74 rfl ?_
    refine j_iconst (v := (-1 : Int32)) C dX6_fillTable_76 (by decide) ?_
    refine j_icmp_eq (tgt := 92) C dX6_fillTable_77 (by decide) (fun c69 => ?_) (fun c69 => ?_)
    · replace e := ifp c69 e
      refine j_aload_n C dX6_fillTable_92 rfl rfl ?_
      replace e := ob e
      obtain ⟨x54, ex54, e⟩ := e
      refine j_getr (ci := 6) (RC := RX6) (T := TX6) (N := 17) 0 C rfl klX6 (Nat.le_of_ble_eq_true rfl) kX6_54 rfl dX6_fillTable_93 ex54 ?_
      refine j_iload C dX6_fillTable_96 rfl ?_
      refine j_iload C dX6_fillTable_98 rfl ?_
      replace e := ob e
      obtain ⟨_, eo55, e⟩ := e
      replace e := ob e
      obtain ⟨x56, ex56, e⟩ := e
      refine j_callV (ci := 5) (RC := RX5) (T := TX5) (N := 12) (As := [.int (x47 + l2), .int (x50 + l3)]) (b := x54) (na := 2) (st := []) (k1 := 0) (n1 := 0) C hr (sX5_borderNumberOf ex56) rfl eo55 kX6_118 kim_X5_borderNumberOf ksel_X5_borderNumberOf kini_X5 kc_X5_borderNumberOf (by decide) rfl ⟨(Nat.le_of_ble_eq_true rfl), (Nat.le_of_ble_eq_true rfl)⟩ (Nat.le_of_ble_eq_true rfl) ⟨rfl, rfl, (Nat.le_of_ble_eq_true rfl), (Nat.le_of_ble_eq_true rfl)⟩ dX6_fillTable_100 ?_
      rintro _ _ ⟨rfl, rfl⟩
      show jx_J X 0 0 103 [(7, .int x53), (6, .int (x50 + l3)), (5, .int (x47 + l2)), (0, .ref l0), (1, .ref l1), (2, .int l2), (3, .int l3), (4, .int z39)] [.int x56] h40
      refine j_istore (lv1 := [(8, .int x56), (7, .int x53), (6, .int (x50 + l3)), (5, .int (x47 + l2)), (0, .ref l0), (1, .ref l1), (2, .int l2), (3, .int l3), (4, .int z39)]) C hL dX6_fillTable_103 (Nat.le_of_ble_eq_true rfl) rfl ?_
      refine j_iconst (v := (0 : Int32)) C dX6_fillTable_105 (by decide) ?_
      refine j_istore (lv1 := [(9, .int (0 : Int32)), (8, .int x56), (7, .int x53), (6, .int (x50 + l3)), (5, .int (x47 + l2)), (0, .ref l0), (1, .ref l1), (2, .int l2), (3, .int l3), (4, .int z39)]) C hL dX6_fillTable_106 (Nat.le_of_ble_eq_true rfl) rfl ?_
      refine jx_sub (lv' := [(0, .ref l0), (1, .ref l1), (2, .int l2), (3, .int l3), (4, .int z39), (8, .int x56), (9, .int (0 : Int32))]) [5, 6, 7, 8, 9, 1, 0] rfl ?_
      refine itr_ind (s0 := ((0 : Int32), h40)) (fun s : Int32 × jx_H => jx_J X 0 0 108 [(0, .ref l0), (1, .ref l1), (2, .int l2), (3, .int l3), (4, .int z39), (8, .int x56), (9, .int s.1)] [] s.2) e ?_
      clear e
      intro s kI5 kT5 e0
      obtain ⟨z57, h58⟩ := s
      obtain ⟨u5, e0_5⟩ := e0
      have e : LX6_fillTable_108 l0 l1 l2 l3 z39 x56 z57 h58 = some u5 := e0_5
      unfold LX6_fillTable_108 at e
      refine j_iload C dX6_fillTable_108 rfl ?_
      refine j_aload_n C dX6_fillTable_110 rfl rfl ?_
      replace e := ob e
      obtain ⟨x59, ex59, e⟩ := e
      refine j_getr (ci := 6) (RC := RX6) (T := TX6) (N := 17) 0 C rfl klX6 (Nat.le_of_ble_eq_true rfl) kX6_54 rfl dX6_fillTable_111 ex59 ?_
      replace e := ob e
      obtain ⟨x60, ex60, e⟩ := e
      refine j_geti (ci := 5) (RC := RX5) (T := TX5) (N := 12) 2 C rfl klX5 (Nat.le_of_ble_eq_true rfl) kX6_99 rfl dX6_fillTable_114 ex60 ?_
      refine j_icmp_ge (tgt := 145) C dX6_fillTable_117 (by decide) (fun c66 => ?_) (fun c66 => ?_)
      · replace e := ifp c66 e
        obtain ⟨t_6, e_6, eu_6⟩ := exL_spec e
        obtain rfl := kT5 t_6 (e0_5.trans (congrArg some eu_6))
        replace e := e_6
        refine jx_sub (lv' := [(0, .ref l0), (1, .ref l1), (2, .int l2), (3, .int l3), (4, .int z39)]) [0, 1, 2, 3, 4] rfl ?_
        exact b145 z39 h58 e
      · replace e := ifn c66 e
        refine j_aload_n C dX6_fillTable_120 rfl rfl ?_
        refine j_iload C dX6_fillTable_121 rfl ?_
        refine j_iload C dX6_fillTable_123 rfl ?_
        refine j_aload_n C dX6_fillTable_125 rfl rfl ?_
        replace e := ob e
        obtain ⟨x61, ex61, e⟩ := e
        refine j_getr (ci := 6) (RC := RX6) (T := TX6) (N := 17) 0 C rfl klX6 (Nat.le_of_ble_eq_true rfl) kX6_54 rfl dX6_fillTable_126 ex61 ?_
        refine j_iload C dX6_fillTable_129 rfl ?_
        refine j_iload C dX6_fillTable_131 rfl ?_
        replace e := ob e
        obtain ⟨_, eo62, e⟩ := e
        replace e := ob e
        obtain ⟨x63, ex63, e⟩ := e
        refine j_callV (ci := 5) (RC := RX5) (T := TX5) (N := 12) (As := [.int x56, .int z57]) (b := x61) (na := 2) (st := [.int z39, .int z57, .ref l1]) (k1 := 0) (n1 := 0) C hr (sX5_coefficient ex63) rfl eo62 kX6_121 kim_X5_coefficient ksel_X5_coefficient kini_X5 kc_X5_coefficient (by decide) rfl ⟨(Nat.le_of_ble_eq_true rfl), (Nat.le_of_ble_eq_true rfl)⟩ (Nat.le_of_ble_eq_true rfl) ⟨rfl, rfl, (Nat.le_of_ble_eq_true rfl), (Nat.le_of_ble_eq_true rfl)⟩ dX6_fillTable_133 ?_
        rintro _ _ ⟨rfl, rfl⟩
        show jx_J X 0 0 136 [(0, .ref l0), (1, .ref l1), (2, .int l2), (3, .int l3), (4, .int z39), (8, .int x56), (9, .int z57)] [.int x63, .int z39, .int z57, .ref l1] h58
        replace e := ob e
        obtain ⟨_, eo64, e⟩ := e
        replace e := ob e
        obtain ⟨h65, eh65, e⟩ := e
        refine j_callV (ci := 2) (RC := RX2) (T := TX2) (N := 7) (As := [.int z57, .int z39, .int x63]) (b := l1) (na := 3) (st := []) (k1 := 0) (n1 := 0) C hr (sX2_put eh65) rfl eo64 kX6_114 kim_X2_put ksel_X2_put kini_X2 kc_X2_put (by decide) rfl ⟨(Nat.le_of_ble_eq_true rfl), (Nat.le_of_ble_eq_true rfl)⟩ (Nat.le_of_ble_eq_true rfl) ⟨rfl, rfl, (Nat.le_of_ble_eq_true rfl), (Nat.le_of_ble_eq_true rfl)⟩ dX6_fillTable_136 ?_
        rintro _ _ ⟨rfl, rfl⟩
        show jx_J X 0 0 139 [(0, .ref l0), (1, .ref l1), (2, .int l2), (3, .int l3), (4, .int z39), (8, .int x56), (9, .int z57)] [] h65
        refine j_iinc (v := (z57 + (1 : Int32))) (lv1 := [(9, .int (z57 + (1 : Int32))), (0, .ref l0), (1, .ref l1), (2, .int l2), (3, .int l3), (4, .int z39), (8, .int x56)]) C hL dX6_fillTable_139 rfl rfl (Nat.le_of_ble_eq_true rfl) rfl ?_
        refine j_goto (tgt := 108) C dX6_fillTable_142 (by decide) ?_
        obtain rfl := Option.some.inj e
        refine jx_sub (lv' := [(0, .ref l0), (1, .ref l1), (2, .int l2), (3, .int l3), (4, .int z39), (8, .int x56), (9, .int (z57 + (1 : Int32)))]) [1, 2, 3, 4, 5, 6, 0] rfl ?_
        exact kI5 ((z57 + (1 : Int32)), h65) e0_5
    · replace e := ifn c69 e
      refine j_aload_n C dX6_fillTable_80 rfl rfl ?_
      refine j_iload C dX6_fillTable_81 rfl ?_
      refine j_iload C dX6_fillTable_83 rfl ?_
      refine j_iconst (v := (1 : Int32)) C dX6_fillTable_85 (by decide) ?_
      replace e := ob e
      obtain ⟨_, eo67, e⟩ := e
      replace e := ob e
      obtain ⟨h68, eh68, e⟩ := e
      refine j_callV (ci := 2) (RC := RX2) (T := TX2) (N := 7) (As := [.int x53, .int z39, .int (1 : Int32)]) (b := l1) (na := 3) (st := []) (k1 := 0) (n1 := 0) C hr (sX2_put eh68) rfl eo67 kX6_114 kim_X2_put ksel_X2_put kini_X2 kc_X2_put (by decide) rfl ⟨(Nat.le_of_ble_eq_true rfl), (Nat.le_of_ble_eq_true rfl)⟩ (Nat.le_of_ble_eq_true rfl) ⟨rfl, rfl, (Nat.le_of_ble_eq_true rfl), (Nat.le_of_ble_eq_true rfl)⟩ dX6_fillTable_86 ?_
      rintro _ _ ⟨rfl, rfl⟩
      show jx_J X 0 0 89 [(7, .int x53), (6, .int (x50 + l3)), (5, .int (x47 + l2)), (0, .ref l0), (1, .ref l1), (2, .int l2), (3, .int l3), (4, .int z39)] [] h68
      refine j_goto (tgt := 145) C dX6_fillTable_89 (by decide) ?_
      refine jx_sub (lv' := [(0, .ref l0), (1, .ref l1), (2, .int l2), (3, .int l3), (4, .int z39)]) [3, 4, 5, 6, 7] rfl ?_
      exact b145 z39 h68 e
/-! BorderBasis$Tables.prepare()V -/
noncomputable def FX6_prepare (l0 : Nat) (h : jx_H) : Option (jx_H) :=
(hgi h l0 6 13).bind fun x1 =>
if x1 = 0 then
 (hgr h l0 6 1).bind fun x2 =>
 (isO h l0 6).bind fun _ =>
 (FX6_fillTable l0 x2 (1 : Int32) (0 : Int32) h).bind fun h4 =>
 (hgr h4 l0 6 2).bind fun x5 =>
 (isO h4 l0 6).bind fun _ =>
 (FX6_fillTable l0 x5 (0 : Int32) (1 : Int32) h4).bind fun h7 =>
 (hgr h7 l0 6 3).bind fun x8 =>
 (hgr h7 l0 6 1).bind fun x9 =>
 (hgr h7 l0 6 2).bind fun x10 =>
 (hgr h7 l0 6 0).bind fun x11 =>
 (hgi h7 x11 5 0).bind fun x12 =>
 (isO h7 x8 2).bind fun _ =>
 (FX2_becomeProduct x8 x9 x10 x12 h7).bind fun h14 =>
 (hgr h14 l0 6 4).bind fun x15 =>
 (hgr h14 l0 6 2).bind fun x16 =>
 (hgr h14 l0 6 1).bind fun x17 =>
 (hgr h14 l0 6 0).bind fun x18 =>
 (hgi h14 x18 5 0).bind fun x19 =>
 (isO h14 x15 2).bind fun _ =>
 (FX2_becomeProduct x15 x16 x17 x19 h14).bind fun h21 =>
 (isO h21 l0 6).bind fun _ =>
 (FX6_compareProducts l0 h21).bind fun h23 =>
 (hp h23 l0 6 13 (.int (1 : Int32))).bind fun h24 =>
 some h24
else
 some h
def rmX6_prepare : Room := { frames := 3, cells := 0, slots := 0, locals := 74 }
set_option maxRecDepth 20000 in
set_option maxHeartbeats 4000000 in
theorem sX6_prepare {l0 : Nat} {h : jx_H} {h9 : jx_H} (e : FX6_prepare l0 h = some h9) : jx_Ct yX6_prepare cX6_prepare 1 none rmX6_prepare [.ref l0] h (fun r' h' => none = r' ∧ h9 = h') := by
  refine jx_Ct.of (own := RX6) (by decide) rfl (Nat.le_of_ble_eq_true rfl) (fun X C hq hr hL hN => ?_)
  refine jx_sub (lv' := [(0, .ref l0)]) [0] rfl ?_
  unfold FX6_prepare at e
  refine j_aload_n C dX6_prepare_0 rfl rfl ?_
  replace e := ob e
  obtain ⟨x26, ex26, e⟩ := e
  refine j_geti (ci := 6) (RC := RX6) (T := TX6) (N := 17) 13 C rfl klX6 (Nat.le_of_ble_eq_true rfl) kX6_79 rfl dX6_prepare_1 ex26 ?_
  refine j_if_eq (tgt := 8) C dX6_prepare_4 (by decide) (fun c50 => ?_) (fun c50 => ?_)
  · replace e := ifp c50 e
    refine j_aload_n C dX6_prepare_8 rfl rfl ?_
    refine j_aload_n C dX6_prepare_9 rfl rfl ?_
    replace e := ob e
    obtain ⟨x27, ex27, e⟩ := e
    refine j_getr (ci := 6) (RC := RX6) (T := TX6) (N := 17) 1 C rfl klX6 (Nat.le_of_ble_eq_true rfl) kX6_14 rfl dX6_prepare_10 ex27 ?_
    refine j_iconst (v := (1 : Int32)) C dX6_prepare_13 (by decide) ?_
    refine j_iconst (v := (0 : Int32)) C dX6_prepare_14 (by decide) ?_
    replace e := ob e
    obtain ⟨_, eo28, e⟩ := e
    replace e := ob e
    obtain ⟨h29, eh29, e⟩ := e
    refine j_callV (ci := 6) (RC := RX6) (T := TX6) (N := 17) (As := [.ref x27, .int (1 : Int32), .int (0 : Int32)]) (b := l0) (na := 3) (st := []) (k1 := 0) (n1 := 0) C hr (sX6_fillTable eh29) rfl eo28 kX6_83 kim_X6_fillTable ksel_X6_fillTable kini_X6 kc_X6_fillTable (by decide) rfl ⟨(Nat.le_of_ble_eq_true rfl), (Nat.le_of_ble_eq_true rfl)⟩ (Nat.le_of_ble_eq_true rfl) ⟨rfl, rfl, (Nat.le_of_ble_eq_true rfl), (Nat.le_of_ble_eq_true rfl)⟩ dX6_prepare_15 ?_
    rintro _ _ ⟨rfl, rfl⟩
    show jx_J X 0 0 18 [(0, .ref l0)] [] h29
    refine j_aload_n C dX6_prepare_18 rfl rfl ?_
    refine j_aload_n C dX6_prepare_19 rfl rfl ?_
    replace e := ob e
    obtain ⟨x30, ex30, e⟩ := e
    refine j_getr (ci := 6) (RC := RX6) (T := TX6) (N := 17) 2 C rfl klX6 (Nat.le_of_ble_eq_true rfl) kX6_20 rfl dX6_prepare_20 ex30 ?_
    refine j_iconst (v := (0 : Int32)) C dX6_prepare_23 (by decide) ?_
    refine j_iconst (v := (1 : Int32)) C dX6_prepare_24 (by decide) ?_
    replace e := ob e
    obtain ⟨_, eo31, e⟩ := e
    replace e := ob e
    obtain ⟨h32, eh32, e⟩ := e
    refine j_callV (ci := 6) (RC := RX6) (T := TX6) (N := 17) (As := [.ref x30, .int (0 : Int32), .int (1 : Int32)]) (b := l0) (na := 3) (st := []) (k1 := 0) (n1 := 0) C hr (sX6_fillTable eh32) rfl eo31 kX6_83 kim_X6_fillTable ksel_X6_fillTable kini_X6 kc_X6_fillTable (by decide) rfl ⟨(Nat.le_of_ble_eq_true rfl), (Nat.le_of_ble_eq_true rfl)⟩ (Nat.le_of_ble_eq_true rfl) ⟨rfl, rfl, (Nat.le_of_ble_eq_true rfl), (Nat.le_of_ble_eq_true rfl)⟩ dX6_prepare_25 ?_
    rintro _ _ ⟨rfl, rfl⟩
    show jx_J X 0 0 28 [(0, .ref l0)] [] h32
    refine j_aload_n C dX6_prepare_28 rfl rfl ?_
    replace e := ob e
    obtain ⟨x33, ex33, e⟩ := e
    refine j_getr (ci := 6) (RC := RX6) (T := TX6) (N := 17) 3 C rfl klX6 (Nat.le_of_ble_eq_true rfl) kX6_23 rfl dX6_prepare_29 ex33 ?_
    refine j_aload_n C dX6_prepare_32 rfl rfl ?_
    replace e := ob e
    obtain ⟨x34, ex34, e⟩ := e
    refine j_getr (ci := 6) (RC := RX6) (T := TX6) (N := 17) 1 C rfl klX6 (Nat.le_of_ble_eq_true rfl) kX6_14 rfl dX6_prepare_33 ex34 ?_
    refine j_aload_n C dX6_prepare_36 rfl rfl ?_
    replace e := ob e
    obtain ⟨x35, ex35, e⟩ := e
    refine j_getr (ci := 6) (RC := RX6) (T := TX6) (N := 17) 2 C rfl klX6 (Nat.le_of_ble_eq_true rfl) kX6_20 rfl dX6_prepare_37 ex35 ?_
    refine j_aload_n C dX6_prepare_40 rfl rfl ?_
    replace e := ob e
    obtain ⟨x36, ex36, e⟩ := e
    refine j_getr (ci := 6) (RC := RX6) (T := TX6) (N := 17) 0 C rfl klX6 (Nat.le_of_ble_eq_true rfl) kX6_54 rfl dX6_prepare_41 ex36 ?_
    replace e := ob e
    obtain ⟨x37, ex37, e⟩ := e
    refine j_geti (ci := 5) (RC := RX5) (T := TX5) (N := 12) 0 C rfl klX5 (Nat.le_of_ble_eq_true rfl) kX6_87 rfl dX6_prepare_44 ex37 ?_
    replace e := ob e
    obtain ⟨_, eo38, e⟩ := e
    replace e := ob e
    obtain ⟨h39, eh39, e⟩ := e
    refine j_callV (ci := 2) (RC := RX2) (T := TX2) (N := 7) (As := [.ref x34, .ref x35, .int x37]) (b := x33) (na := 3) (st := []) (k1 := 0) (n1 := 0) C hr (sX2_becomeProduct eh39) rfl eo38 kX6_92 kim_X2_becomeProduct ksel_X2_becomeProduct kini_X2 kc_X2_becomeProduct (by decide) rfl ⟨(Nat.le_of_ble_eq_true rfl), (Nat.le_of_ble_eq_true rfl)⟩ (Nat.le_of_ble_eq_true rfl) ⟨rfl, rfl, (Nat.le_of_ble_eq_true rfl), (Nat.le_of_ble_eq_true rfl)⟩ dX6_prepare_47 ?_
    rintro _ _ ⟨rfl, rfl⟩
    show jx_J X 0 0 50 [(0, .ref l0)] [] h39
    refine j_aload_n C dX6_prepare_50 rfl rfl ?_
    replace e := ob e
    obtain ⟨x40, ex40, e⟩ := e
    refine j_getr (ci := 6) (RC := RX6) (T := TX6) (N := 17) 4 C rfl klX6 (Nat.le_of_ble_eq_true rfl) kX6_26 rfl dX6_prepare_51 ex40 ?_
    refine j_aload_n C dX6_prepare_54 rfl rfl ?_
    replace e := ob e
    obtain ⟨x41, ex41, e⟩ := e
    refine j_getr (ci := 6) (RC := RX6) (T := TX6) (N := 17) 2 C rfl klX6 (Nat.le_of_ble_eq_true rfl) kX6_20 rfl dX6_prepare_55 ex41 ?_
    refine j_aload_n C dX6_prepare_58 rfl rfl ?_
    replace e := ob e
    obtain ⟨x42, ex42, e⟩ := e
    refine j_getr (ci := 6) (RC := RX6) (T := TX6) (N := 17) 1 C rfl klX6 (Nat.le_of_ble_eq_true rfl) kX6_14 rfl dX6_prepare_59 ex42 ?_
    refine j_aload_n C dX6_prepare_62 rfl rfl ?_
    replace e := ob e
    obtain ⟨x43, ex43, e⟩ := e
    refine j_getr (ci := 6) (RC := RX6) (T := TX6) (N := 17) 0 C rfl klX6 (Nat.le_of_ble_eq_true rfl) kX6_54 rfl dX6_prepare_63 ex43 ?_
    replace e := ob e
    obtain ⟨x44, ex44, e⟩ := e
    refine j_geti (ci := 5) (RC := RX5) (T := TX5) (N := 12) 0 C rfl klX5 (Nat.le_of_ble_eq_true rfl) kX6_87 rfl dX6_prepare_66 ex44 ?_
    replace e := ob e
    obtain ⟨_, eo45, e⟩ := e
    replace e := ob e
    obtain ⟨h46, eh46, e⟩ := e
    refine j_callV (ci := 2) (RC := RX2) (T := TX2) (N := 7) (As := [.ref x41, .ref x42, .int x44]) (b := x40) (na := 3) (st := []) (k1 := 0) (n1 := 0) C hr (sX2_becomeProduct eh46) rfl eo45 kX6_92 kim_X2_becomeProduct ksel_X2_becomeProduct kini_X2 kc_X2_becomeProduct (by decide) rfl ⟨(Nat.le_of_ble_eq_true rfl), (Nat.le_of_ble_eq_true rfl)⟩ (Nat.le_of_ble_eq_true rfl) ⟨rfl, rfl, (Nat.le_of_ble_eq_true rfl), (Nat.le_of_ble_eq_true rfl)⟩ dX6_prepare_69 ?_
    rintro _ _ ⟨rfl, rfl⟩
    show jx_J X 0 0 72 [(0, .ref l0)] [] h46
    refine j_aload_n C dX6_prepare_72 rfl rfl ?_
    replace e := ob e
    obtain ⟨_, eo47, e⟩ := e
    replace e := ob e
    obtain ⟨h48, eh48, e⟩ := e
    refine j_callV (ci := 6) (RC := RX6) (T := TX6) (N := 17) (As := []) (b := l0) (na := 0) (st := []) (k1 := 0) (n1 := 0) C hr (sX6_compareProducts eh48) rfl eo47 kX6_96 kim_X6_compareProducts ksel_X6_compareProducts kini_X6 kc_X6_compareProducts (by decide) rfl ⟨(Nat.le_of_ble_eq_true rfl), (Nat.le_of_ble_eq_true rfl)⟩ (Nat.le_of_ble_eq_true rfl) ⟨rfl, rfl, (Nat.le_of_ble_eq_true rfl), (Nat.le_of_ble_eq_true rfl)⟩ dX6_prepare_73 ?_
    rintro _ _ ⟨rfl, rfl⟩
    show jx_J X 0 0 76 [(0, .ref l0)] [] h48
    refine j_aload_n C dX6_prepare_76 rfl rfl ?_
    refine j_iconst (v := (1 : Int32)) C dX6_prepare_77 (by decide) ?_
    replace e := ob e
    obtain ⟨h49, eh49, e⟩ := e
    refine j_put (ci := 6) (RC := RX6) (T := TX6) (N := 17) (ty0 := tyX6) 13 C rfl klX6 tyX6_ok nmX6 (Nat.le_of_ble_eq_true rfl) kX6_79 rfl rfl rfl rfl dX6_prepare_78 eh49 ?_
    cases e
    exact j_vret C hq dX6_prepare_81 ⟨Nat.le_of_ble_eq_true rfl, Nat.le_of_ble_eq_true rfl⟩ ⟨rfl, rfl⟩
  · replace e := ifn c50 e
    cases e
    exact j_vret C hq dX6_prepare_7 ⟨Nat.le_of_ble_eq_true rfl, Nat.le_of_ble_eq_true rfl⟩ ⟨rfl, rfl⟩
/-! BorderBasis$Tables.cell(III)I -/
noncomputable def FX6_cell (l0 : Nat) (l1 : Int32) (l2 : Int32) (l3 : Int32) (h : jx_H) : Option (Int32 × jx_H) :=
(isO h l0 6).bind fun _ =>
(FX6_prepare l0 h).bind fun h2 =>
(isO h2 l0 6).bind fun _ =>
(FX6_ofVariable l0 l1 h2).bind fun x4 =>
(isO h2 x4 2).bind fun _ =>
(FX2_at x4 l2 l3 h2).bind fun x6 =>
some (x6, h2)
def rmX6_cell : Room := { frames := 4, cells := 0, slots := 0, locals := 94 }
set_option maxRecDepth 20000 in
set_option maxHeartbeats 4000000 in
theorem sX6_cell {l0 : Nat} {l1 : Int32} {l2 : Int32} {l3 : Int32} {h : jx_H} {r : Int32} {h9 : jx_H} (e : FX6_cell l0 l1 l2 l3 h = some (r, h9)) : jx_Ct yX6_cell cX6_cell 4 (some .int) rmX6_cell [.ref l0, .int l1, .int l2, .int l3] h (fun r' h' => some (.int r) = r' ∧ h9 = h') := by
  refine jx_Ct.of (own := RX6) (by decide) rfl (Nat.le_of_ble_eq_true rfl) (fun X C hq hr hL hN => ?_)
  refine jx_sub (lv' := [(0, .ref l0), (1, .int l1), (2, .int l2), (3, .int l3)]) [0, 1, 2, 3] rfl ?_
  unfold FX6_cell at e
  refine j_aload_n C dX6_cell_0 rfl rfl ?_
  replace e := ob e
  obtain ⟨_, eo7, e⟩ := e
  replace e := ob e
  obtain ⟨h8, eh8, e⟩ := e
  refine j_callV (ci := 6) (RC := RX6) (T := TX6) (N := 17) (As := []) (b := l0) (na := 0) (st := []) (k1 := 0) (n1 := 0) C hr (sX6_prepare eh8) rfl eo7 kX6_58 kim_X6_prepare ksel_X6_prepare kini_X6 kc_X6_prepare (by decide) rfl ⟨(Nat.le_of_ble_eq_true rfl), (Nat.le_of_ble_eq_true rfl)⟩ (Nat.le_of_ble_eq_true rfl) ⟨rfl, rfl, (Nat.le_of_ble_eq_true rfl), (Nat.le_of_ble_eq_true rfl)⟩ dX6_cell_1 ?_
  rintro _ _ ⟨rfl, rfl⟩
  show jx_J X 0 0 4 [(0, .ref l0), (1, .int l1), (2, .int l2), (3, .int l3)] [] h8
  refine j_aload_n C dX6_cell_4 rfl rfl ?_
  refine j_iload_n C dX6_cell_5 rfl rfl ?_
  replace e := ob e
  obtain ⟨_, eo9, e⟩ := e
  replace e := ob e
  obtain ⟨x10, ex10, e⟩ := e
  refine j_callV (ci := 6) (RC := RX6) (T := TX6) (N := 17) (As := [.int l1]) (b := l0) (na := 1) (st := []) (k1 := 0) (n1 := 0) C hr (sX6_ofVariable ex10) rfl eo9 kX6_61 kim_X6_ofVariable ksel_X6_ofVariable kini_X6 kc_X6_ofVariable (by decide) rfl ⟨(Nat.le_of_ble_eq_true rfl), (Nat.le_of_ble_eq_true rfl)⟩ (Nat.le_of_ble_eq_true rfl) ⟨rfl, rfl, (Nat.le_of_ble_eq_true rfl), (Nat.le_of_ble_eq_true rfl)⟩ dX6_cell_6 ?_
  rintro _ _ ⟨rfl, rfl⟩
  show jx_J X 0 0 9 [(0, .ref l0), (1, .int l1), (2, .int l2), (3, .int l3)] [.ref x10] h8
  refine j_iload_n C dX6_cell_9 rfl rfl ?_
  refine j_iload_n C dX6_cell_10 rfl rfl ?_
  replace e := ob e
  obtain ⟨_, eo11, e⟩ := e
  replace e := ob e
  obtain ⟨x12, ex12, e⟩ := e
  refine j_callV (ci := 2) (RC := RX2) (T := TX2) (N := 7) (As := [.int l2, .int l3]) (b := x10) (na := 2) (st := []) (k1 := 0) (n1 := 0) C hr (sX2_at ex12) rfl eo11 kX6_65 kim_X2_at ksel_X2_at kini_X2 kc_X2_at (by decide) rfl ⟨(Nat.le_of_ble_eq_true rfl), (Nat.le_of_ble_eq_true rfl)⟩ (Nat.le_of_ble_eq_true rfl) ⟨rfl, rfl, (Nat.le_of_ble_eq_true rfl), (Nat.le_of_ble_eq_true rfl)⟩ dX6_cell_11 ?_
  rintro _ _ ⟨rfl, rfl⟩
  show jx_J X 0 0 14 [(0, .ref l0), (1, .int l1), (2, .int l2), (3, .int l3)] [.int x12] h8
  cases e
  exact j_iret C hq rfl dX6_cell_14 ⟨Nat.le_of_ble_eq_true rfl, Nat.le_of_ble_eq_true rfl⟩ ⟨rfl, rfl⟩
/-! BorderBasis$Tables.differences()I -/
noncomputable def FX6_differences (l0 : Nat) (h : jx_H) : Option (Int32 × jx_H) :=
(isO h l0 6).bind fun _ =>
(FX6_prepare l0 h).bind fun h2 =>
(hgi h2 l0 6 14).bind fun x3 =>
some (x3, h2)
def rmX6_differences : Room := { frames := 4, cells := 0, slots := 0, locals := 94 }
set_option maxRecDepth 20000 in
set_option maxHeartbeats 4000000 in
theorem sX6_differences {l0 : Nat} {h : jx_H} {r : Int32} {h9 : jx_H} (e : FX6_differences l0 h = some (r, h9)) : jx_Ct yX6_differences cX6_differences 1 (some .int) rmX6_differences [.ref l0] h (fun r' h' => some (.int r) = r' ∧ h9 = h') := by
  refine jx_Ct.of (own := RX6) (by decide) rfl (Nat.le_of_ble_eq_true rfl) (fun X C hq hr hL hN => ?_)
  refine jx_sub (lv' := [(0, .ref l0)]) [0] rfl ?_
  unfold FX6_differences at e
  refine j_aload_n C dX6_differences_0 rfl rfl ?_
  replace e := ob e
  obtain ⟨_, eo4, e⟩ := e
  replace e := ob e
  obtain ⟨h5, eh5, e⟩ := e
  refine j_callV (ci := 6) (RC := RX6) (T := TX6) (N := 17) (As := []) (b := l0) (na := 0) (st := []) (k1 := 0) (n1 := 0) C hr (sX6_prepare eh5) rfl eo4 kX6_58 kim_X6_prepare ksel_X6_prepare kini_X6 kc_X6_prepare (by decide) rfl ⟨(Nat.le_of_ble_eq_true rfl), (Nat.le_of_ble_eq_true rfl)⟩ (Nat.le_of_ble_eq_true rfl) ⟨rfl, rfl, (Nat.le_of_ble_eq_true rfl), (Nat.le_of_ble_eq_true rfl)⟩ dX6_differences_1 ?_
  rintro _ _ ⟨rfl, rfl⟩
  show jx_J X 0 0 4 [(0, .ref l0)] [] h5
  refine j_aload_n C dX6_differences_4 rfl rfl ?_
  replace e := ob e
  obtain ⟨x6, ex6, e⟩ := e
  refine j_geti (ci := 6) (RC := RX6) (T := TX6) (N := 17) 14 C rfl klX6 (Nat.le_of_ble_eq_true rfl) kX6_69 rfl dX6_differences_5 ex6 ?_
  cases e
  exact j_iret C hq rfl dX6_differences_8 ⟨Nat.le_of_ble_eq_true rfl, Nat.le_of_ble_eq_true rfl⟩ ⟨rfl, rfl⟩
/-! BorderBasis$Tables.firstDifference(I)I -/
noncomputable def FX6_firstDifference (l0 : Nat) (l1 : Int32) (h : jx_H) : Option (Int32 × jx_H) :=
(isO h l0 6).bind fun _ =>
(FX6_prepare l0 h).bind fun h2 =>
if l1 = 0 then
 (hgi h2 l0 6 15).bind fun x4 =>
 some (x4, h2)
else
if l1 = 1 then
 (hgi h2 l0 6 16).bind fun x6 =>
 some (x6, h2)
else
if l1 = 2 then
 (hgr h2 l0 6 3).bind fun x8 =>
 (hgi h2 l0 6 16).bind fun x9 =>
 (hgi h2 l0 6 15).bind fun x10 =>
 (isO h2 x8 2).bind fun _ =>
 (FX2_at x8 x9 x10 h2).bind fun x12 =>
 some (x12, h2)
else
(hgr h2 l0 6 4).bind fun x13 =>
(hgi h2 l0 6 16).bind fun x14 =>
(hgi h2 l0 6 15).bind fun x15 =>
(isO h2 x13 2).bind fun _ =>
(FX2_at x13 x14 x15 h2).bind fun x17 =>
some (x17, h2)
def rmX6_firstDifference : Room := { frames := 4, cells := 0, slots := 0, locals := 94 }
set_option maxRecDepth 20000 in
set_option maxHeartbeats 4000000 in
theorem sX6_firstDifference {l0 : Nat} {l1 : Int32} {h : jx_H} {r : Int32} {h9 : jx_H} (e : FX6_firstDifference l0 l1 h = some (r, h9)) : jx_Ct yX6_firstDifference cX6_firstDifference 2 (some .int) rmX6_firstDifference [.ref l0, .int l1] h (fun r' h' => some (.int r) = r' ∧ h9 = h') := by
  refine jx_Ct.of (own := RX6) (by decide) rfl (Nat.le_of_ble_eq_true rfl) (fun X C hq hr hL hN => ?_)
  refine jx_sub (lv' := [(0, .ref l0), (1, .int l1)]) [0, 1] rfl ?_
  unfold FX6_firstDifference at e
  refine j_aload_n C dX6_firstDifference_0 rfl rfl ?_
  replace e := ob e
  obtain ⟨_, eo18, e⟩ := e
  replace e := ob e
  obtain ⟨h19, eh19, e⟩ := e
  refine j_callV (ci := 6) (RC := RX6) (T := TX6) (N := 17) (As := []) (b := l0) (na := 0) (st := []) (k1 := 0) (n1 := 0) C hr (sX6_prepare eh19) rfl eo18 kX6_58 kim_X6_prepare ksel_X6_prepare kini_X6 kc_X6_prepare (by decide) rfl ⟨(Nat.le_of_ble_eq_true rfl), (Nat.le_of_ble_eq_true rfl)⟩ (Nat.le_of_ble_eq_true rfl) ⟨rfl, rfl, (Nat.le_of_ble_eq_true rfl), (Nat.le_of_ble_eq_true rfl)⟩ dX6_firstDifference_1 ?_
  rintro _ _ ⟨rfl, rfl⟩
  show jx_J X 0 0 4 [(0, .ref l0), (1, .int l1)] [] h19
  refine j_iload_n C dX6_firstDifference_4 rfl rfl ?_
  by_cases c20 : l1 = 0
  · replace e := ifp c20 e
    refine j_tsw (tgt := 32) C (0 : Int32) dX6_firstDifference_5 c20 (by decide) (by decide) rfl (by decide) ?_
    refine j_aload_n C dX6_firstDifference_32 rfl rfl ?_
    replace e := ob e
    obtain ⟨x21, ex21, e⟩ := e
    refine j_geti (ci := 6) (RC := RX6) (T := TX6) (N := 17) 15 C rfl klX6 (Nat.le_of_ble_eq_true rfl) kX6_73 rfl dX6_firstDifference_33 ex21 ?_
    cases e
    exact j_iret C hq rfl dX6_firstDifference_36 ⟨Nat.le_of_ble_eq_true rfl, Nat.le_of_ble_eq_true rfl⟩ ⟨rfl, rfl⟩
  replace e := ifn c20 e
  by_cases c22 : l1 = 1
  · replace e := ifp c22 e
    refine j_tsw (tgt := 37) C (1 : Int32) dX6_firstDifference_5 c22 (by decide) (by decide) rfl (by decide) ?_
    refine j_aload_n C dX6_firstDifference_37 rfl rfl ?_
    replace e := ob e
    obtain ⟨x23, ex23, e⟩ := e
    refine j_geti (ci := 6) (RC := RX6) (T := TX6) (N := 17) 16 C rfl klX6 (Nat.le_of_ble_eq_true rfl) kX6_76 rfl dX6_firstDifference_38 ex23 ?_
    cases e
    exact j_iret C hq rfl dX6_firstDifference_41 ⟨Nat.le_of_ble_eq_true rfl, Nat.le_of_ble_eq_true rfl⟩ ⟨rfl, rfl⟩
  replace e := ifn c22 e
  by_cases c24 : l1 = 2
  · replace e := ifp c24 e
    refine j_tsw (tgt := 42) C (2 : Int32) dX6_firstDifference_5 c24 (by decide) (by decide) rfl (by decide) ?_
    refine j_aload_n C dX6_firstDifference_42 rfl rfl ?_
    replace e := ob e
    obtain ⟨x25, ex25, e⟩ := e
    refine j_getr (ci := 6) (RC := RX6) (T := TX6) (N := 17) 3 C rfl klX6 (Nat.le_of_ble_eq_true rfl) kX6_23 rfl dX6_firstDifference_43 ex25 ?_
    refine j_aload_n C dX6_firstDifference_46 rfl rfl ?_
    replace e := ob e
    obtain ⟨x26, ex26, e⟩ := e
    refine j_geti (ci := 6) (RC := RX6) (T := TX6) (N := 17) 16 C rfl klX6 (Nat.le_of_ble_eq_true rfl) kX6_76 rfl dX6_firstDifference_47 ex26 ?_
    refine j_aload_n C dX6_firstDifference_50 rfl rfl ?_
    replace e := ob e
    obtain ⟨x27, ex27, e⟩ := e
    refine j_geti (ci := 6) (RC := RX6) (T := TX6) (N := 17) 15 C rfl klX6 (Nat.le_of_ble_eq_true rfl) kX6_73 rfl dX6_firstDifference_51 ex27 ?_
    replace e := ob e
    obtain ⟨_, eo28, e⟩ := e
    replace e := ob e
    obtain ⟨x29, ex29, e⟩ := e
    refine j_callV (ci := 2) (RC := RX2) (T := TX2) (N := 7) (As := [.int x26, .int x27]) (b := x25) (na := 2) (st := []) (k1 := 0) (n1 := 0) C hr (sX2_at ex29) rfl eo28 kX6_65 kim_X2_at ksel_X2_at kini_X2 kc_X2_at (by decide) rfl ⟨(Nat.le_of_ble_eq_true rfl), (Nat.le_of_ble_eq_true rfl)⟩ (Nat.le_of_ble_eq_true rfl) ⟨rfl, rfl, (Nat.le_of_ble_eq_true rfl), (Nat.le_of_ble_eq_true rfl)⟩ dX6_firstDifference_54 ?_
    rintro _ _ ⟨rfl, rfl⟩
    show jx_J X 0 0 57 [(0, .ref l0), (1, .int l1)] [.int x29] h19
    cases e
    exact j_iret C hq rfl dX6_firstDifference_57 ⟨Nat.le_of_ble_eq_true rfl, Nat.le_of_ble_eq_true rfl⟩ ⟨rfl, rfl⟩
  replace e := ifn c24 e
  refine j_tswOut (tgt := 58) C dX6_firstDifference_5 (by have gc20 := jx_sw (j := 0) (by decide) c20; have gc22 := jx_sw (j := 1) (by decide) c22; have gc24 := jx_sw (j := 2) (by decide) c24; omega) (by decide) ?_
  refine j_aload_n C dX6_firstDifference_58 rfl rfl ?_
  replace e := ob e
  obtain ⟨x30, ex30, e⟩ := e
  refine j_getr (ci := 6) (RC := RX6) (T := TX6) (N := 17) 4 C rfl klX6 (Nat.le_of_ble_eq_true rfl) kX6_26 rfl dX6_firstDifference_59 ex30 ?_
  refine j_aload_n C dX6_firstDifference_62 rfl rfl ?_
  replace e := ob e
  obtain ⟨x31, ex31, e⟩ := e
  refine j_geti (ci := 6) (RC := RX6) (T := TX6) (N := 17) 16 C rfl klX6 (Nat.le_of_ble_eq_true rfl) kX6_76 rfl dX6_firstDifference_63 ex31 ?_
  refine j_aload_n C dX6_firstDifference_66 rfl rfl ?_
  replace e := ob e
  obtain ⟨x32, ex32, e⟩ := e
  refine j_geti (ci := 6) (RC := RX6) (T := TX6) (N := 17) 15 C rfl klX6 (Nat.le_of_ble_eq_true rfl) kX6_73 rfl dX6_firstDifference_67 ex32 ?_
  replace e := ob e
  obtain ⟨_, eo33, e⟩ := e
  replace e := ob e
  obtain ⟨x34, ex34, e⟩ := e
  refine j_callV (ci := 2) (RC := RX2) (T := TX2) (N := 7) (As := [.int x31, .int x32]) (b := x30) (na := 2) (st := []) (k1 := 0) (n1 := 0) C hr (sX2_at ex34) rfl eo33 kX6_65 kim_X2_at ksel_X2_at kini_X2 kc_X2_at (by decide) rfl ⟨(Nat.le_of_ble_eq_true rfl), (Nat.le_of_ble_eq_true rfl)⟩ (Nat.le_of_ble_eq_true rfl) ⟨rfl, rfl, (Nat.le_of_ble_eq_true rfl), (Nat.le_of_ble_eq_true rfl)⟩ dX6_firstDifference_70 ?_
  rintro _ _ ⟨rfl, rfl⟩
  show jx_J X 0 0 73 [(0, .ref l0), (1, .int l1)] [.int x34] h19
  cases e
  exact j_iret C hq rfl dX6_firstDifference_73 ⟨Nat.le_of_ble_eq_true rfl, Nat.le_of_ble_eq_true rfl⟩ ⟨rfl, rfl⟩
/-! BorderBasis$Tables.raise(LBorderBasis$Matrix;III)V -/
noncomputable def FX6_raise (l0 : Nat) (l1 : Nat) (l2 : Int32) (l3 : Int32) (l4 : Int32) (h : jx_H) : Option (jx_H) :=
(hgr h l0 6 5).bind fun x1 =>
(isO h l0 6).bind fun _ =>
(FX6_ofVariable l0 l2 h).bind fun x3 =>
(hgr h l0 6 0).bind fun x4 =>
(hgi h x4 5 0).bind fun x5 =>
(isO h x1 2).bind fun _ =>
(FX2_becomeShifted x1 x3 l3 x5 h).bind fun h7 =>
(hgr h7 l0 6 5).bind fun x8 =>
(hgr h7 l0 6 8).bind fun x9 =>
(hgr h7 l0 6 0).bind fun x10 =>
(hgi h7 x10 5 0).bind fun x11 =>
(isO h7 l1 2).bind fun _ =>
(FX2_becomePower l1 x8 l4 x9 x11 h7).bind fun h13 =>
some h13
def rmX6_raise : Room := { frames := 4, cells := 0, slots := 0, locals := 98 }
set_option maxRecDepth 20000 in
set_option maxHeartbeats 4000000 in
theorem sX6_raise {l0 : Nat} {l1 : Nat} {l2 : Int32} {l3 : Int32} {l4 : Int32} {h : jx_H} {h9 : jx_H} (e : FX6_raise l0 l1 l2 l3 l4 h = some h9) : jx_Ct yX6_raise cX6_raise 5 none rmX6_raise [.ref l0, .ref l1, .int l2, .int l3, .int l4] h (fun r' h' => none = r' ∧ h9 = h') := by
  refine jx_Ct.of (own := RX6) (by decide) rfl (Nat.le_of_ble_eq_true rfl) (fun X C hq hr hL hN => ?_)
  refine jx_sub (lv' := [(0, .ref l0), (1, .ref l1), (2, .int l2), (3, .int l3), (4, .int l4)]) [0, 1, 2, 3, 4] rfl ?_
  unfold FX6_raise at e
  refine j_aload_n C dX6_raise_0 rfl rfl ?_
  replace e := ob e
  obtain ⟨x14, ex14, e⟩ := e
  refine j_getr (ci := 6) (RC := RX6) (T := TX6) (N := 17) 5 C rfl klX6 (Nat.le_of_ble_eq_true rfl) kX6_29 rfl dX6_raise_1 ex14 ?_
  refine j_aload_n C dX6_raise_4 rfl rfl ?_
  refine j_iload_n C dX6_raise_5 rfl rfl ?_
  replace e := ob e
  obtain ⟨_, eo15, e⟩ := e
  replace e := ob e
  obtain ⟨x16, ex16, e⟩ := e
  refine j_callV (ci := 6) (RC := RX6) (T := TX6) (N := 17) (As := [.int l2]) (b := l0) (na := 1) (st := [.ref x14]) (k1 := 0) (n1 := 0) C hr (sX6_ofVariable ex16) rfl eo15 kX6_61 kim_X6_ofVariable ksel_X6_ofVariable kini_X6 kc_X6_ofVariable (by decide) rfl ⟨(Nat.le_of_ble_eq_true rfl), (Nat.le_of_ble_eq_true rfl)⟩ (Nat.le_of_ble_eq_true rfl) ⟨rfl, rfl, (Nat.le_of_ble_eq_true rfl), (Nat.le_of_ble_eq_true rfl)⟩ dX6_raise_6 ?_
  rintro _ _ ⟨rfl, rfl⟩
  show jx_J X 0 0 9 [(0, .ref l0), (1, .ref l1), (2, .int l2), (3, .int l3), (4, .int l4)] [.ref x16, .ref x14] h
  refine j_iload_n C dX6_raise_9 rfl rfl ?_
  refine j_aload_n C dX6_raise_10 rfl rfl ?_
  replace e := ob e
  obtain ⟨x17, ex17, e⟩ := e
  refine j_getr (ci := 6) (RC := RX6) (T := TX6) (N := 17) 0 C rfl klX6 (Nat.le_of_ble_eq_true rfl) kX6_54 rfl dX6_raise_11 ex17 ?_
  replace e := ob e
  obtain ⟨x18, ex18, e⟩ := e
  refine j_geti (ci := 5) (RC := RX5) (T := TX5) (N := 12) 0 C rfl klX5 (Nat.le_of_ble_eq_true rfl) kX6_87 rfl dX6_raise_14 ex18 ?_
  replace e := ob e
  obtain ⟨_, eo19, e⟩ := e
  replace e := ob e
  obtain ⟨h20, eh20, e⟩ := e
  refine j_callV (ci := 2) (RC := RX2) (T := TX2) (N := 7) (As := [.ref x16, .int l3, .int x18]) (b := x14) (na := 3) (st := []) (k1 := 0) (n1 := 0) C hr (sX2_becomeShifted eh20) rfl eo19 kX6_132 kim_X2_becomeShifted ksel_X2_becomeShifted kini_X2 kc_X2_becomeShifted (by decide) rfl ⟨(Nat.le_of_ble_eq_true rfl), (Nat.le_of_ble_eq_true rfl)⟩ (Nat.le_of_ble_eq_true rfl) ⟨rfl, rfl, (Nat.le_of_ble_eq_true rfl), (Nat.le_of_ble_eq_true rfl)⟩ dX6_raise_17 ?_
  rintro _ _ ⟨rfl, rfl⟩
  show jx_J X 0 0 20 [(0, .ref l0), (1, .ref l1), (2, .int l2), (3, .int l3), (4, .int l4)] [] h20
  refine j_aload_n C dX6_raise_20 rfl rfl ?_
  refine j_aload_n C dX6_raise_21 rfl rfl ?_
  replace e := ob e
  obtain ⟨x21, ex21, e⟩ := e
  refine j_getr (ci := 6) (RC := RX6) (T := TX6) (N := 17) 5 C rfl klX6 (Nat.le_of_ble_eq_true rfl) kX6_29 rfl dX6_raise_22 ex21 ?_
  refine j_iload C dX6_raise_25 rfl ?_
  refine j_aload_n C dX6_raise_27 rfl rfl ?_
  replace e := ob e
  obtain ⟨x22, ex22, e⟩ := e
  refine j_getr (ci := 6) (RC := RX6) (T := TX6) (N := 17) 8 C rfl klX6 (Nat.le_of_ble_eq_true rfl) kX6_38 rfl dX6_raise_28 ex22 ?_
  refine j_aload_n C dX6_raise_31 rfl rfl ?_
  replace e := ob e
  obtain ⟨x23, ex23, e⟩ := e
  refine j_getr (ci := 6) (RC := RX6) (T := TX6) (N := 17) 0 C rfl klX6 (Nat.le_of_ble_eq_true rfl) kX6_54 rfl dX6_raise_32 ex23 ?_
  replace e := ob e
  obtain ⟨x24, ex24, e⟩ := e
  refine j_geti (ci := 5) (RC := RX5) (T := TX5) (N := 12) 0 C rfl klX5 (Nat.le_of_ble_eq_true rfl) kX6_87 rfl dX6_raise_35 ex24 ?_
  replace e := ob e
  obtain ⟨_, eo25, e⟩ := e
  replace e := ob e
  obtain ⟨h26, eh26, e⟩ := e
  refine j_callV (ci := 2) (RC := RX2) (T := TX2) (N := 7) (As := [.ref x21, .int l4, .ref x22, .int x24]) (b := l1) (na := 4) (st := []) (k1 := 0) (n1 := 0) C hr (sX2_becomePower eh26) rfl eo25 kX6_135 kim_X2_becomePower ksel_X2_becomePower kini_X2 kc_X2_becomePower (by decide) rfl ⟨(Nat.le_of_ble_eq_true rfl), (Nat.le_of_ble_eq_true rfl)⟩ (Nat.le_of_ble_eq_true rfl) ⟨rfl, rfl, (Nat.le_of_ble_eq_true rfl), (Nat.le_of_ble_eq_true rfl)⟩ dX6_raise_38 ?_
  rintro _ _ ⟨rfl, rfl⟩
  show jx_J X 0 0 41 [(0, .ref l0), (1, .ref l1), (2, .int l2), (3, .int l3), (4, .int l4)] [] h26
  cases e
  exact j_vret C hq dX6_raise_41 ⟨Nat.le_of_ble_eq_true rfl, Nat.le_of_ble_eq_true rfl⟩ ⟨rfl, rfl⟩
/-! BorderBasis$Tables.traceOfPowers(II)I -/
noncomputable def FX6_traceOfPowers (l0 : Nat) (l1 : Int32) (l2 : Int32) (h : jx_H) : Option (Int32 × jx_H) :=
(isO h l0 6).bind fun _ =>
(FX6_prepare l0 h).bind fun h2 =>
(hgr h2 l0 6 6).bind fun x3 =>
(isO h2 l0 6).bind fun _ =>
(FX6_raise l0 x3 (0 : Int32) (0 : Int32) l1 h2).bind fun h5 =>
(hgr h5 l0 6 7).bind fun x6 =>
(isO h5 l0 6).bind fun _ =>
(FX6_raise l0 x6 (1 : Int32) (0 : Int32) l2 h5).bind fun h8 =>
(hgr h8 l0 6 6).bind fun x9 =>
(hgr h8 l0 6 7).bind fun x10 =>
(hgr h8 l0 6 0).bind fun x11 =>
(hgi h8 x11 5 0).bind fun x12 =>
(isO h8 x9 2).bind fun _ =>
(FX2_traceOfProduct x9 x10 x12 h8).bind fun x14 =>
some (x14, h8)
def rmX6_traceOfPowers : Room := { frames := 5, cells := 0, slots := 0, locals := 122 }
set_option maxRecDepth 20000 in
set_option maxHeartbeats 4000000 in
theorem sX6_traceOfPowers {l0 : Nat} {l1 : Int32} {l2 : Int32} {h : jx_H} {r : Int32} {h9 : jx_H} (e : FX6_traceOfPowers l0 l1 l2 h = some (r, h9)) : jx_Ct yX6_traceOfPowers cX6_traceOfPowers 3 (some .int) rmX6_traceOfPowers [.ref l0, .int l1, .int l2] h (fun r' h' => some (.int r) = r' ∧ h9 = h') := by
  refine jx_Ct.of (own := RX6) (by decide) rfl (Nat.le_of_ble_eq_true rfl) (fun X C hq hr hL hN => ?_)
  refine jx_sub (lv' := [(0, .ref l0), (1, .int l1), (2, .int l2)]) [0, 1, 2] rfl ?_
  unfold FX6_traceOfPowers at e
  refine j_aload_n C dX6_traceOfPowers_0 rfl rfl ?_
  replace e := ob e
  obtain ⟨_, eo15, e⟩ := e
  replace e := ob e
  obtain ⟨h16, eh16, e⟩ := e
  refine j_callV (ci := 6) (RC := RX6) (T := TX6) (N := 17) (As := []) (b := l0) (na := 0) (st := []) (k1 := 0) (n1 := 0) C hr (sX6_prepare eh16) rfl eo15 kX6_58 kim_X6_prepare ksel_X6_prepare kini_X6 kc_X6_prepare (by decide) rfl ⟨(Nat.le_of_ble_eq_true rfl), (Nat.le_of_ble_eq_true rfl)⟩ (Nat.le_of_ble_eq_true rfl) ⟨rfl, rfl, (Nat.le_of_ble_eq_true rfl), (Nat.le_of_ble_eq_true rfl)⟩ dX6_traceOfPowers_1 ?_
  rintro _ _ ⟨rfl, rfl⟩
  show jx_J X 0 0 4 [(0, .ref l0), (1, .int l1), (2, .int l2)] [] h16
  refine j_aload_n C dX6_traceOfPowers_4 rfl rfl ?_
  refine j_aload_n C dX6_traceOfPowers_5 rfl rfl ?_
  replace e := ob e
  obtain ⟨x17, ex17, e⟩ := e
  refine j_getr (ci := 6) (RC := RX6) (T := TX6) (N := 17) 6 C rfl klX6 (Nat.le_of_ble_eq_true rfl) kX6_32 rfl dX6_traceOfPowers_6 ex17 ?_
  refine j_iconst (v := (0 : Int32)) C dX6_traceOfPowers_9 (by decide) ?_
  refine j_iconst (v := (0 : Int32)) C dX6_traceOfPowers_10 (by decide) ?_
  refine j_iload_n C dX6_traceOfPowers_11 rfl rfl ?_
  replace e := ob e
  obtain ⟨_, eo18, e⟩ := e
  replace e := ob e
  obtain ⟨h19, eh19, e⟩ := e
  refine j_callV (ci := 6) (RC := RX6) (T := TX6) (N := 17) (As := [.ref x17, .int (0 : Int32), .int (0 : Int32), .int l1]) (b := l0) (na := 4) (st := []) (k1 := 0) (n1 := 0) C hr (sX6_raise eh19) rfl eo18 kX6_124 kim_X6_raise ksel_X6_raise kini_X6 kc_X6_raise (by decide) rfl ⟨(Nat.le_of_ble_eq_true rfl), (Nat.le_of_ble_eq_true rfl)⟩ (Nat.le_of_ble_eq_true rfl) ⟨rfl, rfl, (Nat.le_of_ble_eq_true rfl), (Nat.le_of_ble_eq_true rfl)⟩ dX6_traceOfPowers_12 ?_
  rintro _ _ ⟨rfl, rfl⟩
  show jx_J X 0 0 15 [(0, .ref l0), (1, .int l1), (2, .int l2)] [] h19
  refine j_aload_n C dX6_traceOfPowers_15 rfl rfl ?_
  refine j_aload_n C dX6_traceOfPowers_16 rfl rfl ?_
  replace e := ob e
  obtain ⟨x20, ex20, e⟩ := e
  refine j_getr (ci := 6) (RC := RX6) (T := TX6) (N := 17) 7 C rfl klX6 (Nat.le_of_ble_eq_true rfl) kX6_35 rfl dX6_traceOfPowers_17 ex20 ?_
  refine j_iconst (v := (1 : Int32)) C dX6_traceOfPowers_20 (by decide) ?_
  refine j_iconst (v := (0 : Int32)) C dX6_traceOfPowers_21 (by decide) ?_
  refine j_iload_n C dX6_traceOfPowers_22 rfl rfl ?_
  replace e := ob e
  obtain ⟨_, eo21, e⟩ := e
  replace e := ob e
  obtain ⟨h22, eh22, e⟩ := e
  refine j_callV (ci := 6) (RC := RX6) (T := TX6) (N := 17) (As := [.ref x20, .int (1 : Int32), .int (0 : Int32), .int l2]) (b := l0) (na := 4) (st := []) (k1 := 0) (n1 := 0) C hr (sX6_raise eh22) rfl eo21 kX6_124 kim_X6_raise ksel_X6_raise kini_X6 kc_X6_raise (by decide) rfl ⟨(Nat.le_of_ble_eq_true rfl), (Nat.le_of_ble_eq_true rfl)⟩ (Nat.le_of_ble_eq_true rfl) ⟨rfl, rfl, (Nat.le_of_ble_eq_true rfl), (Nat.le_of_ble_eq_true rfl)⟩ dX6_traceOfPowers_23 ?_
  rintro _ _ ⟨rfl, rfl⟩
  show jx_J X 0 0 26 [(0, .ref l0), (1, .int l1), (2, .int l2)] [] h22
  refine j_aload_n C dX6_traceOfPowers_26 rfl rfl ?_
  replace e := ob e
  obtain ⟨x23, ex23, e⟩ := e
  refine j_getr (ci := 6) (RC := RX6) (T := TX6) (N := 17) 6 C rfl klX6 (Nat.le_of_ble_eq_true rfl) kX6_32 rfl dX6_traceOfPowers_27 ex23 ?_
  refine j_aload_n C dX6_traceOfPowers_30 rfl rfl ?_
  replace e := ob e
  obtain ⟨x24, ex24, e⟩ := e
  refine j_getr (ci := 6) (RC := RX6) (T := TX6) (N := 17) 7 C rfl klX6 (Nat.le_of_ble_eq_true rfl) kX6_35 rfl dX6_traceOfPowers_31 ex24 ?_
  refine j_aload_n C dX6_traceOfPowers_34 rfl rfl ?_
  replace e := ob e
  obtain ⟨x25, ex25, e⟩ := e
  refine j_getr (ci := 6) (RC := RX6) (T := TX6) (N := 17) 0 C rfl klX6 (Nat.le_of_ble_eq_true rfl) kX6_54 rfl dX6_traceOfPowers_35 ex25 ?_
  replace e := ob e
  obtain ⟨x26, ex26, e⟩ := e
  refine j_geti (ci := 5) (RC := RX5) (T := TX5) (N := 12) 0 C rfl klX5 (Nat.le_of_ble_eq_true rfl) kX6_87 rfl dX6_traceOfPowers_38 ex26 ?_
  replace e := ob e
  obtain ⟨_, eo27, e⟩ := e
  replace e := ob e
  obtain ⟨x28, ex28, e⟩ := e
  refine j_callV (ci := 2) (RC := RX2) (T := TX2) (N := 7) (As := [.ref x24, .int x26]) (b := x23) (na := 2) (st := []) (k1 := 0) (n1 := 0) C hr (sX2_traceOfProduct ex28) rfl eo27 kX6_128 kim_X2_traceOfProduct ksel_X2_traceOfProduct kini_X2 kc_X2_traceOfProduct (by decide) rfl ⟨(Nat.le_of_ble_eq_true rfl), (Nat.le_of_ble_eq_true rfl)⟩ (Nat.le_of_ble_eq_true rfl) ⟨rfl, rfl, (Nat.le_of_ble_eq_true rfl), (Nat.le_of_ble_eq_true rfl)⟩ dX6_traceOfPowers_41 ?_
  rintro _ _ ⟨rfl, rfl⟩
  show jx_J X 0 0 44 [(0, .ref l0), (1, .int l1), (2, .int l2)] [.int x28] h22
  cases e
  exact j_iret C hq rfl dX6_traceOfPowers_44 ⟨Nat.le_of_ble_eq_true rfl, Nat.le_of_ble_eq_true rfl⟩ ⟨rfl, rfl⟩
/-! BorderBasis$Tables.normalFormOfMonomial(II[I)V -/
noncomputable def LX6_normalFormOfMonomial_51 (l0 : Nat) (l1 : Int32) (l3 : Nat) (l4 : Int32) (h : jx_H) : Option ((Int32 × jx_H) ⊕ (jx_H)) :=
if l1 ≤ l4 then
 exL (some h)
else
 (hgr h l0 6 1).bind fun x1 =>
 (hgr h l0 6 11).bind fun x2 =>
 (hgr h l0 6 0).bind fun x3 =>
 (hgi h x3 5 0).bind fun x4 =>
 (isO h x1 2).bind fun _ =>
 (FX2_applyTo x1 l3 x2 x4 h).bind fun h6 =>
 some (.inl ((l4 + (1 : Int32)), h6))
noncomputable def LX6_normalFormOfMonomial_17 (l0 : Nat) (l1 : Int32) (l2 : Int32) (l3 : Nat) (l4 : Int32) (h : jx_H) : Option ((Int32 × jx_H) ⊕ (jx_H)) :=
if l2 ≤ l4 then
 exL (itr (fun s : Int32 × jx_H => LX6_normalFormOfMonomial_51 l0 l1 l3 s.1 s.2) ((0 : Int32), h))
else
 (hgr h l0 6 2).bind fun x8 =>
 (hgr h l0 6 11).bind fun x9 =>
 (hgr h l0 6 0).bind fun x10 =>
 (hgi h x10 5 0).bind fun x11 =>
 (isO h x8 2).bind fun _ =>
 (FX2_applyTo x8 l3 x9 x11 h).bind fun h13 =>
 some (.inl ((l4 + (1 : Int32)), h13))
noncomputable def BX6_normalFormOfMonomial_14 (l0 : Nat) (l1 : Int32) (l2 : Int32) (l3 : Nat) (h : jx_H) : Option (jx_H) :=
itr (fun s : Int32 × jx_H => LX6_normalFormOfMonomial_17 l0 l1 l2 l3 s.1 s.2) ((0 : Int32), h)
noncomputable def FX6_normalFormOfMonomial (l0 : Nat) (l1 : Int32) (l2 : Int32) (l3 : Nat) (h : jx_H) : Option (jx_H) :=
(FJ7_fill_53178 l3 (0 : Int32) h).bind fun h15 =>
(hlen h15 l3).bind fun x16 =>
if x16 ≤ 0 then
 BX6_normalFormOfMonomial_14 l0 l1 l2 l3 h15
else
 (has h15 .int l3 (0 : Int32) (1 : Int32)).bind fun h17 =>
 BX6_normalFormOfMonomial_14 l0 l1 l2 l3 h17
def rmX6_normalFormOfMonomial : Room := { frames := 2, cells := 0, slots := 0, locals := 58 }
set_option maxRecDepth 20000 in
set_option maxHeartbeats 4000000 in
theorem sX6_normalFormOfMonomial {l0 : Nat} {l1 : Int32} {l2 : Int32} {l3 : Nat} {h : jx_H} {h9 : jx_H} (e : FX6_normalFormOfMonomial l0 l1 l2 l3 h = some h9) : jx_Ct yX6_normalFormOfMonomial cX6_normalFormOfMonomial 5 none rmX6_normalFormOfMonomial [.ref l0, .int l1, .int l2, .ref l3] h (fun r' h' => none = r' ∧ h9 = h') := by
  refine jx_Ct.of (own := RX6) (by decide) rfl (Nat.le_of_ble_eq_true rfl) (fun X C hq hr hL hN => ?_)
  refine jx_sub (lv' := [(0, .ref l0), (1, .int l1), (2, .int l2), (3, .ref l3)]) [0, 1, 2, 3] rfl ?_
  have b14 : ∀ (y19 : Nat) (y20 : Int32) (y21 : Int32) (y22 : Nat) (h23 : jx_H), BX6_normalFormOfMonomial_14 y19 y20 y21 y22 h23 = some h9 → jx_J X 0 0 14 [(0, .ref y19), (1, .int y20), (2, .int y21), (3, .ref y22)] [] h23 := by
    intro y19 y20 y21 y22 h23 e
    unfold BX6_normalFormOfMonomial_14 at e
    refine j_iconst (v := (0 : Int32)) C dX6_normalFormOfMonomial_14 (by decide) ?_
    refine j_istore (lv1 := [(4, .int (0 : Int32)), (0, .ref y19), (1, .int y20), (2, .int y21), (3, .ref y22)]) C hL dX6_normalFormOfMonomial_15 (Nat.le_of_ble_eq_true rfl) rfl ?_
    refine jx_sub (lv' := [(0, .ref y19), (1, .int y20), (2, .int y21), (3, .ref y22), (4, .int (0 : Int32))]) [1, 2, 3, 4, 0] rfl ?_
    refine itr_ind (s0 := ((0 : Int32), h23)) (fun s : Int32 × jx_H => jx_J X 0 0 17 [(0, .ref y19), (1, .int y20), (2, .int y21), (3, .ref y22), (4, .int s.1)] [] s.2) e ?_
    clear e
    intro s kI3 kT3 e0
    obtain ⟨z24, h25⟩ := s
    obtain ⟨u3, e0_3⟩ := e0
    have e : LX6_normalFormOfMonomial_17 y19 y20 y21 y22 z24 h25 = some u3 := e0_3
    unfold LX6_normalFormOfMonomial_17 at e
    refine j_iload C dX6_normalFormOfMonomial_17 rfl ?_
    refine j_iload_n C dX6_normalFormOfMonomial_19 rfl rfl ?_
    refine j_icmp_ge (tgt := 48) C dX6_normalFormOfMonomial_20 (by decide) (fun c41 => ?_) (fun c41 => ?_)
    · replace e := ifp c41 e
      obtain ⟨t_6, e_6, eu_6⟩ := exL_spec e
      obtain rfl := kT3 t_6 (e0_3.trans (congrArg some eu_6))
      replace e := e_6
      refine j_iconst (v := (0 : Int32)) C dX6_normalFormOfMonomial_48 (by decide) ?_
      refine j_istore (lv1 := [(4, .int (0 : Int32)), (0, .ref y19), (1, .int y20), (2, .int y21), (3, .ref y22)]) C hL dX6_normalFormOfMonomial_49 (Nat.le_of_ble_eq_true rfl) rfl ?_
      refine jx_sub (lv' := [(0, .ref y19), (1, .int y20), (3, .ref y22), (4, .int (0 : Int32))]) [1, 2, 4, 0] rfl ?_
      refine itr_ind (s0 := ((0 : Int32), h25)) (fun s : Int32 × jx_H => jx_J X 0 0 51 [(0, .ref y19), (1, .int y20), (3, .ref y22), (4, .int s.1)] [] s.2) e ?_
      clear e
      intro s kI4 kT4 e0
      obtain ⟨z26, h27⟩ := s
      obtain ⟨u4, e0_4⟩ := e0
      have e : LX6_normalFormOfMonomial_51 y19 y20 y22 z26 h27 = some u4 := e0_4
      unfold LX6_normalFormOfMonomial_51 at e
      refine j_iload C dX6_normalFormOfMonomial_51 rfl ?_
      refine j_iload_n C dX6_normalFormOfMonomial_53 rfl rfl ?_
      refine j_icmp_ge (tgt := 82) C dX6_normalFormOfMonomial_54 (by decide) (fun c34 => ?_) (fun c34 => ?_)
      · replace e := ifp c34 e
        obtain ⟨t_5, e_5, eu_5⟩ := exL_spec e
        obtain rfl := kT4 t_5 (e0_4.trans (congrArg some eu_5))
        replace e := e_5
        cases e
        exact j_vret C hq dX6_normalFormOfMonomial_82 ⟨Nat.le_of_ble_eq_true rfl, Nat.le_of_ble_eq_true rfl⟩ ⟨rfl, rfl⟩
      · replace e := ifn c34 e
        refine j_aload_n C dX6_normalFormOfMonomial_57 rfl rfl ?_
        replace e := ob e
        obtain ⟨x28, ex28, e⟩ := e
        refine j_getr (ci := 6) (RC := RX6) (T := TX6) (N := 17) 1 C rfl klX6 (Nat.le_of_ble_eq_true rfl) kX6_14 rfl dX6_normalFormOfMonomial_58 ex28 ?_
        refine j_aload_n C dX6_normalFormOfMonomial_61 rfl rfl ?_
        refine j_aload_n C dX6_normalFormOfMonomial_62 rfl rfl ?_
        replace e := ob e
        obtain ⟨x29, ex29, e⟩ := e
        refine j_getr (ci := 6) (RC := RX6) (T := TX6) (N := 17) 11 C rfl klX6 (Nat.le_of_ble_eq_true rfl) kX6_48 rfl dX6_normalFormOfMonomial_63 ex29 ?_
        refine j_aload_n C dX6_normalFormOfMonomial_66 rfl rfl ?_
        replace e := ob e
        obtain ⟨x30, ex30, e⟩ := e
        refine j_getr (ci := 6) (RC := RX6) (T := TX6) (N := 17) 0 C rfl klX6 (Nat.le_of_ble_eq_true rfl) kX6_54 rfl dX6_normalFormOfMonomial_67 ex30 ?_
        replace e := ob e
        obtain ⟨x31, ex31, e⟩ := e
        refine j_geti (ci := 5) (RC := RX5) (T := TX5) (N := 12) 0 C rfl klX5 (Nat.le_of_ble_eq_true rfl) kX6_87 rfl dX6_normalFormOfMonomial_70 ex31 ?_
        replace e := ob e
        obtain ⟨_, eo32, e⟩ := e
        replace e := ob e
        obtain ⟨h33, eh33, e⟩ := e
        refine j_callV (ci := 2) (RC := RX2) (T := TX2) (N := 7) (As := [.ref y22, .ref x29, .int x31]) (b := x28) (na := 3) (st := []) (k1 := 0) (n1 := 0) C hr (sX2_applyTo eh33) rfl eo32 kX6_145 kim_X2_applyTo ksel_X2_applyTo kini_X2 kc_X2_applyTo (by decide) rfl ⟨(Nat.le_of_ble_eq_true rfl), (Nat.le_of_ble_eq_true rfl)⟩ (Nat.le_of_ble_eq_true rfl) ⟨rfl, rfl, (Nat.le_of_ble_eq_true rfl), (Nat.le_of_ble_eq_true rfl)⟩ dX6_normalFormOfMonomial_73 ?_
        rintro _ _ ⟨rfl, rfl⟩
        show jx_J X 0 0 76 [(0, .ref y19), (1, .int y20), (3, .ref y22), (4, .int z26)] [] h33
        refine j_iinc (v := (z26 + (1 : Int32))) (lv1 := [(4, .int (z26 + (1 : Int32))), (0, .ref y19), (1, .int y20), (3, .ref y22)]) C hL dX6_normalFormOfMonomial_76 rfl rfl (Nat.le_of_ble_eq_true rfl) rfl ?_
        refine j_goto (tgt := 51) C dX6_normalFormOfMonomial_79 (by decide) ?_
        obtain rfl := Option.some.inj e
        refine jx_sub (lv' := [(0, .ref y19), (1, .int y20), (3, .ref y22), (4, .int (z26 + (1 : Int32)))]) [1, 2, 3, 0] rfl ?_
        exact kI4 ((z26 + (1 : Int32)), h33) e0_4
    · replace e := ifn c41 e
      refine j_aload_n C dX6_normalFormOfMonomial_23 rfl rfl ?_
      replace e := ob e
      obtain ⟨x35, ex35, e⟩ := e
      refine j_getr (ci := 6) (RC := RX6) (T := TX6) (N := 17) 2 C rfl klX6 (Nat.le_of_ble_eq_true rfl) kX6_20 rfl dX6_normalFormOfMonomial_24 ex35 ?_
      refine j_aload_n C dX6_normalFormOfMonomial_27 rfl rfl ?_
      refine j_aload_n C dX6_normalFormOfMonomial_28 rfl rfl ?_
      replace e := ob e
      obtain ⟨x36, ex36, e⟩ := e
      refine j_getr (ci := 6) (RC := RX6) (T := TX6) (N := 17) 11 C rfl klX6 (Nat.le_of_ble_eq_true rfl) kX6_48 rfl dX6_normalFormOfMonomial_29 ex36 ?_
      refine j_aload_n C dX6_normalFormOfMonomial_32 rfl rfl ?_
      replace e := ob e
      obtain ⟨x37, ex37, e⟩ := e
      refine j_getr (ci := 6) (RC := RX6) (T := TX6) (N := 17) 0 C rfl klX6 (Nat.le_of_ble_eq_true rfl) kX6_54 rfl dX6_normalFormOfMonomial_33 ex37 ?_
      replace e := ob e
      obtain ⟨x38, ex38, e⟩ := e
      refine j_geti (ci := 5) (RC := RX5) (T := TX5) (N := 12) 0 C rfl klX5 (Nat.le_of_ble_eq_true rfl) kX6_87 rfl dX6_normalFormOfMonomial_36 ex38 ?_
      replace e := ob e
      obtain ⟨_, eo39, e⟩ := e
      replace e := ob e
      obtain ⟨h40, eh40, e⟩ := e
      refine j_callV (ci := 2) (RC := RX2) (T := TX2) (N := 7) (As := [.ref y22, .ref x36, .int x38]) (b := x35) (na := 3) (st := []) (k1 := 0) (n1 := 0) C hr (sX2_applyTo eh40) rfl eo39 kX6_145 kim_X2_applyTo ksel_X2_applyTo kini_X2 kc_X2_applyTo (by decide) rfl ⟨(Nat.le_of_ble_eq_true rfl), (Nat.le_of_ble_eq_true rfl)⟩ (Nat.le_of_ble_eq_true rfl) ⟨rfl, rfl, (Nat.le_of_ble_eq_true rfl), (Nat.le_of_ble_eq_true rfl)⟩ dX6_normalFormOfMonomial_39 ?_
      rintro _ _ ⟨rfl, rfl⟩
      show jx_J X 0 0 42 [(0, .ref y19), (1, .int y20), (2, .int y21), (3, .ref y22), (4, .int z24)] [] h40
      refine j_iinc (v := (z24 + (1 : Int32))) (lv1 := [(4, .int (z24 + (1 : Int32))), (0, .ref y19), (1, .int y20), (2, .int y21), (3, .ref y22)]) C hL dX6_normalFormOfMonomial_42 rfl rfl (Nat.le_of_ble_eq_true rfl) rfl ?_
      refine j_goto (tgt := 17) C dX6_normalFormOfMonomial_45 (by decide) ?_
      obtain rfl := Option.some.inj e
      refine jx_sub (lv' := [(0, .ref y19), (1, .int y20), (2, .int y21), (3, .ref y22), (4, .int (z24 + (1 : Int32)))]) [1, 2, 3, 4, 0] rfl ?_
      exact kI3 ((z24 + (1 : Int32)), h40) e0_3
  unfold FX6_normalFormOfMonomial at e
  refine j_aload_n C dX6_normalFormOfMonomial_0 rfl rfl ?_
  refine j_iconst (v := (0 : Int32)) C dX6_normalFormOfMonomial_1 (by decide) ?_
  replace e := ob e
  obtain ⟨h42, eh42, e⟩ := e
  refine j_callS (As := [.ref l3, .int (0 : Int32)]) (na := 2) (st := []) (k1 := 0) (n1 := 0) C hr (sJ7_fill_53178 eh42) kX6_139 kst_J7_fill_53178 kini_J7 kc_J7_fill_53178 (by decide) rfl ⟨(Nat.le_of_ble_eq_true rfl), (Nat.le_of_ble_eq_true rfl)⟩ (Nat.le_of_ble_eq_true rfl) ⟨rfl, rfl, (Nat.le_of_ble_eq_true rfl), (Nat.le_of_ble_eq_true rfl)⟩ dX6_normalFormOfMonomial_2 ?_
  rintro _ _ ⟨rfl, rfl⟩
  show jx_J X 0 0 5 [(0, .ref l0), (1, .int l1), (2, .int l2), (3, .ref l3)] [] h42
  refine j_aload_n C dX6_normalFormOfMonomial_5 rfl rfl ?_
  replace e := ob e
  obtain ⟨x43, ex43, e⟩ := e
  refine j_alen C dX6_normalFormOfMonomial_6 ex43 ?_
  refine j_if_le (tgt := 14) C dX6_normalFormOfMonomial_7 (by decide) (fun c45 => ?_) (fun c45 => ?_)
  · replace e := ifp c45 e
    exact b14 l0 l1 l2 l3 h42 e
  · replace e := ifn c45 e
    refine j_aload_n C dX6_normalFormOfMonomial_10 rfl rfl ?_
    refine j_iconst (v := (0 : Int32)) C dX6_normalFormOfMonomial_11 (by decide) ?_
    refine j_iconst (v := (1 : Int32)) C dX6_normalFormOfMonomial_12 (by decide) ?_
    replace e := ob e
    obtain ⟨h44, eh44, e⟩ := e
    refine j_iast C dX6_normalFormOfMonomial_13 eh44 ?_
    exact b14 l0 l1 l2 l3 h44 e
/-! BorderBasis$Tables.addForm([III)V -/
noncomputable def LX6_addForm_3 (l0 : Nat) (l1 : Nat) (l2 : Int32) (l3 : Int32) (l4 : Int32) (h : jx_H) : Option ((Int32 × jx_H) ⊕ (jx_H)) :=
(hgr h l0 6 0).bind fun x1 =>
(hgi h x1 5 2).bind fun x2 =>
if x2 ≤ l4 then
 exL (some h)
else
 (hlen h l1).bind fun x3 =>
 if x3 ≤ l4 then
  exL (some h)
 else
  (hal h .int l1 l4).bind fun x4 =>
  (hgr h l0 6 12).bind fun x5 =>
  (isO h x5 2).bind fun _ =>
  (FX2_at x5 l3 l4 h).bind fun x7 =>
  (hgr h l0 6 0).bind fun x8 =>
  (hgi h x8 5 0).bind fun x9 =>
  (FX9_residue (x4 + (l2 * x7)) x9 h).bind fun x10 =>
  (has h .int l1 l4 x10).bind fun h11 =>
  some (.inl ((l4 + (1 : Int32)), h11))
noncomputable def FX6_addForm (l0 : Nat) (l1 : Nat) (l2 : Int32) (l3 : Int32) (h : jx_H) : Option (jx_H) :=
itr (fun s : Int32 × jx_H => LX6_addForm_3 l0 l1 l2 l3 s.1 s.2) ((0 : Int32), h)
def rmX6_addForm : Room := { frames := 2, cells := 0, slots := 0, locals := 44 }
set_option maxRecDepth 20000 in
set_option maxHeartbeats 4000000 in
theorem sX6_addForm {l0 : Nat} {l1 : Nat} {l2 : Int32} {l3 : Int32} {h : jx_H} {h9 : jx_H} (e : FX6_addForm l0 l1 l2 l3 h = some h9) : jx_Ct yX6_addForm cX6_addForm 5 none rmX6_addForm [.ref l0, .ref l1, .int l2, .int l3] h (fun r' h' => none = r' ∧ h9 = h') := by
  refine jx_Ct.of (own := RX6) (by decide) rfl (Nat.le_of_ble_eq_true rfl) (fun X C hq hr hL hN => ?_)
  refine jx_sub (lv' := [(0, .ref l0), (1, .ref l1), (2, .int l2), (3, .int l3)]) [0, 1, 2, 3] rfl ?_
  unfold FX6_addForm at e
  refine j_iconst (v := (0 : Int32)) C dX6_addForm_0 (by decide) ?_
  refine j_istore (lv1 := [(4, .int (0 : Int32)), (0, .ref l0), (1, .ref l1), (2, .int l2), (3, .int l3)]) C hL dX6_addForm_1 (Nat.le_of_ble_eq_true rfl) rfl ?_
  refine jx_sub (lv' := [(0, .ref l0), (1, .ref l1), (2, .int l2), (3, .int l3), (4, .int (0 : Int32))]) [1, 2, 3, 4, 0] rfl ?_
  refine itr_ind (s0 := ((0 : Int32), h)) (fun s : Int32 × jx_H => jx_J X 0 0 3 [(0, .ref l0), (1, .ref l1), (2, .int l2), (3, .int l3), (4, .int s.1)] [] s.2) e ?_
  clear e
  intro s kI3 kT3 e0
  obtain ⟨z14, h15⟩ := s
  obtain ⟨u3, e0_3⟩ := e0
  have e : LX6_addForm_3 l0 l1 l2 l3 z14 h15 = some u3 := e0_3
  unfold LX6_addForm_3 at e
  refine j_iload C dX6_addForm_3 rfl ?_
  refine j_aload_n C dX6_addForm_5 rfl rfl ?_
  replace e := ob e
  obtain ⟨x16, ex16, e⟩ := e
  refine j_getr (ci := 6) (RC := RX6) (T := TX6) (N := 17) 0 C rfl klX6 (Nat.le_of_ble_eq_true rfl) kX6_54 rfl dX6_addForm_6 ex16 ?_
  replace e := ob e
  obtain ⟨x17, ex17, e⟩ := e
  refine j_geti (ci := 5) (RC := RX5) (T := TX5) (N := 12) 2 C rfl klX5 (Nat.le_of_ble_eq_true rfl) kX6_99 rfl dX6_addForm_9 ex17 ?_
  refine j_icmp_ge (tgt := 59) C dX6_addForm_12 (by decide) (fun c28 => ?_) (fun c28 => ?_)
  · replace e := ifp c28 e
    obtain ⟨t_4, e_4, eu_4⟩ := exL_spec e
    obtain rfl := kT3 t_4 (e0_3.trans (congrArg some eu_4))
    replace e := e_4
    cases e
    exact j_vret C hq dX6_addForm_59 ⟨Nat.le_of_ble_eq_true rfl, Nat.le_of_ble_eq_true rfl⟩ ⟨rfl, rfl⟩
  · replace e := ifn c28 e
    refine j_iload C dX6_addForm_15 rfl ?_
    refine j_aload_n C dX6_addForm_17 rfl rfl ?_
    replace e := ob e
    obtain ⟨x18, ex18, e⟩ := e
    refine j_alen C dX6_addForm_18 ex18 ?_
    refine j_icmp_ge (tgt := 59) C dX6_addForm_19 (by decide) (fun c27 => ?_) (fun c27 => ?_)
    · replace e := ifp c27 e
      obtain ⟨t_5, e_5, eu_5⟩ := exL_spec e
      obtain rfl := kT3 t_5 (e0_3.trans (congrArg some eu_5))
      replace e := e_5
      cases e
      exact j_vret C hq dX6_addForm_59 ⟨Nat.le_of_ble_eq_true rfl, Nat.le_of_ble_eq_true rfl⟩ ⟨rfl, rfl⟩
    · replace e := ifn c27 e
      refine j_aload_n C dX6_addForm_22 rfl rfl ?_
      refine j_iload C dX6_addForm_23 rfl ?_
      refine j_aload_n C dX6_addForm_25 rfl rfl ?_
      refine j_iload C dX6_addForm_26 rfl ?_
      replace e := ob e
      obtain ⟨x19, ex19, e⟩ := e
      refine j_iald C dX6_addForm_28 ex19 ?_
      refine j_iload_n C dX6_addForm_29 rfl rfl ?_
      refine j_aload_n C dX6_addForm_30 rfl rfl ?_
      replace e := ob e
      obtain ⟨x20, ex20, e⟩ := e
      refine j_getr (ci := 6) (RC := RX6) (T := TX6) (N := 17) 12 C rfl klX6 (Nat.le_of_ble_eq_true rfl) kX6_51 rfl dX6_addForm_31 ex20 ?_
      refine j_iload_n C dX6_addForm_34 rfl rfl ?_
      refine j_iload C dX6_addForm_35 rfl ?_
      replace e := ob e
      obtain ⟨_, eo21, e⟩ := e
      replace e := ob e
      obtain ⟨x22, ex22, e⟩ := e
      refine j_callV (ci := 2) (RC := RX2) (T := TX2) (N := 7) (As := [.int l3, .int z14]) (b := x20) (na := 2) (st := [.int l2, .int x19, .int z14, .ref l1]) (k1 := 0) (n1 := 0) C hr (sX2_at ex22) rfl eo21 kX6_65 kim_X2_at ksel_X2_at kini_X2 kc_X2_at (by decide) rfl ⟨(Nat.le_of_ble_eq_true rfl), (Nat.le_of_ble_eq_true rfl)⟩ (Nat.le_of_ble_eq_true rfl) ⟨rfl, rfl, (Nat.le_of_ble_eq_true rfl), (Nat.le_of_ble_eq_true rfl)⟩ dX6_addForm_37 ?_
      rintro _ _ ⟨rfl, rfl⟩
      show jx_J X 0 0 40 [(0, .ref l0), (1, .ref l1), (2, .int l2), (3, .int l3), (4, .int z14)] [.int x22, .int l2, .int x19, .int z14, .ref l1] h15
      refine j_imul C dX6_addForm_40 ?_
      refine j_iadd C dX6_addForm_41 ?_
      refine j_aload_n C dX6_addForm_42 rfl rfl ?_
      replace e := ob e
      obtain ⟨x23, ex23, e⟩ := e
      refine j_getr (ci := 6) (RC := RX6) (T := TX6) (N := 17) 0 C rfl klX6 (Nat.le_of_ble_eq_true rfl) kX6_54 rfl dX6_addForm_43 ex23 ?_
      replace e := ob e
      obtain ⟨x24, ex24, e⟩ := e
      refine j_geti (ci := 5) (RC := RX5) (T := TX5) (N := 12) 0 C rfl klX5 (Nat.le_of_ble_eq_true rfl) kX6_87 rfl dX6_addForm_46 ex24 ?_
      replace e := ob e
      obtain ⟨x25, ex25, e⟩ := e
      refine j_callSN (As := [.int (x19 + (l2 * x22)), .int x24]) (na := 2) (st := [.int z14, .ref l1]) (k1 := 0) (n1 := 0) C hr (sX9_residue ex25) kX6_160 kst_X9_residue kini_X9 kc_X9_residue (by decide) rfl ⟨(Nat.le_of_ble_eq_true rfl), (Nat.le_of_ble_eq_true rfl)⟩ (Nat.le_of_ble_eq_true rfl) ⟨rfl, rfl, (Nat.le_of_ble_eq_true rfl), (Nat.le_of_ble_eq_true rfl)⟩ dX6_addForm_49 ?_
      rintro _ _ ⟨rfl, rfl⟩
      show jx_J X 0 0 52 [(0, .ref l0), (1, .ref l1), (2, .int l2), (3, .int l3), (4, .int z14)] [.int x25, .int z14, .ref l1] h15
      replace e := ob e
      obtain ⟨h26, eh26, e⟩ := e
      refine j_iast C dX6_addForm_52 eh26 ?_
      refine j_iinc (v := (z14 + (1 : Int32))) (lv1 := [(4, .int (z14 + (1 : Int32))), (0, .ref l0), (1, .ref l1), (2, .int l2), (3, .int l3)]) C hL dX6_addForm_53 rfl rfl (Nat.le_of_ble_eq_true rfl) rfl ?_
      refine j_goto (tgt := 3) C dX6_addForm_56 (by decide) ?_
      obtain rfl := Option.some.inj e
      refine jx_sub (lv' := [(0, .ref l0), (1, .ref l1), (2, .int l2), (3, .int l3), (4, .int (z14 + (1 : Int32)))]) [1, 2, 3, 4, 0] rfl ?_
      exact kI3 ((z14 + (1 : Int32)), h26) e0_3
/-! BorderBasis$Tables.listFormsY()V -/
noncomputable def LX6_listFormsY_36 (l0 : Nat) (l1 : Int32) (l2 : Int32) (h : jx_H) : Option ((Int32 × jx_H) ⊕ ((Int32 × jx_H) ⊕ (jx_H))) :=
(hgr h l0 6 0).bind fun x9 =>
(hgi h x9 5 2).bind fun x10 =>
if x10 ≤ l2 then
 exL ((hgr h l0 6 2).bind fun x11 =>
 (hgr h l0 6 10).bind fun x12 =>
 (hgr h l0 6 11).bind fun x13 =>
 (hgr h l0 6 0).bind fun x14 =>
 (hgi h x14 5 0).bind fun x15 =>
 (isO h x11 2).bind fun _ =>
 (FX2_applyTo x11 x12 x13 x15 h).bind fun h17 =>
 some (.inl ((l1 + (1 : Int32)), h17)))
else
 (hgr h l0 6 12).bind fun x18 =>
 (hgr h l0 6 10).bind fun x19 =>
 (hal h .int x19 l2).bind fun x20 =>
 (isO h x18 2).bind fun _ =>
 (FX2_put x18 l1 l2 x20 h).bind fun h22 =>
 some (.inl ((l2 + (1 : Int32)), h22))
noncomputable def LX6_listFormsY_28 (l0 : Nat) (l1 : Int32) (h : jx_H) : Option ((Int32 × jx_H) ⊕ (jx_H)) :=
if (20 : Int32) < l1 then
 exL (some h)
else
 itr (fun s : Int32 × jx_H => LX6_listFormsY_36 l0 l1 s.1 s.2) ((0 : Int32), h)
noncomputable def FX6_listFormsY (l0 : Nat) (h : jx_H) : Option (jx_H) :=
(hgr h l0 6 12).bind fun x1 =>
(hgr h l0 6 0).bind fun x2 =>
(hgi h x2 5 2).bind fun x3 =>
(isO h x1 2).bind fun _ =>
(FX2_clear x1 (21 : Int32) x3 h).bind fun h5 =>
(hgr h5 l0 6 10).bind fun x6 =>
(isO h5 l0 6).bind fun _ =>
(FX6_normalFormOfMonomial l0 (0 : Int32) (0 : Int32) x6 h5).bind fun h8 =>
itr (fun s : Int32 × jx_H => LX6_listFormsY_28 l0 s.1 s.2) ((0 : Int32), h8)
def rmX6_listFormsY : Room := { frames := 3, cells := 0, slots := 0, locals := 82 }
set_option maxRecDepth 20000 in
set_option maxHeartbeats 4000000 in
theorem sX6_listFormsY {l0 : Nat} {h : jx_H} {h9 : jx_H} (e : FX6_listFormsY l0 h = some h9) : jx_Ct yX6_listFormsY cX6_listFormsY 3 none rmX6_listFormsY [.ref l0] h (fun r' h' => none = r' ∧ h9 = h') := by
  refine jx_Ct.of (own := RX6) (by decide) rfl (Nat.le_of_ble_eq_true rfl) (fun X C hq hr hL hN => ?_)
  refine jx_sub (lv' := [(0, .ref l0)]) [0] rfl ?_
  unfold FX6_listFormsY at e
  refine j_aload_n C dX6_listFormsY_0 rfl rfl ?_
  replace e := ob e
  obtain ⟨x25, ex25, e⟩ := e
  refine j_getr (ci := 6) (RC := RX6) (T := TX6) (N := 17) 12 C rfl klX6 (Nat.le_of_ble_eq_true rfl) kX6_51 rfl dX6_listFormsY_1 ex25 ?_
  refine j_bipush (v := (21 : Int32)) C dX6_listFormsY_4 (by decide) ?_
  refine j_aload_n C dX6_listFormsY_6 rfl rfl ?_
  replace e := ob e
  obtain ⟨x26, ex26, e⟩ := e
  refine j_getr (ci := 6) (RC := RX6) (T := TX6) (N := 17) 0 C rfl klX6 (Nat.le_of_ble_eq_true rfl) kX6_54 rfl dX6_listFormsY_7 ex26 ?_
  replace e := ob e
  obtain ⟨x27, ex27, e⟩ := e
  refine j_geti (ci := 5) (RC := RX5) (T := TX5) (N := 12) 2 C rfl klX5 (Nat.le_of_ble_eq_true rfl) kX6_99 rfl dX6_listFormsY_10 ex27 ?_
  replace e := ob e
  obtain ⟨_, eo28, e⟩ := e
  replace e := ob e
  obtain ⟨h29, eh29, e⟩ := e
  refine j_callV (ci := 2) (RC := RX2) (T := TX2) (N := 7) (As := [.int (21 : Int32), .int x27]) (b := x25) (na := 2) (st := []) (k1 := 0) (n1 := 0) C hr (sX2_clear eh29) rfl eo28 kX6_102 kim_X2_clear ksel_X2_clear kini_X2 kc_X2_clear (by decide) rfl ⟨(Nat.le_of_ble_eq_true rfl), (Nat.le_of_ble_eq_true rfl)⟩ (Nat.le_of_ble_eq_true rfl) ⟨rfl, rfl, (Nat.le_of_ble_eq_true rfl), (Nat.le_of_ble_eq_true rfl)⟩ dX6_listFormsY_13 ?_
  rintro _ _ ⟨rfl, rfl⟩
  show jx_J X 0 0 16 [(0, .ref l0)] [] h29
  refine j_aload_n C dX6_listFormsY_16 rfl rfl ?_
  refine j_iconst (v := (0 : Int32)) C dX6_listFormsY_17 (by decide) ?_
  refine j_iconst (v := (0 : Int32)) C dX6_listFormsY_18 (by decide) ?_
  refine j_aload_n C dX6_listFormsY_19 rfl rfl ?_
  replace e := ob e
  obtain ⟨x30, ex30, e⟩ := e
  refine j_getr (ci := 6) (RC := RX6) (T := TX6) (N := 17) 10 C rfl klX6 (Nat.le_of_ble_eq_true rfl) kX6_44 rfl dX6_listFormsY_20 ex30 ?_
  replace e := ob e
  obtain ⟨_, eo31, e⟩ := e
  replace e := ob e
  obtain ⟨h32, eh32, e⟩ := e
  refine j_callV (ci := 6) (RC := RX6) (T := TX6) (N := 17) (As := [.int (0 : Int32), .int (0 : Int32), .ref x30]) (b := l0) (na := 3) (st := []) (k1 := 0) (n1 := 0) C hr (sX6_normalFormOfMonomial eh32) rfl eo31 kX6_156 kim_X6_normalFormOfMonomial ksel_X6_normalFormOfMonomial kini_X6 kc_X6_normalFormOfMonomial (by decide) rfl ⟨(Nat.le_of_ble_eq_true rfl), (Nat.le_of_ble_eq_true rfl)⟩ (Nat.le_of_ble_eq_true rfl) ⟨rfl, rfl, (Nat.le_of_ble_eq_true rfl), (Nat.le_of_ble_eq_true rfl)⟩ dX6_listFormsY_23 ?_
  rintro _ _ ⟨rfl, rfl⟩
  show jx_J X 0 0 26 [(0, .ref l0)] [] h32
  refine j_iconst (v := (0 : Int32)) C dX6_listFormsY_26 (by decide) ?_
  refine j_istore_n (lv1 := [(1, .int (0 : Int32)), (0, .ref l0)]) C hL dX6_listFormsY_27 rfl (Nat.le_of_ble_eq_true rfl) rfl ?_
  refine jx_sub (lv' := [(0, .ref l0), (1, .int (0 : Int32))]) [1, 0] rfl ?_
  refine itr_ind (s0 := ((0 : Int32), h32)) (fun s : Int32 × jx_H => jx_J X 0 0 28 [(0, .ref l0), (1, .int s.1)] [] s.2) e ?_
  clear e
  intro s kI3 kT3 e0
  obtain ⟨z33, h34⟩ := s
  obtain ⟨u3, e0_3⟩ := e0
  have e : LX6_listFormsY_28 l0 z33 h34 = some u3 := e0_3
  unfold LX6_listFormsY_28 at e
  refine j_iload_n C dX6_listFormsY_28 rfl rfl ?_
  refine j_bipush (v := (20 : Int32)) C dX6_listFormsY_29 (by decide) ?_
  refine j_icmp_gt (tgt := 96) C dX6_listFormsY_31 (by decide) (fun c52 => ?_) (fun c52 => ?_)
  · replace e := ifp c52 e
    obtain ⟨t_4, e_4, eu_4⟩ := exL_spec e
    obtain rfl := kT3 t_4 (e0_3.trans (congrArg some eu_4))
    replace e := e_4
    cases e
    exact j_vret C hq dX6_listFormsY_96 ⟨Nat.le_of_ble_eq_true rfl, Nat.le_of_ble_eq_true rfl⟩ ⟨rfl, rfl⟩
  · replace e := ifn c52 e
    refine j_iconst (v := (0 : Int32)) C dX6_listFormsY_34 (by decide) ?_
    refine j_istore_n (lv1 := [(2, .int (0 : Int32)), (0, .ref l0), (1, .int z33)]) C hL dX6_listFormsY_35 rfl (Nat.le_of_ble_eq_true rfl) rfl ?_
    refine jx_sub (lv' := [(0, .ref l0), (1, .int z33), (2, .int (0 : Int32))]) [1, 2, 0] rfl ?_
    refine itr_ind (s0 := ((0 : Int32), h34)) (fun s : Int32 × jx_H => jx_J X 0 0 36 [(0, .ref l0), (1, .int z33), (2, .int s.1)] [] s.2) e ?_
    clear e
    intro s kI5 kT5 e0
    obtain ⟨z35, h36⟩ := s
    obtain ⟨u5, e0_5⟩ := e0
    have e : LX6_listFormsY_36 l0 z33 z35 h36 = some u5 := e0_5
    unfold LX6_listFormsY_36 at e
    refine j_iload_n C dX6_listFormsY_36 rfl rfl ?_
    refine j_aload_n C dX6_listFormsY_37 rfl rfl ?_
    replace e := ob e
    obtain ⟨x37, ex37, e⟩ := e
    refine j_getr (ci := 6) (RC := RX6) (T := TX6) (N := 17) 0 C rfl klX6 (Nat.le_of_ble_eq_true rfl) kX6_54 rfl dX6_listFormsY_38 ex37 ?_
    replace e := ob e
    obtain ⟨x38, ex38, e⟩ := e
    refine j_geti (ci := 5) (RC := RX5) (T := TX5) (N := 12) 2 C rfl klX5 (Nat.le_of_ble_eq_true rfl) kX6_99 rfl dX6_listFormsY_41 ex38 ?_
    refine j_icmp_ge (tgt := 68) C dX6_listFormsY_44 (by decide) (fun c51 => ?_) (fun c51 => ?_)
    · replace e := ifp c51 e
      obtain ⟨t_6, e_6, eu_6⟩ := exL_spec e
      obtain rfl := kT5 t_6 (e0_5.trans (congrArg some eu_6))
      replace e := e_6
      refine j_aload_n C dX6_listFormsY_68 rfl rfl ?_
      replace e := ob e
      obtain ⟨x39, ex39, e⟩ := e
      refine j_getr (ci := 6) (RC := RX6) (T := TX6) (N := 17) 2 C rfl klX6 (Nat.le_of_ble_eq_true rfl) kX6_20 rfl dX6_listFormsY_69 ex39 ?_
      refine j_aload_n C dX6_listFormsY_72 rfl rfl ?_
      replace e := ob e
      obtain ⟨x40, ex40, e⟩ := e
      refine j_getr (ci := 6) (RC := RX6) (T := TX6) (N := 17) 10 C rfl klX6 (Nat.le_of_ble_eq_true rfl) kX6_44 rfl dX6_listFormsY_73 ex40 ?_
      refine j_aload_n C dX6_listFormsY_76 rfl rfl ?_
      replace e := ob e
      obtain ⟨x41, ex41, e⟩ := e
      refine j_getr (ci := 6) (RC := RX6) (T := TX6) (N := 17) 11 C rfl klX6 (Nat.le_of_ble_eq_true rfl) kX6_48 rfl dX6_listFormsY_77 ex41 ?_
      refine j_aload_n C dX6_listFormsY_80 rfl rfl ?_
      replace e := ob e
      obtain ⟨x42, ex42, e⟩ := e
      refine j_getr (ci := 6) (RC := RX6) (T := TX6) (N := 17) 0 C rfl klX6 (Nat.le_of_ble_eq_true rfl) kX6_54 rfl dX6_listFormsY_81 ex42 ?_
      replace e := ob e
      obtain ⟨x43, ex43, e⟩ := e
      refine j_geti (ci := 5) (RC := RX5) (T := TX5) (N := 12) 0 C rfl klX5 (Nat.le_of_ble_eq_true rfl) kX6_87 rfl dX6_listFormsY_84 ex43 ?_
      replace e := ob e
      obtain ⟨_, eo44, e⟩ := e
      replace e := ob e
      obtain ⟨h45, eh45, e⟩ := e
      refine j_callV (ci := 2) (RC := RX2) (T := TX2) (N := 7) (As := [.ref x40, .ref x41, .int x43]) (b := x39) (na := 3) (st := []) (k1 := 0) (n1 := 0) C hr (sX2_applyTo eh45) rfl eo44 kX6_145 kim_X2_applyTo ksel_X2_applyTo kini_X2 kc_X2_applyTo (by decide) rfl ⟨(Nat.le_of_ble_eq_true rfl), (Nat.le_of_ble_eq_true rfl)⟩ (Nat.le_of_ble_eq_true rfl) ⟨rfl, rfl, (Nat.le_of_ble_eq_true rfl), (Nat.le_of_ble_eq_true rfl)⟩ dX6_listFormsY_87 ?_
      rintro _ _ ⟨rfl, rfl⟩
      show jx_J X 0 0 90 [(0, .ref l0), (1, .int z33), (2, .int z35)] [] h45
      refine j_iinc (v := (z33 + (1 : Int32))) (lv1 := [(1, .int (z33 + (1 : Int32))), (0, .ref l0), (2, .int z35)]) C hL dX6_listFormsY_90 rfl rfl (Nat.le_of_ble_eq_true rfl) rfl ?_
      refine j_goto (tgt := 28) C dX6_listFormsY_93 (by decide) ?_
      obtain rfl := Option.some.inj e
      refine jx_sub (lv' := [(0, .ref l0), (1, .int (z33 + (1 : Int32)))]) [1, 0] rfl ?_
      exact kI3 ((z33 + (1 : Int32)), h45) e0_3
    · replace e := ifn c51 e
      refine j_aload_n C dX6_listFormsY_47 rfl rfl ?_
      replace e := ob e
      obtain ⟨x46, ex46, e⟩ := e
      refine j_getr (ci := 6) (RC := RX6) (T := TX6) (N := 17) 12 C rfl klX6 (Nat.le_of_ble_eq_true rfl) kX6_51 rfl dX6_listFormsY_48 ex46 ?_
      refine j_iload_n C dX6_listFormsY_51 rfl rfl ?_
      refine j_iload_n C dX6_listFormsY_52 rfl rfl ?_
      refine j_aload_n C dX6_listFormsY_53 rfl rfl ?_
      replace e := ob e
      obtain ⟨x47, ex47, e⟩ := e
      refine j_getr (ci := 6) (RC := RX6) (T := TX6) (N := 17) 10 C rfl klX6 (Nat.le_of_ble_eq_true rfl) kX6_44 rfl dX6_listFormsY_54 ex47 ?_
      refine j_iload_n C dX6_listFormsY_57 rfl rfl ?_
      replace e := ob e
      obtain ⟨x48, ex48, e⟩ := e
      refine j_iald C dX6_listFormsY_58 ex48 ?_
      replace e := ob e
      obtain ⟨_, eo49, e⟩ := e
      replace e := ob e
      obtain ⟨h50, eh50, e⟩ := e
      refine j_callV (ci := 2) (RC := RX2) (T := TX2) (N := 7) (As := [.int z33, .int z35, .int x48]) (b := x46) (na := 3) (st := []) (k1 := 0) (n1 := 0) C hr (sX2_put eh50) rfl eo49 kX6_114 kim_X2_put ksel_X2_put kini_X2 kc_X2_put (by decide) rfl ⟨(Nat.le_of_ble_eq_true rfl), (Nat.le_of_ble_eq_true rfl)⟩ (Nat.le_of_ble_eq_true rfl) ⟨rfl, rfl, (Nat.le_of_ble_eq_true rfl), (Nat.le_of_ble_eq_true rfl)⟩ dX6_listFormsY_59 ?_
      rintro _ _ ⟨rfl, rfl⟩
      show jx_J X 0 0 62 [(0, .ref l0), (1, .int z33), (2, .int z35)] [] h50
      refine j_iinc (v := (z35 + (1 : Int32))) (lv1 := [(2, .int (z35 + (1 : Int32))), (0, .ref l0), (1, .int z33)]) C hL dX6_listFormsY_62 rfl rfl (Nat.le_of_ble_eq_true rfl) rfl ?_
      refine j_goto (tgt := 36) C dX6_listFormsY_65 (by decide) ?_
      obtain rfl := Option.some.inj e
      refine jx_sub (lv' := [(0, .ref l0), (1, .int z33), (2, .int (z35 + (1 : Int32)))]) [1, 2, 0] rfl ?_
      exact kI5 ((z35 + (1 : Int32)), h50) e0_5
/-! BorderBasis$Tables.normalFormOf([I[I)V -/
noncomputable def BX6_normalFormOf_83 (l0 : Nat) (l1 : Nat) (l2 : Nat) (l3 : Int32) (l4 : Int32) (h : jx_H) : Option ((Int32 × jx_H) ⊕ ((Int32 × jx_H) ⊕ (jx_H))) :=
some (.inl ((l4 + (1 : Int32)), h))
noncomputable def LX6_normalFormOf_42 (l0 : Nat) (l1 : Nat) (l2 : Nat) (l3 : Int32) (l4 : Int32) (h : jx_H) : Option ((Int32 × jx_H) ⊕ ((Int32 × jx_H) ⊕ (jx_H))) :=
if (20 : Int32) < l4 then
 exL (some (.inl ((l3 + (-1 : Int32)), h)))
else
 (hlen h l1).bind fun x12 =>
 if x12 ≤ ((l3 * (21 : Int32)) + l4) then
  BX6_normalFormOf_83 l0 l1 l2 l3 l4 h
 else
  (hal h .int l1 ((l3 * (21 : Int32)) + l4)).bind fun x13 =>
  if x13 = 0 then
   BX6_normalFormOf_83 l0 l1 l2 l3 l4 h
  else
   (hal h .int l1 ((l3 * (21 : Int32)) + l4)).bind fun x14 =>
   (isO h l0 6).bind fun _ =>
   (FX6_addForm l0 l2 x14 l4 h).bind fun h16 =>
   BX6_normalFormOf_83 l0 l1 l2 l3 l4 h16
noncomputable def LX6_normalFormOf_16 (l0 : Nat) (l1 : Nat) (l2 : Nat) (l3 : Int32) (h : jx_H) : Option ((Int32 × jx_H) ⊕ (jx_H)) :=
if l3 < 0 then
 exL (some h)
else
 (hgr h l0 6 1).bind fun x6 =>
 (hgr h l0 6 11).bind fun x7 =>
 (hgr h l0 6 0).bind fun x8 =>
 (hgi h x8 5 0).bind fun x9 =>
 (isO h x6 2).bind fun _ =>
 (FX2_applyTo x6 l2 x7 x9 h).bind fun h11 =>
 itr (fun s : Int32 × jx_H => LX6_normalFormOf_42 l0 l1 l2 l3 s.1 s.2) ((0 : Int32), h11)
noncomputable def FX6_normalFormOf (l0 : Nat) (l1 : Nat) (l2 : Nat) (h : jx_H) : Option (jx_H) :=
(isO h l0 6).bind fun _ =>
(FX6_prepare l0 h).bind fun h2 =>
(isO h2 l0 6).bind fun _ =>
(FX6_listFormsY l0 h2).bind fun h4 =>
(FJ7_fill_53178 l2 (0 : Int32) h4).bind fun h5 =>
itr (fun s : Int32 × jx_H => LX6_normalFormOf_16 l0 l1 l2 s.1 s.2) ((20 : Int32), h5)
def rmX6_normalFormOf : Room := { frames := 4, cells := 0, slots := 0, locals := 104 }
set_option maxRecDepth 20000 in
set_option maxHeartbeats 4000000 in
theorem sX6_normalFormOf {l0 : Nat} {l1 : Nat} {l2 : Nat} {h : jx_H} {h9 : jx_H} (e : FX6_normalFormOf l0 l1 l2 h = some h9) : jx_Ct yX6_normalFormOf cX6_normalFormOf 6 none rmX6_normalFormOf [.ref l0, .ref l1, .ref l2] h (fun r' h' => none = r' ∧ h9 = h') := by
  refine jx_Ct.of (own := RX6) (by decide) rfl (Nat.le_of_ble_eq_true rfl) (fun X C hq hr hL hN => ?_)
  refine jx_sub (lv' := [(0, .ref l0), (1, .ref l1), (2, .ref l2)]) [0, 1, 2] rfl ?_
  unfold FX6_normalFormOf at e
  refine j_aload_n C dX6_normalFormOf_0 rfl rfl ?_
  replace e := ob e
  obtain ⟨_, eo21, e⟩ := e
  replace e := ob e
  obtain ⟨h22, eh22, e⟩ := e
  refine j_callV (ci := 6) (RC := RX6) (T := TX6) (N := 17) (As := []) (b := l0) (na := 0) (st := []) (k1 := 0) (n1 := 0) C hr (sX6_prepare eh22) rfl eo21 kX6_58 kim_X6_prepare ksel_X6_prepare kini_X6 kc_X6_prepare (by decide) rfl ⟨(Nat.le_of_ble_eq_true rfl), (Nat.le_of_ble_eq_true rfl)⟩ (Nat.le_of_ble_eq_true rfl) ⟨rfl, rfl, (Nat.le_of_ble_eq_true rfl), (Nat.le_of_ble_eq_true rfl)⟩ dX6_normalFormOf_1 ?_
  rintro _ _ ⟨rfl, rfl⟩
  show jx_J X 0 0 4 [(0, .ref l0), (1, .ref l1), (2, .ref l2)] [] h22
  refine j_aload_n C dX6_normalFormOf_4 rfl rfl ?_
  replace e := ob e
  obtain ⟨_, eo23, e⟩ := e
  replace e := ob e
  obtain ⟨h24, eh24, e⟩ := e
  refine j_callV (ci := 6) (RC := RX6) (T := TX6) (N := 17) (As := []) (b := l0) (na := 0) (st := []) (k1 := 0) (n1 := 0) C hr (sX6_listFormsY eh24) rfl eo23 kX6_149 kim_X6_listFormsY ksel_X6_listFormsY kini_X6 kc_X6_listFormsY (by decide) rfl ⟨(Nat.le_of_ble_eq_true rfl), (Nat.le_of_ble_eq_true rfl)⟩ (Nat.le_of_ble_eq_true rfl) ⟨rfl, rfl, (Nat.le_of_ble_eq_true rfl), (Nat.le_of_ble_eq_true rfl)⟩ dX6_normalFormOf_5 ?_
  rintro _ _ ⟨rfl, rfl⟩
  show jx_J X 0 0 8 [(0, .ref l0), (1, .ref l1), (2, .ref l2)] [] h24
  refine j_aload_n C dX6_normalFormOf_8 rfl rfl ?_
  refine j_iconst (v := (0 : Int32)) C dX6_normalFormOf_9 (by decide) ?_
  replace e := ob e
  obtain ⟨h25, eh25, e⟩ := e
  refine j_callS (As := [.ref l2, .int (0 : Int32)]) (na := 2) (st := []) (k1 := 0) (n1 := 0) C hr (sJ7_fill_53178 eh25) kX6_139 kst_J7_fill_53178 kini_J7 kc_J7_fill_53178 (by decide) rfl ⟨(Nat.le_of_ble_eq_true rfl), (Nat.le_of_ble_eq_true rfl)⟩ (Nat.le_of_ble_eq_true rfl) ⟨rfl, rfl, (Nat.le_of_ble_eq_true rfl), (Nat.le_of_ble_eq_true rfl)⟩ dX6_normalFormOf_10 ?_
  rintro _ _ ⟨rfl, rfl⟩
  show jx_J X 0 0 13 [(0, .ref l0), (1, .ref l1), (2, .ref l2)] [] h25
  refine j_bipush (v := (20 : Int32)) C dX6_normalFormOf_13 (by decide) ?_
  refine j_istore_n (lv1 := [(3, .int (20 : Int32)), (0, .ref l0), (1, .ref l1), (2, .ref l2)]) C hL dX6_normalFormOf_15 rfl (Nat.le_of_ble_eq_true rfl) rfl ?_
  refine jx_sub (lv' := [(0, .ref l0), (1, .ref l1), (2, .ref l2), (3, .int (20 : Int32))]) [1, 2, 3, 0] rfl ?_
  refine itr_ind (s0 := ((20 : Int32), h25)) (fun s : Int32 × jx_H => jx_J X 0 0 16 [(0, .ref l0), (1, .ref l1), (2, .ref l2), (3, .int s.1)] [] s.2) e ?_
  clear e
  intro s kI3 kT3 e0
  obtain ⟨z26, h27⟩ := s
  obtain ⟨u3, e0_3⟩ := e0
  have e : LX6_normalFormOf_16 l0 l1 l2 z26 h27 = some u3 := e0_3
  unfold LX6_normalFormOf_16 at e
  refine j_iload_n C dX6_normalFormOf_16 rfl rfl ?_
  refine j_if_lt (tgt := 95) C dX6_normalFormOf_17 (by decide) (fun c46 => ?_) (fun c46 => ?_)
  · replace e := ifp c46 e
    obtain ⟨t_4, e_4, eu_4⟩ := exL_spec e
    obtain rfl := kT3 t_4 (e0_3.trans (congrArg some eu_4))
    replace e := e_4
    cases e
    exact j_vret C hq dX6_normalFormOf_95 ⟨Nat.le_of_ble_eq_true rfl, Nat.le_of_ble_eq_true rfl⟩ ⟨rfl, rfl⟩
  · replace e := ifn c46 e
    refine j_aload_n C dX6_normalFormOf_20 rfl rfl ?_
    replace e := ob e
    obtain ⟨x28, ex28, e⟩ := e
    refine j_getr (ci := 6) (RC := RX6) (T := TX6) (N := 17) 1 C rfl klX6 (Nat.le_of_ble_eq_true rfl) kX6_14 rfl dX6_normalFormOf_21 ex28 ?_
    refine j_aload_n C dX6_normalFormOf_24 rfl rfl ?_
    refine j_aload_n C dX6_normalFormOf_25 rfl rfl ?_
    replace e := ob e
    obtain ⟨x29, ex29, e⟩ := e
    refine j_getr (ci := 6) (RC := RX6) (T := TX6) (N := 17) 11 C rfl klX6 (Nat.le_of_ble_eq_true rfl) kX6_48 rfl dX6_normalFormOf_26 ex29 ?_
    refine j_aload_n C dX6_normalFormOf_29 rfl rfl ?_
    replace e := ob e
    obtain ⟨x30, ex30, e⟩ := e
    refine j_getr (ci := 6) (RC := RX6) (T := TX6) (N := 17) 0 C rfl klX6 (Nat.le_of_ble_eq_true rfl) kX6_54 rfl dX6_normalFormOf_30 ex30 ?_
    replace e := ob e
    obtain ⟨x31, ex31, e⟩ := e
    refine j_geti (ci := 5) (RC := RX5) (T := TX5) (N := 12) 0 C rfl klX5 (Nat.le_of_ble_eq_true rfl) kX6_87 rfl dX6_normalFormOf_33 ex31 ?_
    replace e := ob e
    obtain ⟨_, eo32, e⟩ := e
    replace e := ob e
    obtain ⟨h33, eh33, e⟩ := e
    refine j_callV (ci := 2) (RC := RX2) (T := TX2) (N := 7) (As := [.ref l2, .ref x29, .int x31]) (b := x28) (na := 3) (st := []) (k1 := 0) (n1 := 0) C hr (sX2_applyTo eh33) rfl eo32 kX6_145 kim_X2_applyTo ksel_X2_applyTo kini_X2 kc_X2_applyTo (by decide) rfl ⟨(Nat.le_of_ble_eq_true rfl), (Nat.le_of_ble_eq_true rfl)⟩ (Nat.le_of_ble_eq_true rfl) ⟨rfl, rfl, (Nat.le_of_ble_eq_true rfl), (Nat.le_of_ble_eq_true rfl)⟩ dX6_normalFormOf_36 ?_
    rintro _ _ ⟨rfl, rfl⟩
    show jx_J X 0 0 39 [(0, .ref l0), (1, .ref l1), (2, .ref l2), (3, .int z26)] [] h33
    refine j_iconst (v := (0 : Int32)) C dX6_normalFormOf_39 (by decide) ?_
    refine j_istore (lv1 := [(4, .int (0 : Int32)), (0, .ref l0), (1, .ref l1), (2, .ref l2), (3, .int z26)]) C hL dX6_normalFormOf_40 (Nat.le_of_ble_eq_true rfl) rfl ?_
    refine jx_sub (lv' := [(0, .ref l0), (1, .ref l1), (2, .ref l2), (3, .int z26), (4, .int (0 : Int32))]) [1, 2, 3, 4, 0] rfl ?_
    refine itr_ind (s0 := ((0 : Int32), h33)) (fun s : Int32 × jx_H => jx_J X 0 0 42 [(0, .ref l0), (1, .ref l1), (2, .ref l2), (3, .int z26), (4, .int s.1)] [] s.2) e ?_
    clear e
    intro s kI5 kT5 e0
    obtain ⟨z34, h35⟩ := s
    obtain ⟨u5, e0_5⟩ := e0
    have e : LX6_normalFormOf_42 l0 l1 l2 z26 z34 h35 = some u5 := e0_5
    have b83 : ∀ (y36 : Int32) (h37 : jx_H), BX6_normalFormOf_83 l0 l1 l2 z26 y36 h37 = some u5 → jx_J X 0 0 83 [(0, .ref l0), (1, .ref l1), (2, .ref l2), (3, .int z26), (4, .int y36)] [] h37 := by
      intro y36 h37 e
      unfold BX6_normalFormOf_83 at e
      refine j_iinc (v := (y36 + (1 : Int32))) (lv1 := [(4, .int (y36 + (1 : Int32))), (0, .ref l0), (1, .ref l1), (2, .ref l2), (3, .int z26)]) C hL dX6_normalFormOf_83 rfl rfl (Nat.le_of_ble_eq_true rfl) rfl ?_
      refine j_goto (tgt := 42) C dX6_normalFormOf_86 (by decide) ?_
      obtain rfl := Option.some.inj e
      refine jx_sub (lv' := [(0, .ref l0), (1, .ref l1), (2, .ref l2), (3, .int z26), (4, .int (y36 + (1 : Int32)))]) [1, 2, 3, 4, 0] rfl ?_
      exact kI5 ((y36 + (1 : Int32)), h37) e0_5
    unfold LX6_normalFormOf_42 at e
    refine j_iload C dX6_normalFormOf_42 rfl ?_
    refine j_bipush (v := (20 : Int32)) C dX6_normalFormOf_44 (by decide) ?_
    refine j_icmp_gt (tgt := 89) C dX6_normalFormOf_46 (by decide) (fun c45 => ?_) (fun c45 => ?_)
    · replace e := ifp c45 e
      obtain ⟨t_6, e_6, eu_6⟩ := exL_spec e
      obtain rfl := kT5 t_6 (e0_5.trans (congrArg some eu_6))
      replace e := e_6
      refine j_iinc (v := (z26 + (-1 : Int32))) (lv1 := [(3, .int (z26 + (-1 : Int32))), (0, .ref l0), (1, .ref l1), (2, .ref l2), (4, .int z34)]) C hL dX6_normalFormOf_89 rfl rfl (Nat.le_of_ble_eq_true rfl) rfl ?_
      refine j_goto (tgt := 16) C dX6_normalFormOf_92 (by decide) ?_
      obtain rfl := Option.some.inj e
      refine jx_sub (lv' := [(0, .ref l0), (1, .ref l1), (2, .ref l2), (3, .int (z26 + (-1 : Int32)))]) [1, 2, 3, 0] rfl ?_
      exact kI3 ((z26 + (-1 : Int32)), h35) e0_3
    · replace e := ifn c45 e
      refine j_iload_n C dX6_normalFormOf_49 rfl rfl ?_
      refine j_bipush (v := (21 : Int32)) C dX6_normalFormOf_50 (by decide) ?_
      refine j_imul C dX6_normalFormOf_52 ?_
      refine j_iload C dX6_normalFormOf_53 rfl ?_
      refine j_iadd C dX6_normalFormOf_55 ?_
      refine j_istore (lv1 := [(5, .int ((z26 * (21 : Int32)) + z34)), (0, .ref l0), (1, .ref l1), (2, .ref l2), (3, .int z26), (4, .int z34)]) C hL dX6_normalFormOf_56 (Nat.le_of_ble_eq_true rfl) rfl ?_
      refine j_iload C dX6_normalFormOf_58 rfl ?_
      refine j_aload_n C dX6_normalFormOf_60 rfl rfl ?_
      replace e := ob e
      obtain ⟨x38, ex38, e⟩ := e
      refine j_alen C dX6_normalFormOf_61 ex38 ?_
      refine j_icmp_ge (tgt := 83) C dX6_normalFormOf_62 (by decide) (fun c44 => ?_) (fun c44 => ?_)
      · replace e := ifp c44 e
        refine jx_sub (lv' := [(0, .ref l0), (1, .ref l1), (2, .ref l2), (3, .int z26), (4, .int z34)]) [1, 2, 3, 4, 5] rfl ?_
        exact b83 z34 h35 e
      · replace e := ifn c44 e
        refine j_aload_n C dX6_normalFormOf_65 rfl rfl ?_
        refine j_iload C dX6_normalFormOf_66 rfl ?_
        replace e := ob e
        obtain ⟨x39, ex39, e⟩ := e
        refine j_iald C dX6_normalFormOf_68 ex39 ?_
        refine j_if_eq (tgt := 83) C dX6_normalFormOf_69 (by decide) (fun c43 => ?_) (fun c43 => ?_)
        · replace e := ifp c43 e
          refine jx_sub (lv' := [(0, .ref l0), (1, .ref l1), (2, .ref l2), (3, .int z26), (4, .int z34)]) [1, 2, 3, 4, 5] rfl ?_
          exact b83 z34 h35 e
        · replace e := ifn c43 e
          refine j_aload_n C dX6_normalFormOf_72 rfl rfl ?_
          refine j_aload_n C dX6_normalFormOf_73 rfl rfl ?_
          refine j_aload_n C dX6_normalFormOf_74 rfl rfl ?_
          refine j_iload C dX6_normalFormOf_75 rfl ?_
          replace e := ob e
          obtain ⟨x40, ex40, e⟩ := e
          refine j_iald C dX6_normalFormOf_77 ex40 ?_
          refine j_iload C dX6_normalFormOf_78 rfl ?_
          replace e := ob e
          obtain ⟨_, eo41, e⟩ := e
          replace e := ob e
          obtain ⟨h42, eh42, e⟩ := e
          refine j_callV (ci := 6) (RC := RX6) (T := TX6) (N := 17) (As := [.ref l2, .int x40, .int z34]) (b := l0) (na := 3) (st := []) (k1 := 0) (n1 := 0) C hr (sX6_addForm eh42) rfl eo41 kX6_152 kim_X6_addForm ksel_X6_addForm kini_X6 kc_X6_addForm (by decide) rfl ⟨(Nat.le_of_ble_eq_true rfl), (Nat.le_of_ble_eq_true rfl)⟩ (Nat.le_of_ble_eq_true rfl) ⟨rfl, rfl, (Nat.le_of_ble_eq_true rfl), (Nat.le_of_ble_eq_true rfl)⟩ dX6_normalFormOf_80 ?_
          rintro _ _ ⟨rfl, rfl⟩
          show jx_J X 0 0 83 [(5, .int ((z26 * (21 : Int32)) + z34)), (0, .ref l0), (1, .ref l1), (2, .ref l2), (3, .int z26), (4, .int z34)] [] h42
          refine jx_sub (lv' := [(0, .ref l0), (1, .ref l1), (2, .ref l2), (3, .int z26), (4, .int z34)]) [1, 2, 3, 4, 5] rfl ?_
          exact b83 z34 h42 e
/-! BorderBasis$Tables.determinantOf(I)I -/
noncomputable def FX6_determinantOf (l0 : Nat) (l1 : Int32) (h : jx_H) : Option (Int32 × jx_H) :=
(isO h l0 6).bind fun _ =>
(FX6_prepare l0 h).bind fun h2 =>
(hgr h2 l0 6 5).bind fun x3 =>
(isO h2 l0 6).bind fun _ =>
(FX6_ofVariable l0 l1 h2).bind fun x5 =>
(hgr h2 l0 6 0).bind fun x6 =>
(hgi h2 x6 5 0).bind fun x7 =>
(isO h2 x3 2).bind fun _ =>
(FX2_becomeShifted x3 x5 (0 : Int32) x7 h2).bind fun h9 =>
(hgr h9 l0 6 5).bind fun x10 =>
(hgr h9 l0 6 0).bind fun x11 =>
(hgi h9 x11 5 0).bind fun x12 =>
(isO h9 x10 2).bind fun _ =>
bind2 (FX2_reduceRows x10 x12 h9) fun x14 h15 =>
(hgr h15 l0 6 5).bind fun x16 =>
(hgi h15 x16 2 6).bind fun x17 =>
some (x17, h15)
def rmX6_determinantOf : Room := { frames := 4, cells := 0, slots := 0, locals := 98 }
set_option maxRecDepth 20000 in
set_option maxHeartbeats 4000000 in
theorem sX6_determinantOf {l0 : Nat} {l1 : Int32} {h : jx_H} {r : Int32} {h9 : jx_H} (e : FX6_determinantOf l0 l1 h = some (r, h9)) : jx_Ct yX6_determinantOf cX6_determinantOf 2 (some .int) rmX6_determinantOf [.ref l0, .int l1] h (fun r' h' => some (.int r) = r' ∧ h9 = h') := by
  refine jx_Ct.of (own := RX6) (by decide) rfl (Nat.le_of_ble_eq_true rfl) (fun X C hq hr hL hN => ?_)
  refine jx_sub (lv' := [(0, .ref l0), (1, .int l1)]) [0, 1] rfl ?_
  unfold FX6_determinantOf at e
  refine j_aload_n C dX6_determinantOf_0 rfl rfl ?_
  replace e := ob e
  obtain ⟨_, eo18, e⟩ := e
  replace e := ob e
  obtain ⟨h19, eh19, e⟩ := e
  refine j_callV (ci := 6) (RC := RX6) (T := TX6) (N := 17) (As := []) (b := l0) (na := 0) (st := []) (k1 := 0) (n1 := 0) C hr (sX6_prepare eh19) rfl eo18 kX6_58 kim_X6_prepare ksel_X6_prepare kini_X6 kc_X6_prepare (by decide) rfl ⟨(Nat.le_of_ble_eq_true rfl), (Nat.le_of_ble_eq_true rfl)⟩ (Nat.le_of_ble_eq_true rfl) ⟨rfl, rfl, (Nat.le_of_ble_eq_true rfl), (Nat.le_of_ble_eq_true rfl)⟩ dX6_determinantOf_1 ?_
  rintro _ _ ⟨rfl, rfl⟩
  show jx_J X 0 0 4 [(0, .ref l0), (1, .int l1)] [] h19
  refine j_aload_n C dX6_determinantOf_4 rfl rfl ?_
  replace e := ob e
  obtain ⟨x20, ex20, e⟩ := e
  refine j_getr (ci := 6) (RC := RX6) (T := TX6) (N := 17) 5 C rfl klX6 (Nat.le_of_ble_eq_true rfl) kX6_29 rfl dX6_determinantOf_5 ex20 ?_
  refine j_aload_n C dX6_determinantOf_8 rfl rfl ?_
  refine j_iload_n C dX6_determinantOf_9 rfl rfl ?_
  replace e := ob e
  obtain ⟨_, eo21, e⟩ := e
  replace e := ob e
  obtain ⟨x22, ex22, e⟩ := e
  refine j_callV (ci := 6) (RC := RX6) (T := TX6) (N := 17) (As := [.int l1]) (b := l0) (na := 1) (st := [.ref x20]) (k1 := 0) (n1 := 0) C hr (sX6_ofVariable ex22) rfl eo21 kX6_61 kim_X6_ofVariable ksel_X6_ofVariable kini_X6 kc_X6_ofVariable (by decide) rfl ⟨(Nat.le_of_ble_eq_true rfl), (Nat.le_of_ble_eq_true rfl)⟩ (Nat.le_of_ble_eq_true rfl) ⟨rfl, rfl, (Nat.le_of_ble_eq_true rfl), (Nat.le_of_ble_eq_true rfl)⟩ dX6_determinantOf_10 ?_
  rintro _ _ ⟨rfl, rfl⟩
  show jx_J X 0 0 13 [(0, .ref l0), (1, .int l1)] [.ref x22, .ref x20] h19
  refine j_iconst (v := (0 : Int32)) C dX6_determinantOf_13 (by decide) ?_
  refine j_aload_n C dX6_determinantOf_14 rfl rfl ?_
  replace e := ob e
  obtain ⟨x23, ex23, e⟩ := e
  refine j_getr (ci := 6) (RC := RX6) (T := TX6) (N := 17) 0 C rfl klX6 (Nat.le_of_ble_eq_true rfl) kX6_54 rfl dX6_determinantOf_15 ex23 ?_
  replace e := ob e
  obtain ⟨x24, ex24, e⟩ := e
  refine j_geti (ci := 5) (RC := RX5) (T := TX5) (N := 12) 0 C rfl klX5 (Nat.le_of_ble_eq_true rfl) kX6_87 rfl dX6_determinantOf_18 ex24 ?_
  replace e := ob e
  obtain ⟨_, eo25, e⟩ := e
  replace e := ob e
  obtain ⟨h26, eh26, e⟩ := e
  refine j_callV (ci := 2) (RC := RX2) (T := TX2) (N := 7) (As := [.ref x22, .int (0 : Int32), .int x24]) (b := x20) (na := 3) (st := []) (k1 := 0) (n1 := 0) C hr (sX2_becomeShifted eh26) rfl eo25 kX6_132 kim_X2_becomeShifted ksel_X2_becomeShifted kini_X2 kc_X2_becomeShifted (by decide) rfl ⟨(Nat.le_of_ble_eq_true rfl), (Nat.le_of_ble_eq_true rfl)⟩ (Nat.le_of_ble_eq_true rfl) ⟨rfl, rfl, (Nat.le_of_ble_eq_true rfl), (Nat.le_of_ble_eq_true rfl)⟩ dX6_determinantOf_21 ?_
  rintro _ _ ⟨rfl, rfl⟩
  show jx_J X 0 0 24 [(0, .ref l0), (1, .int l1)] [] h26
  refine j_aload_n C dX6_determinantOf_24 rfl rfl ?_
  replace e := ob e
  obtain ⟨x27, ex27, e⟩ := e
  refine j_getr (ci := 6) (RC := RX6) (T := TX6) (N := 17) 5 C rfl klX6 (Nat.le_of_ble_eq_true rfl) kX6_29 rfl dX6_determinantOf_25 ex27 ?_
  refine j_aload_n C dX6_determinantOf_28 rfl rfl ?_
  replace e := ob e
  obtain ⟨x28, ex28, e⟩ := e
  refine j_getr (ci := 6) (RC := RX6) (T := TX6) (N := 17) 0 C rfl klX6 (Nat.le_of_ble_eq_true rfl) kX6_54 rfl dX6_determinantOf_29 ex28 ?_
  replace e := ob e
  obtain ⟨x29, ex29, e⟩ := e
  refine j_geti (ci := 5) (RC := RX5) (T := TX5) (N := 12) 0 C rfl klX5 (Nat.le_of_ble_eq_true rfl) kX6_87 rfl dX6_determinantOf_32 ex29 ?_
  replace e := ob e
  obtain ⟨_, eo30, e⟩ := e
  replace e := ob2 e
  obtain ⟨x31, h32, ex31, e⟩ := e
  refine j_callV (ci := 2) (RC := RX2) (T := TX2) (N := 7) (As := [.int x29]) (b := x27) (na := 1) (st := []) (k1 := 0) (n1 := 0) C hr (sX2_reduceRows ex31) rfl eo30 kX6_163 kim_X2_reduceRows ksel_X2_reduceRows kini_X2 kc_X2_reduceRows (by decide) rfl ⟨(Nat.le_of_ble_eq_true rfl), (Nat.le_of_ble_eq_true rfl)⟩ (Nat.le_of_ble_eq_true rfl) ⟨rfl, rfl, (Nat.le_of_ble_eq_true rfl), (Nat.le_of_ble_eq_true rfl)⟩ dX6_determinantOf_35 ?_
  rintro _ _ ⟨rfl, rfl⟩
  show jx_J X 0 0 38 [(0, .ref l0), (1, .int l1)] [.int x31] h32
  refine j_pop C dX6_determinantOf_38 rfl ?_
  refine j_aload_n C dX6_determinantOf_39 rfl rfl ?_
  replace e := ob e
  obtain ⟨x33, ex33, e⟩ := e
  refine j_getr (ci := 6) (RC := RX6) (T := TX6) (N := 17) 5 C rfl klX6 (Nat.le_of_ble_eq_true rfl) kX6_29 rfl dX6_determinantOf_40 ex33 ?_
  replace e := ob e
  obtain ⟨x34, ex34, e⟩ := e
  refine j_geti (ci := 2) (RC := RX2) (T := TX2) (N := 7) 6 C rfl klX2 (Nat.le_of_ble_eq_true rfl) kX6_167 rfl dX6_determinantOf_43 ex34 ?_
  cases e
  exact j_iret C hq rfl dX6_determinantOf_46 ⟨Nat.le_of_ble_eq_true rfl, Nat.le_of_ble_eq_true rfl⟩ ⟨rfl, rfl⟩
/-! BorderBasis$Tables.nullityOf(II)I -/
noncomputable def FX6_nullityOf (l0 : Nat) (l1 : Int32) (l2 : Int32) (h : jx_H) : Option (Int32 × jx_H) :=
(isO h l0 6).bind fun _ =>
(FX6_prepare l0 h).bind fun h2 =>
(hgr h2 l0 6 5).bind fun x3 =>
(isO h2 l0 6).bind fun _ =>
(FX6_ofVariable l0 l1 h2).bind fun x5 =>
(hgr h2 l0 6 0).bind fun x6 =>
(hgi h2 x6 5 0).bind fun x7 =>
(isO h2 x3 2).bind fun _ =>
(FX2_becomeShifted x3 x5 l2 x7 h2).bind fun h9 =>
(hgr h9 l0 6 0).bind fun x10 =>
(hgi h9 x10 5 2).bind fun x11 =>
(hgr h9 l0 6 5).bind fun x12 =>
(hgr h9 l0 6 0).bind fun x13 =>
(hgi h9 x13 5 0).bind fun x14 =>
(isO h9 x12 2).bind fun _ =>
bind2 (FX2_reduceRows x12 x14 h9) fun x16 h17 =>
some ((x11 - x16), h17)
def rmX6_nullityOf : Room := { frames := 4, cells := 0, slots := 0, locals := 98 }
set_option maxRecDepth 20000 in
set_option maxHeartbeats 4000000 in
theorem sX6_nullityOf {l0 : Nat} {l1 : Int32} {l2 : Int32} {h : jx_H} {r : Int32} {h9 : jx_H} (e : FX6_nullityOf l0 l1 l2 h = some (r, h9)) : jx_Ct yX6_nullityOf cX6_nullityOf 3 (some .int) rmX6_nullityOf [.ref l0, .int l1, .int l2] h (fun r' h' => some (.int r) = r' ∧ h9 = h') := by
  refine jx_Ct.of (own := RX6) (by decide) rfl (Nat.le_of_ble_eq_true rfl) (fun X C hq hr hL hN => ?_)
  refine jx_sub (lv' := [(0, .ref l0), (1, .int l1), (2, .int l2)]) [0, 1, 2] rfl ?_
  unfold FX6_nullityOf at e
  refine j_aload_n C dX6_nullityOf_0 rfl rfl ?_
  replace e := ob e
  obtain ⟨_, eo18, e⟩ := e
  replace e := ob e
  obtain ⟨h19, eh19, e⟩ := e
  refine j_callV (ci := 6) (RC := RX6) (T := TX6) (N := 17) (As := []) (b := l0) (na := 0) (st := []) (k1 := 0) (n1 := 0) C hr (sX6_prepare eh19) rfl eo18 kX6_58 kim_X6_prepare ksel_X6_prepare kini_X6 kc_X6_prepare (by decide) rfl ⟨(Nat.le_of_ble_eq_true rfl), (Nat.le_of_ble_eq_true rfl)⟩ (Nat.le_of_ble_eq_true rfl) ⟨rfl, rfl, (Nat.le_of_ble_eq_true rfl), (Nat.le_of_ble_eq_true rfl)⟩ dX6_nullityOf_1 ?_
  rintro _ _ ⟨rfl, rfl⟩
  show jx_J X 0 0 4 [(0, .ref l0), (1, .int l1), (2, .int l2)] [] h19
  refine j_aload_n C dX6_nullityOf_4 rfl rfl ?_
  replace e := ob e
  obtain ⟨x20, ex20, e⟩ := e
  refine j_getr (ci := 6) (RC := RX6) (T := TX6) (N := 17) 5 C rfl klX6 (Nat.le_of_ble_eq_true rfl) kX6_29 rfl dX6_nullityOf_5 ex20 ?_
  refine j_aload_n C dX6_nullityOf_8 rfl rfl ?_
  refine j_iload_n C dX6_nullityOf_9 rfl rfl ?_
  replace e := ob e
  obtain ⟨_, eo21, e⟩ := e
  replace e := ob e
  obtain ⟨x22, ex22, e⟩ := e
  refine j_callV (ci := 6) (RC := RX6) (T := TX6) (N := 17) (As := [.int l1]) (b := l0) (na := 1) (st := [.ref x20]) (k1 := 0) (n1 := 0) C hr (sX6_ofVariable ex22) rfl eo21 kX6_61 kim_X6_ofVariable ksel_X6_ofVariable kini_X6 kc_X6_ofVariable (by decide) rfl ⟨(Nat.le_of_ble_eq_true rfl), (Nat.le_of_ble_eq_true rfl)⟩ (Nat.le_of_ble_eq_true rfl) ⟨rfl, rfl, (Nat.le_of_ble_eq_true rfl), (Nat.le_of_ble_eq_true rfl)⟩ dX6_nullityOf_10 ?_
  rintro _ _ ⟨rfl, rfl⟩
  show jx_J X 0 0 13 [(0, .ref l0), (1, .int l1), (2, .int l2)] [.ref x22, .ref x20] h19
  refine j_iload_n C dX6_nullityOf_13 rfl rfl ?_
  refine j_aload_n C dX6_nullityOf_14 rfl rfl ?_
  replace e := ob e
  obtain ⟨x23, ex23, e⟩ := e
  refine j_getr (ci := 6) (RC := RX6) (T := TX6) (N := 17) 0 C rfl klX6 (Nat.le_of_ble_eq_true rfl) kX6_54 rfl dX6_nullityOf_15 ex23 ?_
  replace e := ob e
  obtain ⟨x24, ex24, e⟩ := e
  refine j_geti (ci := 5) (RC := RX5) (T := TX5) (N := 12) 0 C rfl klX5 (Nat.le_of_ble_eq_true rfl) kX6_87 rfl dX6_nullityOf_18 ex24 ?_
  replace e := ob e
  obtain ⟨_, eo25, e⟩ := e
  replace e := ob e
  obtain ⟨h26, eh26, e⟩ := e
  refine j_callV (ci := 2) (RC := RX2) (T := TX2) (N := 7) (As := [.ref x22, .int l2, .int x24]) (b := x20) (na := 3) (st := []) (k1 := 0) (n1 := 0) C hr (sX2_becomeShifted eh26) rfl eo25 kX6_132 kim_X2_becomeShifted ksel_X2_becomeShifted kini_X2 kc_X2_becomeShifted (by decide) rfl ⟨(Nat.le_of_ble_eq_true rfl), (Nat.le_of_ble_eq_true rfl)⟩ (Nat.le_of_ble_eq_true rfl) ⟨rfl, rfl, (Nat.le_of_ble_eq_true rfl), (Nat.le_of_ble_eq_true rfl)⟩ dX6_nullityOf_21 ?_
  rintro _ _ ⟨rfl, rfl⟩
  show jx_J X 0 0 24 [(0, .ref l0), (1, .int l1), (2, .int l2)] [] h26
  refine j_aload_n C dX6_nullityOf_24 rfl rfl ?_
  replace e := ob e
  obtain ⟨x27, ex27, e⟩ := e
  refine j_getr (ci := 6) (RC := RX6) (T := TX6) (N := 17) 0 C rfl klX6 (Nat.le_of_ble_eq_true rfl) kX6_54 rfl dX6_nullityOf_25 ex27 ?_
  replace e := ob e
  obtain ⟨x28, ex28, e⟩ := e
  refine j_geti (ci := 5) (RC := RX5) (T := TX5) (N := 12) 2 C rfl klX5 (Nat.le_of_ble_eq_true rfl) kX6_99 rfl dX6_nullityOf_28 ex28 ?_
  refine j_aload_n C dX6_nullityOf_31 rfl rfl ?_
  replace e := ob e
  obtain ⟨x29, ex29, e⟩ := e
  refine j_getr (ci := 6) (RC := RX6) (T := TX6) (N := 17) 5 C rfl klX6 (Nat.le_of_ble_eq_true rfl) kX6_29 rfl dX6_nullityOf_32 ex29 ?_
  refine j_aload_n C dX6_nullityOf_35 rfl rfl ?_
  replace e := ob e
  obtain ⟨x30, ex30, e⟩ := e
  refine j_getr (ci := 6) (RC := RX6) (T := TX6) (N := 17) 0 C rfl klX6 (Nat.le_of_ble_eq_true rfl) kX6_54 rfl dX6_nullityOf_36 ex30 ?_
  replace e := ob e
  obtain ⟨x31, ex31, e⟩ := e
  refine j_geti (ci := 5) (RC := RX5) (T := TX5) (N := 12) 0 C rfl klX5 (Nat.le_of_ble_eq_true rfl) kX6_87 rfl dX6_nullityOf_39 ex31 ?_
  replace e := ob e
  obtain ⟨_, eo32, e⟩ := e
  replace e := ob2 e
  obtain ⟨x33, h34, ex33, e⟩ := e
  refine j_callV (ci := 2) (RC := RX2) (T := TX2) (N := 7) (As := [.int x31]) (b := x29) (na := 1) (st := [.int x28]) (k1 := 0) (n1 := 0) C hr (sX2_reduceRows ex33) rfl eo32 kX6_163 kim_X2_reduceRows ksel_X2_reduceRows kini_X2 kc_X2_reduceRows (by decide) rfl ⟨(Nat.le_of_ble_eq_true rfl), (Nat.le_of_ble_eq_true rfl)⟩ (Nat.le_of_ble_eq_true rfl) ⟨rfl, rfl, (Nat.le_of_ble_eq_true rfl), (Nat.le_of_ble_eq_true rfl)⟩ dX6_nullityOf_42 ?_
  rintro _ _ ⟨rfl, rfl⟩
  show jx_J X 0 0 45 [(0, .ref l0), (1, .int l1), (2, .int l2)] [.int x33, .int x28] h34
  refine j_isub C dX6_nullityOf_45 ?_
  cases e
  exact j_iret C hq rfl dX6_nullityOf_46 ⟨Nat.le_of_ble_eq_true rfl, Nat.le_of_ble_eq_true rfl⟩ ⟨rfl, rfl⟩
/-! BorderBasis$Tables.isRoot(II)Z -/
noncomputable def LX6_isRoot_7 (l0 : Nat) (l1 : Int32) (l2 : Int32) (l3 : Int32) (l4 : Int32) (h : jx_H) : Option ((Int32 × Int32) ⊕ (Int32)) :=
if l4 < 0 then
 exL (if l3 = 0 then
  some (1 : Int32)
 else
  some (0 : Int32))
else
 (hgr h l0 6 9).bind fun x2 =>
 (isO h x2 2).bind fun _ =>
 (FX2_at x2 l4 l2 h).bind fun x4 =>
 (hgr h l0 6 0).bind fun x5 =>
 (hgi h x5 5 0).bind fun x6 =>
 (FX9_residue ((l3 * l1) - x4) x6 h).bind fun x7 =>
 some (.inl (x7, (l4 + (-1 : Int32))))
noncomputable def FX6_isRoot (l0 : Nat) (l1 : Int32) (l2 : Int32) (h : jx_H) : Option (Int32) :=
itr (fun s : Int32 × Int32 => LX6_isRoot_7 l0 l1 l2 s.1 s.2 h) ((1 : Int32), (l2 - (1 : Int32)))
def rmX6_isRoot : Room := { frames := 2, cells := 0, slots := 0, locals := 44 }
set_option maxRecDepth 20000 in
set_option maxHeartbeats 4000000 in
theorem sX6_isRoot {l0 : Nat} {l1 : Int32} {l2 : Int32} {h : jx_H} {r : Int32}  (e : FX6_isRoot l0 l1 l2 h = some r) : jx_Ct yX6_isRoot cX6_isRoot 5 (some .boolean) rmX6_isRoot [.ref l0, .int l1, .int l2] h (fun r' h' => some (.int r) = r' ∧ h = h') := by
  refine jx_Ct.of (own := RX6) (by decide) rfl (Nat.le_of_ble_eq_true rfl) (fun X C hq hr hL hN => ?_)
  refine jx_sub (lv' := [(0, .ref l0), (1, .int l1), (2, .int l2)]) [0, 1, 2] rfl ?_
  unfold FX6_isRoot at e
  refine j_iconst (v := (1 : Int32)) C dX6_isRoot_0 (by decide) ?_
  refine j_istore_n (lv1 := [(3, .int (1 : Int32)), (0, .ref l0), (1, .int l1), (2, .int l2)]) C hL dX6_isRoot_1 rfl (Nat.le_of_ble_eq_true rfl) rfl ?_
  refine j_iload_n C dX6_isRoot_2 rfl rfl ?_
  refine j_iconst (v := (1 : Int32)) C dX6_isRoot_3 (by decide) ?_
  refine j_isub C dX6_isRoot_4 ?_
  refine j_istore (lv1 := [(4, .int (l2 - (1 : Int32))), (3, .int (1 : Int32)), (0, .ref l0), (1, .int l1), (2, .int l2)]) C hL dX6_isRoot_5 (Nat.le_of_ble_eq_true rfl) rfl ?_
  refine jx_sub (lv' := [(0, .ref l0), (1, .int l1), (2, .int l2), (3, .int (1 : Int32)), (4, .int (l2 - (1 : Int32)))]) [2, 3, 4, 1, 0] rfl ?_
  refine itr_ind (s0 := ((1 : Int32), (l2 - (1 : Int32)))) (fun s : Int32 × Int32 => jx_J X 0 0 7 [(0, .ref l0), (1, .int l1), (2, .int l2), (3, .int s.1), (4, .int s.2)] [] h) e ?_
  clear e
  intro s kI2 kT2 e0
  obtain ⟨z9, z10⟩ := s
  obtain ⟨u2, e0_2⟩ := e0
  have e : LX6_isRoot_7 l0 l1 l2 z9 z10 h = some u2 := e0_2
  unfold LX6_isRoot_7 at e
  refine j_iload C dX6_isRoot_7 rfl ?_
  refine j_if_lt (tgt := 43) C dX6_isRoot_9 (by decide) (fun c18 => ?_) (fun c18 => ?_)
  · replace e := ifp c18 e
    obtain ⟨t_3, e_3, eu_3⟩ := exL_spec e
    obtain rfl := kT2 t_3 (e0_2.trans (congrArg some eu_3))
    replace e := e_3
    refine j_iload_n C dX6_isRoot_43 rfl rfl ?_
    refine j_if_ne (tgt := 51) C dX6_isRoot_44 (by decide) (fun c11 => ?_) (fun c11 => ?_)
    · replace e := ifn c11 e
      refine j_iconst (v := (0 : Int32)) C dX6_isRoot_51 (by decide) ?_
      cases e
      exact j_iret C hq rfl dX6_isRoot_52 ⟨Nat.le_of_ble_eq_true rfl, Nat.le_of_ble_eq_true rfl⟩ ⟨rfl, rfl⟩
    · replace e := ifp c11 e
      refine j_iconst (v := (1 : Int32)) C dX6_isRoot_47 (by decide) ?_
      refine j_goto (tgt := 52) C dX6_isRoot_48 (by decide) ?_
      cases e
      exact j_iret C hq rfl dX6_isRoot_52 ⟨Nat.le_of_ble_eq_true rfl, Nat.le_of_ble_eq_true rfl⟩ ⟨rfl, rfl⟩
  · replace e := ifn c18 e
    refine j_iload_n C dX6_isRoot_12 rfl rfl ?_
    refine j_iload_n C dX6_isRoot_13 rfl rfl ?_
    refine j_imul C dX6_isRoot_14 ?_
    refine j_aload_n C dX6_isRoot_15 rfl rfl ?_
    replace e := ob e
    obtain ⟨x12, ex12, e⟩ := e
    refine j_getr (ci := 6) (RC := RX6) (T := TX6) (N := 17) 9 C rfl klX6 (Nat.le_of_ble_eq_true rfl) kX6_41 rfl dX6_isRoot_16 ex12 ?_
    refine j_iload C dX6_isRoot_19 rfl ?_
    refine j_iload_n C dX6_isRoot_21 rfl rfl ?_
    replace e := ob e
    obtain ⟨_, eo13, e⟩ := e
    replace e := ob e
    obtain ⟨x14, ex14, e⟩ := e
    refine j_callV (ci := 2) (RC := RX2) (T := TX2) (N := 7) (As := [.int z10, .int l2]) (b := x12) (na := 2) (st := [.int (z9 * l1)]) (k1 := 0) (n1 := 0) C hr (sX2_at ex14) rfl eo13 kX6_65 kim_X2_at ksel_X2_at kini_X2 kc_X2_at (by decide) rfl ⟨(Nat.le_of_ble_eq_true rfl), (Nat.le_of_ble_eq_true rfl)⟩ (Nat.le_of_ble_eq_true rfl) ⟨rfl, rfl, (Nat.le_of_ble_eq_true rfl), (Nat.le_of_ble_eq_true rfl)⟩ dX6_isRoot_22 ?_
    rintro _ _ ⟨rfl, rfl⟩
    show jx_J X 0 0 25 [(0, .ref l0), (1, .int l1), (2, .int l2), (3, .int z9), (4, .int z10)] [.int x14, .int (z9 * l1)] h
    refine j_isub C dX6_isRoot_25 ?_
    refine j_aload_n C dX6_isRoot_26 rfl rfl ?_
    replace e := ob e
    obtain ⟨x15, ex15, e⟩ := e
    refine j_getr (ci := 6) (RC := RX6) (T := TX6) (N := 17) 0 C rfl klX6 (Nat.le_of_ble_eq_true rfl) kX6_54 rfl dX6_isRoot_27 ex15 ?_
    replace e := ob e
    obtain ⟨x16, ex16, e⟩ := e
    refine j_geti (ci := 5) (RC := RX5) (T := TX5) (N := 12) 0 C rfl klX5 (Nat.le_of_ble_eq_true rfl) kX6_87 rfl dX6_isRoot_30 ex16 ?_
    replace e := ob e
    obtain ⟨x17, ex17, e⟩ := e
    refine j_callSN (As := [.int ((z9 * l1) - x14), .int x16]) (na := 2) (st := []) (k1 := 0) (n1 := 0) C hr (sX9_residue ex17) kX6_160 kst_X9_residue kini_X9 kc_X9_residue (by decide) rfl ⟨(Nat.le_of_ble_eq_true rfl), (Nat.le_of_ble_eq_true rfl)⟩ (Nat.le_of_ble_eq_true rfl) ⟨rfl, rfl, (Nat.le_of_ble_eq_true rfl), (Nat.le_of_ble_eq_true rfl)⟩ dX6_isRoot_33 ?_
    rintro _ _ ⟨rfl, rfl⟩
    show jx_J X 0 0 36 [(0, .ref l0), (1, .int l1), (2, .int l2), (3, .int z9), (4, .int z10)] [.int x17] h
    refine j_istore_n (lv1 := [(3, .int x17), (0, .ref l0), (1, .int l1), (2, .int l2), (4, .int z10)]) C hL dX6_isRoot_36 rfl (Nat.le_of_ble_eq_true rfl) rfl ?_
    refine j_iinc (v := (z10 + (-1 : Int32))) (lv1 := [(4, .int (z10 + (-1 : Int32))), (3, .int x17), (0, .ref l0), (1, .int l1), (2, .int l2)]) C hL dX6_isRoot_37 rfl rfl (Nat.le_of_ble_eq_true rfl) rfl ?_
    refine j_goto (tgt := 7) C dX6_isRoot_40 (by decide) ?_
    obtain rfl := Option.some.inj e
    refine jx_sub (lv' := [(0, .ref l0), (1, .int l1), (2, .int l2), (3, .int x17), (4, .int (z10 + (-1 : Int32)))]) [2, 3, 4, 1, 0] rfl ?_
    exact kI2 (x17, (z10 + (-1 : Int32))) e0_2
/-! BorderBasis$Tables.markRoots(I[Z)V -/
noncomputable def LX6_markRoots_137 (l0 : Nat) (l2 : Nat) (l4 : Int32) (l5 : Int32) (h : jx_H) : Option ((Int32 × jx_H) ⊕ (jx_H)) :=
(hgr h l0 6 0).bind fun x21 =>
(hgi h x21 5 0).bind fun x22 =>
if x22 ≤ l5 then
 exL (some h)
else
 (hlen h l2).bind fun x23 =>
 if x23 ≤ l5 then
  exL (some h)
 else
  (isO h l0 6).bind fun _ =>
  (FX6_isRoot l0 l5 l4 h).bind fun x25 =>
  (has h .boolean l2 l5 (vp_nar .boolean x25)).bind fun h26 =>
  some (.inl ((l5 + (1 : Int32)), h26))
noncomputable def LX6_markRoots_57 (l0 : Nat) (l2 : Nat) (l3 : Nat) (l4 : Int32) (l5 : Int32) (h : jx_H) : Option ((Int32 × jx_H) ⊕ ((Int32 × jx_H) ⊕ (jx_H))) :=
(hgr h l0 6 0).bind fun x29 =>
(hgi h x29 5 2).bind fun x30 =>
if x30 ≤ l5 then
 exL ((hgr h l0 6 10).bind fun x31 =>
 (hgr h l0 6 11).bind fun x32 =>
 (hgr h l0 6 0).bind fun x33 =>
 (hgi h x33 5 0).bind fun x34 =>
 (isO h l3 2).bind fun _ =>
 (FX2_applyTo l3 x31 x32 x34 h).bind fun h36 =>
 some (.inl ((l4 + (1 : Int32)), h36)))
else
 (hgr h l0 6 9).bind fun x37 =>
 (hgr h l0 6 10).bind fun x38 =>
 (hal h .int x38 l5).bind fun x39 =>
 (isO h x37 2).bind fun _ =>
 (FX2_put x37 l5 l4 x39 h).bind fun h41 =>
 some (.inl ((l5 + (1 : Int32)), h41))
noncomputable def LX6_markRoots_42 (l0 : Nat) (l2 : Nat) (l3 : Nat) (l4 : Int32) (h : jx_H) : Option ((Int32 × jx_H) ⊕ (jx_H)) :=
(hgr h l0 6 0).bind fun x13 =>
(hgi h x13 5 2).bind fun x14 =>
if x14 < l4 then
 exL ((hgr h l0 6 9).bind fun x15 =>
 (hgr h l0 6 0).bind fun x16 =>
 (hgi h x16 5 0).bind fun x17 =>
 (isO h x15 2).bind fun _ =>
 bind2 (FX2_reduceRows x15 x17 h) fun x19 h20 =>
 itr (fun s : Int32 × jx_H => LX6_markRoots_137 l0 l2 x19 s.1 s.2) ((0 : Int32), h20))
else
 itr (fun s : Int32 × jx_H => LX6_markRoots_57 l0 l2 l3 l4 s.1 s.2) ((0 : Int32), h)
noncomputable def FX6_markRoots (l0 : Nat) (l1 : Int32) (l2 : Nat) (h : jx_H) : Option (jx_H) :=
(isO h l0 6).bind fun _ =>
(FX6_ofVariable l0 l1 h).bind fun x2 =>
(hgr h l0 6 9).bind fun x3 =>
(hgr h l0 6 0).bind fun x4 =>
(hgi h x4 5 2).bind fun x5 =>
(hgr h l0 6 0).bind fun x6 =>
(hgi h x6 5 2).bind fun x7 =>
(isO h x3 2).bind fun _ =>
(FX2_clear x3 x5 (x7 + (1 : Int32)) h).bind fun h9 =>
(hgr h9 l0 6 10).bind fun x10 =>
(isO h9 l0 6).bind fun _ =>
(FX6_normalFormOfMonomial l0 (0 : Int32) (0 : Int32) x10 h9).bind fun h12 =>
itr (fun s : Int32 × jx_H => LX6_markRoots_42 l0 l2 x2 s.1 s.2) ((0 : Int32), h12)
def rmX6_markRoots : Room := { frames := 4, cells := 0, slots := 0, locals := 98 }
set_option maxRecDepth 20000 in
set_option maxHeartbeats 4000000 in
theorem sX6_markRoots {l0 : Nat} {l1 : Int32} {l2 : Nat} {h : jx_H} {h9 : jx_H} (e : FX6_markRoots l0 l1 l2 h = some h9) : jx_Ct yX6_markRoots cX6_markRoots 6 none rmX6_markRoots [.ref l0, .int l1, .ref l2] h (fun r' h' => none = r' ∧ h9 = h') := by
  refine jx_Ct.of (own := RX6) (by decide) rfl (Nat.le_of_ble_eq_true rfl) (fun X C hq hr hL hN => ?_)
  refine jx_sub (lv' := [(0, .ref l0), (1, .int l1), (2, .ref l2)]) [0, 1, 2] rfl ?_
  unfold FX6_markRoots at e
  refine j_aload_n C dX6_markRoots_0 rfl rfl ?_
  refine j_iload_n C dX6_markRoots_1 rfl rfl ?_
  replace e := ob e
  obtain ⟨_, eo44, e⟩ := e
  replace e := ob e
  obtain ⟨x45, ex45, e⟩ := e
  refine j_callV (ci := 6) (RC := RX6) (T := TX6) (N := 17) (As := [.int l1]) (b := l0) (na := 1) (st := []) (k1 := 0) (n1 := 0) C hr (sX6_ofVariable ex45) rfl eo44 kX6_61 kim_X6_ofVariable ksel_X6_ofVariable kini_X6 kc_X6_ofVariable (by decide) rfl ⟨(Nat.le_of_ble_eq_true rfl), (Nat.le_of_ble_eq_true rfl)⟩ (Nat.le_of_ble_eq_true rfl) ⟨rfl, rfl, (Nat.le_of_ble_eq_true rfl), (Nat.le_of_ble_eq_true rfl)⟩ dX6_markRoots_2 ?_
  rintro _ _ ⟨rfl, rfl⟩
  show jx_J X 0 0 5 [(0, .ref l0), (1, .int l1), (2, .ref l2)] [.ref x45] h
  refine j_astore_n (lv1 := [(3, .ref x45), (0, .ref l0), (1, .int l1), (2, .ref l2)]) C hL dX6_markRoots_5 rfl (Nat.le_of_ble_eq_true rfl) rfl ?_
  refine j_aload_n C dX6_markRoots_6 rfl rfl ?_
  replace e := ob e
  obtain ⟨x46, ex46, e⟩ := e
  refine j_getr (ci := 6) (RC := RX6) (T := TX6) (N := 17) 9 C rfl klX6 (Nat.le_of_ble_eq_true rfl) kX6_41 rfl dX6_markRoots_7 ex46 ?_
  refine j_aload_n C dX6_markRoots_10 rfl rfl ?_
  replace e := ob e
  obtain ⟨x47, ex47, e⟩ := e
  refine j_getr (ci := 6) (RC := RX6) (T := TX6) (N := 17) 0 C rfl klX6 (Nat.le_of_ble_eq_true rfl) kX6_54 rfl dX6_markRoots_11 ex47 ?_
  replace e := ob e
  obtain ⟨x48, ex48, e⟩ := e
  refine j_geti (ci := 5) (RC := RX5) (T := TX5) (N := 12) 2 C rfl klX5 (Nat.le_of_ble_eq_true rfl) kX6_99 rfl dX6_markRoots_14 ex48 ?_
  refine j_aload_n C dX6_markRoots_17 rfl rfl ?_
  replace e := ob e
  obtain ⟨x49, ex49, e⟩ := e
  refine j_getr (ci := 6) (RC := RX6) (T := TX6) (N := 17) 0 C rfl klX6 (Nat.le_of_ble_eq_true rfl) kX6_54 rfl dX6_markRoots_18 ex49 ?_
  replace e := ob e
  obtain ⟨x50, ex50, e⟩ := e
  refine j_geti (ci := 5) (RC := RX5) (T := TX5) (N := 12) 2 C rfl klX5 (Nat.le_of_ble_eq_true rfl) kX6_99 rfl dX6_markRoots_21 ex50 ?_
  refine j_iconst (v := (1 : Int32)) C dX6_markRoots_24 (by decide) ?_
  refine j_iadd C dX6_markRoots_25 ?_
  replace e := ob e
  obtain ⟨_, eo51, e⟩ := e
  replace e := ob e
  obtain ⟨h52, eh52, e⟩ := e
  refine j_callV (ci := 2) (RC := RX2) (T := TX2) (N := 7) (As := [.int x48, .int (x50 + (1 : Int32))]) (b := x46) (na := 2) (st := []) (k1 := 0) (n1 := 0) C hr (sX2_clear eh52) rfl eo51 kX6_102 kim_X2_clear ksel_X2_clear kini_X2 kc_X2_clear (by decide) rfl ⟨(Nat.le_of_ble_eq_true rfl), (Nat.le_of_ble_eq_true rfl)⟩ (Nat.le_of_ble_eq_true rfl) ⟨rfl, rfl, (Nat.le_of_ble_eq_true rfl), (Nat.le_of_ble_eq_true rfl)⟩ dX6_markRoots_26 ?_
  rintro _ _ ⟨rfl, rfl⟩
  show jx_J X 0 0 29 [(3, .ref x45), (0, .ref l0), (1, .int l1), (2, .ref l2)] [] h52
  refine j_aload_n C dX6_markRoots_29 rfl rfl ?_
  refine j_iconst (v := (0 : Int32)) C dX6_markRoots_30 (by decide) ?_
  refine j_iconst (v := (0 : Int32)) C dX6_markRoots_31 (by decide) ?_
  refine j_aload_n C dX6_markRoots_32 rfl rfl ?_
  replace e := ob e
  obtain ⟨x53, ex53, e⟩ := e
  refine j_getr (ci := 6) (RC := RX6) (T := TX6) (N := 17) 10 C rfl klX6 (Nat.le_of_ble_eq_true rfl) kX6_44 rfl dX6_markRoots_33 ex53 ?_
  replace e := ob e
  obtain ⟨_, eo54, e⟩ := e
  replace e := ob e
  obtain ⟨h55, eh55, e⟩ := e
  refine j_callV (ci := 6) (RC := RX6) (T := TX6) (N := 17) (As := [.int (0 : Int32), .int (0 : Int32), .ref x53]) (b := l0) (na := 3) (st := []) (k1 := 0) (n1 := 0) C hr (sX6_normalFormOfMonomial eh55) rfl eo54 kX6_156 kim_X6_normalFormOfMonomial ksel_X6_normalFormOfMonomial kini_X6 kc_X6_normalFormOfMonomial (by decide) rfl ⟨(Nat.le_of_ble_eq_true rfl), (Nat.le_of_ble_eq_true rfl)⟩ (Nat.le_of_ble_eq_true rfl) ⟨rfl, rfl, (Nat.le_of_ble_eq_true rfl), (Nat.le_of_ble_eq_true rfl)⟩ dX6_markRoots_36 ?_
  rintro _ _ ⟨rfl, rfl⟩
  show jx_J X 0 0 39 [(3, .ref x45), (0, .ref l0), (1, .int l1), (2, .ref l2)] [] h55
  refine j_iconst (v := (0 : Int32)) C dX6_markRoots_39 (by decide) ?_
  refine j_istore (lv1 := [(4, .int (0 : Int32)), (3, .ref x45), (0, .ref l0), (1, .int l1), (2, .ref l2)]) C hL dX6_markRoots_40 (Nat.le_of_ble_eq_true rfl) rfl ?_
  refine jx_sub (lv' := [(0, .ref l0), (2, .ref l2), (3, .ref x45), (4, .int (0 : Int32))]) [2, 4, 1, 0] rfl ?_
  refine itr_ind (s0 := ((0 : Int32), h55)) (fun s : Int32 × jx_H => jx_J X 0 0 42 [(0, .ref l0), (2, .ref l2), (3, .ref x45), (4, .int s.1)] [] s.2) e ?_
  clear e
  intro s kI5 kT5 e0
  obtain ⟨z56, h57⟩ := s
  obtain ⟨u5, e0_5⟩ := e0
  have e : LX6_markRoots_42 l0 l2 x45 z56 h57 = some u5 := e0_5
  unfold LX6_markRoots_42 at e
  refine j_iload C dX6_markRoots_42 rfl ?_
  refine j_aload_n C dX6_markRoots_44 rfl rfl ?_
  replace e := ob e
  obtain ⟨x58, ex58, e⟩ := e
  refine j_getr (ci := 6) (RC := RX6) (T := TX6) (N := 17) 0 C rfl klX6 (Nat.le_of_ble_eq_true rfl) kX6_54 rfl dX6_markRoots_45 ex58 ?_
  replace e := ob e
  obtain ⟨x59, ex59, e⟩ := e
  refine j_geti (ci := 5) (RC := RX5) (T := TX5) (N := 12) 2 C rfl klX5 (Nat.le_of_ble_eq_true rfl) kX6_99 rfl dX6_markRoots_48 ex59 ?_
  refine j_icmp_gt (tgt := 118) C dX6_markRoots_51 (by decide) (fun c92 => ?_) (fun c92 => ?_)
  · replace e := ifp c92 e
    obtain ⟨t_9, e_9, eu_9⟩ := exL_spec e
    obtain rfl := kT5 t_9 (e0_5.trans (congrArg some eu_9))
    replace e := e_9
    refine j_aload_n C dX6_markRoots_118 rfl rfl ?_
    replace e := ob e
    obtain ⟨x60, ex60, e⟩ := e
    refine j_getr (ci := 6) (RC := RX6) (T := TX6) (N := 17) 9 C rfl klX6 (Nat.le_of_ble_eq_true rfl) kX6_41 rfl dX6_markRoots_119 ex60 ?_
    refine j_aload_n C dX6_markRoots_122 rfl rfl ?_
    replace e := ob e
    obtain ⟨x61, ex61, e⟩ := e
    refine j_getr (ci := 6) (RC := RX6) (T := TX6) (N := 17) 0 C rfl klX6 (Nat.le_of_ble_eq_true rfl) kX6_54 rfl dX6_markRoots_123 ex61 ?_
    replace e := ob e
    obtain ⟨x62, ex62, e⟩ := e
    refine j_geti (ci := 5) (RC := RX5) (T := TX5) (N := 12) 0 C rfl klX5 (Nat.le_of_ble_eq_true rfl) kX6_87 rfl dX6_markRoots_126 ex62 ?_
    replace e := ob e
    obtain ⟨_, eo63, e⟩ := e
    replace e := ob2 e
    obtain ⟨x64, h65, ex64, e⟩ := e
    refine j_callV (ci := 2) (RC := RX2) (T := TX2) (N := 7) (As := [.int x62]) (b := x60) (na := 1) (st := []) (k1 := 0) (n1 := 0) C hr (sX2_reduceRows ex64) rfl eo63 kX6_163 kim_X2_reduceRows ksel_X2_reduceRows kini_X2 kc_X2_reduceRows (by decide) rfl ⟨(Nat.le_of_ble_eq_true rfl), (Nat.le_of_ble_eq_true rfl)⟩ (Nat.le_of_ble_eq_true rfl) ⟨rfl, rfl, (Nat.le_of_ble_eq_true rfl), (Nat.le_of_ble_eq_true rfl)⟩ dX6_markRoots_129 ?_
    rintro _ _ ⟨rfl, rfl⟩
    show jx_J X 0 0 132 [(0, .ref l0), (2, .ref l2), (3, .ref x45), (4, .int z56)] [.int x64] h65
    refine j_istore (lv1 := [(4, .int x64), (0, .ref l0), (2, .ref l2), (3, .ref x45)]) C hL dX6_markRoots_132 (Nat.le_of_ble_eq_true rfl) rfl ?_
    refine j_iconst (v := (0 : Int32)) C dX6_markRoots_134 (by decide) ?_
    refine j_istore (lv1 := [(5, .int (0 : Int32)), (4, .int x64), (0, .ref l0), (2, .ref l2), (3, .ref x45)]) C hL dX6_markRoots_135 (Nat.le_of_ble_eq_true rfl) rfl ?_
    refine jx_sub (lv' := [(0, .ref l0), (2, .ref l2), (4, .int x64), (5, .int (0 : Int32))]) [2, 3, 1, 0] rfl ?_
    refine itr_ind (s0 := ((0 : Int32), h65)) (fun s : Int32 × jx_H => jx_J X 0 0 137 [(0, .ref l0), (2, .ref l2), (4, .int x64), (5, .int s.1)] [] s.2) e ?_
    clear e
    intro s kI6 kT6 e0
    obtain ⟨z66, h67⟩ := s
    obtain ⟨u6, e0_6⟩ := e0
    have e : LX6_markRoots_137 l0 l2 x64 z66 h67 = some u6 := e0_6
    unfold LX6_markRoots_137 at e
    refine j_iload C dX6_markRoots_137 rfl ?_
    refine j_aload_n C dX6_markRoots_139 rfl rfl ?_
    replace e := ob e
    obtain ⟨x68, ex68, e⟩ := e
    refine j_getr (ci := 6) (RC := RX6) (T := TX6) (N := 17) 0 C rfl klX6 (Nat.le_of_ble_eq_true rfl) kX6_54 rfl dX6_markRoots_140 ex68 ?_
    replace e := ob e
    obtain ⟨x69, ex69, e⟩ := e
    refine j_geti (ci := 5) (RC := RX5) (T := TX5) (N := 12) 0 C rfl klX5 (Nat.le_of_ble_eq_true rfl) kX6_87 rfl dX6_markRoots_143 ex69 ?_
    refine j_icmp_ge (tgt := 174) C dX6_markRoots_146 (by decide) (fun c75 => ?_) (fun c75 => ?_)
    · replace e := ifp c75 e
      obtain ⟨t_7, e_7, eu_7⟩ := exL_spec e
      obtain rfl := kT6 t_7 (e0_6.trans (congrArg some eu_7))
      replace e := e_7
      cases e
      exact j_vret C hq dX6_markRoots_174 ⟨Nat.le_of_ble_eq_true rfl, Nat.le_of_ble_eq_true rfl⟩ ⟨rfl, rfl⟩
    · replace e := ifn c75 e
      refine j_iload C dX6_markRoots_149 rfl ?_
      refine j_aload_n C dX6_markRoots_151 rfl rfl ?_
      replace e := ob e
      obtain ⟨x70, ex70, e⟩ := e
      refine j_alen C dX6_markRoots_152 ex70 ?_
      refine j_icmp_ge (tgt := 174) C dX6_markRoots_153 (by decide) (fun c74 => ?_) (fun c74 => ?_)
      · replace e := ifp c74 e
        obtain ⟨t_8, e_8, eu_8⟩ := exL_spec e
        obtain rfl := kT6 t_8 (e0_6.trans (congrArg some eu_8))
        replace e := e_8
        cases e
        exact j_vret C hq dX6_markRoots_174 ⟨Nat.le_of_ble_eq_true rfl, Nat.le_of_ble_eq_true rfl⟩ ⟨rfl, rfl⟩
      · replace e := ifn c74 e
        refine j_aload_n C dX6_markRoots_156 rfl rfl ?_
        refine j_iload C dX6_markRoots_157 rfl ?_
        refine j_aload_n C dX6_markRoots_159 rfl rfl ?_
        refine j_iload C dX6_markRoots_160 rfl ?_
        refine j_iload C dX6_markRoots_162 rfl ?_
        replace e := ob e
        obtain ⟨_, eo71, e⟩ := e
        replace e := ob e
        obtain ⟨x72, ex72, e⟩ := e
        refine j_callV (ci := 6) (RC := RX6) (T := TX6) (N := 17) (As := [.int z66, .int x64]) (b := l0) (na := 2) (st := [.int z66, .ref l2]) (k1 := 0) (n1 := 0) C hr (sX6_isRoot ex72) rfl eo71 kX6_170 kim_X6_isRoot ksel_X6_isRoot kini_X6 kc_X6_isRoot (by decide) rfl ⟨(Nat.le_of_ble_eq_true rfl), (Nat.le_of_ble_eq_true rfl)⟩ (Nat.le_of_ble_eq_true rfl) ⟨rfl, rfl, (Nat.le_of_ble_eq_true rfl), (Nat.le_of_ble_eq_true rfl)⟩ dX6_markRoots_164 ?_
        rintro _ _ ⟨rfl, rfl⟩
        show jx_J X 0 0 167 [(0, .ref l0), (2, .ref l2), (4, .int x64), (5, .int z66)] [.int x72, .int z66, .ref l2] h67
        replace e := ob e
        obtain ⟨h73, eh73, e⟩ := e
        refine j_zast C dX6_markRoots_167 eh73 ?_
        refine j_iinc (v := (z66 + (1 : Int32))) (lv1 := [(5, .int (z66 + (1 : Int32))), (0, .ref l0), (2, .ref l2), (4, .int x64)]) C hL dX6_markRoots_168 rfl rfl (Nat.le_of_ble_eq_true rfl) rfl ?_
        refine j_goto (tgt := 137) C dX6_markRoots_171 (by decide) ?_
        obtain rfl := Option.some.inj e
        refine jx_sub (lv' := [(0, .ref l0), (2, .ref l2), (4, .int x64), (5, .int (z66 + (1 : Int32)))]) [1, 2, 3, 0] rfl ?_
        exact kI6 ((z66 + (1 : Int32)), h73) e0_6
  · replace e := ifn c92 e
    refine j_iconst (v := (0 : Int32)) C dX6_markRoots_54 (by decide) ?_
    refine j_istore (lv1 := [(5, .int (0 : Int32)), (0, .ref l0), (2, .ref l2), (3, .ref x45), (4, .int z56)]) C hL dX6_markRoots_55 (Nat.le_of_ble_eq_true rfl) rfl ?_
    refine jx_sub (lv' := [(0, .ref l0), (2, .ref l2), (3, .ref x45), (4, .int z56), (5, .int (0 : Int32))]) [1, 2, 3, 4, 0] rfl ?_
    refine itr_ind (s0 := ((0 : Int32), h57)) (fun s : Int32 × jx_H => jx_J X 0 0 57 [(0, .ref l0), (2, .ref l2), (3, .ref x45), (4, .int z56), (5, .int s.1)] [] s.2) e ?_
    clear e
    intro s kI10 kT10 e0
    obtain ⟨z76, h77⟩ := s
    obtain ⟨u10, e0_10⟩ := e0
    have e : LX6_markRoots_57 l0 l2 x45 z56 z76 h77 = some u10 := e0_10
    unfold LX6_markRoots_57 at e
    refine j_iload C dX6_markRoots_57 rfl ?_
    refine j_aload_n C dX6_markRoots_59 rfl rfl ?_
    replace e := ob e
    obtain ⟨x78, ex78, e⟩ := e
    refine j_getr (ci := 6) (RC := RX6) (T := TX6) (N := 17) 0 C rfl klX6 (Nat.le_of_ble_eq_true rfl) kX6_54 rfl dX6_markRoots_60 ex78 ?_
    replace e := ob e
    obtain ⟨x79, ex79, e⟩ := e
    refine j_geti (ci := 5) (RC := RX5) (T := TX5) (N := 12) 2 C rfl klX5 (Nat.le_of_ble_eq_true rfl) kX6_99 rfl dX6_markRoots_63 ex79 ?_
    refine j_icmp_ge (tgt := 93) C dX6_markRoots_66 (by decide) (fun c91 => ?_) (fun c91 => ?_)
    · replace e := ifp c91 e
      obtain ⟨t_11, e_11, eu_11⟩ := exL_spec e
      obtain rfl := kT10 t_11 (e0_10.trans (congrArg some eu_11))
      replace e := e_11
      refine j_aload_n C dX6_markRoots_93 rfl rfl ?_
      refine j_aload_n C dX6_markRoots_94 rfl rfl ?_
      replace e := ob e
      obtain ⟨x80, ex80, e⟩ := e
      refine j_getr (ci := 6) (RC := RX6) (T := TX6) (N := 17) 10 C rfl klX6 (Nat.le_of_ble_eq_true rfl) kX6_44 rfl dX6_markRoots_95 ex80 ?_
      refine j_aload_n C dX6_markRoots_98 rfl rfl ?_
      replace e := ob e
      obtain ⟨x81, ex81, e⟩ := e
      refine j_getr (ci := 6) (RC := RX6) (T := TX6) (N := 17) 11 C rfl klX6 (Nat.le_of_ble_eq_true rfl) kX6_48 rfl dX6_markRoots_99 ex81 ?_
      refine j_aload_n C dX6_markRoots_102 rfl rfl ?_
      replace e := ob e
      obtain ⟨x82, ex82, e⟩ := e
      refine j_getr (ci := 6) (RC := RX6) (T := TX6) (N := 17) 0 C rfl klX6 (Nat.le_of_ble_eq_true rfl) kX6_54 rfl dX6_markRoots_103 ex82 ?_
      replace e := ob e
      obtain ⟨x83, ex83, e⟩ := e
      refine j_geti (ci := 5) (RC := RX5) (T := TX5) (N := 12) 0 C rfl klX5 (Nat.le_of_ble_eq_true rfl) kX6_87 rfl dX6_markRoots_106 ex83 ?_
      replace e := ob e
      obtain ⟨_, eo84, e⟩ := e
      replace e := ob e
      obtain ⟨h85, eh85, e⟩ := e
      refine j_callV (ci := 2) (RC := RX2) (T := TX2) (N := 7) (As := [.ref x80, .ref x81, .int x83]) (b := x45) (na := 3) (st := []) (k1 := 0) (n1 := 0) C hr (sX2_applyTo eh85) rfl eo84 kX6_145 kim_X2_applyTo ksel_X2_applyTo kini_X2 kc_X2_applyTo (by decide) rfl ⟨(Nat.le_of_ble_eq_true rfl), (Nat.le_of_ble_eq_true rfl)⟩ (Nat.le_of_ble_eq_true rfl) ⟨rfl, rfl, (Nat.le_of_ble_eq_true rfl), (Nat.le_of_ble_eq_true rfl)⟩ dX6_markRoots_109 ?_
      rintro _ _ ⟨rfl, rfl⟩
      show jx_J X 0 0 112 [(0, .ref l0), (2, .ref l2), (3, .ref x45), (4, .int z56), (5, .int z76)] [] h85
      refine j_iinc (v := (z56 + (1 : Int32))) (lv1 := [(4, .int (z56 + (1 : Int32))), (0, .ref l0), (2, .ref l2), (3, .ref x45), (5, .int z76)]) C hL dX6_markRoots_112 rfl rfl (Nat.le_of_ble_eq_true rfl) rfl ?_
      refine j_goto (tgt := 42) C dX6_markRoots_115 (by decide) ?_
      obtain rfl := Option.some.inj e
      refine jx_sub (lv' := [(0, .ref l0), (2, .ref l2), (3, .ref x45), (4, .int (z56 + (1 : Int32)))]) [1, 2, 3, 0] rfl ?_
      exact kI5 ((z56 + (1 : Int32)), h85) e0_5
    · replace e := ifn c91 e
      refine j_aload_n C dX6_markRoots_69 rfl rfl ?_
      replace e := ob e
      obtain ⟨x86, ex86, e⟩ := e
      refine j_getr (ci := 6) (RC := RX6) (T := TX6) (N := 17) 9 C rfl klX6 (Nat.le_of_ble_eq_true rfl) kX6_41 rfl dX6_markRoots_70 ex86 ?_
      refine j_iload C dX6_markRoots_73 rfl ?_
      refine j_iload C dX6_markRoots_75 rfl ?_
      refine j_aload_n C dX6_markRoots_77 rfl rfl ?_
      replace e := ob e
      obtain ⟨x87, ex87, e⟩ := e
      refine j_getr (ci := 6) (RC := RX6) (T := TX6) (N := 17) 10 C rfl klX6 (Nat.le_of_ble_eq_true rfl) kX6_44 rfl dX6_markRoots_78 ex87 ?_
      refine j_iload C dX6_markRoots_81 rfl ?_
      replace e := ob e
      obtain ⟨x88, ex88, e⟩ := e
      refine j_iald C dX6_markRoots_83 ex88 ?_
      replace e := ob e
      obtain ⟨_, eo89, e⟩ := e
      replace e := ob e
      obtain ⟨h90, eh90, e⟩ := e
      refine j_callV (ci := 2) (RC := RX2) (T := TX2) (N := 7) (As := [.int z76, .int z56, .int x88]) (b := x86) (na := 3) (st := []) (k1 := 0) (n1 := 0) C hr (sX2_put eh90) rfl eo89 kX6_114 kim_X2_put ksel_X2_put kini_X2 kc_X2_put (by decide) rfl ⟨(Nat.le_of_ble_eq_true rfl), (Nat.le_of_ble_eq_true rfl)⟩ (Nat.le_of_ble_eq_true rfl) ⟨rfl, rfl, (Nat.le_of_ble_eq_true rfl), (Nat.le_of_ble_eq_true rfl)⟩ dX6_markRoots_84 ?_
      rintro _ _ ⟨rfl, rfl⟩
      show jx_J X 0 0 87 [(0, .ref l0), (2, .ref l2), (3, .ref x45), (4, .int z56), (5, .int z76)] [] h90
      refine j_iinc (v := (z76 + (1 : Int32))) (lv1 := [(5, .int (z76 + (1 : Int32))), (0, .ref l0), (2, .ref l2), (3, .ref x45), (4, .int z56)]) C hL dX6_markRoots_87 rfl rfl (Nat.le_of_ble_eq_true rfl) rfl ?_
      refine j_goto (tgt := 57) C dX6_markRoots_90 (by decide) ?_
      obtain rfl := Option.some.inj e
      refine jx_sub (lv' := [(0, .ref l0), (2, .ref l2), (3, .ref x45), (4, .int z56), (5, .int (z76 + (1 : Int32)))]) [1, 2, 3, 4, 0] rfl ?_
      exact kI10 ((z76 + (1 : Int32)), h90) e0_10
/-! BorderBasis$Text.<init>()V -/
noncomputable def FX7_init (l0 : Nat) (h : jx_H) : Option (jx_H) :=
(hna h .byte (900 : Int32)).bind fun h1 =>
(hp h1 l0 7 0 (.ref h.1)).bind fun h2 =>
some h2
def rmX7_init : Room := { frames := 1, cells := 1, slots := 900, locals := 20 }
set_option maxRecDepth 20000 in
set_option maxHeartbeats 4000000 in
theorem sX7_init {l0 : Nat} {h : jx_H} {h9 : jx_H} (e : FX7_init l0 h = some h9) : jx_Ct yX7_init cX7_init 1 none rmX7_init [.ref l0] h (fun r' h' => none = r' ∧ h9 = h') := by
  refine jx_Ct.of (own := RX7) (by decide) rfl (Nat.le_of_ble_eq_true rfl) (fun X C hq hr hL hN => ?_)
  refine jx_sub (lv' := [(0, .ref l0)]) [0] rfl ?_
  unfold FX7_init at e
  refine j_aload_n C dX7_init_0 rfl rfl ?_
  refine j_objInit C hr kX7_3 kim_Oinit kc_Oinit dX7_init_1 (Nat.le_of_ble_eq_true rfl) (Nat.le_of_ble_eq_true rfl) ?_
  refine j_aload_n C dX7_init_4 rfl rfl ?_
  refine j_sipush (v := (900 : Int32)) C dX7_init_5 (by decide) ?_
  replace e := ob e
  obtain ⟨h3, eh3, e⟩ := e
  refine j_newa (ty := .byte) (N := 900) C hr kac_byte rfl rfl (Nat.le_of_ble_eq_true rfl) dX7_init_8 eh3 (Nat.le_of_ble_eq_true rfl) ⟨Nat.le_of_ble_eq_true rfl, Nat.le_of_ble_eq_true rfl⟩ ?_
  refine jx_widen (k1 := 1) (n1 := 900) (Nat.le_of_ble_eq_true rfl) (Nat.le_of_ble_eq_true rfl) ?_
  replace e := ob e
  obtain ⟨h4, eh4, e⟩ := e
  refine j_putF (ci := 7) (RC := RX7) (T := TX7) (N := 6) (ty0 := tyX7) 0 C rfl klX7 tyX7_ok nmX7 (Nat.le_of_ble_eq_true rfl) kX7_9 rfl rfl hN rfl rfl rfl rfl dX7_init_10 eh4 ?_
  cases e
  exact j_vret C hq dX7_init_13 ⟨Nat.le_of_ble_eq_true rfl, Nat.le_of_ble_eq_true rfl⟩ ⟨rfl, rfl⟩
/-! BorderBasis$Text.append(B)V -/
noncomputable def FX7_append (l0 : Nat) (l1 : Int32) (h : jx_H) : Option (jx_H) :=
(hgi h l0 7 1).bind fun x1 =>
if (900 : Int32) ≤ x1 then
 some h
else
 (hgr h l0 7 0).bind fun x2 =>
 (hgi h l0 7 1).bind fun x3 =>
 (has h .byte x2 x3 (vp_nar .byte l1)).bind fun h4 =>
 (hgi h4 l0 7 1).bind fun x5 =>
 (hp h4 l0 7 1 (.int (x5 + (1 : Int32)))).bind fun h6 =>
 some h6
def rmX7_append : Room := { frames := 0, cells := 0, slots := 0, locals := 0 }
set_option maxRecDepth 20000 in
set_option maxHeartbeats 4000000 in
theorem sX7_append {l0 : Nat} {l1 : Int32} {h : jx_H} {h9 : jx_H} (e : FX7_append l0 l1 h = some h9) : jx_Ct yX7_append cX7_append 2 none rmX7_append [.ref l0, .int l1] h (fun r' h' => none = r' ∧ h9 = h') := by
  refine jx_Ct.of (own := RX7) (by decide) rfl (Nat.le_of_ble_eq_true rfl) (fun X C hq hr hL hN => ?_)
  refine jx_sub (lv' := [(0, .ref l0), (1, .int l1)]) [0, 1] rfl ?_
  unfold FX7_append at e
  refine j_aload_n C dX7_append_0 rfl rfl ?_
  replace e := ob e
  obtain ⟨x8, ex8, e⟩ := e
  refine j_geti (ci := 7) (RC := RX7) (T := TX7) (N := 6) 1 C rfl klX7 (Nat.le_of_ble_eq_true rfl) kX7_15 rfl dX7_append_1 ex8 ?_
  refine j_sipush (v := (900 : Int32)) C dX7_append_4 (by decide) ?_
  refine j_icmp_ge (tgt := 30) C dX7_append_7 (by decide) (fun c14 => ?_) (fun c14 => ?_)
  · replace e := ifp c14 e
    cases e
    exact j_vret C hq dX7_append_30 ⟨Nat.le_of_ble_eq_true rfl, Nat.le_of_ble_eq_true rfl⟩ ⟨rfl, rfl⟩
  · replace e := ifn c14 e
    refine j_aload_n C dX7_append_10 rfl rfl ?_
    replace e := ob e
    obtain ⟨x9, ex9, e⟩ := e
    refine j_getr (ci := 7) (RC := RX7) (T := TX7) (N := 6) 0 C rfl klX7 (Nat.le_of_ble_eq_true rfl) kX7_9 rfl dX7_append_11 ex9 ?_
    refine j_aload_n C dX7_append_14 rfl rfl ?_
    replace e := ob e
    obtain ⟨x10, ex10, e⟩ := e
    refine j_geti (ci := 7) (RC := RX7) (T := TX7) (N := 6) 1 C rfl klX7 (Nat.le_of_ble_eq_true rfl) kX7_15 rfl dX7_append_15 ex10 ?_
    refine j_iload_n C dX7_append_18 rfl rfl ?_
    replace e := ob e
    obtain ⟨h11, eh11, e⟩ := e
    refine j_bast C dX7_append_19 eh11 ?_
    refine j_aload_n C dX7_append_20 rfl rfl ?_
    refine j_dup C dX7_append_21 rfl ?_
    replace e := ob e
    obtain ⟨x12, ex12, e⟩ := e
    refine j_geti (ci := 7) (RC := RX7) (T := TX7) (N := 6) 1 C rfl klX7 (Nat.le_of_ble_eq_true rfl) kX7_15 rfl dX7_append_22 ex12 ?_
    refine j_iconst (v := (1 : Int32)) C dX7_append_25 (by decide) ?_
    refine j_iadd C dX7_append_26 ?_
    replace e := ob e
    obtain ⟨h13, eh13, e⟩ := e
    refine j_put (ci := 7) (RC := RX7) (T := TX7) (N := 6) (ty0 := tyX7) 1 C rfl klX7 tyX7_ok nmX7 (Nat.le_of_ble_eq_true rfl) kX7_15 rfl rfl rfl rfl dX7_append_27 eh13 ?_
    cases e
    exact j_vret C hq dX7_append_30 ⟨Nat.le_of_ble_eq_true rfl, Nat.le_of_ble_eq_true rfl⟩ ⟨rfl, rfl⟩
/-! BorderBasis$Zeros.<init>(LBorderBasis$State;LBorderBasis$Tables;LBorderBasis$Spot;)V -/
noncomputable def FX8_init (l0 : Nat) (l1 : Nat) (l2 : Nat) (l3 : Nat) (h : jx_H) : Option (jx_H) :=
(hna h .boolean (97 : Int32)).bind fun h1 =>
(hp h1 l0 8 3 (.ref h.1)).bind fun h2 =>
(hna h2 .boolean (97 : Int32)).bind fun h3 =>
(hp h3 l0 8 4 (.ref h2.1)).bind fun h4 =>
(hna h4 .int (12 : Int32)).bind fun h5 =>
(hp h5 l0 8 5 (.ref h4.1)).bind fun h6 =>
(hna h6 .int (12 : Int32)).bind fun h7 =>
(hp h7 l0 8 6 (.ref h6.1)).bind fun h8 =>
(hna h8 .int (12 : Int32)).bind fun h9 =>
(hp h9 l0 8 7 (.ref h8.1)).bind fun h10 =>
(hnw h10 2 fsX2).bind fun h11 =>
(FX2_init 144 12 h10.1 (12 : Int32) (12 : Int32) h11).bind fun h12 =>
(hp h12 l0 8 8 (.ref h10.1)).bind fun h13 =>
(hnw h13 2 fsX2).bind fun h14 =>
(FX2_init 288 24 h13.1 (24 : Int32) (12 : Int32) h14).bind fun h15 =>
(hp h15 l0 8 9 (.ref h13.1)).bind fun h16 =>
(hnw h16 2 fsX2).bind fun h17 =>
(FX2_init 144 12 h16.1 (12 : Int32) (12 : Int32) h17).bind fun h18 =>
(hp h18 l0 8 10 (.ref h16.1)).bind fun h19 =>
(hnq h19 "BorderBasis$Matrix" (12 : Int32)).bind fun h20 =>
(hp h20 l0 8 11 (.ref h19.1)).bind fun h21 =>
(hp h21 l0 8 14 (.int (-1 : Int32))).bind fun h22 =>
(hp h22 l0 8 0 (.ref l1)).bind fun h23 =>
(hp h23 l0 8 1 (.ref l2)).bind fun h24 =>
(hp h24 l0 8 2 (.ref l3)).bind fun h25 =>
some h25
def rmX8_init : Room := { frames := 2, cells := 15, slots := 887, locals := 42 }
set_option maxRecDepth 20000 in
set_option maxHeartbeats 4000000 in
theorem sX8_init {l0 : Nat} {l1 : Nat} {l2 : Nat} {l3 : Nat} {h : jx_H} {h9 : jx_H} (e : FX8_init l0 l1 l2 l3 h = some h9) : jx_Ct yX8_init cX8_init 4 none rmX8_init [.ref l0, .ref l1, .ref l2, .ref l3] h (fun r' h' => none = r' ∧ h9 = h') := by
  refine jx_Ct.of (own := RX8) (by decide) rfl (Nat.le_of_ble_eq_true rfl) (fun X C hq hr hL hN => ?_)
  refine jx_sub (lv' := [(0, .ref l0), (1, .ref l1), (2, .ref l2), (3, .ref l3)]) [0, 1, 2, 3] rfl ?_
  unfold FX8_init at e
  refine j_aload_n C dX8_init_0 rfl rfl ?_
  refine j_objInit C hr kX8_3 kim_Oinit kc_Oinit dX8_init_1 (Nat.le_of_ble_eq_true rfl) (Nat.le_of_ble_eq_true rfl) ?_
  refine j_aload_n C dX8_init_4 rfl rfl ?_
  refine j_bipush (v := (97 : Int32)) C dX8_init_5 (by decide) ?_
  replace e := ob e
  obtain ⟨h26, eh26, e⟩ := e
  refine j_newa (ty := .boolean) (N := 97) C hr kac_boolean rfl rfl (Nat.le_of_ble_eq_true rfl) dX8_init_7 eh26 (Nat.le_of_ble_eq_true rfl) ⟨Nat.le_of_ble_eq_true rfl, Nat.le_of_ble_eq_true rfl⟩ ?_
  refine jx_widen (k1 := 1) (n1 := 97) (Nat.le_of_ble_eq_true rfl) (Nat.le_of_ble_eq_true rfl) ?_
  replace e := ob e
  obtain ⟨h27, eh27, e⟩ := e
  refine j_putF (ci := 8) (RC := RX8) (T := TX8) (N := 15) (ty0 := tyX8) 3 C rfl klX8 tyX8_ok nmX8 (Nat.le_of_ble_eq_true rfl) kX8_9 rfl rfl hN rfl rfl rfl rfl dX8_init_9 eh27 ?_
  refine j_aload_n C dX8_init_12 rfl rfl ?_
  refine j_bipush (v := (97 : Int32)) C dX8_init_13 (by decide) ?_
  replace e := ob e
  obtain ⟨h28, eh28, e⟩ := e
  refine j_newa (ty := .boolean) (N := 97) C hr kac_boolean rfl rfl (Nat.le_of_ble_eq_true rfl) dX8_init_15 eh28 (Nat.le_of_ble_eq_true rfl) ⟨Nat.le_of_ble_eq_true rfl, Nat.le_of_ble_eq_true rfl⟩ ?_
  refine jx_widen (k1 := 2) (n1 := 194) (Nat.le_of_ble_eq_true rfl) (Nat.le_of_ble_eq_true rfl) ?_
  replace e := ob e
  obtain ⟨h29, eh29, e⟩ := e
  refine j_putF (ci := 8) (RC := RX8) (T := TX8) (N := 15) (ty0 := tyX8) 4 C rfl klX8 tyX8_ok nmX8 (Nat.le_of_ble_eq_true rfl) kX8_15 rfl rfl hN rfl rfl rfl rfl dX8_init_17 eh29 ?_
  refine j_aload_n C dX8_init_20 rfl rfl ?_
  refine j_bipush (v := (12 : Int32)) C dX8_init_21 (by decide) ?_
  replace e := ob e
  obtain ⟨h30, eh30, e⟩ := e
  refine j_newa (ty := .int) (N := 12) C hr kac_int rfl rfl (Nat.le_of_ble_eq_true rfl) dX8_init_23 eh30 (Nat.le_of_ble_eq_true rfl) ⟨Nat.le_of_ble_eq_true rfl, Nat.le_of_ble_eq_true rfl⟩ ?_
  refine jx_widen (k1 := 3) (n1 := 206) (Nat.le_of_ble_eq_true rfl) (Nat.le_of_ble_eq_true rfl) ?_
  replace e := ob e
  obtain ⟨h31, eh31, e⟩ := e
  refine j_putF (ci := 8) (RC := RX8) (T := TX8) (N := 15) (ty0 := tyX8) 5 C rfl klX8 tyX8_ok nmX8 (Nat.le_of_ble_eq_true rfl) kX8_18 rfl rfl hN rfl rfl rfl rfl dX8_init_25 eh31 ?_
  refine j_aload_n C dX8_init_28 rfl rfl ?_
  refine j_bipush (v := (12 : Int32)) C dX8_init_29 (by decide) ?_
  replace e := ob e
  obtain ⟨h32, eh32, e⟩ := e
  refine j_newa (ty := .int) (N := 12) C hr kac_int rfl rfl (Nat.le_of_ble_eq_true rfl) dX8_init_31 eh32 (Nat.le_of_ble_eq_true rfl) ⟨Nat.le_of_ble_eq_true rfl, Nat.le_of_ble_eq_true rfl⟩ ?_
  refine jx_widen (k1 := 4) (n1 := 218) (Nat.le_of_ble_eq_true rfl) (Nat.le_of_ble_eq_true rfl) ?_
  replace e := ob e
  obtain ⟨h33, eh33, e⟩ := e
  refine j_putF (ci := 8) (RC := RX8) (T := TX8) (N := 15) (ty0 := tyX8) 6 C rfl klX8 tyX8_ok nmX8 (Nat.le_of_ble_eq_true rfl) kX8_22 rfl rfl hN rfl rfl rfl rfl dX8_init_33 eh33 ?_
  refine j_aload_n C dX8_init_36 rfl rfl ?_
  refine j_bipush (v := (12 : Int32)) C dX8_init_37 (by decide) ?_
  replace e := ob e
  obtain ⟨h34, eh34, e⟩ := e
  refine j_newa (ty := .int) (N := 12) C hr kac_int rfl rfl (Nat.le_of_ble_eq_true rfl) dX8_init_39 eh34 (Nat.le_of_ble_eq_true rfl) ⟨Nat.le_of_ble_eq_true rfl, Nat.le_of_ble_eq_true rfl⟩ ?_
  refine jx_widen (k1 := 5) (n1 := 230) (Nat.le_of_ble_eq_true rfl) (Nat.le_of_ble_eq_true rfl) ?_
  replace e := ob e
  obtain ⟨h35, eh35, e⟩ := e
  refine j_putF (ci := 8) (RC := RX8) (T := TX8) (N := 15) (ty0 := tyX8) 7 C rfl klX8 tyX8_ok nmX8 (Nat.le_of_ble_eq_true rfl) kX8_25 rfl rfl hN rfl rfl rfl rfl dX8_init_41 eh35 ?_
  refine j_aload_n C dX8_init_44 rfl rfl ?_
  replace e := ob e
  obtain ⟨h36, eh36, e⟩ := e
  refine j_new (ci := 2) (RC := RX2) (T := TX2) (N := 7) (ty0 := tyX2) (fs := fsX2) C hr rfl klX2 tyX2_ok kX8_28 kins_X2 kini_X2 fsX2_ok dX8_init_45 eh36 ⟨Nat.le_of_ble_eq_true rfl, Nat.le_of_ble_eq_true rfl⟩ ?_
  refine jx_widen (k1 := 6) (n1 := 237) (Nat.le_of_ble_eq_true rfl) (Nat.le_of_ble_eq_true rfl) ?_
  refine j_dup C dX8_init_48 rfl ?_
  refine j_bipush (v := (12 : Int32)) C dX8_init_49 (by decide) ?_
  refine j_bipush (v := (12 : Int32)) C dX8_init_51 (by decide) ?_
  replace e := ob e
  obtain ⟨h37, eh37, e⟩ := e
  refine j_callI (As := [.int (12 : Int32), .int (12 : Int32)]) (b := h35.1) (na := 2) (st := [.ref h35.1, .ref l0]) (k1 := 8) (n1 := 393) C hr (sX2_init eh37) kX8_30 kim_X2_init kini_X2 kc_X2_init (by decide) rfl ⟨(Nat.le_of_ble_eq_true rfl), (Nat.le_of_ble_eq_true rfl)⟩ (Nat.le_of_ble_eq_true rfl) ⟨rfl, rfl, (Nat.le_of_ble_eq_true rfl), (Nat.le_of_ble_eq_true rfl)⟩ dX8_init_53 ?_
  rintro _ _ ⟨rfl, rfl⟩
  show jx_J X 8 393 56 [(0, .ref l0), (1, .ref l1), (2, .ref l2), (3, .ref l3)] [.ref h35.1, .ref l0] h37
  replace e := ob e
  obtain ⟨h38, eh38, e⟩ := e
  refine j_putF (ci := 8) (RC := RX8) (T := TX8) (N := 15) (ty0 := tyX8) 8 C rfl klX8 tyX8_ok nmX8 (Nat.le_of_ble_eq_true rfl) kX8_33 rfl rfl hN rfl rfl rfl rfl dX8_init_56 eh38 ?_
  refine j_aload_n C dX8_init_59 rfl rfl ?_
  replace e := ob e
  obtain ⟨h39, eh39, e⟩ := e
  refine j_new (ci := 2) (RC := RX2) (T := TX2) (N := 7) (ty0 := tyX2) (fs := fsX2) C hr rfl klX2 tyX2_ok kX8_28 kins_X2 kini_X2 fsX2_ok dX8_init_60 eh39 ⟨Nat.le_of_ble_eq_true rfl, Nat.le_of_ble_eq_true rfl⟩ ?_
  refine jx_widen (k1 := 9) (n1 := 400) (Nat.le_of_ble_eq_true rfl) (Nat.le_of_ble_eq_true rfl) ?_
  refine j_dup C dX8_init_63 rfl ?_
  refine j_bipush (v := (24 : Int32)) C dX8_init_64 (by decide) ?_
  refine j_bipush (v := (12 : Int32)) C dX8_init_66 (by decide) ?_
  replace e := ob e
  obtain ⟨h40, eh40, e⟩ := e
  refine j_callI (As := [.int (24 : Int32), .int (12 : Int32)]) (b := h38.1) (na := 2) (st := [.ref h38.1, .ref l0]) (k1 := 11) (n1 := 712) C hr (sX2_init eh40) kX8_30 kim_X2_init kini_X2 kc_X2_init (by decide) rfl ⟨(Nat.le_of_ble_eq_true rfl), (Nat.le_of_ble_eq_true rfl)⟩ (Nat.le_of_ble_eq_true rfl) ⟨rfl, rfl, (Nat.le_of_ble_eq_true rfl), (Nat.le_of_ble_eq_true rfl)⟩ dX8_init_68 ?_
  rintro _ _ ⟨rfl, rfl⟩
  show jx_J X 11 712 71 [(0, .ref l0), (1, .ref l1), (2, .ref l2), (3, .ref l3)] [.ref h38.1, .ref l0] h40
  replace e := ob e
  obtain ⟨h41, eh41, e⟩ := e
  refine j_putF (ci := 8) (RC := RX8) (T := TX8) (N := 15) (ty0 := tyX8) 9 C rfl klX8 tyX8_ok nmX8 (Nat.le_of_ble_eq_true rfl) kX8_37 rfl rfl hN rfl rfl rfl rfl dX8_init_71 eh41 ?_
  refine j_aload_n C dX8_init_74 rfl rfl ?_
  replace e := ob e
  obtain ⟨h42, eh42, e⟩ := e
  refine j_new (ci := 2) (RC := RX2) (T := TX2) (N := 7) (ty0 := tyX2) (fs := fsX2) C hr rfl klX2 tyX2_ok kX8_28 kins_X2 kini_X2 fsX2_ok dX8_init_75 eh42 ⟨Nat.le_of_ble_eq_true rfl, Nat.le_of_ble_eq_true rfl⟩ ?_
  refine jx_widen (k1 := 12) (n1 := 719) (Nat.le_of_ble_eq_true rfl) (Nat.le_of_ble_eq_true rfl) ?_
  refine j_dup C dX8_init_78 rfl ?_
  refine j_bipush (v := (12 : Int32)) C dX8_init_79 (by decide) ?_
  refine j_bipush (v := (12 : Int32)) C dX8_init_81 (by decide) ?_
  replace e := ob e
  obtain ⟨h43, eh43, e⟩ := e
  refine j_callI (As := [.int (12 : Int32), .int (12 : Int32)]) (b := h41.1) (na := 2) (st := [.ref h41.1, .ref l0]) (k1 := 14) (n1 := 875) C hr (sX2_init eh43) kX8_30 kim_X2_init kini_X2 kc_X2_init (by decide) rfl ⟨(Nat.le_of_ble_eq_true rfl), (Nat.le_of_ble_eq_true rfl)⟩ (Nat.le_of_ble_eq_true rfl) ⟨rfl, rfl, (Nat.le_of_ble_eq_true rfl), (Nat.le_of_ble_eq_true rfl)⟩ dX8_init_83 ?_
  rintro _ _ ⟨rfl, rfl⟩
  show jx_J X 14 875 86 [(0, .ref l0), (1, .ref l1), (2, .ref l2), (3, .ref l3)] [.ref h41.1, .ref l0] h43
  replace e := ob e
  obtain ⟨h44, eh44, e⟩ := e
  refine j_putF (ci := 8) (RC := RX8) (T := TX8) (N := 15) (ty0 := tyX8) 10 C rfl klX8 tyX8_ok nmX8 (Nat.le_of_ble_eq_true rfl) kX8_40 rfl rfl hN rfl rfl rfl rfl dX8_init_86 eh44 ?_
  refine j_aload_n C dX8_init_89 rfl rfl ?_
  refine j_bipush (v := (12 : Int32)) C dX8_init_90 (by decide) ?_
  replace e := ob e
  obtain ⟨h45, eh45, e⟩ := e
  refine j_newq (cn := "BorderBasis$Matrix") (N := 12) C hr kX8_28 (Or.inr rfl) dX8_init_92 eh45 (Nat.le_of_ble_eq_true rfl) ⟨Nat.le_of_ble_eq_true rfl, Nat.le_of_ble_eq_true rfl⟩ ?_
  refine jx_widen (k1 := 15) (n1 := 887) (Nat.le_of_ble_eq_true rfl) (Nat.le_of_ble_eq_true rfl) ?_
  replace e := ob e
  obtain ⟨h46, eh46, e⟩ := e
  refine j_putF (ci := 8) (RC := RX8) (T := TX8) (N := 15) (ty0 := tyX8) 11 C rfl klX8 tyX8_ok nmX8 (Nat.le_of_ble_eq_true rfl) kX8_43 rfl rfl hN rfl rfl rfl rfl dX8_init_95 eh46 ?_
  refine j_aload_n C dX8_init_98 rfl rfl ?_
  refine j_iconst (v := (-1 : Int32)) C dX8_init_99 (by decide) ?_
  replace e := ob e
  obtain ⟨h47, eh47, e⟩ := e
  refine j_put (ci := 8) (RC := RX8) (T := TX8) (N := 15) (ty0 := tyX8) 14 C rfl klX8 tyX8_ok nmX8 (Nat.le_of_ble_eq_true rfl) kX8_47 rfl rfl rfl rfl dX8_init_100 eh47 ?_
  refine j_aload_n C dX8_init_103 rfl rfl ?_
  refine j_aload_n C dX8_init_104 rfl rfl ?_
  replace e := ob e
  obtain ⟨h48, eh48, e⟩ := e
  refine j_putF (ci := 8) (RC := RX8) (T := TX8) (N := 15) (ty0 := tyX8) 0 C rfl klX8 tyX8_ok nmX8 (Nat.le_of_ble_eq_true rfl) kX8_51 rfl rfl hN rfl rfl rfl rfl dX8_init_105 eh48 ?_
  refine j_aload_n C dX8_init_108 rfl rfl ?_
  refine j_aload_n C dX8_init_109 rfl rfl ?_
  replace e := ob e
  obtain ⟨h49, eh49, e⟩ := e
  refine j_putF (ci := 8) (RC := RX8) (T := TX8) (N := 15) (ty0 := tyX8) 1 C rfl klX8 tyX8_ok nmX8 (Nat.le_of_ble_eq_true rfl) kX8_55 rfl rfl hN rfl rfl rfl rfl dX8_init_110 eh49 ?_
  refine j_aload_n C dX8_init_113 rfl rfl ?_
  refine j_aload_n C dX8_init_114 rfl rfl ?_
  replace e := ob e
  obtain ⟨h50, eh50, e⟩ := e
  refine j_putF (ci := 8) (RC := RX8) (T := TX8) (N := 15) (ty0 := tyX8) 2 C rfl klX8 tyX8_ok nmX8 (Nat.le_of_ble_eq_true rfl) kX8_59 rfl rfl hN rfl rfl rfl rfl dX8_init_115 eh50 ?_
  cases e
  exact j_vret C hq dX8_init_118 ⟨Nat.le_of_ble_eq_true rfl, Nat.le_of_ble_eq_true rfl⟩ ⟨rfl, rfl⟩
/-! BorderBasis$Zeros.forget()V -/
noncomputable def FX8_forget (l0 : Nat) (h : jx_H) : Option (jx_H) :=
(hp h l0 8 12 (.int (0 : Int32))).bind fun h1 =>
(hp h1 l0 8 14 (.int (-1 : Int32))).bind fun h2 =>
some h2
def rmX8_forget : Room := { frames := 0, cells := 0, slots := 0, locals := 0 }
set_option maxRecDepth 20000 in
set_option maxHeartbeats 4000000 in
theorem sX8_forget {l0 : Nat} {h : jx_H} {h9 : jx_H} (e : FX8_forget l0 h = some h9) : jx_Ct yX8_forget cX8_forget 1 none rmX8_forget [.ref l0] h (fun r' h' => none = r' ∧ h9 = h') := by
  refine jx_Ct.of (own := RX8) (by decide) rfl (Nat.le_of_ble_eq_true rfl) (fun X C hq hr hL hN => ?_)
  refine jx_sub (lv' := [(0, .ref l0)]) [0] rfl ?_
  unfold FX8_forget at e
  refine j_aload_n C dX8_forget_0 rfl rfl ?_
  refine j_iconst (v := (0 : Int32)) C dX8_forget_1 (by decide) ?_
  replace e := ob e
  obtain ⟨h3, eh3, e⟩ := e
  refine j_put (ci := 8) (RC := RX8) (T := TX8) (N := 15) (ty0 := tyX8) 12 C rfl klX8 tyX8_ok nmX8 (Nat.le_of_ble_eq_true rfl) kX8_63 rfl rfl rfl rfl dX8_forget_2 eh3 ?_
  refine j_aload_n C dX8_forget_5 rfl rfl ?_
  refine j_iconst (v := (-1 : Int32)) C dX8_forget_6 (by decide) ?_
  replace e := ob e
  obtain ⟨h4, eh4, e⟩ := e
  refine j_put (ci := 8) (RC := RX8) (T := TX8) (N := 15) (ty0 := tyX8) 14 C rfl klX8 tyX8_ok nmX8 (Nat.le_of_ble_eq_true rfl) kX8_47 rfl rfl rfl rfl dX8_forget_7 eh4 ?_
  cases e
  exact j_vret C hq dX8_forget_10 ⟨Nat.le_of_ble_eq_true rfl, Nat.le_of_ble_eq_true rfl⟩ ⟨rfl, rfl⟩
/-! BorderBasis$Zeros.tryPoint(II)V -/
noncomputable def FX8_tryPoint (l0 : Nat) (l1 : Int32) (l2 : Int32) (h : jx_H) : Option (jx_H) :=
(hgr h l0 8 2).bind fun x1 =>
(hgr h l0 8 0).bind fun x2 =>
(hgi h x2 5 0).bind fun x3 =>
(isO h x1 4).bind fun _ =>
(FX4_moveTo x1 l1 l2 x3 h).bind fun h5 =>
(hgi h5 l0 8 13).bind fun x6 =>
if (12 : Int32) ≤ x6 then
 some h5
else
 (hgr h5 l0 8 2).bind fun x7 =>
 (hgr h5 l0 8 0).bind fun x8 =>
 (isO h5 x7 4).bind fun _ =>
 (FX4_isZeroOf x7 x8 h5).bind fun x10 =>
 if x10 = 0 then
  some h5
 else
  (hgr h5 l0 8 5).bind fun x11 =>
  (hgi h5 l0 8 13).bind fun x12 =>
  (has h5 .int x11 x12 l1).bind fun h13 =>
  (hgr h13 l0 8 6).bind fun x14 =>
  (hgi h13 l0 8 13).bind fun x15 =>
  (has h13 .int x14 x15 l2).bind fun h16 =>
  (hgi h16 l0 8 13).bind fun x17 =>
  (hp h16 l0 8 13 (.int (x17 + (1 : Int32)))).bind fun h18 =>
  some h18
def rmX8_tryPoint : Room := { frames := 4, cells := 0, slots := 0, locals := 91 }
set_option maxRecDepth 20000 in
set_option maxHeartbeats 4000000 in
theorem sX8_tryPoint {l0 : Nat} {l1 : Int32} {l2 : Int32} {h : jx_H} {h9 : jx_H} (e : FX8_tryPoint l0 l1 l2 h = some h9) : jx_Ct yX8_tryPoint cX8_tryPoint 3 none rmX8_tryPoint [.ref l0, .int l1, .int l2] h (fun r' h' => none = r' ∧ h9 = h') := by
  refine jx_Ct.of (own := RX8) (by decide) rfl (Nat.le_of_ble_eq_true rfl) (fun X C hq hr hL hN => ?_)
  refine jx_sub (lv' := [(0, .ref l0), (1, .int l1), (2, .int l2)]) [0, 1, 2] rfl ?_
  unfold FX8_tryPoint at e
  refine j_aload_n C dX8_tryPoint_0 rfl rfl ?_
  replace e := ob e
  obtain ⟨x21, ex21, e⟩ := e
  refine j_getr (ci := 8) (RC := RX8) (T := TX8) (N := 15) 2 C rfl klX8 (Nat.le_of_ble_eq_true rfl) kX8_59 rfl dX8_tryPoint_1 ex21 ?_
  refine j_iload_n C dX8_tryPoint_4 rfl rfl ?_
  refine j_iload_n C dX8_tryPoint_5 rfl rfl ?_
  refine j_aload_n C dX8_tryPoint_6 rfl rfl ?_
  replace e := ob e
  obtain ⟨x22, ex22, e⟩ := e
  refine j_getr (ci := 8) (RC := RX8) (T := TX8) (N := 15) 0 C rfl klX8 (Nat.le_of_ble_eq_true rfl) kX8_51 rfl dX8_tryPoint_7 ex22 ?_
  replace e := ob e
  obtain ⟨x23, ex23, e⟩ := e
  refine j_geti (ci := 5) (RC := RX5) (T := TX5) (N := 12) 0 C rfl klX5 (Nat.le_of_ble_eq_true rfl) kX8_82 rfl dX8_tryPoint_10 ex23 ?_
  replace e := ob e
  obtain ⟨_, eo24, e⟩ := e
  replace e := ob e
  obtain ⟨h25, eh25, e⟩ := e
  refine j_callV (ci := 4) (RC := RX4) (T := TX4) (N := 3) (As := [.int l1, .int l2, .int x23]) (b := x21) (na := 3) (st := []) (k1 := 0) (n1 := 0) C hr (sX4_moveTo eh25) rfl eo24 kX8_96 kim_X4_moveTo ksel_X4_moveTo kini_X4 kc_X4_moveTo (by decide) rfl ⟨(Nat.le_of_ble_eq_true rfl), (Nat.le_of_ble_eq_true rfl)⟩ (Nat.le_of_ble_eq_true rfl) ⟨rfl, rfl, (Nat.le_of_ble_eq_true rfl), (Nat.le_of_ble_eq_true rfl)⟩ dX8_tryPoint_13 ?_
  rintro _ _ ⟨rfl, rfl⟩
  show jx_J X 0 0 16 [(0, .ref l0), (1, .int l1), (2, .int l2)] [] h25
  refine j_aload_n C dX8_tryPoint_16 rfl rfl ?_
  replace e := ob e
  obtain ⟨x26, ex26, e⟩ := e
  refine j_geti (ci := 8) (RC := RX8) (T := TX8) (N := 15) 13 C rfl klX8 (Nat.le_of_ble_eq_true rfl) kX8_70 rfl dX8_tryPoint_17 ex26 ?_
  refine j_bipush (v := (12 : Int32)) C dX8_tryPoint_20 (by decide) ?_
  refine j_icmp_ge (tgt := 69) C dX8_tryPoint_22 (by decide) (fun c40 => ?_) (fun c40 => ?_)
  · replace e := ifp c40 e
    cases e
    exact j_vret C hq dX8_tryPoint_69 ⟨Nat.le_of_ble_eq_true rfl, Nat.le_of_ble_eq_true rfl⟩ ⟨rfl, rfl⟩
  · replace e := ifn c40 e
    refine j_aload_n C dX8_tryPoint_25 rfl rfl ?_
    replace e := ob e
    obtain ⟨x27, ex27, e⟩ := e
    refine j_getr (ci := 8) (RC := RX8) (T := TX8) (N := 15) 2 C rfl klX8 (Nat.le_of_ble_eq_true rfl) kX8_59 rfl dX8_tryPoint_26 ex27 ?_
    refine j_aload_n C dX8_tryPoint_29 rfl rfl ?_
    replace e := ob e
    obtain ⟨x28, ex28, e⟩ := e
    refine j_getr (ci := 8) (RC := RX8) (T := TX8) (N := 15) 0 C rfl klX8 (Nat.le_of_ble_eq_true rfl) kX8_51 rfl dX8_tryPoint_30 ex28 ?_
    replace e := ob e
    obtain ⟨_, eo29, e⟩ := e
    replace e := ob e
    obtain ⟨x30, ex30, e⟩ := e
    refine j_callV (ci := 4) (RC := RX4) (T := TX4) (N := 3) (As := [.ref x28]) (b := x27) (na := 1) (st := []) (k1 := 0) (n1 := 0) C hr (sX4_isZeroOf ex30) rfl eo29 kX8_102 kim_X4_isZeroOf ksel_X4_isZeroOf kini_X4 kc_X4_isZeroOf (by decide) rfl ⟨(Nat.le_of_ble_eq_true rfl), (Nat.le_of_ble_eq_true rfl)⟩ (Nat.le_of_ble_eq_true rfl) ⟨rfl, rfl, (Nat.le_of_ble_eq_true rfl), (Nat.le_of_ble_eq_true rfl)⟩ dX8_tryPoint_33 ?_
    rintro _ _ ⟨rfl, rfl⟩
    show jx_J X 0 0 36 [(0, .ref l0), (1, .int l1), (2, .int l2)] [.int x30] h25
    refine j_if_eq (tgt := 69) C dX8_tryPoint_36 (by decide) (fun c39 => ?_) (fun c39 => ?_)
    · replace e := ifp c39 e
      cases e
      exact j_vret C hq dX8_tryPoint_69 ⟨Nat.le_of_ble_eq_true rfl, Nat.le_of_ble_eq_true rfl⟩ ⟨rfl, rfl⟩
    · replace e := ifn c39 e
      refine j_aload_n C dX8_tryPoint_39 rfl rfl ?_
      replace e := ob e
      obtain ⟨x31, ex31, e⟩ := e
      refine j_getr (ci := 8) (RC := RX8) (T := TX8) (N := 15) 5 C rfl klX8 (Nat.le_of_ble_eq_true rfl) kX8_18 rfl dX8_tryPoint_40 ex31 ?_
      refine j_aload_n C dX8_tryPoint_43 rfl rfl ?_
      replace e := ob e
      obtain ⟨x32, ex32, e⟩ := e
      refine j_geti (ci := 8) (RC := RX8) (T := TX8) (N := 15) 13 C rfl klX8 (Nat.le_of_ble_eq_true rfl) kX8_70 rfl dX8_tryPoint_44 ex32 ?_
      refine j_iload_n C dX8_tryPoint_47 rfl rfl ?_
      replace e := ob e
      obtain ⟨h33, eh33, e⟩ := e
      refine j_iast C dX8_tryPoint_48 eh33 ?_
      refine j_aload_n C dX8_tryPoint_49 rfl rfl ?_
      replace e := ob e
      obtain ⟨x34, ex34, e⟩ := e
      refine j_getr (ci := 8) (RC := RX8) (T := TX8) (N := 15) 6 C rfl klX8 (Nat.le_of_ble_eq_true rfl) kX8_22 rfl dX8_tryPoint_50 ex34 ?_
      refine j_aload_n C dX8_tryPoint_53 rfl rfl ?_
      replace e := ob e
      obtain ⟨x35, ex35, e⟩ := e
      refine j_geti (ci := 8) (RC := RX8) (T := TX8) (N := 15) 13 C rfl klX8 (Nat.le_of_ble_eq_true rfl) kX8_70 rfl dX8_tryPoint_54 ex35 ?_
      refine j_iload_n C dX8_tryPoint_57 rfl rfl ?_
      replace e := ob e
      obtain ⟨h36, eh36, e⟩ := e
      refine j_iast C dX8_tryPoint_58 eh36 ?_
      refine j_aload_n C dX8_tryPoint_59 rfl rfl ?_
      refine j_dup C dX8_tryPoint_60 rfl ?_
      replace e := ob e
      obtain ⟨x37, ex37, e⟩ := e
      refine j_geti (ci := 8) (RC := RX8) (T := TX8) (N := 15) 13 C rfl klX8 (Nat.le_of_ble_eq_true rfl) kX8_70 rfl dX8_tryPoint_61 ex37 ?_
      refine j_iconst (v := (1 : Int32)) C dX8_tryPoint_64 (by decide) ?_
      refine j_iadd C dX8_tryPoint_65 ?_
      replace e := ob e
      obtain ⟨h38, eh38, e⟩ := e
      refine j_put (ci := 8) (RC := RX8) (T := TX8) (N := 15) (ty0 := tyX8) 13 C rfl klX8 tyX8_ok nmX8 (Nat.le_of_ble_eq_true rfl) kX8_70 rfl rfl rfl rfl dX8_tryPoint_66 eh38 ?_
      cases e
      exact j_vret C hq dX8_tryPoint_69 ⟨Nat.le_of_ble_eq_true rfl, Nat.le_of_ble_eq_true rfl⟩ ⟨rfl, rfl⟩
/-! BorderBasis$Zeros.find()V -/
noncomputable def BX8_find_118 (l0 : Nat) (h : jx_H) : Option (jx_H) :=
(hgr h l0 8 7).bind fun x1 =>
(FJ7_fill_53178 x1 (-1 : Int32) h).bind fun h2 =>
(hp h2 l0 8 12 (.int (1 : Int32))).bind fun h3 =>
some h3
noncomputable def BX8_find_112 (l0 : Nat) (l1 : Int32) (h : jx_H) : Option ((Int32 × jx_H) ⊕ (jx_H)) :=
some (.inl ((l1 + (1 : Int32)), h))
noncomputable def BX8_find_106 (l0 : Nat) (l1 : Int32) (l2 : Int32) (h : jx_H) : Option ((Int32 × jx_H) ⊕ ((Int32 × jx_H) ⊕ (jx_H))) :=
some (.inl ((l2 + (1 : Int32)), h))
noncomputable def LX8_find_65 (l0 : Nat) (l1 : Int32) (l2 : Int32) (h : jx_H) : Option ((Int32 × jx_H) ⊕ ((Int32 × jx_H) ⊕ (jx_H))) :=
(hgr h l0 8 3).bind fun x19 =>
(hal h .boolean x19 l1).bind fun x20 =>
if x20 = 0 then
 exL (BX8_find_112 l0 l1 h)
else
 (hgr h l0 8 0).bind fun x21 =>
 (hgi h x21 5 0).bind fun x22 =>
 if x22 ≤ l2 then
  exL (BX8_find_112 l0 l1 h)
 else
  if (97 : Int32) ≤ l2 then
   exL (BX8_find_112 l0 l1 h)
  else
   (hgr h l0 8 4).bind fun x23 =>
   (hal h .boolean x23 l2).bind fun x24 =>
   if x24 = 0 then
    BX8_find_106 l0 l1 l2 h
   else
    (isO h l0 8).bind fun _ =>
    (FX8_tryPoint l0 l1 l2 h).bind fun h26 =>
    BX8_find_106 l0 l1 l2 h26
noncomputable def LX8_find_46 (l0 : Nat) (l1 : Int32) (h : jx_H) : Option ((Int32 × jx_H) ⊕ (jx_H)) :=
(hgr h l0 8 0).bind fun x17 =>
(hgi h x17 5 0).bind fun x18 =>
if x18 ≤ l1 then
 exL (BX8_find_118 l0 h)
else
 if (97 : Int32) ≤ l1 then
  exL (BX8_find_118 l0 h)
 else
  itr (fun s : Int32 × jx_H => LX8_find_65 l0 l1 s.1 s.2) ((0 : Int32), h)
noncomputable def FX8_find (l0 : Nat) (h : jx_H) : Option (jx_H) :=
(hgi h l0 8 12).bind fun x4 =>
if x4 = 0 then
 (hgr h l0 8 1).bind fun x5 =>
 (isO h x5 6).bind fun _ =>
 (FX6_prepare x5 h).bind fun h7 =>
 (hgr h7 l0 8 1).bind fun x8 =>
 (hgr h7 l0 8 3).bind fun x9 =>
 (isO h7 x8 6).bind fun _ =>
 (FX6_markRoots x8 (0 : Int32) x9 h7).bind fun h11 =>
 (hgr h11 l0 8 1).bind fun x12 =>
 (hgr h11 l0 8 4).bind fun x13 =>
 (isO h11 x12 6).bind fun _ =>
 (FX6_markRoots x12 (1 : Int32) x13 h11).bind fun h15 =>
 (hp h15 l0 8 13 (.int (0 : Int32))).bind fun h16 =>
 itr (fun s : Int32 × jx_H => LX8_find_46 l0 s.1 s.2) ((0 : Int32), h16)
else
 some h
def rmX8_find : Room := { frames := 5, cells := 0, slots := 0, locals := 123 }
set_option maxRecDepth 20000 in
set_option maxHeartbeats 4000000 in
theorem sX8_find {l0 : Nat} {h : jx_H} {h9 : jx_H} (e : FX8_find l0 h = some h9) : jx_Ct yX8_find cX8_find 3 none rmX8_find [.ref l0] h (fun r' h' => none = r' ∧ h9 = h') := by
  refine jx_Ct.of (own := RX8) (by decide) rfl (Nat.le_of_ble_eq_true rfl) (fun X C hq hr hL hN => ?_)
  refine jx_sub (lv' := [(0, .ref l0)]) [0] rfl ?_
  have b118 : ∀ (y34 : Nat) (h35 : jx_H), BX8_find_118 y34 h35 = some h9 → jx_J X 0 0 118 [(0, .ref y34)] [] h35 := by
    intro y34 h35 e
    unfold BX8_find_118 at e
    refine j_aload_n C dX8_find_118 rfl rfl ?_
    replace e := ob e
    obtain ⟨x36, ex36, e⟩ := e
    refine j_getr (ci := 8) (RC := RX8) (T := TX8) (N := 15) 7 C rfl klX8 (Nat.le_of_ble_eq_true rfl) kX8_25 rfl dX8_find_119 ex36 ?_
    refine j_iconst (v := (-1 : Int32)) C dX8_find_122 (by decide) ?_
    replace e := ob e
    obtain ⟨h37, eh37, e⟩ := e
    refine j_callS (As := [.ref x36, .int (-1 : Int32)]) (na := 2) (st := []) (k1 := 0) (n1 := 0) C hr (sJ7_fill_53178 eh37) kX8_90 kst_J7_fill_53178 kini_J7 kc_J7_fill_53178 (by decide) rfl ⟨(Nat.le_of_ble_eq_true rfl), (Nat.le_of_ble_eq_true rfl)⟩ (Nat.le_of_ble_eq_true rfl) ⟨rfl, rfl, (Nat.le_of_ble_eq_true rfl), (Nat.le_of_ble_eq_true rfl)⟩ dX8_find_123 ?_
    rintro _ _ ⟨rfl, rfl⟩
    show jx_J X 0 0 126 [(0, .ref y34)] [] h37
    refine j_aload_n C dX8_find_126 rfl rfl ?_
    refine j_iconst (v := (1 : Int32)) C dX8_find_127 (by decide) ?_
    replace e := ob e
    obtain ⟨h38, eh38, e⟩ := e
    refine j_put (ci := 8) (RC := RX8) (T := TX8) (N := 15) (ty0 := tyX8) 12 C rfl klX8 tyX8_ok nmX8 (Nat.le_of_ble_eq_true rfl) kX8_63 rfl rfl rfl rfl dX8_find_128 eh38 ?_
    cases e
    exact j_vret C hq dX8_find_131 ⟨Nat.le_of_ble_eq_true rfl, Nat.le_of_ble_eq_true rfl⟩ ⟨rfl, rfl⟩
  unfold FX8_find at e
  refine j_aload_n C dX8_find_0 rfl rfl ?_
  replace e := ob e
  obtain ⟨x39, ex39, e⟩ := e
  refine j_geti (ci := 8) (RC := RX8) (T := TX8) (N := 15) 12 C rfl klX8 (Nat.le_of_ble_eq_true rfl) kX8_63 rfl dX8_find_1 ex39 ?_
  refine j_if_eq (tgt := 8) C dX8_find_4 (by decide) (fun c76 => ?_) (fun c76 => ?_)
  · replace e := ifp c76 e
    refine j_aload_n C dX8_find_8 rfl rfl ?_
    replace e := ob e
    obtain ⟨x40, ex40, e⟩ := e
    refine j_getr (ci := 8) (RC := RX8) (T := TX8) (N := 15) 1 C rfl klX8 (Nat.le_of_ble_eq_true rfl) kX8_55 rfl dX8_find_9 ex40 ?_
    replace e := ob e
    obtain ⟨_, eo41, e⟩ := e
    replace e := ob e
    obtain ⟨h42, eh42, e⟩ := e
    refine j_callV (ci := 6) (RC := RX6) (T := TX6) (N := 17) (As := []) (b := x40) (na := 0) (st := []) (k1 := 0) (n1 := 0) C hr (sX6_prepare eh42) rfl eo41 kX8_73 kim_X6_prepare ksel_X6_prepare kini_X6 kc_X6_prepare (by decide) rfl ⟨(Nat.le_of_ble_eq_true rfl), (Nat.le_of_ble_eq_true rfl)⟩ (Nat.le_of_ble_eq_true rfl) ⟨rfl, rfl, (Nat.le_of_ble_eq_true rfl), (Nat.le_of_ble_eq_true rfl)⟩ dX8_find_12 ?_
    rintro _ _ ⟨rfl, rfl⟩
    show jx_J X 0 0 15 [(0, .ref l0)] [] h42
    refine j_aload_n C dX8_find_15 rfl rfl ?_
    replace e := ob e
    obtain ⟨x43, ex43, e⟩ := e
    refine j_getr (ci := 8) (RC := RX8) (T := TX8) (N := 15) 1 C rfl klX8 (Nat.le_of_ble_eq_true rfl) kX8_55 rfl dX8_find_16 ex43 ?_
    refine j_iconst (v := (0 : Int32)) C dX8_find_19 (by decide) ?_
    refine j_aload_n C dX8_find_20 rfl rfl ?_
    replace e := ob e
    obtain ⟨x44, ex44, e⟩ := e
    refine j_getr (ci := 8) (RC := RX8) (T := TX8) (N := 15) 3 C rfl klX8 (Nat.le_of_ble_eq_true rfl) kX8_9 rfl dX8_find_21 ex44 ?_
    replace e := ob e
    obtain ⟨_, eo45, e⟩ := e
    replace e := ob e
    obtain ⟨h46, eh46, e⟩ := e
    refine j_callV (ci := 6) (RC := RX6) (T := TX6) (N := 17) (As := [.int (0 : Int32), .ref x44]) (b := x43) (na := 2) (st := []) (k1 := 0) (n1 := 0) C hr (sX6_markRoots eh46) rfl eo45 kX8_78 kim_X6_markRoots ksel_X6_markRoots kini_X6 kc_X6_markRoots (by decide) rfl ⟨(Nat.le_of_ble_eq_true rfl), (Nat.le_of_ble_eq_true rfl)⟩ (Nat.le_of_ble_eq_true rfl) ⟨rfl, rfl, (Nat.le_of_ble_eq_true rfl), (Nat.le_of_ble_eq_true rfl)⟩ dX8_find_24 ?_
    rintro _ _ ⟨rfl, rfl⟩
    show jx_J X 0 0 27 [(0, .ref l0)] [] h46
    refine j_aload_n C dX8_find_27 rfl rfl ?_
    replace e := ob e
    obtain ⟨x47, ex47, e⟩ := e
    refine j_getr (ci := 8) (RC := RX8) (T := TX8) (N := 15) 1 C rfl klX8 (Nat.le_of_ble_eq_true rfl) kX8_55 rfl dX8_find_28 ex47 ?_
    refine j_iconst (v := (1 : Int32)) C dX8_find_31 (by decide) ?_
    refine j_aload_n C dX8_find_32 rfl rfl ?_
    replace e := ob e
    obtain ⟨x48, ex48, e⟩ := e
    refine j_getr (ci := 8) (RC := RX8) (T := TX8) (N := 15) 4 C rfl klX8 (Nat.le_of_ble_eq_true rfl) kX8_15 rfl dX8_find_33 ex48 ?_
    replace e := ob e
    obtain ⟨_, eo49, e⟩ := e
    replace e := ob e
    obtain ⟨h50, eh50, e⟩ := e
    refine j_callV (ci := 6) (RC := RX6) (T := TX6) (N := 17) (As := [.int (1 : Int32), .ref x48]) (b := x47) (na := 2) (st := []) (k1 := 0) (n1 := 0) C hr (sX6_markRoots eh50) rfl eo49 kX8_78 kim_X6_markRoots ksel_X6_markRoots kini_X6 kc_X6_markRoots (by decide) rfl ⟨(Nat.le_of_ble_eq_true rfl), (Nat.le_of_ble_eq_true rfl)⟩ (Nat.le_of_ble_eq_true rfl) ⟨rfl, rfl, (Nat.le_of_ble_eq_true rfl), (Nat.le_of_ble_eq_true rfl)⟩ dX8_find_36 ?_
    rintro _ _ ⟨rfl, rfl⟩
    show jx_J X 0 0 39 [(0, .ref l0)] [] h50
    refine j_aload_n C dX8_find_39 rfl rfl ?_
    refine j_iconst (v := (0 : Int32)) C dX8_find_40 (by decide) ?_
    replace e := ob e
    obtain ⟨h51, eh51, e⟩ := e
    refine j_put (ci := 8) (RC := RX8) (T := TX8) (N := 15) (ty0 := tyX8) 13 C rfl klX8 tyX8_ok nmX8 (Nat.le_of_ble_eq_true rfl) kX8_70 rfl rfl rfl rfl dX8_find_41 eh51 ?_
    refine j_iconst (v := (0 : Int32)) C dX8_find_44 (by decide) ?_
    refine j_istore_n (lv1 := [(1, .int (0 : Int32)), (0, .ref l0)]) C hL dX8_find_45 rfl (Nat.le_of_ble_eq_true rfl) rfl ?_
    refine jx_sub (lv' := [(0, .ref l0), (1, .int (0 : Int32))]) [1, 0] rfl ?_
    refine itr_ind (s0 := ((0 : Int32), h51)) (fun s : Int32 × jx_H => jx_J X 0 0 46 [(0, .ref l0), (1, .int s.1)] [] s.2) e ?_
    clear e
    intro s kI6 kT6 e0
    obtain ⟨z52, h53⟩ := s
    obtain ⟨u6, e0_6⟩ := e0
    have e : LX8_find_46 l0 z52 h53 = some u6 := e0_6
    have b112 : ∀ (y54 : Int32) (h55 : jx_H), BX8_find_112 l0 y54 h55 = some u6 → jx_J X 0 0 112 [(0, .ref l0), (1, .int y54)] [] h55 := by
      intro y54 h55 e
      unfold BX8_find_112 at e
      refine j_iinc (v := (y54 + (1 : Int32))) (lv1 := [(1, .int (y54 + (1 : Int32))), (0, .ref l0)]) C hL dX8_find_112 rfl rfl (Nat.le_of_ble_eq_true rfl) rfl ?_
      refine j_goto (tgt := 46) C dX8_find_115 (by decide) ?_
      obtain rfl := Option.some.inj e
      refine jx_sub (lv' := [(0, .ref l0), (1, .int (y54 + (1 : Int32)))]) [1, 0] rfl ?_
      exact kI6 ((y54 + (1 : Int32)), h55) e0_6
    unfold LX8_find_46 at e
    refine j_iload_n C dX8_find_46 rfl rfl ?_
    refine j_aload_n C dX8_find_47 rfl rfl ?_
    replace e := ob e
    obtain ⟨x56, ex56, e⟩ := e
    refine j_getr (ci := 8) (RC := RX8) (T := TX8) (N := 15) 0 C rfl klX8 (Nat.le_of_ble_eq_true rfl) kX8_51 rfl dX8_find_48 ex56 ?_
    replace e := ob e
    obtain ⟨x57, ex57, e⟩ := e
    refine j_geti (ci := 5) (RC := RX5) (T := TX5) (N := 12) 0 C rfl klX5 (Nat.le_of_ble_eq_true rfl) kX8_82 rfl dX8_find_51 ex57 ?_
    refine j_icmp_ge (tgt := 118) C dX8_find_54 (by decide) (fun c75 => ?_) (fun c75 => ?_)
    · replace e := ifp c75 e
      obtain ⟨t_7, e_7, eu_7⟩ := exL_spec e
      obtain rfl := kT6 t_7 (e0_6.trans (congrArg some eu_7))
      replace e := e_7
      refine jx_sub (lv' := [(0, .ref l0)]) [0] rfl ?_
      exact b118 l0 h53 e
    · replace e := ifn c75 e
      refine j_iload_n C dX8_find_57 rfl rfl ?_
      refine j_bipush (v := (97 : Int32)) C dX8_find_58 (by decide) ?_
      refine j_icmp_ge (tgt := 118) C dX8_find_60 (by decide) (fun c74 => ?_) (fun c74 => ?_)
      · replace e := ifp c74 e
        obtain ⟨t_8, e_8, eu_8⟩ := exL_spec e
        obtain rfl := kT6 t_8 (e0_6.trans (congrArg some eu_8))
        replace e := e_8
        refine jx_sub (lv' := [(0, .ref l0)]) [0] rfl ?_
        exact b118 l0 h53 e
      · replace e := ifn c74 e
        refine j_iconst (v := (0 : Int32)) C dX8_find_63 (by decide) ?_
        refine j_istore_n (lv1 := [(2, .int (0 : Int32)), (0, .ref l0), (1, .int z52)]) C hL dX8_find_64 rfl (Nat.le_of_ble_eq_true rfl) rfl ?_
        refine jx_sub (lv' := [(0, .ref l0), (1, .int z52), (2, .int (0 : Int32))]) [1, 2, 0] rfl ?_
        refine itr_ind (s0 := ((0 : Int32), h53)) (fun s : Int32 × jx_H => jx_J X 0 0 65 [(0, .ref l0), (1, .int z52), (2, .int s.1)] [] s.2) e ?_
        clear e
        intro s kI9 kT9 e0
        obtain ⟨z58, h59⟩ := s
        obtain ⟨u9, e0_9⟩ := e0
        have e : LX8_find_65 l0 z52 z58 h59 = some u9 := e0_9
        have b106 : ∀ (y60 : Int32) (h61 : jx_H), BX8_find_106 l0 z52 y60 h61 = some u9 → jx_J X 0 0 106 [(0, .ref l0), (1, .int z52), (2, .int y60)] [] h61 := by
          intro y60 h61 e
          unfold BX8_find_106 at e
          refine j_iinc (v := (y60 + (1 : Int32))) (lv1 := [(2, .int (y60 + (1 : Int32))), (0, .ref l0), (1, .int z52)]) C hL dX8_find_106 rfl rfl (Nat.le_of_ble_eq_true rfl) rfl ?_
          refine j_goto (tgt := 65) C dX8_find_109 (by decide) ?_
          obtain rfl := Option.some.inj e
          refine jx_sub (lv' := [(0, .ref l0), (1, .int z52), (2, .int (y60 + (1 : Int32)))]) [1, 2, 0] rfl ?_
          exact kI9 ((y60 + (1 : Int32)), h61) e0_9
        unfold LX8_find_65 at e
        refine j_aload_n C dX8_find_65 rfl rfl ?_
        replace e := ob e
        obtain ⟨x62, ex62, e⟩ := e
        refine j_getr (ci := 8) (RC := RX8) (T := TX8) (N := 15) 3 C rfl klX8 (Nat.le_of_ble_eq_true rfl) kX8_9 rfl dX8_find_66 ex62 ?_
        refine j_iload_n C dX8_find_69 rfl rfl ?_
        replace e := ob e
        obtain ⟨x63, ex63, e⟩ := e
        refine j_zald C dX8_find_70 ex63 ?_
        refine j_if_eq (tgt := 112) C dX8_find_71 (by decide) (fun c73 => ?_) (fun c73 => ?_)
        · replace e := ifp c73 e
          obtain ⟨t_10, e_10, eu_10⟩ := exL_spec e
          obtain rfl := kT9 t_10 (e0_9.trans (congrArg some eu_10))
          replace e := e_10
          refine jx_sub (lv' := [(0, .ref l0), (1, .int z52)]) [0, 1] rfl ?_
          exact b112 z52 h59 e
        · replace e := ifn c73 e
          refine j_iload_n C dX8_find_74 rfl rfl ?_
          refine j_aload_n C dX8_find_75 rfl rfl ?_
          replace e := ob e
          obtain ⟨x64, ex64, e⟩ := e
          refine j_getr (ci := 8) (RC := RX8) (T := TX8) (N := 15) 0 C rfl klX8 (Nat.le_of_ble_eq_true rfl) kX8_51 rfl dX8_find_76 ex64 ?_
          replace e := ob e
          obtain ⟨x65, ex65, e⟩ := e
          refine j_geti (ci := 5) (RC := RX5) (T := TX5) (N := 12) 0 C rfl klX5 (Nat.le_of_ble_eq_true rfl) kX8_82 rfl dX8_find_79 ex65 ?_
          refine j_icmp_ge (tgt := 112) C dX8_find_82 (by decide) (fun c72 => ?_) (fun c72 => ?_)
          · replace e := ifp c72 e
            obtain ⟨t_11, e_11, eu_11⟩ := exL_spec e
            obtain rfl := kT9 t_11 (e0_9.trans (congrArg some eu_11))
            replace e := e_11
            refine jx_sub (lv' := [(0, .ref l0), (1, .int z52)]) [0, 1] rfl ?_
            exact b112 z52 h59 e
          · replace e := ifn c72 e
            refine j_iload_n C dX8_find_85 rfl rfl ?_
            refine j_bipush (v := (97 : Int32)) C dX8_find_86 (by decide) ?_
            refine j_icmp_ge (tgt := 112) C dX8_find_88 (by decide) (fun c71 => ?_) (fun c71 => ?_)
            · replace e := ifp c71 e
              obtain ⟨t_12, e_12, eu_12⟩ := exL_spec e
              obtain rfl := kT9 t_12 (e0_9.trans (congrArg some eu_12))
              replace e := e_12
              refine jx_sub (lv' := [(0, .ref l0), (1, .int z52)]) [0, 1] rfl ?_
              exact b112 z52 h59 e
            · replace e := ifn c71 e
              refine j_aload_n C dX8_find_91 rfl rfl ?_
              replace e := ob e
              obtain ⟨x66, ex66, e⟩ := e
              refine j_getr (ci := 8) (RC := RX8) (T := TX8) (N := 15) 4 C rfl klX8 (Nat.le_of_ble_eq_true rfl) kX8_15 rfl dX8_find_92 ex66 ?_
              refine j_iload_n C dX8_find_95 rfl rfl ?_
              replace e := ob e
              obtain ⟨x67, ex67, e⟩ := e
              refine j_zald C dX8_find_96 ex67 ?_
              refine j_if_eq (tgt := 106) C dX8_find_97 (by decide) (fun c70 => ?_) (fun c70 => ?_)
              · replace e := ifp c70 e
                exact b106 z58 h59 e
              · replace e := ifn c70 e
                refine j_aload_n C dX8_find_100 rfl rfl ?_
                refine j_iload_n C dX8_find_101 rfl rfl ?_
                refine j_iload_n C dX8_find_102 rfl rfl ?_
                replace e := ob e
                obtain ⟨_, eo68, e⟩ := e
                replace e := ob e
                obtain ⟨h69, eh69, e⟩ := e
                refine j_callV (ci := 8) (RC := RX8) (T := TX8) (N := 15) (As := [.int z52, .int z58]) (b := l0) (na := 2) (st := []) (k1 := 0) (n1 := 0) C hr (sX8_tryPoint eh69) rfl eo68 kX8_87 kim_X8_tryPoint ksel_X8_tryPoint kini_X8 kc_X8_tryPoint (by decide) rfl ⟨(Nat.le_of_ble_eq_true rfl), (Nat.le_of_ble_eq_true rfl)⟩ (Nat.le_of_ble_eq_true rfl) ⟨rfl, rfl, (Nat.le_of_ble_eq_true rfl), (Nat.le_of_ble_eq_true rfl)⟩ dX8_find_103 ?_
                rintro _ _ ⟨rfl, rfl⟩
                show jx_J X 0 0 106 [(0, .ref l0), (1, .int z52), (2, .int z58)] [] h69
                exact b106 z58 h69 e
  · replace e := ifn c76 e
    cases e
    exact j_vret C hq dX8_find_7 ⟨Nat.le_of_ble_eq_true rfl, Nat.le_of_ble_eq_true rfl⟩ ⟨rfl, rfl⟩
/-! BorderBasis$Zeros.number()I -/
noncomputable def FX8_number (l0 : Nat) (h : jx_H) : Option (Int32 × jx_H) :=
(isO h l0 8).bind fun _ =>
(FX8_find l0 h).bind fun h2 =>
(hgi h2 l0 8 13).bind fun x3 =>
some (x3, h2)
def rmX8_number : Room := { frames := 6, cells := 0, slots := 0, locals := 145 }
set_option maxRecDepth 20000 in
set_option maxHeartbeats 4000000 in
theorem sX8_number {l0 : Nat} {h : jx_H} {r : Int32} {h9 : jx_H} (e : FX8_number l0 h = some (r, h9)) : jx_Ct yX8_number cX8_number 1 (some .int) rmX8_number [.ref l0] h (fun r' h' => some (.int r) = r' ∧ h9 = h') := by
  refine jx_Ct.of (own := RX8) (by decide) rfl (Nat.le_of_ble_eq_true rfl) (fun X C hq hr hL hN => ?_)
  refine jx_sub (lv' := [(0, .ref l0)]) [0] rfl ?_
  unfold FX8_number at e
  refine j_aload_n C dX8_number_0 rfl rfl ?_
  replace e := ob e
  obtain ⟨_, eo4, e⟩ := e
  replace e := ob e
  obtain ⟨h5, eh5, e⟩ := e
  refine j_callV (ci := 8) (RC := RX8) (T := TX8) (N := 15) (As := []) (b := l0) (na := 0) (st := []) (k1 := 0) (n1 := 0) C hr (sX8_find eh5) rfl eo4 kX8_67 kim_X8_find ksel_X8_find kini_X8 kc_X8_find (by decide) rfl ⟨(Nat.le_of_ble_eq_true rfl), (Nat.le_of_ble_eq_true rfl)⟩ (Nat.le_of_ble_eq_true rfl) ⟨rfl, rfl, (Nat.le_of_ble_eq_true rfl), (Nat.le_of_ble_eq_true rfl)⟩ dX8_number_1 ?_
  rintro _ _ ⟨rfl, rfl⟩
  show jx_J X 0 0 4 [(0, .ref l0)] [] h5
  refine j_aload_n C dX8_number_4 rfl rfl ?_
  replace e := ob e
  obtain ⟨x6, ex6, e⟩ := e
  refine j_geti (ci := 8) (RC := RX8) (T := TX8) (N := 15) 13 C rfl klX8 (Nat.le_of_ble_eq_true rfl) kX8_70 rfl dX8_number_5 ex6 ?_
  cases e
  exact j_iret C hq rfl dX8_number_8 ⟨Nat.le_of_ble_eq_true rfl, Nat.le_of_ble_eq_true rfl⟩ ⟨rfl, rfl⟩
/-! BorderBasis$Zeros.indexOf(II)I -/
noncomputable def BX8_indexOf_36 (l0 : Nat) (l1 : Int32) (l2 : Int32) (l3 : Int32) (h : jx_H) : Option ((Int32) ⊕ (Int32 × jx_H)) :=
some (.inl (l3 + (1 : Int32)))
noncomputable def LX8_indexOf_6 (l0 : Nat) (l1 : Int32) (l2 : Int32) (l3 : Int32) (h : jx_H) : Option ((Int32) ⊕ (Int32 × jx_H)) :=
(hgi h l0 8 13).bind fun x3 =>
if x3 ≤ l3 then
 exL (some ((-1 : Int32), h))
else
 (hgr h l0 8 5).bind fun x4 =>
 (hal h .int x4 l3).bind fun x5 =>
 if x5 = l1 then
  (hgr h l0 8 6).bind fun x6 =>
  (hal h .int x6 l3).bind fun x7 =>
  if x7 = l2 then
   exL (some (l3, h))
  else
   BX8_indexOf_36 l0 l1 l2 l3 h
 else
  BX8_indexOf_36 l0 l1 l2 l3 h
noncomputable def FX8_indexOf (l0 : Nat) (l1 : Int32) (l2 : Int32) (h : jx_H) : Option (Int32 × jx_H) :=
(isO h l0 8).bind fun _ =>
(FX8_find l0 h).bind fun h2 =>
itr (fun s : Int32 => LX8_indexOf_6 l0 l1 l2 s h2) (0 : Int32)
def rmX8_indexOf : Room := { frames := 6, cells := 0, slots := 0, locals := 145 }
set_option maxRecDepth 20000 in
set_option maxHeartbeats 4000000 in
theorem sX8_indexOf {l0 : Nat} {l1 : Int32} {l2 : Int32} {h : jx_H} {r : Int32} {h9 : jx_H} (e : FX8_indexOf l0 l1 l2 h = some (r, h9)) : jx_Ct yX8_indexOf cX8_indexOf 4 (some .int) rmX8_indexOf [.ref l0, .int l1, .int l2] h (fun r' h' => some (.int r) = r' ∧ h9 = h') := by
  refine jx_Ct.of (own := RX8) (by decide) rfl (Nat.le_of_ble_eq_true rfl) (fun X C hq hr hL hN => ?_)
  refine jx_sub (lv' := [(0, .ref l0), (1, .int l1), (2, .int l2)]) [0, 1, 2] rfl ?_
  unfold FX8_indexOf at e
  refine j_aload_n C dX8_indexOf_0 rfl rfl ?_
  replace e := ob e
  obtain ⟨_, eo11, e⟩ := e
  replace e := ob e
  obtain ⟨h12, eh12, e⟩ := e
  refine j_callV (ci := 8) (RC := RX8) (T := TX8) (N := 15) (As := []) (b := l0) (na := 0) (st := []) (k1 := 0) (n1 := 0) C hr (sX8_find eh12) rfl eo11 kX8_67 kim_X8_find ksel_X8_find kini_X8 kc_X8_find (by decide) rfl ⟨(Nat.le_of_ble_eq_true rfl), (Nat.le_of_ble_eq_true rfl)⟩ (Nat.le_of_ble_eq_true rfl) ⟨rfl, rfl, (Nat.le_of_ble_eq_true rfl), (Nat.le_of_ble_eq_true rfl)⟩ dX8_indexOf_1 ?_
  rintro _ _ ⟨rfl, rfl⟩
  show jx_J X 0 0 4 [(0, .ref l0), (1, .int l1), (2, .int l2)] [] h12
  refine j_iconst (v := (0 : Int32)) C dX8_indexOf_4 (by decide) ?_
  refine j_istore_n (lv1 := [(3, .int (0 : Int32)), (0, .ref l0), (1, .int l1), (2, .int l2)]) C hL dX8_indexOf_5 rfl (Nat.le_of_ble_eq_true rfl) rfl ?_
  refine jx_sub (lv' := [(0, .ref l0), (1, .int l1), (2, .int l2), (3, .int (0 : Int32))]) [1, 2, 3, 0] rfl ?_
  refine itr_ind (s0 := (0 : Int32)) (fun s : Int32 => jx_J X 0 0 6 [(0, .ref l0), (1, .int l1), (2, .int l2), (3, .int s)] [] h12) e ?_
  clear e
  intro s kI3 kT3 e0
  obtain ⟨z13, es⟩ : ∃ z, z = s := ⟨_, rfl⟩
  subst es
  obtain ⟨u3, e0_3⟩ := e0
  have e : LX8_indexOf_6 l0 l1 l2 z13 h12 = some u3 := e0_3
  have b36 : ∀ (y14 : Int32), BX8_indexOf_36 l0 l1 l2 y14 h12 = some u3 → jx_J X 0 0 36 [(0, .ref l0), (1, .int l1), (2, .int l2), (3, .int y14)] [] h12 := by
    intro y14 e
    unfold BX8_indexOf_36 at e
    refine j_iinc (v := (y14 + (1 : Int32))) (lv1 := [(3, .int (y14 + (1 : Int32))), (0, .ref l0), (1, .int l1), (2, .int l2)]) C hL dX8_indexOf_36 rfl rfl (Nat.le_of_ble_eq_true rfl) rfl ?_
    refine j_goto (tgt := 6) C dX8_indexOf_39 (by decide) ?_
    obtain rfl := Option.some.inj e
    refine jx_sub (lv' := [(0, .ref l0), (1, .int l1), (2, .int l2), (3, .int (y14 + (1 : Int32)))]) [1, 2, 3, 0] rfl ?_
    exact kI3 (y14 + (1 : Int32)) e0_3
  unfold LX8_indexOf_6 at e
  refine j_iload_n C dX8_indexOf_6 rfl rfl ?_
  refine j_aload_n C dX8_indexOf_7 rfl rfl ?_
  replace e := ob e
  obtain ⟨x15, ex15, e⟩ := e
  refine j_geti (ci := 8) (RC := RX8) (T := TX8) (N := 15) 13 C rfl klX8 (Nat.le_of_ble_eq_true rfl) kX8_70 rfl dX8_indexOf_8 ex15 ?_
  refine j_icmp_ge (tgt := 42) C dX8_indexOf_11 (by decide) (fun c22 => ?_) (fun c22 => ?_)
  · replace e := ifp c22 e
    obtain ⟨t_4, e_4, eu_4⟩ := exL_spec e
    obtain rfl := kT3 t_4 (e0_3.trans (congrArg some eu_4))
    replace e := e_4
    refine j_iconst (v := (-1 : Int32)) C dX8_indexOf_42 (by decide) ?_
    cases e
    exact j_iret C hq rfl dX8_indexOf_43 ⟨Nat.le_of_ble_eq_true rfl, Nat.le_of_ble_eq_true rfl⟩ ⟨rfl, rfl⟩
  · replace e := ifn c22 e
    refine j_aload_n C dX8_indexOf_14 rfl rfl ?_
    replace e := ob e
    obtain ⟨x16, ex16, e⟩ := e
    refine j_getr (ci := 8) (RC := RX8) (T := TX8) (N := 15) 5 C rfl klX8 (Nat.le_of_ble_eq_true rfl) kX8_18 rfl dX8_indexOf_15 ex16 ?_
    refine j_iload_n C dX8_indexOf_18 rfl rfl ?_
    replace e := ob e
    obtain ⟨x17, ex17, e⟩ := e
    refine j_iald C dX8_indexOf_19 ex17 ?_
    refine j_iload_n C dX8_indexOf_20 rfl rfl ?_
    refine j_icmp_ne (tgt := 36) C dX8_indexOf_21 (by decide) (fun c21 => ?_) (fun c21 => ?_)
    · replace e := ifn c21 e
      exact b36 z13 e
    · replace e := ifp c21 e
      refine j_aload_n C dX8_indexOf_24 rfl rfl ?_
      replace e := ob e
      obtain ⟨x18, ex18, e⟩ := e
      refine j_getr (ci := 8) (RC := RX8) (T := TX8) (N := 15) 6 C rfl klX8 (Nat.le_of_ble_eq_true rfl) kX8_22 rfl dX8_indexOf_25 ex18 ?_
      refine j_iload_n C dX8_indexOf_28 rfl rfl ?_
      replace e := ob e
      obtain ⟨x19, ex19, e⟩ := e
      refine j_iald C dX8_indexOf_29 ex19 ?_
      refine j_iload_n C dX8_indexOf_30 rfl rfl ?_
      refine j_icmp_ne (tgt := 36) C dX8_indexOf_31 (by decide) (fun c20 => ?_) (fun c20 => ?_)
      · replace e := ifn c20 e
        exact b36 z13 e
      · replace e := ifp c20 e
        obtain ⟨t_5, e_5, eu_5⟩ := exL_spec e
        obtain rfl := kT3 t_5 (e0_3.trans (congrArg some eu_5))
        replace e := e_5
        refine j_iload_n C dX8_indexOf_34 rfl rfl ?_
        cases e
        exact j_iret C hq rfl dX8_indexOf_35 ⟨Nat.le_of_ble_eq_true rfl, Nat.le_of_ble_eq_true rfl⟩ ⟨rfl, rfl⟩
/-! BorderBasis$Zeros.multiplicityOf(I)I -/
noncomputable def BX8_multiplicityOf_128 (l0 : Nat) (l1 : Int32) (h : jx_H) : Option (Int32 × jx_H) :=
(hgr h l0 8 7).bind fun x1 =>
(hal h .int x1 l1).bind fun x2 =>
some (x2, h)
noncomputable def FX8_multiplicityOf (l0 : Nat) (l1 : Int32) (h : jx_H) : Option (Int32 × jx_H) :=
(hgi h l0 8 13).bind fun x3 =>
(FX9_isOutside l1 (x3 - (1 : Int32)) h).bind fun x4 =>
if x4 = 0 then
 (hgr h l0 8 7).bind fun x5 =>
 (hal h .int x5 l1).bind fun x6 =>
 if x6 = (-1 : Int32) then
  (hgr h l0 8 0).bind fun x7 =>
  (hgi h x7 5 2).bind fun x8 =>
  (hgr h l0 8 9).bind fun x9 =>
  (isO h x9 2).bind fun _ =>
  (FX2_clear x9 ((2 : Int32) * x8) x8 h).bind fun h11 =>
  (hgr h11 l0 8 1).bind fun x12 =>
  (hgr h11 l0 8 8).bind fun x13 =>
  (hgr h11 l0 8 5).bind fun x14 =>
  (hal h11 .int x14 l1).bind fun x15 =>
  (isO h11 x12 6).bind fun _ =>
  (FX6_raise x12 x13 (0 : Int32) x15 x8 h11).bind fun h17 =>
  (hgr h17 l0 8 9).bind fun x18 =>
  (hgr h17 l0 8 8).bind fun x19 =>
  (isO h17 x18 2).bind fun _ =>
  (FX2_copyRows x18 x19 (0 : Int32) h17).bind fun h21 =>
  (hgr h21 l0 8 1).bind fun x22 =>
  (hgr h21 l0 8 8).bind fun x23 =>
  (hgr h21 l0 8 6).bind fun x24 =>
  (hal h21 .int x24 l1).bind fun x25 =>
  (isO h21 x22 6).bind fun _ =>
  (FX6_raise x22 x23 (1 : Int32) x25 x8 h21).bind fun h27 =>
  (hgr h27 l0 8 9).bind fun x28 =>
  (hgr h27 l0 8 8).bind fun x29 =>
  (isO h27 x28 2).bind fun _ =>
  (FX2_copyRows x28 x29 x8 h27).bind fun h31 =>
  (hgr h31 l0 8 7).bind fun x32 =>
  (hgr h31 l0 8 9).bind fun x33 =>
  (hgr h31 l0 8 0).bind fun x34 =>
  (hgi h31 x34 5 0).bind fun x35 =>
  (isO h31 x33 2).bind fun _ =>
  bind2 (FX2_reduceRows x33 x35 h31) fun x37 h38 =>
  (has h38 .int x32 l1 (x8 - x37)).bind fun h39 =>
  BX8_multiplicityOf_128 l0 l1 h39
 else
  BX8_multiplicityOf_128 l0 l1 h
else
 some ((0 : Int32), h)
def rmX8_multiplicityOf : Room := { frames := 5, cells := 0, slots := 0, locals := 122 }
set_option maxRecDepth 20000 in
set_option maxHeartbeats 4000000 in
theorem sX8_multiplicityOf {l0 : Nat} {l1 : Int32} {h : jx_H} {r : Int32} {h9 : jx_H} (e : FX8_multiplicityOf l0 l1 h = some (r, h9)) : jx_Ct yX8_multiplicityOf cX8_multiplicityOf 3 (some .int) rmX8_multiplicityOf [.ref l0, .int l1] h (fun r' h' => some (.int r) = r' ∧ h9 = h') := by
  refine jx_Ct.of (own := RX8) (by decide) rfl (Nat.le_of_ble_eq_true rfl) (fun X C hq hr hL hN => ?_)
  refine jx_sub (lv' := [(0, .ref l0), (1, .int l1)]) [0, 1] rfl ?_
  have b128 : ∀ (y42 : Nat) (y43 : Int32) (h44 : jx_H), BX8_multiplicityOf_128 y42 y43 h44 = some (r, h9) → jx_J X 0 0 128 [(0, .ref y42), (1, .int y43)] [] h44 := by
    intro y42 y43 h44 e
    unfold BX8_multiplicityOf_128 at e
    refine j_aload_n C dX8_multiplicityOf_128 rfl rfl ?_
    replace e := ob e
    obtain ⟨x45, ex45, e⟩ := e
    refine j_getr (ci := 8) (RC := RX8) (T := TX8) (N := 15) 7 C rfl klX8 (Nat.le_of_ble_eq_true rfl) kX8_25 rfl dX8_multiplicityOf_129 ex45 ?_
    refine j_iload_n C dX8_multiplicityOf_132 rfl rfl ?_
    replace e := ob e
    obtain ⟨x46, ex46, e⟩ := e
    refine j_iald C dX8_multiplicityOf_133 ex46 ?_
    cases e
    exact j_iret C hq rfl dX8_multiplicityOf_134 ⟨Nat.le_of_ble_eq_true rfl, Nat.le_of_ble_eq_true rfl⟩ ⟨rfl, rfl⟩
  unfold FX8_multiplicityOf at e
  refine j_iload_n C dX8_multiplicityOf_0 rfl rfl ?_
  refine j_aload_n C dX8_multiplicityOf_1 rfl rfl ?_
  replace e := ob e
  obtain ⟨x47, ex47, e⟩ := e
  refine j_geti (ci := 8) (RC := RX8) (T := TX8) (N := 15) 13 C rfl klX8 (Nat.le_of_ble_eq_true rfl) kX8_70 rfl dX8_multiplicityOf_2 ex47 ?_
  refine j_iconst (v := (1 : Int32)) C dX8_multiplicityOf_5 (by decide) ?_
  refine j_isub C dX8_multiplicityOf_6 ?_
  replace e := ob e
  obtain ⟨x48, ex48, e⟩ := e
  refine j_callSN (As := [.int l1, .int (x47 - (1 : Int32))]) (na := 2) (st := []) (k1 := 0) (n1 := 0) C hr (sX9_isOutside ex48) kX8_106 kst_X9_isOutside kini_X9 kc_X9_isOutside (by decide) rfl ⟨(Nat.le_of_ble_eq_true rfl), (Nat.le_of_ble_eq_true rfl)⟩ (Nat.le_of_ble_eq_true rfl) ⟨rfl, rfl, (Nat.le_of_ble_eq_true rfl), (Nat.le_of_ble_eq_true rfl)⟩ dX8_multiplicityOf_7 ?_
  rintro _ _ ⟨rfl, rfl⟩
  show jx_J X 0 0 10 [(0, .ref l0), (1, .int l1)] [.int x48] h
  refine j_if_eq (tgt := 15) C dX8_multiplicityOf_10 (by decide) (fun c85 => ?_) (fun c85 => ?_)
  · replace e := ifp c85 e
    refine j_aload_n C dX8_multiplicityOf_15 rfl rfl ?_
    replace e := ob e
    obtain ⟨x49, ex49, e⟩ := e
    refine j_getr (ci := 8) (RC := RX8) (T := TX8) (N := 15) 7 C rfl klX8 (Nat.le_of_ble_eq_true rfl) kX8_25 rfl dX8_multiplicityOf_16 ex49 ?_
    refine j_iload_n C dX8_multiplicityOf_19 rfl rfl ?_
    replace e := ob e
    obtain ⟨x50, ex50, e⟩ := e
    refine j_iald C dX8_multiplicityOf_20 ex50 ?_
    refine j_iconst (v := (-1 : Int32)) C dX8_multiplicityOf_21 (by decide) ?_
    refine j_icmp_ne (tgt := 128) C dX8_multiplicityOf_22 (by decide) (fun c84 => ?_) (fun c84 => ?_)
    · replace e := ifn c84 e
      exact b128 l0 l1 h e
    · replace e := ifp c84 e
      refine j_aload_n C dX8_multiplicityOf_25 rfl rfl ?_
      replace e := ob e
      obtain ⟨x51, ex51, e⟩ := e
      refine j_getr (ci := 8) (RC := RX8) (T := TX8) (N := 15) 0 C rfl klX8 (Nat.le_of_ble_eq_true rfl) kX8_51 rfl dX8_multiplicityOf_26 ex51 ?_
      replace e := ob e
      obtain ⟨x52, ex52, e⟩ := e
      refine j_geti (ci := 5) (RC := RX5) (T := TX5) (N := 12) 2 C rfl klX5 (Nat.le_of_ble_eq_true rfl) kX8_110 rfl dX8_multiplicityOf_29 ex52 ?_
      refine j_istore_n (lv1 := [(2, .int x52), (0, .ref l0), (1, .int l1)]) C hL dX8_multiplicityOf_32 rfl (Nat.le_of_ble_eq_true rfl) rfl ?_
      refine j_aload_n C dX8_multiplicityOf_33 rfl rfl ?_
      replace e := ob e
      obtain ⟨x53, ex53, e⟩ := e
      refine j_getr (ci := 8) (RC := RX8) (T := TX8) (N := 15) 9 C rfl klX8 (Nat.le_of_ble_eq_true rfl) kX8_37 rfl dX8_multiplicityOf_34 ex53 ?_
      refine j_iconst (v := (2 : Int32)) C dX8_multiplicityOf_37 (by decide) ?_
      refine j_iload_n C dX8_multiplicityOf_38 rfl rfl ?_
      refine j_imul C dX8_multiplicityOf_39 ?_
      refine j_iload_n C dX8_multiplicityOf_40 rfl rfl ?_
      replace e := ob e
      obtain ⟨_, eo54, e⟩ := e
      replace e := ob e
      obtain ⟨h55, eh55, e⟩ := e
      refine j_callV (ci := 2) (RC := RX2) (T := TX2) (N := 7) (As := [.int ((2 : Int32) * x52), .int x52]) (b := x53) (na := 2) (st := []) (k1 := 0) (n1 := 0) C hr (sX2_clear eh55) rfl eo54 kX8_113 kim_X2_clear ksel_X2_clear kini_X2 kc_X2_clear (by decide) rfl ⟨(Nat.le_of_ble_eq_true rfl), (Nat.le_of_ble_eq_true rfl)⟩ (Nat.le_of_ble_eq_true rfl) ⟨rfl, rfl, (Nat.le_of_ble_eq_true rfl), (Nat.le_of_ble_eq_true rfl)⟩ dX8_multiplicityOf_41 ?_
      rintro _ _ ⟨rfl, rfl⟩
      show jx_J X 0 0 44 [(2, .int x52), (0, .ref l0), (1, .int l1)] [] h55
      refine j_aload_n C dX8_multiplicityOf_44 rfl rfl ?_
      replace e := ob e
      obtain ⟨x56, ex56, e⟩ := e
      refine j_getr (ci := 8) (RC := RX8) (T := TX8) (N := 15) 1 C rfl klX8 (Nat.le_of_ble_eq_true rfl) kX8_55 rfl dX8_multiplicityOf_45 ex56 ?_
      refine j_aload_n C dX8_multiplicityOf_48 rfl rfl ?_
      replace e := ob e
      obtain ⟨x57, ex57, e⟩ := e
      refine j_getr (ci := 8) (RC := RX8) (T := TX8) (N := 15) 8 C rfl klX8 (Nat.le_of_ble_eq_true rfl) kX8_33 rfl dX8_multiplicityOf_49 ex57 ?_
      refine j_iconst (v := (0 : Int32)) C dX8_multiplicityOf_52 (by decide) ?_
      refine j_aload_n C dX8_multiplicityOf_53 rfl rfl ?_
      replace e := ob e
      obtain ⟨x58, ex58, e⟩ := e
      refine j_getr (ci := 8) (RC := RX8) (T := TX8) (N := 15) 5 C rfl klX8 (Nat.le_of_ble_eq_true rfl) kX8_18 rfl dX8_multiplicityOf_54 ex58 ?_
      refine j_iload_n C dX8_multiplicityOf_57 rfl rfl ?_
      replace e := ob e
      obtain ⟨x59, ex59, e⟩ := e
      refine j_iald C dX8_multiplicityOf_58 ex59 ?_
      refine j_iload_n C dX8_multiplicityOf_59 rfl rfl ?_
      replace e := ob e
      obtain ⟨_, eo60, e⟩ := e
      replace e := ob e
      obtain ⟨h61, eh61, e⟩ := e
      refine j_callV (ci := 6) (RC := RX6) (T := TX6) (N := 17) (As := [.ref x57, .int (0 : Int32), .int x59, .int x52]) (b := x56) (na := 4) (st := []) (k1 := 0) (n1 := 0) C hr (sX6_raise eh61) rfl eo60 kX8_116 kim_X6_raise ksel_X6_raise kini_X6 kc_X6_raise (by decide) rfl ⟨(Nat.le_of_ble_eq_true rfl), (Nat.le_of_ble_eq_true rfl)⟩ (Nat.le_of_ble_eq_true rfl) ⟨rfl, rfl, (Nat.le_of_ble_eq_true rfl), (Nat.le_of_ble_eq_true rfl)⟩ dX8_multiplicityOf_60 ?_
      rintro _ _ ⟨rfl, rfl⟩
      show jx_J X 0 0 63 [(2, .int x52), (0, .ref l0), (1, .int l1)] [] h61
      refine j_aload_n C dX8_multiplicityOf_63 rfl rfl ?_
      replace e := ob e
      obtain ⟨x62, ex62, e⟩ := e
      refine j_getr (ci := 8) (RC := RX8) (T := TX8) (N := 15) 9 C rfl klX8 (Nat.le_of_ble_eq_true rfl) kX8_37 rfl dX8_multiplicityOf_64 ex62 ?_
      refine j_aload_n C dX8_multiplicityOf_67 rfl rfl ?_
      replace e := ob e
      obtain ⟨x63, ex63, e⟩ := e
      refine j_getr (ci := 8) (RC := RX8) (T := TX8) (N := 15) 8 C rfl klX8 (Nat.le_of_ble_eq_true rfl) kX8_33 rfl dX8_multiplicityOf_68 ex63 ?_
      refine j_iconst (v := (0 : Int32)) C dX8_multiplicityOf_71 (by decide) ?_
      replace e := ob e
      obtain ⟨_, eo64, e⟩ := e
      replace e := ob e
      obtain ⟨h65, eh65, e⟩ := e
      refine j_callV (ci := 2) (RC := RX2) (T := TX2) (N := 7) (As := [.ref x63, .int (0 : Int32)]) (b := x62) (na := 2) (st := []) (k1 := 0) (n1 := 0) C hr (sX2_copyRows eh65) rfl eo64 kX8_120 kim_X2_copyRows ksel_X2_copyRows kini_X2 kc_X2_copyRows (by decide) rfl ⟨(Nat.le_of_ble_eq_true rfl), (Nat.le_of_ble_eq_true rfl)⟩ (Nat.le_of_ble_eq_true rfl) ⟨rfl, rfl, (Nat.le_of_ble_eq_true rfl), (Nat.le_of_ble_eq_true rfl)⟩ dX8_multiplicityOf_72 ?_
      rintro _ _ ⟨rfl, rfl⟩
      show jx_J X 0 0 75 [(2, .int x52), (0, .ref l0), (1, .int l1)] [] h65
      refine j_aload_n C dX8_multiplicityOf_75 rfl rfl ?_
      replace e := ob e
      obtain ⟨x66, ex66, e⟩ := e
      refine j_getr (ci := 8) (RC := RX8) (T := TX8) (N := 15) 1 C rfl klX8 (Nat.le_of_ble_eq_true rfl) kX8_55 rfl dX8_multiplicityOf_76 ex66 ?_
      refine j_aload_n C dX8_multiplicityOf_79 rfl rfl ?_
      replace e := ob e
      obtain ⟨x67, ex67, e⟩ := e
      refine j_getr (ci := 8) (RC := RX8) (T := TX8) (N := 15) 8 C rfl klX8 (Nat.le_of_ble_eq_true rfl) kX8_33 rfl dX8_multiplicityOf_80 ex67 ?_
      refine j_iconst (v := (1 : Int32)) C dX8_multiplicityOf_83 (by decide) ?_
      refine j_aload_n C dX8_multiplicityOf_84 rfl rfl ?_
      replace e := ob e
      obtain ⟨x68, ex68, e⟩ := e
      refine j_getr (ci := 8) (RC := RX8) (T := TX8) (N := 15) 6 C rfl klX8 (Nat.le_of_ble_eq_true rfl) kX8_22 rfl dX8_multiplicityOf_85 ex68 ?_
      refine j_iload_n C dX8_multiplicityOf_88 rfl rfl ?_
      replace e := ob e
      obtain ⟨x69, ex69, e⟩ := e
      refine j_iald C dX8_multiplicityOf_89 ex69 ?_
      refine j_iload_n C dX8_multiplicityOf_90 rfl rfl ?_
      replace e := ob e
      obtain ⟨_, eo70, e⟩ := e
      replace e := ob e
      obtain ⟨h71, eh71, e⟩ := e
      refine j_callV (ci := 6) (RC := RX6) (T := TX6) (N := 17) (As := [.ref x67, .int (1 : Int32), .int x69, .int x52]) (b := x66) (na := 4) (st := []) (k1 := 0) (n1 := 0) C hr (sX6_raise eh71) rfl eo70 kX8_116 kim_X6_raise ksel_X6_raise kini_X6 kc_X6_raise (by decide) rfl ⟨(Nat.le_of_ble_eq_true rfl), (Nat.le_of_ble_eq_true rfl)⟩ (Nat.le_of_ble_eq_true rfl) ⟨rfl, rfl, (Nat.le_of_ble_eq_true rfl), (Nat.le_of_ble_eq_true rfl)⟩ dX8_multiplicityOf_91 ?_
      rintro _ _ ⟨rfl, rfl⟩
      show jx_J X 0 0 94 [(2, .int x52), (0, .ref l0), (1, .int l1)] [] h71
      refine j_aload_n C dX8_multiplicityOf_94 rfl rfl ?_
      replace e := ob e
      obtain ⟨x72, ex72, e⟩ := e
      refine j_getr (ci := 8) (RC := RX8) (T := TX8) (N := 15) 9 C rfl klX8 (Nat.le_of_ble_eq_true rfl) kX8_37 rfl dX8_multiplicityOf_95 ex72 ?_
      refine j_aload_n C dX8_multiplicityOf_98 rfl rfl ?_
      replace e := ob e
      obtain ⟨x73, ex73, e⟩ := e
      refine j_getr (ci := 8) (RC := RX8) (T := TX8) (N := 15) 8 C rfl klX8 (Nat.le_of_ble_eq_true rfl) kX8_33 rfl dX8_multiplicityOf_99 ex73 ?_
      refine j_iload_n C dX8_multiplicityOf_102 rfl rfl ?_
      replace e := ob e
      obtain ⟨_, eo74, e⟩ := e
      replace e := ob e
      obtain ⟨h75, eh75, e⟩ := e
      refine j_callV (ci := 2) (RC := RX2) (T := TX2) (N := 7) (As := [.ref x73, .int x52]) (b := x72) (na := 2) (st := []) (k1 := 0) (n1 := 0) C hr (sX2_copyRows eh75) rfl eo74 kX8_120 kim_X2_copyRows ksel_X2_copyRows kini_X2 kc_X2_copyRows (by decide) rfl ⟨(Nat.le_of_ble_eq_true rfl), (Nat.le_of_ble_eq_true rfl)⟩ (Nat.le_of_ble_eq_true rfl) ⟨rfl, rfl, (Nat.le_of_ble_eq_true rfl), (Nat.le_of_ble_eq_true rfl)⟩ dX8_multiplicityOf_103 ?_
      rintro _ _ ⟨rfl, rfl⟩
      show jx_J X 0 0 106 [(2, .int x52), (0, .ref l0), (1, .int l1)] [] h75
      refine j_aload_n C dX8_multiplicityOf_106 rfl rfl ?_
      replace e := ob e
      obtain ⟨x76, ex76, e⟩ := e
      refine j_getr (ci := 8) (RC := RX8) (T := TX8) (N := 15) 7 C rfl klX8 (Nat.le_of_ble_eq_true rfl) kX8_25 rfl dX8_multiplicityOf_107 ex76 ?_
      refine j_iload_n C dX8_multiplicityOf_110 rfl rfl ?_
      refine j_iload_n C dX8_multiplicityOf_111 rfl rfl ?_
      refine j_aload_n C dX8_multiplicityOf_112 rfl rfl ?_
      replace e := ob e
      obtain ⟨x77, ex77, e⟩ := e
      refine j_getr (ci := 8) (RC := RX8) (T := TX8) (N := 15) 9 C rfl klX8 (Nat.le_of_ble_eq_true rfl) kX8_37 rfl dX8_multiplicityOf_113 ex77 ?_
      refine j_aload_n C dX8_multiplicityOf_116 rfl rfl ?_
      replace e := ob e
      obtain ⟨x78, ex78, e⟩ := e
      refine j_getr (ci := 8) (RC := RX8) (T := TX8) (N := 15) 0 C rfl klX8 (Nat.le_of_ble_eq_true rfl) kX8_51 rfl dX8_multiplicityOf_117 ex78 ?_
      replace e := ob e
      obtain ⟨x79, ex79, e⟩ := e
      refine j_geti (ci := 5) (RC := RX5) (T := TX5) (N := 12) 0 C rfl klX5 (Nat.le_of_ble_eq_true rfl) kX8_82 rfl dX8_multiplicityOf_120 ex79 ?_
      replace e := ob e
      obtain ⟨_, eo80, e⟩ := e
      replace e := ob2 e
      obtain ⟨x81, h82, ex81, e⟩ := e
      refine j_callV (ci := 2) (RC := RX2) (T := TX2) (N := 7) (As := [.int x79]) (b := x77) (na := 1) (st := [.int x52, .int l1, .ref x76]) (k1 := 0) (n1 := 0) C hr (sX2_reduceRows ex81) rfl eo80 kX8_124 kim_X2_reduceRows ksel_X2_reduceRows kini_X2 kc_X2_reduceRows (by decide) rfl ⟨(Nat.le_of_ble_eq_true rfl), (Nat.le_of_ble_eq_true rfl)⟩ (Nat.le_of_ble_eq_true rfl) ⟨rfl, rfl, (Nat.le_of_ble_eq_true rfl), (Nat.le_of_ble_eq_true rfl)⟩ dX8_multiplicityOf_123 ?_
      rintro _ _ ⟨rfl, rfl⟩
      show jx_J X 0 0 126 [(2, .int x52), (0, .ref l0), (1, .int l1)] [.int x81, .int x52, .int l1, .ref x76] h82
      refine j_isub C dX8_multiplicityOf_126 ?_
      replace e := ob e
      obtain ⟨h83, eh83, e⟩ := e
      refine j_iast C dX8_multiplicityOf_127 eh83 ?_
      refine jx_sub (lv' := [(0, .ref l0), (1, .int l1)]) [1, 2] rfl ?_
      exact b128 l0 l1 h83 e
  · replace e := ifn c85 e
    refine j_iconst (v := (0 : Int32)) C dX8_multiplicityOf_13 (by decide) ?_
    cases e
    exact j_iret C hq rfl dX8_multiplicityOf_14 ⟨Nat.le_of_ble_eq_true rfl, Nat.le_of_ble_eq_true rfl⟩ ⟨rfl, rfl⟩
/-! BorderBasis$Zeros.allMultiplicities()I -/
noncomputable def LX8_allMultiplicities_8 (l0 : Nat) (l1 : Int32) (l2 : Int32) (h : jx_H) : Option ((Int32 × Int32 × jx_H) ⊕ (Int32 × jx_H)) :=
(hgi h l0 8 13).bind fun x3 =>
if x3 ≤ l2 then
 exL (some (l1, h))
else
 (isO h l0 8).bind fun _ =>
 bind2 (FX8_multiplicityOf l0 l2 h) fun x5 h6 =>
 some (.inl ((l1 + x5), (l2 + (1 : Int32)), h6))
noncomputable def FX8_allMultiplicities (l0 : Nat) (h : jx_H) : Option (Int32 × jx_H) :=
(isO h l0 8).bind fun _ =>
(FX8_find l0 h).bind fun h2 =>
itr (fun s : Int32 × Int32 × jx_H => LX8_allMultiplicities_8 l0 s.1 s.2.1 s.2.2) ((0 : Int32), (0 : Int32), h2)
def rmX8_allMultiplicities : Room := { frames := 6, cells := 0, slots := 0, locals := 145 }
set_option maxRecDepth 20000 in
set_option maxHeartbeats 4000000 in
theorem sX8_allMultiplicities {l0 : Nat} {h : jx_H} {r : Int32} {h9 : jx_H} (e : FX8_allMultiplicities l0 h = some (r, h9)) : jx_Ct yX8_allMultiplicities cX8_allMultiplicities 3 (some .int) rmX8_allMultiplicities [.ref l0] h (fun r' h' => some (.int r) = r' ∧ h9 = h') := by
  refine jx_Ct.of (own := RX8) (by decide) rfl (Nat.le_of_ble_eq_true rfl) (fun X C hq hr hL hN => ?_)
  refine jx_sub (lv' := [(0, .ref l0)]) [0] rfl ?_
  unfold FX8_allMultiplicities at e
  refine j_aload_n C dX8_allMultiplicities_0 rfl rfl ?_
  replace e := ob e
  obtain ⟨_, eo8, e⟩ := e
  replace e := ob e
  obtain ⟨h9, eh9, e⟩ := e
  refine j_callV (ci := 8) (RC := RX8) (T := TX8) (N := 15) (As := []) (b := l0) (na := 0) (st := []) (k1 := 0) (n1 := 0) C hr (sX8_find eh9) rfl eo8 kX8_67 kim_X8_find ksel_X8_find kini_X8 kc_X8_find (by decide) rfl ⟨(Nat.le_of_ble_eq_true rfl), (Nat.le_of_ble_eq_true rfl)⟩ (Nat.le_of_ble_eq_true rfl) ⟨rfl, rfl, (Nat.le_of_ble_eq_true rfl), (Nat.le_of_ble_eq_true rfl)⟩ dX8_allMultiplicities_1 ?_
  rintro _ _ ⟨rfl, rfl⟩
  show jx_J X 0 0 4 [(0, .ref l0)] [] h9
  refine j_iconst (v := (0 : Int32)) C dX8_allMultiplicities_4 (by decide) ?_
  refine j_istore_n (lv1 := [(1, .int (0 : Int32)), (0, .ref l0)]) C hL dX8_allMultiplicities_5 rfl (Nat.le_of_ble_eq_true rfl) rfl ?_
  refine j_iconst (v := (0 : Int32)) C dX8_allMultiplicities_6 (by decide) ?_
  refine j_istore_n (lv1 := [(2, .int (0 : Int32)), (1, .int (0 : Int32)), (0, .ref l0)]) C hL dX8_allMultiplicities_7 rfl (Nat.le_of_ble_eq_true rfl) rfl ?_
  refine jx_sub (lv' := [(0, .ref l0), (1, .int (0 : Int32)), (2, .int (0 : Int32))]) [2, 1, 0] rfl ?_
  refine itr_ind (s0 := ((0 : Int32), (0 : Int32), h9)) (fun s : Int32 × Int32 × jx_H => jx_J X 0 0 8 [(0, .ref l0), (1, .int s.1), (2, .int s.2.1)] [] s.2.2) e ?_
  clear e
  intro s kI2 kT2 e0
  obtain ⟨z10, z11, h12⟩ := s
  obtain ⟨u2, e0_2⟩ := e0
  have e : LX8_allMultiplicities_8 l0 z10 z11 h12 = some u2 := e0_2
  unfold LX8_allMultiplicities_8 at e
  refine j_iload_n C dX8_allMultiplicities_8 rfl rfl ?_
  refine j_aload_n C dX8_allMultiplicities_9 rfl rfl ?_
  replace e := ob e
  obtain ⟨x13, ex13, e⟩ := e
  refine j_geti (ci := 8) (RC := RX8) (T := TX8) (N := 15) 13 C rfl klX8 (Nat.le_of_ble_eq_true rfl) kX8_70 rfl dX8_allMultiplicities_10 ex13 ?_
  refine j_icmp_ge (tgt := 30) C dX8_allMultiplicities_13 (by decide) (fun c17 => ?_) (fun c17 => ?_)
  · replace e := ifp c17 e
    obtain ⟨t_3, e_3, eu_3⟩ := exL_spec e
    obtain rfl := kT2 t_3 (e0_2.trans (congrArg some eu_3))
    replace e := e_3
    refine j_iload_n C dX8_allMultiplicities_30 rfl rfl ?_
    cases e
    exact j_iret C hq rfl dX8_allMultiplicities_31 ⟨Nat.le_of_ble_eq_true rfl, Nat.le_of_ble_eq_true rfl⟩ ⟨rfl, rfl⟩
  · replace e := ifn c17 e
    refine j_iload_n C dX8_allMultiplicities_16 rfl rfl ?_
    refine j_aload_n C dX8_allMultiplicities_17 rfl rfl ?_
    refine j_iload_n C dX8_allMultiplicities_18 rfl rfl ?_
    replace e := ob e
    obtain ⟨_, eo14, e⟩ := e
    replace e := ob2 e
    obtain ⟨x15, h16, ex15, e⟩ := e
    refine j_callV (ci := 8) (RC := RX8) (T := TX8) (N := 15) (As := [.int z11]) (b := l0) (na := 1) (st := [.int z10]) (k1 := 0) (n1 := 0) C hr (sX8_multiplicityOf ex15) rfl eo14 kX8_128 kim_X8_multiplicityOf ksel_X8_multiplicityOf kini_X8 kc_X8_multiplicityOf (by decide) rfl ⟨(Nat.le_of_ble_eq_true rfl), (Nat.le_of_ble_eq_true rfl)⟩ (Nat.le_of_ble_eq_true rfl) ⟨rfl, rfl, (Nat.le_of_ble_eq_true rfl), (Nat.le_of_ble_eq_true rfl)⟩ dX8_allMultiplicities_19 ?_
    rintro _ _ ⟨rfl, rfl⟩
    show jx_J X 0 0 22 [(0, .ref l0), (1, .int z10), (2, .int z11)] [.int x15, .int z10] h16
    refine j_iadd C dX8_allMultiplicities_22 ?_
    refine j_istore_n (lv1 := [(1, .int (z10 + x15)), (0, .ref l0), (2, .int z11)]) C hL dX8_allMultiplicities_23 rfl (Nat.le_of_ble_eq_true rfl) rfl ?_
    refine j_iinc (v := (z11 + (1 : Int32))) (lv1 := [(2, .int (z11 + (1 : Int32))), (1, .int (z10 + x15)), (0, .ref l0)]) C hL dX8_allMultiplicities_24 rfl rfl (Nat.le_of_ble_eq_true rfl) rfl ?_
    refine j_goto (tgt := 8) C dX8_allMultiplicities_27 (by decide) ?_
    obtain rfl := Option.some.inj e
    refine jx_sub (lv' := [(0, .ref l0), (1, .int (z10 + x15)), (2, .int (z11 + (1 : Int32)))]) [2, 1, 0] rfl ?_
    exact kI2 ((z10 + x15), (z11 + (1 : Int32)), h16) e0_2
/-! BorderBasis$Zeros.makeMonomialTable(LBorderBasis$Matrix;II)V -/
noncomputable def BX8_makeMonomialTable_58 (l0 : Nat) (l1 : Nat) (h : jx_H) : Option (jx_H) :=
(hgr h l0 8 0).bind fun x1 =>
(hgi h x1 5 2).bind fun x2 =>
(isO h l1 2).bind fun _ =>
(FX2_becomeIdentity l1 x2 h).bind fun h4 =>
some h4
noncomputable def BX8_makeMonomialTable_40 (l0 : Nat) (l1 : Nat) (l4 : Int32) (s0 : Int32) (h : jx_H) : Option (jx_H) :=
if s0 = (-1 : Int32) then
 BX8_makeMonomialTable_58 l0 l1 h
else
 (hgr h l0 8 11).bind fun x5 =>
 (hql h "BorderBasis$Matrix" x5 s0).bind fun x6 =>
 oc x6 (
  BX8_makeMonomialTable_58 l0 l1 h) fun q7 =>
  (hgr h l0 8 1).bind fun x8 =>
  (isO h x8 6).bind fun _ =>
  (FX6_ofVariable x8 l4 h).bind fun x10 =>
  (hgr h l0 8 11).bind fun x11 =>
  (hql h "BorderBasis$Matrix" x11 s0).bind fun x12 =>
  (hgr h l0 8 0).bind fun x13 =>
  (hgi h x13 5 0).bind fun x14 =>
  oc x12 none fun q15 =>
  (isO h l1 2).bind fun _ =>
  (FX2_becomeProduct l1 x10 q15 x14 h).bind fun h17 =>
  some h17
noncomputable def BX8_makeMonomialTable_9 (l0 : Nat) (l1 : Nat) (l2 : Int32) (l3 : Int32) (s0 : Int32) (h : jx_H) : Option (jx_H) :=
if l2 ≤ 0 then
 (hgr h l0 8 0).bind fun x19 =>
 (isO h x19 5).bind fun _ =>
 (FX5_numberOf x19 l2 (l3 - (1 : Int32)) h).bind fun x21 =>
 BX8_makeMonomialTable_40 l0 l1 s0 x21 h
else
 (hgr h l0 8 0).bind fun x22 =>
 (isO h x22 5).bind fun _ =>
 (FX5_numberOf x22 (l2 - (1 : Int32)) l3 h).bind fun x24 =>
 BX8_makeMonomialTable_40 l0 l1 s0 x24 h
noncomputable def FX8_makeMonomialTable (l0 : Nat) (l1 : Nat) (l2 : Int32) (l3 : Int32) (h : jx_H) : Option (jx_H) :=
if l2 ≤ 0 then
 BX8_makeMonomialTable_9 l0 l1 l2 l3 (1 : Int32) h
else
 BX8_makeMonomialTable_9 l0 l1 l2 l3 (0 : Int32) h
def rmX8_makeMonomialTable : Room := { frames := 3, cells := 0, slots := 0, locals := 73 }
set_option maxRecDepth 20000 in
set_option maxHeartbeats 4000000 in
theorem sX8_makeMonomialTable {l0 : Nat} {l1 : Nat} {l2 : Int32} {l3 : Int32} {h : jx_H} {h9 : jx_H} (e : FX8_makeMonomialTable l0 l1 l2 l3 h = some h9) : jx_Ct yX8_makeMonomialTable cX8_makeMonomialTable 6 none rmX8_makeMonomialTable [.ref l0, .ref l1, .int l2, .int l3] h (fun r' h' => none = r' ∧ h9 = h') := by
  refine jx_Ct.of (own := RX8) (by decide) rfl (Nat.le_of_ble_eq_true rfl) (fun X C hq hr hL hN => ?_)
  refine jx_sub (lv' := [(0, .ref l0), (1, .ref l1), (2, .int l2), (3, .int l3)]) [0, 1, 2, 3] rfl ?_
  have b58 : ∀ (y27 : Nat) (y28 : Nat) (h29 : jx_H), BX8_makeMonomialTable_58 y27 y28 h29 = some h9 → jx_J X 0 0 58 [(0, .ref y27), (1, .ref y28)] [] h29 := by
    intro y27 y28 h29 e
    unfold BX8_makeMonomialTable_58 at e
    refine j_aload_n C dX8_makeMonomialTable_58 rfl rfl ?_
    refine j_aload_n C dX8_makeMonomialTable_59 rfl rfl ?_
    replace e := ob e
    obtain ⟨x30, ex30, e⟩ := e
    refine j_getr (ci := 8) (RC := RX8) (T := TX8) (N := 15) 0 C rfl klX8 (Nat.le_of_ble_eq_true rfl) kX8_51 rfl dX8_makeMonomialTable_60 ex30 ?_
    replace e := ob e
    obtain ⟨x31, ex31, e⟩ := e
    refine j_geti (ci := 5) (RC := RX5) (T := TX5) (N := 12) 2 C rfl klX5 (Nat.le_of_ble_eq_true rfl) kX8_110 rfl dX8_makeMonomialTable_63 ex31 ?_
    replace e := ob e
    obtain ⟨_, eo32, e⟩ := e
    replace e := ob e
    obtain ⟨h33, eh33, e⟩ := e
    refine j_callV (ci := 2) (RC := RX2) (T := TX2) (N := 7) (As := [.int x31]) (b := y28) (na := 1) (st := []) (k1 := 0) (n1 := 0) C hr (sX2_becomeIdentity eh33) rfl eo32 kX8_158 kim_X2_becomeIdentity ksel_X2_becomeIdentity kini_X2 kc_X2_becomeIdentity (by decide) rfl ⟨(Nat.le_of_ble_eq_true rfl), (Nat.le_of_ble_eq_true rfl)⟩ (Nat.le_of_ble_eq_true rfl) ⟨rfl, rfl, (Nat.le_of_ble_eq_true rfl), (Nat.le_of_ble_eq_true rfl)⟩ dX8_makeMonomialTable_66 ?_
    rintro _ _ ⟨rfl, rfl⟩
    show jx_J X 0 0 69 [(0, .ref y27), (1, .ref y28)] [] h33
    refine j_goto (tgt := 99) C dX8_makeMonomialTable_69 (by decide) ?_
    cases e
    exact j_vret C hq dX8_makeMonomialTable_99 ⟨Nat.le_of_ble_eq_true rfl, Nat.le_of_ble_eq_true rfl⟩ ⟨rfl, rfl⟩
  have b40 : ∀ (y34 : Nat) (y35 : Nat) (y36 : Int32) (y37 : Int32) (h38 : jx_H), BX8_makeMonomialTable_40 y34 y35 y36 y37 h38 = some h9 → jx_J X 0 0 40 [(0, .ref y34), (1, .ref y35), (4, .int y36)] [.int y37] h38 := by
    intro y34 y35 y36 y37 h38 e
    unfold BX8_makeMonomialTable_40 at e
    refine j_istore (lv1 := [(5, .int y37), (0, .ref y34), (1, .ref y35), (4, .int y36)]) C hL dX8_makeMonomialTable_40 (Nat.le_of_ble_eq_true rfl) rfl ?_
    refine j_iload C dX8_makeMonomialTable_42 rfl ?_
    refine j_iconst (v := (-1 : Int32)) C dX8_makeMonomialTable_44 (by decide) ?_
    refine j_icmp_eq (tgt := 58) C dX8_makeMonomialTable_45 (by decide) (fun c52 => ?_) (fun c52 => ?_)
    · replace e := ifp c52 e
      refine jx_sub (lv' := [(0, .ref y34), (1, .ref y35)]) [1, 2] rfl ?_
      exact b58 y34 y35 h38 e
    · replace e := ifn c52 e
      refine j_aload_n C dX8_makeMonomialTable_48 rfl rfl ?_
      replace e := ob e
      obtain ⟨x39, ex39, e⟩ := e
      refine j_getr (ci := 8) (RC := RX8) (T := TX8) (N := 15) 11 C rfl klX8 (Nat.le_of_ble_eq_true rfl) kX8_43 rfl dX8_makeMonomialTable_49 ex39 ?_
      refine j_iload C dX8_makeMonomialTable_52 rfl ?_
      replace e := ob e
      obtain ⟨x40, ex40, e⟩ := e
      refine j_aald C dX8_makeMonomialTable_54 ex40 ?_
      refine j_ifnonnull (tgt := 72) C dX8_makeMonomialTable_55 (by decide) (fun q41 eq41 => ?_) (fun eq41 => ?_)
      · replace e := ocs eq41 e
        subst eq41
        refine j_aload_n C dX8_makeMonomialTable_72 rfl rfl ?_
        refine j_aload_n C dX8_makeMonomialTable_73 rfl rfl ?_
        replace e := ob e
        obtain ⟨x42, ex42, e⟩ := e
        refine j_getr (ci := 8) (RC := RX8) (T := TX8) (N := 15) 1 C rfl klX8 (Nat.le_of_ble_eq_true rfl) kX8_55 rfl dX8_makeMonomialTable_74 ex42 ?_
        refine j_iload C dX8_makeMonomialTable_77 rfl ?_
        replace e := ob e
        obtain ⟨_, eo43, e⟩ := e
        replace e := ob e
        obtain ⟨x44, ex44, e⟩ := e
        refine j_callV (ci := 6) (RC := RX6) (T := TX6) (N := 17) (As := [.int y36]) (b := x42) (na := 1) (st := [.ref y35]) (k1 := 0) (n1 := 0) C hr (sX6_ofVariable ex44) rfl eo43 kX8_162 kim_X6_ofVariable ksel_X6_ofVariable kini_X6 kc_X6_ofVariable (by decide) rfl ⟨(Nat.le_of_ble_eq_true rfl), (Nat.le_of_ble_eq_true rfl)⟩ (Nat.le_of_ble_eq_true rfl) ⟨rfl, rfl, (Nat.le_of_ble_eq_true rfl), (Nat.le_of_ble_eq_true rfl)⟩ dX8_makeMonomialTable_79 ?_
        rintro _ _ ⟨rfl, rfl⟩
        show jx_J X 0 0 82 [(5, .int y37), (0, .ref y34), (1, .ref y35), (4, .int y36)] [.ref x44, .ref y35] h38
        refine j_aload_n C dX8_makeMonomialTable_82 rfl rfl ?_
        replace e := ob e
        obtain ⟨x45, ex45, e⟩ := e
        refine j_getr (ci := 8) (RC := RX8) (T := TX8) (N := 15) 11 C rfl klX8 (Nat.le_of_ble_eq_true rfl) kX8_43 rfl dX8_makeMonomialTable_83 ex45 ?_
        refine j_iload C dX8_makeMonomialTable_86 rfl ?_
        replace e := ob e
        obtain ⟨x46, ex46, e⟩ := e
        refine j_aald C dX8_makeMonomialTable_88 ex46 ?_
        refine j_aload_n C dX8_makeMonomialTable_89 rfl rfl ?_
        replace e := ob e
        obtain ⟨x47, ex47, e⟩ := e
        refine j_getr (ci := 8) (RC := RX8) (T := TX8) (N := 15) 0 C rfl klX8 (Nat.le_of_ble_eq_true rfl) kX8_51 rfl dX8_makeMonomialTable_90 ex47 ?_
        replace e := ob e
        obtain ⟨x48, ex48, e⟩ := e
        refine j_geti (ci := 5) (RC := RX5) (T := TX5) (N := 12) 0 C rfl klX5 (Nat.le_of_ble_eq_true rfl) kX8_82 rfl dX8_makeMonomialTable_93 ex48 ?_
        rcases eq49 : x46 with _ | q49
        · exact nos (ocn eq49 e)
        replace e := ocs eq49 e
        replace e := ob e
        obtain ⟨_, eo50, e⟩ := e
        replace e := ob e
        obtain ⟨h51, eh51, e⟩ := e
        refine j_callV (ci := 2) (RC := RX2) (T := TX2) (N := 7) (As := [.ref x44, .ref q49, .int x48]) (b := y35) (na := 3) (st := []) (k1 := 0) (n1 := 0) C hr (sX2_becomeProduct eh51) rfl eo50 kX8_166 kim_X2_becomeProduct ksel_X2_becomeProduct kini_X2 kc_X2_becomeProduct (by decide) rfl ⟨(Nat.le_of_ble_eq_true rfl), (Nat.le_of_ble_eq_true rfl)⟩ (Nat.le_of_ble_eq_true rfl) ⟨rfl, rfl, (Nat.le_of_ble_eq_true rfl), (Nat.le_of_ble_eq_true rfl)⟩ dX8_makeMonomialTable_96 ?_
        rintro _ _ ⟨rfl, rfl⟩
        show jx_J X 0 0 99 [(5, .int y37), (0, .ref y34), (1, .ref y35), (4, .int y36)] [] h51
        cases e
        exact j_vret C hq dX8_makeMonomialTable_99 ⟨Nat.le_of_ble_eq_true rfl, Nat.le_of_ble_eq_true rfl⟩ ⟨rfl, rfl⟩
      · replace e := ocn eq41 e
        refine jx_sub (lv' := [(0, .ref y34), (1, .ref y35)]) [1, 2] rfl ?_
        exact b58 y34 y35 h38 e
  have b9 : ∀ (y53 : Nat) (y54 : Nat) (y55 : Int32) (y56 : Int32) (y57 : Int32) (h58 : jx_H), BX8_makeMonomialTable_9 y53 y54 y55 y56 y57 h58 = some h9 → jx_J X 0 0 9 [(0, .ref y53), (1, .ref y54), (2, .int y55), (3, .int y56)] [.int y57] h58 := by
    intro y53 y54 y55 y56 y57 h58 e
    unfold BX8_makeMonomialTable_9 at e
    refine j_istore (lv1 := [(4, .int y57), (0, .ref y53), (1, .ref y54), (2, .int y55), (3, .int y56)]) C hL dX8_makeMonomialTable_9 (Nat.le_of_ble_eq_true rfl) rfl ?_
    refine j_iload_n C dX8_makeMonomialTable_11 rfl rfl ?_
    refine j_if_le (tgt := 29) C dX8_makeMonomialTable_12 (by decide) (fun c65 => ?_) (fun c65 => ?_)
    · replace e := ifp c65 e
      refine j_aload_n C dX8_makeMonomialTable_29 rfl rfl ?_
      replace e := ob e
      obtain ⟨x59, ex59, e⟩ := e
      refine j_getr (ci := 8) (RC := RX8) (T := TX8) (N := 15) 0 C rfl klX8 (Nat.le_of_ble_eq_true rfl) kX8_51 rfl dX8_makeMonomialTable_30 ex59 ?_
      refine j_iload_n C dX8_makeMonomialTable_33 rfl rfl ?_
      refine j_iload_n C dX8_makeMonomialTable_34 rfl rfl ?_
      refine j_iconst (v := (1 : Int32)) C dX8_makeMonomialTable_35 (by decide) ?_
      refine j_isub C dX8_makeMonomialTable_36 ?_
      replace e := ob e
      obtain ⟨_, eo60, e⟩ := e
      replace e := ob e
      obtain ⟨x61, ex61, e⟩ := e
      refine j_callV (ci := 5) (RC := RX5) (T := TX5) (N := 12) (As := [.int y55, .int (y56 - (1 : Int32))]) (b := x59) (na := 2) (st := []) (k1 := 0) (n1 := 0) C hr (sX5_numberOf ex61) rfl eo60 kX8_154 kim_X5_numberOf ksel_X5_numberOf kini_X5 kc_X5_numberOf (by decide) rfl ⟨(Nat.le_of_ble_eq_true rfl), (Nat.le_of_ble_eq_true rfl)⟩ (Nat.le_of_ble_eq_true rfl) ⟨rfl, rfl, (Nat.le_of_ble_eq_true rfl), (Nat.le_of_ble_eq_true rfl)⟩ dX8_makeMonomialTable_37 ?_
      rintro _ _ ⟨rfl, rfl⟩
      show jx_J X 0 0 40 [(4, .int y57), (0, .ref y53), (1, .ref y54), (2, .int y55), (3, .int y56)] [.int x61] h58
      refine jx_sub (lv' := [(0, .ref y53), (1, .ref y54), (4, .int y57)]) [1, 2, 0] rfl ?_
      exact b40 y53 y54 y57 x61 h58 e
    · replace e := ifn c65 e
      refine j_aload_n C dX8_makeMonomialTable_15 rfl rfl ?_
      replace e := ob e
      obtain ⟨x62, ex62, e⟩ := e
      refine j_getr (ci := 8) (RC := RX8) (T := TX8) (N := 15) 0 C rfl klX8 (Nat.le_of_ble_eq_true rfl) kX8_51 rfl dX8_makeMonomialTable_16 ex62 ?_
      refine j_iload_n C dX8_makeMonomialTable_19 rfl rfl ?_
      refine j_iconst (v := (1 : Int32)) C dX8_makeMonomialTable_20 (by decide) ?_
      refine j_isub C dX8_makeMonomialTable_21 ?_
      refine j_iload_n C dX8_makeMonomialTable_22 rfl rfl ?_
      replace e := ob e
      obtain ⟨_, eo63, e⟩ := e
      replace e := ob e
      obtain ⟨x64, ex64, e⟩ := e
      refine j_callV (ci := 5) (RC := RX5) (T := TX5) (N := 12) (As := [.int (y55 - (1 : Int32)), .int y56]) (b := x62) (na := 2) (st := []) (k1 := 0) (n1 := 0) C hr (sX5_numberOf ex64) rfl eo63 kX8_154 kim_X5_numberOf ksel_X5_numberOf kini_X5 kc_X5_numberOf (by decide) rfl ⟨(Nat.le_of_ble_eq_true rfl), (Nat.le_of_ble_eq_true rfl)⟩ (Nat.le_of_ble_eq_true rfl) ⟨rfl, rfl, (Nat.le_of_ble_eq_true rfl), (Nat.le_of_ble_eq_true rfl)⟩ dX8_makeMonomialTable_23 ?_
      rintro _ _ ⟨rfl, rfl⟩
      show jx_J X 0 0 26 [(4, .int y57), (0, .ref y53), (1, .ref y54), (2, .int y55), (3, .int y56)] [.int x64] h58
      refine j_goto (tgt := 40) C dX8_makeMonomialTable_26 (by decide) ?_
      refine jx_sub (lv' := [(0, .ref y53), (1, .ref y54), (4, .int y57)]) [1, 2, 0] rfl ?_
      exact b40 y53 y54 y57 x64 h58 e
  unfold FX8_makeMonomialTable at e
  refine j_iload_n C dX8_makeMonomialTable_0 rfl rfl ?_
  refine j_if_le (tgt := 8) C dX8_makeMonomialTable_1 (by decide) (fun c66 => ?_) (fun c66 => ?_)
  · replace e := ifp c66 e
    refine j_iconst (v := (1 : Int32)) C dX8_makeMonomialTable_8 (by decide) ?_
    exact b9 l0 l1 l2 l3 (1 : Int32) h e
  · replace e := ifn c66 e
    refine j_iconst (v := (0 : Int32)) C dX8_makeMonomialTable_4 (by decide) ?_
    refine j_goto (tgt := 9) C dX8_makeMonomialTable_5 (by decide) ?_
    exact b9 l0 l1 l2 l3 (0 : Int32) h e
/-! BorderBasis$Zeros.makeMonomialTables()V -/
theorem mm_nat {y : Int32} (h0 : 0 ≤ y) (h1 : y < 12) : y.toNatClampNeg < 12 := by
  have a := Int32.le_iff_toInt_le.mp h0
  have b := Int32.lt_iff_toInt_lt.mp h1
  have e0 : (0 : Int32).toInt = 0 := rfl
  have e1 : (12 : Int32).toInt = 12 := rfl
  show y.toInt.toNat < 12
  omega
theorem mm_succ {y : Int32} (h0 : 0 ≤ y) (h1 : y < 12) : (y + 1).toNatClampNeg = y.toNatClampNeg + 1 := by
  have a := Int32.le_iff_toInt_le.mp h0
  have b := Int32.lt_iff_toInt_lt.mp h1
  have e0 : (0 : Int32).toInt = 0 := rfl
  have e1 : (12 : Int32).toInt = 12 := rfl
  have e2 : (y + 1).toInt = y.toInt + 1 := by
    rw [Int32.toInt_add, show (1 : Int32).toInt = 1 from rfl, Int.bmod_eq_of_le (by omega) (by omega)]
  show (y + 1).toInt.toNat = y.toInt.toNat + 1
  omega
noncomputable def BX8_makeMonomialTables_39 (l0 : Nat) (l1 : Int32) (h : jx_H) : Option ((Int32 × jx_H) ⊕ (jx_H)) :=
(hgr h l0 8 11).bind fun x1 =>
(hql h "BorderBasis$Matrix" x1 l1).bind fun x2 =>
(hgr h l0 8 0).bind fun x3 =>
(hgr h x3 5 3).bind fun x4 =>
(hal h .int x4 l1).bind fun x5 =>
(hgr h l0 8 0).bind fun x6 =>
(hgr h x6 5 4).bind fun x7 =>
(hal h .int x7 l1).bind fun x8 =>
oc x2 none fun q9 =>
(isO h l0 8).bind fun _ =>
(FX8_makeMonomialTable l0 q9 x5 x8 h).bind fun h11 =>
some (.inl ((l1 + (1 : Int32)), h11))
noncomputable def LX8_makeMonomialTables_2 (l0 : Nat) (l1 : Int32) (h : jx_H) : Option ((Int32 × jx_H) ⊕ (jx_H)) :=
(hgr h l0 8 0).bind fun x12 =>
(hgi h x12 5 2).bind fun x13 =>
if x13 ≤ l1 then
 exL (some h)
else
 if ¬ (0 ≤ l1 ∧ l1 < 12) then none else
 (hgr h l0 8 11).bind fun x14 =>
 (hql h "BorderBasis$Matrix" x14 l1).bind fun x15 =>
 oc x15 (
  (hgr h l0 8 11).bind fun x17 =>
  (hnw h 2 fsX2).bind fun h18 =>
  (FX2_init 144 12 h.1 (12 : Int32) (12 : Int32) h18).bind fun h19 =>
  (hqs h19 "BorderBasis$Matrix" 2 x17 l1 h.1).bind fun h20 =>
  BX8_makeMonomialTables_39 l0 l1 h20) fun q16 =>
  BX8_makeMonomialTables_39 l0 l1 h
noncomputable def FX8_makeMonomialTables (l0 : Nat) (h : jx_H) : Option (jx_H) :=
itr (fun s : Int32 × jx_H => LX8_makeMonomialTables_2 l0 s.1 s.2) ((0 : Int32), h)
def rmX8_makeMonomialTables : Room := { frames := 4, cells := 36, slots := 1956, locals := 98 }
set_option maxRecDepth 20000 in
set_option maxHeartbeats 4000000 in
theorem sX8_makeMonomialTables {l0 : Nat} {h : jx_H} {h9 : jx_H} (e : FX8_makeMonomialTables l0 h = some h9) : jx_Ct yX8_makeMonomialTables cX8_makeMonomialTables 2 none rmX8_makeMonomialTables [.ref l0] h (fun r' h' => none = r' ∧ h9 = h') := by
  refine jx_Ct.of (own := RX8) (by decide) rfl (Nat.le_of_ble_eq_true rfl) (fun X C hq hr hL hN => ?_)
  refine jx_sub (lv' := [(0, .ref l0)]) [0] rfl ?_
  unfold FX8_makeMonomialTables at e
  refine j_iconst (v := (0 : Int32)) C dX8_makeMonomialTables_0 (by decide) ?_
  refine j_istore_n (lv1 := [(1, .int (0 : Int32)), (0, .ref l0)]) C hL dX8_makeMonomialTables_1 rfl (Nat.le_of_ble_eq_true rfl) rfl ?_
  refine jx_sub (lv' := [(0, .ref l0), (1, .int (0 : Int32))]) [1, 0] rfl ?_
  show jx_J X (3 * (0 : Int32).toNatClampNeg) (163 * (0 : Int32).toNatClampNeg) 2 [(0, .ref l0), (1, .int (0 : Int32))] [] h
  refine itr_ind (s0 := ((0 : Int32), h)) (fun s : Int32 × jx_H => s.1.toNatClampNeg ≤ 12 → jx_J X (3 * s.1.toNatClampNeg) (163 * s.1.toNatClampNeg) 2 [(0, .ref l0), (1, .int s.1)] [] s.2) e ?_ (Nat.le_of_ble_eq_true rfl)
  clear e
  intro s kI1 kT1 e0 hz12
  obtain ⟨z22, h23⟩ := s
  obtain ⟨u1, e0_1⟩ := e0
  have e : LX8_makeMonomialTables_2 l0 z22 h23 = some u1 := e0_1
  have b39 : ∀ (y24 : Int32) (h25 : jx_H), 0 ≤ y24 ∧ y24 < 12 → BX8_makeMonomialTables_39 l0 y24 h25 = some u1 → jx_J X (3 * y24.toNatClampNeg + 3) (163 * y24.toNatClampNeg + 163) 39 [(0, .ref l0), (1, .int y24)] [] h25 := by
    intro y24 h25 hy e
    have hy1 := mm_nat hy.1 hy.2
    have hy2 := mm_succ hy.1 hy.2
    unfold BX8_makeMonomialTables_39 at e
    refine j_aload_n C dX8_makeMonomialTables_39 rfl rfl ?_
    refine j_aload_n C dX8_makeMonomialTables_40 rfl rfl ?_
    replace e := ob e
    obtain ⟨x26, ex26, e⟩ := e
    refine j_getr (ci := 8) (RC := RX8) (T := TX8) (N := 15) 11 C rfl klX8 (Nat.le_of_ble_eq_true rfl) kX8_43 rfl dX8_makeMonomialTables_41 ex26 ?_
    refine j_iload_n C dX8_makeMonomialTables_44 rfl rfl ?_
    replace e := ob e
    obtain ⟨x27, ex27, e⟩ := e
    refine j_aald C dX8_makeMonomialTables_45 ex27 ?_
    refine j_aload_n C dX8_makeMonomialTables_46 rfl rfl ?_
    replace e := ob e
    obtain ⟨x28, ex28, e⟩ := e
    refine j_getr (ci := 8) (RC := RX8) (T := TX8) (N := 15) 0 C rfl klX8 (Nat.le_of_ble_eq_true rfl) kX8_51 rfl dX8_makeMonomialTables_47 ex28 ?_
    replace e := ob e
    obtain ⟨x29, ex29, e⟩ := e
    refine j_getr (ci := 5) (RC := RX5) (T := TX5) (N := 12) 3 C rfl klX5 (Nat.le_of_ble_eq_true rfl) kX8_144 rfl dX8_makeMonomialTables_50 ex29 ?_
    refine j_iload_n C dX8_makeMonomialTables_53 rfl rfl ?_
    replace e := ob e
    obtain ⟨x30, ex30, e⟩ := e
    refine j_iald C dX8_makeMonomialTables_54 ex30 ?_
    refine j_aload_n C dX8_makeMonomialTables_55 rfl rfl ?_
    replace e := ob e
    obtain ⟨x31, ex31, e⟩ := e
    refine j_getr (ci := 8) (RC := RX8) (T := TX8) (N := 15) 0 C rfl klX8 (Nat.le_of_ble_eq_true rfl) kX8_51 rfl dX8_makeMonomialTables_56 ex31 ?_
    replace e := ob e
    obtain ⟨x32, ex32, e⟩ := e
    refine j_getr (ci := 5) (RC := RX5) (T := TX5) (N := 12) 4 C rfl klX5 (Nat.le_of_ble_eq_true rfl) kX8_147 rfl dX8_makeMonomialTables_59 ex32 ?_
    refine j_iload_n C dX8_makeMonomialTables_62 rfl rfl ?_
    replace e := ob e
    obtain ⟨x33, ex33, e⟩ := e
    refine j_iald C dX8_makeMonomialTables_63 ex33 ?_
    rcases eq34 : x27 with _ | q34
    · exact nos (ocn eq34 e)
    replace e := ocs eq34 e
    replace e := ob e
    obtain ⟨_, eo35, e⟩ := e
    replace e := ob e
    obtain ⟨h36, eh36, e⟩ := e
    refine j_callV (ci := 8) (RC := RX8) (T := TX8) (N := 15) (As := [.ref q34, .int x30, .int x33]) (b := l0) (na := 3) (st := []) (k1 := 3 * y24.toNatClampNeg + 3) (n1 := 163 * y24.toNatClampNeg + 163) C hr (sX8_makeMonomialTable eh36) rfl eo35 kX8_150 kim_X8_makeMonomialTable ksel_X8_makeMonomialTable kini_X8 kc_X8_makeMonomialTable (by decide) rfl ⟨(Nat.le_of_ble_eq_true rfl), (Nat.le_of_ble_eq_true rfl)⟩ (Nat.le_of_ble_eq_true rfl) ⟨rfl, rfl, (by show _ ≤ 36; omega), (by show _ ≤ 1956; omega)⟩ dX8_makeMonomialTables_64 ?_
    rintro _ _ ⟨rfl, rfl⟩
    show jx_J X (3 * y24.toNatClampNeg + 3) (163 * y24.toNatClampNeg + 163) 67 [(0, .ref l0), (1, .int y24)] [] h36
    refine j_iinc (v := (y24 + (1 : Int32))) (lv1 := [(1, .int (y24 + (1 : Int32))), (0, .ref l0)]) C hL dX8_makeMonomialTables_67 rfl rfl (Nat.le_of_ble_eq_true rfl) rfl ?_
    refine j_goto (tgt := 2) C dX8_makeMonomialTables_70 (by decide) ?_
    obtain rfl := Option.some.inj e
    refine jx_sub (lv' := [(0, .ref l0), (1, .int (y24 + (1 : Int32)))]) [1, 0] rfl ?_
    refine jx_widen (k1 := 3 * (y24 + 1).toNatClampNeg) (n1 := 163 * (y24 + 1).toNatClampNeg) (by rw [hy2]; omega) (by rw [hy2]; omega) ?_
    exact kI1 ((y24 + (1 : Int32)), h36) e0_1 (by show (y24 + 1).toNatClampNeg ≤ 12; omega)
  unfold LX8_makeMonomialTables_2 at e
  show jx_J X (3 * z22.toNatClampNeg) (163 * z22.toNatClampNeg) 2 [(0, .ref l0), (1, .int z22)] [] h23
  refine j_iload_n C dX8_makeMonomialTables_2 rfl rfl ?_
  refine j_aload_n C dX8_makeMonomialTables_3 rfl rfl ?_
  replace e := ob e
  obtain ⟨x37, ex37, e⟩ := e
  refine j_getr (ci := 8) (RC := RX8) (T := TX8) (N := 15) 0 C rfl klX8 (Nat.le_of_ble_eq_true rfl) kX8_51 rfl dX8_makeMonomialTables_4 ex37 ?_
  replace e := ob e
  obtain ⟨x38, ex38, e⟩ := e
  refine j_geti (ci := 5) (RC := RX5) (T := TX5) (N := 12) 2 C rfl klX5 (Nat.le_of_ble_eq_true rfl) kX8_110 rfl dX8_makeMonomialTables_7 ex38 ?_
  refine j_icmp_ge (tgt := 73) C dX8_makeMonomialTables_10 (by decide) (fun c46 => ?_) (fun c46 => ?_)
  · replace e := ifp c46 e
    obtain ⟨t1, e1, eu⟩ := exL_spec e
    obtain rfl := kT1 t1 (e0_1.trans (congrArg some eu))
    replace e := e1
    cases e
    exact j_vret C hq dX8_makeMonomialTables_73 ⟨by show _ ≤ 36; have : z22.toNatClampNeg ≤ 12 := hz12; omega, by show _ ≤ 1956; have : z22.toNatClampNeg ≤ 12 := hz12; omega⟩ ⟨rfl, rfl⟩
  · replace e := ifn c46 e
    by_cases hg : ¬ (0 ≤ z22 ∧ z22 < 12)
    · exact nos (ifp hg e)
    replace e := ifn hg e
    have hg := Classical.not_not.mp hg
    have hy1 := mm_nat hg.1 hg.2
    refine j_aload_n C dX8_makeMonomialTables_13 rfl rfl ?_
    replace e := ob e
    obtain ⟨x39, ex39, e⟩ := e
    refine j_getr (ci := 8) (RC := RX8) (T := TX8) (N := 15) 11 C rfl klX8 (Nat.le_of_ble_eq_true rfl) kX8_43 rfl dX8_makeMonomialTables_14 ex39 ?_
    refine j_iload_n C dX8_makeMonomialTables_17 rfl rfl ?_
    replace e := ob e
    obtain ⟨x40, ex40, e⟩ := e
    refine j_aald C dX8_makeMonomialTables_18 ex40 ?_
    refine j_ifnonnull (tgt := 39) C dX8_makeMonomialTables_19 (by decide) (fun q41 eq41 => ?_) (fun eq41 => ?_)
    · replace e := ocs eq41 e
      subst eq41
      refine jx_widen (k1 := 3 * z22.toNatClampNeg + 3) (n1 := 163 * z22.toNatClampNeg + 163) (by omega) (by omega) ?_
      exact b39 z22 h23 hg e
    · replace e := ocn eq41 e
      refine j_aload_n C dX8_makeMonomialTables_22 rfl rfl ?_
      replace e := ob e
      obtain ⟨x42, ex42, e⟩ := e
      refine j_getr (ci := 8) (RC := RX8) (T := TX8) (N := 15) 11 C rfl klX8 (Nat.le_of_ble_eq_true rfl) kX8_43 rfl dX8_makeMonomialTables_23 ex42 ?_
      refine j_iload_n C dX8_makeMonomialTables_26 rfl rfl ?_
      replace e := ob e
      obtain ⟨h43, eh43, e⟩ := e
      refine j_new (ci := 2) (RC := RX2) (T := TX2) (N := 7) (ty0 := tyX2) (fs := fsX2) C hr rfl klX2 tyX2_ok kX8_28 kins_X2 kini_X2 fsX2_ok dX8_makeMonomialTables_27 eh43 ⟨by show _ ≤ 36; omega, by show _ ≤ 1956; omega⟩ ?_
      refine j_dup C dX8_makeMonomialTables_30 rfl ?_
      refine j_bipush (v := (12 : Int32)) C dX8_makeMonomialTables_31 (by decide) ?_
      refine j_bipush (v := (12 : Int32)) C dX8_makeMonomialTables_33 (by decide) ?_
      replace e := ob e
      obtain ⟨h44, eh44, e⟩ := e
      refine j_callI (As := [.int (12 : Int32), .int (12 : Int32)]) (b := h23.1) (na := 2) (st := [.ref h23.1, .int z22, .ref x42]) (k1 := 3 * z22.toNatClampNeg + 3) (n1 := 163 * z22.toNatClampNeg + 163) C hr (sX2_init eh44) kX8_30 kim_X2_init kini_X2 kc_X2_init (by decide) rfl ⟨(Nat.le_of_ble_eq_true rfl), (Nat.le_of_ble_eq_true rfl)⟩ (Nat.le_of_ble_eq_true rfl) ⟨rfl, rfl, (by show _ ≤ 36; omega), (by show _ ≤ 1956; omega)⟩ dX8_makeMonomialTables_35 ?_
      rintro _ _ ⟨rfl, rfl⟩
      show jx_J X (3 * z22.toNatClampNeg + 3) (163 * z22.toNatClampNeg + 163) 38 [(0, .ref l0), (1, .int z22)] [.ref h23.1, .int z22, .ref x42] h44
      replace e := ob e
      obtain ⟨h45, eh45, e⟩ := e
      refine j_aast (ci := 2) (T := TX2) (N0 := 7) C rfl dX8_makeMonomialTables_38 eh45 ?_
      exact b39 z22 h45 hg e
/-! BorderBasis$Zeros.fillForm()V -/
noncomputable def BX8_fillForm_106 (l0 : Nat) (l1 : Int32) (l2 : Int32) (h : jx_H) : Option ((Int32 × jx_H) ⊕ ((Int32 × jx_H) ⊕ (jx_H))) :=
some (.inl ((l2 + (1 : Int32)), h))
noncomputable def LX8_fillForm_40 (l0 : Nat) (l1 : Int32) (l2 : Int32) (h : jx_H) : Option ((Int32 × jx_H) ⊕ ((Int32 × jx_H) ⊕ (jx_H))) :=
if l1 < l2 then
 exL (some (.inl ((l1 + (1 : Int32)), h)))
else
 (hgr h l0 8 11).bind fun x12 =>
 (hql h "BorderBasis$Matrix" x12 l1).bind fun x13 =>
 (hgr h l0 8 11).bind fun x14 =>
 (hql h "BorderBasis$Matrix" x14 l2).bind fun x15 =>
 oc x13 (
  BX8_fillForm_106 l0 l1 l2 h) fun q16 =>
  oc x15 (
   BX8_fillForm_106 l0 l1 l2 h) fun q17 =>
   (hgr h l0 8 0).bind fun x18 =>
   (hgi h x18 5 0).bind fun x19 =>
   (isO h q16 2).bind fun _ =>
   (FX2_traceOfProduct q16 q17 x19 h).bind fun x21 =>
   (hgr h l0 8 10).bind fun x22 =>
   (isO h x22 2).bind fun _ =>
   (FX2_put x22 l1 l2 x21 h).bind fun h24 =>
   (hgr h24 l0 8 10).bind fun x25 =>
   (isO h24 x25 2).bind fun _ =>
   (FX2_put x25 l2 l1 x21 h24).bind fun h27 =>
   BX8_fillForm_106 l0 l1 l2 h27
noncomputable def LX8_fillForm_27 (l0 : Nat) (l1 : Int32) (h : jx_H) : Option ((Int32 × jx_H) ⊕ (jx_H)) :=
(hgr h l0 8 0).bind fun x10 =>
(hgi h x10 5 2).bind fun x11 =>
if x11 ≤ l1 then
 exL (some h)
else
 itr (fun s : Int32 × jx_H => LX8_fillForm_40 l0 l1 s.1 s.2) ((0 : Int32), h)
noncomputable def FX8_fillForm (l0 : Nat) (h : jx_H) : Option (jx_H) :=
(isO h l0 8).bind fun _ =>
(FX8_makeMonomialTables l0 h).bind fun h2 =>
(hgr h2 l0 8 10).bind fun x3 =>
(hgr h2 l0 8 0).bind fun x4 =>
(hgi h2 x4 5 2).bind fun x5 =>
(hgr h2 l0 8 0).bind fun x6 =>
(hgi h2 x6 5 2).bind fun x7 =>
(isO h2 x3 2).bind fun _ =>
(FX2_clear x3 x5 x7 h2).bind fun h9 =>
itr (fun s : Int32 × jx_H => LX8_fillForm_27 l0 s.1 s.2) ((0 : Int32), h9)
def rmX8_fillForm : Room := { frames := 5, cells := 36, slots := 1956, locals := 119 }
set_option maxRecDepth 20000 in
set_option maxHeartbeats 4000000 in
theorem sX8_fillForm {l0 : Nat} {h : jx_H} {h9 : jx_H} (e : FX8_fillForm l0 h = some h9) : jx_Ct yX8_fillForm cX8_fillForm 6 none rmX8_fillForm [.ref l0] h (fun r' h' => none = r' ∧ h9 = h') := by
  refine jx_Ct.of (own := RX8) (by decide) rfl (Nat.le_of_ble_eq_true rfl) (fun X C hq hr hL hN => ?_)
  refine jx_sub (lv' := [(0, .ref l0)]) [0] rfl ?_
  unfold FX8_fillForm at e
  refine j_aload_n C dX8_fillForm_0 rfl rfl ?_
  replace e := ob e
  obtain ⟨_, eo30, e⟩ := e
  replace e := ob e
  obtain ⟨h31, eh31, e⟩ := e
  refine j_callV (ci := 8) (RC := RX8) (T := TX8) (N := 15) (As := []) (b := l0) (na := 0) (st := []) (k1 := 36) (n1 := 1956) C hr (sX8_makeMonomialTables eh31) rfl eo30 kX8_134 kim_X8_makeMonomialTables ksel_X8_makeMonomialTables kini_X8 kc_X8_makeMonomialTables (by decide) rfl ⟨(Nat.le_of_ble_eq_true rfl), (Nat.le_of_ble_eq_true rfl)⟩ (Nat.le_of_ble_eq_true rfl) ⟨rfl, rfl, (Nat.le_of_ble_eq_true rfl), (Nat.le_of_ble_eq_true rfl)⟩ dX8_fillForm_1 ?_
  rintro _ _ ⟨rfl, rfl⟩
  show jx_J X 36 1956 4 [(0, .ref l0)] [] h31
  refine j_aload_n C dX8_fillForm_4 rfl rfl ?_
  replace e := ob e
  obtain ⟨x32, ex32, e⟩ := e
  refine j_getr (ci := 8) (RC := RX8) (T := TX8) (N := 15) 10 C rfl klX8 (Nat.le_of_ble_eq_true rfl) kX8_40 rfl dX8_fillForm_5 ex32 ?_
  refine j_aload_n C dX8_fillForm_8 rfl rfl ?_
  replace e := ob e
  obtain ⟨x33, ex33, e⟩ := e
  refine j_getr (ci := 8) (RC := RX8) (T := TX8) (N := 15) 0 C rfl klX8 (Nat.le_of_ble_eq_true rfl) kX8_51 rfl dX8_fillForm_9 ex33 ?_
  replace e := ob e
  obtain ⟨x34, ex34, e⟩ := e
  refine j_geti (ci := 5) (RC := RX5) (T := TX5) (N := 12) 2 C rfl klX5 (Nat.le_of_ble_eq_true rfl) kX8_110 rfl dX8_fillForm_12 ex34 ?_
  refine j_aload_n C dX8_fillForm_15 rfl rfl ?_
  replace e := ob e
  obtain ⟨x35, ex35, e⟩ := e
  refine j_getr (ci := 8) (RC := RX8) (T := TX8) (N := 15) 0 C rfl klX8 (Nat.le_of_ble_eq_true rfl) kX8_51 rfl dX8_fillForm_16 ex35 ?_
  replace e := ob e
  obtain ⟨x36, ex36, e⟩ := e
  refine j_geti (ci := 5) (RC := RX5) (T := TX5) (N := 12) 2 C rfl klX5 (Nat.le_of_ble_eq_true rfl) kX8_110 rfl dX8_fillForm_19 ex36 ?_
  replace e := ob e
  obtain ⟨_, eo37, e⟩ := e
  replace e := ob e
  obtain ⟨h38, eh38, e⟩ := e
  refine j_callV (ci := 2) (RC := RX2) (T := TX2) (N := 7) (As := [.int x34, .int x36]) (b := x32) (na := 2) (st := []) (k1 := 36) (n1 := 1956) C hr (sX2_clear eh38) rfl eo37 kX8_113 kim_X2_clear ksel_X2_clear kini_X2 kc_X2_clear (by decide) rfl ⟨(Nat.le_of_ble_eq_true rfl), (Nat.le_of_ble_eq_true rfl)⟩ (Nat.le_of_ble_eq_true rfl) ⟨rfl, rfl, (Nat.le_of_ble_eq_true rfl), (Nat.le_of_ble_eq_true rfl)⟩ dX8_fillForm_22 ?_
  rintro _ _ ⟨rfl, rfl⟩
  show jx_J X 36 1956 25 [(0, .ref l0)] [] h38
  refine j_iconst (v := (0 : Int32)) C dX8_fillForm_25 (by decide) ?_
  refine j_istore_n (lv1 := [(1, .int (0 : Int32)), (0, .ref l0)]) C hL dX8_fillForm_26 rfl (Nat.le_of_ble_eq_true rfl) rfl ?_
  refine jx_sub (lv' := [(0, .ref l0), (1, .int (0 : Int32))]) [1, 0] rfl ?_
  refine itr_ind (s0 := ((0 : Int32), h38)) (fun s : Int32 × jx_H => jx_J X 36 1956 27 [(0, .ref l0), (1, .int s.1)] [] s.2) e ?_
  clear e
  intro s kI3 kT3 e0
  obtain ⟨z39, h40⟩ := s
  obtain ⟨u3, e0_3⟩ := e0
  have e : LX8_fillForm_27 l0 z39 h40 = some u3 := e0_3
  unfold LX8_fillForm_27 at e
  refine j_iload_n C dX8_fillForm_27 rfl rfl ?_
  refine j_aload_n C dX8_fillForm_28 rfl rfl ?_
  replace e := ob e
  obtain ⟨x41, ex41, e⟩ := e
  refine j_getr (ci := 8) (RC := RX8) (T := TX8) (N := 15) 0 C rfl klX8 (Nat.le_of_ble_eq_true rfl) kX8_51 rfl dX8_fillForm_29 ex41 ?_
  replace e := ob e
  obtain ⟨x42, ex42, e⟩ := e
  refine j_geti (ci := 5) (RC := RX5) (T := TX5) (N := 12) 2 C rfl klX5 (Nat.le_of_ble_eq_true rfl) kX8_110 rfl dX8_fillForm_32 ex42 ?_
  refine j_icmp_ge (tgt := 118) C dX8_fillForm_35 (by decide) (fun c64 => ?_) (fun c64 => ?_)
  · replace e := ifp c64 e
    obtain ⟨t_4, e_4, eu_4⟩ := exL_spec e
    obtain rfl := kT3 t_4 (e0_3.trans (congrArg some eu_4))
    replace e := e_4
    cases e
    exact j_vret C hq dX8_fillForm_118 ⟨Nat.le_of_ble_eq_true rfl, Nat.le_of_ble_eq_true rfl⟩ ⟨rfl, rfl⟩
  · replace e := ifn c64 e
    refine j_iconst (v := (0 : Int32)) C dX8_fillForm_38 (by decide) ?_
    refine j_istore_n (lv1 := [(2, .int (0 : Int32)), (0, .ref l0), (1, .int z39)]) C hL dX8_fillForm_39 rfl (Nat.le_of_ble_eq_true rfl) rfl ?_
    refine jx_sub (lv' := [(0, .ref l0), (1, .int z39), (2, .int (0 : Int32))]) [1, 2, 0] rfl ?_
    refine itr_ind (s0 := ((0 : Int32), h40)) (fun s : Int32 × jx_H => jx_J X 36 1956 40 [(0, .ref l0), (1, .int z39), (2, .int s.1)] [] s.2) e ?_
    clear e
    intro s kI5 kT5 e0
    obtain ⟨z43, h44⟩ := s
    obtain ⟨u5, e0_5⟩ := e0
    have e : LX8_fillForm_40 l0 z39 z43 h44 = some u5 := e0_5
    have b106 : ∀ (y45 : Int32) (h46 : jx_H), BX8_fillForm_106 l0 z39 y45 h46 = some u5 → jx_J X 36 1956 106 [(0, .ref l0), (1, .int z39), (2, .int y45)] [] h46 := by
      intro y45 h46 e
      unfold BX8_fillForm_106 at e
      refine j_iinc (v := (y45 + (1 : Int32))) (lv1 := [(2, .int (y45 + (1 : Int32))), (0, .ref l0), (1, .int z39)]) C hL dX8_fillForm_106 rfl rfl (Nat.le_of_ble_eq_true rfl) rfl ?_
      refine j_goto (tgt := 40) C dX8_fillForm_109 (by decide) ?_
      obtain rfl := Option.some.inj e
      refine jx_sub (lv' := [(0, .ref l0), (1, .int z39), (2, .int (y45 + (1 : Int32)))]) [1, 2, 0] rfl ?_
      exact kI5 ((y45 + (1 : Int32)), h46) e0_5
    unfold LX8_fillForm_40 at e
    refine j_iload_n C dX8_fillForm_40 rfl rfl ?_
    refine j_iload_n C dX8_fillForm_41 rfl rfl ?_
    refine j_icmp_gt (tgt := 112) C dX8_fillForm_42 (by decide) (fun c63 => ?_) (fun c63 => ?_)
    · replace e := ifp c63 e
      obtain ⟨t_6, e_6, eu_6⟩ := exL_spec e
      obtain rfl := kT5 t_6 (e0_5.trans (congrArg some eu_6))
      replace e := e_6
      refine j_iinc (v := (z39 + (1 : Int32))) (lv1 := [(1, .int (z39 + (1 : Int32))), (0, .ref l0), (2, .int z43)]) C hL dX8_fillForm_112 rfl rfl (Nat.le_of_ble_eq_true rfl) rfl ?_
      refine j_goto (tgt := 27) C dX8_fillForm_115 (by decide) ?_
      obtain rfl := Option.some.inj e
      refine jx_sub (lv' := [(0, .ref l0), (1, .int (z39 + (1 : Int32)))]) [1, 0] rfl ?_
      exact kI3 ((z39 + (1 : Int32)), h44) e0_3
    · replace e := ifn c63 e
      refine j_aload_n C dX8_fillForm_45 rfl rfl ?_
      replace e := ob e
      obtain ⟨x47, ex47, e⟩ := e
      refine j_getr (ci := 8) (RC := RX8) (T := TX8) (N := 15) 11 C rfl klX8 (Nat.le_of_ble_eq_true rfl) kX8_43 rfl dX8_fillForm_46 ex47 ?_
      refine j_iload_n C dX8_fillForm_49 rfl rfl ?_
      replace e := ob e
      obtain ⟨x48, ex48, e⟩ := e
      refine j_aald C dX8_fillForm_50 ex48 ?_
      refine j_astore_nQ (lv1 := [(3, va_rf x48), (0, .ref l0), (1, .int z39), (2, .int z43)]) C hL dX8_fillForm_51 rfl (Nat.le_of_ble_eq_true rfl) rfl ?_
      refine j_aload_n C dX8_fillForm_52 rfl rfl ?_
      replace e := ob e
      obtain ⟨x49, ex49, e⟩ := e
      refine j_getr (ci := 8) (RC := RX8) (T := TX8) (N := 15) 11 C rfl klX8 (Nat.le_of_ble_eq_true rfl) kX8_43 rfl dX8_fillForm_53 ex49 ?_
      refine j_iload_n C dX8_fillForm_56 rfl rfl ?_
      replace e := ob e
      obtain ⟨x50, ex50, e⟩ := e
      refine j_aald C dX8_fillForm_57 ex50 ?_
      refine j_astoreQ (lv1 := [(4, va_rf x50), (3, va_rf x48), (0, .ref l0), (1, .int z39), (2, .int z43)]) C hL dX8_fillForm_58 (Nat.le_of_ble_eq_true rfl) (by rcases x48 with _ | _ <;> rfl) ?_
      refine j_aload_nQ C dX8_fillForm_60 rfl rfl ?_
      refine j_ifnull (tgt := 106) C dX8_fillForm_61 (by decide) (fun eq51 => ?_) (fun q51 eq51 => ?_)
      · replace e := ocn eq51 e
        refine jx_sub (lv' := [(0, .ref l0), (1, .int z39), (2, .int z43)]) [2, 3, 4] rfl ?_
        exact b106 z43 h44 e
      · replace e := ocs eq51 e
        subst eq51
        refine j_aloadQ C dX8_fillForm_64 rfl ?_
        refine j_ifnull (tgt := 106) C dX8_fillForm_66 (by decide) (fun eq52 => ?_) (fun q52 eq52 => ?_)
        · replace e := ocn eq52 e
          refine jx_sub (lv' := [(0, .ref l0), (1, .int z39), (2, .int z43)]) [2, 3, 4] rfl ?_
          exact b106 z43 h44 e
        · replace e := ocs eq52 e
          subst eq52
          refine j_aload_n C dX8_fillForm_69 rfl rfl ?_
          refine j_aload C dX8_fillForm_70 rfl ?_
          refine j_aload_n C dX8_fillForm_72 rfl rfl ?_
          replace e := ob e
          obtain ⟨x53, ex53, e⟩ := e
          refine j_getr (ci := 8) (RC := RX8) (T := TX8) (N := 15) 0 C rfl klX8 (Nat.le_of_ble_eq_true rfl) kX8_51 rfl dX8_fillForm_73 ex53 ?_
          replace e := ob e
          obtain ⟨x54, ex54, e⟩ := e
          refine j_geti (ci := 5) (RC := RX5) (T := TX5) (N := 12) 0 C rfl klX5 (Nat.le_of_ble_eq_true rfl) kX8_82 rfl dX8_fillForm_76 ex54 ?_
          replace e := ob e
          obtain ⟨_, eo55, e⟩ := e
          replace e := ob e
          obtain ⟨x56, ex56, e⟩ := e
          refine j_callV (ci := 2) (RC := RX2) (T := TX2) (N := 7) (As := [.ref q52, .int x54]) (b := q51) (na := 2) (st := []) (k1 := 36) (n1 := 1956) C hr (sX2_traceOfProduct ex56) rfl eo55 kX8_137 kim_X2_traceOfProduct ksel_X2_traceOfProduct kini_X2 kc_X2_traceOfProduct (by decide) rfl ⟨(Nat.le_of_ble_eq_true rfl), (Nat.le_of_ble_eq_true rfl)⟩ (Nat.le_of_ble_eq_true rfl) ⟨rfl, rfl, (Nat.le_of_ble_eq_true rfl), (Nat.le_of_ble_eq_true rfl)⟩ dX8_fillForm_79 ?_
          rintro _ _ ⟨rfl, rfl⟩
          show jx_J X 36 1956 82 [(4, .ref q52), (3, .ref q51), (0, .ref l0), (1, .int z39), (2, .int z43)] [.int x56] h44
          refine j_istore (lv1 := [(5, .int x56), (4, .ref q52), (3, .ref q51), (0, .ref l0), (1, .int z39), (2, .int z43)]) C hL dX8_fillForm_82 (Nat.le_of_ble_eq_true rfl) rfl ?_
          refine j_aload_n C dX8_fillForm_84 rfl rfl ?_
          replace e := ob e
          obtain ⟨x57, ex57, e⟩ := e
          refine j_getr (ci := 8) (RC := RX8) (T := TX8) (N := 15) 10 C rfl klX8 (Nat.le_of_ble_eq_true rfl) kX8_40 rfl dX8_fillForm_85 ex57 ?_
          refine j_iload_n C dX8_fillForm_88 rfl rfl ?_
          refine j_iload_n C dX8_fillForm_89 rfl rfl ?_
          refine j_iload C dX8_fillForm_90 rfl ?_
          replace e := ob e
          obtain ⟨_, eo58, e⟩ := e
          replace e := ob e
          obtain ⟨h59, eh59, e⟩ := e
          refine j_callV (ci := 2) (RC := RX2) (T := TX2) (N := 7) (As := [.int z39, .int z43, .int x56]) (b := x57) (na := 3) (st := []) (k1 := 36) (n1 := 1956) C hr (sX2_put eh59) rfl eo58 kX8_141 kim_X2_put ksel_X2_put kini_X2 kc_X2_put (by decide) rfl ⟨(Nat.le_of_ble_eq_true rfl), (Nat.le_of_ble_eq_true rfl)⟩ (Nat.le_of_ble_eq_true rfl) ⟨rfl, rfl, (Nat.le_of_ble_eq_true rfl), (Nat.le_of_ble_eq_true rfl)⟩ dX8_fillForm_92 ?_
          rintro _ _ ⟨rfl, rfl⟩
          show jx_J X 36 1956 95 [(5, .int x56), (4, .ref q52), (3, .ref q51), (0, .ref l0), (1, .int z39), (2, .int z43)] [] h59
          refine j_aload_n C dX8_fillForm_95 rfl rfl ?_
          replace e := ob e
          obtain ⟨x60, ex60, e⟩ := e
          refine j_getr (ci := 8) (RC := RX8) (T := TX8) (N := 15) 10 C rfl klX8 (Nat.le_of_ble_eq_true rfl) kX8_40 rfl dX8_fillForm_96 ex60 ?_
          refine j_iload_n C dX8_fillForm_99 rfl rfl ?_
          refine j_iload_n C dX8_fillForm_100 rfl rfl ?_
          refine j_iload C dX8_fillForm_101 rfl ?_
          replace e := ob e
          obtain ⟨_, eo61, e⟩ := e
          replace e := ob e
          obtain ⟨h62, eh62, e⟩ := e
          refine j_callV (ci := 2) (RC := RX2) (T := TX2) (N := 7) (As := [.int z43, .int z39, .int x56]) (b := x60) (na := 3) (st := []) (k1 := 36) (n1 := 1956) C hr (sX2_put eh62) rfl eo61 kX8_141 kim_X2_put ksel_X2_put kini_X2 kc_X2_put (by decide) rfl ⟨(Nat.le_of_ble_eq_true rfl), (Nat.le_of_ble_eq_true rfl)⟩ (Nat.le_of_ble_eq_true rfl) ⟨rfl, rfl, (Nat.le_of_ble_eq_true rfl), (Nat.le_of_ble_eq_true rfl)⟩ dX8_fillForm_103 ?_
          rintro _ _ ⟨rfl, rfl⟩
          show jx_J X 36 1956 106 [(5, .int x56), (4, .ref q52), (3, .ref q51), (0, .ref l0), (1, .int z39), (2, .int z43)] [] h62
          refine jx_sub (lv' := [(0, .ref l0), (1, .int z39), (2, .int z43)]) [3, 4, 5] rfl ?_
          exact b106 z43 h62 e
/-! BorderBasis$Zeros.distinctEverywhere()I -/
noncomputable def BX8_distinctEverywhere_37 (l0 : Nat) (h : jx_H) : Option (Int32 × jx_H) :=
(hgi h l0 8 14).bind fun x1 =>
some (x1, h)
noncomputable def FX8_distinctEverywhere (l0 : Nat) (h : jx_H) : Option (Int32 × jx_H) :=
(hgi h l0 8 14).bind fun x2 =>
if x2 = (-1 : Int32) then
 (hgr h l0 8 1).bind fun x3 =>
 (isO h x3 6).bind fun _ =>
 (FX6_prepare x3 h).bind fun h5 =>
 (isO h5 l0 8).bind fun _ =>
 (FX8_fillForm l0 h5).bind fun h7 =>
 (hgr h7 l0 8 10).bind fun x8 =>
 (hgr h7 l0 8 0).bind fun x9 =>
 (hgi h7 x9 5 0).bind fun x10 =>
 (isO h7 x8 2).bind fun _ =>
 bind2 (FX2_reduceRows x8 x10 h7) fun x12 h13 =>
 (hp h13 l0 8 14 (.int x12)).bind fun h14 =>
 BX8_distinctEverywhere_37 l0 h14
else
 BX8_distinctEverywhere_37 l0 h
def rmX8_distinctEverywhere : Room := { frames := 6, cells := 36, slots := 1956, locals := 144 }
set_option maxRecDepth 20000 in
set_option maxHeartbeats 4000000 in
theorem sX8_distinctEverywhere {l0 : Nat} {h : jx_H} {r : Int32} {h9 : jx_H} (e : FX8_distinctEverywhere l0 h = some (r, h9)) : jx_Ct yX8_distinctEverywhere cX8_distinctEverywhere 1 (some .int) rmX8_distinctEverywhere [.ref l0] h (fun r' h' => some (.int r) = r' ∧ h9 = h') := by
  refine jx_Ct.of (own := RX8) (by decide) rfl (Nat.le_of_ble_eq_true rfl) (fun X C hq hr hL hN => ?_)
  refine jx_sub (lv' := [(0, .ref l0)]) [0] rfl ?_
  have b37 : ∀ (y16 : Nat) (h17 : jx_H), BX8_distinctEverywhere_37 y16 h17 = some (r, h9) → jx_J X 36 1956 37 [(0, .ref y16)] [] h17 := by
    intro y16 h17 e
    unfold BX8_distinctEverywhere_37 at e
    refine j_aload_n C dX8_distinctEverywhere_37 rfl rfl ?_
    replace e := ob e
    obtain ⟨x18, ex18, e⟩ := e
    refine j_geti (ci := 8) (RC := RX8) (T := TX8) (N := 15) 14 C rfl klX8 (Nat.le_of_ble_eq_true rfl) kX8_47 rfl dX8_distinctEverywhere_38 ex18 ?_
    cases e
    exact j_iret C hq rfl dX8_distinctEverywhere_41 ⟨Nat.le_of_ble_eq_true rfl, Nat.le_of_ble_eq_true rfl⟩ ⟨rfl, rfl⟩
  unfold FX8_distinctEverywhere at e
  refine j_aload_n C dX8_distinctEverywhere_0 rfl rfl ?_
  replace e := ob e
  obtain ⟨x19, ex19, e⟩ := e
  refine j_geti (ci := 8) (RC := RX8) (T := TX8) (N := 15) 14 C rfl klX8 (Nat.le_of_ble_eq_true rfl) kX8_47 rfl dX8_distinctEverywhere_1 ex19 ?_
  refine j_iconst (v := (-1 : Int32)) C dX8_distinctEverywhere_4 (by decide) ?_
  refine j_icmp_ne (tgt := 37) C dX8_distinctEverywhere_5 (by decide) (fun c32 => ?_) (fun c32 => ?_)
  · replace e := ifn c32 e
    refine jx_widen (k1 := 36) (n1 := 1956) (Nat.le_of_ble_eq_true rfl) (Nat.le_of_ble_eq_true rfl) ?_
    exact b37 l0 h e
  · replace e := ifp c32 e
    refine j_aload_n C dX8_distinctEverywhere_8 rfl rfl ?_
    replace e := ob e
    obtain ⟨x20, ex20, e⟩ := e
    refine j_getr (ci := 8) (RC := RX8) (T := TX8) (N := 15) 1 C rfl klX8 (Nat.le_of_ble_eq_true rfl) kX8_55 rfl dX8_distinctEverywhere_9 ex20 ?_
    replace e := ob e
    obtain ⟨_, eo21, e⟩ := e
    replace e := ob e
    obtain ⟨h22, eh22, e⟩ := e
    refine j_callV (ci := 6) (RC := RX6) (T := TX6) (N := 17) (As := []) (b := x20) (na := 0) (st := []) (k1 := 0) (n1 := 0) C hr (sX6_prepare eh22) rfl eo21 kX8_73 kim_X6_prepare ksel_X6_prepare kini_X6 kc_X6_prepare (by decide) rfl ⟨(Nat.le_of_ble_eq_true rfl), (Nat.le_of_ble_eq_true rfl)⟩ (Nat.le_of_ble_eq_true rfl) ⟨rfl, rfl, (Nat.le_of_ble_eq_true rfl), (Nat.le_of_ble_eq_true rfl)⟩ dX8_distinctEverywhere_12 ?_
    rintro _ _ ⟨rfl, rfl⟩
    show jx_J X 0 0 15 [(0, .ref l0)] [] h22
    refine j_aload_n C dX8_distinctEverywhere_15 rfl rfl ?_
    replace e := ob e
    obtain ⟨_, eo23, e⟩ := e
    replace e := ob e
    obtain ⟨h24, eh24, e⟩ := e
    refine j_callV (ci := 8) (RC := RX8) (T := TX8) (N := 15) (As := []) (b := l0) (na := 0) (st := []) (k1 := 36) (n1 := 1956) C hr (sX8_fillForm eh24) rfl eo23 kX8_131 kim_X8_fillForm ksel_X8_fillForm kini_X8 kc_X8_fillForm (by decide) rfl ⟨(Nat.le_of_ble_eq_true rfl), (Nat.le_of_ble_eq_true rfl)⟩ (Nat.le_of_ble_eq_true rfl) ⟨rfl, rfl, (Nat.le_of_ble_eq_true rfl), (Nat.le_of_ble_eq_true rfl)⟩ dX8_distinctEverywhere_16 ?_
    rintro _ _ ⟨rfl, rfl⟩
    show jx_J X 36 1956 19 [(0, .ref l0)] [] h24
    refine j_aload_n C dX8_distinctEverywhere_19 rfl rfl ?_
    refine j_aload_n C dX8_distinctEverywhere_20 rfl rfl ?_
    replace e := ob e
    obtain ⟨x25, ex25, e⟩ := e
    refine j_getr (ci := 8) (RC := RX8) (T := TX8) (N := 15) 10 C rfl klX8 (Nat.le_of_ble_eq_true rfl) kX8_40 rfl dX8_distinctEverywhere_21 ex25 ?_
    refine j_aload_n C dX8_distinctEverywhere_24 rfl rfl ?_
    replace e := ob e
    obtain ⟨x26, ex26, e⟩ := e
    refine j_getr (ci := 8) (RC := RX8) (T := TX8) (N := 15) 0 C rfl klX8 (Nat.le_of_ble_eq_true rfl) kX8_51 rfl dX8_distinctEverywhere_25 ex26 ?_
    replace e := ob e
    obtain ⟨x27, ex27, e⟩ := e
    refine j_geti (ci := 5) (RC := RX5) (T := TX5) (N := 12) 0 C rfl klX5 (Nat.le_of_ble_eq_true rfl) kX8_82 rfl dX8_distinctEverywhere_28 ex27 ?_
    replace e := ob e
    obtain ⟨_, eo28, e⟩ := e
    replace e := ob2 e
    obtain ⟨x29, h30, ex29, e⟩ := e
    refine j_callV (ci := 2) (RC := RX2) (T := TX2) (N := 7) (As := [.int x27]) (b := x25) (na := 1) (st := [.ref l0]) (k1 := 36) (n1 := 1956) C hr (sX2_reduceRows ex29) rfl eo28 kX8_124 kim_X2_reduceRows ksel_X2_reduceRows kini_X2 kc_X2_reduceRows (by decide) rfl ⟨(Nat.le_of_ble_eq_true rfl), (Nat.le_of_ble_eq_true rfl)⟩ (Nat.le_of_ble_eq_true rfl) ⟨rfl, rfl, (Nat.le_of_ble_eq_true rfl), (Nat.le_of_ble_eq_true rfl)⟩ dX8_distinctEverywhere_31 ?_
    rintro _ _ ⟨rfl, rfl⟩
    show jx_J X 36 1956 34 [(0, .ref l0)] [.int x29, .ref l0] h30
    replace e := ob e
    obtain ⟨h31, eh31, e⟩ := e
    refine j_put (ci := 8) (RC := RX8) (T := TX8) (N := 15) (ty0 := tyX8) 14 C rfl klX8 tyX8_ok nmX8 (Nat.le_of_ble_eq_true rfl) kX8_47 rfl rfl rfl rfl dX8_distinctEverywhere_34 eh31 ?_
    exact b37 l0 h31 e
/-! BorderBasis.<init>()V -/
noncomputable def FX9_init (l0 : Nat) (h : jx_H) : Option (jx_H) :=
(hnw h 5 fsX5).bind fun h1 =>
(FX5_init h.1 h1).bind fun h2 =>
(hp h2 l0 9 0 (.ref h.1)).bind fun h3 =>
(hnw h3 5 fsX5).bind fun h4 =>
(FX5_init h3.1 h4).bind fun h5 =>
(hp h5 l0 9 1 (.ref h3.1)).bind fun h6 =>
(hnw h6 5 fsX5).bind fun h7 =>
(FX5_init h6.1 h7).bind fun h8 =>
(hp h8 l0 9 2 (.ref h6.1)).bind fun h9 =>
(hnq h9 "BorderBasis$State" (2 : Int32)).bind fun h10 =>
(hp h10 l0 9 3 (.ref h9.1)).bind fun h11 =>
(hnw h11 1 fsX1).bind fun h12 =>
(FX1_init h11.1 h12).bind fun h13 =>
(hp h13 l0 9 4 (.ref h11.1)).bind fun h14 =>
(hna h14 .int (6 : Int32)).bind fun h15 =>
(hp h15 l0 9 5 (.ref h14.1)).bind fun h16 =>
(hnw h16 4 fsX4).bind fun h17 =>
(FX4_init h16.1 h17).bind fun h18 =>
(hp h18 l0 9 6 (.ref h16.1)).bind fun h19 =>
(hnw h19 6 fsX6).bind fun h20 =>
(hgr h20 l0 9 0).bind fun x21 =>
(FX6_init h19.1 x21 h20).bind fun h22 =>
(hp h22 l0 9 7 (.ref h19.1)).bind fun h23 =>
(hnw h23 8 fsX8).bind fun h24 =>
(hgr h24 l0 9 0).bind fun x25 =>
(hgr h24 l0 9 7).bind fun x26 =>
(hgr h24 l0 9 6).bind fun x27 =>
(FX8_init h23.1 x25 x26 x27 h24).bind fun h28 =>
(hp h28 l0 9 8 (.ref h23.1)).bind fun h29 =>
(hnw h29 0 fsX0).bind fun h30 =>
(hgr h30 l0 9 6).bind fun x31 =>
(FX0_init h29.1 x31 h30).bind fun h32 =>
(hp h32 l0 9 9 (.ref h29.1)).bind fun h33 =>
(hnw h33 7 fsX7).bind fun h34 =>
(FX7_init h33.1 h34).bind fun h35 =>
(hp h35 l0 9 10 (.ref h33.1)).bind fun h36 =>
(hnw h36 3 fsX3).bind fun h37 =>
(hgr h37 l0 9 10).bind fun x38 =>
(hgr h37 l0 9 1).bind fun x39 =>
(FX3_init h36.1 x38 x39 h37).bind fun h40 =>
(hp h40 l0 9 11 (.ref h36.1)).bind fun h41 =>
(hna h41 .int (12 : Int32)).bind fun h42 =>
(hp h42 l0 9 12 (.ref h41.1)).bind fun h43 =>
(hna h43 .int (12 : Int32)).bind fun h44 =>
(hp h44 l0 9 13 (.ref h43.1)).bind fun h45 =>
some h45
def rmX9_init : Room := { frames := 6, cells := 102, slots := 6265, locals := 128 }
set_option maxRecDepth 20000 in
set_option maxHeartbeats 4000000 in
theorem sX9_init {l0 : Nat} {h : jx_H} {h9 : jx_H} (e : FX9_init l0 h = some h9) : jx_Ct yX9_init cX9_init 1 none rmX9_init [.ref l0] h (fun r' h' => none = r' ∧ h9 = h') := by
  refine jx_Ct.of (own := RX9) (by decide) rfl (Nat.le_of_ble_eq_true rfl) (fun X C hq hr hL hN => ?_)
  refine jx_sub (lv' := [(0, .ref l0)]) [0] rfl ?_
  unfold FX9_init at e
  refine j_aload_n C dX9_init_0 rfl rfl ?_
  refine j_objInit C hr kX9_3 kim_Oinit kc_Oinit dX9_init_1 (Nat.le_of_ble_eq_true rfl) (Nat.le_of_ble_eq_true rfl) ?_
  refine j_aload_n C dX9_init_4 rfl rfl ?_
  replace e := ob e
  obtain ⟨h46, eh46, e⟩ := e
  refine j_new (ci := 5) (RC := RX5) (T := TX5) (N := 12) (ty0 := tyX5) (fs := fsX5) C hr rfl klX5 tyX5_ok kX9_9 kins_X5 kini_X5 fsX5_ok dX9_init_5 eh46 ⟨Nat.le_of_ble_eq_true rfl, Nat.le_of_ble_eq_true rfl⟩ ?_
  refine jx_widen (k1 := 1) (n1 := 12) (Nat.le_of_ble_eq_true rfl) (Nat.le_of_ble_eq_true rfl) ?_
  refine j_dup C dX9_init_8 rfl ?_
  replace e := ob e
  obtain ⟨h47, eh47, e⟩ := e
  refine j_callI (As := []) (b := h.1) (na := 0) (st := [.ref h.1, .ref l0]) (k1 := 9) (n1 := 255) C hr (sX5_init eh47) kX9_11 kim_X5_init kini_X5 kc_X5_init (by decide) rfl ⟨(Nat.le_of_ble_eq_true rfl), (Nat.le_of_ble_eq_true rfl)⟩ (Nat.le_of_ble_eq_true rfl) ⟨rfl, rfl, (Nat.le_of_ble_eq_true rfl), (Nat.le_of_ble_eq_true rfl)⟩ dX9_init_9 ?_
  rintro _ _ ⟨rfl, rfl⟩
  show jx_J X 9 255 12 [(0, .ref l0)] [.ref h.1, .ref l0] h47
  replace e := ob e
  obtain ⟨h48, eh48, e⟩ := e
  refine j_putF (ci := 9) (RC := RX9) (T := TX9) (N := 14) (ty0 := tyX9) 0 C rfl klX9 tyX9_ok nmX9 (Nat.le_of_ble_eq_true rfl) kX9_12 rfl rfl hN rfl rfl rfl rfl dX9_init_12 eh48 ?_
  refine j_aload_n C dX9_init_15 rfl rfl ?_
  replace e := ob e
  obtain ⟨h49, eh49, e⟩ := e
  refine j_new (ci := 5) (RC := RX5) (T := TX5) (N := 12) (ty0 := tyX5) (fs := fsX5) C hr rfl klX5 tyX5_ok kX9_9 kins_X5 kini_X5 fsX5_ok dX9_init_16 eh49 ⟨Nat.le_of_ble_eq_true rfl, Nat.le_of_ble_eq_true rfl⟩ ?_
  refine jx_widen (k1 := 10) (n1 := 267) (Nat.le_of_ble_eq_true rfl) (Nat.le_of_ble_eq_true rfl) ?_
  refine j_dup C dX9_init_19 rfl ?_
  replace e := ob e
  obtain ⟨h50, eh50, e⟩ := e
  refine j_callI (As := []) (b := h48.1) (na := 0) (st := [.ref h48.1, .ref l0]) (k1 := 18) (n1 := 510) C hr (sX5_init eh50) kX9_11 kim_X5_init kini_X5 kc_X5_init (by decide) rfl ⟨(Nat.le_of_ble_eq_true rfl), (Nat.le_of_ble_eq_true rfl)⟩ (Nat.le_of_ble_eq_true rfl) ⟨rfl, rfl, (Nat.le_of_ble_eq_true rfl), (Nat.le_of_ble_eq_true rfl)⟩ dX9_init_20 ?_
  rintro _ _ ⟨rfl, rfl⟩
  show jx_J X 18 510 23 [(0, .ref l0)] [.ref h48.1, .ref l0] h50
  replace e := ob e
  obtain ⟨h51, eh51, e⟩ := e
  refine j_putF (ci := 9) (RC := RX9) (T := TX9) (N := 14) (ty0 := tyX9) 1 C rfl klX9 tyX9_ok nmX9 (Nat.le_of_ble_eq_true rfl) kX9_16 rfl rfl hN rfl rfl rfl rfl dX9_init_23 eh51 ?_
  refine j_aload_n C dX9_init_26 rfl rfl ?_
  replace e := ob e
  obtain ⟨h52, eh52, e⟩ := e
  refine j_new (ci := 5) (RC := RX5) (T := TX5) (N := 12) (ty0 := tyX5) (fs := fsX5) C hr rfl klX5 tyX5_ok kX9_9 kins_X5 kini_X5 fsX5_ok dX9_init_27 eh52 ⟨Nat.le_of_ble_eq_true rfl, Nat.le_of_ble_eq_true rfl⟩ ?_
  refine jx_widen (k1 := 19) (n1 := 522) (Nat.le_of_ble_eq_true rfl) (Nat.le_of_ble_eq_true rfl) ?_
  refine j_dup C dX9_init_30 rfl ?_
  replace e := ob e
  obtain ⟨h53, eh53, e⟩ := e
  refine j_callI (As := []) (b := h51.1) (na := 0) (st := [.ref h51.1, .ref l0]) (k1 := 27) (n1 := 765) C hr (sX5_init eh53) kX9_11 kim_X5_init kini_X5 kc_X5_init (by decide) rfl ⟨(Nat.le_of_ble_eq_true rfl), (Nat.le_of_ble_eq_true rfl)⟩ (Nat.le_of_ble_eq_true rfl) ⟨rfl, rfl, (Nat.le_of_ble_eq_true rfl), (Nat.le_of_ble_eq_true rfl)⟩ dX9_init_31 ?_
  rintro _ _ ⟨rfl, rfl⟩
  show jx_J X 27 765 34 [(0, .ref l0)] [.ref h51.1, .ref l0] h53
  replace e := ob e
  obtain ⟨h54, eh54, e⟩ := e
  refine j_putF (ci := 9) (RC := RX9) (T := TX9) (N := 14) (ty0 := tyX9) 2 C rfl klX9 tyX9_ok nmX9 (Nat.le_of_ble_eq_true rfl) kX9_19 rfl rfl hN rfl rfl rfl rfl dX9_init_34 eh54 ?_
  refine j_aload_n C dX9_init_37 rfl rfl ?_
  refine j_iconst (v := (2 : Int32)) C dX9_init_38 (by decide) ?_
  replace e := ob e
  obtain ⟨h55, eh55, e⟩ := e
  refine j_newq (cn := "BorderBasis$State") (N := 2) C hr kX9_9 (Or.inl rfl) dX9_init_39 eh55 (Nat.le_of_ble_eq_true rfl) ⟨Nat.le_of_ble_eq_true rfl, Nat.le_of_ble_eq_true rfl⟩ ?_
  refine jx_widen (k1 := 28) (n1 := 767) (Nat.le_of_ble_eq_true rfl) (Nat.le_of_ble_eq_true rfl) ?_
  replace e := ob e
  obtain ⟨h56, eh56, e⟩ := e
  refine j_putF (ci := 9) (RC := RX9) (T := TX9) (N := 14) (ty0 := tyX9) 3 C rfl klX9 tyX9_ok nmX9 (Nat.le_of_ble_eq_true rfl) kX9_22 rfl rfl hN rfl rfl rfl rfl dX9_init_42 eh56 ?_
  refine j_aload_n C dX9_init_45 rfl rfl ?_
  replace e := ob e
  obtain ⟨h57, eh57, e⟩ := e
  refine j_new (ci := 1) (RC := RX1) (T := TX1) (N := 3) (ty0 := tyX1) (fs := fsX1) C hr rfl klX1 tyX1_ok kX9_26 kins_X1 kini_X1 fsX1_ok dX9_init_46 eh57 ⟨Nat.le_of_ble_eq_true rfl, Nat.le_of_ble_eq_true rfl⟩ ?_
  refine jx_widen (k1 := 29) (n1 := 770) (Nat.le_of_ble_eq_true rfl) (Nat.le_of_ble_eq_true rfl) ?_
  refine j_dup C dX9_init_49 rfl ?_
  replace e := ob e
  obtain ⟨h58, eh58, e⟩ := e
  refine j_callIN (As := []) (b := h56.1) (na := 0) (st := [.ref h56.1, .ref l0]) (k1 := 30) (n1 := 778) C hr (sX1_init eh58) kX9_28 kim_X1_init kini_X1 kc_X1_init (by decide) rfl ⟨(Nat.le_of_ble_eq_true rfl), (Nat.le_of_ble_eq_true rfl)⟩ (Nat.le_of_ble_eq_true rfl) ⟨rfl, rfl, (Nat.le_of_ble_eq_true rfl), (Nat.le_of_ble_eq_true rfl)⟩ dX9_init_50 ?_
  rintro _ _ ⟨rfl, rfl⟩
  show jx_J X 30 778 53 [(0, .ref l0)] [.ref h56.1, .ref l0] h58
  replace e := ob e
  obtain ⟨h59, eh59, e⟩ := e
  refine j_putF (ci := 9) (RC := RX9) (T := TX9) (N := 14) (ty0 := tyX9) 4 C rfl klX9 tyX9_ok nmX9 (Nat.le_of_ble_eq_true rfl) kX9_29 rfl rfl hN rfl rfl rfl rfl dX9_init_53 eh59 ?_
  refine j_aload_n C dX9_init_56 rfl rfl ?_
  refine j_bipush (v := (6 : Int32)) C dX9_init_57 (by decide) ?_
  replace e := ob e
  obtain ⟨h60, eh60, e⟩ := e
  refine j_newa (ty := .int) (N := 6) C hr kac_int rfl rfl (Nat.le_of_ble_eq_true rfl) dX9_init_59 eh60 (Nat.le_of_ble_eq_true rfl) ⟨Nat.le_of_ble_eq_true rfl, Nat.le_of_ble_eq_true rfl⟩ ?_
  refine jx_widen (k1 := 31) (n1 := 784) (Nat.le_of_ble_eq_true rfl) (Nat.le_of_ble_eq_true rfl) ?_
  replace e := ob e
  obtain ⟨h61, eh61, e⟩ := e
  refine j_putF (ci := 9) (RC := RX9) (T := TX9) (N := 14) (ty0 := tyX9) 5 C rfl klX9 tyX9_ok nmX9 (Nat.le_of_ble_eq_true rfl) kX9_33 rfl rfl hN rfl rfl rfl rfl dX9_init_61 eh61 ?_
  refine j_aload_n C dX9_init_64 rfl rfl ?_
  replace e := ob e
  obtain ⟨h62, eh62, e⟩ := e
  refine j_new (ci := 4) (RC := RX4) (T := TX4) (N := 3) (ty0 := tyX4) (fs := fsX4) C hr rfl klX4 tyX4_ok kX9_37 kins_X4 kini_X4 fsX4_ok dX9_init_65 eh62 ⟨Nat.le_of_ble_eq_true rfl, Nat.le_of_ble_eq_true rfl⟩ ?_
  refine jx_widen (k1 := 32) (n1 := 787) (Nat.le_of_ble_eq_true rfl) (Nat.le_of_ble_eq_true rfl) ?_
  refine j_dup C dX9_init_68 rfl ?_
  replace e := ob e
  obtain ⟨h63, eh63, e⟩ := e
  refine j_callIN (As := []) (b := h61.1) (na := 0) (st := [.ref h61.1, .ref l0]) (k1 := 34) (n1 := 813) C hr (sX4_init eh63) kX9_39 kim_X4_init kini_X4 kc_X4_init (by decide) rfl ⟨(Nat.le_of_ble_eq_true rfl), (Nat.le_of_ble_eq_true rfl)⟩ (Nat.le_of_ble_eq_true rfl) ⟨rfl, rfl, (Nat.le_of_ble_eq_true rfl), (Nat.le_of_ble_eq_true rfl)⟩ dX9_init_69 ?_
  rintro _ _ ⟨rfl, rfl⟩
  show jx_J X 34 813 72 [(0, .ref l0)] [.ref h61.1, .ref l0] h63
  replace e := ob e
  obtain ⟨h64, eh64, e⟩ := e
  refine j_putF (ci := 9) (RC := RX9) (T := TX9) (N := 14) (ty0 := tyX9) 6 C rfl klX9 tyX9_ok nmX9 (Nat.le_of_ble_eq_true rfl) kX9_40 rfl rfl hN rfl rfl rfl rfl dX9_init_72 eh64 ?_
  refine j_aload_n C dX9_init_75 rfl rfl ?_
  replace e := ob e
  obtain ⟨h65, eh65, e⟩ := e
  refine j_new (ci := 6) (RC := RX6) (T := TX6) (N := 17) (ty0 := tyX6) (fs := fsX6) C hr rfl klX6 tyX6_ok kX9_44 kins_X6 kini_X6 fsX6_ok dX9_init_76 eh65 ⟨Nat.le_of_ble_eq_true rfl, Nat.le_of_ble_eq_true rfl⟩ ?_
  refine jx_widen (k1 := 35) (n1 := 830) (Nat.le_of_ble_eq_true rfl) (Nat.le_of_ble_eq_true rfl) ?_
  refine j_dup C dX9_init_79 rfl ?_
  refine j_aload_n C dX9_init_80 rfl rfl ?_
  replace e := ob e
  obtain ⟨x66, ex66, e⟩ := e
  refine j_getr (ci := 9) (RC := RX9) (T := TX9) (N := 14) 0 C rfl klX9 (Nat.le_of_ble_eq_true rfl) kX9_12 rfl dX9_init_81 ex66 ?_
  replace e := ob e
  obtain ⟨h67, eh67, e⟩ := e
  refine j_callI (As := [.ref x66]) (b := h64.1) (na := 1) (st := [.ref h64.1, .ref l0]) (k1 := 67) (n1 := 2613) C hr (sX6_init eh67) kX9_46 kim_X6_init kini_X6 kc_X6_init (by decide) rfl ⟨(Nat.le_of_ble_eq_true rfl), (Nat.le_of_ble_eq_true rfl)⟩ (Nat.le_of_ble_eq_true rfl) ⟨rfl, rfl, (Nat.le_of_ble_eq_true rfl), (Nat.le_of_ble_eq_true rfl)⟩ dX9_init_84 ?_
  rintro _ _ ⟨rfl, rfl⟩
  show jx_J X 67 2613 87 [(0, .ref l0)] [.ref h64.1, .ref l0] h67
  replace e := ob e
  obtain ⟨h68, eh68, e⟩ := e
  refine j_putF (ci := 9) (RC := RX9) (T := TX9) (N := 14) (ty0 := tyX9) 7 C rfl klX9 tyX9_ok nmX9 (Nat.le_of_ble_eq_true rfl) kX9_49 rfl rfl hN rfl rfl rfl rfl dX9_init_87 eh68 ?_
  refine j_aload_n C dX9_init_90 rfl rfl ?_
  replace e := ob e
  obtain ⟨h69, eh69, e⟩ := e
  refine j_new (ci := 8) (RC := RX8) (T := TX8) (N := 15) (ty0 := tyX8) (fs := fsX8) C hr rfl klX8 tyX8_ok kX9_53 kins_X8 kini_X8 fsX8_ok dX9_init_91 eh69 ⟨Nat.le_of_ble_eq_true rfl, Nat.le_of_ble_eq_true rfl⟩ ?_
  refine jx_widen (k1 := 68) (n1 := 2628) (Nat.le_of_ble_eq_true rfl) (Nat.le_of_ble_eq_true rfl) ?_
  refine j_dup C dX9_init_94 rfl ?_
  refine j_aload_n C dX9_init_95 rfl rfl ?_
  replace e := ob e
  obtain ⟨x70, ex70, e⟩ := e
  refine j_getr (ci := 9) (RC := RX9) (T := TX9) (N := 14) 0 C rfl klX9 (Nat.le_of_ble_eq_true rfl) kX9_12 rfl dX9_init_96 ex70 ?_
  refine j_aload_n C dX9_init_99 rfl rfl ?_
  replace e := ob e
  obtain ⟨x71, ex71, e⟩ := e
  refine j_getr (ci := 9) (RC := RX9) (T := TX9) (N := 14) 7 C rfl klX9 (Nat.le_of_ble_eq_true rfl) kX9_49 rfl dX9_init_100 ex71 ?_
  refine j_aload_n C dX9_init_103 rfl rfl ?_
  replace e := ob e
  obtain ⟨x72, ex72, e⟩ := e
  refine j_getr (ci := 9) (RC := RX9) (T := TX9) (N := 14) 6 C rfl klX9 (Nat.le_of_ble_eq_true rfl) kX9_40 rfl dX9_init_104 ex72 ?_
  replace e := ob e
  obtain ⟨h73, eh73, e⟩ := e
  refine j_callI (As := [.ref x70, .ref x71, .ref x72]) (b := h68.1) (na := 3) (st := [.ref h68.1, .ref l0]) (k1 := 83) (n1 := 3515) C hr (sX8_init eh73) kX9_55 kim_X8_init kini_X8 kc_X8_init (by decide) rfl ⟨(Nat.le_of_ble_eq_true rfl), (Nat.le_of_ble_eq_true rfl)⟩ (Nat.le_of_ble_eq_true rfl) ⟨rfl, rfl, (Nat.le_of_ble_eq_true rfl), (Nat.le_of_ble_eq_true rfl)⟩ dX9_init_107 ?_
  rintro _ _ ⟨rfl, rfl⟩
  show jx_J X 83 3515 110 [(0, .ref l0)] [.ref h68.1, .ref l0] h73
  replace e := ob e
  obtain ⟨h74, eh74, e⟩ := e
  refine j_putF (ci := 9) (RC := RX9) (T := TX9) (N := 14) (ty0 := tyX9) 8 C rfl klX9 tyX9_ok nmX9 (Nat.le_of_ble_eq_true rfl) kX9_58 rfl rfl hN rfl rfl rfl rfl dX9_init_110 eh74 ?_
  refine j_aload_n C dX9_init_113 rfl rfl ?_
  replace e := ob e
  obtain ⟨h75, eh75, e⟩ := e
  refine j_new (ci := 0) (RC := RX0) (T := TX0) (N := 2) (ty0 := tyX0) (fs := fsX0) C hr rfl klX0 tyX0_ok kX9_62 kins_X0 kini_X0 fsX0_ok dX9_init_114 eh75 ⟨Nat.le_of_ble_eq_true rfl, Nat.le_of_ble_eq_true rfl⟩ ?_
  refine jx_widen (k1 := 84) (n1 := 3517) (Nat.le_of_ble_eq_true rfl) (Nat.le_of_ble_eq_true rfl) ?_
  refine j_dup C dX9_init_117 rfl ?_
  refine j_aload_n C dX9_init_118 rfl rfl ?_
  replace e := ob e
  obtain ⟨x76, ex76, e⟩ := e
  refine j_getr (ci := 9) (RC := RX9) (T := TX9) (N := 14) 6 C rfl klX9 (Nat.le_of_ble_eq_true rfl) kX9_40 rfl dX9_init_119 ex76 ?_
  replace e := ob e
  obtain ⟨h77, eh77, e⟩ := e
  refine j_callI (As := [.ref x76]) (b := h74.1) (na := 1) (st := [.ref h74.1, .ref l0]) (k1 := 87) (n1 := 4628) C hr (sX0_init eh77) kX9_64 kim_X0_init kini_X0 kc_X0_init (by decide) rfl ⟨(Nat.le_of_ble_eq_true rfl), (Nat.le_of_ble_eq_true rfl)⟩ (Nat.le_of_ble_eq_true rfl) ⟨rfl, rfl, (Nat.le_of_ble_eq_true rfl), (Nat.le_of_ble_eq_true rfl)⟩ dX9_init_122 ?_
  rintro _ _ ⟨rfl, rfl⟩
  show jx_J X 87 4628 125 [(0, .ref l0)] [.ref h74.1, .ref l0] h77
  replace e := ob e
  obtain ⟨h78, eh78, e⟩ := e
  refine j_putF (ci := 9) (RC := RX9) (T := TX9) (N := 14) (ty0 := tyX9) 9 C rfl klX9 tyX9_ok nmX9 (Nat.le_of_ble_eq_true rfl) kX9_67 rfl rfl hN rfl rfl rfl rfl dX9_init_125 eh78 ?_
  refine j_aload_n C dX9_init_128 rfl rfl ?_
  replace e := ob e
  obtain ⟨h79, eh79, e⟩ := e
  refine j_new (ci := 7) (RC := RX7) (T := TX7) (N := 6) (ty0 := tyX7) (fs := fsX7) C hr rfl klX7 tyX7_ok kX9_71 kins_X7 kini_X7 fsX7_ok dX9_init_129 eh79 ⟨Nat.le_of_ble_eq_true rfl, Nat.le_of_ble_eq_true rfl⟩ ?_
  refine jx_widen (k1 := 88) (n1 := 4634) (Nat.le_of_ble_eq_true rfl) (Nat.le_of_ble_eq_true rfl) ?_
  refine j_dup C dX9_init_132 rfl ?_
  replace e := ob e
  obtain ⟨h80, eh80, e⟩ := e
  refine j_callIN (As := []) (b := h78.1) (na := 0) (st := [.ref h78.1, .ref l0]) (k1 := 89) (n1 := 5534) C hr (sX7_init eh80) kX9_73 kim_X7_init kini_X7 kc_X7_init (by decide) rfl ⟨(Nat.le_of_ble_eq_true rfl), (Nat.le_of_ble_eq_true rfl)⟩ (Nat.le_of_ble_eq_true rfl) ⟨rfl, rfl, (Nat.le_of_ble_eq_true rfl), (Nat.le_of_ble_eq_true rfl)⟩ dX9_init_133 ?_
  rintro _ _ ⟨rfl, rfl⟩
  show jx_J X 89 5534 136 [(0, .ref l0)] [.ref h78.1, .ref l0] h80
  replace e := ob e
  obtain ⟨h81, eh81, e⟩ := e
  refine j_putF (ci := 9) (RC := RX9) (T := TX9) (N := 14) (ty0 := tyX9) 10 C rfl klX9 tyX9_ok nmX9 (Nat.le_of_ble_eq_true rfl) kX9_74 rfl rfl hN rfl rfl rfl rfl dX9_init_136 eh81 ?_
  refine j_aload_n C dX9_init_139 rfl rfl ?_
  replace e := ob e
  obtain ⟨h82, eh82, e⟩ := e
  refine j_new (ci := 3) (RC := RX3) (T := TX3) (N := 11) (ty0 := tyX3) (fs := fsX3) C hr rfl klX3 tyX3_ok kX9_78 kins_X3 kini_X3 fsX3_ok dX9_init_140 eh82 ⟨Nat.le_of_ble_eq_true rfl, Nat.le_of_ble_eq_true rfl⟩ ?_
  refine jx_widen (k1 := 90) (n1 := 5545) (Nat.le_of_ble_eq_true rfl) (Nat.le_of_ble_eq_true rfl) ?_
  refine j_dup C dX9_init_143 rfl ?_
  refine j_aload_n C dX9_init_144 rfl rfl ?_
  replace e := ob e
  obtain ⟨x83, ex83, e⟩ := e
  refine j_getr (ci := 9) (RC := RX9) (T := TX9) (N := 14) 10 C rfl klX9 (Nat.le_of_ble_eq_true rfl) kX9_74 rfl dX9_init_145 ex83 ?_
  refine j_aload_n C dX9_init_148 rfl rfl ?_
  replace e := ob e
  obtain ⟨x84, ex84, e⟩ := e
  refine j_getr (ci := 9) (RC := RX9) (T := TX9) (N := 14) 1 C rfl klX9 (Nat.le_of_ble_eq_true rfl) kX9_16 rfl dX9_init_149 ex84 ?_
  replace e := ob e
  obtain ⟨h85, eh85, e⟩ := e
  refine j_callI (As := [.ref x83, .ref x84]) (b := h81.1) (na := 2) (st := [.ref h81.1, .ref l0]) (k1 := 100) (n1 := 6241) C hr (sX3_init eh85) kX9_80 kim_X3_init kini_X3 kc_X3_init (by decide) rfl ⟨(Nat.le_of_ble_eq_true rfl), (Nat.le_of_ble_eq_true rfl)⟩ (Nat.le_of_ble_eq_true rfl) ⟨rfl, rfl, (Nat.le_of_ble_eq_true rfl), (Nat.le_of_ble_eq_true rfl)⟩ dX9_init_152 ?_
  rintro _ _ ⟨rfl, rfl⟩
  show jx_J X 100 6241 155 [(0, .ref l0)] [.ref h81.1, .ref l0] h85
  replace e := ob e
  obtain ⟨h86, eh86, e⟩ := e
  refine j_putF (ci := 9) (RC := RX9) (T := TX9) (N := 14) (ty0 := tyX9) 11 C rfl klX9 tyX9_ok nmX9 (Nat.le_of_ble_eq_true rfl) kX9_83 rfl rfl hN rfl rfl rfl rfl dX9_init_155 eh86 ?_
  refine j_aload_n C dX9_init_158 rfl rfl ?_
  refine j_bipush (v := (12 : Int32)) C dX9_init_159 (by decide) ?_
  replace e := ob e
  obtain ⟨h87, eh87, e⟩ := e
  refine j_newa (ty := .int) (N := 12) C hr kac_int rfl rfl (Nat.le_of_ble_eq_true rfl) dX9_init_161 eh87 (Nat.le_of_ble_eq_true rfl) ⟨Nat.le_of_ble_eq_true rfl, Nat.le_of_ble_eq_true rfl⟩ ?_
  refine jx_widen (k1 := 101) (n1 := 6253) (Nat.le_of_ble_eq_true rfl) (Nat.le_of_ble_eq_true rfl) ?_
  replace e := ob e
  obtain ⟨h88, eh88, e⟩ := e
  refine j_putF (ci := 9) (RC := RX9) (T := TX9) (N := 14) (ty0 := tyX9) 12 C rfl klX9 tyX9_ok nmX9 (Nat.le_of_ble_eq_true rfl) kX9_87 rfl rfl hN rfl rfl rfl rfl dX9_init_163 eh88 ?_
  refine j_aload_n C dX9_init_166 rfl rfl ?_
  refine j_bipush (v := (12 : Int32)) C dX9_init_167 (by decide) ?_
  replace e := ob e
  obtain ⟨h89, eh89, e⟩ := e
  refine j_newa (ty := .int) (N := 12) C hr kac_int rfl rfl (Nat.le_of_ble_eq_true rfl) dX9_init_169 eh89 (Nat.le_of_ble_eq_true rfl) ⟨Nat.le_of_ble_eq_true rfl, Nat.le_of_ble_eq_true rfl⟩ ?_
  refine jx_widen (k1 := 102) (n1 := 6265) (Nat.le_of_ble_eq_true rfl) (Nat.le_of_ble_eq_true rfl) ?_
  replace e := ob e
  obtain ⟨h90, eh90, e⟩ := e
  refine j_putF (ci := 9) (RC := RX9) (T := TX9) (N := 14) (ty0 := tyX9) 13 C rfl klX9 tyX9_ok nmX9 (Nat.le_of_ble_eq_true rfl) kX9_90 rfl rfl hN rfl rfl rfl rfl dX9_init_171 eh90 ?_
  cases e
  exact j_vret C hq dX9_init_174 ⟨Nat.le_of_ble_eq_true rfl, Nat.le_of_ble_eq_true rfl⟩ ⟨rfl, rfl⟩
