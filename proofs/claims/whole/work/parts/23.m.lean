/-! BorderBasis.forgetDerived()V -/
noncomputable def FX9_forgetDerived (l0 : Nat) (h : jx_H) : Option (jx_H) :=
(hgr h l0 9 7).bind fun x1 =>
(hp h x1 6 13 (.int (0 : Int32))).bind fun h2 =>
(hgr h2 l0 9 8).bind fun x3 =>
(isO h2 x3 8).bind fun _ =>
(FX8_forget x3 h2).bind fun h5 =>
some h5
def rmX9_forgetDerived : Room := { frames := 1, cells := 0, slots := 0, locals := 20 }
set_option maxRecDepth 20000 in
set_option maxHeartbeats 4000000 in
theorem sX9_forgetDerived {l0 : Nat} {h : jx_H} {h9 : jx_H} (e : FX9_forgetDerived l0 h = some h9) : jx_Ct yX9_forgetDerived cX9_forgetDerived 1 none rmX9_forgetDerived [.ref l0] h (fun r' h' => none = r' ∧ h9 = h') := by
  refine jx_Ct.of (own := RX9) (by decide) rfl (Nat.le_of_ble_eq_true rfl) (fun X C hq hr hL hN => ?_)
  refine jx_sub (lv' := [(0, .ref l0)]) [0] rfl ?_
  unfold FX9_forgetDerived at e
  refine j_aload_n C dX9_forgetDerived_0 rfl rfl ?_
  replace e := ob e
  obtain ⟨x6, ex6, e⟩ := e
  refine j_getr (ci := 9) (RC := RX9) (T := TX9) (N := 14) 7 C rfl klX9 (Nat.le_of_ble_eq_true rfl) kX9_49 rfl dX9_forgetDerived_1 ex6 ?_
  refine j_iconst (v := (0 : Int32)) C dX9_forgetDerived_4 (by decide) ?_
  replace e := ob e
  obtain ⟨h7, eh7, e⟩ := e
  refine j_put (ci := 6) (RC := RX6) (T := TX6) (N := 17) (ty0 := tyX6) 13 C rfl klX6 tyX6_ok nmX6 (Nat.le_of_ble_eq_true rfl) kX9_312 rfl rfl rfl rfl dX9_forgetDerived_5 eh7 ?_
  refine j_aload_n C dX9_forgetDerived_8 rfl rfl ?_
  replace e := ob e
  obtain ⟨x8, ex8, e⟩ := e
  refine j_getr (ci := 9) (RC := RX9) (T := TX9) (N := 14) 8 C rfl klX9 (Nat.le_of_ble_eq_true rfl) kX9_58 rfl dX9_forgetDerived_9 ex8 ?_
  replace e := ob e
  obtain ⟨_, eo9, e⟩ := e
  replace e := ob e
  obtain ⟨h10, eh10, e⟩ := e
  refine j_callV (ci := 8) (RC := RX8) (T := TX8) (N := 15) (As := []) (b := x8) (na := 0) (st := []) (k1 := 0) (n1 := 0) C hr (sX8_forget eh10) rfl eo9 kX9_316 kim_X8_forget ksel_X8_forget kini_X8 kc_X8_forget (by decide) rfl ⟨(Nat.le_of_ble_eq_true rfl), (Nat.le_of_ble_eq_true rfl)⟩ (Nat.le_of_ble_eq_true rfl) ⟨rfl, rfl, (Nat.le_of_ble_eq_true rfl), (Nat.le_of_ble_eq_true rfl)⟩ dX9_forgetDerived_12 ?_
  rintro _ _ ⟨rfl, rfl⟩
  show jx_J X 0 0 15 [(0, .ref l0)] [] h10
  cases e
  exact j_vret C hq dX9_forgetDerived_15 ⟨Nat.le_of_ble_eq_true rfl, Nat.le_of_ble_eq_true rfl⟩ ⟨rfl, rfl⟩
/-! BorderBasis.reduce()I -/
noncomputable def BX9_reduce_69 (l0 : Nat) (l2 : Int32) (l3 : Int32) (h : jx_H) : Option ((Int32 × Int32) ⊕ (Int32 × jx_H)) :=
some (.inl (l2, (l3 + (1 : Int32))))
noncomputable def LX9_reduce_51 (l0 : Nat) (l2 : Int32) (l3 : Int32) (h : jx_H) : Option ((Int32 × Int32) ⊕ (Int32 × jx_H)) :=
if (12 : Int32) ≤ l3 then
 exL (some (l2, h))
else
 (hgr h l0 9 12).bind fun x15 =>
 (hal h .int x15 l3).bind fun x16 =>
 if x16 = 0 then
  BX9_reduce_69 l0 l2 l3 h
 else
  BX9_reduce_69 l0 (l2 + (1 : Int32)) l3 h
noncomputable def FX9_reduce (l0 : Nat) (h : jx_H) : Option (Int32 × jx_H) :=
(hgr h l0 9 11).bind fun x1 =>
(hgr h l0 9 0).bind fun x2 =>
(hgi h x2 5 0).bind fun x3 =>
(isO h x1 3).bind fun _ =>
bind2 (FX3_readPolynomial x1 x3 h) fun x5 h6 =>
(hgr h6 l0 9 10).bind fun x7 =>
(hp h6 x7 7 1 (.int (0 : Int32))).bind fun h8 =>
if x5 = 0 then
 some ((-1 : Int32), h8)
else
 (hgr h8 l0 9 7).bind fun x9 =>
 (hgr h8 l0 9 11).bind fun x10 =>
 (hgr h8 x10 3 3).bind fun x11 =>
 (hgr h8 l0 9 12).bind fun x12 =>
 (isO h8 x9 6).bind fun _ =>
 (FX6_normalFormOf x9 x11 x12 h8).bind fun h14 =>
 itr (fun s : Int32 × Int32 => LX9_reduce_51 l0 s.1 s.2 h14) ((0 : Int32), (0 : Int32))
def rmX9_reduce : Room := { frames := 5, cells := 0, slots := 0, locals := 129 }
set_option maxRecDepth 20000 in
set_option maxHeartbeats 4000000 in
theorem sX9_reduce {l0 : Nat} {h : jx_H} {r : Int32} {h9 : jx_H} (e : FX9_reduce l0 h = some (r, h9)) : jx_Ct yX9_reduce cX9_reduce 4 (some .int) rmX9_reduce [.ref l0] h (fun r' h' => some (.int r) = r' ∧ h9 = h') := by
  refine jx_Ct.of (own := RX9) (by decide) rfl (Nat.le_of_ble_eq_true rfl) (fun X C hq hr hL hN => ?_)
  refine jx_sub (lv' := [(0, .ref l0)]) [0] rfl ?_
  unfold FX9_reduce at e
  refine j_aload_n C dX9_reduce_0 rfl rfl ?_
  replace e := ob e
  obtain ⟨x20, ex20, e⟩ := e
  refine j_getr (ci := 9) (RC := RX9) (T := TX9) (N := 14) 11 C rfl klX9 (Nat.le_of_ble_eq_true rfl) kX9_83 rfl dX9_reduce_1 ex20 ?_
  refine j_aload_n C dX9_reduce_4 rfl rfl ?_
  replace e := ob e
  obtain ⟨x21, ex21, e⟩ := e
  refine j_getr (ci := 9) (RC := RX9) (T := TX9) (N := 14) 0 C rfl klX9 (Nat.le_of_ble_eq_true rfl) kX9_12 rfl dX9_reduce_5 ex21 ?_
  replace e := ob e
  obtain ⟨x22, ex22, e⟩ := e
  refine j_geti (ci := 5) (RC := RX5) (T := TX5) (N := 12) 0 C rfl klX5 (Nat.le_of_ble_eq_true rfl) kX9_132 rfl dX9_reduce_8 ex22 ?_
  replace e := ob e
  obtain ⟨_, eo23, e⟩ := e
  replace e := ob2 e
  obtain ⟨x24, h25, ex24, e⟩ := e
  refine j_callV (ci := 3) (RC := RX3) (T := TX3) (N := 11) (As := [.int x22]) (b := x20) (na := 1) (st := []) (k1 := 0) (n1 := 0) C hr (sX3_readPolynomial ex24) rfl eo23 kX9_135 kim_X3_readPolynomial ksel_X3_readPolynomial kini_X3 kc_X3_readPolynomial (by decide) rfl ⟨(Nat.le_of_ble_eq_true rfl), (Nat.le_of_ble_eq_true rfl)⟩ (Nat.le_of_ble_eq_true rfl) ⟨rfl, rfl, (Nat.le_of_ble_eq_true rfl), (Nat.le_of_ble_eq_true rfl)⟩ dX9_reduce_11 ?_
  rintro _ _ ⟨rfl, rfl⟩
  show jx_J X 0 0 14 [(0, .ref l0)] [.int x24] h25
  refine j_istore_n (lv1 := [(1, .int x24), (0, .ref l0)]) C hL dX9_reduce_14 rfl (Nat.le_of_ble_eq_true rfl) rfl ?_
  refine j_aload_n C dX9_reduce_15 rfl rfl ?_
  replace e := ob e
  obtain ⟨x26, ex26, e⟩ := e
  refine j_getr (ci := 9) (RC := RX9) (T := TX9) (N := 14) 10 C rfl klX9 (Nat.le_of_ble_eq_true rfl) kX9_74 rfl dX9_reduce_16 ex26 ?_
  refine j_iconst (v := (0 : Int32)) C dX9_reduce_19 (by decide) ?_
  replace e := ob e
  obtain ⟨h27, eh27, e⟩ := e
  refine j_put (ci := 7) (RC := RX7) (T := TX7) (N := 6) (ty0 := tyX7) 1 C rfl klX7 tyX7_ok nmX7 (Nat.le_of_ble_eq_true rfl) kX9_93 rfl rfl rfl rfl dX9_reduce_20 eh27 ?_
  refine j_iload_n C dX9_reduce_23 rfl rfl ?_
  refine j_if_ne (tgt := 29) C dX9_reduce_24 (by decide) (fun c42 => ?_) (fun c42 => ?_)
  · replace e := ifn c42 e
    refine j_aload_n C dX9_reduce_29 rfl rfl ?_
    replace e := ob e
    obtain ⟨x28, ex28, e⟩ := e
    refine j_getr (ci := 9) (RC := RX9) (T := TX9) (N := 14) 7 C rfl klX9 (Nat.le_of_ble_eq_true rfl) kX9_49 rfl dX9_reduce_30 ex28 ?_
    refine j_aload_n C dX9_reduce_33 rfl rfl ?_
    replace e := ob e
    obtain ⟨x29, ex29, e⟩ := e
    refine j_getr (ci := 9) (RC := RX9) (T := TX9) (N := 14) 11 C rfl klX9 (Nat.le_of_ble_eq_true rfl) kX9_83 rfl dX9_reduce_34 ex29 ?_
    replace e := ob e
    obtain ⟨x30, ex30, e⟩ := e
    refine j_getr (ci := 3) (RC := RX3) (T := TX3) (N := 11) 3 C rfl klX3 (Nat.le_of_ble_eq_true rfl) kX9_139 rfl dX9_reduce_37 ex30 ?_
    refine j_aload_n C dX9_reduce_40 rfl rfl ?_
    replace e := ob e
    obtain ⟨x31, ex31, e⟩ := e
    refine j_getr (ci := 9) (RC := RX9) (T := TX9) (N := 14) 12 C rfl klX9 (Nat.le_of_ble_eq_true rfl) kX9_87 rfl dX9_reduce_41 ex31 ?_
    replace e := ob e
    obtain ⟨_, eo32, e⟩ := e
    replace e := ob e
    obtain ⟨h33, eh33, e⟩ := e
    refine j_callV (ci := 6) (RC := RX6) (T := TX6) (N := 17) (As := [.ref x30, .ref x31]) (b := x28) (na := 2) (st := []) (k1 := 0) (n1 := 0) C hr (sX6_normalFormOf eh33) rfl eo32 kX9_142 kim_X6_normalFormOf ksel_X6_normalFormOf kini_X6 kc_X6_normalFormOf (by decide) rfl ⟨(Nat.le_of_ble_eq_true rfl), (Nat.le_of_ble_eq_true rfl)⟩ (Nat.le_of_ble_eq_true rfl) ⟨rfl, rfl, (Nat.le_of_ble_eq_true rfl), (Nat.le_of_ble_eq_true rfl)⟩ dX9_reduce_44 ?_
    rintro _ _ ⟨rfl, rfl⟩
    show jx_J X 0 0 47 [(1, .int x24), (0, .ref l0)] [] h33
    refine j_iconst (v := (0 : Int32)) C dX9_reduce_47 (by decide) ?_
    refine j_istore_n (lv1 := [(2, .int (0 : Int32)), (1, .int x24), (0, .ref l0)]) C hL dX9_reduce_48 rfl (Nat.le_of_ble_eq_true rfl) rfl ?_
    refine j_iconst (v := (0 : Int32)) C dX9_reduce_49 (by decide) ?_
    refine j_istore_n (lv1 := [(3, .int (0 : Int32)), (2, .int (0 : Int32)), (1, .int x24), (0, .ref l0)]) C hL dX9_reduce_50 rfl (Nat.le_of_ble_eq_true rfl) rfl ?_
    refine jx_sub (lv' := [(0, .ref l0), (2, .int (0 : Int32)), (3, .int (0 : Int32))]) [3, 1, 0] rfl ?_
    refine itr_ind (s0 := ((0 : Int32), (0 : Int32))) (fun s : Int32 × Int32 => jx_J X 0 0 51 [(0, .ref l0), (2, .int s.1), (3, .int s.2)] [] h33) e ?_
    clear e
    intro s kI2 kT2 e0
    obtain ⟨z34, z35⟩ := s
    obtain ⟨u2, e0_2⟩ := e0
    have e : LX9_reduce_51 l0 z34 z35 h33 = some u2 := e0_2
    have b69 : ∀ (y36 : Int32) (y37 : Int32), BX9_reduce_69 l0 y36 y37 h33 = some u2 → jx_J X 0 0 69 [(0, .ref l0), (2, .int y36), (3, .int y37)] [] h33 := by
      intro y36 y37 e
      unfold BX9_reduce_69 at e
      refine j_iinc (v := (y37 + (1 : Int32))) (lv1 := [(3, .int (y37 + (1 : Int32))), (0, .ref l0), (2, .int y36)]) C hL dX9_reduce_69 rfl rfl (Nat.le_of_ble_eq_true rfl) rfl ?_
      refine j_goto (tgt := 51) C dX9_reduce_72 (by decide) ?_
      obtain rfl := Option.some.inj e
      refine jx_sub (lv' := [(0, .ref l0), (2, .int y36), (3, .int (y37 + (1 : Int32)))]) [1, 2, 0] rfl ?_
      exact kI2 (y36, (y37 + (1 : Int32))) e0_2
    unfold LX9_reduce_51 at e
    refine j_iload_n C dX9_reduce_51 rfl rfl ?_
    refine j_bipush (v := (12 : Int32)) C dX9_reduce_52 (by decide) ?_
    refine j_icmp_ge (tgt := 75) C dX9_reduce_54 (by decide) (fun c41 => ?_) (fun c41 => ?_)
    · replace e := ifp c41 e
      obtain ⟨t_3, e_3, eu_3⟩ := exL_spec e
      obtain rfl := kT2 t_3 (e0_2.trans (congrArg some eu_3))
      replace e := e_3
      refine j_iload_n C dX9_reduce_75 rfl rfl ?_
      cases e
      exact j_iret C hq rfl dX9_reduce_76 ⟨Nat.le_of_ble_eq_true rfl, Nat.le_of_ble_eq_true rfl⟩ ⟨rfl, rfl⟩
    · replace e := ifn c41 e
      refine j_aload_n C dX9_reduce_57 rfl rfl ?_
      replace e := ob e
      obtain ⟨x38, ex38, e⟩ := e
      refine j_getr (ci := 9) (RC := RX9) (T := TX9) (N := 14) 12 C rfl klX9 (Nat.le_of_ble_eq_true rfl) kX9_87 rfl dX9_reduce_58 ex38 ?_
      refine j_iload_n C dX9_reduce_61 rfl rfl ?_
      replace e := ob e
      obtain ⟨x39, ex39, e⟩ := e
      refine j_iald C dX9_reduce_62 ex39 ?_
      refine j_if_eq (tgt := 69) C dX9_reduce_63 (by decide) (fun c40 => ?_) (fun c40 => ?_)
      · replace e := ifp c40 e
        exact b69 z34 z35 e
      · replace e := ifn c40 e
        refine j_iinc (v := (z34 + (1 : Int32))) (lv1 := [(2, .int (z34 + (1 : Int32))), (0, .ref l0), (3, .int z35)]) C hL dX9_reduce_66 rfl rfl (Nat.le_of_ble_eq_true rfl) rfl ?_
        refine jx_sub (lv' := [(0, .ref l0), (2, .int (z34 + (1 : Int32))), (3, .int z35)]) [1, 0, 2] rfl ?_
        exact b69 (z34 + (1 : Int32)) z35 e
  · replace e := ifp c42 e
    refine j_iconst (v := (-1 : Int32)) C dX9_reduce_27 (by decide) ?_
    cases e
    exact j_iret C hq rfl dX9_reduce_28 ⟨Nat.le_of_ble_eq_true rfl, Nat.le_of_ble_eq_true rfl⟩ ⟨rfl, rfl⟩
/-! BorderBasis.errorCode()I -/
noncomputable def FX9_errorCode (l0 : Nat) (h : jx_H) : Option (Int32) :=
(hgr h l0 9 11).bind fun x1 =>
(hgi h x1 3 4).bind fun x2 =>
some x2
def rmX9_errorCode : Room := { frames := 0, cells := 0, slots := 0, locals := 0 }
set_option maxRecDepth 20000 in
set_option maxHeartbeats 4000000 in
theorem sX9_errorCode {l0 : Nat} {h : jx_H} {r : Int32}  (e : FX9_errorCode l0 h = some r) : jx_Ct yX9_errorCode cX9_errorCode 1 (some .int) rmX9_errorCode [.ref l0] h (fun r' h' => some (.int r) = r' ∧ h = h') := by
  refine jx_Ct.of (own := RX9) (by decide) rfl (Nat.le_of_ble_eq_true rfl) (fun X C hq hr hL hN => ?_)
  refine jx_sub (lv' := [(0, .ref l0)]) [0] rfl ?_
  unfold FX9_errorCode at e
  refine j_aload_n C dX9_errorCode_0 rfl rfl ?_
  replace e := ob e
  obtain ⟨x3, ex3, e⟩ := e
  refine j_getr (ci := 9) (RC := RX9) (T := TX9) (N := 14) 11 C rfl klX9 (Nat.le_of_ble_eq_true rfl) kX9_83 rfl dX9_errorCode_1 ex3 ?_
  replace e := ob e
  obtain ⟨x4, ex4, e⟩ := e
  refine j_geti (ci := 3) (RC := RX3) (T := TX3) (N := 11) 4 C rfl klX3 (Nat.le_of_ble_eq_true rfl) kX9_146 rfl dX9_errorCode_4 ex4 ?_
  cases e
  exact j_iret C hq rfl dX9_errorCode_7 ⟨Nat.le_of_ble_eq_true rfl, Nat.le_of_ble_eq_true rfl⟩ ⟨rfl, rfl⟩
/-! BorderBasis.errorPosition()I -/
noncomputable def FX9_errorPosition (l0 : Nat) (h : jx_H) : Option (Int32) :=
(hgr h l0 9 11).bind fun x1 =>
(hgi h x1 3 5).bind fun x2 =>
some x2
def rmX9_errorPosition : Room := { frames := 0, cells := 0, slots := 0, locals := 0 }
set_option maxRecDepth 20000 in
set_option maxHeartbeats 4000000 in
theorem sX9_errorPosition {l0 : Nat} {h : jx_H} {r : Int32}  (e : FX9_errorPosition l0 h = some r) : jx_Ct yX9_errorPosition cX9_errorPosition 1 (some .int) rmX9_errorPosition [.ref l0] h (fun r' h' => some (.int r) = r' ∧ h = h') := by
  refine jx_Ct.of (own := RX9) (by decide) rfl (Nat.le_of_ble_eq_true rfl) (fun X C hq hr hL hN => ?_)
  refine jx_sub (lv' := [(0, .ref l0)]) [0] rfl ?_
  unfold FX9_errorPosition at e
  refine j_aload_n C dX9_errorPosition_0 rfl rfl ?_
  replace e := ob e
  obtain ⟨x3, ex3, e⟩ := e
  refine j_getr (ci := 9) (RC := RX9) (T := TX9) (N := 14) 11 C rfl klX9 (Nat.le_of_ble_eq_true rfl) kX9_83 rfl dX9_errorPosition_1 ex3 ?_
  replace e := ob e
  obtain ⟨x4, ex4, e⟩ := e
  refine j_geti (ci := 3) (RC := RX3) (T := TX3) (N := 11) 5 C rfl klX3 (Nat.le_of_ble_eq_true rfl) kX9_149 rfl dX9_errorPosition_4 ex4 ?_
  cases e
  exact j_iret C hq rfl dX9_errorPosition_7 ⟨Nat.le_of_ble_eq_true rfl, Nat.le_of_ble_eq_true rfl⟩ ⟨rfl, rfl⟩
/-! BorderBasis.beginChange(I)V -/
noncomputable def FX9_beginChange (l0 : Nat) (l1 : Int32) (h : jx_H) : Option (jx_H) :=
(hgr h l0 9 4).bind fun x1 =>
(hgr h l0 9 0).bind fun x2 =>
(isO h x1 1).bind fun _ =>
(FX1_remember x1 x2 h).bind fun h4 =>
(hgr h4 l0 9 5).bind fun x5 =>
(hal h4 .int x5 l1).bind fun x6 =>
(has h4 .int x5 l1 (x6 + (1 : Int32))).bind fun h7 =>
(isO h7 l0 9).bind fun _ =>
(FX9_forgetDerived l0 h7).bind fun h9 =>
some h9
def rmX9_beginChange : Room := { frames := 6, cells := 9, slots := 255, locals := 127 }
set_option maxRecDepth 20000 in
set_option maxHeartbeats 4000000 in
theorem sX9_beginChange {l0 : Nat} {l1 : Int32} {h : jx_H} {h9 : jx_H} (e : FX9_beginChange l0 l1 h = some h9) : jx_Ct yX9_beginChange cX9_beginChange 2 none rmX9_beginChange [.ref l0, .int l1] h (fun r' h' => none = r' ∧ h9 = h') := by
  refine jx_Ct.of (own := RX9) (by decide) rfl (Nat.le_of_ble_eq_true rfl) (fun X C hq hr hL hN => ?_)
  refine jx_sub (lv' := [(0, .ref l0), (1, .int l1)]) [0, 1] rfl ?_
  unfold FX9_beginChange at e
  refine j_aload_n C dX9_beginChange_0 rfl rfl ?_
  replace e := ob e
  obtain ⟨x10, ex10, e⟩ := e
  refine j_getr (ci := 9) (RC := RX9) (T := TX9) (N := 14) 4 C rfl klX9 (Nat.le_of_ble_eq_true rfl) kX9_29 rfl dX9_beginChange_1 ex10 ?_
  refine j_aload_n C dX9_beginChange_4 rfl rfl ?_
  replace e := ob e
  obtain ⟨x11, ex11, e⟩ := e
  refine j_getr (ci := 9) (RC := RX9) (T := TX9) (N := 14) 0 C rfl klX9 (Nat.le_of_ble_eq_true rfl) kX9_12 rfl dX9_beginChange_5 ex11 ?_
  replace e := ob e
  obtain ⟨_, eo12, e⟩ := e
  replace e := ob e
  obtain ⟨h13, eh13, e⟩ := e
  refine j_callV (ci := 1) (RC := RX1) (T := TX1) (N := 3) (As := [.ref x11]) (b := x10) (na := 1) (st := []) (k1 := 9) (n1 := 255) C hr (sX1_remember eh13) rfl eo12 kX9_309 kim_X1_remember ksel_X1_remember kini_X1 kc_X1_remember (by decide) rfl ⟨(Nat.le_of_ble_eq_true rfl), (Nat.le_of_ble_eq_true rfl)⟩ (Nat.le_of_ble_eq_true rfl) ⟨rfl, rfl, (Nat.le_of_ble_eq_true rfl), (Nat.le_of_ble_eq_true rfl)⟩ dX9_beginChange_8 ?_
  rintro _ _ ⟨rfl, rfl⟩
  show jx_J X 9 255 11 [(0, .ref l0), (1, .int l1)] [] h13
  refine j_aload_n C dX9_beginChange_11 rfl rfl ?_
  replace e := ob e
  obtain ⟨x14, ex14, e⟩ := e
  refine j_getr (ci := 9) (RC := RX9) (T := TX9) (N := 14) 5 C rfl klX9 (Nat.le_of_ble_eq_true rfl) kX9_33 rfl dX9_beginChange_12 ex14 ?_
  refine j_iload_n C dX9_beginChange_15 rfl rfl ?_
  refine j_dup2 C dX9_beginChange_16 rfl rfl ?_
  replace e := ob e
  obtain ⟨x15, ex15, e⟩ := e
  refine j_iald C dX9_beginChange_17 ex15 ?_
  refine j_iconst (v := (1 : Int32)) C dX9_beginChange_18 (by decide) ?_
  refine j_iadd C dX9_beginChange_19 ?_
  replace e := ob e
  obtain ⟨h16, eh16, e⟩ := e
  refine j_iast C dX9_beginChange_20 eh16 ?_
  refine j_aload_n C dX9_beginChange_21 rfl rfl ?_
  replace e := ob e
  obtain ⟨_, eo17, e⟩ := e
  replace e := ob e
  obtain ⟨h18, eh18, e⟩ := e
  refine j_callV (ci := 9) (RC := RX9) (T := TX9) (N := 14) (As := []) (b := l0) (na := 0) (st := []) (k1 := 9) (n1 := 255) C hr (sX9_forgetDerived eh18) rfl eo17 kX9_126 kim_X9_forgetDerived ksel_X9_forgetDerived kini_X9 kc_X9_forgetDerived (by decide) rfl ⟨(Nat.le_of_ble_eq_true rfl), (Nat.le_of_ble_eq_true rfl)⟩ (Nat.le_of_ble_eq_true rfl) ⟨rfl, rfl, (Nat.le_of_ble_eq_true rfl), (Nat.le_of_ble_eq_true rfl)⟩ dX9_beginChange_22 ?_
  rintro _ _ ⟨rfl, rfl⟩
  show jx_J X 9 255 25 [(0, .ref l0), (1, .int l1)] [] h18
  cases e
  exact j_vret C hq dX9_beginChange_25 ⟨Nat.le_of_ble_eq_true rfl, Nat.le_of_ble_eq_true rfl⟩ ⟨rfl, rfl⟩
/-! BorderBasis.place(II)I -/
noncomputable def FX9_place (l0 : Nat) (l1 : Int32) (l2 : Int32) (h : jx_H) : Option (Int32) :=
(hgr h l0 9 0).bind fun x1 =>
(isO h x1 5).bind fun _ =>
(FX5_numberOf x1 l1 l2 h).bind fun x3 =>
if x3 = (-1 : Int32) then
 (hgr h l0 9 0).bind fun x4 =>
 (isO h x4 5).bind fun _ =>
 (FX5_borderNumberOf x4 l1 l2 h).bind fun x6 =>
 if x6 = (-1 : Int32) then
  some (-1 : Int32)
 else
  some ((100 : Int32) + x6)
else
 some x3
def rmX9_place : Room := { frames := 1, cells := 0, slots := 0, locals := 23 }
set_option maxRecDepth 20000 in
set_option maxHeartbeats 4000000 in
theorem sX9_place {l0 : Nat} {l1 : Int32} {l2 : Int32} {h : jx_H} {r : Int32}  (e : FX9_place l0 l1 l2 h = some r) : jx_Ct yX9_place cX9_place 5 (some .int) rmX9_place [.ref l0, .int l1, .int l2] h (fun r' h' => some (.int r) = r' ∧ h = h') := by
  refine jx_Ct.of (own := RX9) (by decide) rfl (Nat.le_of_ble_eq_true rfl) (fun X C hq hr hL hN => ?_)
  refine jx_sub (lv' := [(0, .ref l0), (1, .int l1), (2, .int l2)]) [0, 1, 2] rfl ?_
  unfold FX9_place at e
  refine j_aload_n C dX9_place_0 rfl rfl ?_
  replace e := ob e
  obtain ⟨x9, ex9, e⟩ := e
  refine j_getr (ci := 9) (RC := RX9) (T := TX9) (N := 14) 0 C rfl klX9 (Nat.le_of_ble_eq_true rfl) kX9_12 rfl dX9_place_1 ex9 ?_
  refine j_iload_n C dX9_place_4 rfl rfl ?_
  refine j_iload_n C dX9_place_5 rfl rfl ?_
  replace e := ob e
  obtain ⟨_, eo10, e⟩ := e
  replace e := ob e
  obtain ⟨x11, ex11, e⟩ := e
  refine j_callV (ci := 5) (RC := RX5) (T := TX5) (N := 12) (As := [.int l1, .int l2]) (b := x9) (na := 2) (st := []) (k1 := 0) (n1 := 0) C hr (sX5_numberOf ex11) rfl eo10 kX9_187 kim_X5_numberOf ksel_X5_numberOf kini_X5 kc_X5_numberOf (by decide) rfl ⟨(Nat.le_of_ble_eq_true rfl), (Nat.le_of_ble_eq_true rfl)⟩ (Nat.le_of_ble_eq_true rfl) ⟨rfl, rfl, (Nat.le_of_ble_eq_true rfl), (Nat.le_of_ble_eq_true rfl)⟩ dX9_place_6 ?_
  rintro _ _ ⟨rfl, rfl⟩
  show jx_J X 0 0 9 [(0, .ref l0), (1, .int l1), (2, .int l2)] [.int x11] h
  refine j_istore_n (lv1 := [(3, .int x11), (0, .ref l0), (1, .int l1), (2, .int l2)]) C hL dX9_place_9 rfl (Nat.le_of_ble_eq_true rfl) rfl ?_
  refine j_iload_n C dX9_place_10 rfl rfl ?_
  refine j_iconst (v := (-1 : Int32)) C dX9_place_11 (by decide) ?_
  refine j_icmp_eq (tgt := 17) C dX9_place_12 (by decide) (fun c16 => ?_) (fun c16 => ?_)
  · replace e := ifp c16 e
    refine j_aload_n C dX9_place_17 rfl rfl ?_
    replace e := ob e
    obtain ⟨x12, ex12, e⟩ := e
    refine j_getr (ci := 9) (RC := RX9) (T := TX9) (N := 14) 0 C rfl klX9 (Nat.le_of_ble_eq_true rfl) kX9_12 rfl dX9_place_18 ex12 ?_
    refine j_iload_n C dX9_place_21 rfl rfl ?_
    refine j_iload_n C dX9_place_22 rfl rfl ?_
    replace e := ob e
    obtain ⟨_, eo13, e⟩ := e
    replace e := ob e
    obtain ⟨x14, ex14, e⟩ := e
    refine j_callV (ci := 5) (RC := RX5) (T := TX5) (N := 12) (As := [.int l1, .int l2]) (b := x12) (na := 2) (st := []) (k1 := 0) (n1 := 0) C hr (sX5_borderNumberOf ex14) rfl eo13 kX9_205 kim_X5_borderNumberOf ksel_X5_borderNumberOf kini_X5 kc_X5_borderNumberOf (by decide) rfl ⟨(Nat.le_of_ble_eq_true rfl), (Nat.le_of_ble_eq_true rfl)⟩ (Nat.le_of_ble_eq_true rfl) ⟨rfl, rfl, (Nat.le_of_ble_eq_true rfl), (Nat.le_of_ble_eq_true rfl)⟩ dX9_place_23 ?_
    rintro _ _ ⟨rfl, rfl⟩
    show jx_J X 0 0 26 [(3, .int x11), (0, .ref l0), (1, .int l1), (2, .int l2)] [.int x14] h
    refine j_istore (lv1 := [(4, .int x14), (3, .int x11), (0, .ref l0), (1, .int l1), (2, .int l2)]) C hL dX9_place_26 (Nat.le_of_ble_eq_true rfl) rfl ?_
    refine j_iload C dX9_place_28 rfl ?_
    refine j_iconst (v := (-1 : Int32)) C dX9_place_30 (by decide) ?_
    refine j_icmp_ne (tgt := 38) C dX9_place_31 (by decide) (fun c15 => ?_) (fun c15 => ?_)
    · replace e := ifn c15 e
      refine j_bipush (v := (100 : Int32)) C dX9_place_38 (by decide) ?_
      refine j_iload C dX9_place_40 rfl ?_
      refine j_iadd C dX9_place_42 ?_
      cases e
      exact j_iret C hq rfl dX9_place_43 ⟨Nat.le_of_ble_eq_true rfl, Nat.le_of_ble_eq_true rfl⟩ ⟨rfl, rfl⟩
    · replace e := ifp c15 e
      refine j_iconst (v := (-1 : Int32)) C dX9_place_34 (by decide) ?_
      refine j_goto (tgt := 43) C dX9_place_35 (by decide) ?_
      cases e
      exact j_iret C hq rfl dX9_place_43 ⟨Nat.le_of_ble_eq_true rfl, Nat.le_of_ble_eq_true rfl⟩ ⟨rfl, rfl⟩
  · replace e := ifn c16 e
    refine j_iload_n C dX9_place_15 rfl rfl ?_
    cases e
    exact j_iret C hq rfl dX9_place_16 ⟨Nat.le_of_ble_eq_true rfl, Nat.le_of_ble_eq_true rfl⟩ ⟨rfl, rfl⟩
/-! BorderBasis.commutes()Z -/
noncomputable def FX9_commutes (l0 : Nat) (h : jx_H) : Option (Int32 × jx_H) :=
(hgr h l0 9 7).bind fun x1 =>
(isO h x1 6).bind fun _ =>
bind2 (FX6_differences x1 h) fun x3 h4 =>
if x3 = 0 then
 some ((1 : Int32), h4)
else
 some ((0 : Int32), h4)
def rmX9_commutes : Room := { frames := 5, cells := 0, slots := 0, locals := 114 }
set_option maxRecDepth 20000 in
set_option maxHeartbeats 4000000 in
theorem sX9_commutes {l0 : Nat} {h : jx_H} {r : Int32} {h9 : jx_H} (e : FX9_commutes l0 h = some (r, h9)) : jx_Ct yX9_commutes cX9_commutes 1 (some .boolean) rmX9_commutes [.ref l0] h (fun r' h' => some (.int r) = r' ∧ h9 = h') := by
  refine jx_Ct.of (own := RX9) (by decide) rfl (Nat.le_of_ble_eq_true rfl) (fun X C hq hr hL hN => ?_)
  refine jx_sub (lv' := [(0, .ref l0)]) [0] rfl ?_
  unfold FX9_commutes at e
  refine j_aload_n C dX9_commutes_0 rfl rfl ?_
  replace e := ob e
  obtain ⟨x6, ex6, e⟩ := e
  refine j_getr (ci := 9) (RC := RX9) (T := TX9) (N := 14) 7 C rfl klX9 (Nat.le_of_ble_eq_true rfl) kX9_49 rfl dX9_commutes_1 ex6 ?_
  replace e := ob e
  obtain ⟨_, eo7, e⟩ := e
  replace e := ob2 e
  obtain ⟨x8, h9, ex8, e⟩ := e
  refine j_callV (ci := 6) (RC := RX6) (T := TX6) (N := 17) (As := []) (b := x6) (na := 0) (st := []) (k1 := 0) (n1 := 0) C hr (sX6_differences ex8) rfl eo7 kX9_229 kim_X6_differences ksel_X6_differences kini_X6 kc_X6_differences (by decide) rfl ⟨(Nat.le_of_ble_eq_true rfl), (Nat.le_of_ble_eq_true rfl)⟩ (Nat.le_of_ble_eq_true rfl) ⟨rfl, rfl, (Nat.le_of_ble_eq_true rfl), (Nat.le_of_ble_eq_true rfl)⟩ dX9_commutes_4 ?_
  rintro _ _ ⟨rfl, rfl⟩
  show jx_J X 0 0 7 [(0, .ref l0)] [.int x8] h9
  refine j_if_ne (tgt := 14) C dX9_commutes_7 (by decide) (fun c10 => ?_) (fun c10 => ?_)
  · replace e := ifn c10 e
    refine j_iconst (v := (0 : Int32)) C dX9_commutes_14 (by decide) ?_
    cases e
    exact j_iret C hq rfl dX9_commutes_15 ⟨Nat.le_of_ble_eq_true rfl, Nat.le_of_ble_eq_true rfl⟩ ⟨rfl, rfl⟩
  · replace e := ifp c10 e
    refine j_iconst (v := (1 : Int32)) C dX9_commutes_10 (by decide) ?_
    refine j_goto (tgt := 15) C dX9_commutes_11 (by decide) ?_
    cases e
    exact j_iret C hq rfl dX9_commutes_15 ⟨Nat.le_of_ble_eq_true rfl, Nat.le_of_ble_eq_true rfl⟩ ⟨rfl, rfl⟩
/-! BorderBasis.share()D -/
noncomputable def BX9_share_21  (h : jx_H) : Option (UInt64 × jx_H) :=
some ((13830554455654793216 : UInt64), h)
noncomputable def FX9_share (l0 : Nat) (h : jx_H) : Option (UInt64 × jx_H) :=
(hgr h l0 9 7).bind fun x1 =>
(isO h x1 6).bind fun _ =>
bind2 (FX6_differences x1 h) fun x3 h4 =>
if x3 = 0 then
 (hgr h4 l0 9 0).bind fun x5 =>
 (hgi h4 x5 5 2).bind fun x6 =>
 if (1 : Int32) ≤ x6 then
  (hgr h4 l0 9 8).bind fun x7 =>
  (isO h4 x7 8).bind fun _ =>
  bind2 (FX8_allMultiplicities x7 h4) fun x9 h10 =>
  (hgr h10 l0 9 0).bind fun x11 =>
  (hgi h10 x11 5 2).bind fun x12 =>
  if ¬ ((FP.ddiv (FP.i2d x9) (FP.i2d x12)) &&& 0x7fffffffffffffff ≤ 0x7ff0000000000000) then none else
  some ((FP.ddiv (FP.i2d x9) (FP.i2d x12)), h10)
 else
  BX9_share_21  h4
else
 BX9_share_21  h4
def rmX9_share : Room := { frames := 7, cells := 0, slots := 0, locals := 167 }
set_option maxRecDepth 20000 in
set_option maxHeartbeats 4000000 in
theorem sX9_share {l0 : Nat} {h : jx_H} {r : UInt64} {h9 : jx_H} (e : FX9_share l0 h = some (r, h9)) : jx_Ct yX9_share cX9_share 1 (some .double) rmX9_share [.ref l0] h (fun r' h' => some (.double r) = r' ∧ h9 = h') := by
  refine jx_Ct.of (own := RX9) (by decide) rfl (Nat.le_of_ble_eq_true rfl) (fun X C hq hr hL hN => ?_)
  refine jx_sub (lv' := [(0, .ref l0)]) [0] rfl ?_
  have b21 : ∀ (h16 : jx_H), BX9_share_21 h16 = some (r, h9) → jx_J X 0 0 21 [] [] h16 := by
    intro h16 e
    unfold BX9_share_21 at e
    refine j_ldc2d (v := (13830554455654793216 : UInt64)) C kX9_273 dX9_share_21 ?_
    cases e
    exact j_dret C hq dX9_share_24 ⟨Nat.le_of_ble_eq_true rfl, Nat.le_of_ble_eq_true rfl⟩ ⟨rfl, rfl⟩
  unfold FX9_share at e
  refine j_aload_n C dX9_share_0 rfl rfl ?_
  replace e := ob e
  obtain ⟨x17, ex17, e⟩ := e
  refine j_getr (ci := 9) (RC := RX9) (T := TX9) (N := 14) 7 C rfl klX9 (Nat.le_of_ble_eq_true rfl) kX9_49 rfl dX9_share_1 ex17 ?_
  replace e := ob e
  obtain ⟨_, eo18, e⟩ := e
  replace e := ob2 e
  obtain ⟨x19, h20, ex19, e⟩ := e
  refine j_callV (ci := 6) (RC := RX6) (T := TX6) (N := 17) (As := []) (b := x17) (na := 0) (st := []) (k1 := 0) (n1 := 0) C hr (sX6_differences ex19) rfl eo18 kX9_229 kim_X6_differences ksel_X6_differences kini_X6 kc_X6_differences (by decide) rfl ⟨(Nat.le_of_ble_eq_true rfl), (Nat.le_of_ble_eq_true rfl)⟩ (Nat.le_of_ble_eq_true rfl) ⟨rfl, rfl, (Nat.le_of_ble_eq_true rfl), (Nat.le_of_ble_eq_true rfl)⟩ dX9_share_4 ?_
  rintro _ _ ⟨rfl, rfl⟩
  show jx_J X 0 0 7 [(0, .ref l0)] [.int x19] h20
  refine j_if_ne (tgt := 21) C dX9_share_7 (by decide) (fun c31 => ?_) (fun c31 => ?_)
  · replace e := ifn c31 e
    refine jx_sub (lv' := []) [] rfl ?_
    exact b21 h20 e
  · replace e := ifp c31 e
    refine j_aload_n C dX9_share_10 rfl rfl ?_
    replace e := ob e
    obtain ⟨x21, ex21, e⟩ := e
    refine j_getr (ci := 9) (RC := RX9) (T := TX9) (N := 14) 0 C rfl klX9 (Nat.le_of_ble_eq_true rfl) kX9_12 rfl dX9_share_11 ex21 ?_
    replace e := ob e
    obtain ⟨x22, ex22, e⟩ := e
    refine j_geti (ci := 5) (RC := RX5) (T := TX5) (N := 12) 2 C rfl klX5 (Nat.le_of_ble_eq_true rfl) kX9_129 rfl dX9_share_14 ex22 ?_
    refine j_iconst (v := (1 : Int32)) C dX9_share_17 (by decide) ?_
    refine j_icmp_ge (tgt := 25) C dX9_share_18 (by decide) (fun c30 => ?_) (fun c30 => ?_)
    · replace e := ifp c30 e
      refine j_aload_n C dX9_share_25 rfl rfl ?_
      replace e := ob e
      obtain ⟨x23, ex23, e⟩ := e
      refine j_getr (ci := 9) (RC := RX9) (T := TX9) (N := 14) 8 C rfl klX9 (Nat.le_of_ble_eq_true rfl) kX9_58 rfl dX9_share_26 ex23 ?_
      replace e := ob e
      obtain ⟨_, eo24, e⟩ := e
      replace e := ob2 e
      obtain ⟨x25, h26, ex25, e⟩ := e
      refine j_callV (ci := 8) (RC := RX8) (T := TX8) (N := 15) (As := []) (b := x23) (na := 0) (st := []) (k1 := 0) (n1 := 0) C hr (sX8_allMultiplicities ex25) rfl eo24 kX9_258 kim_X8_allMultiplicities ksel_X8_allMultiplicities kini_X8 kc_X8_allMultiplicities (by decide) rfl ⟨(Nat.le_of_ble_eq_true rfl), (Nat.le_of_ble_eq_true rfl)⟩ (Nat.le_of_ble_eq_true rfl) ⟨rfl, rfl, (Nat.le_of_ble_eq_true rfl), (Nat.le_of_ble_eq_true rfl)⟩ dX9_share_29 ?_
      rintro _ _ ⟨rfl, rfl⟩
      show jx_J X 0 0 32 [(0, .ref l0)] [.int x25] h26
      refine j_i2d C dX9_share_32 ?_
      refine j_aload_n C dX9_share_33 rfl rfl ?_
      replace e := ob e
      obtain ⟨x27, ex27, e⟩ := e
      refine j_getr (ci := 9) (RC := RX9) (T := TX9) (N := 14) 0 C rfl klX9 (Nat.le_of_ble_eq_true rfl) kX9_12 rfl dX9_share_34 ex27 ?_
      replace e := ob e
      obtain ⟨x28, ex28, e⟩ := e
      refine j_geti (ci := 5) (RC := RX5) (T := TX5) (N := 12) 2 C rfl klX5 (Nat.le_of_ble_eq_true rfl) kX9_129 rfl dX9_share_37 ex28 ?_
      refine j_i2d C dX9_share_40 ?_
      by_cases c29 : ¬ ((FP.ddiv (FP.i2d x25) (FP.i2d x28)) &&& 0x7fffffffffffffff ≤ 0x7ff0000000000000)
      · exact nos (ifp c29 e)
      replace e := ifn c29 e
      replace c29 := Classical.not_not.mp c29
      refine j_ddiv C dX9_share_41 c29 ?_
      cases e
      exact j_dret C hq dX9_share_42 ⟨Nat.le_of_ble_eq_true rfl, Nat.le_of_ble_eq_true rfl⟩ ⟨rfl, rfl⟩
    · replace e := ifn c30 e
      refine jx_sub (lv' := []) [] rfl ?_
      exact b21 h20 e
/-! BorderBasis.misfits()I -/
noncomputable def FX9_misfits (l0 : Nat) (h : jx_H) : Option (Int32 × jx_H) :=
(hgr h l0 9 0).bind fun x1 =>
(hgi h x1 5 9).bind fun x2 =>
if x2 = 0 then
 some ((-1 : Int32), h)
else
 (hgr h l0 9 9).bind fun x3 =>
 (hgr h l0 9 0).bind fun x4 =>
 (hgr h l0 9 2).bind fun x5 =>
 (isO h x3 0).bind fun _ =>
 (FX0_fitPoints x3 x4 x5 h).bind fun h7 =>
 (hgr h7 l0 9 0).bind fun x8 =>
 (hgr h7 l0 9 2).bind fun x9 =>
 (isO h7 x8 5).bind fun _ =>
 (FX5_hasSameIdeal x8 x9 h7).bind fun x11 =>
 if x11 = 0 then
  some ((-1 : Int32), h7)
 else
  (hgr h7 l0 9 0).bind fun x12 =>
  (hgr h7 l0 9 2).bind fun x13 =>
  (isO h7 x12 5).bind fun _ =>
  (FX5_otherRules x12 x13 h7).bind fun x15 =>
  some (x15, h7)
def rmX9_misfits : Room := { frames := 5, cells := 0, slots := 0, locals := 124 }
set_option maxRecDepth 20000 in
set_option maxHeartbeats 4000000 in
theorem sX9_misfits {l0 : Nat} {h : jx_H} {r : Int32} {h9 : jx_H} (e : FX9_misfits l0 h = some (r, h9)) : jx_Ct yX9_misfits cX9_misfits 1 (some .int) rmX9_misfits [.ref l0] h (fun r' h' => some (.int r) = r' ∧ h9 = h') := by
  refine jx_Ct.of (own := RX9) (by decide) rfl (Nat.le_of_ble_eq_true rfl) (fun X C hq hr hL hN => ?_)
  refine jx_sub (lv' := [(0, .ref l0)]) [0] rfl ?_
  unfold FX9_misfits at e
  refine j_aload_n C dX9_misfits_0 rfl rfl ?_
  replace e := ob e
  obtain ⟨x18, ex18, e⟩ := e
  refine j_getr (ci := 9) (RC := RX9) (T := TX9) (N := 14) 0 C rfl klX9 (Nat.le_of_ble_eq_true rfl) kX9_12 rfl dX9_misfits_1 ex18 ?_
  replace e := ob e
  obtain ⟨x19, ex19, e⟩ := e
  refine j_geti (ci := 5) (RC := RX5) (T := TX5) (N := 12) 9 C rfl klX5 (Nat.le_of_ble_eq_true rfl) kX9_162 rfl dX9_misfits_4 ex19 ?_
  refine j_if_ne (tgt := 12) C dX9_misfits_7 (by decide) (fun c34 => ?_) (fun c34 => ?_)
  · replace e := ifn c34 e
    refine j_aload_n C dX9_misfits_12 rfl rfl ?_
    replace e := ob e
    obtain ⟨x20, ex20, e⟩ := e
    refine j_getr (ci := 9) (RC := RX9) (T := TX9) (N := 14) 9 C rfl klX9 (Nat.le_of_ble_eq_true rfl) kX9_67 rfl dX9_misfits_13 ex20 ?_
    refine j_aload_n C dX9_misfits_16 rfl rfl ?_
    replace e := ob e
    obtain ⟨x21, ex21, e⟩ := e
    refine j_getr (ci := 9) (RC := RX9) (T := TX9) (N := 14) 0 C rfl klX9 (Nat.le_of_ble_eq_true rfl) kX9_12 rfl dX9_misfits_17 ex21 ?_
    refine j_aload_n C dX9_misfits_20 rfl rfl ?_
    replace e := ob e
    obtain ⟨x22, ex22, e⟩ := e
    refine j_getr (ci := 9) (RC := RX9) (T := TX9) (N := 14) 2 C rfl klX9 (Nat.le_of_ble_eq_true rfl) kX9_19 rfl dX9_misfits_21 ex22 ?_
    replace e := ob e
    obtain ⟨_, eo23, e⟩ := e
    replace e := ob e
    obtain ⟨h24, eh24, e⟩ := e
    refine j_callV (ci := 0) (RC := RX0) (T := TX0) (N := 2) (As := [.ref x21, .ref x22]) (b := x20) (na := 2) (st := []) (k1 := 0) (n1 := 0) C hr (sX0_fitPoints eh24) rfl eo23 kX9_295 kim_X0_fitPoints ksel_X0_fitPoints kini_X0 kc_X0_fitPoints (by decide) rfl ⟨(Nat.le_of_ble_eq_true rfl), (Nat.le_of_ble_eq_true rfl)⟩ (Nat.le_of_ble_eq_true rfl) ⟨rfl, rfl, (Nat.le_of_ble_eq_true rfl), (Nat.le_of_ble_eq_true rfl)⟩ dX9_misfits_24 ?_
    rintro _ _ ⟨rfl, rfl⟩
    show jx_J X 0 0 27 [(0, .ref l0)] [] h24
    refine j_aload_n C dX9_misfits_27 rfl rfl ?_
    replace e := ob e
    obtain ⟨x25, ex25, e⟩ := e
    refine j_getr (ci := 9) (RC := RX9) (T := TX9) (N := 14) 0 C rfl klX9 (Nat.le_of_ble_eq_true rfl) kX9_12 rfl dX9_misfits_28 ex25 ?_
    refine j_aload_n C dX9_misfits_31 rfl rfl ?_
    replace e := ob e
    obtain ⟨x26, ex26, e⟩ := e
    refine j_getr (ci := 9) (RC := RX9) (T := TX9) (N := 14) 2 C rfl klX9 (Nat.le_of_ble_eq_true rfl) kX9_19 rfl dX9_misfits_32 ex26 ?_
    replace e := ob e
    obtain ⟨_, eo27, e⟩ := e
    replace e := ob e
    obtain ⟨x28, ex28, e⟩ := e
    refine j_callV (ci := 5) (RC := RX5) (T := TX5) (N := 12) (As := [.ref x26]) (b := x25) (na := 1) (st := []) (k1 := 0) (n1 := 0) C hr (sX5_hasSameIdeal ex28) rfl eo27 kX9_299 kim_X5_hasSameIdeal ksel_X5_hasSameIdeal kini_X5 kc_X5_hasSameIdeal (by decide) rfl ⟨(Nat.le_of_ble_eq_true rfl), (Nat.le_of_ble_eq_true rfl)⟩ (Nat.le_of_ble_eq_true rfl) ⟨rfl, rfl, (Nat.le_of_ble_eq_true rfl), (Nat.le_of_ble_eq_true rfl)⟩ dX9_misfits_35 ?_
    rintro _ _ ⟨rfl, rfl⟩
    show jx_J X 0 0 38 [(0, .ref l0)] [.int x28] h24
    refine j_if_eq (tgt := 55) C dX9_misfits_38 (by decide) (fun c33 => ?_) (fun c33 => ?_)
    · replace e := ifp c33 e
      refine j_iconst (v := (-1 : Int32)) C dX9_misfits_55 (by decide) ?_
      cases e
      exact j_iret C hq rfl dX9_misfits_56 ⟨Nat.le_of_ble_eq_true rfl, Nat.le_of_ble_eq_true rfl⟩ ⟨rfl, rfl⟩
    · replace e := ifn c33 e
      refine j_aload_n C dX9_misfits_41 rfl rfl ?_
      replace e := ob e
      obtain ⟨x29, ex29, e⟩ := e
      refine j_getr (ci := 9) (RC := RX9) (T := TX9) (N := 14) 0 C rfl klX9 (Nat.le_of_ble_eq_true rfl) kX9_12 rfl dX9_misfits_42 ex29 ?_
      refine j_aload_n C dX9_misfits_45 rfl rfl ?_
      replace e := ob e
      obtain ⟨x30, ex30, e⟩ := e
      refine j_getr (ci := 9) (RC := RX9) (T := TX9) (N := 14) 2 C rfl klX9 (Nat.le_of_ble_eq_true rfl) kX9_19 rfl dX9_misfits_46 ex30 ?_
      replace e := ob e
      obtain ⟨_, eo31, e⟩ := e
      replace e := ob e
      obtain ⟨x32, ex32, e⟩ := e
      refine j_callV (ci := 5) (RC := RX5) (T := TX5) (N := 12) (As := [.ref x30]) (b := x29) (na := 1) (st := []) (k1 := 0) (n1 := 0) C hr (sX5_otherRules ex32) rfl eo31 kX9_302 kim_X5_otherRules ksel_X5_otherRules kini_X5 kc_X5_otherRules (by decide) rfl ⟨(Nat.le_of_ble_eq_true rfl), (Nat.le_of_ble_eq_true rfl)⟩ (Nat.le_of_ble_eq_true rfl) ⟨rfl, rfl, (Nat.le_of_ble_eq_true rfl), (Nat.le_of_ble_eq_true rfl)⟩ dX9_misfits_49 ?_
      rintro _ _ ⟨rfl, rfl⟩
      show jx_J X 0 0 52 [(0, .ref l0)] [.int x32] h24
      refine j_goto (tgt := 56) C dX9_misfits_52 (by decide) ?_
      cases e
      exact j_iret C hq rfl dX9_misfits_56 ⟨Nat.le_of_ble_eq_true rfl, Nat.le_of_ble_eq_true rfl⟩ ⟨rfl, rfl⟩
  · replace e := ifp c34 e
    refine j_iconst (v := (-1 : Int32)) C dX9_misfits_10 (by decide) ?_
    cases e
    exact j_iret C hq rfl dX9_misfits_11 ⟨Nat.le_of_ble_eq_true rfl, Nat.le_of_ble_eq_true rfl⟩ ⟨rfl, rfl⟩
/-! BorderBasis.undo()I -/
noncomputable def FX9_undo (l0 : Nat) (h : jx_H) : Option (Int32 × jx_H) :=
(hgr h l0 9 4).bind fun x1 =>
(hgi h x1 1 2).bind fun x2 =>
if x2 = 0 then
 some ((-1 : Int32), h)
else
 (hgr h l0 9 4).bind fun x3 =>
 (hgr h l0 9 0).bind fun x4 =>
 (isO h x3 1).bind fun _ =>
 (FX1_bringBack x3 x4 h).bind fun h6 =>
 (isO h6 l0 9).bind fun _ =>
 (FX9_forgetDerived l0 h6).bind fun h8 =>
 (hgr h8 l0 9 4).bind fun x9 =>
 (hgi h8 x9 1 2).bind fun x10 =>
 some (x10, h8)
def rmX9_undo : Room := { frames := 3, cells := 0, slots := 0, locals := 74 }
set_option maxRecDepth 20000 in
set_option maxHeartbeats 4000000 in
theorem sX9_undo {l0 : Nat} {h : jx_H} {r : Int32} {h9 : jx_H} (e : FX9_undo l0 h = some (r, h9)) : jx_Ct yX9_undo cX9_undo 1 (some .int) rmX9_undo [.ref l0] h (fun r' h' => some (.int r) = r' ∧ h9 = h') := by
  refine jx_Ct.of (own := RX9) (by decide) rfl (Nat.le_of_ble_eq_true rfl) (fun X C hq hr hL hN => ?_)
  refine jx_sub (lv' := [(0, .ref l0)]) [0] rfl ?_
  unfold FX9_undo at e
  refine j_aload_n C dX9_undo_0 rfl rfl ?_
  replace e := ob e
  obtain ⟨x12, ex12, e⟩ := e
  refine j_getr (ci := 9) (RC := RX9) (T := TX9) (N := 14) 4 C rfl klX9 (Nat.le_of_ble_eq_true rfl) kX9_29 rfl dX9_undo_1 ex12 ?_
  replace e := ob e
  obtain ⟨x13, ex13, e⟩ := e
  refine j_geti (ci := 1) (RC := RX1) (T := TX1) (N := 3) 2 C rfl klX1 (Nat.le_of_ble_eq_true rfl) kX9_117 rfl dX9_undo_4 ex13 ?_
  refine j_if_ne (tgt := 12) C dX9_undo_7 (by decide) (fun c22 => ?_) (fun c22 => ?_)
  · replace e := ifn c22 e
    refine j_aload_n C dX9_undo_12 rfl rfl ?_
    replace e := ob e
    obtain ⟨x14, ex14, e⟩ := e
    refine j_getr (ci := 9) (RC := RX9) (T := TX9) (N := 14) 4 C rfl klX9 (Nat.le_of_ble_eq_true rfl) kX9_29 rfl dX9_undo_13 ex14 ?_
    refine j_aload_n C dX9_undo_16 rfl rfl ?_
    replace e := ob e
    obtain ⟨x15, ex15, e⟩ := e
    refine j_getr (ci := 9) (RC := RX9) (T := TX9) (N := 14) 0 C rfl klX9 (Nat.le_of_ble_eq_true rfl) kX9_12 rfl dX9_undo_17 ex15 ?_
    replace e := ob e
    obtain ⟨_, eo16, e⟩ := e
    replace e := ob e
    obtain ⟨h17, eh17, e⟩ := e
    refine j_callV (ci := 1) (RC := RX1) (T := TX1) (N := 3) (As := [.ref x15]) (b := x14) (na := 1) (st := []) (k1 := 0) (n1 := 0) C hr (sX1_bringBack eh17) rfl eo16 kX9_306 kim_X1_bringBack ksel_X1_bringBack kini_X1 kc_X1_bringBack (by decide) rfl ⟨(Nat.le_of_ble_eq_true rfl), (Nat.le_of_ble_eq_true rfl)⟩ (Nat.le_of_ble_eq_true rfl) ⟨rfl, rfl, (Nat.le_of_ble_eq_true rfl), (Nat.le_of_ble_eq_true rfl)⟩ dX9_undo_20 ?_
    rintro _ _ ⟨rfl, rfl⟩
    show jx_J X 0 0 23 [(0, .ref l0)] [] h17
    refine j_aload_n C dX9_undo_23 rfl rfl ?_
    replace e := ob e
    obtain ⟨_, eo18, e⟩ := e
    replace e := ob e
    obtain ⟨h19, eh19, e⟩ := e
    refine j_callV (ci := 9) (RC := RX9) (T := TX9) (N := 14) (As := []) (b := l0) (na := 0) (st := []) (k1 := 0) (n1 := 0) C hr (sX9_forgetDerived eh19) rfl eo18 kX9_126 kim_X9_forgetDerived ksel_X9_forgetDerived kini_X9 kc_X9_forgetDerived (by decide) rfl ⟨(Nat.le_of_ble_eq_true rfl), (Nat.le_of_ble_eq_true rfl)⟩ (Nat.le_of_ble_eq_true rfl) ⟨rfl, rfl, (Nat.le_of_ble_eq_true rfl), (Nat.le_of_ble_eq_true rfl)⟩ dX9_undo_24 ?_
    rintro _ _ ⟨rfl, rfl⟩
    show jx_J X 0 0 27 [(0, .ref l0)] [] h19
    refine j_aload_n C dX9_undo_27 rfl rfl ?_
    replace e := ob e
    obtain ⟨x20, ex20, e⟩ := e
    refine j_getr (ci := 9) (RC := RX9) (T := TX9) (N := 14) 4 C rfl klX9 (Nat.le_of_ble_eq_true rfl) kX9_29 rfl dX9_undo_28 ex20 ?_
    replace e := ob e
    obtain ⟨x21, ex21, e⟩ := e
    refine j_geti (ci := 1) (RC := RX1) (T := TX1) (N := 3) 2 C rfl klX1 (Nat.le_of_ble_eq_true rfl) kX9_117 rfl dX9_undo_31 ex21 ?_
    cases e
    exact j_iret C hq rfl dX9_undo_34 ⟨Nat.le_of_ble_eq_true rfl, Nat.le_of_ble_eq_true rfl⟩ ⟨rfl, rfl⟩
  · replace e := ifp c22 e
    refine j_iconst (v := (-1 : Int32)) C dX9_undo_10 (by decide) ?_
    cases e
    exact j_iret C hq rfl dX9_undo_11 ⟨Nat.le_of_ble_eq_true rfl, Nat.le_of_ble_eq_true rfl⟩ ⟨rfl, rfl⟩
/-! BorderBasisModel.borderAt(II)I -/
noncomputable def BX10_borderAt_40 (l0 : Nat) (l1 : Int32) (l2 : Int32) (l3 : Int32) (h : jx_H) : Option ((Int32) ⊕ (Int32)) :=
some (.inl (l3 + (1 : Int32)))
noncomputable def LX10_borderAt_2 (l0 : Nat) (l1 : Int32) (l2 : Int32) (l3 : Int32) (h : jx_H) : Option ((Int32) ⊕ (Int32)) :=
(hgr h l0 10 1).bind fun x1 =>
(hal h .int x1 (2 : Int32)).bind fun x2 =>
if x2 ≤ l3 then
 exL (some (-1 : Int32))
else
 (hgr h l0 10 1).bind fun x3 =>
 (hal h .int x3 ((28 : Int32) + l3)).bind fun x4 =>
 if x4 = l1 then
  (hgr h l0 10 1).bind fun x5 =>
  (hal h .int x5 ((42 : Int32) + l3)).bind fun x6 =>
  if x6 = l2 then
   exL (some l3)
  else
   BX10_borderAt_40 l0 l1 l2 l3 h
 else
  BX10_borderAt_40 l0 l1 l2 l3 h
noncomputable def FX10_borderAt (l0 : Nat) (l1 : Int32) (l2 : Int32) (h : jx_H) : Option (Int32) :=
itr (fun s : Int32 => LX10_borderAt_2 l0 l1 l2 s h) (0 : Int32)
def rmX10_borderAt : Room := { frames := 0, cells := 0, slots := 0, locals := 0 }
set_option maxRecDepth 20000 in
set_option maxHeartbeats 4000000 in
theorem sX10_borderAt {l0 : Nat} {l1 : Int32} {l2 : Int32} {h : jx_H} {r : Int32}  (e : FX10_borderAt l0 l1 l2 h = some r) : jx_Ct yX10_borderAt cX10_borderAt 4 (some .int) rmX10_borderAt [.ref l0, .int l1, .int l2] h (fun r' h' => some (.int r) = r' ∧ h = h') := by
  refine jx_Ct.of (own := RX10) (by decide) rfl (Nat.le_of_ble_eq_true rfl) (fun X C hq hr hL hN => ?_)
  refine jx_sub (lv' := [(0, .ref l0), (1, .int l1), (2, .int l2)]) [0, 1, 2] rfl ?_
  unfold FX10_borderAt at e
  refine j_iconst (v := (0 : Int32)) C dX10_borderAt_0 (by decide) ?_
  refine j_istore_n (lv1 := [(3, .int (0 : Int32)), (0, .ref l0), (1, .int l1), (2, .int l2)]) C hL dX10_borderAt_1 rfl (Nat.le_of_ble_eq_true rfl) rfl ?_
  refine jx_sub (lv' := [(0, .ref l0), (1, .int l1), (2, .int l2), (3, .int (0 : Int32))]) [1, 2, 3, 0] rfl ?_
  refine itr_ind (s0 := (0 : Int32)) (fun s : Int32 => jx_J X 0 0 2 [(0, .ref l0), (1, .int l1), (2, .int l2), (3, .int s)] [] h) e ?_
  clear e
  intro s kI3 kT3 e0
  obtain ⟨z10, es⟩ : ∃ z, z = s := ⟨_, rfl⟩
  subst es
  obtain ⟨u3, e0_3⟩ := e0
  have e : LX10_borderAt_2 l0 l1 l2 z10 h = some u3 := e0_3
  have b40 : ∀ (y11 : Int32), BX10_borderAt_40 l0 l1 l2 y11 h = some u3 → jx_J X 0 0 40 [(0, .ref l0), (1, .int l1), (2, .int l2), (3, .int y11)] [] h := by
    intro y11 e
    unfold BX10_borderAt_40 at e
    refine j_iinc (v := (y11 + (1 : Int32))) (lv1 := [(3, .int (y11 + (1 : Int32))), (0, .ref l0), (1, .int l1), (2, .int l2)]) C hL dX10_borderAt_40 rfl rfl (Nat.le_of_ble_eq_true rfl) rfl ?_
    refine j_goto (tgt := 2) C dX10_borderAt_43 (by decide) ?_
    obtain rfl := Option.some.inj e
    refine jx_sub (lv' := [(0, .ref l0), (1, .int l1), (2, .int l2), (3, .int (y11 + (1 : Int32)))]) [1, 2, 3, 0] rfl ?_
    exact kI3 (y11 + (1 : Int32)) e0_3
  unfold LX10_borderAt_2 at e
  refine j_iload_n C dX10_borderAt_2 rfl rfl ?_
  refine j_aload_n C dX10_borderAt_3 rfl rfl ?_
  replace e := ob e
  obtain ⟨x12, ex12, e⟩ := e
  refine j_getr (ci := 10) (RC := RX10) (T := TX10) (N := 38) 1 C rfl klX10 (Nat.le_of_ble_eq_true rfl) kX10_7 rfl dX10_borderAt_4 ex12 ?_
  refine j_iconst (v := (2 : Int32)) C dX10_borderAt_7 (by decide) ?_
  replace e := ob e
  obtain ⟨x13, ex13, e⟩ := e
  refine j_iald C dX10_borderAt_8 ex13 ?_
  refine j_icmp_ge (tgt := 46) C dX10_borderAt_9 (by decide) (fun c20 => ?_) (fun c20 => ?_)
  · replace e := ifp c20 e
    obtain ⟨t_4, e_4, eu_4⟩ := exL_spec e
    obtain rfl := kT3 t_4 (e0_3.trans (congrArg some eu_4))
    replace e := e_4
    refine j_iconst (v := (-1 : Int32)) C dX10_borderAt_46 (by decide) ?_
    cases e
    exact j_iret C hq rfl dX10_borderAt_47 ⟨Nat.le_of_ble_eq_true rfl, Nat.le_of_ble_eq_true rfl⟩ ⟨rfl, rfl⟩
  · replace e := ifn c20 e
    refine j_aload_n C dX10_borderAt_12 rfl rfl ?_
    replace e := ob e
    obtain ⟨x14, ex14, e⟩ := e
    refine j_getr (ci := 10) (RC := RX10) (T := TX10) (N := 38) 1 C rfl klX10 (Nat.le_of_ble_eq_true rfl) kX10_7 rfl dX10_borderAt_13 ex14 ?_
    refine j_bipush (v := (28 : Int32)) C dX10_borderAt_16 (by decide) ?_
    refine j_iload_n C dX10_borderAt_18 rfl rfl ?_
    refine j_iadd C dX10_borderAt_19 ?_
    replace e := ob e
    obtain ⟨x15, ex15, e⟩ := e
    refine j_iald C dX10_borderAt_20 ex15 ?_
    refine j_iload_n C dX10_borderAt_21 rfl rfl ?_
    refine j_icmp_ne (tgt := 40) C dX10_borderAt_22 (by decide) (fun c19 => ?_) (fun c19 => ?_)
    · replace e := ifn c19 e
      exact b40 z10 e
    · replace e := ifp c19 e
      refine j_aload_n C dX10_borderAt_25 rfl rfl ?_
      replace e := ob e
      obtain ⟨x16, ex16, e⟩ := e
      refine j_getr (ci := 10) (RC := RX10) (T := TX10) (N := 38) 1 C rfl klX10 (Nat.le_of_ble_eq_true rfl) kX10_7 rfl dX10_borderAt_26 ex16 ?_
      refine j_bipush (v := (42 : Int32)) C dX10_borderAt_29 (by decide) ?_
      refine j_iload_n C dX10_borderAt_31 rfl rfl ?_
      refine j_iadd C dX10_borderAt_32 ?_
      replace e := ob e
      obtain ⟨x17, ex17, e⟩ := e
      refine j_iald C dX10_borderAt_33 ex17 ?_
      refine j_iload_n C dX10_borderAt_34 rfl rfl ?_
      refine j_icmp_ne (tgt := 40) C dX10_borderAt_35 (by decide) (fun c18 => ?_) (fun c18 => ?_)
      · replace e := ifn c18 e
        exact b40 z10 e
      · replace e := ifp c18 e
        obtain ⟨t_5, e_5, eu_5⟩ := exL_spec e
        obtain rfl := kT3 t_5 (e0_3.trans (congrArg some eu_5))
        replace e := e_5
        refine j_iload_n C dX10_borderAt_38 rfl rfl ?_
        cases e
        exact j_iret C hq rfl dX10_borderAt_39 ⟨Nat.le_of_ble_eq_true rfl, Nat.le_of_ble_eq_true rfl⟩ ⟨rfl, rfl⟩
/-! BorderBasisModel.n()I -/
noncomputable def FX10_n (l0 : Nat) (h : jx_H) : Option (Int32) :=
(hgr h l0 10 1).bind fun x1 =>
(hal h .int x1 (1 : Int32)).bind fun x2 =>
some x2
def rmX10_n : Room := { frames := 0, cells := 0, slots := 0, locals := 0 }
set_option maxRecDepth 20000 in
set_option maxHeartbeats 4000000 in
theorem sX10_n {l0 : Nat} {h : jx_H} {r : Int32}  (e : FX10_n l0 h = some r) : jx_Ct yX10_n cX10_n 1 (some .int) rmX10_n [.ref l0] h (fun r' h' => some (.int r) = r' ∧ h = h') := by
  refine jx_Ct.of (own := RX10) (by decide) rfl (Nat.le_of_ble_eq_true rfl) (fun X C hq hr hL hN => ?_)
  refine jx_sub (lv' := [(0, .ref l0)]) [0] rfl ?_
  unfold FX10_n at e
  refine j_aload_n C dX10_n_0 rfl rfl ?_
  replace e := ob e
  obtain ⟨x3, ex3, e⟩ := e
  refine j_getr (ci := 10) (RC := RX10) (T := TX10) (N := 38) 1 C rfl klX10 (Nat.le_of_ble_eq_true rfl) kX10_7 rfl dX10_n_1 ex3 ?_
  refine j_iconst (v := (1 : Int32)) C dX10_n_4 (by decide) ?_
  replace e := ob e
  obtain ⟨x4, ex4, e⟩ := e
  refine j_iald C dX10_n_5 ex4 ?_
  cases e
  exact j_iret C hq rfl dX10_n_6 ⟨Nat.le_of_ble_eq_true rfl, Nat.le_of_ble_eq_true rfl⟩ ⟨rfl, rfl⟩
/-! BorderBasisModel.monomialAt(II)I -/
noncomputable def BX10_monomialAt_37 (l0 : Nat) (l1 : Int32) (l2 : Int32) (l3 : Int32) (h : jx_H) : Option ((Int32) ⊕ (Int32)) :=
some (.inl (l3 + (1 : Int32)))
noncomputable def LX10_monomialAt_2 (l0 : Nat) (l1 : Int32) (l2 : Int32) (l3 : Int32) (h : jx_H) : Option ((Int32) ⊕ (Int32)) :=
(isO h l0 10).bind fun _ =>
(FX10_n l0 h).bind fun x2 =>
if x2 ≤ l3 then
 exL (some (-1 : Int32))
else
 (hgr h l0 10 1).bind fun x3 =>
 (hal h .int x3 ((4 : Int32) + l3)).bind fun x4 =>
 if x4 = l1 then
  (hgr h l0 10 1).bind fun x5 =>
  (hal h .int x5 ((16 : Int32) + l3)).bind fun x6 =>
  if x6 = l2 then
   exL (some l3)
  else
   BX10_monomialAt_37 l0 l1 l2 l3 h
 else
  BX10_monomialAt_37 l0 l1 l2 l3 h
noncomputable def FX10_monomialAt (l0 : Nat) (l1 : Int32) (l2 : Int32) (h : jx_H) : Option (Int32) :=
itr (fun s : Int32 => LX10_monomialAt_2 l0 l1 l2 s h) (0 : Int32)
def rmX10_monomialAt : Room := { frames := 1, cells := 0, slots := 0, locals := 20 }
set_option maxRecDepth 20000 in
set_option maxHeartbeats 4000000 in
theorem sX10_monomialAt {l0 : Nat} {l1 : Int32} {l2 : Int32} {h : jx_H} {r : Int32}  (e : FX10_monomialAt l0 l1 l2 h = some r) : jx_Ct yX10_monomialAt cX10_monomialAt 4 (some .int) rmX10_monomialAt [.ref l0, .int l1, .int l2] h (fun r' h' => some (.int r) = r' ∧ h = h') := by
  refine jx_Ct.of (own := RX10) (by decide) rfl (Nat.le_of_ble_eq_true rfl) (fun X C hq hr hL hN => ?_)
  refine jx_sub (lv' := [(0, .ref l0), (1, .int l1), (2, .int l2)]) [0, 1, 2] rfl ?_
  unfold FX10_monomialAt at e
  refine j_iconst (v := (0 : Int32)) C dX10_monomialAt_0 (by decide) ?_
  refine j_istore_n (lv1 := [(3, .int (0 : Int32)), (0, .ref l0), (1, .int l1), (2, .int l2)]) C hL dX10_monomialAt_1 rfl (Nat.le_of_ble_eq_true rfl) rfl ?_
  refine jx_sub (lv' := [(0, .ref l0), (1, .int l1), (2, .int l2), (3, .int (0 : Int32))]) [1, 2, 3, 0] rfl ?_
  refine itr_ind (s0 := (0 : Int32)) (fun s : Int32 => jx_J X 0 0 2 [(0, .ref l0), (1, .int l1), (2, .int l2), (3, .int s)] [] h) e ?_
  clear e
  intro s kI3 kT3 e0
  obtain ⟨z10, es⟩ : ∃ z, z = s := ⟨_, rfl⟩
  subst es
  obtain ⟨u3, e0_3⟩ := e0
  have e : LX10_monomialAt_2 l0 l1 l2 z10 h = some u3 := e0_3
  have b37 : ∀ (y11 : Int32), BX10_monomialAt_37 l0 l1 l2 y11 h = some u3 → jx_J X 0 0 37 [(0, .ref l0), (1, .int l1), (2, .int l2), (3, .int y11)] [] h := by
    intro y11 e
    unfold BX10_monomialAt_37 at e
    refine j_iinc (v := (y11 + (1 : Int32))) (lv1 := [(3, .int (y11 + (1 : Int32))), (0, .ref l0), (1, .int l1), (2, .int l2)]) C hL dX10_monomialAt_37 rfl rfl (Nat.le_of_ble_eq_true rfl) rfl ?_
    refine j_goto (tgt := 2) C dX10_monomialAt_40 (by decide) ?_
    obtain rfl := Option.some.inj e
    refine jx_sub (lv' := [(0, .ref l0), (1, .int l1), (2, .int l2), (3, .int (y11 + (1 : Int32)))]) [1, 2, 3, 0] rfl ?_
    exact kI3 (y11 + (1 : Int32)) e0_3
  unfold LX10_monomialAt_2 at e
  refine j_iload_n C dX10_monomialAt_2 rfl rfl ?_
  refine j_aload_n C dX10_monomialAt_3 rfl rfl ?_
  replace e := ob e
  obtain ⟨_, eo12, e⟩ := e
  replace e := ob e
  obtain ⟨x13, ex13, e⟩ := e
  refine j_callV (ci := 10) (RC := RX10) (T := TX10) (N := 38) (As := []) (b := l0) (na := 0) (st := [.int z10]) (k1 := 0) (n1 := 0) C hr (sX10_n ex13) rfl eo12 kX10_105 kim_X10_n ksel_X10_n kini_X10 kc_X10_n (by decide) rfl ⟨(Nat.le_of_ble_eq_true rfl), (Nat.le_of_ble_eq_true rfl)⟩ (Nat.le_of_ble_eq_true rfl) ⟨rfl, rfl, (Nat.le_of_ble_eq_true rfl), (Nat.le_of_ble_eq_true rfl)⟩ dX10_monomialAt_4 ?_
  rintro _ _ ⟨rfl, rfl⟩
  show jx_J X 0 0 7 [(0, .ref l0), (1, .int l1), (2, .int l2), (3, .int z10)] [.int x13, .int z10] h
  refine j_icmp_ge (tgt := 43) C dX10_monomialAt_7 (by decide) (fun c20 => ?_) (fun c20 => ?_)
  · replace e := ifp c20 e
    obtain ⟨t_4, e_4, eu_4⟩ := exL_spec e
    obtain rfl := kT3 t_4 (e0_3.trans (congrArg some eu_4))
    replace e := e_4
    refine j_iconst (v := (-1 : Int32)) C dX10_monomialAt_43 (by decide) ?_
    cases e
    exact j_iret C hq rfl dX10_monomialAt_44 ⟨Nat.le_of_ble_eq_true rfl, Nat.le_of_ble_eq_true rfl⟩ ⟨rfl, rfl⟩
  · replace e := ifn c20 e
    refine j_aload_n C dX10_monomialAt_10 rfl rfl ?_
    replace e := ob e
    obtain ⟨x14, ex14, e⟩ := e
    refine j_getr (ci := 10) (RC := RX10) (T := TX10) (N := 38) 1 C rfl klX10 (Nat.le_of_ble_eq_true rfl) kX10_7 rfl dX10_monomialAt_11 ex14 ?_
    refine j_iconst (v := (4 : Int32)) C dX10_monomialAt_14 (by decide) ?_
    refine j_iload_n C dX10_monomialAt_15 rfl rfl ?_
    refine j_iadd C dX10_monomialAt_16 ?_
    replace e := ob e
    obtain ⟨x15, ex15, e⟩ := e
    refine j_iald C dX10_monomialAt_17 ex15 ?_
    refine j_iload_n C dX10_monomialAt_18 rfl rfl ?_
    refine j_icmp_ne (tgt := 37) C dX10_monomialAt_19 (by decide) (fun c19 => ?_) (fun c19 => ?_)
    · replace e := ifn c19 e
      exact b37 z10 e
    · replace e := ifp c19 e
      refine j_aload_n C dX10_monomialAt_22 rfl rfl ?_
      replace e := ob e
      obtain ⟨x16, ex16, e⟩ := e
      refine j_getr (ci := 10) (RC := RX10) (T := TX10) (N := 38) 1 C rfl klX10 (Nat.le_of_ble_eq_true rfl) kX10_7 rfl dX10_monomialAt_23 ex16 ?_
      refine j_bipush (v := (16 : Int32)) C dX10_monomialAt_26 (by decide) ?_
      refine j_iload_n C dX10_monomialAt_28 rfl rfl ?_
      refine j_iadd C dX10_monomialAt_29 ?_
      replace e := ob e
      obtain ⟨x17, ex17, e⟩ := e
      refine j_iald C dX10_monomialAt_30 ex17 ?_
      refine j_iload_n C dX10_monomialAt_31 rfl rfl ?_
      refine j_icmp_ne (tgt := 37) C dX10_monomialAt_32 (by decide) (fun c18 => ?_) (fun c18 => ?_)
      · replace e := ifn c18 e
        exact b37 z10 e
      · replace e := ifp c18 e
        obtain ⟨t_5, e_5, eu_5⟩ := exL_spec e
        obtain rfl := kT3 t_5 (e0_3.trans (congrArg some eu_5))
        replace e := e_5
        refine j_iload_n C dX10_monomialAt_35 rfl rfl ?_
        cases e
        exact j_iret C hq rfl dX10_monomialAt_36 ⟨Nat.le_of_ble_eq_true rfl, Nat.le_of_ble_eq_true rfl⟩ ⟨rfl, rfl⟩
/-! BorderBasisModel.hasIt(II)Z -/
noncomputable def FX10_hasIt (l0 : Nat) (l1 : Int32) (l2 : Int32) (h : jx_H) : Option (Int32) :=
(isO h l0 10).bind fun _ =>
(FX10_monomialAt l0 l1 l2 h).bind fun x2 =>
if x2 = (-1 : Int32) then
 some (0 : Int32)
else
 some (1 : Int32)
def rmX10_hasIt : Room := { frames := 2, cells := 0, slots := 0, locals := 43 }
set_option maxRecDepth 20000 in
set_option maxHeartbeats 4000000 in
theorem sX10_hasIt {l0 : Nat} {l1 : Int32} {l2 : Int32} {h : jx_H} {r : Int32}  (e : FX10_hasIt l0 l1 l2 h = some r) : jx_Ct yX10_hasIt cX10_hasIt 3 (some .boolean) rmX10_hasIt [.ref l0, .int l1, .int l2] h (fun r' h' => some (.int r) = r' ∧ h = h') := by
  refine jx_Ct.of (own := RX10) (by decide) rfl (Nat.le_of_ble_eq_true rfl) (fun X C hq hr hL hN => ?_)
  refine jx_sub (lv' := [(0, .ref l0), (1, .int l1), (2, .int l2)]) [0, 1, 2] rfl ?_
  unfold FX10_hasIt at e
  refine j_aload_n C dX10_hasIt_0 rfl rfl ?_
  refine j_iload_n C dX10_hasIt_1 rfl rfl ?_
  refine j_iload_n C dX10_hasIt_2 rfl rfl ?_
  replace e := ob e
  obtain ⟨_, eo4, e⟩ := e
  replace e := ob e
  obtain ⟨x5, ex5, e⟩ := e
  refine j_callV (ci := 10) (RC := RX10) (T := TX10) (N := 38) (As := [.int l1, .int l2]) (b := l0) (na := 2) (st := []) (k1 := 0) (n1 := 0) C hr (sX10_monomialAt ex5) rfl eo4 kX10_108 kim_X10_monomialAt ksel_X10_monomialAt kini_X10 kc_X10_monomialAt (by decide) rfl ⟨(Nat.le_of_ble_eq_true rfl), (Nat.le_of_ble_eq_true rfl)⟩ (Nat.le_of_ble_eq_true rfl) ⟨rfl, rfl, (Nat.le_of_ble_eq_true rfl), (Nat.le_of_ble_eq_true rfl)⟩ dX10_hasIt_3 ?_
  rintro _ _ ⟨rfl, rfl⟩
  show jx_J X 0 0 6 [(0, .ref l0), (1, .int l1), (2, .int l2)] [.int x5] h
  refine j_iconst (v := (-1 : Int32)) C dX10_hasIt_6 (by decide) ?_
  refine j_icmp_eq (tgt := 14) C dX10_hasIt_7 (by decide) (fun c6 => ?_) (fun c6 => ?_)
  · replace e := ifp c6 e
    refine j_iconst (v := (0 : Int32)) C dX10_hasIt_14 (by decide) ?_
    cases e
    exact j_iret C hq rfl dX10_hasIt_15 ⟨Nat.le_of_ble_eq_true rfl, Nat.le_of_ble_eq_true rfl⟩ ⟨rfl, rfl⟩
  · replace e := ifn c6 e
    refine j_iconst (v := (1 : Int32)) C dX10_hasIt_10 (by decide) ?_
    refine j_goto (tgt := 15) C dX10_hasIt_11 (by decide) ?_
    cases e
    exact j_iret C hq rfl dX10_hasIt_15 ⟨Nat.le_of_ble_eq_true rfl, Nat.le_of_ble_eq_true rfl⟩ ⟨rfl, rfl⟩
/-! BorderBasisModel.isAhead(IIII)Z -/
noncomputable def FX10_isAhead (l0 : Int32) (l1 : Int32) (l2 : Int32) (l3 : Int32) (h : jx_H) : Option (Int32) :=
if (l0 + l1) = (l2 + l3) then
 if l3 ≤ l1 then
  some (0 : Int32)
 else
  some (1 : Int32)
else
 if (l2 + l3) ≤ (l0 + l1) then
  some (0 : Int32)
 else
  some (1 : Int32)
def rmX10_isAhead : Room := { frames := 0, cells := 0, slots := 0, locals := 0 }
set_option maxRecDepth 20000 in
set_option maxHeartbeats 4000000 in
theorem sX10_isAhead {l0 : Int32} {l1 : Int32} {l2 : Int32} {l3 : Int32} {h : jx_H} {r : Int32}  (e : FX10_isAhead l0 l1 l2 l3 h = some r) : jx_Ct yX10_isAhead cX10_isAhead 4 (some .boolean) rmX10_isAhead [.int l0, .int l1, .int l2, .int l3] h (fun r' h' => some (.int r) = r' ∧ h = h') := by
  refine jx_Ct.of (own := RX10) (by decide) rfl (Nat.le_of_ble_eq_true rfl) (fun X C hq hr hL hN => ?_)
  refine jx_sub (lv' := [(0, .int l0), (1, .int l1), (2, .int l2), (3, .int l3)]) [0, 1, 2, 3] rfl ?_
  unfold FX10_isAhead at e
  refine j_iload_n C dX10_isAhead_0 rfl rfl ?_
  refine j_iload_n C dX10_isAhead_1 rfl rfl ?_
  refine j_iadd C dX10_isAhead_2 ?_
  refine j_iload_n C dX10_isAhead_3 rfl rfl ?_
  refine j_iload_n C dX10_isAhead_4 rfl rfl ?_
  refine j_iadd C dX10_isAhead_5 ?_
  refine j_icmp_eq (tgt := 26) C dX10_isAhead_6 (by decide) (fun c6 => ?_) (fun c6 => ?_)
  · replace e := ifp c6 e
    refine j_iload_n C dX10_isAhead_26 rfl rfl ?_
    refine j_iload_n C dX10_isAhead_27 rfl rfl ?_
    refine j_icmp_ge (tgt := 35) C dX10_isAhead_28 (by decide) (fun c4 => ?_) (fun c4 => ?_)
    · replace e := ifp c4 e
      refine j_iconst (v := (0 : Int32)) C dX10_isAhead_35 (by decide) ?_
      cases e
      exact j_iret C hq rfl dX10_isAhead_36 ⟨Nat.le_of_ble_eq_true rfl, Nat.le_of_ble_eq_true rfl⟩ ⟨rfl, rfl⟩
    · replace e := ifn c4 e
      refine j_iconst (v := (1 : Int32)) C dX10_isAhead_31 (by decide) ?_
      refine j_goto (tgt := 36) C dX10_isAhead_32 (by decide) ?_
      cases e
      exact j_iret C hq rfl dX10_isAhead_36 ⟨Nat.le_of_ble_eq_true rfl, Nat.le_of_ble_eq_true rfl⟩ ⟨rfl, rfl⟩
  · replace e := ifn c6 e
    refine j_iload_n C dX10_isAhead_9 rfl rfl ?_
    refine j_iload_n C dX10_isAhead_10 rfl rfl ?_
    refine j_iadd C dX10_isAhead_11 ?_
    refine j_iload_n C dX10_isAhead_12 rfl rfl ?_
    refine j_iload_n C dX10_isAhead_13 rfl rfl ?_
    refine j_iadd C dX10_isAhead_14 ?_
    refine j_icmp_ge (tgt := 22) C dX10_isAhead_15 (by decide) (fun c5 => ?_) (fun c5 => ?_)
    · replace e := ifp c5 e
      refine j_iconst (v := (0 : Int32)) C dX10_isAhead_22 (by decide) ?_
      refine j_goto (tgt := 36) C dX10_isAhead_23 (by decide) ?_
      cases e
      exact j_iret C hq rfl dX10_isAhead_36 ⟨Nat.le_of_ble_eq_true rfl, Nat.le_of_ble_eq_true rfl⟩ ⟨rfl, rfl⟩
    · replace e := ifn c5 e
      refine j_iconst (v := (1 : Int32)) C dX10_isAhead_18 (by decide) ?_
      refine j_goto (tgt := 36) C dX10_isAhead_19 (by decide) ?_
      cases e
      exact j_iret C hq rfl dX10_isAhead_36 ⟨Nat.le_of_ble_eq_true rfl, Nat.le_of_ble_eq_true rfl⟩ ⟨rfl, rfl⟩
/-! BorderBasisModel.addsBorder(II)V -/
noncomputable def BX10_addsBorder_107 (l0 : Nat) (l1 : Int32) (l2 : Int32) (l3 : Int32) (h : jx_H) : Option (jx_H) :=
(hgr h l0 10 1).bind fun x1 =>
(has h .int x1 ((28 : Int32) + l3) l1).bind fun h2 =>
(hgr h2 l0 10 1).bind fun x3 =>
(has h2 .int x3 ((42 : Int32) + l3) l2).bind fun h4 =>
(hgr h4 l0 10 1).bind fun x5 =>
(hal h4 .int x5 (2 : Int32)).bind fun x6 =>
(has h4 .int x5 (2 : Int32) (x6 + (1 : Int32))).bind fun h7 =>
some h7
noncomputable def LX10_addsBorder_27 (l0 : Nat) (l1 : Int32) (l2 : Int32) (l3 : Int32) (h : jx_H) : Option ((Int32 × jx_H) ⊕ (jx_H)) :=
if l3 ≤ 0 then
 exL (BX10_addsBorder_107 l0 l1 l2 l3 h)
else
 (hgr h l0 10 1).bind fun x14 =>
 (hal h .int x14 (((28 : Int32) + l3) - (1 : Int32))).bind fun x15 =>
 (hgr h l0 10 1).bind fun x16 =>
 (hal h .int x16 (((42 : Int32) + l3) - (1 : Int32))).bind fun x17 =>
 (FX10_isAhead l1 l2 x15 x17 h).bind fun x18 =>
 if x18 = 0 then
  exL (BX10_addsBorder_107 l0 l1 l2 l3 h)
 else
  (hgr h l0 10 1).bind fun x19 =>
  (hgr h l0 10 1).bind fun x20 =>
  (hal h .int x20 (((28 : Int32) + l3) - (1 : Int32))).bind fun x21 =>
  (has h .int x19 ((28 : Int32) + l3) x21).bind fun h22 =>
  (hgr h22 l0 10 1).bind fun x23 =>
  (hgr h22 l0 10 1).bind fun x24 =>
  (hal h22 .int x24 (((42 : Int32) + l3) - (1 : Int32))).bind fun x25 =>
  (has h22 .int x23 ((42 : Int32) + l3) x25).bind fun h26 =>
  some (.inl ((l3 + (-1 : Int32)), h26))
noncomputable def FX10_addsBorder (l0 : Nat) (l1 : Int32) (l2 : Int32) (h : jx_H) : Option (jx_H) :=
(isO h l0 10).bind fun _ =>
(FX10_hasIt l0 l1 l2 h).bind fun x9 =>
if x9 = 0 then
 (isO h l0 10).bind fun _ =>
 (FX10_borderAt l0 l1 l2 h).bind fun x11 =>
 if x11 = (-1 : Int32) then
  (hgr h l0 10 1).bind fun x12 =>
  (hal h .int x12 (2 : Int32)).bind fun x13 =>
  itr (fun s : Int32 × jx_H => LX10_addsBorder_27 l0 l1 l2 s.1 s.2) (x13, h)
 else
  some h
else
 some h
def rmX10_addsBorder : Room := { frames := 3, cells := 0, slots := 0, locals := 65 }
set_option maxRecDepth 20000 in
set_option maxHeartbeats 4000000 in
theorem sX10_addsBorder {l0 : Nat} {l1 : Int32} {l2 : Int32} {h : jx_H} {h9 : jx_H} (e : FX10_addsBorder l0 l1 l2 h = some h9) : jx_Ct yX10_addsBorder cX10_addsBorder 4 none rmX10_addsBorder [.ref l0, .int l1, .int l2] h (fun r' h' => none = r' ∧ h9 = h') := by
  refine jx_Ct.of (own := RX10) (by decide) rfl (Nat.le_of_ble_eq_true rfl) (fun X C hq hr hL hN => ?_)
  refine jx_sub (lv' := [(0, .ref l0), (1, .int l1), (2, .int l2)]) [0, 1, 2] rfl ?_
  have b107 : ∀ (y31 : Nat) (y32 : Int32) (y33 : Int32) (y34 : Int32) (h35 : jx_H), BX10_addsBorder_107 y31 y32 y33 y34 h35 = some h9 → jx_J X 0 0 107 [(0, .ref y31), (1, .int y32), (2, .int y33), (3, .int y34)] [] h35 := by
    intro y31 y32 y33 y34 h35 e
    unfold BX10_addsBorder_107 at e
    refine j_aload_n C dX10_addsBorder_107 rfl rfl ?_
    replace e := ob e
    obtain ⟨x36, ex36, e⟩ := e
    refine j_getr (ci := 10) (RC := RX10) (T := TX10) (N := 38) 1 C rfl klX10 (Nat.le_of_ble_eq_true rfl) kX10_7 rfl dX10_addsBorder_108 ex36 ?_
    refine j_bipush (v := (28 : Int32)) C dX10_addsBorder_111 (by decide) ?_
    refine j_iload_n C dX10_addsBorder_113 rfl rfl ?_
    refine j_iadd C dX10_addsBorder_114 ?_
    refine j_iload_n C dX10_addsBorder_115 rfl rfl ?_
    replace e := ob e
    obtain ⟨h37, eh37, e⟩ := e
    refine j_iast C dX10_addsBorder_116 eh37 ?_
    refine j_aload_n C dX10_addsBorder_117 rfl rfl ?_
    replace e := ob e
    obtain ⟨x38, ex38, e⟩ := e
    refine j_getr (ci := 10) (RC := RX10) (T := TX10) (N := 38) 1 C rfl klX10 (Nat.le_of_ble_eq_true rfl) kX10_7 rfl dX10_addsBorder_118 ex38 ?_
    refine j_bipush (v := (42 : Int32)) C dX10_addsBorder_121 (by decide) ?_
    refine j_iload_n C dX10_addsBorder_123 rfl rfl ?_
    refine j_iadd C dX10_addsBorder_124 ?_
    refine j_iload_n C dX10_addsBorder_125 rfl rfl ?_
    replace e := ob e
    obtain ⟨h39, eh39, e⟩ := e
    refine j_iast C dX10_addsBorder_126 eh39 ?_
    refine j_aload_n C dX10_addsBorder_127 rfl rfl ?_
    replace e := ob e
    obtain ⟨x40, ex40, e⟩ := e
    refine j_getr (ci := 10) (RC := RX10) (T := TX10) (N := 38) 1 C rfl klX10 (Nat.le_of_ble_eq_true rfl) kX10_7 rfl dX10_addsBorder_128 ex40 ?_
    refine j_iconst (v := (2 : Int32)) C dX10_addsBorder_131 (by decide) ?_
    refine j_dup2 C dX10_addsBorder_132 rfl rfl ?_
    replace e := ob e
    obtain ⟨x41, ex41, e⟩ := e
    refine j_iald C dX10_addsBorder_133 ex41 ?_
    refine j_iconst (v := (1 : Int32)) C dX10_addsBorder_134 (by decide) ?_
    refine j_iadd C dX10_addsBorder_135 ?_
    replace e := ob e
    obtain ⟨h42, eh42, e⟩ := e
    refine j_iast C dX10_addsBorder_136 eh42 ?_
    cases e
    exact j_vret C hq dX10_addsBorder_137 ⟨Nat.le_of_ble_eq_true rfl, Nat.le_of_ble_eq_true rfl⟩ ⟨rfl, rfl⟩
  unfold FX10_addsBorder at e
  refine j_aload_n C dX10_addsBorder_0 rfl rfl ?_
  refine j_iload_n C dX10_addsBorder_1 rfl rfl ?_
  refine j_iload_n C dX10_addsBorder_2 rfl rfl ?_
  replace e := ob e
  obtain ⟨_, eo43, e⟩ := e
  replace e := ob e
  obtain ⟨x44, ex44, e⟩ := e
  refine j_callV (ci := 10) (RC := RX10) (T := TX10) (N := 38) (As := [.int l1, .int l2]) (b := l0) (na := 2) (st := []) (k1 := 0) (n1 := 0) C hr (sX10_hasIt ex44) rfl eo43 kX10_112 kim_X10_hasIt ksel_X10_hasIt kini_X10 kc_X10_hasIt (by decide) rfl ⟨(Nat.le_of_ble_eq_true rfl), (Nat.le_of_ble_eq_true rfl)⟩ (Nat.le_of_ble_eq_true rfl) ⟨rfl, rfl, (Nat.le_of_ble_eq_true rfl), (Nat.le_of_ble_eq_true rfl)⟩ dX10_addsBorder_3 ?_
  rintro _ _ ⟨rfl, rfl⟩
  show jx_J X 0 0 6 [(0, .ref l0), (1, .int l1), (2, .int l2)] [.int x44] h
  refine j_if_ne (tgt := 19) C dX10_addsBorder_6 (by decide) (fun c67 => ?_) (fun c67 => ?_)
  · replace e := ifn c67 e
    cases e
    exact j_vret C hq dX10_addsBorder_19 ⟨Nat.le_of_ble_eq_true rfl, Nat.le_of_ble_eq_true rfl⟩ ⟨rfl, rfl⟩
  · replace e := ifp c67 e
    refine j_aload_n C dX10_addsBorder_9 rfl rfl ?_
    refine j_iload_n C dX10_addsBorder_10 rfl rfl ?_
    refine j_iload_n C dX10_addsBorder_11 rfl rfl ?_
    replace e := ob e
    obtain ⟨_, eo45, e⟩ := e
    replace e := ob e
    obtain ⟨x46, ex46, e⟩ := e
    refine j_callV (ci := 10) (RC := RX10) (T := TX10) (N := 38) (As := [.int l1, .int l2]) (b := l0) (na := 2) (st := []) (k1 := 0) (n1 := 0) C hr (sX10_borderAt ex46) rfl eo45 kX10_119 kim_X10_borderAt ksel_X10_borderAt kini_X10 kc_X10_borderAt (by decide) rfl ⟨(Nat.le_of_ble_eq_true rfl), (Nat.le_of_ble_eq_true rfl)⟩ (Nat.le_of_ble_eq_true rfl) ⟨rfl, rfl, (Nat.le_of_ble_eq_true rfl), (Nat.le_of_ble_eq_true rfl)⟩ dX10_addsBorder_12 ?_
    rintro _ _ ⟨rfl, rfl⟩
    show jx_J X 0 0 15 [(0, .ref l0), (1, .int l1), (2, .int l2)] [.int x46] h
    refine j_iconst (v := (-1 : Int32)) C dX10_addsBorder_15 (by decide) ?_
    refine j_icmp_eq (tgt := 20) C dX10_addsBorder_16 (by decide) (fun c66 => ?_) (fun c66 => ?_)
    · replace e := ifp c66 e
      refine j_aload_n C dX10_addsBorder_20 rfl rfl ?_
      replace e := ob e
      obtain ⟨x47, ex47, e⟩ := e
      refine j_getr (ci := 10) (RC := RX10) (T := TX10) (N := 38) 1 C rfl klX10 (Nat.le_of_ble_eq_true rfl) kX10_7 rfl dX10_addsBorder_21 ex47 ?_
      refine j_iconst (v := (2 : Int32)) C dX10_addsBorder_24 (by decide) ?_
      replace e := ob e
      obtain ⟨x48, ex48, e⟩ := e
      refine j_iald C dX10_addsBorder_25 ex48 ?_
      refine j_istore_n (lv1 := [(3, .int x48), (0, .ref l0), (1, .int l1), (2, .int l2)]) C hL dX10_addsBorder_26 rfl (Nat.le_of_ble_eq_true rfl) rfl ?_
      refine jx_sub (lv' := [(0, .ref l0), (1, .int l1), (2, .int l2), (3, .int x48)]) [1, 2, 3, 0] rfl ?_
      refine itr_ind (s0 := (x48, h)) (fun s : Int32 × jx_H => jx_J X 0 0 27 [(0, .ref l0), (1, .int l1), (2, .int l2), (3, .int s.1)] [] s.2) e ?_
      clear e
      intro s kI3 kT3 e0
      obtain ⟨z49, h50⟩ := s
      obtain ⟨u3, e0_3⟩ := e0
      have e : LX10_addsBorder_27 l0 l1 l2 z49 h50 = some u3 := e0_3
      unfold LX10_addsBorder_27 at e
      refine j_iload_n C dX10_addsBorder_27 rfl rfl ?_
      refine j_if_le (tgt := 107) C dX10_addsBorder_28 (by decide) (fun c65 => ?_) (fun c65 => ?_)
      · replace e := ifp c65 e
        obtain ⟨t_4, e_4, eu_4⟩ := exL_spec e
        obtain rfl := kT3 t_4 (e0_3.trans (congrArg some eu_4))
        replace e := e_4
        exact b107 l0 l1 l2 z49 h50 e
      · replace e := ifn c65 e
        refine j_iload_n C dX10_addsBorder_31 rfl rfl ?_
        refine j_iload_n C dX10_addsBorder_32 rfl rfl ?_
        refine j_aload_n C dX10_addsBorder_33 rfl rfl ?_
        replace e := ob e
        obtain ⟨x51, ex51, e⟩ := e
        refine j_getr (ci := 10) (RC := RX10) (T := TX10) (N := 38) 1 C rfl klX10 (Nat.le_of_ble_eq_true rfl) kX10_7 rfl dX10_addsBorder_34 ex51 ?_
        refine j_bipush (v := (28 : Int32)) C dX10_addsBorder_37 (by decide) ?_
        refine j_iload_n C dX10_addsBorder_39 rfl rfl ?_
        refine j_iadd C dX10_addsBorder_40 ?_
        refine j_iconst (v := (1 : Int32)) C dX10_addsBorder_41 (by decide) ?_
        refine j_isub C dX10_addsBorder_42 ?_
        replace e := ob e
        obtain ⟨x52, ex52, e⟩ := e
        refine j_iald C dX10_addsBorder_43 ex52 ?_
        refine j_aload_n C dX10_addsBorder_44 rfl rfl ?_
        replace e := ob e
        obtain ⟨x53, ex53, e⟩ := e
        refine j_getr (ci := 10) (RC := RX10) (T := TX10) (N := 38) 1 C rfl klX10 (Nat.le_of_ble_eq_true rfl) kX10_7 rfl dX10_addsBorder_45 ex53 ?_
        refine j_bipush (v := (42 : Int32)) C dX10_addsBorder_48 (by decide) ?_
        refine j_iload_n C dX10_addsBorder_50 rfl rfl ?_
        refine j_iadd C dX10_addsBorder_51 ?_
        refine j_iconst (v := (1 : Int32)) C dX10_addsBorder_52 (by decide) ?_
        refine j_isub C dX10_addsBorder_53 ?_
        replace e := ob e
        obtain ⟨x54, ex54, e⟩ := e
        refine j_iald C dX10_addsBorder_54 ex54 ?_
        replace e := ob e
        obtain ⟨x55, ex55, e⟩ := e
        refine j_callS (As := [.int l1, .int l2, .int x52, .int x54]) (na := 4) (st := []) (k1 := 0) (n1 := 0) C hr (sX10_isAhead ex55) kX10_122 kst_X10_isAhead kini_X10 kc_X10_isAhead (by decide) rfl ⟨(Nat.le_of_ble_eq_true rfl), (Nat.le_of_ble_eq_true rfl)⟩ (Nat.le_of_ble_eq_true rfl) ⟨rfl, rfl, (Nat.le_of_ble_eq_true rfl), (Nat.le_of_ble_eq_true rfl)⟩ dX10_addsBorder_55 ?_
        rintro _ _ ⟨rfl, rfl⟩
        show jx_J X 0 0 58 [(0, .ref l0), (1, .int l1), (2, .int l2), (3, .int z49)] [.int x55] h50
        refine j_if_eq (tgt := 107) C dX10_addsBorder_58 (by decide) (fun c64 => ?_) (fun c64 => ?_)
        · replace e := ifp c64 e
          obtain ⟨t_5, e_5, eu_5⟩ := exL_spec e
          obtain rfl := kT3 t_5 (e0_3.trans (congrArg some eu_5))
          replace e := e_5
          exact b107 l0 l1 l2 z49 h50 e
        · replace e := ifn c64 e
          refine j_aload_n C dX10_addsBorder_61 rfl rfl ?_
          replace e := ob e
          obtain ⟨x56, ex56, e⟩ := e
          refine j_getr (ci := 10) (RC := RX10) (T := TX10) (N := 38) 1 C rfl klX10 (Nat.le_of_ble_eq_true rfl) kX10_7 rfl dX10_addsBorder_62 ex56 ?_
          refine j_bipush (v := (28 : Int32)) C dX10_addsBorder_65 (by decide) ?_
          refine j_iload_n C dX10_addsBorder_67 rfl rfl ?_
          refine j_iadd C dX10_addsBorder_68 ?_
          refine j_aload_n C dX10_addsBorder_69 rfl rfl ?_
          replace e := ob e
          obtain ⟨x57, ex57, e⟩ := e
          refine j_getr (ci := 10) (RC := RX10) (T := TX10) (N := 38) 1 C rfl klX10 (Nat.le_of_ble_eq_true rfl) kX10_7 rfl dX10_addsBorder_70 ex57 ?_
          refine j_bipush (v := (28 : Int32)) C dX10_addsBorder_73 (by decide) ?_
          refine j_iload_n C dX10_addsBorder_75 rfl rfl ?_
          refine j_iadd C dX10_addsBorder_76 ?_
          refine j_iconst (v := (1 : Int32)) C dX10_addsBorder_77 (by decide) ?_
          refine j_isub C dX10_addsBorder_78 ?_
          replace e := ob e
          obtain ⟨x58, ex58, e⟩ := e
          refine j_iald C dX10_addsBorder_79 ex58 ?_
          replace e := ob e
          obtain ⟨h59, eh59, e⟩ := e
          refine j_iast C dX10_addsBorder_80 eh59 ?_
          refine j_aload_n C dX10_addsBorder_81 rfl rfl ?_
          replace e := ob e
          obtain ⟨x60, ex60, e⟩ := e
          refine j_getr (ci := 10) (RC := RX10) (T := TX10) (N := 38) 1 C rfl klX10 (Nat.le_of_ble_eq_true rfl) kX10_7 rfl dX10_addsBorder_82 ex60 ?_
          refine j_bipush (v := (42 : Int32)) C dX10_addsBorder_85 (by decide) ?_
          refine j_iload_n C dX10_addsBorder_87 rfl rfl ?_
          refine j_iadd C dX10_addsBorder_88 ?_
          refine j_aload_n C dX10_addsBorder_89 rfl rfl ?_
          replace e := ob e
          obtain ⟨x61, ex61, e⟩ := e
          refine j_getr (ci := 10) (RC := RX10) (T := TX10) (N := 38) 1 C rfl klX10 (Nat.le_of_ble_eq_true rfl) kX10_7 rfl dX10_addsBorder_90 ex61 ?_
          refine j_bipush (v := (42 : Int32)) C dX10_addsBorder_93 (by decide) ?_
          refine j_iload_n C dX10_addsBorder_95 rfl rfl ?_
          refine j_iadd C dX10_addsBorder_96 ?_
          refine j_iconst (v := (1 : Int32)) C dX10_addsBorder_97 (by decide) ?_
          refine j_isub C dX10_addsBorder_98 ?_
          replace e := ob e
          obtain ⟨x62, ex62, e⟩ := e
          refine j_iald C dX10_addsBorder_99 ex62 ?_
          replace e := ob e
          obtain ⟨h63, eh63, e⟩ := e
          refine j_iast C dX10_addsBorder_100 eh63 ?_
          refine j_iinc (v := (z49 + (-1 : Int32))) (lv1 := [(3, .int (z49 + (-1 : Int32))), (0, .ref l0), (1, .int l1), (2, .int l2)]) C hL dX10_addsBorder_101 rfl rfl (Nat.le_of_ble_eq_true rfl) rfl ?_
          refine j_goto (tgt := 27) C dX10_addsBorder_104 (by decide) ?_
          obtain rfl := Option.some.inj e
          refine jx_sub (lv' := [(0, .ref l0), (1, .int l1), (2, .int l2), (3, .int (z49 + (-1 : Int32)))]) [1, 2, 3, 0] rfl ?_
          exact kI3 ((z49 + (-1 : Int32)), h63) e0_3
    · replace e := ifn c66 e
      cases e
      exact j_vret C hq dX10_addsBorder_19 ⟨Nat.le_of_ble_eq_true rfl, Nat.le_of_ble_eq_true rfl⟩ ⟨rfl, rfl⟩
/-! BorderBasisModel.laysBorder()V -/
noncomputable def LX10_laysBorder_71 (l0 : Nat) (l1 : Int32) (h : jx_H) : Option ((Int32 × jx_H) ⊕ (jx_H)) :=
if (168 : Int32) ≤ l1 then
 exL (some h)
else
 (hgr h l0 10 1).bind fun x5 =>
 (has h .int x5 ((56 : Int32) + l1) (0 : Int32)).bind fun h6 =>
 some (.inl ((l1 + (1 : Int32)), h6))
noncomputable def LX10_laysBorder_9 (l0 : Nat) (l1 : Int32) (h : jx_H) : Option ((Int32 × jx_H) ⊕ (jx_H)) :=
(isO h l0 10).bind fun _ =>
(FX10_n l0 h).bind fun x4 =>
if x4 ≤ l1 then
 exL (itr (fun s : Int32 × jx_H => LX10_laysBorder_71 l0 s.1 s.2) ((0 : Int32), h))
else
 (hgr h l0 10 1).bind fun x8 =>
 (hal h .int x8 ((4 : Int32) + l1)).bind fun x9 =>
 (hgr h l0 10 1).bind fun x10 =>
 (hal h .int x10 ((16 : Int32) + l1)).bind fun x11 =>
 (isO h l0 10).bind fun _ =>
 (FX10_addsBorder l0 (x9 + (1 : Int32)) x11 h).bind fun h13 =>
 (hgr h13 l0 10 1).bind fun x14 =>
 (hal h13 .int x14 ((4 : Int32) + l1)).bind fun x15 =>
 (hgr h13 l0 10 1).bind fun x16 =>
 (hal h13 .int x16 ((16 : Int32) + l1)).bind fun x17 =>
 (isO h13 l0 10).bind fun _ =>
 (FX10_addsBorder l0 x15 (x17 + (1 : Int32)) h13).bind fun h19 =>
 some (.inl ((l1 + (1 : Int32)), h19))
noncomputable def FX10_laysBorder (l0 : Nat) (h : jx_H) : Option (jx_H) :=
(hgr h l0 10 1).bind fun x1 =>
(has h .int x1 (2 : Int32) (0 : Int32)).bind fun h2 =>
itr (fun s : Int32 × jx_H => LX10_laysBorder_9 l0 s.1 s.2) ((0 : Int32), h2)
def rmX10_laysBorder : Room := { frames := 4, cells := 0, slots := 0, locals := 88 }
set_option maxRecDepth 20000 in
set_option maxHeartbeats 4000000 in
theorem sX10_laysBorder {l0 : Nat} {h : jx_H} {h9 : jx_H} (e : FX10_laysBorder l0 h = some h9) : jx_Ct yX10_laysBorder cX10_laysBorder 2 none rmX10_laysBorder [.ref l0] h (fun r' h' => none = r' ∧ h9 = h') := by
  refine jx_Ct.of (own := RX10) (by decide) rfl (Nat.le_of_ble_eq_true rfl) (fun X C hq hr hL hN => ?_)
  refine jx_sub (lv' := [(0, .ref l0)]) [0] rfl ?_
  unfold FX10_laysBorder at e
  refine j_aload_n C dX10_laysBorder_0 rfl rfl ?_
  replace e := ob e
  obtain ⟨x21, ex21, e⟩ := e
  refine j_getr (ci := 10) (RC := RX10) (T := TX10) (N := 38) 1 C rfl klX10 (Nat.le_of_ble_eq_true rfl) kX10_7 rfl dX10_laysBorder_1 ex21 ?_
  refine j_iconst (v := (2 : Int32)) C dX10_laysBorder_4 (by decide) ?_
  refine j_iconst (v := (0 : Int32)) C dX10_laysBorder_5 (by decide) ?_
  replace e := ob e
  obtain ⟨h22, eh22, e⟩ := e
  refine j_iast C dX10_laysBorder_6 eh22 ?_
  refine j_iconst (v := (0 : Int32)) C dX10_laysBorder_7 (by decide) ?_
  refine j_istore_n (lv1 := [(1, .int (0 : Int32)), (0, .ref l0)]) C hL dX10_laysBorder_8 rfl (Nat.le_of_ble_eq_true rfl) rfl ?_
  refine jx_sub (lv' := [(0, .ref l0), (1, .int (0 : Int32))]) [1, 0] rfl ?_
  refine itr_ind (s0 := ((0 : Int32), h22)) (fun s : Int32 × jx_H => jx_J X 0 0 9 [(0, .ref l0), (1, .int s.1)] [] s.2) e ?_
  clear e
  intro s kI3 kT3 e0
  obtain ⟨z23, h24⟩ := s
  obtain ⟨u3, e0_3⟩ := e0
  have e : LX10_laysBorder_9 l0 z23 h24 = some u3 := e0_3
  unfold LX10_laysBorder_9 at e
  refine j_iload_n C dX10_laysBorder_9 rfl rfl ?_
  refine j_aload_n C dX10_laysBorder_10 rfl rfl ?_
  replace e := ob e
  obtain ⟨_, eo25, e⟩ := e
  replace e := ob e
  obtain ⟨x26, ex26, e⟩ := e
  refine j_callV (ci := 10) (RC := RX10) (T := TX10) (N := 38) (As := []) (b := l0) (na := 0) (st := [.int z23]) (k1 := 0) (n1 := 0) C hr (sX10_n ex26) rfl eo25 kX10_105 kim_X10_n ksel_X10_n kini_X10 kc_X10_n (by decide) rfl ⟨(Nat.le_of_ble_eq_true rfl), (Nat.le_of_ble_eq_true rfl)⟩ (Nat.le_of_ble_eq_true rfl) ⟨rfl, rfl, (Nat.le_of_ble_eq_true rfl), (Nat.le_of_ble_eq_true rfl)⟩ dX10_laysBorder_11 ?_
  rintro _ _ ⟨rfl, rfl⟩
  show jx_J X 0 0 14 [(0, .ref l0), (1, .int z23)] [.int x26, .int z23] h24
  refine j_icmp_ge (tgt := 69) C dX10_laysBorder_14 (by decide) (fun c44 => ?_) (fun c44 => ?_)
  · replace e := ifp c44 e
    obtain ⟨t_6, e_6, eu_6⟩ := exL_spec e
    obtain rfl := kT3 t_6 (e0_3.trans (congrArg some eu_6))
    replace e := e_6
    refine j_iconst (v := (0 : Int32)) C dX10_laysBorder_69 (by decide) ?_
    refine j_istore_n (lv1 := [(1, .int (0 : Int32)), (0, .ref l0)]) C hL dX10_laysBorder_70 rfl (Nat.le_of_ble_eq_true rfl) rfl ?_
    refine jx_sub (lv' := [(0, .ref l0), (1, .int (0 : Int32))]) [1, 0] rfl ?_
    refine itr_ind (s0 := ((0 : Int32), h24)) (fun s : Int32 × jx_H => jx_J X 0 0 71 [(0, .ref l0), (1, .int s.1)] [] s.2) e ?_
    clear e
    intro s kI4 kT4 e0
    obtain ⟨z27, h28⟩ := s
    obtain ⟨u4, e0_4⟩ := e0
    have e : LX10_laysBorder_71 l0 z27 h28 = some u4 := e0_4
    unfold LX10_laysBorder_71 at e
    refine j_iload_n C dX10_laysBorder_71 rfl rfl ?_
    refine j_sipush (v := (168 : Int32)) C dX10_laysBorder_72 (by decide) ?_
    refine j_icmp_ge (tgt := 94) C dX10_laysBorder_75 (by decide) (fun c31 => ?_) (fun c31 => ?_)
    · replace e := ifp c31 e
      obtain ⟨t_5, e_5, eu_5⟩ := exL_spec e
      obtain rfl := kT4 t_5 (e0_4.trans (congrArg some eu_5))
      replace e := e_5
      cases e
      exact j_vret C hq dX10_laysBorder_94 ⟨Nat.le_of_ble_eq_true rfl, Nat.le_of_ble_eq_true rfl⟩ ⟨rfl, rfl⟩
    · replace e := ifn c31 e
      refine j_aload_n C dX10_laysBorder_78 rfl rfl ?_
      replace e := ob e
      obtain ⟨x29, ex29, e⟩ := e
      refine j_getr (ci := 10) (RC := RX10) (T := TX10) (N := 38) 1 C rfl klX10 (Nat.le_of_ble_eq_true rfl) kX10_7 rfl dX10_laysBorder_79 ex29 ?_
      refine j_bipush (v := (56 : Int32)) C dX10_laysBorder_82 (by decide) ?_
      refine j_iload_n C dX10_laysBorder_84 rfl rfl ?_
      refine j_iadd C dX10_laysBorder_85 ?_
      refine j_iconst (v := (0 : Int32)) C dX10_laysBorder_86 (by decide) ?_
      replace e := ob e
      obtain ⟨h30, eh30, e⟩ := e
      refine j_iast C dX10_laysBorder_87 eh30 ?_
      refine j_iinc (v := (z27 + (1 : Int32))) (lv1 := [(1, .int (z27 + (1 : Int32))), (0, .ref l0)]) C hL dX10_laysBorder_88 rfl rfl (Nat.le_of_ble_eq_true rfl) rfl ?_
      refine j_goto (tgt := 71) C dX10_laysBorder_91 (by decide) ?_
      obtain rfl := Option.some.inj e
      refine jx_sub (lv' := [(0, .ref l0), (1, .int (z27 + (1 : Int32)))]) [1, 0] rfl ?_
      exact kI4 ((z27 + (1 : Int32)), h30) e0_4
  · replace e := ifn c44 e
    refine j_aload_n C dX10_laysBorder_17 rfl rfl ?_
    refine j_aload_n C dX10_laysBorder_18 rfl rfl ?_
    replace e := ob e
    obtain ⟨x32, ex32, e⟩ := e
    refine j_getr (ci := 10) (RC := RX10) (T := TX10) (N := 38) 1 C rfl klX10 (Nat.le_of_ble_eq_true rfl) kX10_7 rfl dX10_laysBorder_19 ex32 ?_
    refine j_iconst (v := (4 : Int32)) C dX10_laysBorder_22 (by decide) ?_
    refine j_iload_n C dX10_laysBorder_23 rfl rfl ?_
    refine j_iadd C dX10_laysBorder_24 ?_
    replace e := ob e
    obtain ⟨x33, ex33, e⟩ := e
    refine j_iald C dX10_laysBorder_25 ex33 ?_
    refine j_iconst (v := (1 : Int32)) C dX10_laysBorder_26 (by decide) ?_
    refine j_iadd C dX10_laysBorder_27 ?_
    refine j_aload_n C dX10_laysBorder_28 rfl rfl ?_
    replace e := ob e
    obtain ⟨x34, ex34, e⟩ := e
    refine j_getr (ci := 10) (RC := RX10) (T := TX10) (N := 38) 1 C rfl klX10 (Nat.le_of_ble_eq_true rfl) kX10_7 rfl dX10_laysBorder_29 ex34 ?_
    refine j_bipush (v := (16 : Int32)) C dX10_laysBorder_32 (by decide) ?_
    refine j_iload_n C dX10_laysBorder_34 rfl rfl ?_
    refine j_iadd C dX10_laysBorder_35 ?_
    replace e := ob e
    obtain ⟨x35, ex35, e⟩ := e
    refine j_iald C dX10_laysBorder_36 ex35 ?_
    replace e := ob e
    obtain ⟨_, eo36, e⟩ := e
    replace e := ob e
    obtain ⟨h37, eh37, e⟩ := e
    refine j_callV (ci := 10) (RC := RX10) (T := TX10) (N := 38) (As := [.int (x33 + (1 : Int32)), .int x35]) (b := l0) (na := 2) (st := []) (k1 := 0) (n1 := 0) C hr (sX10_addsBorder eh37) rfl eo36 kX10_126 kim_X10_addsBorder ksel_X10_addsBorder kini_X10 kc_X10_addsBorder (by decide) rfl ⟨(Nat.le_of_ble_eq_true rfl), (Nat.le_of_ble_eq_true rfl)⟩ (Nat.le_of_ble_eq_true rfl) ⟨rfl, rfl, (Nat.le_of_ble_eq_true rfl), (Nat.le_of_ble_eq_true rfl)⟩ dX10_laysBorder_37 ?_
    rintro _ _ ⟨rfl, rfl⟩
    show jx_J X 0 0 40 [(0, .ref l0), (1, .int z23)] [] h37
    refine j_aload_n C dX10_laysBorder_40 rfl rfl ?_
    refine j_aload_n C dX10_laysBorder_41 rfl rfl ?_
    replace e := ob e
    obtain ⟨x38, ex38, e⟩ := e
    refine j_getr (ci := 10) (RC := RX10) (T := TX10) (N := 38) 1 C rfl klX10 (Nat.le_of_ble_eq_true rfl) kX10_7 rfl dX10_laysBorder_42 ex38 ?_
    refine j_iconst (v := (4 : Int32)) C dX10_laysBorder_45 (by decide) ?_
    refine j_iload_n C dX10_laysBorder_46 rfl rfl ?_
    refine j_iadd C dX10_laysBorder_47 ?_
    replace e := ob e
    obtain ⟨x39, ex39, e⟩ := e
    refine j_iald C dX10_laysBorder_48 ex39 ?_
    refine j_aload_n C dX10_laysBorder_49 rfl rfl ?_
    replace e := ob e
    obtain ⟨x40, ex40, e⟩ := e
    refine j_getr (ci := 10) (RC := RX10) (T := TX10) (N := 38) 1 C rfl klX10 (Nat.le_of_ble_eq_true rfl) kX10_7 rfl dX10_laysBorder_50 ex40 ?_
    refine j_bipush (v := (16 : Int32)) C dX10_laysBorder_53 (by decide) ?_
    refine j_iload_n C dX10_laysBorder_55 rfl rfl ?_
    refine j_iadd C dX10_laysBorder_56 ?_
    replace e := ob e
    obtain ⟨x41, ex41, e⟩ := e
    refine j_iald C dX10_laysBorder_57 ex41 ?_
    refine j_iconst (v := (1 : Int32)) C dX10_laysBorder_58 (by decide) ?_
    refine j_iadd C dX10_laysBorder_59 ?_
    replace e := ob e
    obtain ⟨_, eo42, e⟩ := e
    replace e := ob e
    obtain ⟨h43, eh43, e⟩ := e
    refine j_callV (ci := 10) (RC := RX10) (T := TX10) (N := 38) (As := [.int x39, .int (x41 + (1 : Int32))]) (b := l0) (na := 2) (st := []) (k1 := 0) (n1 := 0) C hr (sX10_addsBorder eh43) rfl eo42 kX10_126 kim_X10_addsBorder ksel_X10_addsBorder kini_X10 kc_X10_addsBorder (by decide) rfl ⟨(Nat.le_of_ble_eq_true rfl), (Nat.le_of_ble_eq_true rfl)⟩ (Nat.le_of_ble_eq_true rfl) ⟨rfl, rfl, (Nat.le_of_ble_eq_true rfl), (Nat.le_of_ble_eq_true rfl)⟩ dX10_laysBorder_60 ?_
    rintro _ _ ⟨rfl, rfl⟩
    show jx_J X 0 0 63 [(0, .ref l0), (1, .int z23)] [] h43
    refine j_iinc (v := (z23 + (1 : Int32))) (lv1 := [(1, .int (z23 + (1 : Int32))), (0, .ref l0)]) C hL dX10_laysBorder_63 rfl rfl (Nat.le_of_ble_eq_true rfl) rfl ?_
    refine j_goto (tgt := 9) C dX10_laysBorder_66 (by decide) ?_
    obtain rfl := Option.some.inj e
    refine jx_sub (lv' := [(0, .ref l0), (1, .int (z23 + (1 : Int32)))]) [1, 0] rfl ?_
    exact kI3 ((z23 + (1 : Int32)), h43) e0_3
/-! BorderBasisModel.begins()V -/
noncomputable def LX10_begins_2 (l0 : Nat) (l1 : Int32) (h : jx_H) : Option ((Int32 × jx_H) ⊕ (jx_H)) :=
if (248 : Int32) ≤ l1 then
 exL ((hgr h l0 10 1).bind fun x1 =>
 (has h .int x1 (0 : Int32) (31 : Int32)).bind fun h2 =>
 (hgr h2 l0 10 1).bind fun x3 =>
 (has h2 .int x3 (1 : Int32) (1 : Int32)).bind fun h4 =>
 (isO h4 l0 10).bind fun _ =>
 (FX10_laysBorder l0 h4).bind fun h6 =>
 some h6)
else
 (hgr h l0 10 1).bind fun x7 =>
 (has h .int x7 l1 (0 : Int32)).bind fun h8 =>
 some (.inl ((l1 + (1 : Int32)), h8))
noncomputable def FX10_begins (l0 : Nat) (h : jx_H) : Option (jx_H) :=
itr (fun s : Int32 × jx_H => LX10_begins_2 l0 s.1 s.2) ((0 : Int32), h)
def rmX10_begins : Room := { frames := 5, cells := 0, slots := 0, locals := 109 }
set_option maxRecDepth 20000 in
set_option maxHeartbeats 4000000 in
theorem sX10_begins {l0 : Nat} {h : jx_H} {h9 : jx_H} (e : FX10_begins l0 h = some h9) : jx_Ct yX10_begins cX10_begins 2 none rmX10_begins [.ref l0] h (fun r' h' => none = r' ∧ h9 = h') := by
  refine jx_Ct.of (own := RX10) (by decide) rfl (Nat.le_of_ble_eq_true rfl) (fun X C hq hr hL hN => ?_)
  refine jx_sub (lv' := [(0, .ref l0)]) [0] rfl ?_
  unfold FX10_begins at e
  refine j_iconst (v := (0 : Int32)) C dX10_begins_0 (by decide) ?_
  refine j_istore_n (lv1 := [(1, .int (0 : Int32)), (0, .ref l0)]) C hL dX10_begins_1 rfl (Nat.le_of_ble_eq_true rfl) rfl ?_
  refine jx_sub (lv' := [(0, .ref l0), (1, .int (0 : Int32))]) [1, 0] rfl ?_
  refine itr_ind (s0 := ((0 : Int32), h)) (fun s : Int32 × jx_H => jx_J X 0 0 2 [(0, .ref l0), (1, .int s.1)] [] s.2) e ?_
  clear e
  intro s kI2 kT2 e0
  obtain ⟨z10, h11⟩ := s
  obtain ⟨u2, e0_2⟩ := e0
  have e : LX10_begins_2 l0 z10 h11 = some u2 := e0_2
  unfold LX10_begins_2 at e
  refine j_iload_n C dX10_begins_2 rfl rfl ?_
  refine j_sipush (v := (248 : Int32)) C dX10_begins_3 (by decide) ?_
  refine j_icmp_ge (tgt := 22) C dX10_begins_6 (by decide) (fun c20 => ?_) (fun c20 => ?_)
  · replace e := ifp c20 e
    obtain ⟨t_3, e_3, eu_3⟩ := exL_spec e
    obtain rfl := kT2 t_3 (e0_2.trans (congrArg some eu_3))
    replace e := e_3
    refine j_aload_n C dX10_begins_22 rfl rfl ?_
    replace e := ob e
    obtain ⟨x12, ex12, e⟩ := e
    refine j_getr (ci := 10) (RC := RX10) (T := TX10) (N := 38) 1 C rfl klX10 (Nat.le_of_ble_eq_true rfl) kX10_7 rfl dX10_begins_23 ex12 ?_
    refine j_iconst (v := (0 : Int32)) C dX10_begins_26 (by decide) ?_
    refine j_bipush (v := (31 : Int32)) C dX10_begins_27 (by decide) ?_
    replace e := ob e
    obtain ⟨h13, eh13, e⟩ := e
    refine j_iast C dX10_begins_29 eh13 ?_
    refine j_aload_n C dX10_begins_30 rfl rfl ?_
    replace e := ob e
    obtain ⟨x14, ex14, e⟩ := e
    refine j_getr (ci := 10) (RC := RX10) (T := TX10) (N := 38) 1 C rfl klX10 (Nat.le_of_ble_eq_true rfl) kX10_7 rfl dX10_begins_31 ex14 ?_
    refine j_iconst (v := (1 : Int32)) C dX10_begins_34 (by decide) ?_
    refine j_iconst (v := (1 : Int32)) C dX10_begins_35 (by decide) ?_
    replace e := ob e
    obtain ⟨h15, eh15, e⟩ := e
    refine j_iast C dX10_begins_36 eh15 ?_
    refine j_aload_n C dX10_begins_37 rfl rfl ?_
    replace e := ob e
    obtain ⟨_, eo16, e⟩ := e
    replace e := ob e
    obtain ⟨h17, eh17, e⟩ := e
    refine j_callV (ci := 10) (RC := RX10) (T := TX10) (N := 38) (As := []) (b := l0) (na := 0) (st := []) (k1 := 0) (n1 := 0) C hr (sX10_laysBorder eh17) rfl eo16 kX10_94 kim_X10_laysBorder ksel_X10_laysBorder kini_X10 kc_X10_laysBorder (by decide) rfl ⟨(Nat.le_of_ble_eq_true rfl), (Nat.le_of_ble_eq_true rfl)⟩ (Nat.le_of_ble_eq_true rfl) ⟨rfl, rfl, (Nat.le_of_ble_eq_true rfl), (Nat.le_of_ble_eq_true rfl)⟩ dX10_begins_38 ?_
    rintro _ _ ⟨rfl, rfl⟩
    show jx_J X 0 0 41 [(0, .ref l0), (1, .int z10)] [] h17
    cases e
    exact j_vret C hq dX10_begins_41 ⟨Nat.le_of_ble_eq_true rfl, Nat.le_of_ble_eq_true rfl⟩ ⟨rfl, rfl⟩
  · replace e := ifn c20 e
    refine j_aload_n C dX10_begins_9 rfl rfl ?_
    replace e := ob e
    obtain ⟨x18, ex18, e⟩ := e
    refine j_getr (ci := 10) (RC := RX10) (T := TX10) (N := 38) 1 C rfl klX10 (Nat.le_of_ble_eq_true rfl) kX10_7 rfl dX10_begins_10 ex18 ?_
    refine j_iload_n C dX10_begins_13 rfl rfl ?_
    refine j_iconst (v := (0 : Int32)) C dX10_begins_14 (by decide) ?_
    replace e := ob e
    obtain ⟨h19, eh19, e⟩ := e
    refine j_iast C dX10_begins_15 eh19 ?_
    refine j_iinc (v := (z10 + (1 : Int32))) (lv1 := [(1, .int (z10 + (1 : Int32))), (0, .ref l0)]) C hL dX10_begins_16 rfl rfl (Nat.le_of_ble_eq_true rfl) rfl ?_
    refine j_goto (tgt := 2) C dX10_begins_19 (by decide) ?_
    obtain rfl := Option.some.inj e
    refine jx_sub (lv' := [(0, .ref l0), (1, .int (z10 + (1 : Int32)))]) [1, 0] rfl ?_
    exact kI2 ((z10 + (1 : Int32)), h19) e0_2
/-! BorderBasisModel.<init>()V -/
noncomputable def FX10_init (l0 : Nat) (h : jx_H) : Option (jx_H) :=
(hna h .int (248 : Int32)).bind fun h1 =>
(hp h1 l0 10 1 (.ref h.1)).bind fun h2 =>
(hna h2 .int (248 : Int32)).bind fun h3 =>
(hp h3 l0 10 2 (.ref h2.1)).bind fun h4 =>
(hna h4 .int (248 : Int32)).bind fun h5 =>
(hp h5 l0 10 3 (.ref h4.1)).bind fun h6 =>
(hna h6 .int (1984 : Int32)).bind fun h7 =>
(hp h7 l0 10 4 (.ref h6.1)).bind fun h8 =>
(hna h8 .int (496 : Int32)).bind fun h9 =>
(hp h9 l0 10 6 (.ref h8.1)).bind fun h10 =>
(hna h10 .boolean (2 : Int32)).bind fun h11 =>
(hp h11 l0 10 7 (.ref h10.1)).bind fun h12 =>
(hna h12 .int (6 : Int32)).bind fun h13 =>
(hp h13 l0 10 8 (.ref h12.1)).bind fun h14 =>
(hna h14 .byte (900 : Int32)).bind fun h15 =>
(hp h15 l0 10 9 (.ref h14.1)).bind fun h16 =>
(hp h16 l0 10 16 (.int (-1 : Int32))).bind fun h17 =>
(hna h17 .byte (25 : Int32)).bind fun h18 =>
(has h18 .byte h17.1 (0 : Int32) (vp_nar .byte (112 : Int32))).bind fun h19 =>
(has h19 .byte h17.1 (1 : Int32) (vp_nar .byte (114 : Int32))).bind fun h20 =>
(has h20 .byte h17.1 (2 : Int32) (vp_nar .byte (105 : Int32))).bind fun h21 =>
(has h21 .byte h17.1 (3 : Int32) (vp_nar .byte (109 : Int32))).bind fun h22 =>
(has h22 .byte h17.1 (4 : Int32) (vp_nar .byte (101 : Int32))).bind fun h23 =>
(has h23 .byte h17.1 (5 : Int32) (vp_nar .byte (32 : Int32))).bind fun h24 =>
(has h24 .byte h17.1 (6 : Int32) (vp_nar .byte (106 : Int32))).bind fun h25 =>
(has h25 .byte h17.1 (7 : Int32) (vp_nar .byte (111 : Int32))).bind fun h26 =>
(has h26 .byte h17.1 (8 : Int32) (vp_nar .byte (105 : Int32))).bind fun h27 =>
(has h27 .byte h17.1 (9 : Int32) (vp_nar .byte (110 : Int32))).bind fun h28 =>
(has h28 .byte h17.1 (10 : Int32) (vp_nar .byte (32 : Int32))).bind fun h29 =>
(has h29 .byte h17.1 (11 : Int32) (vp_nar .byte (114 : Int32))).bind fun h30 =>
(has h30 .byte h17.1 (12 : Int32) (vp_nar .byte (117 : Int32))).bind fun h31 =>
(has h31 .byte h17.1 (13 : Int32) (vp_nar .byte (108 : Int32))).bind fun h32 =>
(has h32 .byte h17.1 (14 : Int32) (vp_nar .byte (101 : Int32))).bind fun h33 =>
(has h33 .byte h17.1 (15 : Int32) (vp_nar .byte (32 : Int32))).bind fun h34 =>
(has h34 .byte h17.1 (16 : Int32) (vp_nar .byte (105 : Int32))).bind fun h35 =>
(has h35 .byte h17.1 (17 : Int32) (vp_nar .byte (115 : Int32))).bind fun h36 =>
(has h36 .byte h17.1 (18 : Int32) (vp_nar .byte (32 : Int32))).bind fun h37 =>
(has h37 .byte h17.1 (19 : Int32) (vp_nar .byte (112 : Int32))).bind fun h38 =>
(has h38 .byte h17.1 (20 : Int32) (vp_nar .byte (111 : Int32))).bind fun h39 =>
(has h39 .byte h17.1 (21 : Int32) (vp_nar .byte (105 : Int32))).bind fun h40 =>
(has h40 .byte h17.1 (22 : Int32) (vp_nar .byte (110 : Int32))).bind fun h41 =>
(has h41 .byte h17.1 (23 : Int32) (vp_nar .byte (116 : Int32))).bind fun h42 =>
(has h42 .byte h17.1 (24 : Int32) (vp_nar .byte (32 : Int32))).bind fun h43 =>
(hp h43 l0 10 17 (.ref h17.1)).bind fun h44 =>
(hna h44 .int (144 : Int32)).bind fun h45 =>
(hp h45 l0 10 20 (.ref h44.1)).bind fun h46 =>
(hna h46 .int (144 : Int32)).bind fun h47 =>
(hp h47 l0 10 21 (.ref h46.1)).bind fun h48 =>
(hna h48 .int (144 : Int32)).bind fun h49 =>
(hp h49 l0 10 22 (.ref h48.1)).bind fun h50 =>
(hna h50 .int (144 : Int32)).bind fun h51 =>
(hp h51 l0 10 23 (.ref h50.1)).bind fun h52 =>
(hna h52 .int (144 : Int32)).bind fun h53 =>
(hp h53 l0 10 24 (.ref h52.1)).bind fun h54 =>
(hna h54 .int (288 : Int32)).bind fun h55 =>
(hp h55 l0 10 25 (.ref h54.1)).bind fun h56 =>
(hna h56 .int (12 : Int32)).bind fun h57 =>
(hp h57 l0 10 26 (.ref h56.1)).bind fun h58 =>
(hna h58 .int (12 : Int32)).bind fun h59 =>
(hp h59 l0 10 27 (.ref h58.1)).bind fun h60 =>
(hna h60 .int (12 : Int32)).bind fun h61 =>
(hp h61 l0 10 30 (.ref h60.1)).bind fun h62 =>
(hna h62 .int (12 : Int32)).bind fun h63 =>
(hp h63 l0 10 31 (.ref h62.1)).bind fun h64 =>
(hna h64 .int (13 : Int32)).bind fun h65 =>
(hp h65 l0 10 32 (.ref h64.1)).bind fun h66 =>
(hna h66 .int (13 : Int32)).bind fun h67 =>
(hp h67 l0 10 33 (.ref h66.1)).bind fun h68 =>
(hna h68 .int (9409 : Int32)).bind fun h69 =>
(hp h69 l0 10 35 (.ref h68.1)).bind fun h70 =>
(hna h70 .int (9409 : Int32)).bind fun h71 =>
(hp h71 l0 10 36 (.ref h70.1)).bind fun h72 =>
(hna h72 .int (156 : Int32)).bind fun h73 =>
(hp h73 l0 10 37 (.ref h72.1)).bind fun h74 =>
(isO h74 l0 10).bind fun _ =>
(FX10_begins l0 h74).bind fun h76 =>
some h76
def rmX10_init : Room := { frames := 6, cells := 24, slots := 24213, locals := 130 }
set_option maxRecDepth 20000 in
set_option maxHeartbeats 4000000 in
theorem sX10_init {l0 : Nat} {h : jx_H} {h9 : jx_H} (e : FX10_init l0 h = some h9) : jx_Ct yX10_init cX10_init 1 none rmX10_init [.ref l0] h (fun r' h' => none = r' ∧ h9 = h') := by
  refine jx_Ct.of (own := RX10) (by decide) rfl (Nat.le_of_ble_eq_true rfl) (fun X C hq hr hL hN => ?_)
  refine jx_sub (lv' := [(0, .ref l0)]) [0] rfl ?_
  unfold FX10_init at e
  refine j_aload_n C dX10_init_0 rfl rfl ?_
  refine j_objInit C hr kX10_1 kim_Oinit kc_Oinit dX10_init_1 (Nat.le_of_ble_eq_true rfl) (Nat.le_of_ble_eq_true rfl) ?_
  refine j_aload_n C dX10_init_4 rfl rfl ?_
  refine j_sipush (v := (248 : Int32)) C dX10_init_5 (by decide) ?_
  replace e := ob e
  obtain ⟨h77, eh77, e⟩ := e
  refine j_newa (ty := .int) (N := 248) C hr kac_int rfl rfl (Nat.le_of_ble_eq_true rfl) dX10_init_8 eh77 (Nat.le_of_ble_eq_true rfl) ⟨Nat.le_of_ble_eq_true rfl, Nat.le_of_ble_eq_true rfl⟩ ?_
  refine jx_widen (k1 := 1) (n1 := 248) (Nat.le_of_ble_eq_true rfl) (Nat.le_of_ble_eq_true rfl) ?_
  replace e := ob e
  obtain ⟨h78, eh78, e⟩ := e
  refine j_putF (ci := 10) (RC := RX10) (T := TX10) (N := 38) (ty0 := tyX10) 1 C rfl klX10 tyX10_ok nmX10 (Nat.le_of_ble_eq_true rfl) kX10_7 rfl rfl hN rfl rfl rfl rfl dX10_init_10 eh78 ?_
  refine j_aload_n C dX10_init_13 rfl rfl ?_
  refine j_sipush (v := (248 : Int32)) C dX10_init_14 (by decide) ?_
  replace e := ob e
  obtain ⟨h79, eh79, e⟩ := e
  refine j_newa (ty := .int) (N := 248) C hr kac_int rfl rfl (Nat.le_of_ble_eq_true rfl) dX10_init_17 eh79 (Nat.le_of_ble_eq_true rfl) ⟨Nat.le_of_ble_eq_true rfl, Nat.le_of_ble_eq_true rfl⟩ ?_
  refine jx_widen (k1 := 2) (n1 := 496) (Nat.le_of_ble_eq_true rfl) (Nat.le_of_ble_eq_true rfl) ?_
  replace e := ob e
  obtain ⟨h80, eh80, e⟩ := e
  refine j_putF (ci := 10) (RC := RX10) (T := TX10) (N := 38) (ty0 := tyX10) 2 C rfl klX10 tyX10_ok nmX10 (Nat.le_of_ble_eq_true rfl) kX10_13 rfl rfl hN rfl rfl rfl rfl dX10_init_19 eh80 ?_
  refine j_aload_n C dX10_init_22 rfl rfl ?_
  refine j_sipush (v := (248 : Int32)) C dX10_init_23 (by decide) ?_
  replace e := ob e
  obtain ⟨h81, eh81, e⟩ := e
  refine j_newa (ty := .int) (N := 248) C hr kac_int rfl rfl (Nat.le_of_ble_eq_true rfl) dX10_init_26 eh81 (Nat.le_of_ble_eq_true rfl) ⟨Nat.le_of_ble_eq_true rfl, Nat.le_of_ble_eq_true rfl⟩ ?_
  refine jx_widen (k1 := 3) (n1 := 744) (Nat.le_of_ble_eq_true rfl) (Nat.le_of_ble_eq_true rfl) ?_
  replace e := ob e
  obtain ⟨h82, eh82, e⟩ := e
  refine j_putF (ci := 10) (RC := RX10) (T := TX10) (N := 38) (ty0 := tyX10) 3 C rfl klX10 tyX10_ok nmX10 (Nat.le_of_ble_eq_true rfl) kX10_16 rfl rfl hN rfl rfl rfl rfl dX10_init_28 eh82 ?_
  refine j_aload_n C dX10_init_31 rfl rfl ?_
  refine j_sipush (v := (1984 : Int32)) C dX10_init_32 (by decide) ?_
  replace e := ob e
  obtain ⟨h83, eh83, e⟩ := e
  refine j_newa (ty := .int) (N := 1984) C hr kac_int rfl rfl (Nat.le_of_ble_eq_true rfl) dX10_init_35 eh83 (Nat.le_of_ble_eq_true rfl) ⟨Nat.le_of_ble_eq_true rfl, Nat.le_of_ble_eq_true rfl⟩ ?_
  refine jx_widen (k1 := 4) (n1 := 2728) (Nat.le_of_ble_eq_true rfl) (Nat.le_of_ble_eq_true rfl) ?_
  replace e := ob e
  obtain ⟨h84, eh84, e⟩ := e
  refine j_putF (ci := 10) (RC := RX10) (T := TX10) (N := 38) (ty0 := tyX10) 4 C rfl klX10 tyX10_ok nmX10 (Nat.le_of_ble_eq_true rfl) kX10_19 rfl rfl hN rfl rfl rfl rfl dX10_init_37 eh84 ?_
  refine j_aload_n C dX10_init_40 rfl rfl ?_
  refine j_sipush (v := (496 : Int32)) C dX10_init_41 (by decide) ?_
  replace e := ob e
  obtain ⟨h85, eh85, e⟩ := e
  refine j_newa (ty := .int) (N := 496) C hr kac_int rfl rfl (Nat.le_of_ble_eq_true rfl) dX10_init_44 eh85 (Nat.le_of_ble_eq_true rfl) ⟨Nat.le_of_ble_eq_true rfl, Nat.le_of_ble_eq_true rfl⟩ ?_
  refine jx_widen (k1 := 5) (n1 := 3224) (Nat.le_of_ble_eq_true rfl) (Nat.le_of_ble_eq_true rfl) ?_
  replace e := ob e
  obtain ⟨h86, eh86, e⟩ := e
  refine j_putF (ci := 10) (RC := RX10) (T := TX10) (N := 38) (ty0 := tyX10) 6 C rfl klX10 tyX10_ok nmX10 (Nat.le_of_ble_eq_true rfl) kX10_22 rfl rfl hN rfl rfl rfl rfl dX10_init_46 eh86 ?_
  refine j_aload_n C dX10_init_49 rfl rfl ?_
  refine j_iconst (v := (2 : Int32)) C dX10_init_50 (by decide) ?_
  replace e := ob e
  obtain ⟨h87, eh87, e⟩ := e
  refine j_newa (ty := .boolean) (N := 2) C hr kac_boolean rfl rfl (Nat.le_of_ble_eq_true rfl) dX10_init_51 eh87 (Nat.le_of_ble_eq_true rfl) ⟨Nat.le_of_ble_eq_true rfl, Nat.le_of_ble_eq_true rfl⟩ ?_
  refine jx_widen (k1 := 6) (n1 := 3226) (Nat.le_of_ble_eq_true rfl) (Nat.le_of_ble_eq_true rfl) ?_
  replace e := ob e
  obtain ⟨h88, eh88, e⟩ := e
  refine j_putF (ci := 10) (RC := RX10) (T := TX10) (N := 38) (ty0 := tyX10) 7 C rfl klX10 tyX10_ok nmX10 (Nat.le_of_ble_eq_true rfl) kX10_25 rfl rfl hN rfl rfl rfl rfl dX10_init_53 eh88 ?_
  refine j_aload_n C dX10_init_56 rfl rfl ?_
  refine j_bipush (v := (6 : Int32)) C dX10_init_57 (by decide) ?_
  replace e := ob e
  obtain ⟨h89, eh89, e⟩ := e
  refine j_newa (ty := .int) (N := 6) C hr kac_int rfl rfl (Nat.le_of_ble_eq_true rfl) dX10_init_59 eh89 (Nat.le_of_ble_eq_true rfl) ⟨Nat.le_of_ble_eq_true rfl, Nat.le_of_ble_eq_true rfl⟩ ?_
  refine jx_widen (k1 := 7) (n1 := 3232) (Nat.le_of_ble_eq_true rfl) (Nat.le_of_ble_eq_true rfl) ?_
  replace e := ob e
  obtain ⟨h90, eh90, e⟩ := e
  refine j_putF (ci := 10) (RC := RX10) (T := TX10) (N := 38) (ty0 := tyX10) 8 C rfl klX10 tyX10_ok nmX10 (Nat.le_of_ble_eq_true rfl) kX10_29 rfl rfl hN rfl rfl rfl rfl dX10_init_61 eh90 ?_
  refine j_aload_n C dX10_init_64 rfl rfl ?_
  refine j_sipush (v := (900 : Int32)) C dX10_init_65 (by decide) ?_
  replace e := ob e
  obtain ⟨h91, eh91, e⟩ := e
  refine j_newa (ty := .byte) (N := 900) C hr kac_byte rfl rfl (Nat.le_of_ble_eq_true rfl) dX10_init_68 eh91 (Nat.le_of_ble_eq_true rfl) ⟨Nat.le_of_ble_eq_true rfl, Nat.le_of_ble_eq_true rfl⟩ ?_
  refine jx_widen (k1 := 8) (n1 := 4132) (Nat.le_of_ble_eq_true rfl) (Nat.le_of_ble_eq_true rfl) ?_
  replace e := ob e
  obtain ⟨h92, eh92, e⟩ := e
  refine j_putF (ci := 10) (RC := RX10) (T := TX10) (N := 38) (ty0 := tyX10) 9 C rfl klX10 tyX10_ok nmX10 (Nat.le_of_ble_eq_true rfl) kX10_32 rfl rfl hN rfl rfl rfl rfl dX10_init_70 eh92 ?_
  refine j_aload_n C dX10_init_73 rfl rfl ?_
  refine j_iconst (v := (-1 : Int32)) C dX10_init_74 (by decide) ?_
  replace e := ob e
  obtain ⟨h93, eh93, e⟩ := e
  refine j_put (ci := 10) (RC := RX10) (T := TX10) (N := 38) (ty0 := tyX10) 16 C rfl klX10 tyX10_ok nmX10 (Nat.le_of_ble_eq_true rfl) kX10_36 rfl rfl rfl rfl dX10_init_75 eh93 ?_
  refine j_aload_n C dX10_init_78 rfl rfl ?_
  refine j_bipush (v := (25 : Int32)) C dX10_init_79 (by decide) ?_
  replace e := ob e
  obtain ⟨h94, eh94, e⟩ := e
  refine j_newa (ty := .byte) (N := 25) C hr kac_byte rfl rfl (Nat.le_of_ble_eq_true rfl) dX10_init_81 eh94 (Nat.le_of_ble_eq_true rfl) ⟨Nat.le_of_ble_eq_true rfl, Nat.le_of_ble_eq_true rfl⟩ ?_
  refine jx_widen (k1 := 9) (n1 := 4157) (Nat.le_of_ble_eq_true rfl) (Nat.le_of_ble_eq_true rfl) ?_
  refine j_dup C dX10_init_83 rfl ?_
  refine j_iconst (v := (0 : Int32)) C dX10_init_84 (by decide) ?_
  refine j_bipush (v := (112 : Int32)) C dX10_init_85 (by decide) ?_
  replace e := ob e
  obtain ⟨h95, eh95, e⟩ := e
  refine j_bast C dX10_init_87 eh95 ?_
  refine j_dup C dX10_init_88 rfl ?_
  refine j_iconst (v := (1 : Int32)) C dX10_init_89 (by decide) ?_
  refine j_bipush (v := (114 : Int32)) C dX10_init_90 (by decide) ?_
  replace e := ob e
  obtain ⟨h96, eh96, e⟩ := e
  refine j_bast C dX10_init_92 eh96 ?_
  refine j_dup C dX10_init_93 rfl ?_
  refine j_iconst (v := (2 : Int32)) C dX10_init_94 (by decide) ?_
  refine j_bipush (v := (105 : Int32)) C dX10_init_95 (by decide) ?_
  replace e := ob e
  obtain ⟨h97, eh97, e⟩ := e
  refine j_bast C dX10_init_97 eh97 ?_
  refine j_dup C dX10_init_98 rfl ?_
  refine j_iconst (v := (3 : Int32)) C dX10_init_99 (by decide) ?_
  refine j_bipush (v := (109 : Int32)) C dX10_init_100 (by decide) ?_
  replace e := ob e
  obtain ⟨h98, eh98, e⟩ := e
  refine j_bast C dX10_init_102 eh98 ?_
  refine j_dup C dX10_init_103 rfl ?_
  refine j_iconst (v := (4 : Int32)) C dX10_init_104 (by decide) ?_
  refine j_bipush (v := (101 : Int32)) C dX10_init_105 (by decide) ?_
  replace e := ob e
  obtain ⟨h99, eh99, e⟩ := e
  refine j_bast C dX10_init_107 eh99 ?_
  refine j_dup C dX10_init_108 rfl ?_
  refine j_iconst (v := (5 : Int32)) C dX10_init_109 (by decide) ?_
  refine j_bipush (v := (32 : Int32)) C dX10_init_110 (by decide) ?_
  replace e := ob e
  obtain ⟨h100, eh100, e⟩ := e
  refine j_bast C dX10_init_112 eh100 ?_
  refine j_dup C dX10_init_113 rfl ?_
  refine j_bipush (v := (6 : Int32)) C dX10_init_114 (by decide) ?_
  refine j_bipush (v := (106 : Int32)) C dX10_init_116 (by decide) ?_
  replace e := ob e
  obtain ⟨h101, eh101, e⟩ := e
  refine j_bast C dX10_init_118 eh101 ?_
  refine j_dup C dX10_init_119 rfl ?_
  refine j_bipush (v := (7 : Int32)) C dX10_init_120 (by decide) ?_
  refine j_bipush (v := (111 : Int32)) C dX10_init_122 (by decide) ?_
  replace e := ob e
  obtain ⟨h102, eh102, e⟩ := e
  refine j_bast C dX10_init_124 eh102 ?_
  refine j_dup C dX10_init_125 rfl ?_
  refine j_bipush (v := (8 : Int32)) C dX10_init_126 (by decide) ?_
  refine j_bipush (v := (105 : Int32)) C dX10_init_128 (by decide) ?_
  replace e := ob e
  obtain ⟨h103, eh103, e⟩ := e
  refine j_bast C dX10_init_130 eh103 ?_
  refine j_dup C dX10_init_131 rfl ?_
  refine j_bipush (v := (9 : Int32)) C dX10_init_132 (by decide) ?_
  refine j_bipush (v := (110 : Int32)) C dX10_init_134 (by decide) ?_
  replace e := ob e
  obtain ⟨h104, eh104, e⟩ := e
  refine j_bast C dX10_init_136 eh104 ?_
  refine j_dup C dX10_init_137 rfl ?_
  refine j_bipush (v := (10 : Int32)) C dX10_init_138 (by decide) ?_
  refine j_bipush (v := (32 : Int32)) C dX10_init_140 (by decide) ?_
  replace e := ob e
  obtain ⟨h105, eh105, e⟩ := e
  refine j_bast C dX10_init_142 eh105 ?_
  refine j_dup C dX10_init_143 rfl ?_
  refine j_bipush (v := (11 : Int32)) C dX10_init_144 (by decide) ?_
  refine j_bipush (v := (114 : Int32)) C dX10_init_146 (by decide) ?_
  replace e := ob e
  obtain ⟨h106, eh106, e⟩ := e
  refine j_bast C dX10_init_148 eh106 ?_
  refine j_dup C dX10_init_149 rfl ?_
  refine j_bipush (v := (12 : Int32)) C dX10_init_150 (by decide) ?_
  refine j_bipush (v := (117 : Int32)) C dX10_init_152 (by decide) ?_
  replace e := ob e
  obtain ⟨h107, eh107, e⟩ := e
  refine j_bast C dX10_init_154 eh107 ?_
  refine j_dup C dX10_init_155 rfl ?_
  refine j_bipush (v := (13 : Int32)) C dX10_init_156 (by decide) ?_
  refine j_bipush (v := (108 : Int32)) C dX10_init_158 (by decide) ?_
  replace e := ob e
  obtain ⟨h108, eh108, e⟩ := e
  refine j_bast C dX10_init_160 eh108 ?_
  refine j_dup C dX10_init_161 rfl ?_
  refine j_bipush (v := (14 : Int32)) C dX10_init_162 (by decide) ?_
  refine j_bipush (v := (101 : Int32)) C dX10_init_164 (by decide) ?_
  replace e := ob e
  obtain ⟨h109, eh109, e⟩ := e
  refine j_bast C dX10_init_166 eh109 ?_
  refine j_dup C dX10_init_167 rfl ?_
  refine j_bipush (v := (15 : Int32)) C dX10_init_168 (by decide) ?_
  refine j_bipush (v := (32 : Int32)) C dX10_init_170 (by decide) ?_
  replace e := ob e
  obtain ⟨h110, eh110, e⟩ := e
  refine j_bast C dX10_init_172 eh110 ?_
  refine j_dup C dX10_init_173 rfl ?_
  refine j_bipush (v := (16 : Int32)) C dX10_init_174 (by decide) ?_
  refine j_bipush (v := (105 : Int32)) C dX10_init_176 (by decide) ?_
  replace e := ob e
  obtain ⟨h111, eh111, e⟩ := e
  refine j_bast C dX10_init_178 eh111 ?_
  refine j_dup C dX10_init_179 rfl ?_
  refine j_bipush (v := (17 : Int32)) C dX10_init_180 (by decide) ?_
  refine j_bipush (v := (115 : Int32)) C dX10_init_182 (by decide) ?_
  replace e := ob e
  obtain ⟨h112, eh112, e⟩ := e
  refine j_bast C dX10_init_184 eh112 ?_
  refine j_dup C dX10_init_185 rfl ?_
  refine j_bipush (v := (18 : Int32)) C dX10_init_186 (by decide) ?_
  refine j_bipush (v := (32 : Int32)) C dX10_init_188 (by decide) ?_
  replace e := ob e
  obtain ⟨h113, eh113, e⟩ := e
  refine j_bast C dX10_init_190 eh113 ?_
  refine j_dup C dX10_init_191 rfl ?_
  refine j_bipush (v := (19 : Int32)) C dX10_init_192 (by decide) ?_
  refine j_bipush (v := (112 : Int32)) C dX10_init_194 (by decide) ?_
  replace e := ob e
  obtain ⟨h114, eh114, e⟩ := e
  refine j_bast C dX10_init_196 eh114 ?_
  refine j_dup C dX10_init_197 rfl ?_
  refine j_bipush (v := (20 : Int32)) C dX10_init_198 (by decide) ?_
  refine j_bipush (v := (111 : Int32)) C dX10_init_200 (by decide) ?_
  replace e := ob e
  obtain ⟨h115, eh115, e⟩ := e
  refine j_bast C dX10_init_202 eh115 ?_
  refine j_dup C dX10_init_203 rfl ?_
  refine j_bipush (v := (21 : Int32)) C dX10_init_204 (by decide) ?_
  refine j_bipush (v := (105 : Int32)) C dX10_init_206 (by decide) ?_
  replace e := ob e
  obtain ⟨h116, eh116, e⟩ := e
  refine j_bast C dX10_init_208 eh116 ?_
  refine j_dup C dX10_init_209 rfl ?_
  refine j_bipush (v := (22 : Int32)) C dX10_init_210 (by decide) ?_
  refine j_bipush (v := (110 : Int32)) C dX10_init_212 (by decide) ?_
  replace e := ob e
  obtain ⟨h117, eh117, e⟩ := e
  refine j_bast C dX10_init_214 eh117 ?_
  refine j_dup C dX10_init_215 rfl ?_
  refine j_bipush (v := (23 : Int32)) C dX10_init_216 (by decide) ?_
  refine j_bipush (v := (116 : Int32)) C dX10_init_218 (by decide) ?_
  replace e := ob e
  obtain ⟨h118, eh118, e⟩ := e
  refine j_bast C dX10_init_220 eh118 ?_
  refine j_dup C dX10_init_221 rfl ?_
  refine j_bipush (v := (24 : Int32)) C dX10_init_222 (by decide) ?_
  refine j_bipush (v := (32 : Int32)) C dX10_init_224 (by decide) ?_
  replace e := ob e
  obtain ⟨h119, eh119, e⟩ := e
  refine j_bast C dX10_init_226 eh119 ?_
  replace e := ob e
  obtain ⟨h120, eh120, e⟩ := e
  refine j_putF (ci := 10) (RC := RX10) (T := TX10) (N := 38) (ty0 := tyX10) 17 C rfl klX10 tyX10_ok nmX10 (Nat.le_of_ble_eq_true rfl) kX10_40 rfl rfl hN rfl rfl rfl rfl dX10_init_227 eh120 ?_
  refine j_aload_n C dX10_init_230 rfl rfl ?_
  refine j_sipush (v := (144 : Int32)) C dX10_init_231 (by decide) ?_
  replace e := ob e
  obtain ⟨h121, eh121, e⟩ := e
  refine j_newa (ty := .int) (N := 144) C hr kac_int rfl rfl (Nat.le_of_ble_eq_true rfl) dX10_init_234 eh121 (Nat.le_of_ble_eq_true rfl) ⟨Nat.le_of_ble_eq_true rfl, Nat.le_of_ble_eq_true rfl⟩ ?_
  refine jx_widen (k1 := 10) (n1 := 4301) (Nat.le_of_ble_eq_true rfl) (Nat.le_of_ble_eq_true rfl) ?_
  replace e := ob e
  obtain ⟨h122, eh122, e⟩ := e
  refine j_putF (ci := 10) (RC := RX10) (T := TX10) (N := 38) (ty0 := tyX10) 20 C rfl klX10 tyX10_ok nmX10 (Nat.le_of_ble_eq_true rfl) kX10_43 rfl rfl hN rfl rfl rfl rfl dX10_init_236 eh122 ?_
  refine j_aload_n C dX10_init_239 rfl rfl ?_
  refine j_sipush (v := (144 : Int32)) C dX10_init_240 (by decide) ?_
  replace e := ob e
  obtain ⟨h123, eh123, e⟩ := e
  refine j_newa (ty := .int) (N := 144) C hr kac_int rfl rfl (Nat.le_of_ble_eq_true rfl) dX10_init_243 eh123 (Nat.le_of_ble_eq_true rfl) ⟨Nat.le_of_ble_eq_true rfl, Nat.le_of_ble_eq_true rfl⟩ ?_
  refine jx_widen (k1 := 11) (n1 := 4445) (Nat.le_of_ble_eq_true rfl) (Nat.le_of_ble_eq_true rfl) ?_
  replace e := ob e
  obtain ⟨h124, eh124, e⟩ := e
  refine j_putF (ci := 10) (RC := RX10) (T := TX10) (N := 38) (ty0 := tyX10) 21 C rfl klX10 tyX10_ok nmX10 (Nat.le_of_ble_eq_true rfl) kX10_46 rfl rfl hN rfl rfl rfl rfl dX10_init_245 eh124 ?_
  refine j_aload_n C dX10_init_248 rfl rfl ?_
  refine j_sipush (v := (144 : Int32)) C dX10_init_249 (by decide) ?_
  replace e := ob e
  obtain ⟨h125, eh125, e⟩ := e
  refine j_newa (ty := .int) (N := 144) C hr kac_int rfl rfl (Nat.le_of_ble_eq_true rfl) dX10_init_252 eh125 (Nat.le_of_ble_eq_true rfl) ⟨Nat.le_of_ble_eq_true rfl, Nat.le_of_ble_eq_true rfl⟩ ?_
  refine jx_widen (k1 := 12) (n1 := 4589) (Nat.le_of_ble_eq_true rfl) (Nat.le_of_ble_eq_true rfl) ?_
  replace e := ob e
  obtain ⟨h126, eh126, e⟩ := e
  refine j_putF (ci := 10) (RC := RX10) (T := TX10) (N := 38) (ty0 := tyX10) 22 C rfl klX10 tyX10_ok nmX10 (Nat.le_of_ble_eq_true rfl) kX10_49 rfl rfl hN rfl rfl rfl rfl dX10_init_254 eh126 ?_
  refine j_aload_n C dX10_init_257 rfl rfl ?_
  refine j_sipush (v := (144 : Int32)) C dX10_init_258 (by decide) ?_
  replace e := ob e
  obtain ⟨h127, eh127, e⟩ := e
  refine j_newa (ty := .int) (N := 144) C hr kac_int rfl rfl (Nat.le_of_ble_eq_true rfl) dX10_init_261 eh127 (Nat.le_of_ble_eq_true rfl) ⟨Nat.le_of_ble_eq_true rfl, Nat.le_of_ble_eq_true rfl⟩ ?_
  refine jx_widen (k1 := 13) (n1 := 4733) (Nat.le_of_ble_eq_true rfl) (Nat.le_of_ble_eq_true rfl) ?_
  replace e := ob e
  obtain ⟨h128, eh128, e⟩ := e
  refine j_putF (ci := 10) (RC := RX10) (T := TX10) (N := 38) (ty0 := tyX10) 23 C rfl klX10 tyX10_ok nmX10 (Nat.le_of_ble_eq_true rfl) kX10_52 rfl rfl hN rfl rfl rfl rfl dX10_init_263 eh128 ?_
  refine j_aload_n C dX10_init_266 rfl rfl ?_
  refine j_sipush (v := (144 : Int32)) C dX10_init_267 (by decide) ?_
  replace e := ob e
  obtain ⟨h129, eh129, e⟩ := e
  refine j_newa (ty := .int) (N := 144) C hr kac_int rfl rfl (Nat.le_of_ble_eq_true rfl) dX10_init_270 eh129 (Nat.le_of_ble_eq_true rfl) ⟨Nat.le_of_ble_eq_true rfl, Nat.le_of_ble_eq_true rfl⟩ ?_
  refine jx_widen (k1 := 14) (n1 := 4877) (Nat.le_of_ble_eq_true rfl) (Nat.le_of_ble_eq_true rfl) ?_
  replace e := ob e
  obtain ⟨h130, eh130, e⟩ := e
  refine j_putF (ci := 10) (RC := RX10) (T := TX10) (N := 38) (ty0 := tyX10) 24 C rfl klX10 tyX10_ok nmX10 (Nat.le_of_ble_eq_true rfl) kX10_55 rfl rfl hN rfl rfl rfl rfl dX10_init_272 eh130 ?_
  refine j_aload_n C dX10_init_275 rfl rfl ?_
  refine j_sipush (v := (288 : Int32)) C dX10_init_276 (by decide) ?_
  replace e := ob e
  obtain ⟨h131, eh131, e⟩ := e
  refine j_newa (ty := .int) (N := 288) C hr kac_int rfl rfl (Nat.le_of_ble_eq_true rfl) dX10_init_279 eh131 (Nat.le_of_ble_eq_true rfl) ⟨Nat.le_of_ble_eq_true rfl, Nat.le_of_ble_eq_true rfl⟩ ?_
  refine jx_widen (k1 := 15) (n1 := 5165) (Nat.le_of_ble_eq_true rfl) (Nat.le_of_ble_eq_true rfl) ?_
  replace e := ob e
  obtain ⟨h132, eh132, e⟩ := e
  refine j_putF (ci := 10) (RC := RX10) (T := TX10) (N := 38) (ty0 := tyX10) 25 C rfl klX10 tyX10_ok nmX10 (Nat.le_of_ble_eq_true rfl) kX10_58 rfl rfl hN rfl rfl rfl rfl dX10_init_281 eh132 ?_
  refine j_aload_n C dX10_init_284 rfl rfl ?_
  refine j_bipush (v := (12 : Int32)) C dX10_init_285 (by decide) ?_
  replace e := ob e
  obtain ⟨h133, eh133, e⟩ := e
  refine j_newa (ty := .int) (N := 12) C hr kac_int rfl rfl (Nat.le_of_ble_eq_true rfl) dX10_init_287 eh133 (Nat.le_of_ble_eq_true rfl) ⟨Nat.le_of_ble_eq_true rfl, Nat.le_of_ble_eq_true rfl⟩ ?_
  refine jx_widen (k1 := 16) (n1 := 5177) (Nat.le_of_ble_eq_true rfl) (Nat.le_of_ble_eq_true rfl) ?_
  replace e := ob e
  obtain ⟨h134, eh134, e⟩ := e
  refine j_putF (ci := 10) (RC := RX10) (T := TX10) (N := 38) (ty0 := tyX10) 26 C rfl klX10 tyX10_ok nmX10 (Nat.le_of_ble_eq_true rfl) kX10_61 rfl rfl hN rfl rfl rfl rfl dX10_init_289 eh134 ?_
  refine j_aload_n C dX10_init_292 rfl rfl ?_
  refine j_bipush (v := (12 : Int32)) C dX10_init_293 (by decide) ?_
  replace e := ob e
  obtain ⟨h135, eh135, e⟩ := e
  refine j_newa (ty := .int) (N := 12) C hr kac_int rfl rfl (Nat.le_of_ble_eq_true rfl) dX10_init_295 eh135 (Nat.le_of_ble_eq_true rfl) ⟨Nat.le_of_ble_eq_true rfl, Nat.le_of_ble_eq_true rfl⟩ ?_
  refine jx_widen (k1 := 17) (n1 := 5189) (Nat.le_of_ble_eq_true rfl) (Nat.le_of_ble_eq_true rfl) ?_
  replace e := ob e
  obtain ⟨h136, eh136, e⟩ := e
  refine j_putF (ci := 10) (RC := RX10) (T := TX10) (N := 38) (ty0 := tyX10) 27 C rfl klX10 tyX10_ok nmX10 (Nat.le_of_ble_eq_true rfl) kX10_64 rfl rfl hN rfl rfl rfl rfl dX10_init_297 eh136 ?_
  refine j_aload_n C dX10_init_300 rfl rfl ?_
  refine j_bipush (v := (12 : Int32)) C dX10_init_301 (by decide) ?_
  replace e := ob e
  obtain ⟨h137, eh137, e⟩ := e
  refine j_newa (ty := .int) (N := 12) C hr kac_int rfl rfl (Nat.le_of_ble_eq_true rfl) dX10_init_303 eh137 (Nat.le_of_ble_eq_true rfl) ⟨Nat.le_of_ble_eq_true rfl, Nat.le_of_ble_eq_true rfl⟩ ?_
  refine jx_widen (k1 := 18) (n1 := 5201) (Nat.le_of_ble_eq_true rfl) (Nat.le_of_ble_eq_true rfl) ?_
  replace e := ob e
  obtain ⟨h138, eh138, e⟩ := e
  refine j_putF (ci := 10) (RC := RX10) (T := TX10) (N := 38) (ty0 := tyX10) 30 C rfl klX10 tyX10_ok nmX10 (Nat.le_of_ble_eq_true rfl) kX10_67 rfl rfl hN rfl rfl rfl rfl dX10_init_305 eh138 ?_
  refine j_aload_n C dX10_init_308 rfl rfl ?_
  refine j_bipush (v := (12 : Int32)) C dX10_init_309 (by decide) ?_
  replace e := ob e
  obtain ⟨h139, eh139, e⟩ := e
  refine j_newa (ty := .int) (N := 12) C hr kac_int rfl rfl (Nat.le_of_ble_eq_true rfl) dX10_init_311 eh139 (Nat.le_of_ble_eq_true rfl) ⟨Nat.le_of_ble_eq_true rfl, Nat.le_of_ble_eq_true rfl⟩ ?_
  refine jx_widen (k1 := 19) (n1 := 5213) (Nat.le_of_ble_eq_true rfl) (Nat.le_of_ble_eq_true rfl) ?_
  replace e := ob e
  obtain ⟨h140, eh140, e⟩ := e
  refine j_putF (ci := 10) (RC := RX10) (T := TX10) (N := 38) (ty0 := tyX10) 31 C rfl klX10 tyX10_ok nmX10 (Nat.le_of_ble_eq_true rfl) kX10_70 rfl rfl hN rfl rfl rfl rfl dX10_init_313 eh140 ?_
  refine j_aload_n C dX10_init_316 rfl rfl ?_
  refine j_bipush (v := (13 : Int32)) C dX10_init_317 (by decide) ?_
  replace e := ob e
  obtain ⟨h141, eh141, e⟩ := e
  refine j_newa (ty := .int) (N := 13) C hr kac_int rfl rfl (Nat.le_of_ble_eq_true rfl) dX10_init_319 eh141 (Nat.le_of_ble_eq_true rfl) ⟨Nat.le_of_ble_eq_true rfl, Nat.le_of_ble_eq_true rfl⟩ ?_
  refine jx_widen (k1 := 20) (n1 := 5226) (Nat.le_of_ble_eq_true rfl) (Nat.le_of_ble_eq_true rfl) ?_
  replace e := ob e
  obtain ⟨h142, eh142, e⟩ := e
  refine j_putF (ci := 10) (RC := RX10) (T := TX10) (N := 38) (ty0 := tyX10) 32 C rfl klX10 tyX10_ok nmX10 (Nat.le_of_ble_eq_true rfl) kX10_73 rfl rfl hN rfl rfl rfl rfl dX10_init_321 eh142 ?_
  refine j_aload_n C dX10_init_324 rfl rfl ?_
  refine j_bipush (v := (13 : Int32)) C dX10_init_325 (by decide) ?_
  replace e := ob e
  obtain ⟨h143, eh143, e⟩ := e
  refine j_newa (ty := .int) (N := 13) C hr kac_int rfl rfl (Nat.le_of_ble_eq_true rfl) dX10_init_327 eh143 (Nat.le_of_ble_eq_true rfl) ⟨Nat.le_of_ble_eq_true rfl, Nat.le_of_ble_eq_true rfl⟩ ?_
  refine jx_widen (k1 := 21) (n1 := 5239) (Nat.le_of_ble_eq_true rfl) (Nat.le_of_ble_eq_true rfl) ?_
  replace e := ob e
  obtain ⟨h144, eh144, e⟩ := e
  refine j_putF (ci := 10) (RC := RX10) (T := TX10) (N := 38) (ty0 := tyX10) 33 C rfl klX10 tyX10_ok nmX10 (Nat.le_of_ble_eq_true rfl) kX10_76 rfl rfl hN rfl rfl rfl rfl dX10_init_329 eh144 ?_
  refine j_aload_n C dX10_init_332 rfl rfl ?_
  refine j_sipush (v := (9409 : Int32)) C dX10_init_333 (by decide) ?_
  replace e := ob e
  obtain ⟨h145, eh145, e⟩ := e
  refine j_newa (ty := .int) (N := 9409) C hr kac_int rfl rfl (Nat.le_of_ble_eq_true rfl) dX10_init_336 eh145 (Nat.le_of_ble_eq_true rfl) ⟨Nat.le_of_ble_eq_true rfl, Nat.le_of_ble_eq_true rfl⟩ ?_
  refine jx_widen (k1 := 22) (n1 := 14648) (Nat.le_of_ble_eq_true rfl) (Nat.le_of_ble_eq_true rfl) ?_
  replace e := ob e
  obtain ⟨h146, eh146, e⟩ := e
  refine j_putF (ci := 10) (RC := RX10) (T := TX10) (N := 38) (ty0 := tyX10) 35 C rfl klX10 tyX10_ok nmX10 (Nat.le_of_ble_eq_true rfl) kX10_79 rfl rfl hN rfl rfl rfl rfl dX10_init_338 eh146 ?_
  refine j_aload_n C dX10_init_341 rfl rfl ?_
  refine j_sipush (v := (9409 : Int32)) C dX10_init_342 (by decide) ?_
  replace e := ob e
  obtain ⟨h147, eh147, e⟩ := e
  refine j_newa (ty := .int) (N := 9409) C hr kac_int rfl rfl (Nat.le_of_ble_eq_true rfl) dX10_init_345 eh147 (Nat.le_of_ble_eq_true rfl) ⟨Nat.le_of_ble_eq_true rfl, Nat.le_of_ble_eq_true rfl⟩ ?_
  refine jx_widen (k1 := 23) (n1 := 24057) (Nat.le_of_ble_eq_true rfl) (Nat.le_of_ble_eq_true rfl) ?_
  replace e := ob e
  obtain ⟨h148, eh148, e⟩ := e
  refine j_putF (ci := 10) (RC := RX10) (T := TX10) (N := 38) (ty0 := tyX10) 36 C rfl klX10 tyX10_ok nmX10 (Nat.le_of_ble_eq_true rfl) kX10_82 rfl rfl hN rfl rfl rfl rfl dX10_init_347 eh148 ?_
  refine j_aload_n C dX10_init_350 rfl rfl ?_
  refine j_sipush (v := (156 : Int32)) C dX10_init_351 (by decide) ?_
  replace e := ob e
  obtain ⟨h149, eh149, e⟩ := e
  refine j_newa (ty := .int) (N := 156) C hr kac_int rfl rfl (Nat.le_of_ble_eq_true rfl) dX10_init_354 eh149 (Nat.le_of_ble_eq_true rfl) ⟨Nat.le_of_ble_eq_true rfl, Nat.le_of_ble_eq_true rfl⟩ ?_
  refine jx_widen (k1 := 24) (n1 := 24213) (Nat.le_of_ble_eq_true rfl) (Nat.le_of_ble_eq_true rfl) ?_
  replace e := ob e
  obtain ⟨h150, eh150, e⟩ := e
  refine j_putF (ci := 10) (RC := RX10) (T := TX10) (N := 38) (ty0 := tyX10) 37 C rfl klX10 tyX10_ok nmX10 (Nat.le_of_ble_eq_true rfl) kX10_85 rfl rfl hN rfl rfl rfl rfl dX10_init_356 eh150 ?_
  refine j_aload_n C dX10_init_359 rfl rfl ?_
  replace e := ob e
  obtain ⟨_, eo151, e⟩ := e
  replace e := ob e
  obtain ⟨h152, eh152, e⟩ := e
  refine j_callV (ci := 10) (RC := RX10) (T := TX10) (N := 38) (As := []) (b := l0) (na := 0) (st := []) (k1 := 24) (n1 := 24213) C hr (sX10_begins eh152) rfl eo151 kX10_88 kim_X10_begins ksel_X10_begins kini_X10 kc_X10_begins (by decide) rfl ⟨(Nat.le_of_ble_eq_true rfl), (Nat.le_of_ble_eq_true rfl)⟩ (Nat.le_of_ble_eq_true rfl) ⟨rfl, rfl, (Nat.le_of_ble_eq_true rfl), (Nat.le_of_ble_eq_true rfl)⟩ dX10_init_360 ?_
  rintro _ _ ⟨rfl, rfl⟩
  show jx_J X 24 24213 363 [(0, .ref l0)] [] h152
  cases e
  exact j_vret C hq dX10_init_363 ⟨Nat.le_of_ble_eq_true rfl, Nat.le_of_ble_eq_true rfl⟩ ⟨rfl, rfl⟩
/-! BorderBasisModel.thrown()I -/
noncomputable def FX10_thrown (l0 : Nat) (h : jx_H) : Option (Int32) :=
(hgi h l0 10 0).bind fun x1 =>
some x1
def rmX10_thrown : Room := { frames := 0, cells := 0, slots := 0, locals := 0 }
set_option maxRecDepth 20000 in
set_option maxHeartbeats 4000000 in
theorem sX10_thrown {l0 : Nat} {h : jx_H} {r : Int32}  (e : FX10_thrown l0 h = some r) : jx_Ct yX10_thrown cX10_thrown 1 (some .int) rmX10_thrown [.ref l0] h (fun r' h' => some (.int r) = r' ∧ h = h') := by
  refine jx_Ct.of (own := RX10) (by decide) rfl (Nat.le_of_ble_eq_true rfl) (fun X C hq hr hL hN => ?_)
  refine jx_sub (lv' := [(0, .ref l0)]) [0] rfl ?_
  unfold FX10_thrown at e
  refine j_aload_n C dX10_thrown_0 rfl rfl ?_
  replace e := ob e
  obtain ⟨x2, ex2, e⟩ := e
  refine j_geti (ci := 10) (RC := RX10) (T := TX10) (N := 38) 0 C rfl klX10 (Nat.le_of_ble_eq_true rfl) kX10_91 rfl dX10_thrown_1 ex2 ?_
  cases e
  exact j_iret C hq rfl dX10_thrown_4 ⟨Nat.le_of_ble_eq_true rfl, Nat.le_of_ble_eq_true rfl⟩ ⟨rfl, rfl⟩
/-! BorderBasisModel.in(III)Z -/
noncomputable def FX10_in (l0 : Int32) (l1 : Int32) (l2 : Int32) (h : jx_H) : Option (Int32) :=
if l0 < l1 then
 some (0 : Int32)
else
 if l2 < l0 then
  some (0 : Int32)
 else
  some (1 : Int32)
def rmX10_in : Room := { frames := 0, cells := 0, slots := 0, locals := 0 }
set_option maxRecDepth 20000 in
set_option maxHeartbeats 4000000 in
theorem sX10_in {l0 : Int32} {l1 : Int32} {l2 : Int32} {h : jx_H} {r : Int32}  (e : FX10_in l0 l1 l2 h = some r) : jx_Ct yX10_in cX10_in 3 (some .boolean) rmX10_in [.int l0, .int l1, .int l2] h (fun r' h' => some (.int r) = r' ∧ h = h') := by
  refine jx_Ct.of (own := RX10) (by decide) rfl (Nat.le_of_ble_eq_true rfl) (fun X C hq hr hL hN => ?_)
  refine jx_sub (lv' := [(0, .int l0), (1, .int l1), (2, .int l2)]) [0, 1, 2] rfl ?_
  unfold FX10_in at e
  refine j_iload_n C dX10_in_0 rfl rfl ?_
  refine j_iload_n C dX10_in_1 rfl rfl ?_
  refine j_icmp_lt (tgt := 14) C dX10_in_2 (by decide) (fun c4 => ?_) (fun c4 => ?_)
  · replace e := ifp c4 e
    refine j_iconst (v := (0 : Int32)) C dX10_in_14 (by decide) ?_
    cases e
    exact j_iret C hq rfl dX10_in_15 ⟨Nat.le_of_ble_eq_true rfl, Nat.le_of_ble_eq_true rfl⟩ ⟨rfl, rfl⟩
  · replace e := ifn c4 e
    refine j_iload_n C dX10_in_5 rfl rfl ?_
    refine j_iload_n C dX10_in_6 rfl rfl ?_
    refine j_icmp_gt (tgt := 14) C dX10_in_7 (by decide) (fun c3 => ?_) (fun c3 => ?_)
    · replace e := ifp c3 e
      refine j_iconst (v := (0 : Int32)) C dX10_in_14 (by decide) ?_
      cases e
      exact j_iret C hq rfl dX10_in_15 ⟨Nat.le_of_ble_eq_true rfl, Nat.le_of_ble_eq_true rfl⟩ ⟨rfl, rfl⟩
    · replace e := ifn c3 e
      refine j_iconst (v := (1 : Int32)) C dX10_in_10 (by decide) ?_
      refine j_goto (tgt := 15) C dX10_in_11 (by decide) ?_
      cases e
      exact j_iret C hq rfl dX10_in_15 ⟨Nat.le_of_ble_eq_true rfl, Nat.le_of_ble_eq_true rfl⟩ ⟨rfl, rfl⟩
/-! BorderBasisModel.copies([II[II)V -/
noncomputable def LX10_copies_3 (l0 : Nat) (l1 : Int32) (l2 : Nat) (l3 : Int32) (l4 : Int32) (h : jx_H) : Option ((Int32 × jx_H) ⊕ (jx_H)) :=
if (248 : Int32) ≤ l4 then
 exL (some h)
else
 (hal h .int l0 (l1 + l4)).bind fun x1 =>
 (has h .int l2 (l3 + l4) x1).bind fun h2 =>
 some (.inl ((l4 + (1 : Int32)), h2))
noncomputable def FX10_copies (l0 : Nat) (l1 : Int32) (l2 : Nat) (l3 : Int32) (h : jx_H) : Option (jx_H) :=
itr (fun s : Int32 × jx_H => LX10_copies_3 l0 l1 l2 l3 s.1 s.2) ((0 : Int32), h)
def rmX10_copies : Room := { frames := 0, cells := 0, slots := 0, locals := 0 }
set_option maxRecDepth 20000 in
set_option maxHeartbeats 4000000 in
theorem sX10_copies {l0 : Nat} {l1 : Int32} {l2 : Nat} {l3 : Int32} {h : jx_H} {h9 : jx_H} (e : FX10_copies l0 l1 l2 l3 h = some h9) : jx_Ct yX10_copies cX10_copies 5 none rmX10_copies [.ref l0, .int l1, .ref l2, .int l3] h (fun r' h' => none = r' ∧ h9 = h') := by
  refine jx_Ct.of (own := RX10) (by decide) rfl (Nat.le_of_ble_eq_true rfl) (fun X C hq hr hL hN => ?_)
  refine jx_sub (lv' := [(0, .ref l0), (1, .int l1), (2, .ref l2), (3, .int l3)]) [0, 1, 2, 3] rfl ?_
  unfold FX10_copies at e
  refine j_iconst (v := (0 : Int32)) C dX10_copies_0 (by decide) ?_
  refine j_istore (lv1 := [(4, .int (0 : Int32)), (0, .ref l0), (1, .int l1), (2, .ref l2), (3, .int l3)]) C hL dX10_copies_1 (Nat.le_of_ble_eq_true rfl) rfl ?_
  refine jx_sub (lv' := [(0, .ref l0), (1, .int l1), (2, .ref l2), (3, .int l3), (4, .int (0 : Int32))]) [1, 2, 3, 4, 0] rfl ?_
  refine itr_ind (s0 := ((0 : Int32), h)) (fun s : Int32 × jx_H => jx_J X 0 0 3 [(0, .ref l0), (1, .int l1), (2, .ref l2), (3, .int l3), (4, .int s.1)] [] s.2) e ?_
  clear e
  intro s kI2 kT2 e0
  obtain ⟨z4, h5⟩ := s
  obtain ⟨u2, e0_2⟩ := e0
  have e : LX10_copies_3 l0 l1 l2 l3 z4 h5 = some u2 := e0_2
  unfold LX10_copies_3 at e
  refine j_iload C dX10_copies_3 rfl ?_
  refine j_sipush (v := (248 : Int32)) C dX10_copies_5 (by decide) ?_
  refine j_icmp_ge (tgt := 29) C dX10_copies_8 (by decide) (fun c8 => ?_) (fun c8 => ?_)
  · replace e := ifp c8 e
    obtain ⟨t_3, e_3, eu_3⟩ := exL_spec e
    obtain rfl := kT2 t_3 (e0_2.trans (congrArg some eu_3))
    replace e := e_3
    cases e
    exact j_vret C hq dX10_copies_29 ⟨Nat.le_of_ble_eq_true rfl, Nat.le_of_ble_eq_true rfl⟩ ⟨rfl, rfl⟩
  · replace e := ifn c8 e
    refine j_aload_n C dX10_copies_11 rfl rfl ?_
    refine j_iload_n C dX10_copies_12 rfl rfl ?_
    refine j_iload C dX10_copies_13 rfl ?_
    refine j_iadd C dX10_copies_15 ?_
    refine j_aload_n C dX10_copies_16 rfl rfl ?_
    refine j_iload_n C dX10_copies_17 rfl rfl ?_
    refine j_iload C dX10_copies_18 rfl ?_
    refine j_iadd C dX10_copies_20 ?_
    replace e := ob e
    obtain ⟨x6, ex6, e⟩ := e
    refine j_iald C dX10_copies_21 ex6 ?_
    replace e := ob e
    obtain ⟨h7, eh7, e⟩ := e
    refine j_iast C dX10_copies_22 eh7 ?_
    refine j_iinc (v := (z4 + (1 : Int32))) (lv1 := [(4, .int (z4 + (1 : Int32))), (0, .ref l0), (1, .int l1), (2, .ref l2), (3, .int l3)]) C hL dX10_copies_23 rfl rfl (Nat.le_of_ble_eq_true rfl) rfl ?_
    refine j_goto (tgt := 3) C dX10_copies_26 (by decide) ?_
    obtain rfl := Option.some.inj e
    refine jx_sub (lv' := [(0, .ref l0), (1, .int l1), (2, .ref l2), (3, .int l3), (4, .int (z4 + (1 : Int32)))]) [1, 2, 3, 4, 0] rfl ?_
    exact kI2 ((z4 + (1 : Int32)), h7) e0_2
/-! BorderBasisModel.p()I -/
noncomputable def FX10_p (l0 : Nat) (h : jx_H) : Option (Int32) :=
(hgr h l0 10 1).bind fun x1 =>
(hal h .int x1 (0 : Int32)).bind fun x2 =>
some x2
def rmX10_p : Room := { frames := 0, cells := 0, slots := 0, locals := 0 }
set_option maxRecDepth 20000 in
set_option maxHeartbeats 4000000 in
theorem sX10_p {l0 : Nat} {h : jx_H} {r : Int32}  (e : FX10_p l0 h = some r) : jx_Ct yX10_p cX10_p 1 (some .int) rmX10_p [.ref l0] h (fun r' h' => some (.int r) = r' ∧ h = h') := by
  refine jx_Ct.of (own := RX10) (by decide) rfl (Nat.le_of_ble_eq_true rfl) (fun X C hq hr hL hN => ?_)
  refine jx_sub (lv' := [(0, .ref l0)]) [0] rfl ?_
  unfold FX10_p at e
  refine j_aload_n C dX10_p_0 rfl rfl ?_
  replace e := ob e
  obtain ⟨x3, ex3, e⟩ := e
  refine j_getr (ci := 10) (RC := RX10) (T := TX10) (N := 38) 1 C rfl klX10 (Nat.le_of_ble_eq_true rfl) kX10_7 rfl dX10_p_1 ex3 ?_
  refine j_iconst (v := (0 : Int32)) C dX10_p_4 (by decide) ?_
  replace e := ob e
  obtain ⟨x4, ex4, e⟩ := e
  refine j_iald C dX10_p_5 ex4 ?_
  cases e
  exact j_iret C hq rfl dX10_p_6 ⟨Nat.le_of_ble_eq_true rfl, Nat.le_of_ble_eq_true rfl⟩ ⟨rfl, rfl⟩
/-! BorderBasisModel.mod(I)I -/
noncomputable def FX10_mod (l0 : Nat) (l1 : Int32) (h : jx_H) : Option (Int32) :=
(isO h l0 10).bind fun _ =>
(FX10_p l0 h).bind fun x2 =>
if x2 = 0 then none else
if 0 ≤ (l1 - l1 / x2 * x2) then
 some (l1 - l1 / x2 * x2)
else
 (isO h l0 10).bind fun _ =>
 (FX10_p l0 h).bind fun x5 =>
 some ((l1 - l1 / x2 * x2) + x5)
def rmX10_mod : Room := { frames := 1, cells := 0, slots := 0, locals := 20 }
set_option maxRecDepth 20000 in
set_option maxHeartbeats 4000000 in
theorem sX10_mod {l0 : Nat} {l1 : Int32} {h : jx_H} {r : Int32}  (e : FX10_mod l0 l1 h = some r) : jx_Ct yX10_mod cX10_mod 3 (some .int) rmX10_mod [.ref l0, .int l1] h (fun r' h' => some (.int r) = r' ∧ h = h') := by
  refine jx_Ct.of (own := RX10) (by decide) rfl (Nat.le_of_ble_eq_true rfl) (fun X C hq hr hL hN => ?_)
  refine jx_sub (lv' := [(0, .ref l0), (1, .int l1)]) [0, 1] rfl ?_
  unfold FX10_mod at e
  refine j_iload_n C dX10_mod_0 rfl rfl ?_
  refine j_aload_n C dX10_mod_1 rfl rfl ?_
  replace e := ob e
  obtain ⟨_, eo7, e⟩ := e
  replace e := ob e
  obtain ⟨x8, ex8, e⟩ := e
  refine j_callV (ci := 10) (RC := RX10) (T := TX10) (N := 38) (As := []) (b := l0) (na := 0) (st := [.int l1]) (k1 := 0) (n1 := 0) C hr (sX10_p ex8) rfl eo7 kX10_97 kim_X10_p ksel_X10_p kini_X10 kc_X10_p (by decide) rfl ⟨(Nat.le_of_ble_eq_true rfl), (Nat.le_of_ble_eq_true rfl)⟩ (Nat.le_of_ble_eq_true rfl) ⟨rfl, rfl, (Nat.le_of_ble_eq_true rfl), (Nat.le_of_ble_eq_true rfl)⟩ dX10_mod_2 ?_
  rintro _ _ ⟨rfl, rfl⟩
  show jx_J X 0 0 5 [(0, .ref l0), (1, .int l1)] [.int x8, .int l1] h
  by_cases c9 : x8 = 0
  · exact nos (ifp c9 e)
  replace e := ifn c9 e
  refine j_irem C dX10_mod_5 c9 ?_
  refine j_istore_n (lv1 := [(2, .int (l1 - l1 / x8 * x8)), (0, .ref l0), (1, .int l1)]) C hL dX10_mod_6 rfl (Nat.le_of_ble_eq_true rfl) rfl ?_
  refine j_iload_n C dX10_mod_7 rfl rfl ?_
  refine j_if_ge (tgt := 20) C dX10_mod_8 (by decide) (fun c12 => ?_) (fun c12 => ?_)
  · replace e := ifp c12 e
    refine j_iload_n C dX10_mod_20 rfl rfl ?_
    cases e
    exact j_iret C hq rfl dX10_mod_21 ⟨Nat.le_of_ble_eq_true rfl, Nat.le_of_ble_eq_true rfl⟩ ⟨rfl, rfl⟩
  · replace e := ifn c12 e
    refine j_iload_n C dX10_mod_11 rfl rfl ?_
    refine j_aload_n C dX10_mod_12 rfl rfl ?_
    replace e := ob e
    obtain ⟨_, eo10, e⟩ := e
    replace e := ob e
    obtain ⟨x11, ex11, e⟩ := e
    refine j_callV (ci := 10) (RC := RX10) (T := TX10) (N := 38) (As := []) (b := l0) (na := 0) (st := [.int (l1 - l1 / x8 * x8)]) (k1 := 0) (n1 := 0) C hr (sX10_p ex11) rfl eo10 kX10_97 kim_X10_p ksel_X10_p kini_X10 kc_X10_p (by decide) rfl ⟨(Nat.le_of_ble_eq_true rfl), (Nat.le_of_ble_eq_true rfl)⟩ (Nat.le_of_ble_eq_true rfl) ⟨rfl, rfl, (Nat.le_of_ble_eq_true rfl), (Nat.le_of_ble_eq_true rfl)⟩ dX10_mod_13 ?_
    rintro _ _ ⟨rfl, rfl⟩
    show jx_J X 0 0 16 [(2, .int (l1 - l1 / x8 * x8)), (0, .ref l0), (1, .int l1)] [.int x11, .int (l1 - l1 / x8 * x8)] h
    refine j_iadd C dX10_mod_16 ?_
    refine j_goto (tgt := 21) C dX10_mod_17 (by decide) ?_
    cases e
    exact j_iret C hq rfl dX10_mod_21 ⟨Nat.le_of_ble_eq_true rfl, Nat.le_of_ble_eq_true rfl⟩ ⟨rfl, rfl⟩
/-! BorderBasisModel.inverse(I)I -/
noncomputable def LX10_inverse_4 (l0 : Nat) (l1 : Int32) (l2 : Int32) (l3 : Int32) (h : jx_H) : Option ((Int32 × Int32) ⊕ (Int32)) :=
(isO h l0 10).bind fun _ =>
(FX10_p l0 h).bind fun x2 =>
if (x2 - (2 : Int32)) ≤ l3 then
 exL (some l2)
else
 (isO h l0 10).bind fun _ =>
 (FX10_p l0 h).bind fun x4 =>
 if x4 = 0 then none else
 some (.inl (((l2 * l1) - (l2 * l1) / x4 * x4), (l3 + (1 : Int32))))
noncomputable def FX10_inverse (l0 : Nat) (l1 : Int32) (h : jx_H) : Option (Int32) :=
itr (fun s : Int32 × Int32 => LX10_inverse_4 l0 l1 s.1 s.2 h) ((1 : Int32), (0 : Int32))
def rmX10_inverse : Room := { frames := 1, cells := 0, slots := 0, locals := 20 }
set_option maxRecDepth 20000 in
set_option maxHeartbeats 4000000 in
theorem sX10_inverse {l0 : Nat} {l1 : Int32} {h : jx_H} {r : Int32}  (e : FX10_inverse l0 l1 h = some r) : jx_Ct yX10_inverse cX10_inverse 4 (some .int) rmX10_inverse [.ref l0, .int l1] h (fun r' h' => some (.int r) = r' ∧ h = h') := by
  refine jx_Ct.of (own := RX10) (by decide) rfl (Nat.le_of_ble_eq_true rfl) (fun X C hq hr hL hN => ?_)
  refine jx_sub (lv' := [(0, .ref l0), (1, .int l1)]) [0, 1] rfl ?_
  unfold FX10_inverse at e
  refine j_iconst (v := (1 : Int32)) C dX10_inverse_0 (by decide) ?_
  refine j_istore_n (lv1 := [(2, .int (1 : Int32)), (0, .ref l0), (1, .int l1)]) C hL dX10_inverse_1 rfl (Nat.le_of_ble_eq_true rfl) rfl ?_
  refine j_iconst (v := (0 : Int32)) C dX10_inverse_2 (by decide) ?_
  refine j_istore_n (lv1 := [(3, .int (0 : Int32)), (2, .int (1 : Int32)), (0, .ref l0), (1, .int l1)]) C hL dX10_inverse_3 rfl (Nat.le_of_ble_eq_true rfl) rfl ?_
  refine jx_sub (lv' := [(0, .ref l0), (1, .int l1), (2, .int (1 : Int32)), (3, .int (0 : Int32))]) [2, 3, 1, 0] rfl ?_
  refine itr_ind (s0 := ((1 : Int32), (0 : Int32))) (fun s : Int32 × Int32 => jx_J X 0 0 4 [(0, .ref l0), (1, .int l1), (2, .int s.1), (3, .int s.2)] [] h) e ?_
  clear e
  intro s kI2 kT2 e0
  obtain ⟨z7, z8⟩ := s
  obtain ⟨u2, e0_2⟩ := e0
  have e : LX10_inverse_4 l0 l1 z7 z8 h = some u2 := e0_2
  unfold LX10_inverse_4 at e
  refine j_iload_n C dX10_inverse_4 rfl rfl ?_
  refine j_aload_n C dX10_inverse_5 rfl rfl ?_
  replace e := ob e
  obtain ⟨_, eo9, e⟩ := e
  replace e := ob e
  obtain ⟨x10, ex10, e⟩ := e
  refine j_callV (ci := 10) (RC := RX10) (T := TX10) (N := 38) (As := []) (b := l0) (na := 0) (st := [.int z8]) (k1 := 0) (n1 := 0) C hr (sX10_p ex10) rfl eo9 kX10_97 kim_X10_p ksel_X10_p kini_X10 kc_X10_p (by decide) rfl ⟨(Nat.le_of_ble_eq_true rfl), (Nat.le_of_ble_eq_true rfl)⟩ (Nat.le_of_ble_eq_true rfl) ⟨rfl, rfl, (Nat.le_of_ble_eq_true rfl), (Nat.le_of_ble_eq_true rfl)⟩ dX10_inverse_6 ?_
  rintro _ _ ⟨rfl, rfl⟩
  show jx_J X 0 0 9 [(0, .ref l0), (1, .int l1), (2, .int z7), (3, .int z8)] [.int x10, .int z8] h
  refine j_iconst (v := (2 : Int32)) C dX10_inverse_9 (by decide) ?_
  refine j_isub C dX10_inverse_10 ?_
  refine j_icmp_ge (tgt := 29) C dX10_inverse_11 (by decide) (fun c14 => ?_) (fun c14 => ?_)
  · replace e := ifp c14 e
    obtain ⟨t_3, e_3, eu_3⟩ := exL_spec e
    obtain rfl := kT2 t_3 (e0_2.trans (congrArg some eu_3))
    replace e := e_3
    refine j_iload_n C dX10_inverse_29 rfl rfl ?_
    cases e
    exact j_iret C hq rfl dX10_inverse_30 ⟨Nat.le_of_ble_eq_true rfl, Nat.le_of_ble_eq_true rfl⟩ ⟨rfl, rfl⟩
  · replace e := ifn c14 e
    refine j_iload_n C dX10_inverse_14 rfl rfl ?_
    refine j_iload_n C dX10_inverse_15 rfl rfl ?_
    refine j_imul C dX10_inverse_16 ?_
    refine j_aload_n C dX10_inverse_17 rfl rfl ?_
    replace e := ob e
    obtain ⟨_, eo11, e⟩ := e
    replace e := ob e
    obtain ⟨x12, ex12, e⟩ := e
    refine j_callV (ci := 10) (RC := RX10) (T := TX10) (N := 38) (As := []) (b := l0) (na := 0) (st := [.int (z7 * l1)]) (k1 := 0) (n1 := 0) C hr (sX10_p ex12) rfl eo11 kX10_97 kim_X10_p ksel_X10_p kini_X10 kc_X10_p (by decide) rfl ⟨(Nat.le_of_ble_eq_true rfl), (Nat.le_of_ble_eq_true rfl)⟩ (Nat.le_of_ble_eq_true rfl) ⟨rfl, rfl, (Nat.le_of_ble_eq_true rfl), (Nat.le_of_ble_eq_true rfl)⟩ dX10_inverse_18 ?_
    rintro _ _ ⟨rfl, rfl⟩
    show jx_J X 0 0 21 [(0, .ref l0), (1, .int l1), (2, .int z7), (3, .int z8)] [.int x12, .int (z7 * l1)] h
    by_cases c13 : x12 = 0
    · exact nos (ifp c13 e)
    replace e := ifn c13 e
    refine j_irem C dX10_inverse_21 c13 ?_
    refine j_istore_n (lv1 := [(2, .int ((z7 * l1) - (z7 * l1) / x12 * x12)), (0, .ref l0), (1, .int l1), (3, .int z8)]) C hL dX10_inverse_22 rfl (Nat.le_of_ble_eq_true rfl) rfl ?_
    refine j_iinc (v := (z8 + (1 : Int32))) (lv1 := [(3, .int (z8 + (1 : Int32))), (2, .int ((z7 * l1) - (z7 * l1) / x12 * x12)), (0, .ref l0), (1, .int l1)]) C hL dX10_inverse_23 rfl rfl (Nat.le_of_ble_eq_true rfl) rfl ?_
    refine j_goto (tgt := 4) C dX10_inverse_26 (by decide) ?_
    obtain rfl := Option.some.inj e
    refine jx_sub (lv' := [(0, .ref l0), (1, .int l1), (2, .int ((z7 * l1) - (z7 * l1) / x12 * x12)), (3, .int (z8 + (1 : Int32)))]) [2, 3, 1, 0] rfl ?_
    exact kI2 (((z7 * l1) - (z7 * l1) / x12 * x12), (z8 + (1 : Int32))) e0_2
/-! BorderBasisModel.isPrime(I)Z -/
noncomputable def BX10_isPrime_32 (l1 : Int32) (l3 : Int32) (s0 : Int32) (h : jx_H) : Option ((Int32 × Int32) ⊕ (Int32)) :=
some (.inl (s0, (l3 + (1 : Int32))))
noncomputable def BX10_isPrime_31 (l1 : Int32) (l3 : Int32) (h : jx_H) : Option ((Int32 × Int32) ⊕ (Int32)) :=
BX10_isPrime_32 l1 l3 (0 : Int32) h
noncomputable def LX10_isPrime_11 (l1 : Int32) (l2 : Int32) (l3 : Int32) (h : jx_H) : Option ((Int32 × Int32) ⊕ (Int32)) :=
if (10 : Int32) ≤ l3 then
 exL (if l2 = 0 ∨ l2 = 1 then some l2 else none)
else
 if l2 = 0 then
  BX10_isPrime_31 l1 l3 h
 else
  if l3 = 0 then none else
  if (l1 - l1 / l3 * l3) = 0 then
   BX10_isPrime_31 l1 l3 h
  else
   BX10_isPrime_32 l1 l3 (1 : Int32) h
noncomputable def FX10_isPrime (l0 : Nat) (l1 : Int32) (h : jx_H) : Option (Int32) :=
(FX10_in l1 (13 : Int32) (97 : Int32) h).bind fun x1 =>
itr (fun s : Int32 × Int32 => LX10_isPrime_11 l1 s.1 s.2 h) (x1, (2 : Int32))
def rmX10_isPrime : Room := { frames := 1, cells := 0, slots := 0, locals := 22 }
set_option maxRecDepth 20000 in
set_option maxHeartbeats 4000000 in
theorem sX10_isPrime {l0 : Nat} {l1 : Int32} {h : jx_H} {r : Int32}  (e : FX10_isPrime l0 l1 h = some r) : jx_Ct yX10_isPrime cX10_isPrime 4 (some .boolean) rmX10_isPrime [.ref l0, .int l1] h (fun r' h' => some (.int r) = r' ∧ h = h') := by
  refine jx_Ct.of (own := RX10) (by decide) rfl (Nat.le_of_ble_eq_true rfl) (fun X C hq hr hL hN => ?_)
  refine jx_sub (lv' := [(0, .ref l0), (1, .int l1)]) [0, 1] rfl ?_
  unfold FX10_isPrime at e
  refine j_iload_n C dX10_isPrime_0 rfl rfl ?_
  refine j_bipush (v := (13 : Int32)) C dX10_isPrime_1 (by decide) ?_
  refine j_bipush (v := (97 : Int32)) C dX10_isPrime_3 (by decide) ?_
  replace e := ob e
  obtain ⟨x7, ex7, e⟩ := e
  refine j_callS (As := [.int l1, .int (13 : Int32), .int (97 : Int32)]) (na := 3) (st := []) (k1 := 0) (n1 := 0) C hr (sX10_in ex7) kX10_101 kst_X10_in kini_X10 kc_X10_in (by decide) rfl ⟨(Nat.le_of_ble_eq_true rfl), (Nat.le_of_ble_eq_true rfl)⟩ (Nat.le_of_ble_eq_true rfl) ⟨rfl, rfl, (Nat.le_of_ble_eq_true rfl), (Nat.le_of_ble_eq_true rfl)⟩ dX10_isPrime_5 ?_
  rintro _ _ ⟨rfl, rfl⟩
  show jx_J X 0 0 8 [(0, .ref l0), (1, .int l1)] [.int x7] h
  refine j_istore_n (lv1 := [(2, .int x7), (0, .ref l0), (1, .int l1)]) C hL dX10_isPrime_8 rfl (Nat.le_of_ble_eq_true rfl) rfl ?_
  refine j_iconst (v := (2 : Int32)) C dX10_isPrime_9 (by decide) ?_
  refine j_istore_n (lv1 := [(3, .int (2 : Int32)), (2, .int x7), (0, .ref l0), (1, .int l1)]) C hL dX10_isPrime_10 rfl (Nat.le_of_ble_eq_true rfl) rfl ?_
  refine jx_sub (lv' := [(1, .int l1), (2, .int x7), (3, .int (2 : Int32))]) [3, 1, 0] rfl ?_
  refine itr_ind (s0 := (x7, (2 : Int32))) (fun s : Int32 × Int32 => jx_J X 0 0 11 [(1, .int l1), (2, .int s.1), (3, .int s.2)] [] h) e ?_
  clear e
  intro s kI2 kT2 e0
  obtain ⟨z8, z9⟩ := s
  obtain ⟨u2, e0_2⟩ := e0
  have e : LX10_isPrime_11 l1 z8 z9 h = some u2 := e0_2
  have b32 : ∀ (y10 : Int32) (y11 : Int32), BX10_isPrime_32 l1 y10 y11 h = some u2 → jx_J X 0 0 32 [(1, .int l1), (3, .int y10)] [.int y11] h := by
    intro y10 y11 e
    unfold BX10_isPrime_32 at e
    refine j_istore_n (lv1 := [(2, .int y11), (1, .int l1), (3, .int y10)]) C hL dX10_isPrime_32 rfl (Nat.le_of_ble_eq_true rfl) rfl ?_
    refine j_iinc (v := (y10 + (1 : Int32))) (lv1 := [(3, .int (y10 + (1 : Int32))), (2, .int y11), (1, .int l1)]) C hL dX10_isPrime_33 rfl rfl (Nat.le_of_ble_eq_true rfl) rfl ?_
    refine j_goto (tgt := 11) C dX10_isPrime_36 (by decide) ?_
    obtain rfl := Option.some.inj e
    refine jx_sub (lv' := [(1, .int l1), (2, .int y11), (3, .int (y10 + (1 : Int32)))]) [2, 1, 0] rfl ?_
    exact kI2 (y11, (y10 + (1 : Int32))) e0_2
  have b31 : ∀ (y12 : Int32), BX10_isPrime_31 l1 y12 h = some u2 → jx_J X 0 0 31 [(1, .int l1), (3, .int y12)] [] h := by
    intro y12 e
    unfold BX10_isPrime_31 at e
    refine j_iconst (v := (0 : Int32)) C dX10_isPrime_31 (by decide) ?_
    exact b32 y12 (0 : Int32) e
  unfold LX10_isPrime_11 at e
  refine j_iload_n C dX10_isPrime_11 rfl rfl ?_
  refine j_bipush (v := (10 : Int32)) C dX10_isPrime_12 (by decide) ?_
  refine j_icmp_ge (tgt := 39) C dX10_isPrime_14 (by decide) (fun c17 => ?_) (fun c17 => ?_)
  · replace e := ifp c17 e
    obtain ⟨t_3, e_3, eu_3⟩ := exL_spec e
    obtain rfl := kT2 t_3 (e0_2.trans (congrArg some eu_3))
    replace e := e_3
    refine j_iload_n C dX10_isPrime_39 rfl rfl ?_
    by_cases c13 : ¬ (z8 = 0 ∨ z8 = 1)
    · exact nos (ifn c13 e)
    replace c13 := Classical.not_not.mp c13
    replace e := ifp c13 e
    cases e
    exact j_iret C hq (jx_bool c13) dX10_isPrime_40 ⟨Nat.le_of_ble_eq_true rfl, Nat.le_of_ble_eq_true rfl⟩ ⟨rfl, rfl⟩
  · replace e := ifn c17 e
    refine j_iload_n C dX10_isPrime_17 rfl rfl ?_
    refine j_if_eq (tgt := 31) C dX10_isPrime_18 (by decide) (fun c16 => ?_) (fun c16 => ?_)
    · replace e := ifp c16 e
      refine jx_sub (lv' := [(1, .int l1), (3, .int z9)]) [0, 2] rfl ?_
      exact b31 z9 e
    · replace e := ifn c16 e
      refine j_iload_n C dX10_isPrime_21 rfl rfl ?_
      refine j_iload_n C dX10_isPrime_22 rfl rfl ?_
      by_cases c14 : z9 = 0
      · exact nos (ifp c14 e)
      replace e := ifn c14 e
      refine j_irem C dX10_isPrime_23 c14 ?_
      refine j_if_eq (tgt := 31) C dX10_isPrime_24 (by decide) (fun c15 => ?_) (fun c15 => ?_)
      · replace e := ifp c15 e
        refine jx_sub (lv' := [(1, .int l1), (3, .int z9)]) [0, 2] rfl ?_
        exact b31 z9 e
      · replace e := ifn c15 e
        refine j_iconst (v := (1 : Int32)) C dX10_isPrime_27 (by decide) ?_
        refine j_goto (tgt := 32) C dX10_isPrime_28 (by decide) ?_
        refine jx_sub (lv' := [(1, .int l1), (3, .int z9)]) [0, 2] rfl ?_
        exact b32 z9 (1 : Int32) e
/-! BorderBasisModel.hasDivisors(II)Z -/
noncomputable def BX10_hasDivisors_15 (l0 : Nat) (l1 : Int32) (l2 : Int32) (h : jx_H) : Option (Int32) :=
if l2 = 0 then
 some (1 : Int32)
else
 (isO h l0 10).bind fun _ =>
 (FX10_hasIt l0 l1 (l2 - (1 : Int32)) h).bind fun x2 =>
 if x2 = 0 then
  some (0 : Int32)
 else
  some (1 : Int32)
noncomputable def FX10_hasDivisors (l0 : Nat) (l1 : Int32) (l2 : Int32) (h : jx_H) : Option (Int32) :=
if l1 = 0 then
 BX10_hasDivisors_15 l0 l1 l2 h
else
 (isO h l0 10).bind fun _ =>
 (FX10_hasIt l0 (l1 - (1 : Int32)) l2 h).bind fun x6 =>
 if x6 = 0 then
  some (0 : Int32)
 else
  BX10_hasDivisors_15 l0 l1 l2 h
def rmX10_hasDivisors : Room := { frames := 3, cells := 0, slots := 0, locals := 65 }
set_option maxRecDepth 20000 in
set_option maxHeartbeats 4000000 in
theorem sX10_hasDivisors {l0 : Nat} {l1 : Int32} {l2 : Int32} {h : jx_H} {r : Int32}  (e : FX10_hasDivisors l0 l1 l2 h = some r) : jx_Ct yX10_hasDivisors cX10_hasDivisors 3 (some .boolean) rmX10_hasDivisors [.ref l0, .int l1, .int l2] h (fun r' h' => some (.int r) = r' ∧ h = h') := by
  refine jx_Ct.of (own := RX10) (by decide) rfl (Nat.le_of_ble_eq_true rfl) (fun X C hq hr hL hN => ?_)
  refine jx_sub (lv' := [(0, .ref l0), (1, .int l1), (2, .int l2)]) [0, 1, 2] rfl ?_
  have b15 : ∀ (y9 : Nat) (y10 : Int32) (y11 : Int32), BX10_hasDivisors_15 y9 y10 y11 h = some r → jx_J X 0 0 15 [(0, .ref y9), (1, .int y10), (2, .int y11)] [] h := by
    intro y9 y10 y11 e
    unfold BX10_hasDivisors_15 at e
    refine j_iload_n C dX10_hasDivisors_15 rfl rfl ?_
    refine j_if_eq (tgt := 30) C dX10_hasDivisors_16 (by decide) (fun c15 => ?_) (fun c15 => ?_)
    · replace e := ifp c15 e
      refine j_iconst (v := (1 : Int32)) C dX10_hasDivisors_30 (by decide) ?_
      refine j_goto (tgt := 35) C dX10_hasDivisors_31 (by decide) ?_
      cases e
      exact j_iret C hq rfl dX10_hasDivisors_35 ⟨Nat.le_of_ble_eq_true rfl, Nat.le_of_ble_eq_true rfl⟩ ⟨rfl, rfl⟩
    · replace e := ifn c15 e
      refine j_aload_n C dX10_hasDivisors_19 rfl rfl ?_
      refine j_iload_n C dX10_hasDivisors_20 rfl rfl ?_
      refine j_iload_n C dX10_hasDivisors_21 rfl rfl ?_
      refine j_iconst (v := (1 : Int32)) C dX10_hasDivisors_22 (by decide) ?_
      refine j_isub C dX10_hasDivisors_23 ?_
      replace e := ob e
      obtain ⟨_, eo12, e⟩ := e
      replace e := ob e
      obtain ⟨x13, ex13, e⟩ := e
      refine j_callV (ci := 10) (RC := RX10) (T := TX10) (N := 38) (As := [.int y10, .int (y11 - (1 : Int32))]) (b := y9) (na := 2) (st := []) (k1 := 0) (n1 := 0) C hr (sX10_hasIt ex13) rfl eo12 kX10_112 kim_X10_hasIt ksel_X10_hasIt kini_X10 kc_X10_hasIt (by decide) rfl ⟨(Nat.le_of_ble_eq_true rfl), (Nat.le_of_ble_eq_true rfl)⟩ (Nat.le_of_ble_eq_true rfl) ⟨rfl, rfl, (Nat.le_of_ble_eq_true rfl), (Nat.le_of_ble_eq_true rfl)⟩ dX10_hasDivisors_24 ?_
      rintro _ _ ⟨rfl, rfl⟩
      show jx_J X 0 0 27 [(0, .ref y9), (1, .int y10), (2, .int y11)] [.int x13] h
      refine j_if_eq (tgt := 34) C dX10_hasDivisors_27 (by decide) (fun c14 => ?_) (fun c14 => ?_)
      · replace e := ifp c14 e
        refine j_iconst (v := (0 : Int32)) C dX10_hasDivisors_34 (by decide) ?_
        cases e
        exact j_iret C hq rfl dX10_hasDivisors_35 ⟨Nat.le_of_ble_eq_true rfl, Nat.le_of_ble_eq_true rfl⟩ ⟨rfl, rfl⟩
      · replace e := ifn c14 e
        refine j_iconst (v := (1 : Int32)) C dX10_hasDivisors_30 (by decide) ?_
        refine j_goto (tgt := 35) C dX10_hasDivisors_31 (by decide) ?_
        cases e
        exact j_iret C hq rfl dX10_hasDivisors_35 ⟨Nat.le_of_ble_eq_true rfl, Nat.le_of_ble_eq_true rfl⟩ ⟨rfl, rfl⟩
  unfold FX10_hasDivisors at e
  refine j_iload_n C dX10_hasDivisors_0 rfl rfl ?_
  refine j_if_eq (tgt := 15) C dX10_hasDivisors_1 (by decide) (fun c19 => ?_) (fun c19 => ?_)
  · replace e := ifp c19 e
    exact b15 l0 l1 l2 e
  · replace e := ifn c19 e
    refine j_aload_n C dX10_hasDivisors_4 rfl rfl ?_
    refine j_iload_n C dX10_hasDivisors_5 rfl rfl ?_
    refine j_iconst (v := (1 : Int32)) C dX10_hasDivisors_6 (by decide) ?_
    refine j_isub C dX10_hasDivisors_7 ?_
    refine j_iload_n C dX10_hasDivisors_8 rfl rfl ?_
    replace e := ob e
    obtain ⟨_, eo16, e⟩ := e
    replace e := ob e
    obtain ⟨x17, ex17, e⟩ := e
    refine j_callV (ci := 10) (RC := RX10) (T := TX10) (N := 38) (As := [.int (l1 - (1 : Int32)), .int l2]) (b := l0) (na := 2) (st := []) (k1 := 0) (n1 := 0) C hr (sX10_hasIt ex17) rfl eo16 kX10_112 kim_X10_hasIt ksel_X10_hasIt kini_X10 kc_X10_hasIt (by decide) rfl ⟨(Nat.le_of_ble_eq_true rfl), (Nat.le_of_ble_eq_true rfl)⟩ (Nat.le_of_ble_eq_true rfl) ⟨rfl, rfl, (Nat.le_of_ble_eq_true rfl), (Nat.le_of_ble_eq_true rfl)⟩ dX10_hasDivisors_9 ?_
    rintro _ _ ⟨rfl, rfl⟩
    show jx_J X 0 0 12 [(0, .ref l0), (1, .int l1), (2, .int l2)] [.int x17] h
    refine j_if_eq (tgt := 34) C dX10_hasDivisors_12 (by decide) (fun c18 => ?_) (fun c18 => ?_)
    · replace e := ifp c18 e
      refine j_iconst (v := (0 : Int32)) C dX10_hasDivisors_34 (by decide) ?_
      cases e
      exact j_iret C hq rfl dX10_hasDivisors_35 ⟨Nat.le_of_ble_eq_true rfl, Nat.le_of_ble_eq_true rfl⟩ ⟨rfl, rfl⟩
    · replace e := ifn c18 e
      exact b15 l0 l1 l2 e
/-! BorderBasisModel.canJoin(II)Z -/
noncomputable def FX10_canJoin (l0 : Nat) (l1 : Int32) (l2 : Int32) (h : jx_H) : Option (Int32) :=
(isO h l0 10).bind fun _ =>
(FX10_hasIt l0 l1 l2 h).bind fun x2 =>
if x2 = 0 then
 (isO h l0 10).bind fun _ =>
 (FX10_hasDivisors l0 l1 l2 h).bind fun x4 =>
 if x4 = 0 then
  some (0 : Int32)
 else
  some (1 : Int32)
else
 some (0 : Int32)
def rmX10_canJoin : Room := { frames := 4, cells := 0, slots := 0, locals := 87 }
set_option maxRecDepth 20000 in
set_option maxHeartbeats 4000000 in
theorem sX10_canJoin {l0 : Nat} {l1 : Int32} {l2 : Int32} {h : jx_H} {r : Int32}  (e : FX10_canJoin l0 l1 l2 h = some r) : jx_Ct yX10_canJoin cX10_canJoin 3 (some .boolean) rmX10_canJoin [.ref l0, .int l1, .int l2] h (fun r' h' => some (.int r) = r' ∧ h = h') := by
  refine jx_Ct.of (own := RX10) (by decide) rfl (Nat.le_of_ble_eq_true rfl) (fun X C hq hr hL hN => ?_)
  refine jx_sub (lv' := [(0, .ref l0), (1, .int l1), (2, .int l2)]) [0, 1, 2] rfl ?_
  unfold FX10_canJoin at e
  refine j_aload_n C dX10_canJoin_0 rfl rfl ?_
  refine j_iload_n C dX10_canJoin_1 rfl rfl ?_
  refine j_iload_n C dX10_canJoin_2 rfl rfl ?_
  replace e := ob e
  obtain ⟨_, eo7, e⟩ := e
  replace e := ob e
  obtain ⟨x8, ex8, e⟩ := e
  refine j_callV (ci := 10) (RC := RX10) (T := TX10) (N := 38) (As := [.int l1, .int l2]) (b := l0) (na := 2) (st := []) (k1 := 0) (n1 := 0) C hr (sX10_hasIt ex8) rfl eo7 kX10_112 kim_X10_hasIt ksel_X10_hasIt kini_X10 kc_X10_hasIt (by decide) rfl ⟨(Nat.le_of_ble_eq_true rfl), (Nat.le_of_ble_eq_true rfl)⟩ (Nat.le_of_ble_eq_true rfl) ⟨rfl, rfl, (Nat.le_of_ble_eq_true rfl), (Nat.le_of_ble_eq_true rfl)⟩ dX10_canJoin_3 ?_
  rintro _ _ ⟨rfl, rfl⟩
  show jx_J X 0 0 6 [(0, .ref l0), (1, .int l1), (2, .int l2)] [.int x8] h
  refine j_if_ne (tgt := 22) C dX10_canJoin_6 (by decide) (fun c12 => ?_) (fun c12 => ?_)
  · replace e := ifn c12 e
    refine j_iconst (v := (0 : Int32)) C dX10_canJoin_22 (by decide) ?_
    cases e
    exact j_iret C hq rfl dX10_canJoin_23 ⟨Nat.le_of_ble_eq_true rfl, Nat.le_of_ble_eq_true rfl⟩ ⟨rfl, rfl⟩
  · replace e := ifp c12 e
    refine j_aload_n C dX10_canJoin_9 rfl rfl ?_
    refine j_iload_n C dX10_canJoin_10 rfl rfl ?_
    refine j_iload_n C dX10_canJoin_11 rfl rfl ?_
    replace e := ob e
    obtain ⟨_, eo9, e⟩ := e
    replace e := ob e
    obtain ⟨x10, ex10, e⟩ := e
    refine j_callV (ci := 10) (RC := RX10) (T := TX10) (N := 38) (As := [.int l1, .int l2]) (b := l0) (na := 2) (st := []) (k1 := 0) (n1 := 0) C hr (sX10_hasDivisors ex10) rfl eo9 kX10_116 kim_X10_hasDivisors ksel_X10_hasDivisors kini_X10 kc_X10_hasDivisors (by decide) rfl ⟨(Nat.le_of_ble_eq_true rfl), (Nat.le_of_ble_eq_true rfl)⟩ (Nat.le_of_ble_eq_true rfl) ⟨rfl, rfl, (Nat.le_of_ble_eq_true rfl), (Nat.le_of_ble_eq_true rfl)⟩ dX10_canJoin_12 ?_
    rintro _ _ ⟨rfl, rfl⟩
    show jx_J X 0 0 15 [(0, .ref l0), (1, .int l1), (2, .int l2)] [.int x10] h
    refine j_if_eq (tgt := 22) C dX10_canJoin_15 (by decide) (fun c11 => ?_) (fun c11 => ?_)
    · replace e := ifp c11 e
      refine j_iconst (v := (0 : Int32)) C dX10_canJoin_22 (by decide) ?_
      cases e
      exact j_iret C hq rfl dX10_canJoin_23 ⟨Nat.le_of_ble_eq_true rfl, Nat.le_of_ble_eq_true rfl⟩ ⟨rfl, rfl⟩
    · replace e := ifn c11 e
      refine j_iconst (v := (1 : Int32)) C dX10_canJoin_18 (by decide) ?_
      refine j_goto (tgt := 23) C dX10_canJoin_19 (by decide) ?_
      cases e
      exact j_iret C hq rfl dX10_canJoin_23 ⟨Nat.le_of_ble_eq_true rfl, Nat.le_of_ble_eq_true rfl⟩ ⟨rfl, rfl⟩
/-! BorderBasisModel.canLeave(II)Z -/
noncomputable def FX10_canLeave (l0 : Nat) (l1 : Int32) (l2 : Int32) (h : jx_H) : Option (Int32) :=
(isO h l0 10).bind fun _ =>
(FX10_hasIt l0 l1 l2 h).bind fun x2 =>
if x2 = 0 then
 some (0 : Int32)
else
 if (l1 + l2) ≤ 0 then
  some (0 : Int32)
 else
  (isO h l0 10).bind fun _ =>
  (FX10_hasIt l0 (l1 + (1 : Int32)) l2 h).bind fun x4 =>
  if x4 = 0 then
   (isO h l0 10).bind fun _ =>
   (FX10_hasIt l0 l1 (l2 + (1 : Int32)) h).bind fun x6 =>
   if x6 = 0 then
    some (1 : Int32)
   else
    some (0 : Int32)
  else
   some (0 : Int32)
def rmX10_canLeave : Room := { frames := 3, cells := 0, slots := 0, locals := 65 }
set_option maxRecDepth 20000 in
set_option maxHeartbeats 4000000 in
theorem sX10_canLeave {l0 : Nat} {l1 : Int32} {l2 : Int32} {h : jx_H} {r : Int32}  (e : FX10_canLeave l0 l1 l2 h = some r) : jx_Ct yX10_canLeave cX10_canLeave 3 (some .boolean) rmX10_canLeave [.ref l0, .int l1, .int l2] h (fun r' h' => some (.int r) = r' ∧ h = h') := by
  refine jx_Ct.of (own := RX10) (by decide) rfl (Nat.le_of_ble_eq_true rfl) (fun X C hq hr hL hN => ?_)
  refine jx_sub (lv' := [(0, .ref l0), (1, .int l1), (2, .int l2)]) [0, 1, 2] rfl ?_
  unfold FX10_canLeave at e
  refine j_aload_n C dX10_canLeave_0 rfl rfl ?_
  refine j_iload_n C dX10_canLeave_1 rfl rfl ?_
  refine j_iload_n C dX10_canLeave_2 rfl rfl ?_
  replace e := ob e
  obtain ⟨_, eo11, e⟩ := e
  replace e := ob e
  obtain ⟨x12, ex12, e⟩ := e
  refine j_callV (ci := 10) (RC := RX10) (T := TX10) (N := 38) (As := [.int l1, .int l2]) (b := l0) (na := 2) (st := []) (k1 := 0) (n1 := 0) C hr (sX10_hasIt ex12) rfl eo11 kX10_112 kim_X10_hasIt ksel_X10_hasIt kini_X10 kc_X10_hasIt (by decide) rfl ⟨(Nat.le_of_ble_eq_true rfl), (Nat.le_of_ble_eq_true rfl)⟩ (Nat.le_of_ble_eq_true rfl) ⟨rfl, rfl, (Nat.le_of_ble_eq_true rfl), (Nat.le_of_ble_eq_true rfl)⟩ dX10_canLeave_3 ?_
  rintro _ _ ⟨rfl, rfl⟩
  show jx_J X 0 0 6 [(0, .ref l0), (1, .int l1), (2, .int l2)] [.int x12] h
  refine j_if_eq (tgt := 41) C dX10_canLeave_6 (by decide) (fun c20 => ?_) (fun c20 => ?_)
  · replace e := ifp c20 e
    refine j_iconst (v := (0 : Int32)) C dX10_canLeave_41 (by decide) ?_
    cases e
    exact j_iret C hq rfl dX10_canLeave_42 ⟨Nat.le_of_ble_eq_true rfl, Nat.le_of_ble_eq_true rfl⟩ ⟨rfl, rfl⟩
  · replace e := ifn c20 e
    refine j_iload_n C dX10_canLeave_9 rfl rfl ?_
    refine j_iload_n C dX10_canLeave_10 rfl rfl ?_
    refine j_iadd C dX10_canLeave_11 ?_
    refine j_if_le (tgt := 41) C dX10_canLeave_12 (by decide) (fun c19 => ?_) (fun c19 => ?_)
    · replace e := ifp c19 e
      refine j_iconst (v := (0 : Int32)) C dX10_canLeave_41 (by decide) ?_
      cases e
      exact j_iret C hq rfl dX10_canLeave_42 ⟨Nat.le_of_ble_eq_true rfl, Nat.le_of_ble_eq_true rfl⟩ ⟨rfl, rfl⟩
    · replace e := ifn c19 e
      refine j_aload_n C dX10_canLeave_15 rfl rfl ?_
      refine j_iload_n C dX10_canLeave_16 rfl rfl ?_
      refine j_iconst (v := (1 : Int32)) C dX10_canLeave_17 (by decide) ?_
      refine j_iadd C dX10_canLeave_18 ?_
      refine j_iload_n C dX10_canLeave_19 rfl rfl ?_
      replace e := ob e
      obtain ⟨_, eo13, e⟩ := e
      replace e := ob e
      obtain ⟨x14, ex14, e⟩ := e
      refine j_callV (ci := 10) (RC := RX10) (T := TX10) (N := 38) (As := [.int (l1 + (1 : Int32)), .int l2]) (b := l0) (na := 2) (st := []) (k1 := 0) (n1 := 0) C hr (sX10_hasIt ex14) rfl eo13 kX10_112 kim_X10_hasIt ksel_X10_hasIt kini_X10 kc_X10_hasIt (by decide) rfl ⟨(Nat.le_of_ble_eq_true rfl), (Nat.le_of_ble_eq_true rfl)⟩ (Nat.le_of_ble_eq_true rfl) ⟨rfl, rfl, (Nat.le_of_ble_eq_true rfl), (Nat.le_of_ble_eq_true rfl)⟩ dX10_canLeave_20 ?_
      rintro _ _ ⟨rfl, rfl⟩
      show jx_J X 0 0 23 [(0, .ref l0), (1, .int l1), (2, .int l2)] [.int x14] h
      refine j_if_ne (tgt := 41) C dX10_canLeave_23 (by decide) (fun c18 => ?_) (fun c18 => ?_)
      · replace e := ifn c18 e
        refine j_iconst (v := (0 : Int32)) C dX10_canLeave_41 (by decide) ?_
        cases e
        exact j_iret C hq rfl dX10_canLeave_42 ⟨Nat.le_of_ble_eq_true rfl, Nat.le_of_ble_eq_true rfl⟩ ⟨rfl, rfl⟩
      · replace e := ifp c18 e
        refine j_aload_n C dX10_canLeave_26 rfl rfl ?_
        refine j_iload_n C dX10_canLeave_27 rfl rfl ?_
        refine j_iload_n C dX10_canLeave_28 rfl rfl ?_
        refine j_iconst (v := (1 : Int32)) C dX10_canLeave_29 (by decide) ?_
        refine j_iadd C dX10_canLeave_30 ?_
        replace e := ob e
        obtain ⟨_, eo15, e⟩ := e
        replace e := ob e
        obtain ⟨x16, ex16, e⟩ := e
        refine j_callV (ci := 10) (RC := RX10) (T := TX10) (N := 38) (As := [.int l1, .int (l2 + (1 : Int32))]) (b := l0) (na := 2) (st := []) (k1 := 0) (n1 := 0) C hr (sX10_hasIt ex16) rfl eo15 kX10_112 kim_X10_hasIt ksel_X10_hasIt kini_X10 kc_X10_hasIt (by decide) rfl ⟨(Nat.le_of_ble_eq_true rfl), (Nat.le_of_ble_eq_true rfl)⟩ (Nat.le_of_ble_eq_true rfl) ⟨rfl, rfl, (Nat.le_of_ble_eq_true rfl), (Nat.le_of_ble_eq_true rfl)⟩ dX10_canLeave_31 ?_
        rintro _ _ ⟨rfl, rfl⟩
        show jx_J X 0 0 34 [(0, .ref l0), (1, .int l1), (2, .int l2)] [.int x16] h
        refine j_if_ne (tgt := 41) C dX10_canLeave_34 (by decide) (fun c17 => ?_) (fun c17 => ?_)
        · replace e := ifn c17 e
          refine j_iconst (v := (0 : Int32)) C dX10_canLeave_41 (by decide) ?_
          cases e
          exact j_iret C hq rfl dX10_canLeave_42 ⟨Nat.le_of_ble_eq_true rfl, Nat.le_of_ble_eq_true rfl⟩ ⟨rfl, rfl⟩
        · replace e := ifp c17 e
          refine j_iconst (v := (1 : Int32)) C dX10_canLeave_37 (by decide) ?_
          refine j_goto (tgt := 42) C dX10_canLeave_38 (by decide) ?_
          cases e
          exact j_iret C hq rfl dX10_canLeave_42 ⟨Nat.le_of_ble_eq_true rfl, Nat.le_of_ble_eq_true rfl⟩ ⟨rfl, rfl⟩
/-! BorderBasisModel.placed(II)I -/
noncomputable def BX10_placed_82 (l0 : Nat) (l1 : Int32) (l2 : Int32) (l3 : Int32) (h : jx_H) : Option (Int32 × jx_H) :=
(hgr h l0 10 1).bind fun x1 =>
(has h .int x1 ((4 : Int32) + l3) l1).bind fun h2 =>
(hgr h2 l0 10 1).bind fun x3 =>
(has h2 .int x3 ((16 : Int32) + l3) l2).bind fun h4 =>
(hgr h4 l0 10 1).bind fun x5 =>
(hal h4 .int x5 (1 : Int32)).bind fun x6 =>
(has h4 .int x5 (1 : Int32) (x6 + (1 : Int32))).bind fun h7 =>
some (l3, h7)
noncomputable def LX10_placed_5 (l0 : Nat) (l1 : Int32) (l2 : Int32) (l3 : Int32) (h : jx_H) : Option ((Int32 × jx_H) ⊕ (Int32 × jx_H)) :=
if l3 ≤ 0 then
 exL (BX10_placed_82 l0 l1 l2 l3 h)
else
 (hgr h l0 10 1).bind fun x10 =>
 (hal h .int x10 (((4 : Int32) + l3) - (1 : Int32))).bind fun x11 =>
 (hgr h l0 10 1).bind fun x12 =>
 (hal h .int x12 (((16 : Int32) + l3) - (1 : Int32))).bind fun x13 =>
 (FX10_isAhead l1 l2 x11 x13 h).bind fun x14 =>
 if x14 = 0 then
  exL (BX10_placed_82 l0 l1 l2 l3 h)
 else
  (hgr h l0 10 1).bind fun x15 =>
  (hgr h l0 10 1).bind fun x16 =>
  (hal h .int x16 (((4 : Int32) + l3) - (1 : Int32))).bind fun x17 =>
  (has h .int x15 ((4 : Int32) + l3) x17).bind fun h18 =>
  (hgr h18 l0 10 1).bind fun x19 =>
  (hgr h18 l0 10 1).bind fun x20 =>
  (hal h18 .int x20 (((16 : Int32) + l3) - (1 : Int32))).bind fun x21 =>
  (has h18 .int x19 ((16 : Int32) + l3) x21).bind fun h22 =>
  some (.inl ((l3 + (-1 : Int32)), h22))
noncomputable def FX10_placed (l0 : Nat) (l1 : Int32) (l2 : Int32) (h : jx_H) : Option (Int32 × jx_H) :=
(isO h l0 10).bind fun _ =>
(FX10_n l0 h).bind fun x9 =>
itr (fun s : Int32 × jx_H => LX10_placed_5 l0 l1 l2 s.1 s.2) (x9, h)
def rmX10_placed : Room := { frames := 1, cells := 0, slots := 0, locals := 23 }
set_option maxRecDepth 20000 in
set_option maxHeartbeats 4000000 in
theorem sX10_placed {l0 : Nat} {l1 : Int32} {l2 : Int32} {h : jx_H} {r : Int32} {h9 : jx_H} (e : FX10_placed l0 l1 l2 h = some (r, h9)) : jx_Ct yX10_placed cX10_placed 4 (some .int) rmX10_placed [.ref l0, .int l1, .int l2] h (fun r' h' => some (.int r) = r' ∧ h9 = h') := by
  refine jx_Ct.of (own := RX10) (by decide) rfl (Nat.le_of_ble_eq_true rfl) (fun X C hq hr hL hN => ?_)
  refine jx_sub (lv' := [(0, .ref l0), (1, .int l1), (2, .int l2)]) [0, 1, 2] rfl ?_
  have b82 : ∀ (y25 : Nat) (y26 : Int32) (y27 : Int32) (y28 : Int32) (h29 : jx_H), BX10_placed_82 y25 y26 y27 y28 h29 = some (r, h9) → jx_J X 0 0 82 [(0, .ref y25), (1, .int y26), (2, .int y27), (3, .int y28)] [] h29 := by
    intro y25 y26 y27 y28 h29 e
    unfold BX10_placed_82 at e
    refine j_aload_n C dX10_placed_82 rfl rfl ?_
    replace e := ob e
    obtain ⟨x30, ex30, e⟩ := e
    refine j_getr (ci := 10) (RC := RX10) (T := TX10) (N := 38) 1 C rfl klX10 (Nat.le_of_ble_eq_true rfl) kX10_7 rfl dX10_placed_83 ex30 ?_
    refine j_iconst (v := (4 : Int32)) C dX10_placed_86 (by decide) ?_
    refine j_iload_n C dX10_placed_87 rfl rfl ?_
    refine j_iadd C dX10_placed_88 ?_
    refine j_iload_n C dX10_placed_89 rfl rfl ?_
    replace e := ob e
    obtain ⟨h31, eh31, e⟩ := e
    refine j_iast C dX10_placed_90 eh31 ?_
    refine j_aload_n C dX10_placed_91 rfl rfl ?_
    replace e := ob e
    obtain ⟨x32, ex32, e⟩ := e
    refine j_getr (ci := 10) (RC := RX10) (T := TX10) (N := 38) 1 C rfl klX10 (Nat.le_of_ble_eq_true rfl) kX10_7 rfl dX10_placed_92 ex32 ?_
    refine j_bipush (v := (16 : Int32)) C dX10_placed_95 (by decide) ?_
    refine j_iload_n C dX10_placed_97 rfl rfl ?_
    refine j_iadd C dX10_placed_98 ?_
    refine j_iload_n C dX10_placed_99 rfl rfl ?_
    replace e := ob e
    obtain ⟨h33, eh33, e⟩ := e
    refine j_iast C dX10_placed_100 eh33 ?_
    refine j_aload_n C dX10_placed_101 rfl rfl ?_
    replace e := ob e
    obtain ⟨x34, ex34, e⟩ := e
    refine j_getr (ci := 10) (RC := RX10) (T := TX10) (N := 38) 1 C rfl klX10 (Nat.le_of_ble_eq_true rfl) kX10_7 rfl dX10_placed_102 ex34 ?_
    refine j_iconst (v := (1 : Int32)) C dX10_placed_105 (by decide) ?_
    refine j_dup2 C dX10_placed_106 rfl rfl ?_
    replace e := ob e
    obtain ⟨x35, ex35, e⟩ := e
    refine j_iald C dX10_placed_107 ex35 ?_
    refine j_iconst (v := (1 : Int32)) C dX10_placed_108 (by decide) ?_
    refine j_iadd C dX10_placed_109 ?_
    replace e := ob e
    obtain ⟨h36, eh36, e⟩ := e
    refine j_iast C dX10_placed_110 eh36 ?_
    refine j_iload_n C dX10_placed_111 rfl rfl ?_
    cases e
    exact j_iret C hq rfl dX10_placed_112 ⟨Nat.le_of_ble_eq_true rfl, Nat.le_of_ble_eq_true rfl⟩ ⟨rfl, rfl⟩
  unfold FX10_placed at e
  refine j_aload_n C dX10_placed_0 rfl rfl ?_
  replace e := ob e
  obtain ⟨_, eo37, e⟩ := e
  replace e := ob e
  obtain ⟨x38, ex38, e⟩ := e
  refine j_callV (ci := 10) (RC := RX10) (T := TX10) (N := 38) (As := []) (b := l0) (na := 0) (st := []) (k1 := 0) (n1 := 0) C hr (sX10_n ex38) rfl eo37 kX10_105 kim_X10_n ksel_X10_n kini_X10 kc_X10_n (by decide) rfl ⟨(Nat.le_of_ble_eq_true rfl), (Nat.le_of_ble_eq_true rfl)⟩ (Nat.le_of_ble_eq_true rfl) ⟨rfl, rfl, (Nat.le_of_ble_eq_true rfl), (Nat.le_of_ble_eq_true rfl)⟩ dX10_placed_1 ?_
  rintro _ _ ⟨rfl, rfl⟩
  show jx_J X 0 0 4 [(0, .ref l0), (1, .int l1), (2, .int l2)] [.int x38] h
  refine j_istore_n (lv1 := [(3, .int x38), (0, .ref l0), (1, .int l1), (2, .int l2)]) C hL dX10_placed_4 rfl (Nat.le_of_ble_eq_true rfl) rfl ?_
  refine jx_sub (lv' := [(0, .ref l0), (1, .int l1), (2, .int l2), (3, .int x38)]) [1, 2, 3, 0] rfl ?_
  refine itr_ind (s0 := (x38, h)) (fun s : Int32 × jx_H => jx_J X 0 0 5 [(0, .ref l0), (1, .int l1), (2, .int l2), (3, .int s.1)] [] s.2) e ?_
  clear e
  intro s kI3 kT3 e0
  obtain ⟨z39, h40⟩ := s
  obtain ⟨u3, e0_3⟩ := e0
  have e : LX10_placed_5 l0 l1 l2 z39 h40 = some u3 := e0_3
  unfold LX10_placed_5 at e
  refine j_iload_n C dX10_placed_5 rfl rfl ?_
  refine j_if_le (tgt := 82) C dX10_placed_6 (by decide) (fun c55 => ?_) (fun c55 => ?_)
  · replace e := ifp c55 e
    obtain ⟨t_4, e_4, eu_4⟩ := exL_spec e
    obtain rfl := kT3 t_4 (e0_3.trans (congrArg some eu_4))
    replace e := e_4
    exact b82 l0 l1 l2 z39 h40 e
  · replace e := ifn c55 e
    refine j_iload_n C dX10_placed_9 rfl rfl ?_
    refine j_iload_n C dX10_placed_10 rfl rfl ?_
    refine j_aload_n C dX10_placed_11 rfl rfl ?_
    replace e := ob e
    obtain ⟨x41, ex41, e⟩ := e
    refine j_getr (ci := 10) (RC := RX10) (T := TX10) (N := 38) 1 C rfl klX10 (Nat.le_of_ble_eq_true rfl) kX10_7 rfl dX10_placed_12 ex41 ?_
    refine j_iconst (v := (4 : Int32)) C dX10_placed_15 (by decide) ?_
    refine j_iload_n C dX10_placed_16 rfl rfl ?_
    refine j_iadd C dX10_placed_17 ?_
    refine j_iconst (v := (1 : Int32)) C dX10_placed_18 (by decide) ?_
    refine j_isub C dX10_placed_19 ?_
    replace e := ob e
    obtain ⟨x42, ex42, e⟩ := e
    refine j_iald C dX10_placed_20 ex42 ?_
    refine j_aload_n C dX10_placed_21 rfl rfl ?_
    replace e := ob e
    obtain ⟨x43, ex43, e⟩ := e
    refine j_getr (ci := 10) (RC := RX10) (T := TX10) (N := 38) 1 C rfl klX10 (Nat.le_of_ble_eq_true rfl) kX10_7 rfl dX10_placed_22 ex43 ?_
    refine j_bipush (v := (16 : Int32)) C dX10_placed_25 (by decide) ?_
    refine j_iload_n C dX10_placed_27 rfl rfl ?_
    refine j_iadd C dX10_placed_28 ?_
    refine j_iconst (v := (1 : Int32)) C dX10_placed_29 (by decide) ?_
    refine j_isub C dX10_placed_30 ?_
    replace e := ob e
    obtain ⟨x44, ex44, e⟩ := e
    refine j_iald C dX10_placed_31 ex44 ?_
    replace e := ob e
    obtain ⟨x45, ex45, e⟩ := e
    refine j_callS (As := [.int l1, .int l2, .int x42, .int x44]) (na := 4) (st := []) (k1 := 0) (n1 := 0) C hr (sX10_isAhead ex45) kX10_122 kst_X10_isAhead kini_X10 kc_X10_isAhead (by decide) rfl ⟨(Nat.le_of_ble_eq_true rfl), (Nat.le_of_ble_eq_true rfl)⟩ (Nat.le_of_ble_eq_true rfl) ⟨rfl, rfl, (Nat.le_of_ble_eq_true rfl), (Nat.le_of_ble_eq_true rfl)⟩ dX10_placed_32 ?_
    rintro _ _ ⟨rfl, rfl⟩
    show jx_J X 0 0 35 [(0, .ref l0), (1, .int l1), (2, .int l2), (3, .int z39)] [.int x45] h40
    refine j_if_eq (tgt := 82) C dX10_placed_35 (by decide) (fun c54 => ?_) (fun c54 => ?_)
    · replace e := ifp c54 e
      obtain ⟨t_5, e_5, eu_5⟩ := exL_spec e
      obtain rfl := kT3 t_5 (e0_3.trans (congrArg some eu_5))
      replace e := e_5
      exact b82 l0 l1 l2 z39 h40 e
    · replace e := ifn c54 e
      refine j_aload_n C dX10_placed_38 rfl rfl ?_
      replace e := ob e
      obtain ⟨x46, ex46, e⟩ := e
      refine j_getr (ci := 10) (RC := RX10) (T := TX10) (N := 38) 1 C rfl klX10 (Nat.le_of_ble_eq_true rfl) kX10_7 rfl dX10_placed_39 ex46 ?_
      refine j_iconst (v := (4 : Int32)) C dX10_placed_42 (by decide) ?_
      refine j_iload_n C dX10_placed_43 rfl rfl ?_
      refine j_iadd C dX10_placed_44 ?_
      refine j_aload_n C dX10_placed_45 rfl rfl ?_
      replace e := ob e
      obtain ⟨x47, ex47, e⟩ := e
      refine j_getr (ci := 10) (RC := RX10) (T := TX10) (N := 38) 1 C rfl klX10 (Nat.le_of_ble_eq_true rfl) kX10_7 rfl dX10_placed_46 ex47 ?_
      refine j_iconst (v := (4 : Int32)) C dX10_placed_49 (by decide) ?_
      refine j_iload_n C dX10_placed_50 rfl rfl ?_
      refine j_iadd C dX10_placed_51 ?_
      refine j_iconst (v := (1 : Int32)) C dX10_placed_52 (by decide) ?_
      refine j_isub C dX10_placed_53 ?_
      replace e := ob e
      obtain ⟨x48, ex48, e⟩ := e
      refine j_iald C dX10_placed_54 ex48 ?_
      replace e := ob e
      obtain ⟨h49, eh49, e⟩ := e
      refine j_iast C dX10_placed_55 eh49 ?_
      refine j_aload_n C dX10_placed_56 rfl rfl ?_
      replace e := ob e
      obtain ⟨x50, ex50, e⟩ := e
      refine j_getr (ci := 10) (RC := RX10) (T := TX10) (N := 38) 1 C rfl klX10 (Nat.le_of_ble_eq_true rfl) kX10_7 rfl dX10_placed_57 ex50 ?_
      refine j_bipush (v := (16 : Int32)) C dX10_placed_60 (by decide) ?_
      refine j_iload_n C dX10_placed_62 rfl rfl ?_
      refine j_iadd C dX10_placed_63 ?_
      refine j_aload_n C dX10_placed_64 rfl rfl ?_
      replace e := ob e
      obtain ⟨x51, ex51, e⟩ := e
      refine j_getr (ci := 10) (RC := RX10) (T := TX10) (N := 38) 1 C rfl klX10 (Nat.le_of_ble_eq_true rfl) kX10_7 rfl dX10_placed_65 ex51 ?_
      refine j_bipush (v := (16 : Int32)) C dX10_placed_68 (by decide) ?_
      refine j_iload_n C dX10_placed_70 rfl rfl ?_
      refine j_iadd C dX10_placed_71 ?_
      refine j_iconst (v := (1 : Int32)) C dX10_placed_72 (by decide) ?_
      refine j_isub C dX10_placed_73 ?_
      replace e := ob e
      obtain ⟨x52, ex52, e⟩ := e
      refine j_iald C dX10_placed_74 ex52 ?_
      replace e := ob e
      obtain ⟨h53, eh53, e⟩ := e
      refine j_iast C dX10_placed_75 eh53 ?_
      refine j_iinc (v := (z39 + (-1 : Int32))) (lv1 := [(3, .int (z39 + (-1 : Int32))), (0, .ref l0), (1, .int l1), (2, .int l2)]) C hL dX10_placed_76 rfl rfl (Nat.le_of_ble_eq_true rfl) rfl ?_
      refine j_goto (tgt := 5) C dX10_placed_79 (by decide) ?_
      obtain rfl := Option.some.inj e
      refine jx_sub (lv' := [(0, .ref l0), (1, .int l1), (2, .int l2), (3, .int (z39 + (-1 : Int32)))]) [1, 2, 3, 0] rfl ?_
      exact kI3 ((z39 + (-1 : Int32)), h53) e0_3
/-! BorderBasisModel.ruleAt(II)I -/
noncomputable def FX10_ruleAt (l0 : Int32) (l1 : Int32) (h : jx_H) : Option (Int32) :=
some (((56 : Int32) + ((12 : Int32) * l0)) + l1)
def rmX10_ruleAt : Room := { frames := 0, cells := 0, slots := 0, locals := 0 }
set_option maxRecDepth 20000 in
set_option maxHeartbeats 4000000 in
theorem sX10_ruleAt {l0 : Int32} {l1 : Int32} {h : jx_H} {r : Int32}  (e : FX10_ruleAt l0 l1 h = some r) : jx_Ct yX10_ruleAt cX10_ruleAt 2 (some .int) rmX10_ruleAt [.int l0, .int l1] h (fun r' h' => some (.int r) = r' ∧ h = h') := by
  refine jx_Ct.of (own := RX10) (by decide) rfl (Nat.le_of_ble_eq_true rfl) (fun X C hq hr hL hN => ?_)
  refine jx_sub (lv' := [(0, .int l0), (1, .int l1)]) [0, 1] rfl ?_
  unfold FX10_ruleAt at e
  refine j_bipush (v := (56 : Int32)) C dX10_ruleAt_0 (by decide) ?_
  refine j_bipush (v := (12 : Int32)) C dX10_ruleAt_2 (by decide) ?_
  refine j_iload_n C dX10_ruleAt_4 rfl rfl ?_
  refine j_imul C dX10_ruleAt_5 ?_
  refine j_iadd C dX10_ruleAt_6 ?_
  refine j_iload_n C dX10_ruleAt_7 rfl rfl ?_
  refine j_iadd C dX10_ruleAt_8 ?_
  cases e
  exact j_iret C hq rfl dX10_ruleAt_9 ⟨Nat.le_of_ble_eq_true rfl, Nat.le_of_ble_eq_true rfl⟩ ⟨rfl, rfl⟩
/-! BorderBasisModel.ruleBefore(II)I -/
noncomputable def BX10_ruleBefore_66 (l0 : Nat) (l1 : Int32) (l2 : Int32) (l4 : Int32) (s0 : Int32) (h : jx_H) : Option ((Int32 × Int32) ⊕ (Int32)) :=
some (.inl (s0, (l4 + (1 : Int32))))
noncomputable def BX10_ruleBefore_65 (l0 : Nat) (l1 : Int32) (l2 : Int32) (l3 : Int32) (l4 : Int32) (h : jx_H) : Option ((Int32 × Int32) ⊕ (Int32)) :=
BX10_ruleBefore_66 l0 l1 l2 l4 l3 h
noncomputable def BX10_ruleBefore_139 (l0 : Nat) (l2 : Int32) (l3 : Int32) (l5 : Int32) (s0 : Int32) (h : jx_H) : Option ((Int32 × Int32) ⊕ (Int32)) :=
some (.inl (s0, (l5 + (1 : Int32))))
noncomputable def BX10_ruleBefore_137 (l0 : Nat) (l2 : Int32) (l3 : Int32) (l4 : Int32) (l5 : Int32) (h : jx_H) : Option ((Int32 × Int32) ⊕ (Int32)) :=
BX10_ruleBefore_139 l0 l2 l3 l5 l4 h
noncomputable def LX10_ruleBefore_79 (l0 : Nat) (l2 : Int32) (l3 : Int32) (l4 : Int32) (l5 : Int32) (h : jx_H) : Option ((Int32 × Int32) ⊕ (Int32)) :=
(hgr h l0 10 3).bind fun x3 =>
(hal h .int x3 (1 : Int32)).bind fun x4 =>
if x4 ≤ l5 then
 exL (if l3 = (-1 : Int32) then
  some (0 : Int32)
 else
  if l4 = (-1 : Int32) then
   some (0 : Int32)
  else
   (hgr h l0 10 3).bind fun x5 =>
   (FX10_ruleAt l3 l4 h).bind fun x6 =>
   (hal h .int x5 x6).bind fun x7 =>
   some x7)
else
 (hgr h l0 10 3).bind fun x10 =>
 (hal h .int x10 ((4 : Int32) + l5)).bind fun x11 =>
 (hgr h l0 10 1).bind fun x12 =>
 (hal h .int x12 ((4 : Int32) + l2)).bind fun x13 =>
 if x11 = x13 then
  (hgr h l0 10 3).bind fun x14 =>
  (hal h .int x14 ((16 : Int32) + l5)).bind fun x15 =>
  (hgr h l0 10 1).bind fun x16 =>
  (hal h .int x16 ((16 : Int32) + l2)).bind fun x17 =>
  if x15 = x17 then
   BX10_ruleBefore_139 l0 l2 l3 l5 l5 h
  else
   BX10_ruleBefore_137 l0 l2 l3 l4 l5 h
 else
  BX10_ruleBefore_137 l0 l2 l3 l4 l5 h
noncomputable def LX10_ruleBefore_5 (l0 : Nat) (l1 : Int32) (l2 : Int32) (l3 : Int32) (l4 : Int32) (h : jx_H) : Option ((Int32 × Int32) ⊕ (Int32)) :=
(hgr h l0 10 3).bind fun x1 =>
(hal h .int x1 (2 : Int32)).bind fun x2 =>
if x2 ≤ l4 then
 exL (itr (fun s : Int32 × Int32 => LX10_ruleBefore_79 l0 l2 l3 s.1 s.2 h) ((-1 : Int32), (0 : Int32)))
else
 (hgr h l0 10 3).bind fun x21 =>
 (hal h .int x21 ((28 : Int32) + l4)).bind fun x22 =>
 (hgr h l0 10 1).bind fun x23 =>
 (hal h .int x23 ((28 : Int32) + l1)).bind fun x24 =>
 if x22 = x24 then
  (hgr h l0 10 3).bind fun x25 =>
  (hal h .int x25 ((42 : Int32) + l4)).bind fun x26 =>
  (hgr h l0 10 1).bind fun x27 =>
  (hal h .int x27 ((42 : Int32) + l1)).bind fun x28 =>
  if x26 = x28 then
   BX10_ruleBefore_66 l0 l1 l2 l4 l4 h
  else
   BX10_ruleBefore_65 l0 l1 l2 l3 l4 h
 else
  BX10_ruleBefore_65 l0 l1 l2 l3 l4 h
noncomputable def FX10_ruleBefore (l0 : Nat) (l1 : Int32) (l2 : Int32) (h : jx_H) : Option (Int32) :=
itr (fun s : Int32 × Int32 => LX10_ruleBefore_5 l0 l1 l2 s.1 s.2 h) ((-1 : Int32), (0 : Int32))
def rmX10_ruleBefore : Room := { frames := 1, cells := 0, slots := 0, locals := 21 }
set_option maxRecDepth 20000 in
set_option maxHeartbeats 4000000 in
theorem sX10_ruleBefore {l0 : Nat} {l1 : Int32} {l2 : Int32} {h : jx_H} {r : Int32}  (e : FX10_ruleBefore l0 l1 l2 h = some r) : jx_Ct yX10_ruleBefore cX10_ruleBefore 6 (some .int) rmX10_ruleBefore [.ref l0, .int l1, .int l2] h (fun r' h' => some (.int r) = r' ∧ h = h') := by
  refine jx_Ct.of (own := RX10) (by decide) rfl (Nat.le_of_ble_eq_true rfl) (fun X C hq hr hL hN => ?_)
  refine jx_sub (lv' := [(0, .ref l0), (1, .int l1), (2, .int l2)]) [0, 1, 2] rfl ?_
  unfold FX10_ruleBefore at e
  refine j_iconst (v := (-1 : Int32)) C dX10_ruleBefore_0 (by decide) ?_
  refine j_istore_n (lv1 := [(3, .int (-1 : Int32)), (0, .ref l0), (1, .int l1), (2, .int l2)]) C hL dX10_ruleBefore_1 rfl (Nat.le_of_ble_eq_true rfl) rfl ?_
  refine j_iconst (v := (0 : Int32)) C dX10_ruleBefore_2 (by decide) ?_
  refine j_istore (lv1 := [(4, .int (0 : Int32)), (3, .int (-1 : Int32)), (0, .ref l0), (1, .int l1), (2, .int l2)]) C hL dX10_ruleBefore_3 (Nat.le_of_ble_eq_true rfl) rfl ?_
  refine jx_sub (lv' := [(0, .ref l0), (1, .int l1), (2, .int l2), (3, .int (-1 : Int32)), (4, .int (0 : Int32))]) [2, 3, 4, 1, 0] rfl ?_
  refine itr_ind (s0 := ((-1 : Int32), (0 : Int32))) (fun s : Int32 × Int32 => jx_J X 0 0 5 [(0, .ref l0), (1, .int l1), (2, .int l2), (3, .int s.1), (4, .int s.2)] [] h) e ?_
  clear e
  intro s kI3 kT3 e0
  obtain ⟨z32, z33⟩ := s
  obtain ⟨u3, e0_3⟩ := e0
  have e : LX10_ruleBefore_5 l0 l1 l2 z32 z33 h = some u3 := e0_3
  have b66 : ∀ (y34 : Int32) (y35 : Int32), BX10_ruleBefore_66 l0 l1 l2 y34 y35 h = some u3 → jx_J X 0 0 66 [(0, .ref l0), (1, .int l1), (2, .int l2), (4, .int y34)] [.int y35] h := by
    intro y34 y35 e
    unfold BX10_ruleBefore_66 at e
    refine j_istore_n (lv1 := [(3, .int y35), (0, .ref l0), (1, .int l1), (2, .int l2), (4, .int y34)]) C hL dX10_ruleBefore_66 rfl (Nat.le_of_ble_eq_true rfl) rfl ?_
    refine j_iinc (v := (y34 + (1 : Int32))) (lv1 := [(4, .int (y34 + (1 : Int32))), (3, .int y35), (0, .ref l0), (1, .int l1), (2, .int l2)]) C hL dX10_ruleBefore_67 rfl rfl (Nat.le_of_ble_eq_true rfl) rfl ?_
    refine j_goto (tgt := 5) C dX10_ruleBefore_70 (by decide) ?_
    obtain rfl := Option.some.inj e
    refine jx_sub (lv' := [(0, .ref l0), (1, .int l1), (2, .int l2), (3, .int y35), (4, .int (y34 + (1 : Int32)))]) [2, 3, 4, 1, 0] rfl ?_
    exact kI3 (y35, (y34 + (1 : Int32))) e0_3
  have b65 : ∀ (y36 : Int32) (y37 : Int32), BX10_ruleBefore_65 l0 l1 l2 y36 y37 h = some u3 → jx_J X 0 0 65 [(0, .ref l0), (1, .int l1), (2, .int l2), (3, .int y36), (4, .int y37)] [] h := by
    intro y36 y37 e
    unfold BX10_ruleBefore_65 at e
    refine j_iload_n C dX10_ruleBefore_65 rfl rfl ?_
    refine jx_sub (lv' := [(0, .ref l0), (1, .int l1), (2, .int l2), (4, .int y37)]) [0, 1, 2, 4] rfl ?_
    exact b66 y37 y36 e
  unfold LX10_ruleBefore_5 at e
  refine j_iload C dX10_ruleBefore_5 rfl ?_
  refine j_aload_n C dX10_ruleBefore_7 rfl rfl ?_
  replace e := ob e
  obtain ⟨x38, ex38, e⟩ := e
  refine j_getr (ci := 10) (RC := RX10) (T := TX10) (N := 38) 3 C rfl klX10 (Nat.le_of_ble_eq_true rfl) kX10_16 rfl dX10_ruleBefore_8 ex38 ?_
  refine j_iconst (v := (2 : Int32)) C dX10_ruleBefore_11 (by decide) ?_
  replace e := ob e
  obtain ⟨x39, ex39, e⟩ := e
  refine j_iald C dX10_ruleBefore_12 ex39 ?_
  refine j_icmp_ge (tgt := 73) C dX10_ruleBefore_13 (by decide) (fun c74 => ?_) (fun c74 => ?_)
  · replace e := ifp c74 e
    obtain ⟨t_6, e_6, eu_6⟩ := exL_spec e
    obtain rfl := kT3 t_6 (e0_3.trans (congrArg some eu_6))
    replace e := e_6
    refine j_iconst (v := (-1 : Int32)) C dX10_ruleBefore_73 (by decide) ?_
    refine j_istore (lv1 := [(4, .int (-1 : Int32)), (0, .ref l0), (1, .int l1), (2, .int l2), (3, .int z32)]) C hL dX10_ruleBefore_74 (Nat.le_of_ble_eq_true rfl) rfl ?_
    refine j_iconst (v := (0 : Int32)) C dX10_ruleBefore_76 (by decide) ?_
    refine j_istore (lv1 := [(5, .int (0 : Int32)), (4, .int (-1 : Int32)), (0, .ref l0), (1, .int l1), (2, .int l2), (3, .int z32)]) C hL dX10_ruleBefore_77 (Nat.le_of_ble_eq_true rfl) rfl ?_
    refine jx_sub (lv' := [(0, .ref l0), (2, .int l2), (3, .int z32), (4, .int (-1 : Int32)), (5, .int (0 : Int32))]) [2, 4, 5, 1, 0] rfl ?_
    refine itr_ind (s0 := ((-1 : Int32), (0 : Int32))) (fun s : Int32 × Int32 => jx_J X 0 0 79 [(0, .ref l0), (2, .int l2), (3, .int z32), (4, .int s.1), (5, .int s.2)] [] h) e ?_
    clear e
    intro s kI4 kT4 e0
    obtain ⟨z40, z41⟩ := s
    obtain ⟨u4, e0_4⟩ := e0
    have e : LX10_ruleBefore_79 l0 l2 z32 z40 z41 h = some u4 := e0_4
    have b139 : ∀ (y42 : Int32) (y43 : Int32), BX10_ruleBefore_139 l0 l2 z32 y42 y43 h = some u4 → jx_J X 0 0 139 [(0, .ref l0), (2, .int l2), (3, .int z32), (5, .int y42)] [.int y43] h := by
      intro y42 y43 e
      unfold BX10_ruleBefore_139 at e
      refine j_istore (lv1 := [(4, .int y43), (0, .ref l0), (2, .int l2), (3, .int z32), (5, .int y42)]) C hL dX10_ruleBefore_139 (Nat.le_of_ble_eq_true rfl) rfl ?_
      refine j_iinc (v := (y42 + (1 : Int32))) (lv1 := [(5, .int (y42 + (1 : Int32))), (4, .int y43), (0, .ref l0), (2, .int l2), (3, .int z32)]) C hL dX10_ruleBefore_141 rfl rfl (Nat.le_of_ble_eq_true rfl) rfl ?_
      refine j_goto (tgt := 79) C dX10_ruleBefore_144 (by decide) ?_
      obtain rfl := Option.some.inj e
      refine jx_sub (lv' := [(0, .ref l0), (2, .int l2), (3, .int z32), (4, .int y43), (5, .int (y42 + (1 : Int32)))]) [2, 3, 4, 1, 0] rfl ?_
      exact kI4 (y43, (y42 + (1 : Int32))) e0_4
    have b137 : ∀ (y44 : Int32) (y45 : Int32), BX10_ruleBefore_137 l0 l2 z32 y44 y45 h = some u4 → jx_J X 0 0 137 [(0, .ref l0), (2, .int l2), (3, .int z32), (4, .int y44), (5, .int y45)] [] h := by
      intro y44 y45 e
      unfold BX10_ruleBefore_137 at e
      refine j_iload C dX10_ruleBefore_137 rfl ?_
      refine jx_sub (lv' := [(0, .ref l0), (2, .int l2), (3, .int z32), (5, .int y45)]) [0, 1, 2, 4] rfl ?_
      exact b139 y45 y44 e
    unfold LX10_ruleBefore_79 at e
    refine j_iload C dX10_ruleBefore_79 rfl ?_
    refine j_aload_n C dX10_ruleBefore_81 rfl rfl ?_
    replace e := ob e
    obtain ⟨x46, ex46, e⟩ := e
    refine j_getr (ci := 10) (RC := RX10) (T := TX10) (N := 38) 3 C rfl klX10 (Nat.le_of_ble_eq_true rfl) kX10_16 rfl dX10_ruleBefore_82 ex46 ?_
    refine j_iconst (v := (1 : Int32)) C dX10_ruleBefore_85 (by decide) ?_
    replace e := ob e
    obtain ⟨x47, ex47, e⟩ := e
    refine j_iald C dX10_ruleBefore_86 ex47 ?_
    refine j_icmp_ge (tgt := 147) C dX10_ruleBefore_87 (by decide) (fun c63 => ?_) (fun c63 => ?_)
    · replace e := ifp c63 e
      obtain ⟨t_5, e_5, eu_5⟩ := exL_spec e
      obtain rfl := kT4 t_5 (e0_4.trans (congrArg some eu_5))
      replace e := e_5
      refine j_iload_n C dX10_ruleBefore_147 rfl rfl ?_
      refine j_iconst (v := (-1 : Int32)) C dX10_ruleBefore_148 (by decide) ?_
      refine j_icmp_eq (tgt := 158) C dX10_ruleBefore_149 (by decide) (fun c52 => ?_) (fun c52 => ?_)
      · replace e := ifp c52 e
        refine j_iconst (v := (0 : Int32)) C dX10_ruleBefore_158 (by decide) ?_
        refine j_goto (tgt := 173) C dX10_ruleBefore_159 (by decide) ?_
        cases e
        exact j_iret C hq rfl dX10_ruleBefore_173 ⟨Nat.le_of_ble_eq_true rfl, Nat.le_of_ble_eq_true rfl⟩ ⟨rfl, rfl⟩
      · replace e := ifn c52 e
        refine j_iload C dX10_ruleBefore_152 rfl ?_
        refine j_iconst (v := (-1 : Int32)) C dX10_ruleBefore_154 (by decide) ?_
        refine j_icmp_ne (tgt := 162) C dX10_ruleBefore_155 (by decide) (fun c51 => ?_) (fun c51 => ?_)
        · replace e := ifn c51 e
          refine j_aload_n C dX10_ruleBefore_162 rfl rfl ?_
          replace e := ob e
          obtain ⟨x48, ex48, e⟩ := e
          refine j_getr (ci := 10) (RC := RX10) (T := TX10) (N := 38) 3 C rfl klX10 (Nat.le_of_ble_eq_true rfl) kX10_16 rfl dX10_ruleBefore_163 ex48 ?_
          refine j_iload_n C dX10_ruleBefore_166 rfl rfl ?_
          refine j_iload C dX10_ruleBefore_167 rfl ?_
          replace e := ob e
          obtain ⟨x49, ex49, e⟩ := e
          refine j_callS (As := [.int z32, .int z40]) (na := 2) (st := [.ref x48]) (k1 := 0) (n1 := 0) C hr (sX10_ruleAt ex49) kX10_130 kst_X10_ruleAt kini_X10 kc_X10_ruleAt (by decide) rfl ⟨(Nat.le_of_ble_eq_true rfl), (Nat.le_of_ble_eq_true rfl)⟩ (Nat.le_of_ble_eq_true rfl) ⟨rfl, rfl, (Nat.le_of_ble_eq_true rfl), (Nat.le_of_ble_eq_true rfl)⟩ dX10_ruleBefore_169 ?_
          rintro _ _ ⟨rfl, rfl⟩
          show jx_J X 0 0 172 [(0, .ref l0), (2, .int l2), (3, .int z32), (4, .int z40), (5, .int z41)] [.int x49, .ref x48] h
          replace e := ob e
          obtain ⟨x50, ex50, e⟩ := e
          refine j_iald C dX10_ruleBefore_172 ex50 ?_
          cases e
          exact j_iret C hq rfl dX10_ruleBefore_173 ⟨Nat.le_of_ble_eq_true rfl, Nat.le_of_ble_eq_true rfl⟩ ⟨rfl, rfl⟩
        · replace e := ifp c51 e
          refine j_iconst (v := (0 : Int32)) C dX10_ruleBefore_158 (by decide) ?_
          refine j_goto (tgt := 173) C dX10_ruleBefore_159 (by decide) ?_
          cases e
          exact j_iret C hq rfl dX10_ruleBefore_173 ⟨Nat.le_of_ble_eq_true rfl, Nat.le_of_ble_eq_true rfl⟩ ⟨rfl, rfl⟩
    · replace e := ifn c63 e
      refine j_aload_n C dX10_ruleBefore_90 rfl rfl ?_
      replace e := ob e
      obtain ⟨x53, ex53, e⟩ := e
      refine j_getr (ci := 10) (RC := RX10) (T := TX10) (N := 38) 3 C rfl klX10 (Nat.le_of_ble_eq_true rfl) kX10_16 rfl dX10_ruleBefore_91 ex53 ?_
      refine j_iconst (v := (4 : Int32)) C dX10_ruleBefore_94 (by decide) ?_
      refine j_iload C dX10_ruleBefore_95 rfl ?_
      refine j_iadd C dX10_ruleBefore_97 ?_
      replace e := ob e
      obtain ⟨x54, ex54, e⟩ := e
      refine j_iald C dX10_ruleBefore_98 ex54 ?_
      refine j_aload_n C dX10_ruleBefore_99 rfl rfl ?_
      replace e := ob e
      obtain ⟨x55, ex55, e⟩ := e
      refine j_getr (ci := 10) (RC := RX10) (T := TX10) (N := 38) 1 C rfl klX10 (Nat.le_of_ble_eq_true rfl) kX10_7 rfl dX10_ruleBefore_100 ex55 ?_
      refine j_iconst (v := (4 : Int32)) C dX10_ruleBefore_103 (by decide) ?_
      refine j_iload_n C dX10_ruleBefore_104 rfl rfl ?_
      refine j_iadd C dX10_ruleBefore_105 ?_
      replace e := ob e
      obtain ⟨x56, ex56, e⟩ := e
      refine j_iald C dX10_ruleBefore_106 ex56 ?_
      refine j_icmp_ne (tgt := 137) C dX10_ruleBefore_107 (by decide) (fun c62 => ?_) (fun c62 => ?_)
      · replace e := ifn c62 e
        exact b137 z40 z41 e
      · replace e := ifp c62 e
        refine j_aload_n C dX10_ruleBefore_110 rfl rfl ?_
        replace e := ob e
        obtain ⟨x57, ex57, e⟩ := e
        refine j_getr (ci := 10) (RC := RX10) (T := TX10) (N := 38) 3 C rfl klX10 (Nat.le_of_ble_eq_true rfl) kX10_16 rfl dX10_ruleBefore_111 ex57 ?_
        refine j_bipush (v := (16 : Int32)) C dX10_ruleBefore_114 (by decide) ?_
        refine j_iload C dX10_ruleBefore_116 rfl ?_
        refine j_iadd C dX10_ruleBefore_118 ?_
        replace e := ob e
        obtain ⟨x58, ex58, e⟩ := e
        refine j_iald C dX10_ruleBefore_119 ex58 ?_
        refine j_aload_n C dX10_ruleBefore_120 rfl rfl ?_
        replace e := ob e
        obtain ⟨x59, ex59, e⟩ := e
        refine j_getr (ci := 10) (RC := RX10) (T := TX10) (N := 38) 1 C rfl klX10 (Nat.le_of_ble_eq_true rfl) kX10_7 rfl dX10_ruleBefore_121 ex59 ?_
        refine j_bipush (v := (16 : Int32)) C dX10_ruleBefore_124 (by decide) ?_
        refine j_iload_n C dX10_ruleBefore_126 rfl rfl ?_
        refine j_iadd C dX10_ruleBefore_127 ?_
        replace e := ob e
        obtain ⟨x60, ex60, e⟩ := e
        refine j_iald C dX10_ruleBefore_128 ex60 ?_
        refine j_icmp_ne (tgt := 137) C dX10_ruleBefore_129 (by decide) (fun c61 => ?_) (fun c61 => ?_)
        · replace e := ifn c61 e
          exact b137 z40 z41 e
        · replace e := ifp c61 e
          refine j_iload C dX10_ruleBefore_132 rfl ?_
          refine j_goto (tgt := 139) C dX10_ruleBefore_134 (by decide) ?_
          refine jx_sub (lv' := [(0, .ref l0), (2, .int l2), (3, .int z32), (5, .int z41)]) [0, 1, 2, 4] rfl ?_
          exact b139 z41 z41 e
  · replace e := ifn c74 e
    refine j_aload_n C dX10_ruleBefore_16 rfl rfl ?_
    replace e := ob e
    obtain ⟨x64, ex64, e⟩ := e
    refine j_getr (ci := 10) (RC := RX10) (T := TX10) (N := 38) 3 C rfl klX10 (Nat.le_of_ble_eq_true rfl) kX10_16 rfl dX10_ruleBefore_17 ex64 ?_
    refine j_bipush (v := (28 : Int32)) C dX10_ruleBefore_20 (by decide) ?_
    refine j_iload C dX10_ruleBefore_22 rfl ?_
    refine j_iadd C dX10_ruleBefore_24 ?_
    replace e := ob e
    obtain ⟨x65, ex65, e⟩ := e
    refine j_iald C dX10_ruleBefore_25 ex65 ?_
    refine j_aload_n C dX10_ruleBefore_26 rfl rfl ?_
    replace e := ob e
    obtain ⟨x66, ex66, e⟩ := e
    refine j_getr (ci := 10) (RC := RX10) (T := TX10) (N := 38) 1 C rfl klX10 (Nat.le_of_ble_eq_true rfl) kX10_7 rfl dX10_ruleBefore_27 ex66 ?_
    refine j_bipush (v := (28 : Int32)) C dX10_ruleBefore_30 (by decide) ?_
    refine j_iload_n C dX10_ruleBefore_32 rfl rfl ?_
    refine j_iadd C dX10_ruleBefore_33 ?_
    replace e := ob e
    obtain ⟨x67, ex67, e⟩ := e
    refine j_iald C dX10_ruleBefore_34 ex67 ?_
    refine j_icmp_ne (tgt := 65) C dX10_ruleBefore_35 (by decide) (fun c73 => ?_) (fun c73 => ?_)
    · replace e := ifn c73 e
      exact b65 z32 z33 e
    · replace e := ifp c73 e
      refine j_aload_n C dX10_ruleBefore_38 rfl rfl ?_
      replace e := ob e
      obtain ⟨x68, ex68, e⟩ := e
      refine j_getr (ci := 10) (RC := RX10) (T := TX10) (N := 38) 3 C rfl klX10 (Nat.le_of_ble_eq_true rfl) kX10_16 rfl dX10_ruleBefore_39 ex68 ?_
      refine j_bipush (v := (42 : Int32)) C dX10_ruleBefore_42 (by decide) ?_
      refine j_iload C dX10_ruleBefore_44 rfl ?_
      refine j_iadd C dX10_ruleBefore_46 ?_
      replace e := ob e
      obtain ⟨x69, ex69, e⟩ := e
      refine j_iald C dX10_ruleBefore_47 ex69 ?_
      refine j_aload_n C dX10_ruleBefore_48 rfl rfl ?_
      replace e := ob e
      obtain ⟨x70, ex70, e⟩ := e
      refine j_getr (ci := 10) (RC := RX10) (T := TX10) (N := 38) 1 C rfl klX10 (Nat.le_of_ble_eq_true rfl) kX10_7 rfl dX10_ruleBefore_49 ex70 ?_
      refine j_bipush (v := (42 : Int32)) C dX10_ruleBefore_52 (by decide) ?_
      refine j_iload_n C dX10_ruleBefore_54 rfl rfl ?_
      refine j_iadd C dX10_ruleBefore_55 ?_
      replace e := ob e
      obtain ⟨x71, ex71, e⟩ := e
      refine j_iald C dX10_ruleBefore_56 ex71 ?_
      refine j_icmp_ne (tgt := 65) C dX10_ruleBefore_57 (by decide) (fun c72 => ?_) (fun c72 => ?_)
      · replace e := ifn c72 e
        exact b65 z32 z33 e
      · replace e := ifp c72 e
        refine j_iload C dX10_ruleBefore_60 rfl ?_
        refine j_goto (tgt := 66) C dX10_ruleBefore_62 (by decide) ?_
        refine jx_sub (lv' := [(0, .ref l0), (1, .int l1), (2, .int l2), (4, .int z33)]) [0, 1, 2, 4] rfl ?_
        exact b66 z33 z33 e
/-! BorderBasisModel.laysAgain()V -/
noncomputable def LX10_laysAgain_18 (l0 : Nat) (l1 : Int32) (l2 : Int32) (h : jx_H) : Option ((Int32 × jx_H) ⊕ ((Int32 × jx_H) ⊕ (jx_H))) :=
(isO h l0 10).bind fun _ =>
(FX10_n l0 h).bind fun x6 =>
if x6 ≤ l2 then
 exL (some (.inl ((l1 + (1 : Int32)), h)))
else
 (hgr h l0 10 1).bind fun x7 =>
 (FX10_ruleAt l1 l2 h).bind fun x8 =>
 (isO h l0 10).bind fun _ =>
 (FX10_ruleBefore l0 l1 l2 h).bind fun x10 =>
 (has h .int x7 x8 x10).bind fun h11 =>
 some (.inl ((l2 + (1 : Int32)), h11))
noncomputable def LX10_laysAgain_6 (l0 : Nat) (l1 : Int32) (h : jx_H) : Option ((Int32 × jx_H) ⊕ (jx_H)) :=
(hgr h l0 10 1).bind fun x3 =>
(hal h .int x3 (2 : Int32)).bind fun x4 =>
if x4 ≤ l1 then
 exL (some h)
else
 itr (fun s : Int32 × jx_H => LX10_laysAgain_18 l0 l1 s.1 s.2) ((0 : Int32), h)
noncomputable def FX10_laysAgain (l0 : Nat) (h : jx_H) : Option (jx_H) :=
(isO h l0 10).bind fun _ =>
(FX10_laysBorder l0 h).bind fun h2 =>
itr (fun s : Int32 × jx_H => LX10_laysAgain_6 l0 s.1 s.2) ((0 : Int32), h2)
def rmX10_laysAgain : Room := { frames := 5, cells := 0, slots := 0, locals := 109 }
set_option maxRecDepth 20000 in
set_option maxHeartbeats 4000000 in
theorem sX10_laysAgain {l0 : Nat} {h : jx_H} {h9 : jx_H} (e : FX10_laysAgain l0 h = some h9) : jx_Ct yX10_laysAgain cX10_laysAgain 3 none rmX10_laysAgain [.ref l0] h (fun r' h' => none = r' ∧ h9 = h') := by
  refine jx_Ct.of (own := RX10) (by decide) rfl (Nat.le_of_ble_eq_true rfl) (fun X C hq hr hL hN => ?_)
  refine jx_sub (lv' := [(0, .ref l0)]) [0] rfl ?_
  unfold FX10_laysAgain at e
  refine j_aload_n C dX10_laysAgain_0 rfl rfl ?_
  replace e := ob e
  obtain ⟨_, eo14, e⟩ := e
  replace e := ob e
  obtain ⟨h15, eh15, e⟩ := e
  refine j_callV (ci := 10) (RC := RX10) (T := TX10) (N := 38) (As := []) (b := l0) (na := 0) (st := []) (k1 := 0) (n1 := 0) C hr (sX10_laysBorder eh15) rfl eo14 kX10_94 kim_X10_laysBorder ksel_X10_laysBorder kini_X10 kc_X10_laysBorder (by decide) rfl ⟨(Nat.le_of_ble_eq_true rfl), (Nat.le_of_ble_eq_true rfl)⟩ (Nat.le_of_ble_eq_true rfl) ⟨rfl, rfl, (Nat.le_of_ble_eq_true rfl), (Nat.le_of_ble_eq_true rfl)⟩ dX10_laysAgain_1 ?_
  rintro _ _ ⟨rfl, rfl⟩
  show jx_J X 0 0 4 [(0, .ref l0)] [] h15
  refine j_iconst (v := (0 : Int32)) C dX10_laysAgain_4 (by decide) ?_
  refine j_istore_n (lv1 := [(1, .int (0 : Int32)), (0, .ref l0)]) C hL dX10_laysAgain_5 rfl (Nat.le_of_ble_eq_true rfl) rfl ?_
  refine jx_sub (lv' := [(0, .ref l0), (1, .int (0 : Int32))]) [1, 0] rfl ?_
  refine itr_ind (s0 := ((0 : Int32), h15)) (fun s : Int32 × jx_H => jx_J X 0 0 6 [(0, .ref l0), (1, .int s.1)] [] s.2) e ?_
  clear e
  intro s kI3 kT3 e0
  obtain ⟨z16, h17⟩ := s
  obtain ⟨u3, e0_3⟩ := e0
  have e : LX10_laysAgain_6 l0 z16 h17 = some u3 := e0_3
  unfold LX10_laysAgain_6 at e
  refine j_iload_n C dX10_laysAgain_6 rfl rfl ?_
  refine j_aload_n C dX10_laysAgain_7 rfl rfl ?_
  replace e := ob e
  obtain ⟨x18, ex18, e⟩ := e
  refine j_getr (ci := 10) (RC := RX10) (T := TX10) (N := 38) 1 C rfl klX10 (Nat.le_of_ble_eq_true rfl) kX10_7 rfl dX10_laysAgain_8 ex18 ?_
  refine j_iconst (v := (2 : Int32)) C dX10_laysAgain_11 (by decide) ?_
  replace e := ob e
  obtain ⟨x19, ex19, e⟩ := e
  refine j_iald C dX10_laysAgain_12 ex19 ?_
  refine j_icmp_ge (tgt := 54) C dX10_laysAgain_13 (by decide) (fun c30 => ?_) (fun c30 => ?_)
  · replace e := ifp c30 e
    obtain ⟨t_4, e_4, eu_4⟩ := exL_spec e
    obtain rfl := kT3 t_4 (e0_3.trans (congrArg some eu_4))
    replace e := e_4
    cases e
    exact j_vret C hq dX10_laysAgain_54 ⟨Nat.le_of_ble_eq_true rfl, Nat.le_of_ble_eq_true rfl⟩ ⟨rfl, rfl⟩
  · replace e := ifn c30 e
    refine j_iconst (v := (0 : Int32)) C dX10_laysAgain_16 (by decide) ?_
    refine j_istore_n (lv1 := [(2, .int (0 : Int32)), (0, .ref l0), (1, .int z16)]) C hL dX10_laysAgain_17 rfl (Nat.le_of_ble_eq_true rfl) rfl ?_
    refine jx_sub (lv' := [(0, .ref l0), (1, .int z16), (2, .int (0 : Int32))]) [1, 2, 0] rfl ?_
    refine itr_ind (s0 := ((0 : Int32), h17)) (fun s : Int32 × jx_H => jx_J X 0 0 18 [(0, .ref l0), (1, .int z16), (2, .int s.1)] [] s.2) e ?_
    clear e
    intro s kI5 kT5 e0
    obtain ⟨z20, h21⟩ := s
    obtain ⟨u5, e0_5⟩ := e0
    have e : LX10_laysAgain_18 l0 z16 z20 h21 = some u5 := e0_5
    unfold LX10_laysAgain_18 at e
    refine j_iload_n C dX10_laysAgain_18 rfl rfl ?_
    refine j_aload_n C dX10_laysAgain_19 rfl rfl ?_
    replace e := ob e
    obtain ⟨_, eo22, e⟩ := e
    replace e := ob e
    obtain ⟨x23, ex23, e⟩ := e
    refine j_callV (ci := 10) (RC := RX10) (T := TX10) (N := 38) (As := []) (b := l0) (na := 0) (st := [.int z20]) (k1 := 0) (n1 := 0) C hr (sX10_n ex23) rfl eo22 kX10_105 kim_X10_n ksel_X10_n kini_X10 kc_X10_n (by decide) rfl ⟨(Nat.le_of_ble_eq_true rfl), (Nat.le_of_ble_eq_true rfl)⟩ (Nat.le_of_ble_eq_true rfl) ⟨rfl, rfl, (Nat.le_of_ble_eq_true rfl), (Nat.le_of_ble_eq_true rfl)⟩ dX10_laysAgain_20 ?_
    rintro _ _ ⟨rfl, rfl⟩
    show jx_J X 0 0 23 [(0, .ref l0), (1, .int z16), (2, .int z20)] [.int x23, .int z20] h21
    refine j_icmp_ge (tgt := 48) C dX10_laysAgain_23 (by decide) (fun c29 => ?_) (fun c29 => ?_)
    · replace e := ifp c29 e
      obtain ⟨t_6, e_6, eu_6⟩ := exL_spec e
      obtain rfl := kT5 t_6 (e0_5.trans (congrArg some eu_6))
      replace e := e_6
      refine j_iinc (v := (z16 + (1 : Int32))) (lv1 := [(1, .int (z16 + (1 : Int32))), (0, .ref l0), (2, .int z20)]) C hL dX10_laysAgain_48 rfl rfl (Nat.le_of_ble_eq_true rfl) rfl ?_
      refine j_goto (tgt := 6) C dX10_laysAgain_51 (by decide) ?_
      obtain rfl := Option.some.inj e
      refine jx_sub (lv' := [(0, .ref l0), (1, .int (z16 + (1 : Int32)))]) [1, 0] rfl ?_
      exact kI3 ((z16 + (1 : Int32)), h21) e0_3
    · replace e := ifn c29 e
      refine j_aload_n C dX10_laysAgain_26 rfl rfl ?_
      replace e := ob e
      obtain ⟨x24, ex24, e⟩ := e
      refine j_getr (ci := 10) (RC := RX10) (T := TX10) (N := 38) 1 C rfl klX10 (Nat.le_of_ble_eq_true rfl) kX10_7 rfl dX10_laysAgain_27 ex24 ?_
      refine j_iload_n C dX10_laysAgain_30 rfl rfl ?_
      refine j_iload_n C dX10_laysAgain_31 rfl rfl ?_
      replace e := ob e
      obtain ⟨x25, ex25, e⟩ := e
      refine j_callS (As := [.int z16, .int z20]) (na := 2) (st := [.ref x24]) (k1 := 0) (n1 := 0) C hr (sX10_ruleAt ex25) kX10_130 kst_X10_ruleAt kini_X10 kc_X10_ruleAt (by decide) rfl ⟨(Nat.le_of_ble_eq_true rfl), (Nat.le_of_ble_eq_true rfl)⟩ (Nat.le_of_ble_eq_true rfl) ⟨rfl, rfl, (Nat.le_of_ble_eq_true rfl), (Nat.le_of_ble_eq_true rfl)⟩ dX10_laysAgain_32 ?_
      rintro _ _ ⟨rfl, rfl⟩
      show jx_J X 0 0 35 [(0, .ref l0), (1, .int z16), (2, .int z20)] [.int x25, .ref x24] h21
      refine j_aload_n C dX10_laysAgain_35 rfl rfl ?_
      refine j_iload_n C dX10_laysAgain_36 rfl rfl ?_
      refine j_iload_n C dX10_laysAgain_37 rfl rfl ?_
      replace e := ob e
      obtain ⟨_, eo26, e⟩ := e
      replace e := ob e
      obtain ⟨x27, ex27, e⟩ := e
      refine j_callV (ci := 10) (RC := RX10) (T := TX10) (N := 38) (As := [.int z16, .int z20]) (b := l0) (na := 2) (st := [.int x25, .ref x24]) (k1 := 0) (n1 := 0) C hr (sX10_ruleBefore ex27) rfl eo26 kX10_133 kim_X10_ruleBefore ksel_X10_ruleBefore kini_X10 kc_X10_ruleBefore (by decide) rfl ⟨(Nat.le_of_ble_eq_true rfl), (Nat.le_of_ble_eq_true rfl)⟩ (Nat.le_of_ble_eq_true rfl) ⟨rfl, rfl, (Nat.le_of_ble_eq_true rfl), (Nat.le_of_ble_eq_true rfl)⟩ dX10_laysAgain_38 ?_
      rintro _ _ ⟨rfl, rfl⟩
      show jx_J X 0 0 41 [(0, .ref l0), (1, .int z16), (2, .int z20)] [.int x27, .int x25, .ref x24] h21
      replace e := ob e
      obtain ⟨h28, eh28, e⟩ := e
      refine j_iast C dX10_laysAgain_41 eh28 ?_
      refine j_iinc (v := (z20 + (1 : Int32))) (lv1 := [(2, .int (z20 + (1 : Int32))), (0, .ref l0), (1, .int z16)]) C hL dX10_laysAgain_42 rfl rfl (Nat.le_of_ble_eq_true rfl) rfl ?_
      refine j_goto (tgt := 18) C dX10_laysAgain_45 (by decide) ?_
      obtain rfl := Option.some.inj e
      refine jx_sub (lv' := [(0, .ref l0), (1, .int z16), (2, .int (z20 + (1 : Int32)))]) [1, 2, 0] rfl ?_
      exact kI5 ((z20 + (1 : Int32)), h28) e0_5
/-! BorderBasisModel.joins(II)I -/
noncomputable def FX10_joins (l0 : Nat) (l1 : Int32) (l2 : Int32) (h : jx_H) : Option (Int32 × jx_H) :=
(hgr h l0 10 1).bind fun x1 =>
(hgr h l0 10 3).bind fun x2 =>
(FX10_copies x1 (0 : Int32) x2 (0 : Int32) h).bind fun h3 =>
(isO h3 l0 10).bind fun _ =>
bind2 (FX10_placed l0 l1 l2 h3) fun x5 h6 =>
(isO h6 l0 10).bind fun _ =>
(FX10_laysAgain l0 h6).bind fun h8 =>
some (x5, h8)
def rmX10_joins : Room := { frames := 6, cells := 0, slots := 0, locals := 131 }
set_option maxRecDepth 20000 in
set_option maxHeartbeats 4000000 in
theorem sX10_joins {l0 : Nat} {l1 : Int32} {l2 : Int32} {h : jx_H} {r : Int32} {h9 : jx_H} (e : FX10_joins l0 l1 l2 h = some (r, h9)) : jx_Ct yX10_joins cX10_joins 4 (some .int) rmX10_joins [.ref l0, .int l1, .int l2] h (fun r' h' => some (.int r) = r' ∧ h9 = h') := by
  refine jx_Ct.of (own := RX10) (by decide) rfl (Nat.le_of_ble_eq_true rfl) (fun X C hq hr hL hN => ?_)
  refine jx_sub (lv' := [(0, .ref l0), (1, .int l1), (2, .int l2)]) [0, 1, 2] rfl ?_
  unfold FX10_joins at e
  refine j_aload_n C dX10_joins_0 rfl rfl ?_
  replace e := ob e
  obtain ⟨x9, ex9, e⟩ := e
  refine j_getr (ci := 10) (RC := RX10) (T := TX10) (N := 38) 1 C rfl klX10 (Nat.le_of_ble_eq_true rfl) kX10_7 rfl dX10_joins_1 ex9 ?_
  refine j_iconst (v := (0 : Int32)) C dX10_joins_4 (by decide) ?_
  refine j_aload_n C dX10_joins_5 rfl rfl ?_
  replace e := ob e
  obtain ⟨x10, ex10, e⟩ := e
  refine j_getr (ci := 10) (RC := RX10) (T := TX10) (N := 38) 3 C rfl klX10 (Nat.le_of_ble_eq_true rfl) kX10_16 rfl dX10_joins_6 ex10 ?_
  refine j_iconst (v := (0 : Int32)) C dX10_joins_9 (by decide) ?_
  replace e := ob e
  obtain ⟨h11, eh11, e⟩ := e
  refine j_callS (As := [.ref x9, .int (0 : Int32), .ref x10, .int (0 : Int32)]) (na := 4) (st := []) (k1 := 0) (n1 := 0) C hr (sX10_copies eh11) kX10_136 kst_X10_copies kini_X10 kc_X10_copies (by decide) rfl ⟨(Nat.le_of_ble_eq_true rfl), (Nat.le_of_ble_eq_true rfl)⟩ (Nat.le_of_ble_eq_true rfl) ⟨rfl, rfl, (Nat.le_of_ble_eq_true rfl), (Nat.le_of_ble_eq_true rfl)⟩ dX10_joins_10 ?_
  rintro _ _ ⟨rfl, rfl⟩
  show jx_J X 0 0 13 [(0, .ref l0), (1, .int l1), (2, .int l2)] [] h11
  refine j_aload_n C dX10_joins_13 rfl rfl ?_
  refine j_iload_n C dX10_joins_14 rfl rfl ?_
  refine j_iload_n C dX10_joins_15 rfl rfl ?_
  replace e := ob e
  obtain ⟨_, eo12, e⟩ := e
  replace e := ob2 e
  obtain ⟨x13, h14, ex13, e⟩ := e
  refine j_callV (ci := 10) (RC := RX10) (T := TX10) (N := 38) (As := [.int l1, .int l2]) (b := l0) (na := 2) (st := []) (k1 := 0) (n1 := 0) C hr (sX10_placed ex13) rfl eo12 kX10_140 kim_X10_placed ksel_X10_placed kini_X10 kc_X10_placed (by decide) rfl ⟨(Nat.le_of_ble_eq_true rfl), (Nat.le_of_ble_eq_true rfl)⟩ (Nat.le_of_ble_eq_true rfl) ⟨rfl, rfl, (Nat.le_of_ble_eq_true rfl), (Nat.le_of_ble_eq_true rfl)⟩ dX10_joins_16 ?_
  rintro _ _ ⟨rfl, rfl⟩
  show jx_J X 0 0 19 [(0, .ref l0), (1, .int l1), (2, .int l2)] [.int x13] h14
  refine j_istore_n (lv1 := [(3, .int x13), (0, .ref l0), (1, .int l1), (2, .int l2)]) C hL dX10_joins_19 rfl (Nat.le_of_ble_eq_true rfl) rfl ?_
  refine j_aload_n C dX10_joins_20 rfl rfl ?_
  replace e := ob e
  obtain ⟨_, eo15, e⟩ := e
  replace e := ob e
  obtain ⟨h16, eh16, e⟩ := e
  refine j_callV (ci := 10) (RC := RX10) (T := TX10) (N := 38) (As := []) (b := l0) (na := 0) (st := []) (k1 := 0) (n1 := 0) C hr (sX10_laysAgain eh16) rfl eo15 kX10_143 kim_X10_laysAgain ksel_X10_laysAgain kini_X10 kc_X10_laysAgain (by decide) rfl ⟨(Nat.le_of_ble_eq_true rfl), (Nat.le_of_ble_eq_true rfl)⟩ (Nat.le_of_ble_eq_true rfl) ⟨rfl, rfl, (Nat.le_of_ble_eq_true rfl), (Nat.le_of_ble_eq_true rfl)⟩ dX10_joins_21 ?_
  rintro _ _ ⟨rfl, rfl⟩
  show jx_J X 0 0 24 [(3, .int x13), (0, .ref l0), (1, .int l1), (2, .int l2)] [] h16
  refine j_iload_n C dX10_joins_24 rfl rfl ?_
  cases e
  exact j_iret C hq rfl dX10_joins_25 ⟨Nat.le_of_ble_eq_true rfl, Nat.le_of_ble_eq_true rfl⟩ ⟨rfl, rfl⟩
/-! BorderBasisModel.leaves(II)I -/
noncomputable def LX10_leaves_23 (l0 : Nat) (l3 : Int32) (l4 : Int32) (h : jx_H) : Option ((Int32 × jx_H) ⊕ (Int32 × jx_H)) :=
(isO h l0 10).bind fun _ =>
(FX10_n l0 h).bind fun x7 =>
if x7 ≤ (l4 + (1 : Int32)) then
 exL ((hgr h l0 10 1).bind fun x8 =>
 (hal h .int x8 (1 : Int32)).bind fun x9 =>
 (has h .int x8 (1 : Int32) (x9 - (1 : Int32))).bind fun h10 =>
 (isO h10 l0 10).bind fun _ =>
 (FX10_laysAgain l0 h10).bind fun h12 =>
 some (l3, h12))
else
 (hgr h l0 10 1).bind fun x13 =>
 (hgr h l0 10 1).bind fun x14 =>
 (hal h .int x14 (((4 : Int32) + l4) + (1 : Int32))).bind fun x15 =>
 (has h .int x13 ((4 : Int32) + l4) x15).bind fun h16 =>
 (hgr h16 l0 10 1).bind fun x17 =>
 (hgr h16 l0 10 1).bind fun x18 =>
 (hal h16 .int x18 (((16 : Int32) + l4) + (1 : Int32))).bind fun x19 =>
 (has h16 .int x17 ((16 : Int32) + l4) x19).bind fun h20 =>
 some (.inl ((l4 + (1 : Int32)), h20))
noncomputable def FX10_leaves (l0 : Nat) (l1 : Int32) (l2 : Int32) (h : jx_H) : Option (Int32 × jx_H) :=
(hgr h l0 10 1).bind fun x1 =>
(hgr h l0 10 3).bind fun x2 =>
(FX10_copies x1 (0 : Int32) x2 (0 : Int32) h).bind fun h3 =>
(isO h3 l0 10).bind fun _ =>
(FX10_monomialAt l0 l1 l2 h3).bind fun x5 =>
itr (fun s : Int32 × jx_H => LX10_leaves_23 l0 x5 s.1 s.2) (x5, h3)
def rmX10_leaves : Room := { frames := 6, cells := 0, slots := 0, locals := 131 }
set_option maxRecDepth 20000 in
set_option maxHeartbeats 4000000 in
theorem sX10_leaves {l0 : Nat} {l1 : Int32} {l2 : Int32} {h : jx_H} {r : Int32} {h9 : jx_H} (e : FX10_leaves l0 l1 l2 h = some (r, h9)) : jx_Ct yX10_leaves cX10_leaves 5 (some .int) rmX10_leaves [.ref l0, .int l1, .int l2] h (fun r' h' => some (.int r) = r' ∧ h9 = h') := by
  refine jx_Ct.of (own := RX10) (by decide) rfl (Nat.le_of_ble_eq_true rfl) (fun X C hq hr hL hN => ?_)
  refine jx_sub (lv' := [(0, .ref l0), (1, .int l1), (2, .int l2)]) [0, 1, 2] rfl ?_
  unfold FX10_leaves at e
  refine j_aload_n C dX10_leaves_0 rfl rfl ?_
  replace e := ob e
  obtain ⟨x22, ex22, e⟩ := e
  refine j_getr (ci := 10) (RC := RX10) (T := TX10) (N := 38) 1 C rfl klX10 (Nat.le_of_ble_eq_true rfl) kX10_7 rfl dX10_leaves_1 ex22 ?_
  refine j_iconst (v := (0 : Int32)) C dX10_leaves_4 (by decide) ?_
  refine j_aload_n C dX10_leaves_5 rfl rfl ?_
  replace e := ob e
  obtain ⟨x23, ex23, e⟩ := e
  refine j_getr (ci := 10) (RC := RX10) (T := TX10) (N := 38) 3 C rfl klX10 (Nat.le_of_ble_eq_true rfl) kX10_16 rfl dX10_leaves_6 ex23 ?_
  refine j_iconst (v := (0 : Int32)) C dX10_leaves_9 (by decide) ?_
  replace e := ob e
  obtain ⟨h24, eh24, e⟩ := e
  refine j_callS (As := [.ref x22, .int (0 : Int32), .ref x23, .int (0 : Int32)]) (na := 4) (st := []) (k1 := 0) (n1 := 0) C hr (sX10_copies eh24) kX10_136 kst_X10_copies kini_X10 kc_X10_copies (by decide) rfl ⟨(Nat.le_of_ble_eq_true rfl), (Nat.le_of_ble_eq_true rfl)⟩ (Nat.le_of_ble_eq_true rfl) ⟨rfl, rfl, (Nat.le_of_ble_eq_true rfl), (Nat.le_of_ble_eq_true rfl)⟩ dX10_leaves_10 ?_
  rintro _ _ ⟨rfl, rfl⟩
  show jx_J X 0 0 13 [(0, .ref l0), (1, .int l1), (2, .int l2)] [] h24
  refine j_aload_n C dX10_leaves_13 rfl rfl ?_
  refine j_iload_n C dX10_leaves_14 rfl rfl ?_
  refine j_iload_n C dX10_leaves_15 rfl rfl ?_
  replace e := ob e
  obtain ⟨_, eo25, e⟩ := e
  replace e := ob e
  obtain ⟨x26, ex26, e⟩ := e
  refine j_callV (ci := 10) (RC := RX10) (T := TX10) (N := 38) (As := [.int l1, .int l2]) (b := l0) (na := 2) (st := []) (k1 := 0) (n1 := 0) C hr (sX10_monomialAt ex26) rfl eo25 kX10_108 kim_X10_monomialAt ksel_X10_monomialAt kini_X10 kc_X10_monomialAt (by decide) rfl ⟨(Nat.le_of_ble_eq_true rfl), (Nat.le_of_ble_eq_true rfl)⟩ (Nat.le_of_ble_eq_true rfl) ⟨rfl, rfl, (Nat.le_of_ble_eq_true rfl), (Nat.le_of_ble_eq_true rfl)⟩ dX10_leaves_16 ?_
  rintro _ _ ⟨rfl, rfl⟩
  show jx_J X 0 0 19 [(0, .ref l0), (1, .int l1), (2, .int l2)] [.int x26] h24
  refine j_istore_n (lv1 := [(3, .int x26), (0, .ref l0), (1, .int l1), (2, .int l2)]) C hL dX10_leaves_19 rfl (Nat.le_of_ble_eq_true rfl) rfl ?_
  refine j_iload_n C dX10_leaves_20 rfl rfl ?_
  refine j_istore (lv1 := [(4, .int x26), (3, .int x26), (0, .ref l0), (1, .int l1), (2, .int l2)]) C hL dX10_leaves_21 (Nat.le_of_ble_eq_true rfl) rfl ?_
  refine jx_sub (lv' := [(0, .ref l0), (3, .int x26), (4, .int x26)]) [2, 1, 0] rfl ?_
  refine itr_ind (s0 := (x26, h24)) (fun s : Int32 × jx_H => jx_J X 0 0 23 [(0, .ref l0), (3, .int x26), (4, .int s.1)] [] s.2) e ?_
  clear e
  intro s kI2 kT2 e0
  obtain ⟨z27, h28⟩ := s
  obtain ⟨u2, e0_2⟩ := e0
  have e : LX10_leaves_23 l0 x26 z27 h28 = some u2 := e0_2
  unfold LX10_leaves_23 at e
  refine j_iload C dX10_leaves_23 rfl ?_
  refine j_iconst (v := (1 : Int32)) C dX10_leaves_25 (by decide) ?_
  refine j_iadd C dX10_leaves_26 ?_
  refine j_aload_n C dX10_leaves_27 rfl rfl ?_
  replace e := ob e
  obtain ⟨_, eo29, e⟩ := e
  replace e := ob e
  obtain ⟨x30, ex30, e⟩ := e
  refine j_callV (ci := 10) (RC := RX10) (T := TX10) (N := 38) (As := []) (b := l0) (na := 0) (st := [.int (z27 + (1 : Int32))]) (k1 := 0) (n1 := 0) C hr (sX10_n ex30) rfl eo29 kX10_105 kim_X10_n ksel_X10_n kini_X10 kc_X10_n (by decide) rfl ⟨(Nat.le_of_ble_eq_true rfl), (Nat.le_of_ble_eq_true rfl)⟩ (Nat.le_of_ble_eq_true rfl) ⟨rfl, rfl, (Nat.le_of_ble_eq_true rfl), (Nat.le_of_ble_eq_true rfl)⟩ dX10_leaves_28 ?_
  rintro _ _ ⟨rfl, rfl⟩
  show jx_J X 0 0 31 [(0, .ref l0), (3, .int x26), (4, .int z27)] [.int x30, .int (z27 + (1 : Int32))] h28
  refine j_icmp_ge (tgt := 82) C dX10_leaves_31 (by decide) (fun c44 => ?_) (fun c44 => ?_)
  · replace e := ifp c44 e
    obtain ⟨t_3, e_3, eu_3⟩ := exL_spec e
    obtain rfl := kT2 t_3 (e0_2.trans (congrArg some eu_3))
    replace e := e_3
    refine j_aload_n C dX10_leaves_82 rfl rfl ?_
    replace e := ob e
    obtain ⟨x31, ex31, e⟩ := e
    refine j_getr (ci := 10) (RC := RX10) (T := TX10) (N := 38) 1 C rfl klX10 (Nat.le_of_ble_eq_true rfl) kX10_7 rfl dX10_leaves_83 ex31 ?_
    refine j_iconst (v := (1 : Int32)) C dX10_leaves_86 (by decide) ?_
    refine j_dup2 C dX10_leaves_87 rfl rfl ?_
    replace e := ob e
    obtain ⟨x32, ex32, e⟩ := e
    refine j_iald C dX10_leaves_88 ex32 ?_
    refine j_iconst (v := (1 : Int32)) C dX10_leaves_89 (by decide) ?_
    refine j_isub C dX10_leaves_90 ?_
    replace e := ob e
    obtain ⟨h33, eh33, e⟩ := e
    refine j_iast C dX10_leaves_91 eh33 ?_
    refine j_aload_n C dX10_leaves_92 rfl rfl ?_
    replace e := ob e
    obtain ⟨_, eo34, e⟩ := e
    replace e := ob e
    obtain ⟨h35, eh35, e⟩ := e
    refine j_callV (ci := 10) (RC := RX10) (T := TX10) (N := 38) (As := []) (b := l0) (na := 0) (st := []) (k1 := 0) (n1 := 0) C hr (sX10_laysAgain eh35) rfl eo34 kX10_143 kim_X10_laysAgain ksel_X10_laysAgain kini_X10 kc_X10_laysAgain (by decide) rfl ⟨(Nat.le_of_ble_eq_true rfl), (Nat.le_of_ble_eq_true rfl)⟩ (Nat.le_of_ble_eq_true rfl) ⟨rfl, rfl, (Nat.le_of_ble_eq_true rfl), (Nat.le_of_ble_eq_true rfl)⟩ dX10_leaves_93 ?_
    rintro _ _ ⟨rfl, rfl⟩
    show jx_J X 0 0 96 [(0, .ref l0), (3, .int x26), (4, .int z27)] [] h35
    refine j_iload_n C dX10_leaves_96 rfl rfl ?_
    cases e
    exact j_iret C hq rfl dX10_leaves_97 ⟨Nat.le_of_ble_eq_true rfl, Nat.le_of_ble_eq_true rfl⟩ ⟨rfl, rfl⟩
  · replace e := ifn c44 e
    refine j_aload_n C dX10_leaves_34 rfl rfl ?_
    replace e := ob e
    obtain ⟨x36, ex36, e⟩ := e
    refine j_getr (ci := 10) (RC := RX10) (T := TX10) (N := 38) 1 C rfl klX10 (Nat.le_of_ble_eq_true rfl) kX10_7 rfl dX10_leaves_35 ex36 ?_
    refine j_iconst (v := (4 : Int32)) C dX10_leaves_38 (by decide) ?_
    refine j_iload C dX10_leaves_39 rfl ?_
    refine j_iadd C dX10_leaves_41 ?_
    refine j_aload_n C dX10_leaves_42 rfl rfl ?_
    replace e := ob e
    obtain ⟨x37, ex37, e⟩ := e
    refine j_getr (ci := 10) (RC := RX10) (T := TX10) (N := 38) 1 C rfl klX10 (Nat.le_of_ble_eq_true rfl) kX10_7 rfl dX10_leaves_43 ex37 ?_
    refine j_iconst (v := (4 : Int32)) C dX10_leaves_46 (by decide) ?_
    refine j_iload C dX10_leaves_47 rfl ?_
    refine j_iadd C dX10_leaves_49 ?_
    refine j_iconst (v := (1 : Int32)) C dX10_leaves_50 (by decide) ?_
    refine j_iadd C dX10_leaves_51 ?_
    replace e := ob e
    obtain ⟨x38, ex38, e⟩ := e
    refine j_iald C dX10_leaves_52 ex38 ?_
    replace e := ob e
    obtain ⟨h39, eh39, e⟩ := e
    refine j_iast C dX10_leaves_53 eh39 ?_
    refine j_aload_n C dX10_leaves_54 rfl rfl ?_
    replace e := ob e
    obtain ⟨x40, ex40, e⟩ := e
    refine j_getr (ci := 10) (RC := RX10) (T := TX10) (N := 38) 1 C rfl klX10 (Nat.le_of_ble_eq_true rfl) kX10_7 rfl dX10_leaves_55 ex40 ?_
    refine j_bipush (v := (16 : Int32)) C dX10_leaves_58 (by decide) ?_
    refine j_iload C dX10_leaves_60 rfl ?_
    refine j_iadd C dX10_leaves_62 ?_
    refine j_aload_n C dX10_leaves_63 rfl rfl ?_
    replace e := ob e
    obtain ⟨x41, ex41, e⟩ := e
    refine j_getr (ci := 10) (RC := RX10) (T := TX10) (N := 38) 1 C rfl klX10 (Nat.le_of_ble_eq_true rfl) kX10_7 rfl dX10_leaves_64 ex41 ?_
    refine j_bipush (v := (16 : Int32)) C dX10_leaves_67 (by decide) ?_
    refine j_iload C dX10_leaves_69 rfl ?_
    refine j_iadd C dX10_leaves_71 ?_
    refine j_iconst (v := (1 : Int32)) C dX10_leaves_72 (by decide) ?_
    refine j_iadd C dX10_leaves_73 ?_
    replace e := ob e
    obtain ⟨x42, ex42, e⟩ := e
    refine j_iald C dX10_leaves_74 ex42 ?_
    replace e := ob e
    obtain ⟨h43, eh43, e⟩ := e
    refine j_iast C dX10_leaves_75 eh43 ?_
    refine j_iinc (v := (z27 + (1 : Int32))) (lv1 := [(4, .int (z27 + (1 : Int32))), (0, .ref l0), (3, .int x26)]) C hL dX10_leaves_76 rfl rfl (Nat.le_of_ble_eq_true rfl) rfl ?_
    refine j_goto (tgt := 23) C dX10_leaves_79 (by decide) ?_
    obtain rfl := Option.some.inj e
    refine jx_sub (lv' := [(0, .ref l0), (3, .int x26), (4, .int (z27 + (1 : Int32)))]) [1, 2, 0] rfl ?_
    exact kI2 ((z27 + (1 : Int32)), h43) e0_2
/-! BorderBasisModel.appendText(I)I -/
noncomputable def LX10_appendText_33 (l0 : Nat) (l1 : Int32) (l2 : Int32) (h : jx_H) : Option ((Int32 × jx_H) ⊕ (Int32 × jx_H)) :=
if l2 < 0 then
 exL ((hgi h l0 10 10).bind fun x3 =>
 some (x3, h))
else
 (hgr h l0 10 9).bind fun x4 =>
 (hgi h l0 10 10).bind fun x5 =>
 (has h .byte x4 x5 (vp_nar .byte ((l1 >>> (l2 &&& 31)).toInt8.toInt32))).bind fun h6 =>
 (hgi h6 l0 10 10).bind fun x7 =>
 (hp h6 l0 10 10 (.int (x7 + (1 : Int32)))).bind fun h8 =>
 some (.inl ((l2 + (-8 : Int32)), h8))
noncomputable def BX10_appendText_18 (l0 : Nat) (l1 : Int32) (s0 : Nat) (s1 : Int32) (h : jx_H) : Option (Int32 × jx_H) :=
(hp h s0 10 0 (.int s1)).bind fun h1 =>
(hgi h1 l0 10 0).bind fun x2 =>
if x2 ≤ 0 then
 itr (fun s : Int32 × jx_H => LX10_appendText_33 l0 l1 s.1 s.2) ((24 : Int32), h1)
else
 some ((0 : Int32), h1)
noncomputable def FX10_appendText (l0 : Nat) (l1 : Int32) (h : jx_H) : Option (Int32 × jx_H) :=
(hgi h l0 10 10).bind fun x11 =>
if (900 : Int32) < (x11 + (4 : Int32)) then
 BX10_appendText_18 l0 l1 l0 (1 : Int32) h
else
 BX10_appendText_18 l0 l1 l0 (0 : Int32) h
def rmX10_appendText : Room := { frames := 0, cells := 0, slots := 0, locals := 0 }
set_option maxRecDepth 20000 in
set_option maxHeartbeats 4000000 in
theorem sX10_appendText {l0 : Nat} {l1 : Int32} {h : jx_H} {r : Int32} {h9 : jx_H} (e : FX10_appendText l0 l1 h = some (r, h9)) : jx_Ct yX10_appendText cX10_appendText 3 (some .int) rmX10_appendText [.ref l0, .int l1] h (fun r' h' => some (.int r) = r' ∧ h9 = h') := by
  refine jx_Ct.of (own := RX10) (by decide) rfl (Nat.le_of_ble_eq_true rfl) (fun X C hq hr hL hN => ?_)
  refine jx_sub (lv' := [(0, .ref l0), (1, .int l1)]) [0, 1] rfl ?_
  have b18 : ∀ (y13 : Nat) (y14 : Int32) (y15 : Nat) (y16 : Int32) (h17 : jx_H), BX10_appendText_18 y13 y14 y15 y16 h17 = some (r, h9) → jx_J X 0 0 18 [(0, .ref y13), (1, .int y14)] [.int y16, .ref y15] h17 := by
    intro y13 y14 y15 y16 h17 e
    unfold BX10_appendText_18 at e
    replace e := ob e
    obtain ⟨h18, eh18, e⟩ := e
    refine j_put (ci := 10) (RC := RX10) (T := TX10) (N := 38) (ty0 := tyX10) 0 C rfl klX10 tyX10_ok nmX10 (Nat.le_of_ble_eq_true rfl) kX10_91 rfl rfl rfl rfl dX10_appendText_18 eh18 ?_
    refine j_aload_n C dX10_appendText_21 rfl rfl ?_
    replace e := ob e
    obtain ⟨x19, ex19, e⟩ := e
    refine j_geti (ci := 10) (RC := RX10) (T := TX10) (N := 38) 0 C rfl klX10 (Nat.le_of_ble_eq_true rfl) kX10_91 rfl dX10_appendText_22 ex19 ?_
    refine j_if_le (tgt := 30) C dX10_appendText_25 (by decide) (fun c29 => ?_) (fun c29 => ?_)
    · replace e := ifp c29 e
      refine j_bipush (v := (24 : Int32)) C dX10_appendText_30 (by decide) ?_
      refine j_istore_n (lv1 := [(2, .int (24 : Int32)), (0, .ref y13), (1, .int y14)]) C hL dX10_appendText_32 rfl (Nat.le_of_ble_eq_true rfl) rfl ?_
      refine jx_sub (lv' := [(0, .ref y13), (1, .int y14), (2, .int (24 : Int32))]) [1, 2, 0] rfl ?_
      refine itr_ind (s0 := ((24 : Int32), h18)) (fun s : Int32 × jx_H => jx_J X 0 0 33 [(0, .ref y13), (1, .int y14), (2, .int s.1)] [] s.2) e ?_
      clear e
      intro s kI2 kT2 e0
      obtain ⟨z20, h21⟩ := s
      obtain ⟨u2, e0_2⟩ := e0
      have e : LX10_appendText_33 y13 y14 z20 h21 = some u2 := e0_2
      unfold LX10_appendText_33 at e
      refine j_iload_n C dX10_appendText_33 rfl rfl ?_
      refine j_if_lt (tgt := 66) C dX10_appendText_34 (by decide) (fun c28 => ?_) (fun c28 => ?_)
      · replace e := ifp c28 e
        obtain ⟨t_3, e_3, eu_3⟩ := exL_spec e
        obtain rfl := kT2 t_3 (e0_2.trans (congrArg some eu_3))
        replace e := e_3
        refine j_aload_n C dX10_appendText_66 rfl rfl ?_
        replace e := ob e
        obtain ⟨x22, ex22, e⟩ := e
        refine j_geti (ci := 10) (RC := RX10) (T := TX10) (N := 38) 10 C rfl klX10 (Nat.le_of_ble_eq_true rfl) kX10_146 rfl dX10_appendText_67 ex22 ?_
        cases e
        exact j_iret C hq rfl dX10_appendText_70 ⟨Nat.le_of_ble_eq_true rfl, Nat.le_of_ble_eq_true rfl⟩ ⟨rfl, rfl⟩
      · replace e := ifn c28 e
        refine j_aload_n C dX10_appendText_37 rfl rfl ?_
        replace e := ob e
        obtain ⟨x23, ex23, e⟩ := e
        refine j_getr (ci := 10) (RC := RX10) (T := TX10) (N := 38) 9 C rfl klX10 (Nat.le_of_ble_eq_true rfl) kX10_32 rfl dX10_appendText_38 ex23 ?_
        refine j_aload_n C dX10_appendText_41 rfl rfl ?_
        replace e := ob e
        obtain ⟨x24, ex24, e⟩ := e
        refine j_geti (ci := 10) (RC := RX10) (T := TX10) (N := 38) 10 C rfl klX10 (Nat.le_of_ble_eq_true rfl) kX10_146 rfl dX10_appendText_42 ex24 ?_
        refine j_iload_n C dX10_appendText_45 rfl rfl ?_
        refine j_iload_n C dX10_appendText_46 rfl rfl ?_
        refine j_ishr C dX10_appendText_47 ?_
        refine j_i2b C dX10_appendText_48 ?_
        replace e := ob e
        obtain ⟨h25, eh25, e⟩ := e
        refine j_bast C dX10_appendText_49 eh25 ?_
        refine j_aload_n C dX10_appendText_50 rfl rfl ?_
        refine j_dup C dX10_appendText_51 rfl ?_
        replace e := ob e
        obtain ⟨x26, ex26, e⟩ := e
        refine j_geti (ci := 10) (RC := RX10) (T := TX10) (N := 38) 10 C rfl klX10 (Nat.le_of_ble_eq_true rfl) kX10_146 rfl dX10_appendText_52 ex26 ?_
        refine j_iconst (v := (1 : Int32)) C dX10_appendText_55 (by decide) ?_
        refine j_iadd C dX10_appendText_56 ?_
        replace e := ob e
        obtain ⟨h27, eh27, e⟩ := e
        refine j_put (ci := 10) (RC := RX10) (T := TX10) (N := 38) (ty0 := tyX10) 10 C rfl klX10 tyX10_ok nmX10 (Nat.le_of_ble_eq_true rfl) kX10_146 rfl rfl rfl rfl dX10_appendText_57 eh27 ?_
        refine j_iinc (v := (z20 + (-8 : Int32))) (lv1 := [(2, .int (z20 + (-8 : Int32))), (0, .ref y13), (1, .int y14)]) C hL dX10_appendText_60 rfl rfl (Nat.le_of_ble_eq_true rfl) rfl ?_
        refine j_goto (tgt := 33) C dX10_appendText_63 (by decide) ?_
        obtain rfl := Option.some.inj e
        refine jx_sub (lv' := [(0, .ref y13), (1, .int y14), (2, .int (z20 + (-8 : Int32)))]) [1, 2, 0] rfl ?_
        exact kI2 ((z20 + (-8 : Int32)), h27) e0_2
    · replace e := ifn c29 e
      refine j_iconst (v := (0 : Int32)) C dX10_appendText_28 (by decide) ?_
      cases e
      exact j_iret C hq rfl dX10_appendText_29 ⟨Nat.le_of_ble_eq_true rfl, Nat.le_of_ble_eq_true rfl⟩ ⟨rfl, rfl⟩
  unfold FX10_appendText at e
  refine j_aload_n C dX10_appendText_0 rfl rfl ?_
  refine j_aload_n C dX10_appendText_1 rfl rfl ?_
  replace e := ob e
  obtain ⟨x30, ex30, e⟩ := e
  refine j_geti (ci := 10) (RC := RX10) (T := TX10) (N := 38) 10 C rfl klX10 (Nat.le_of_ble_eq_true rfl) kX10_146 rfl dX10_appendText_2 ex30 ?_
  refine j_iconst (v := (4 : Int32)) C dX10_appendText_5 (by decide) ?_
  refine j_iadd C dX10_appendText_6 ?_
  refine j_sipush (v := (900 : Int32)) C dX10_appendText_7 (by decide) ?_
  refine j_icmp_gt (tgt := 17) C dX10_appendText_10 (by decide) (fun c31 => ?_) (fun c31 => ?_)
  · replace e := ifp c31 e
    refine j_iconst (v := (1 : Int32)) C dX10_appendText_17 (by decide) ?_
    exact b18 l0 l1 l0 (1 : Int32) h e
  · replace e := ifn c31 e
    refine j_iconst (v := (0 : Int32)) C dX10_appendText_13 (by decide) ?_
    refine j_goto (tgt := 18) C dX10_appendText_14 (by decide) ?_
    exact b18 l0 l1 l0 (0 : Int32) h e
/-! BorderBasisModel.truncateText(I)I -/
noncomputable def BX10_truncateText_18 (l0 : Nat) (l1 : Int32) (s0 : Nat) (s1 : Int32) (h : jx_H) : Option (Int32 × jx_H) :=
(hp h s0 10 0 (.int s1)).bind fun h1 =>
(hgi h1 l0 10 0).bind fun x2 =>
if x2 ≤ 0 then
 (hp h1 l0 10 10 (.int l1)).bind fun h3 =>
 (hgi h3 l0 10 10).bind fun x4 =>
 some (x4, h3)
else
 some ((0 : Int32), h1)
noncomputable def FX10_truncateText (l0 : Nat) (l1 : Int32) (h : jx_H) : Option (Int32 × jx_H) :=
(hgi h l0 10 10).bind fun x6 =>
(FX10_in l1 (0 : Int32) x6 h).bind fun x7 =>
if x7 = 0 then
 BX10_truncateText_18 l0 l1 l0 (1 : Int32) h
else
 BX10_truncateText_18 l0 l1 l0 (0 : Int32) h
def rmX10_truncateText : Room := { frames := 1, cells := 0, slots := 0, locals := 22 }
set_option maxRecDepth 20000 in
set_option maxHeartbeats 4000000 in
theorem sX10_truncateText {l0 : Nat} {l1 : Int32} {h : jx_H} {r : Int32} {h9 : jx_H} (e : FX10_truncateText l0 l1 h = some (r, h9)) : jx_Ct yX10_truncateText cX10_truncateText 2 (some .int) rmX10_truncateText [.ref l0, .int l1] h (fun r' h' => some (.int r) = r' ∧ h9 = h') := by
  refine jx_Ct.of (own := RX10) (by decide) rfl (Nat.le_of_ble_eq_true rfl) (fun X C hq hr hL hN => ?_)
  refine jx_sub (lv' := [(0, .ref l0), (1, .int l1)]) [0, 1] rfl ?_
  have b18 : ∀ (y9 : Nat) (y10 : Int32) (y11 : Nat) (y12 : Int32) (h13 : jx_H), BX10_truncateText_18 y9 y10 y11 y12 h13 = some (r, h9) → jx_J X 0 0 18 [(0, .ref y9), (1, .int y10)] [.int y12, .ref y11] h13 := by
    intro y9 y10 y11 y12 h13 e
    unfold BX10_truncateText_18 at e
    replace e := ob e
    obtain ⟨h14, eh14, e⟩ := e
    refine j_put (ci := 10) (RC := RX10) (T := TX10) (N := 38) (ty0 := tyX10) 0 C rfl klX10 tyX10_ok nmX10 (Nat.le_of_ble_eq_true rfl) kX10_91 rfl rfl rfl rfl dX10_truncateText_18 eh14 ?_
    refine j_aload_n C dX10_truncateText_21 rfl rfl ?_
    replace e := ob e
    obtain ⟨x15, ex15, e⟩ := e
    refine j_geti (ci := 10) (RC := RX10) (T := TX10) (N := 38) 0 C rfl klX10 (Nat.le_of_ble_eq_true rfl) kX10_91 rfl dX10_truncateText_22 ex15 ?_
    refine j_if_le (tgt := 30) C dX10_truncateText_25 (by decide) (fun c18 => ?_) (fun c18 => ?_)
    · replace e := ifp c18 e
      refine j_aload_n C dX10_truncateText_30 rfl rfl ?_
      refine j_iload_n C dX10_truncateText_31 rfl rfl ?_
      replace e := ob e
      obtain ⟨h16, eh16, e⟩ := e
      refine j_put (ci := 10) (RC := RX10) (T := TX10) (N := 38) (ty0 := tyX10) 10 C rfl klX10 tyX10_ok nmX10 (Nat.le_of_ble_eq_true rfl) kX10_146 rfl rfl rfl rfl dX10_truncateText_32 eh16 ?_
      refine j_aload_n C dX10_truncateText_35 rfl rfl ?_
      replace e := ob e
      obtain ⟨x17, ex17, e⟩ := e
      refine j_geti (ci := 10) (RC := RX10) (T := TX10) (N := 38) 10 C rfl klX10 (Nat.le_of_ble_eq_true rfl) kX10_146 rfl dX10_truncateText_36 ex17 ?_
      cases e
      exact j_iret C hq rfl dX10_truncateText_39 ⟨Nat.le_of_ble_eq_true rfl, Nat.le_of_ble_eq_true rfl⟩ ⟨rfl, rfl⟩
    · replace e := ifn c18 e
      refine j_iconst (v := (0 : Int32)) C dX10_truncateText_28 (by decide) ?_
      cases e
      exact j_iret C hq rfl dX10_truncateText_29 ⟨Nat.le_of_ble_eq_true rfl, Nat.le_of_ble_eq_true rfl⟩ ⟨rfl, rfl⟩
  unfold FX10_truncateText at e
  refine j_aload_n C dX10_truncateText_0 rfl rfl ?_
  refine j_iload_n C dX10_truncateText_1 rfl rfl ?_
  refine j_iconst (v := (0 : Int32)) C dX10_truncateText_2 (by decide) ?_
  refine j_aload_n C dX10_truncateText_3 rfl rfl ?_
  replace e := ob e
  obtain ⟨x19, ex19, e⟩ := e
  refine j_geti (ci := 10) (RC := RX10) (T := TX10) (N := 38) 10 C rfl klX10 (Nat.le_of_ble_eq_true rfl) kX10_146 rfl dX10_truncateText_4 ex19 ?_
  replace e := ob e
  obtain ⟨x20, ex20, e⟩ := e
  refine j_callS (As := [.int l1, .int (0 : Int32), .int x19]) (na := 3) (st := [.ref l0]) (k1 := 0) (n1 := 0) C hr (sX10_in ex20) kX10_101 kst_X10_in kini_X10 kc_X10_in (by decide) rfl ⟨(Nat.le_of_ble_eq_true rfl), (Nat.le_of_ble_eq_true rfl)⟩ (Nat.le_of_ble_eq_true rfl) ⟨rfl, rfl, (Nat.le_of_ble_eq_true rfl), (Nat.le_of_ble_eq_true rfl)⟩ dX10_truncateText_7 ?_
  rintro _ _ ⟨rfl, rfl⟩
  show jx_J X 0 0 10 [(0, .ref l0), (1, .int l1)] [.int x20, .ref l0] h
  refine j_if_eq (tgt := 17) C dX10_truncateText_10 (by decide) (fun c21 => ?_) (fun c21 => ?_)
  · replace e := ifp c21 e
    refine j_iconst (v := (1 : Int32)) C dX10_truncateText_17 (by decide) ?_
    exact b18 l0 l1 l0 (1 : Int32) h e
  · replace e := ifn c21 e
    refine j_iconst (v := (0 : Int32)) C dX10_truncateText_13 (by decide) ?_
    refine j_goto (tgt := 18) C dX10_truncateText_14 (by decide) ?_
    exact b18 l0 l1 l0 (0 : Int32) h e
/-! BorderBasisModel.see()I -/
noncomputable def FX10_see (l0 : Nat) (h : jx_H) : Option (Int32) :=
(hgi h l0 10 11).bind fun x1 =>
(hgi h l0 10 10).bind fun x2 =>
if x2 ≤ x1 then
 some (-1 : Int32)
else
 (hgr h l0 10 9).bind fun x3 =>
 (hgi h l0 10 11).bind fun x4 =>
 (hal h .byte x3 x4).bind fun x5 =>
 some (x5 &&& (255 : Int32))
def rmX10_see : Room := { frames := 0, cells := 0, slots := 0, locals := 0 }
set_option maxRecDepth 20000 in
set_option maxHeartbeats 4000000 in
theorem sX10_see {l0 : Nat} {h : jx_H} {r : Int32}  (e : FX10_see l0 h = some r) : jx_Ct yX10_see cX10_see 1 (some .int) rmX10_see [.ref l0] h (fun r' h' => some (.int r) = r' ∧ h = h') := by
  refine jx_Ct.of (own := RX10) (by decide) rfl (Nat.le_of_ble_eq_true rfl) (fun X C hq hr hL hN => ?_)
  refine jx_sub (lv' := [(0, .ref l0)]) [0] rfl ?_
  unfold FX10_see at e
  refine j_aload_n C dX10_see_0 rfl rfl ?_
  replace e := ob e
  obtain ⟨x7, ex7, e⟩ := e
  refine j_geti (ci := 10) (RC := RX10) (T := TX10) (N := 38) 11 C rfl klX10 (Nat.le_of_ble_eq_true rfl) kX10_149 rfl dX10_see_1 ex7 ?_
  refine j_aload_n C dX10_see_4 rfl rfl ?_
  replace e := ob e
  obtain ⟨x8, ex8, e⟩ := e
  refine j_geti (ci := 10) (RC := RX10) (T := TX10) (N := 38) 10 C rfl klX10 (Nat.le_of_ble_eq_true rfl) kX10_146 rfl dX10_see_5 ex8 ?_
  refine j_icmp_ge (tgt := 27) C dX10_see_8 (by decide) (fun c12 => ?_) (fun c12 => ?_)
  · replace e := ifp c12 e
    refine j_iconst (v := (-1 : Int32)) C dX10_see_27 (by decide) ?_
    cases e
    exact j_iret C hq rfl dX10_see_28 ⟨Nat.le_of_ble_eq_true rfl, Nat.le_of_ble_eq_true rfl⟩ ⟨rfl, rfl⟩
  · replace e := ifn c12 e
    refine j_aload_n C dX10_see_11 rfl rfl ?_
    replace e := ob e
    obtain ⟨x9, ex9, e⟩ := e
    refine j_getr (ci := 10) (RC := RX10) (T := TX10) (N := 38) 9 C rfl klX10 (Nat.le_of_ble_eq_true rfl) kX10_32 rfl dX10_see_12 ex9 ?_
    refine j_aload_n C dX10_see_15 rfl rfl ?_
    replace e := ob e
    obtain ⟨x10, ex10, e⟩ := e
    refine j_geti (ci := 10) (RC := RX10) (T := TX10) (N := 38) 11 C rfl klX10 (Nat.le_of_ble_eq_true rfl) kX10_149 rfl dX10_see_16 ex10 ?_
    replace e := ob e
    obtain ⟨x11, ex11, e⟩ := e
    refine j_bald C dX10_see_19 ex11 ?_
    refine j_sipush (v := (255 : Int32)) C dX10_see_20 (by decide) ?_
    refine j_iand C dX10_see_23 ?_
    refine j_goto (tgt := 28) C dX10_see_24 (by decide) ?_
    cases e
    exact j_iret C hq rfl dX10_see_28 ⟨Nat.le_of_ble_eq_true rfl, Nat.le_of_ble_eq_true rfl⟩ ⟨rfl, rfl⟩
/-! BorderBasisModel.isSmall()Z -/
noncomputable def FX10_isSmall (l0 : Nat) (h : jx_H) : Option (Int32) :=
(isO h l0 10).bind fun _ =>
(FX10_see l0 h).bind fun x2 =>
(FX10_in x2 (97 : Int32) (122 : Int32) h).bind fun x3 =>
if x3 = 0 ∨ x3 = 1 then some x3 else none
def rmX10_isSmall : Room := { frames := 1, cells := 0, slots := 0, locals := 22 }
set_option maxRecDepth 20000 in
set_option maxHeartbeats 4000000 in
theorem sX10_isSmall {l0 : Nat} {h : jx_H} {r : Int32}  (e : FX10_isSmall l0 h = some r) : jx_Ct yX10_isSmall cX10_isSmall 1 (some .boolean) rmX10_isSmall [.ref l0] h (fun r' h' => some (.int r) = r' ∧ h = h') := by
  refine jx_Ct.of (own := RX10) (by decide) rfl (Nat.le_of_ble_eq_true rfl) (fun X C hq hr hL hN => ?_)
  refine jx_sub (lv' := [(0, .ref l0)]) [0] rfl ?_
  unfold FX10_isSmall at e
  refine j_aload_n C dX10_isSmall_0 rfl rfl ?_
  replace e := ob e
  obtain ⟨_, eo5, e⟩ := e
  replace e := ob e
  obtain ⟨x6, ex6, e⟩ := e
  refine j_callV (ci := 10) (RC := RX10) (T := TX10) (N := 38) (As := []) (b := l0) (na := 0) (st := []) (k1 := 0) (n1 := 0) C hr (sX10_see ex6) rfl eo5 kX10_152 kim_X10_see ksel_X10_see kini_X10 kc_X10_see (by decide) rfl ⟨(Nat.le_of_ble_eq_true rfl), (Nat.le_of_ble_eq_true rfl)⟩ (Nat.le_of_ble_eq_true rfl) ⟨rfl, rfl, (Nat.le_of_ble_eq_true rfl), (Nat.le_of_ble_eq_true rfl)⟩ dX10_isSmall_1 ?_
  rintro _ _ ⟨rfl, rfl⟩
  show jx_J X 0 0 4 [(0, .ref l0)] [.int x6] h
  refine j_bipush (v := (97 : Int32)) C dX10_isSmall_4 (by decide) ?_
  refine j_bipush (v := (122 : Int32)) C dX10_isSmall_6 (by decide) ?_
  replace e := ob e
  obtain ⟨x7, ex7, e⟩ := e
  refine j_callS (As := [.int x6, .int (97 : Int32), .int (122 : Int32)]) (na := 3) (st := []) (k1 := 0) (n1 := 0) C hr (sX10_in ex7) kX10_101 kst_X10_in kini_X10 kc_X10_in (by decide) rfl ⟨(Nat.le_of_ble_eq_true rfl), (Nat.le_of_ble_eq_true rfl)⟩ (Nat.le_of_ble_eq_true rfl) ⟨rfl, rfl, (Nat.le_of_ble_eq_true rfl), (Nat.le_of_ble_eq_true rfl)⟩ dX10_isSmall_8 ?_
  rintro _ _ ⟨rfl, rfl⟩
  show jx_J X 0 0 11 [(0, .ref l0)] [.int x7] h
  by_cases c8 : ¬ (x7 = 0 ∨ x7 = 1)
  · exact nos (ifn c8 e)
  replace c8 := Classical.not_not.mp c8
  replace e := ifp c8 e
  cases e
  exact j_iret C hq (jx_bool c8) dX10_isSmall_11 ⟨Nat.le_of_ble_eq_true rfl, Nat.le_of_ble_eq_true rfl⟩ ⟨rfl, rfl⟩
/-! BorderBasisModel.isDigit()Z -/
noncomputable def FX10_isDigit (l0 : Nat) (h : jx_H) : Option (Int32) :=
(isO h l0 10).bind fun _ =>
(FX10_see l0 h).bind fun x2 =>
(FX10_in x2 (48 : Int32) (57 : Int32) h).bind fun x3 =>
if x3 = 0 ∨ x3 = 1 then some x3 else none
def rmX10_isDigit : Room := { frames := 1, cells := 0, slots := 0, locals := 22 }
set_option maxRecDepth 20000 in
set_option maxHeartbeats 4000000 in
theorem sX10_isDigit {l0 : Nat} {h : jx_H} {r : Int32}  (e : FX10_isDigit l0 h = some r) : jx_Ct yX10_isDigit cX10_isDigit 1 (some .boolean) rmX10_isDigit [.ref l0] h (fun r' h' => some (.int r) = r' ∧ h = h') := by
  refine jx_Ct.of (own := RX10) (by decide) rfl (Nat.le_of_ble_eq_true rfl) (fun X C hq hr hL hN => ?_)
  refine jx_sub (lv' := [(0, .ref l0)]) [0] rfl ?_
  unfold FX10_isDigit at e
  refine j_aload_n C dX10_isDigit_0 rfl rfl ?_
  replace e := ob e
  obtain ⟨_, eo5, e⟩ := e
  replace e := ob e
  obtain ⟨x6, ex6, e⟩ := e
  refine j_callV (ci := 10) (RC := RX10) (T := TX10) (N := 38) (As := []) (b := l0) (na := 0) (st := []) (k1 := 0) (n1 := 0) C hr (sX10_see ex6) rfl eo5 kX10_152 kim_X10_see ksel_X10_see kini_X10 kc_X10_see (by decide) rfl ⟨(Nat.le_of_ble_eq_true rfl), (Nat.le_of_ble_eq_true rfl)⟩ (Nat.le_of_ble_eq_true rfl) ⟨rfl, rfl, (Nat.le_of_ble_eq_true rfl), (Nat.le_of_ble_eq_true rfl)⟩ dX10_isDigit_1 ?_
  rintro _ _ ⟨rfl, rfl⟩
  show jx_J X 0 0 4 [(0, .ref l0)] [.int x6] h
  refine j_bipush (v := (48 : Int32)) C dX10_isDigit_4 (by decide) ?_
  refine j_bipush (v := (57 : Int32)) C dX10_isDigit_6 (by decide) ?_
  replace e := ob e
  obtain ⟨x7, ex7, e⟩ := e
  refine j_callS (As := [.int x6, .int (48 : Int32), .int (57 : Int32)]) (na := 3) (st := []) (k1 := 0) (n1 := 0) C hr (sX10_in ex7) kX10_101 kst_X10_in kini_X10 kc_X10_in (by decide) rfl ⟨(Nat.le_of_ble_eq_true rfl), (Nat.le_of_ble_eq_true rfl)⟩ (Nat.le_of_ble_eq_true rfl) ⟨rfl, rfl, (Nat.le_of_ble_eq_true rfl), (Nat.le_of_ble_eq_true rfl)⟩ dX10_isDigit_8 ?_
  rintro _ _ ⟨rfl, rfl⟩
  show jx_J X 0 0 11 [(0, .ref l0)] [.int x7] h
  by_cases c8 : ¬ (x7 = 0 ∨ x7 = 1)
  · exact nos (ifn c8 e)
  replace c8 := Classical.not_not.mp c8
  replace e := ifp c8 e
  cases e
  exact j_iret C hq (jx_bool c8) dX10_isDigit_11 ⟨Nat.le_of_ble_eq_true rfl, Nat.le_of_ble_eq_true rfl⟩ ⟨rfl, rfl⟩
/-! BorderBasisModel.signOf(I)I -/
noncomputable def FX10_signOf (l0 : Nat) (l1 : Int32) (h : jx_H) : Option (Int32) :=
if l1 = (59 : Int32) then
 some (3 : Int32)
else
 if l1 = (44 : Int32) then
  some (4 : Int32)
 else
  if l1 = (45 : Int32) then
   some (5 : Int32)
  else
   some (6 : Int32)
def rmX10_signOf : Room := { frames := 0, cells := 0, slots := 0, locals := 0 }
set_option maxRecDepth 20000 in
set_option maxHeartbeats 4000000 in
theorem sX10_signOf {l0 : Nat} {l1 : Int32} {h : jx_H} {r : Int32}  (e : FX10_signOf l0 l1 h = some r) : jx_Ct yX10_signOf cX10_signOf 2 (some .int) rmX10_signOf [.ref l0, .int l1] h (fun r' h' => some (.int r) = r' ∧ h = h') := by
  refine jx_Ct.of (own := RX10) (by decide) rfl (Nat.le_of_ble_eq_true rfl) (fun X C hq hr hL hN => ?_)
  refine jx_sub (lv' := [(0, .ref l0), (1, .int l1)]) [0, 1] rfl ?_
  unfold FX10_signOf at e
  refine j_iload_n C dX10_signOf_0 rfl rfl ?_
  refine j_bipush (v := (59 : Int32)) C dX10_signOf_1 (by decide) ?_
  refine j_icmp_ne (tgt := 10) C dX10_signOf_3 (by decide) (fun c6 => ?_) (fun c6 => ?_)
  · replace e := ifn c6 e
    refine j_iload_n C dX10_signOf_10 rfl rfl ?_
    refine j_bipush (v := (44 : Int32)) C dX10_signOf_11 (by decide) ?_
    refine j_icmp_ne (tgt := 20) C dX10_signOf_13 (by decide) (fun c5 => ?_) (fun c5 => ?_)
    · replace e := ifn c5 e
      refine j_iload_n C dX10_signOf_20 rfl rfl ?_
      refine j_bipush (v := (45 : Int32)) C dX10_signOf_21 (by decide) ?_
      refine j_icmp_ne (tgt := 30) C dX10_signOf_23 (by decide) (fun c4 => ?_) (fun c4 => ?_)
      · replace e := ifn c4 e
        refine j_bipush (v := (6 : Int32)) C dX10_signOf_30 (by decide) ?_
        cases e
        exact j_iret C hq rfl dX10_signOf_32 ⟨Nat.le_of_ble_eq_true rfl, Nat.le_of_ble_eq_true rfl⟩ ⟨rfl, rfl⟩
      · replace e := ifp c4 e
        refine j_iconst (v := (5 : Int32)) C dX10_signOf_26 (by decide) ?_
        refine j_goto (tgt := 32) C dX10_signOf_27 (by decide) ?_
        cases e
        exact j_iret C hq rfl dX10_signOf_32 ⟨Nat.le_of_ble_eq_true rfl, Nat.le_of_ble_eq_true rfl⟩ ⟨rfl, rfl⟩
    · replace e := ifp c5 e
      refine j_iconst (v := (4 : Int32)) C dX10_signOf_16 (by decide) ?_
      refine j_goto (tgt := 32) C dX10_signOf_17 (by decide) ?_
      cases e
      exact j_iret C hq rfl dX10_signOf_32 ⟨Nat.le_of_ble_eq_true rfl, Nat.le_of_ble_eq_true rfl⟩ ⟨rfl, rfl⟩
  · replace e := ifp c6 e
    refine j_iconst (v := (3 : Int32)) C dX10_signOf_6 (by decide) ?_
    refine j_goto (tgt := 32) C dX10_signOf_7 (by decide) ?_
    cases e
    exact j_iret C hq rfl dX10_signOf_32 ⟨Nat.le_of_ble_eq_true rfl, Nat.le_of_ble_eq_true rfl⟩ ⟨rfl, rfl⟩
/-! BorderBasisModel.goesOn()V -/
noncomputable def BX10_goesOn_188 (l0 : Nat) (s0 : Nat) (s1 : Int32) (h : jx_H) : Option ((jx_H) ⊕ (jx_H)) :=
(hp h s0 10 14 (.int s1)).bind fun h3 =>
(hgi h3 l0 10 11).bind fun x4 =>
(hp h3 l0 10 11 (.int (x4 + (1 : Int32)))).bind fun h5 =>
some (.inl h5)
noncomputable def LX10_goesOn_140 (l0 : Nat) (h : jx_H) : Option ((jx_H) ⊕ (jx_H)) :=
(hgi h l0 10 13).bind fun x6 =>
if x6 = (2 : Int32) then
 (isO h l0 10).bind fun _ =>
 (FX10_isDigit l0 h).bind fun x8 =>
 if x8 = 0 then
  exL (some h)
 else
  (hgi h l0 10 14).bind fun x9 =>
  if x9 ≤ (10000 : Int32) then
   (hgi h l0 10 14).bind fun x10 =>
   (isO h l0 10).bind fun _ =>
   (FX10_see l0 h).bind fun x12 =>
   BX10_goesOn_188 l0 l0 ((((10 : Int32) * x10) + x12) - (48 : Int32)) h
  else
   (hgi h l0 10 14).bind fun x13 =>
   BX10_goesOn_188 l0 l0 x13 h
else
 exL (some h)
noncomputable def LX10_goesOn_112 (l0 : Nat) (h : jx_H) : Option ((jx_H) ⊕ (jx_H)) :=
(hgi h l0 10 13).bind fun x2 =>
if x2 = (1 : Int32) then
 (isO h l0 10).bind fun _ =>
 (FX10_isSmall l0 h).bind fun x18 =>
 if x18 = 0 then
  exL (itr (fun s : jx_H => LX10_goesOn_140 l0  s) h)
 else
  (hgi h l0 10 11).bind fun x19 =>
  (hp h l0 10 11 (.int (x19 + (1 : Int32)))).bind fun h20 =>
  some (.inl h20)
else
 exL (itr (fun s : jx_H => LX10_goesOn_140 l0  s) h)
noncomputable def BX10_goesOn_108 (l0 : Nat) (s0 : Nat) (s1 : Int32) (s2 : Int32) (h : jx_H) : Option (jx_H) :=
(hp h s0 10 11 (.int (s1 + s2))).bind fun h1 =>
itr (fun s : jx_H => LX10_goesOn_112 l0  s) h1
noncomputable def BX10_goesOn_82 (l0 : Nat) (s0 : Nat) (s1 : Int32) (h : jx_H) : Option (jx_H) :=
(hp h s0 10 13 (.int s1)).bind fun h23 =>
(hp h23 l0 10 14 (.int (0 : Int32))).bind fun h24 =>
(hgi h24 l0 10 11).bind fun x25 =>
(hgi h24 l0 10 13).bind fun x26 =>
if x26 < (3 : Int32) then
 BX10_goesOn_108 l0 l0 x25 (0 : Int32) h24
else
 BX10_goesOn_108 l0 l0 x25 (1 : Int32) h24
noncomputable def BX10_goesOn_18 (l0 : Nat) (h : jx_H) : Option ((jx_H) ⊕ (jx_H)) :=
(hgi h l0 10 11).bind fun x28 =>
(hp h l0 10 11 (.int (x28 + (1 : Int32)))).bind fun h29 =>
some (.inl h29)
noncomputable def LX10_goesOn_0 (l0 : Nat) (h : jx_H) : Option ((jx_H) ⊕ (jx_H)) :=
(isO h l0 10).bind fun _ =>
(FX10_see l0 h).bind fun x31 =>
if x31 = (32 : Int32) then
 BX10_goesOn_18 l0 h
else
 (isO h l0 10).bind fun _ =>
 (FX10_see l0 h).bind fun x33 =>
 if x33 = (10 : Int32) then
  BX10_goesOn_18 l0 h
 else
  exL ((hgi h l0 10 11).bind fun x34 =>
  (hp h l0 10 12 (.int x34)).bind fun h35 =>
  (isO h35 l0 10).bind fun _ =>
  (FX10_see l0 h35).bind fun x37 =>
  if x37 = (-1 : Int32) then
   BX10_goesOn_82 l0 l0 (0 : Int32) h35
  else
   (isO h35 l0 10).bind fun _ =>
   (FX10_isSmall l0 h35).bind fun x39 =>
   if x39 = 0 then
    (isO h35 l0 10).bind fun _ =>
    (FX10_isDigit l0 h35).bind fun x41 =>
    if x41 = 0 then
     (isO h35 l0 10).bind fun _ =>
     (FX10_see l0 h35).bind fun x43 =>
     (isO h35 l0 10).bind fun _ =>
     (FX10_signOf l0 x43 h35).bind fun x45 =>
     BX10_goesOn_82 l0 l0 x45 h35
    else
     BX10_goesOn_82 l0 l0 (2 : Int32) h35
   else
    BX10_goesOn_82 l0 l0 (1 : Int32) h35)
noncomputable def FX10_goesOn (l0 : Nat) (h : jx_H) : Option (jx_H) :=
itr (fun s : jx_H => LX10_goesOn_0 l0  s) h
def rmX10_goesOn : Room := { frames := 2, cells := 0, slots := 0, locals := 42 }
set_option maxRecDepth 20000 in
set_option maxHeartbeats 4000000 in
theorem sX10_goesOn {l0 : Nat} {h : jx_H} {h9 : jx_H} (e : FX10_goesOn l0 h = some h9) : jx_Ct yX10_goesOn cX10_goesOn 1 none rmX10_goesOn [.ref l0] h (fun r' h' => none = r' ∧ h9 = h') := by
  refine jx_Ct.of (own := RX10) (by decide) rfl (Nat.le_of_ble_eq_true rfl) (fun X C hq hr hL hN => ?_)
  refine jx_sub (lv' := [(0, .ref l0)]) [0] rfl ?_
  have b108 : ∀ (y51 : Nat) (y52 : Nat) (y53 : Int32) (y54 : Int32) (h55 : jx_H), BX10_goesOn_108 y51 y52 y53 y54 h55 = some h9 → jx_J X 0 0 108 [(0, .ref y51)] [.int y54, .int y53, .ref y52] h55 := by
    intro y51 y52 y53 y54 h55 e
    unfold BX10_goesOn_108 at e
    refine j_iadd C dX10_goesOn_108 ?_
    replace e := ob e
    obtain ⟨h56, eh56, e⟩ := e
    refine j_put (ci := 10) (RC := RX10) (T := TX10) (N := 38) (ty0 := tyX10) 11 C rfl klX10 tyX10_ok nmX10 (Nat.le_of_ble_eq_true rfl) kX10_149 rfl rfl rfl rfl dX10_goesOn_109 eh56 ?_
    refine itr_ind (s0 := h56) (fun s : jx_H => jx_J X 0 0 112 [(0, .ref y51)] [] s) e ?_
    clear e
    intro s kI6 kT6 e0
    obtain ⟨h57, es⟩ : ∃ z, z = s := ⟨_, rfl⟩
    subst es
    obtain ⟨u6, e0_6⟩ := e0
    have e : LX10_goesOn_112 y51  h57 = some u6 := e0_6
    unfold LX10_goesOn_112 at e
    refine j_aload_n C dX10_goesOn_112 rfl rfl ?_
    replace e := ob e
    obtain ⟨x58, ex58, e⟩ := e
    refine j_geti (ci := 10) (RC := RX10) (T := TX10) (N := 38) 13 C rfl klX10 (Nat.le_of_ble_eq_true rfl) kX10_169 rfl dX10_goesOn_113 ex58 ?_
    refine j_iconst (v := (1 : Int32)) C dX10_goesOn_116 (by decide) ?_
    refine j_icmp_ne (tgt := 140) C dX10_goesOn_117 (by decide) (fun c100 => ?_) (fun c100 => ?_)
    · replace e := ifn c100 e
      obtain ⟨t_10, e_10, eu_10⟩ := exL_spec e
      obtain rfl := kT6 t_10 (e0_6.trans (congrArg some eu_10))
      replace e := e_10
      refine itr_ind (s0 := h57) (fun s : jx_H => jx_J X 0 0 140 [(0, .ref y51)] [] s) e ?_
      clear e
      intro s kI7 kT7 e0
      obtain ⟨h59, es⟩ : ∃ z, z = s := ⟨_, rfl⟩
      subst es
      obtain ⟨u7, e0_7⟩ := e0
      have e : LX10_goesOn_140 y51  h59 = some u7 := e0_7
      have b188 : ∀ (y60 : Nat) (y61 : Int32) (h62 : jx_H), BX10_goesOn_188 y51 y60 y61 h62 = some u7 → jx_J X 0 0 188 [(0, .ref y51)] [.int y61, .ref y60] h62 := by
        intro y60 y61 h62 e
        unfold BX10_goesOn_188 at e
        replace e := ob e
        obtain ⟨h63, eh63, e⟩ := e
        refine j_put (ci := 10) (RC := RX10) (T := TX10) (N := 38) (ty0 := tyX10) 14 C rfl klX10 tyX10_ok nmX10 (Nat.le_of_ble_eq_true rfl) kX10_172 rfl rfl rfl rfl dX10_goesOn_188 eh63 ?_
        refine j_aload_n C dX10_goesOn_191 rfl rfl ?_
        refine j_dup C dX10_goesOn_192 rfl ?_
        replace e := ob e
        obtain ⟨x64, ex64, e⟩ := e
        refine j_geti (ci := 10) (RC := RX10) (T := TX10) (N := 38) 11 C rfl klX10 (Nat.le_of_ble_eq_true rfl) kX10_149 rfl dX10_goesOn_193 ex64 ?_
        refine j_iconst (v := (1 : Int32)) C dX10_goesOn_196 (by decide) ?_
        refine j_iadd C dX10_goesOn_197 ?_
        replace e := ob e
        obtain ⟨h65, eh65, e⟩ := e
        refine j_put (ci := 10) (RC := RX10) (T := TX10) (N := 38) (ty0 := tyX10) 11 C rfl klX10 tyX10_ok nmX10 (Nat.le_of_ble_eq_true rfl) kX10_149 rfl rfl rfl rfl dX10_goesOn_198 eh65 ?_
        refine j_goto (tgt := 140) C dX10_goesOn_201 (by decide) ?_
        obtain rfl := Option.some.inj e
        exact kI7 h65 e0_7
      unfold LX10_goesOn_140 at e
      refine j_aload_n C dX10_goesOn_140 rfl rfl ?_
      replace e := ob e
      obtain ⟨x66, ex66, e⟩ := e
      refine j_geti (ci := 10) (RC := RX10) (T := TX10) (N := 38) 13 C rfl klX10 (Nat.le_of_ble_eq_true rfl) kX10_169 rfl dX10_goesOn_141 ex66 ?_
      refine j_iconst (v := (2 : Int32)) C dX10_goesOn_144 (by decide) ?_
      refine j_icmp_ne (tgt := 204) C dX10_goesOn_145 (by decide) (fun c76 => ?_) (fun c76 => ?_)
      · replace e := ifn c76 e
        obtain ⟨t_8, e_8, eu_8⟩ := exL_spec e
        obtain rfl := kT7 t_8 (e0_7.trans (congrArg some eu_8))
        replace e := e_8
        cases e
        exact j_vret C hq dX10_goesOn_204 ⟨Nat.le_of_ble_eq_true rfl, Nat.le_of_ble_eq_true rfl⟩ ⟨rfl, rfl⟩
      · replace e := ifp c76 e
        refine j_aload_n C dX10_goesOn_148 rfl rfl ?_
        replace e := ob e
        obtain ⟨_, eo67, e⟩ := e
        replace e := ob e
        obtain ⟨x68, ex68, e⟩ := e
        refine j_callV (ci := 10) (RC := RX10) (T := TX10) (N := 38) (As := []) (b := y51) (na := 0) (st := []) (k1 := 0) (n1 := 0) C hr (sX10_isDigit ex68) rfl eo67 kX10_162 kim_X10_isDigit ksel_X10_isDigit kini_X10 kc_X10_isDigit (by decide) rfl ⟨(Nat.le_of_ble_eq_true rfl), (Nat.le_of_ble_eq_true rfl)⟩ (Nat.le_of_ble_eq_true rfl) ⟨rfl, rfl, (Nat.le_of_ble_eq_true rfl), (Nat.le_of_ble_eq_true rfl)⟩ dX10_goesOn_149 ?_
        rintro _ _ ⟨rfl, rfl⟩
        show jx_J X 0 0 152 [(0, .ref y51)] [.int x68] h59
        refine j_if_eq (tgt := 204) C dX10_goesOn_152 (by decide) (fun c75 => ?_) (fun c75 => ?_)
        · replace e := ifp c75 e
          obtain ⟨t_9, e_9, eu_9⟩ := exL_spec e
          obtain rfl := kT7 t_9 (e0_7.trans (congrArg some eu_9))
          replace e := e_9
          cases e
          exact j_vret C hq dX10_goesOn_204 ⟨Nat.le_of_ble_eq_true rfl, Nat.le_of_ble_eq_true rfl⟩ ⟨rfl, rfl⟩
        · replace e := ifn c75 e
          refine j_aload_n C dX10_goesOn_155 rfl rfl ?_
          refine j_aload_n C dX10_goesOn_156 rfl rfl ?_
          replace e := ob e
          obtain ⟨x69, ex69, e⟩ := e
          refine j_geti (ci := 10) (RC := RX10) (T := TX10) (N := 38) 14 C rfl klX10 (Nat.le_of_ble_eq_true rfl) kX10_172 rfl dX10_goesOn_157 ex69 ?_
          refine j_sipush (v := (10000 : Int32)) C dX10_goesOn_160 (by decide) ?_
          refine j_icmp_le (tgt := 173) C dX10_goesOn_163 (by decide) (fun c74 => ?_) (fun c74 => ?_)
          · replace e := ifp c74 e
            refine j_bipush (v := (10 : Int32)) C dX10_goesOn_173 (by decide) ?_
            refine j_aload_n C dX10_goesOn_175 rfl rfl ?_
            replace e := ob e
            obtain ⟨x70, ex70, e⟩ := e
            refine j_geti (ci := 10) (RC := RX10) (T := TX10) (N := 38) 14 C rfl klX10 (Nat.le_of_ble_eq_true rfl) kX10_172 rfl dX10_goesOn_176 ex70 ?_
            refine j_imul C dX10_goesOn_179 ?_
            refine j_aload_n C dX10_goesOn_180 rfl rfl ?_
            replace e := ob e
            obtain ⟨_, eo71, e⟩ := e
            replace e := ob e
            obtain ⟨x72, ex72, e⟩ := e
            refine j_callV (ci := 10) (RC := RX10) (T := TX10) (N := 38) (As := []) (b := y51) (na := 0) (st := [.int ((10 : Int32) * x70), .ref y51]) (k1 := 0) (n1 := 0) C hr (sX10_see ex72) rfl eo71 kX10_152 kim_X10_see ksel_X10_see kini_X10 kc_X10_see (by decide) rfl ⟨(Nat.le_of_ble_eq_true rfl), (Nat.le_of_ble_eq_true rfl)⟩ (Nat.le_of_ble_eq_true rfl) ⟨rfl, rfl, (Nat.le_of_ble_eq_true rfl), (Nat.le_of_ble_eq_true rfl)⟩ dX10_goesOn_181 ?_
            rintro _ _ ⟨rfl, rfl⟩
            show jx_J X 0 0 184 [(0, .ref y51)] [.int x72, .int ((10 : Int32) * x70), .ref y51] h59
            refine j_iadd C dX10_goesOn_184 ?_
            refine j_bipush (v := (48 : Int32)) C dX10_goesOn_185 (by decide) ?_
            refine j_isub C dX10_goesOn_187 ?_
            exact b188 y51 ((((10 : Int32) * x70) + x72) - (48 : Int32)) h59 e
          · replace e := ifn c74 e
            refine j_aload_n C dX10_goesOn_166 rfl rfl ?_
            replace e := ob e
            obtain ⟨x73, ex73, e⟩ := e
            refine j_geti (ci := 10) (RC := RX10) (T := TX10) (N := 38) 14 C rfl klX10 (Nat.le_of_ble_eq_true rfl) kX10_172 rfl dX10_goesOn_167 ex73 ?_
            refine j_goto (tgt := 188) C dX10_goesOn_170 (by decide) ?_
            exact b188 y51 x73 h59 e
    · replace e := ifp c100 e
      refine j_aload_n C dX10_goesOn_120 rfl rfl ?_
      replace e := ob e
      obtain ⟨_, eo77, e⟩ := e
      replace e := ob e
      obtain ⟨x78, ex78, e⟩ := e
      refine j_callV (ci := 10) (RC := RX10) (T := TX10) (N := 38) (As := []) (b := y51) (na := 0) (st := []) (k1 := 0) (n1 := 0) C hr (sX10_isSmall ex78) rfl eo77 kX10_158 kim_X10_isSmall ksel_X10_isSmall kini_X10 kc_X10_isSmall (by decide) rfl ⟨(Nat.le_of_ble_eq_true rfl), (Nat.le_of_ble_eq_true rfl)⟩ (Nat.le_of_ble_eq_true rfl) ⟨rfl, rfl, (Nat.le_of_ble_eq_true rfl), (Nat.le_of_ble_eq_true rfl)⟩ dX10_goesOn_121 ?_
      rintro _ _ ⟨rfl, rfl⟩
      show jx_J X 0 0 124 [(0, .ref y51)] [.int x78] h57
      refine j_if_eq (tgt := 140) C dX10_goesOn_124 (by decide) (fun c99 => ?_) (fun c99 => ?_)
      · replace e := ifp c99 e
        obtain ⟨t_14, e_14, eu_14⟩ := exL_spec e
        obtain rfl := kT6 t_14 (e0_6.trans (congrArg some eu_14))
        replace e := e_14
        refine itr_ind (s0 := h57) (fun s : jx_H => jx_J X 0 0 140 [(0, .ref y51)] [] s) e ?_
        clear e
        intro s kI11 kT11 e0
        obtain ⟨h79, es⟩ : ∃ z, z = s := ⟨_, rfl⟩
        subst es
        obtain ⟨u11, e0_11⟩ := e0
        have e : LX10_goesOn_140 y51  h79 = some u11 := e0_11
        have b188 : ∀ (y80 : Nat) (y81 : Int32) (h82 : jx_H), BX10_goesOn_188 y51 y80 y81 h82 = some u11 → jx_J X 0 0 188 [(0, .ref y51)] [.int y81, .ref y80] h82 := by
          intro y80 y81 h82 e
          unfold BX10_goesOn_188 at e
          replace e := ob e
          obtain ⟨h83, eh83, e⟩ := e
          refine j_put (ci := 10) (RC := RX10) (T := TX10) (N := 38) (ty0 := tyX10) 14 C rfl klX10 tyX10_ok nmX10 (Nat.le_of_ble_eq_true rfl) kX10_172 rfl rfl rfl rfl dX10_goesOn_188 eh83 ?_
          refine j_aload_n C dX10_goesOn_191 rfl rfl ?_
          refine j_dup C dX10_goesOn_192 rfl ?_
          replace e := ob e
          obtain ⟨x84, ex84, e⟩ := e
          refine j_geti (ci := 10) (RC := RX10) (T := TX10) (N := 38) 11 C rfl klX10 (Nat.le_of_ble_eq_true rfl) kX10_149 rfl dX10_goesOn_193 ex84 ?_
          refine j_iconst (v := (1 : Int32)) C dX10_goesOn_196 (by decide) ?_
          refine j_iadd C dX10_goesOn_197 ?_
          replace e := ob e
          obtain ⟨h85, eh85, e⟩ := e
          refine j_put (ci := 10) (RC := RX10) (T := TX10) (N := 38) (ty0 := tyX10) 11 C rfl klX10 tyX10_ok nmX10 (Nat.le_of_ble_eq_true rfl) kX10_149 rfl rfl rfl rfl dX10_goesOn_198 eh85 ?_
          refine j_goto (tgt := 140) C dX10_goesOn_201 (by decide) ?_
          obtain rfl := Option.some.inj e
          exact kI11 h85 e0_11
        unfold LX10_goesOn_140 at e
        refine j_aload_n C dX10_goesOn_140 rfl rfl ?_
        replace e := ob e
        obtain ⟨x86, ex86, e⟩ := e
        refine j_geti (ci := 10) (RC := RX10) (T := TX10) (N := 38) 13 C rfl klX10 (Nat.le_of_ble_eq_true rfl) kX10_169 rfl dX10_goesOn_141 ex86 ?_
        refine j_iconst (v := (2 : Int32)) C dX10_goesOn_144 (by decide) ?_
        refine j_icmp_ne (tgt := 204) C dX10_goesOn_145 (by decide) (fun c96 => ?_) (fun c96 => ?_)
        · replace e := ifn c96 e
          obtain ⟨t_12, e_12, eu_12⟩ := exL_spec e
          obtain rfl := kT11 t_12 (e0_11.trans (congrArg some eu_12))
          replace e := e_12
          cases e
          exact j_vret C hq dX10_goesOn_204 ⟨Nat.le_of_ble_eq_true rfl, Nat.le_of_ble_eq_true rfl⟩ ⟨rfl, rfl⟩
        · replace e := ifp c96 e
          refine j_aload_n C dX10_goesOn_148 rfl rfl ?_
          replace e := ob e
          obtain ⟨_, eo87, e⟩ := e
          replace e := ob e
          obtain ⟨x88, ex88, e⟩ := e
          refine j_callV (ci := 10) (RC := RX10) (T := TX10) (N := 38) (As := []) (b := y51) (na := 0) (st := []) (k1 := 0) (n1 := 0) C hr (sX10_isDigit ex88) rfl eo87 kX10_162 kim_X10_isDigit ksel_X10_isDigit kini_X10 kc_X10_isDigit (by decide) rfl ⟨(Nat.le_of_ble_eq_true rfl), (Nat.le_of_ble_eq_true rfl)⟩ (Nat.le_of_ble_eq_true rfl) ⟨rfl, rfl, (Nat.le_of_ble_eq_true rfl), (Nat.le_of_ble_eq_true rfl)⟩ dX10_goesOn_149 ?_
          rintro _ _ ⟨rfl, rfl⟩
          show jx_J X 0 0 152 [(0, .ref y51)] [.int x88] h79
          refine j_if_eq (tgt := 204) C dX10_goesOn_152 (by decide) (fun c95 => ?_) (fun c95 => ?_)
          · replace e := ifp c95 e
            obtain ⟨t_13, e_13, eu_13⟩ := exL_spec e
            obtain rfl := kT11 t_13 (e0_11.trans (congrArg some eu_13))
            replace e := e_13
            cases e
            exact j_vret C hq dX10_goesOn_204 ⟨Nat.le_of_ble_eq_true rfl, Nat.le_of_ble_eq_true rfl⟩ ⟨rfl, rfl⟩
          · replace e := ifn c95 e
            refine j_aload_n C dX10_goesOn_155 rfl rfl ?_
            refine j_aload_n C dX10_goesOn_156 rfl rfl ?_
            replace e := ob e
            obtain ⟨x89, ex89, e⟩ := e
            refine j_geti (ci := 10) (RC := RX10) (T := TX10) (N := 38) 14 C rfl klX10 (Nat.le_of_ble_eq_true rfl) kX10_172 rfl dX10_goesOn_157 ex89 ?_
            refine j_sipush (v := (10000 : Int32)) C dX10_goesOn_160 (by decide) ?_
            refine j_icmp_le (tgt := 173) C dX10_goesOn_163 (by decide) (fun c94 => ?_) (fun c94 => ?_)
            · replace e := ifp c94 e
              refine j_bipush (v := (10 : Int32)) C dX10_goesOn_173 (by decide) ?_
              refine j_aload_n C dX10_goesOn_175 rfl rfl ?_
              replace e := ob e
              obtain ⟨x90, ex90, e⟩ := e
              refine j_geti (ci := 10) (RC := RX10) (T := TX10) (N := 38) 14 C rfl klX10 (Nat.le_of_ble_eq_true rfl) kX10_172 rfl dX10_goesOn_176 ex90 ?_
              refine j_imul C dX10_goesOn_179 ?_
              refine j_aload_n C dX10_goesOn_180 rfl rfl ?_
              replace e := ob e
              obtain ⟨_, eo91, e⟩ := e
              replace e := ob e
              obtain ⟨x92, ex92, e⟩ := e
              refine j_callV (ci := 10) (RC := RX10) (T := TX10) (N := 38) (As := []) (b := y51) (na := 0) (st := [.int ((10 : Int32) * x90), .ref y51]) (k1 := 0) (n1 := 0) C hr (sX10_see ex92) rfl eo91 kX10_152 kim_X10_see ksel_X10_see kini_X10 kc_X10_see (by decide) rfl ⟨(Nat.le_of_ble_eq_true rfl), (Nat.le_of_ble_eq_true rfl)⟩ (Nat.le_of_ble_eq_true rfl) ⟨rfl, rfl, (Nat.le_of_ble_eq_true rfl), (Nat.le_of_ble_eq_true rfl)⟩ dX10_goesOn_181 ?_
              rintro _ _ ⟨rfl, rfl⟩
              show jx_J X 0 0 184 [(0, .ref y51)] [.int x92, .int ((10 : Int32) * x90), .ref y51] h79
              refine j_iadd C dX10_goesOn_184 ?_
              refine j_bipush (v := (48 : Int32)) C dX10_goesOn_185 (by decide) ?_
              refine j_isub C dX10_goesOn_187 ?_
              exact b188 y51 ((((10 : Int32) * x90) + x92) - (48 : Int32)) h79 e
            · replace e := ifn c94 e
              refine j_aload_n C dX10_goesOn_166 rfl rfl ?_
              replace e := ob e
              obtain ⟨x93, ex93, e⟩ := e
              refine j_geti (ci := 10) (RC := RX10) (T := TX10) (N := 38) 14 C rfl klX10 (Nat.le_of_ble_eq_true rfl) kX10_172 rfl dX10_goesOn_167 ex93 ?_
              refine j_goto (tgt := 188) C dX10_goesOn_170 (by decide) ?_
              exact b188 y51 x93 h79 e
      · replace e := ifn c99 e
        refine j_aload_n C dX10_goesOn_127 rfl rfl ?_
        refine j_dup C dX10_goesOn_128 rfl ?_
        replace e := ob e
        obtain ⟨x97, ex97, e⟩ := e
        refine j_geti (ci := 10) (RC := RX10) (T := TX10) (N := 38) 11 C rfl klX10 (Nat.le_of_ble_eq_true rfl) kX10_149 rfl dX10_goesOn_129 ex97 ?_
        refine j_iconst (v := (1 : Int32)) C dX10_goesOn_132 (by decide) ?_
        refine j_iadd C dX10_goesOn_133 ?_
        replace e := ob e
        obtain ⟨h98, eh98, e⟩ := e
        refine j_put (ci := 10) (RC := RX10) (T := TX10) (N := 38) (ty0 := tyX10) 11 C rfl klX10 tyX10_ok nmX10 (Nat.le_of_ble_eq_true rfl) kX10_149 rfl rfl rfl rfl dX10_goesOn_134 eh98 ?_
        refine j_goto (tgt := 112) C dX10_goesOn_137 (by decide) ?_
        obtain rfl := Option.some.inj e
        exact kI6 h98 e0_6
  have b82 : ∀ (y101 : Nat) (y102 : Nat) (y103 : Int32) (h104 : jx_H), BX10_goesOn_82 y101 y102 y103 h104 = some h9 → jx_J X 0 0 82 [(0, .ref y101)] [.int y103, .ref y102] h104 := by
    intro y101 y102 y103 h104 e
    unfold BX10_goesOn_82 at e
    replace e := ob e
    obtain ⟨h105, eh105, e⟩ := e
    refine j_put (ci := 10) (RC := RX10) (T := TX10) (N := 38) (ty0 := tyX10) 13 C rfl klX10 tyX10_ok nmX10 (Nat.le_of_ble_eq_true rfl) kX10_169 rfl rfl rfl rfl dX10_goesOn_82 eh105 ?_
    refine j_aload_n C dX10_goesOn_85 rfl rfl ?_
    refine j_iconst (v := (0 : Int32)) C dX10_goesOn_86 (by decide) ?_
    replace e := ob e
    obtain ⟨h106, eh106, e⟩ := e
    refine j_put (ci := 10) (RC := RX10) (T := TX10) (N := 38) (ty0 := tyX10) 14 C rfl klX10 tyX10_ok nmX10 (Nat.le_of_ble_eq_true rfl) kX10_172 rfl rfl rfl rfl dX10_goesOn_87 eh106 ?_
    refine j_aload_n C dX10_goesOn_90 rfl rfl ?_
    refine j_dup C dX10_goesOn_91 rfl ?_
    replace e := ob e
    obtain ⟨x107, ex107, e⟩ := e
    refine j_geti (ci := 10) (RC := RX10) (T := TX10) (N := 38) 11 C rfl klX10 (Nat.le_of_ble_eq_true rfl) kX10_149 rfl dX10_goesOn_92 ex107 ?_
    refine j_aload_n C dX10_goesOn_95 rfl rfl ?_
    replace e := ob e
    obtain ⟨x108, ex108, e⟩ := e
    refine j_geti (ci := 10) (RC := RX10) (T := TX10) (N := 38) 13 C rfl klX10 (Nat.le_of_ble_eq_true rfl) kX10_169 rfl dX10_goesOn_96 ex108 ?_
    refine j_iconst (v := (3 : Int32)) C dX10_goesOn_99 (by decide) ?_
    refine j_icmp_lt (tgt := 107) C dX10_goesOn_100 (by decide) (fun c109 => ?_) (fun c109 => ?_)
    · replace e := ifp c109 e
      refine j_iconst (v := (0 : Int32)) C dX10_goesOn_107 (by decide) ?_
      exact b108 y101 y101 x107 (0 : Int32) h106 e
    · replace e := ifn c109 e
      refine j_iconst (v := (1 : Int32)) C dX10_goesOn_103 (by decide) ?_
      refine j_goto (tgt := 108) C dX10_goesOn_104 (by decide) ?_
      exact b108 y101 y101 x107 (1 : Int32) h106 e
  unfold FX10_goesOn at e
  refine itr_ind (s0 := h) (fun s : jx_H => jx_J X 0 0 0 [(0, .ref l0)] [] s) e ?_
  clear e
  intro s kI15 kT15 e0
  obtain ⟨h110, es⟩ : ∃ z, z = s := ⟨_, rfl⟩
  subst es
  obtain ⟨u15, e0_15⟩ := e0
  have e : LX10_goesOn_0 l0  h110 = some u15 := e0_15
  have b18 : ∀ (h111 : jx_H), BX10_goesOn_18 l0 h111 = some u15 → jx_J X 0 0 18 [(0, .ref l0)] [] h111 := by
    intro h111 e
    unfold BX10_goesOn_18 at e
    refine j_aload_n C dX10_goesOn_18 rfl rfl ?_
    refine j_dup C dX10_goesOn_19 rfl ?_
    replace e := ob e
    obtain ⟨x112, ex112, e⟩ := e
    refine j_geti (ci := 10) (RC := RX10) (T := TX10) (N := 38) 11 C rfl klX10 (Nat.le_of_ble_eq_true rfl) kX10_149 rfl dX10_goesOn_20 ex112 ?_
    refine j_iconst (v := (1 : Int32)) C dX10_goesOn_23 (by decide) ?_
    refine j_iadd C dX10_goesOn_24 ?_
    replace e := ob e
    obtain ⟨h113, eh113, e⟩ := e
    refine j_put (ci := 10) (RC := RX10) (T := TX10) (N := 38) (ty0 := tyX10) 11 C rfl klX10 tyX10_ok nmX10 (Nat.le_of_ble_eq_true rfl) kX10_149 rfl rfl rfl rfl dX10_goesOn_25 eh113 ?_
    refine j_goto (tgt := 0) C dX10_goesOn_28 (by decide) ?_
    obtain rfl := Option.some.inj e
    exact kI15 h113 e0_15
  unfold LX10_goesOn_0 at e
  refine j_aload_n C dX10_goesOn_0 rfl rfl ?_
  replace e := ob e
  obtain ⟨_, eo114, e⟩ := e
  replace e := ob e
  obtain ⟨x115, ex115, e⟩ := e
  refine j_callV (ci := 10) (RC := RX10) (T := TX10) (N := 38) (As := []) (b := l0) (na := 0) (st := []) (k1 := 0) (n1 := 0) C hr (sX10_see ex115) rfl eo114 kX10_152 kim_X10_see ksel_X10_see kini_X10 kc_X10_see (by decide) rfl ⟨(Nat.le_of_ble_eq_true rfl), (Nat.le_of_ble_eq_true rfl)⟩ (Nat.le_of_ble_eq_true rfl) ⟨rfl, rfl, (Nat.le_of_ble_eq_true rfl), (Nat.le_of_ble_eq_true rfl)⟩ dX10_goesOn_1 ?_
  rintro _ _ ⟨rfl, rfl⟩
  show jx_J X 0 0 4 [(0, .ref l0)] [.int x115] h110
  refine j_bipush (v := (32 : Int32)) C dX10_goesOn_4 (by decide) ?_
  refine j_icmp_eq (tgt := 18) C dX10_goesOn_6 (by decide) (fun c134 => ?_) (fun c134 => ?_)
  · replace e := ifp c134 e
    exact b18 h110 e
  · replace e := ifn c134 e
    refine j_aload_n C dX10_goesOn_9 rfl rfl ?_
    replace e := ob e
    obtain ⟨_, eo116, e⟩ := e
    replace e := ob e
    obtain ⟨x117, ex117, e⟩ := e
    refine j_callV (ci := 10) (RC := RX10) (T := TX10) (N := 38) (As := []) (b := l0) (na := 0) (st := []) (k1 := 0) (n1 := 0) C hr (sX10_see ex117) rfl eo116 kX10_152 kim_X10_see ksel_X10_see kini_X10 kc_X10_see (by decide) rfl ⟨(Nat.le_of_ble_eq_true rfl), (Nat.le_of_ble_eq_true rfl)⟩ (Nat.le_of_ble_eq_true rfl) ⟨rfl, rfl, (Nat.le_of_ble_eq_true rfl), (Nat.le_of_ble_eq_true rfl)⟩ dX10_goesOn_10 ?_
    rintro _ _ ⟨rfl, rfl⟩
    show jx_J X 0 0 13 [(0, .ref l0)] [.int x117] h110
    refine j_bipush (v := (10 : Int32)) C dX10_goesOn_13 (by decide) ?_
    refine j_icmp_ne (tgt := 31) C dX10_goesOn_15 (by decide) (fun c133 => ?_) (fun c133 => ?_)
    · replace e := ifn c133 e
      obtain ⟨t_16, e_16, eu_16⟩ := exL_spec e
      obtain rfl := kT15 t_16 (e0_15.trans (congrArg some eu_16))
      replace e := e_16
      refine j_aload_n C dX10_goesOn_31 rfl rfl ?_
      refine j_aload_n C dX10_goesOn_32 rfl rfl ?_
      replace e := ob e
      obtain ⟨x118, ex118, e⟩ := e
      refine j_geti (ci := 10) (RC := RX10) (T := TX10) (N := 38) 11 C rfl klX10 (Nat.le_of_ble_eq_true rfl) kX10_149 rfl dX10_goesOn_33 ex118 ?_
      replace e := ob e
      obtain ⟨h119, eh119, e⟩ := e
      refine j_put (ci := 10) (RC := RX10) (T := TX10) (N := 38) (ty0 := tyX10) 12 C rfl klX10 tyX10_ok nmX10 (Nat.le_of_ble_eq_true rfl) kX10_155 rfl rfl rfl rfl dX10_goesOn_36 eh119 ?_
      refine j_aload_n C dX10_goesOn_39 rfl rfl ?_
      refine j_aload_n C dX10_goesOn_40 rfl rfl ?_
      replace e := ob e
      obtain ⟨_, eo120, e⟩ := e
      replace e := ob e
      obtain ⟨x121, ex121, e⟩ := e
      refine j_callV (ci := 10) (RC := RX10) (T := TX10) (N := 38) (As := []) (b := l0) (na := 0) (st := [.ref l0]) (k1 := 0) (n1 := 0) C hr (sX10_see ex121) rfl eo120 kX10_152 kim_X10_see ksel_X10_see kini_X10 kc_X10_see (by decide) rfl ⟨(Nat.le_of_ble_eq_true rfl), (Nat.le_of_ble_eq_true rfl)⟩ (Nat.le_of_ble_eq_true rfl) ⟨rfl, rfl, (Nat.le_of_ble_eq_true rfl), (Nat.le_of_ble_eq_true rfl)⟩ dX10_goesOn_41 ?_
      rintro _ _ ⟨rfl, rfl⟩
      show jx_J X 0 0 44 [(0, .ref l0)] [.int x121, .ref l0] h119
      refine j_iconst (v := (-1 : Int32)) C dX10_goesOn_44 (by decide) ?_
      refine j_icmp_ne (tgt := 52) C dX10_goesOn_45 (by decide) (fun c132 => ?_) (fun c132 => ?_)
      · replace e := ifn c132 e
        refine j_aload_n C dX10_goesOn_52 rfl rfl ?_
        replace e := ob e
        obtain ⟨_, eo122, e⟩ := e
        replace e := ob e
        obtain ⟨x123, ex123, e⟩ := e
        refine j_callV (ci := 10) (RC := RX10) (T := TX10) (N := 38) (As := []) (b := l0) (na := 0) (st := [.ref l0]) (k1 := 0) (n1 := 0) C hr (sX10_isSmall ex123) rfl eo122 kX10_158 kim_X10_isSmall ksel_X10_isSmall kini_X10 kc_X10_isSmall (by decide) rfl ⟨(Nat.le_of_ble_eq_true rfl), (Nat.le_of_ble_eq_true rfl)⟩ (Nat.le_of_ble_eq_true rfl) ⟨rfl, rfl, (Nat.le_of_ble_eq_true rfl), (Nat.le_of_ble_eq_true rfl)⟩ dX10_goesOn_53 ?_
        rintro _ _ ⟨rfl, rfl⟩
        show jx_J X 0 0 56 [(0, .ref l0)] [.int x123, .ref l0] h119
        refine j_if_eq (tgt := 63) C dX10_goesOn_56 (by decide) (fun c131 => ?_) (fun c131 => ?_)
        · replace e := ifp c131 e
          refine j_aload_n C dX10_goesOn_63 rfl rfl ?_
          replace e := ob e
          obtain ⟨_, eo124, e⟩ := e
          replace e := ob e
          obtain ⟨x125, ex125, e⟩ := e
          refine j_callV (ci := 10) (RC := RX10) (T := TX10) (N := 38) (As := []) (b := l0) (na := 0) (st := [.ref l0]) (k1 := 0) (n1 := 0) C hr (sX10_isDigit ex125) rfl eo124 kX10_162 kim_X10_isDigit ksel_X10_isDigit kini_X10 kc_X10_isDigit (by decide) rfl ⟨(Nat.le_of_ble_eq_true rfl), (Nat.le_of_ble_eq_true rfl)⟩ (Nat.le_of_ble_eq_true rfl) ⟨rfl, rfl, (Nat.le_of_ble_eq_true rfl), (Nat.le_of_ble_eq_true rfl)⟩ dX10_goesOn_64 ?_
          rintro _ _ ⟨rfl, rfl⟩
          show jx_J X 0 0 67 [(0, .ref l0)] [.int x125, .ref l0] h119
          refine j_if_eq (tgt := 74) C dX10_goesOn_67 (by decide) (fun c130 => ?_) (fun c130 => ?_)
          · replace e := ifp c130 e
            refine j_aload_n C dX10_goesOn_74 rfl rfl ?_
            refine j_aload_n C dX10_goesOn_75 rfl rfl ?_
            replace e := ob e
            obtain ⟨_, eo126, e⟩ := e
            replace e := ob e
            obtain ⟨x127, ex127, e⟩ := e
            refine j_callV (ci := 10) (RC := RX10) (T := TX10) (N := 38) (As := []) (b := l0) (na := 0) (st := [.ref l0, .ref l0]) (k1 := 0) (n1 := 0) C hr (sX10_see ex127) rfl eo126 kX10_152 kim_X10_see ksel_X10_see kini_X10 kc_X10_see (by decide) rfl ⟨(Nat.le_of_ble_eq_true rfl), (Nat.le_of_ble_eq_true rfl)⟩ (Nat.le_of_ble_eq_true rfl) ⟨rfl, rfl, (Nat.le_of_ble_eq_true rfl), (Nat.le_of_ble_eq_true rfl)⟩ dX10_goesOn_76 ?_
            rintro _ _ ⟨rfl, rfl⟩
            show jx_J X 0 0 79 [(0, .ref l0)] [.int x127, .ref l0, .ref l0] h119
            replace e := ob e
            obtain ⟨_, eo128, e⟩ := e
            replace e := ob e
            obtain ⟨x129, ex129, e⟩ := e
            refine j_callV (ci := 10) (RC := RX10) (T := TX10) (N := 38) (As := [.int x127]) (b := l0) (na := 1) (st := [.ref l0]) (k1 := 0) (n1 := 0) C hr (sX10_signOf ex129) rfl eo128 kX10_165 kim_X10_signOf ksel_X10_signOf kini_X10 kc_X10_signOf (by decide) rfl ⟨(Nat.le_of_ble_eq_true rfl), (Nat.le_of_ble_eq_true rfl)⟩ (Nat.le_of_ble_eq_true rfl) ⟨rfl, rfl, (Nat.le_of_ble_eq_true rfl), (Nat.le_of_ble_eq_true rfl)⟩ dX10_goesOn_79 ?_
            rintro _ _ ⟨rfl, rfl⟩
            show jx_J X 0 0 82 [(0, .ref l0)] [.int x129, .ref l0] h119
            exact b82 l0 l0 x129 h119 e
          · replace e := ifn c130 e
            refine j_iconst (v := (2 : Int32)) C dX10_goesOn_70 (by decide) ?_
            refine j_goto (tgt := 82) C dX10_goesOn_71 (by decide) ?_
            exact b82 l0 l0 (2 : Int32) h119 e
        · replace e := ifn c131 e
          refine j_iconst (v := (1 : Int32)) C dX10_goesOn_59 (by decide) ?_
          refine j_goto (tgt := 82) C dX10_goesOn_60 (by decide) ?_
          exact b82 l0 l0 (1 : Int32) h119 e
      · replace e := ifp c132 e
        refine j_iconst (v := (0 : Int32)) C dX10_goesOn_48 (by decide) ?_
        refine j_goto (tgt := 82) C dX10_goesOn_49 (by decide) ?_
        exact b82 l0 l0 (0 : Int32) h119 e
    · replace e := ifp c133 e
      exact b18 h110 e
/-! BorderBasisModel.fails(I)V -/
noncomputable def FX10_fails (l0 : Nat) (l1 : Int32) (h : jx_H) : Option (jx_H) :=
(hgi h l0 10 15).bind fun x1 =>
if x1 = 0 then
 (hp h l0 10 15 (.int l1)).bind fun h2 =>
 (hgi h2 l0 10 12).bind fun x3 =>
 (hp h2 l0 10 16 (.int x3)).bind fun h4 =>
 some h4
else
 some h
def rmX10_fails : Room := { frames := 0, cells := 0, slots := 0, locals := 0 }
set_option maxRecDepth 20000 in
set_option maxHeartbeats 4000000 in
theorem sX10_fails {l0 : Nat} {l1 : Int32} {h : jx_H} {h9 : jx_H} (e : FX10_fails l0 l1 h = some h9) : jx_Ct yX10_fails cX10_fails 2 none rmX10_fails [.ref l0, .int l1] h (fun r' h' => none = r' ∧ h9 = h') := by
  refine jx_Ct.of (own := RX10) (by decide) rfl (Nat.le_of_ble_eq_true rfl) (fun X C hq hr hL hN => ?_)
  refine jx_sub (lv' := [(0, .ref l0), (1, .int l1)]) [0, 1] rfl ?_
  unfold FX10_fails at e
  refine j_aload_n C dX10_fails_0 rfl rfl ?_
  replace e := ob e
  obtain ⟨x6, ex6, e⟩ := e
  refine j_geti (ci := 10) (RC := RX10) (T := TX10) (N := 38) 15 C rfl klX10 (Nat.le_of_ble_eq_true rfl) kX10_175 rfl dX10_fails_1 ex6 ?_
  refine j_if_ne (tgt := 20) C dX10_fails_4 (by decide) (fun c10 => ?_) (fun c10 => ?_)
  · replace e := ifn c10 e
    cases e
    exact j_vret C hq dX10_fails_20 ⟨Nat.le_of_ble_eq_true rfl, Nat.le_of_ble_eq_true rfl⟩ ⟨rfl, rfl⟩
  · replace e := ifp c10 e
    refine j_aload_n C dX10_fails_7 rfl rfl ?_
    refine j_iload_n C dX10_fails_8 rfl rfl ?_
    replace e := ob e
    obtain ⟨h7, eh7, e⟩ := e
    refine j_put (ci := 10) (RC := RX10) (T := TX10) (N := 38) (ty0 := tyX10) 15 C rfl klX10 tyX10_ok nmX10 (Nat.le_of_ble_eq_true rfl) kX10_175 rfl rfl rfl rfl dX10_fails_9 eh7 ?_
    refine j_aload_n C dX10_fails_12 rfl rfl ?_
    refine j_aload_n C dX10_fails_13 rfl rfl ?_
    replace e := ob e
    obtain ⟨x8, ex8, e⟩ := e
    refine j_geti (ci := 10) (RC := RX10) (T := TX10) (N := 38) 12 C rfl klX10 (Nat.le_of_ble_eq_true rfl) kX10_155 rfl dX10_fails_14 ex8 ?_
    replace e := ob e
    obtain ⟨h9, eh9, e⟩ := e
    refine j_put (ci := 10) (RC := RX10) (T := TX10) (N := 38) (ty0 := tyX10) 16 C rfl klX10 tyX10_ok nmX10 (Nat.le_of_ble_eq_true rfl) kX10_36 rfl rfl rfl rfl dX10_fails_17 eh9 ?_
    cases e
    exact j_vret C hq dX10_fails_20 ⟨Nat.le_of_ble_eq_true rfl, Nat.le_of_ble_eq_true rfl⟩ ⟨rfl, rfl⟩
/-! BorderBasisModel.wordHere()I -/
noncomputable def BX10_wordHere_108 (l0 : Nat) (l1 : Int32) (l2 : Int32) (l3 : Int32) (h : jx_H) : Option ((Int32 × Int32) ⊕ (Int32)) :=
some (.inl ((l1 + (l3 + (1 : Int32))), (l2 + (1 : Int32))))
noncomputable def BX10_wordHere_80 (l0 : Nat) (l1 : Int32) (l2 : Int32) (l3 : Int32) (s0 : Int32) (h : jx_H) : Option ((Int32 × Int32) ⊕ ((Int32 × Int32) ⊕ (Int32))) :=
some (.inl ((l3 + (1 : Int32)), s0))
noncomputable def BX10_wordHere_79 (l0 : Nat) (l1 : Int32) (l2 : Int32) (l3 : Int32) (h : jx_H) : Option ((Int32 × Int32) ⊕ ((Int32 × Int32) ⊕ (Int32))) :=
BX10_wordHere_80 l0 l1 l2 l3 (0 : Int32) h
noncomputable def LX10_wordHere_22 (l0 : Nat) (l1 : Int32) (l2 : Int32) (l3 : Int32) (l4 : Int32) (h : jx_H) : Option ((Int32 × Int32) ⊕ ((Int32 × Int32) ⊕ (Int32))) :=
(hgr h l0 10 17).bind fun x2 =>
(hal h .byte x2 (l1 + l3)).bind fun x3 =>
if x3 = (32 : Int32) then
 exL (if l4 = 0 then
  BX10_wordHere_108 l0 l1 l2 l3 h
 else
  (hgi h l0 10 11).bind fun x4 =>
  (hgi h l0 10 12).bind fun x5 =>
  if (x4 - x5) = l3 then
   exL (some l2)
  else
   BX10_wordHere_108 l0 l1 l2 l3 h)
else
 if l4 = 0 then
  BX10_wordHere_79 l0 l1 l2 l3 h
 else
  (hgi h l0 10 12).bind fun x8 =>
  (hgi h l0 10 11).bind fun x9 =>
  if x9 ≤ (x8 + l3) then
   BX10_wordHere_79 l0 l1 l2 l3 h
  else
   (hgr h l0 10 9).bind fun x10 =>
   (hgi h l0 10 12).bind fun x11 =>
   (hal h .byte x10 (x11 + l3)).bind fun x12 =>
   (hgr h l0 10 17).bind fun x13 =>
   (hal h .byte x13 (l1 + l3)).bind fun x14 =>
   if x12 = x14 then
    BX10_wordHere_80 l0 l1 l2 l3 (1 : Int32) h
   else
    BX10_wordHere_79 l0 l1 l2 l3 h
noncomputable def LX10_wordHere_4 (l0 : Nat) (l1 : Int32) (l2 : Int32) (h : jx_H) : Option ((Int32 × Int32) ⊕ (Int32)) :=
(hgi h l0 10 13).bind fun x1 =>
if x1 = (1 : Int32) then
 if (5 : Int32) ≤ l2 then
  exL (some (-1 : Int32))
 else
  itr (fun s : Int32 × Int32 => LX10_wordHere_22 l0 l1 l2 s.1 s.2 h) ((0 : Int32), (1 : Int32))
else
 exL (some (-1 : Int32))
noncomputable def FX10_wordHere (l0 : Nat) (h : jx_H) : Option (Int32) :=
itr (fun s : Int32 × Int32 => LX10_wordHere_4 l0 s.1 s.2 h) ((0 : Int32), (0 : Int32))
def rmX10_wordHere : Room := { frames := 0, cells := 0, slots := 0, locals := 0 }
set_option maxRecDepth 20000 in
set_option maxHeartbeats 4000000 in
theorem sX10_wordHere {l0 : Nat} {h : jx_H} {r : Int32}  (e : FX10_wordHere l0 h = some r) : jx_Ct yX10_wordHere cX10_wordHere 5 (some .int) rmX10_wordHere [.ref l0] h (fun r' h' => some (.int r) = r' ∧ h = h') := by
  refine jx_Ct.of (own := RX10) (by decide) rfl (Nat.le_of_ble_eq_true rfl) (fun X C hq hr hL hN => ?_)
  refine jx_sub (lv' := [(0, .ref l0)]) [0] rfl ?_
  unfold FX10_wordHere at e
  refine j_iconst (v := (0 : Int32)) C dX10_wordHere_0 (by decide) ?_
  refine j_istore_n (lv1 := [(1, .int (0 : Int32)), (0, .ref l0)]) C hL dX10_wordHere_1 rfl (Nat.le_of_ble_eq_true rfl) rfl ?_
  refine j_iconst (v := (0 : Int32)) C dX10_wordHere_2 (by decide) ?_
  refine j_istore_n (lv1 := [(2, .int (0 : Int32)), (1, .int (0 : Int32)), (0, .ref l0)]) C hL dX10_wordHere_3 rfl (Nat.le_of_ble_eq_true rfl) rfl ?_
  refine jx_sub (lv' := [(0, .ref l0), (1, .int (0 : Int32)), (2, .int (0 : Int32))]) [2, 1, 0] rfl ?_
  refine itr_ind (s0 := ((0 : Int32), (0 : Int32))) (fun s : Int32 × Int32 => jx_J X 0 0 4 [(0, .ref l0), (1, .int s.1), (2, .int s.2)] [] h) e ?_
  clear e
  intro s kI5 kT5 e0
  obtain ⟨z21, z22⟩ := s
  obtain ⟨u5, e0_5⟩ := e0
  have e : LX10_wordHere_4 l0 z21 z22 h = some u5 := e0_5
  have b108 : ∀ (y23 : Int32) (y24 : Int32) (y25 : Int32), BX10_wordHere_108 l0 y23 y24 y25 h = some u5 → jx_J X 0 0 108 [(0, .ref l0), (1, .int y23), (2, .int y24), (3, .int y25)] [] h := by
    intro y23 y24 y25 e
    unfold BX10_wordHere_108 at e
    refine j_iload_n C dX10_wordHere_108 rfl rfl ?_
    refine j_iload_n C dX10_wordHere_109 rfl rfl ?_
    refine j_iconst (v := (1 : Int32)) C dX10_wordHere_110 (by decide) ?_
    refine j_iadd C dX10_wordHere_111 ?_
    refine j_iadd C dX10_wordHere_112 ?_
    refine j_istore_n (lv1 := [(1, .int (y23 + (y25 + (1 : Int32)))), (0, .ref l0), (2, .int y24), (3, .int y25)]) C hL dX10_wordHere_113 rfl (Nat.le_of_ble_eq_true rfl) rfl ?_
    refine j_iinc (v := (y24 + (1 : Int32))) (lv1 := [(2, .int (y24 + (1 : Int32))), (1, .int (y23 + (y25 + (1 : Int32)))), (0, .ref l0), (3, .int y25)]) C hL dX10_wordHere_114 rfl rfl (Nat.le_of_ble_eq_true rfl) rfl ?_
    refine j_goto (tgt := 4) C dX10_wordHere_117 (by decide) ?_
    obtain rfl := Option.some.inj e
    refine jx_sub (lv' := [(0, .ref l0), (1, .int (y23 + (y25 + (1 : Int32)))), (2, .int (y24 + (1 : Int32)))]) [2, 1, 0] rfl ?_
    exact kI5 ((y23 + (y25 + (1 : Int32))), (y24 + (1 : Int32))) e0_5
  unfold LX10_wordHere_4 at e
  refine j_aload_n C dX10_wordHere_4 rfl rfl ?_
  replace e := ob e
  obtain ⟨x26, ex26, e⟩ := e
  refine j_geti (ci := 10) (RC := RX10) (T := TX10) (N := 38) 13 C rfl klX10 (Nat.le_of_ble_eq_true rfl) kX10_169 rfl dX10_wordHere_5 ex26 ?_
  refine j_iconst (v := (1 : Int32)) C dX10_wordHere_8 (by decide) ?_
  refine j_icmp_ne (tgt := 120) C dX10_wordHere_9 (by decide) (fun c50 => ?_) (fun c50 => ?_)
  · replace e := ifn c50 e
    obtain ⟨t_6, e_6, eu_6⟩ := exL_spec e
    obtain rfl := kT5 t_6 (e0_5.trans (congrArg some eu_6))
    replace e := e_6
    refine j_iconst (v := (-1 : Int32)) C dX10_wordHere_120 (by decide) ?_
    cases e
    exact j_iret C hq rfl dX10_wordHere_121 ⟨Nat.le_of_ble_eq_true rfl, Nat.le_of_ble_eq_true rfl⟩ ⟨rfl, rfl⟩
  · replace e := ifp c50 e
    refine j_iload_n C dX10_wordHere_12 rfl rfl ?_
    refine j_iconst (v := (5 : Int32)) C dX10_wordHere_13 (by decide) ?_
    refine j_icmp_ge (tgt := 120) C dX10_wordHere_14 (by decide) (fun c49 => ?_) (fun c49 => ?_)
    · replace e := ifp c49 e
      obtain ⟨t_7, e_7, eu_7⟩ := exL_spec e
      obtain rfl := kT5 t_7 (e0_5.trans (congrArg some eu_7))
      replace e := e_7
      refine j_iconst (v := (-1 : Int32)) C dX10_wordHere_120 (by decide) ?_
      cases e
      exact j_iret C hq rfl dX10_wordHere_121 ⟨Nat.le_of_ble_eq_true rfl, Nat.le_of_ble_eq_true rfl⟩ ⟨rfl, rfl⟩
    · replace e := ifn c49 e
      refine j_iconst (v := (0 : Int32)) C dX10_wordHere_17 (by decide) ?_
      refine j_istore_n (lv1 := [(3, .int (0 : Int32)), (0, .ref l0), (1, .int z21), (2, .int z22)]) C hL dX10_wordHere_18 rfl (Nat.le_of_ble_eq_true rfl) rfl ?_
      refine j_iconst (v := (1 : Int32)) C dX10_wordHere_19 (by decide) ?_
      refine j_istore (lv1 := [(4, .int (1 : Int32)), (3, .int (0 : Int32)), (0, .ref l0), (1, .int z21), (2, .int z22)]) C hL dX10_wordHere_20 (Nat.le_of_ble_eq_true rfl) rfl ?_
      refine jx_sub (lv' := [(0, .ref l0), (1, .int z21), (2, .int z22), (3, .int (0 : Int32)), (4, .int (1 : Int32))]) [2, 3, 4, 1, 0] rfl ?_
      refine itr_ind (s0 := ((0 : Int32), (1 : Int32))) (fun s : Int32 × Int32 => jx_J X 0 0 22 [(0, .ref l0), (1, .int z21), (2, .int z22), (3, .int s.1), (4, .int s.2)] [] h) e ?_
      clear e
      intro s kI8 kT8 e0
      obtain ⟨z27, z28⟩ := s
      obtain ⟨u8, e0_8⟩ := e0
      have e : LX10_wordHere_22 l0 z21 z22 z27 z28 h = some u8 := e0_8
      have b80 : ∀ (y29 : Int32) (y30 : Int32), BX10_wordHere_80 l0 z21 z22 y29 y30 h = some u8 → jx_J X 0 0 80 [(0, .ref l0), (1, .int z21), (2, .int z22), (3, .int y29)] [.int y30] h := by
        intro y29 y30 e
        unfold BX10_wordHere_80 at e
        refine j_istore (lv1 := [(4, .int y30), (0, .ref l0), (1, .int z21), (2, .int z22), (3, .int y29)]) C hL dX10_wordHere_80 (Nat.le_of_ble_eq_true rfl) rfl ?_
        refine j_iinc (v := (y29 + (1 : Int32))) (lv1 := [(3, .int (y29 + (1 : Int32))), (4, .int y30), (0, .ref l0), (1, .int z21), (2, .int z22)]) C hL dX10_wordHere_82 rfl rfl (Nat.le_of_ble_eq_true rfl) rfl ?_
        refine j_goto (tgt := 22) C dX10_wordHere_85 (by decide) ?_
        obtain rfl := Option.some.inj e
        refine jx_sub (lv' := [(0, .ref l0), (1, .int z21), (2, .int z22), (3, .int (y29 + (1 : Int32))), (4, .int y30)]) [2, 3, 4, 0, 1] rfl ?_
        exact kI8 ((y29 + (1 : Int32)), y30) e0_8
      have b79 : ∀ (y31 : Int32), BX10_wordHere_79 l0 z21 z22 y31 h = some u8 → jx_J X 0 0 79 [(0, .ref l0), (1, .int z21), (2, .int z22), (3, .int y31)] [] h := by
        intro y31 e
        unfold BX10_wordHere_79 at e
        refine j_iconst (v := (0 : Int32)) C dX10_wordHere_79 (by decide) ?_
        exact b80 y31 (0 : Int32) e
      unfold LX10_wordHere_22 at e
      refine j_aload_n C dX10_wordHere_22 rfl rfl ?_
      replace e := ob e
      obtain ⟨x32, ex32, e⟩ := e
      refine j_getr (ci := 10) (RC := RX10) (T := TX10) (N := 38) 17 C rfl klX10 (Nat.le_of_ble_eq_true rfl) kX10_40 rfl dX10_wordHere_23 ex32 ?_
      refine j_iload_n C dX10_wordHere_26 rfl rfl ?_
      refine j_iload_n C dX10_wordHere_27 rfl rfl ?_
      refine j_iadd C dX10_wordHere_28 ?_
      replace e := ob e
      obtain ⟨x33, ex33, e⟩ := e
      refine j_bald C dX10_wordHere_29 ex33 ?_
      refine j_bipush (v := (32 : Int32)) C dX10_wordHere_30 (by decide) ?_
      refine j_icmp_eq (tgt := 88) C dX10_wordHere_32 (by decide) (fun c48 => ?_) (fun c48 => ?_)
      · replace e := ifp c48 e
        obtain ⟨t_10, e_10, eu_10⟩ := exL_spec e
        obtain rfl := kT8 t_10 (e0_8.trans (congrArg some eu_10))
        replace e := e_10
        refine j_iload C dX10_wordHere_88 rfl ?_
        refine j_if_eq (tgt := 108) C dX10_wordHere_90 (by decide) (fun c37 => ?_) (fun c37 => ?_)
        · replace e := ifp c37 e
          refine jx_sub (lv' := [(0, .ref l0), (1, .int z21), (2, .int z22), (3, .int z27)]) [0, 1, 2, 3] rfl ?_
          exact b108 z21 z22 z27 e
        · replace e := ifn c37 e
          refine j_aload_n C dX10_wordHere_93 rfl rfl ?_
          replace e := ob e
          obtain ⟨x34, ex34, e⟩ := e
          refine j_geti (ci := 10) (RC := RX10) (T := TX10) (N := 38) 11 C rfl klX10 (Nat.le_of_ble_eq_true rfl) kX10_149 rfl dX10_wordHere_94 ex34 ?_
          refine j_aload_n C dX10_wordHere_97 rfl rfl ?_
          replace e := ob e
          obtain ⟨x35, ex35, e⟩ := e
          refine j_geti (ci := 10) (RC := RX10) (T := TX10) (N := 38) 12 C rfl klX10 (Nat.le_of_ble_eq_true rfl) kX10_155 rfl dX10_wordHere_98 ex35 ?_
          refine j_isub C dX10_wordHere_101 ?_
          refine j_iload_n C dX10_wordHere_102 rfl rfl ?_
          refine j_icmp_ne (tgt := 108) C dX10_wordHere_103 (by decide) (fun c36 => ?_) (fun c36 => ?_)
          · replace e := ifn c36 e
            refine jx_sub (lv' := [(0, .ref l0), (1, .int z21), (2, .int z22), (3, .int z27)]) [0, 1, 2, 3] rfl ?_
            exact b108 z21 z22 z27 e
          · replace e := ifp c36 e
            obtain ⟨t_9, e_9, eu_9⟩ := exL_spec e
            obtain rfl := kT5 t_9 (e0_5.trans (congrArg some eu_9))
            replace e := e_9
            refine j_iload_n C dX10_wordHere_106 rfl rfl ?_
            cases e
            exact j_iret C hq rfl dX10_wordHere_107 ⟨Nat.le_of_ble_eq_true rfl, Nat.le_of_ble_eq_true rfl⟩ ⟨rfl, rfl⟩
      · replace e := ifn c48 e
        refine j_iload C dX10_wordHere_35 rfl ?_
        refine j_if_eq (tgt := 79) C dX10_wordHere_37 (by decide) (fun c47 => ?_) (fun c47 => ?_)
        · replace e := ifp c47 e
          refine jx_sub (lv' := [(0, .ref l0), (1, .int z21), (2, .int z22), (3, .int z27)]) [0, 1, 2, 3] rfl ?_
          exact b79 z27 e
        · replace e := ifn c47 e
          refine j_aload_n C dX10_wordHere_40 rfl rfl ?_
          replace e := ob e
          obtain ⟨x38, ex38, e⟩ := e
          refine j_geti (ci := 10) (RC := RX10) (T := TX10) (N := 38) 12 C rfl klX10 (Nat.le_of_ble_eq_true rfl) kX10_155 rfl dX10_wordHere_41 ex38 ?_
          refine j_iload_n C dX10_wordHere_44 rfl rfl ?_
          refine j_iadd C dX10_wordHere_45 ?_
          refine j_aload_n C dX10_wordHere_46 rfl rfl ?_
          replace e := ob e
          obtain ⟨x39, ex39, e⟩ := e
          refine j_geti (ci := 10) (RC := RX10) (T := TX10) (N := 38) 11 C rfl klX10 (Nat.le_of_ble_eq_true rfl) kX10_149 rfl dX10_wordHere_47 ex39 ?_
          refine j_icmp_ge (tgt := 79) C dX10_wordHere_50 (by decide) (fun c46 => ?_) (fun c46 => ?_)
          · replace e := ifp c46 e
            refine jx_sub (lv' := [(0, .ref l0), (1, .int z21), (2, .int z22), (3, .int z27)]) [0, 1, 2, 3] rfl ?_
            exact b79 z27 e
          · replace e := ifn c46 e
            refine j_aload_n C dX10_wordHere_53 rfl rfl ?_
            replace e := ob e
            obtain ⟨x40, ex40, e⟩ := e
            refine j_getr (ci := 10) (RC := RX10) (T := TX10) (N := 38) 9 C rfl klX10 (Nat.le_of_ble_eq_true rfl) kX10_32 rfl dX10_wordHere_54 ex40 ?_
            refine j_aload_n C dX10_wordHere_57 rfl rfl ?_
            replace e := ob e
            obtain ⟨x41, ex41, e⟩ := e
            refine j_geti (ci := 10) (RC := RX10) (T := TX10) (N := 38) 12 C rfl klX10 (Nat.le_of_ble_eq_true rfl) kX10_155 rfl dX10_wordHere_58 ex41 ?_
            refine j_iload_n C dX10_wordHere_61 rfl rfl ?_
            refine j_iadd C dX10_wordHere_62 ?_
            replace e := ob e
            obtain ⟨x42, ex42, e⟩ := e
            refine j_bald C dX10_wordHere_63 ex42 ?_
            refine j_aload_n C dX10_wordHere_64 rfl rfl ?_
            replace e := ob e
            obtain ⟨x43, ex43, e⟩ := e
            refine j_getr (ci := 10) (RC := RX10) (T := TX10) (N := 38) 17 C rfl klX10 (Nat.le_of_ble_eq_true rfl) kX10_40 rfl dX10_wordHere_65 ex43 ?_
            refine j_iload_n C dX10_wordHere_68 rfl rfl ?_
            refine j_iload_n C dX10_wordHere_69 rfl rfl ?_
            refine j_iadd C dX10_wordHere_70 ?_
            replace e := ob e
            obtain ⟨x44, ex44, e⟩ := e
            refine j_bald C dX10_wordHere_71 ex44 ?_
            refine j_icmp_ne (tgt := 79) C dX10_wordHere_72 (by decide) (fun c45 => ?_) (fun c45 => ?_)
            · replace e := ifn c45 e
              refine jx_sub (lv' := [(0, .ref l0), (1, .int z21), (2, .int z22), (3, .int z27)]) [0, 1, 2, 3] rfl ?_
              exact b79 z27 e
            · replace e := ifp c45 e
              refine j_iconst (v := (1 : Int32)) C dX10_wordHere_75 (by decide) ?_
              refine j_goto (tgt := 80) C dX10_wordHere_76 (by decide) ?_
              refine jx_sub (lv' := [(0, .ref l0), (1, .int z21), (2, .int z22), (3, .int z27)]) [0, 1, 2, 3] rfl ?_
              exact b80 z27 (1 : Int32) e
