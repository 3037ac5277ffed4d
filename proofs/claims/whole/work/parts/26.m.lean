/-! BorderBasisModel.arePowers(II)Z -/
noncomputable def FX10_arePowers (l0 : Int32) (l1 : Int32) (h : jx_H) : Option (Int32) :=
(FX10_in l0 (0 : Int32) (22 : Int32) h).bind fun x1 =>
if x1 = 0 then
 some (0 : Int32)
else
 (FX10_in l1 (0 : Int32) (22 : Int32) h).bind fun x2 =>
 if x2 = 0 then
  some (0 : Int32)
 else
  some (1 : Int32)
def rmX10_arePowers : Room := { frames := 1, cells := 0, slots := 0, locals := 22 }
set_option maxRecDepth 20000 in
set_option maxHeartbeats 4000000 in
theorem sX10_arePowers {l0 : Int32} {l1 : Int32} {h : jx_H} {r : Int32}  (e : FX10_arePowers l0 l1 h = some r) : jx_Ct yX10_arePowers cX10_arePowers 2 (some .boolean) rmX10_arePowers [.int l0, .int l1] h (fun r' h' => some (.int r) = r' ∧ h = h') := by
  refine jx_Ct.of (own := RX10) (by decide) rfl (Nat.le_of_ble_eq_true rfl) (fun X C hq hr hL hN => ?_)
  refine jx_sub (lv' := [(0, .int l0), (1, .int l1)]) [0, 1] rfl ?_
  unfold FX10_arePowers at e
  refine j_iload_n C dX10_arePowers_0 rfl rfl ?_
  refine j_iconst (v := (0 : Int32)) C dX10_arePowers_1 (by decide) ?_
  refine j_bipush (v := (22 : Int32)) C dX10_arePowers_2 (by decide) ?_
  replace e := ob e
  obtain ⟨x5, ex5, e⟩ := e
  refine j_callS (As := [.int l0, .int (0 : Int32), .int (22 : Int32)]) (na := 3) (st := []) (k1 := 0) (n1 := 0) C hr (sX10_in ex5) kX10_101 kst_X10_in kini_X10 kc_X10_in (by decide) rfl ⟨(Nat.le_of_ble_eq_true rfl), (Nat.le_of_ble_eq_true rfl)⟩ (Nat.le_of_ble_eq_true rfl) ⟨rfl, rfl, (Nat.le_of_ble_eq_true rfl), (Nat.le_of_ble_eq_true rfl)⟩ dX10_arePowers_4 ?_
  rintro _ _ ⟨rfl, rfl⟩
  show jx_J X 0 0 7 [(0, .int l0), (1, .int l1)] [.int x5] h
  refine j_if_eq (tgt := 24) C dX10_arePowers_7 (by decide) (fun c8 => ?_) (fun c8 => ?_)
  · replace e := ifp c8 e
    refine j_iconst (v := (0 : Int32)) C dX10_arePowers_24 (by decide) ?_
    cases e
    exact j_iret C hq rfl dX10_arePowers_25 ⟨Nat.le_of_ble_eq_true rfl, Nat.le_of_ble_eq_true rfl⟩ ⟨rfl, rfl⟩
  · replace e := ifn c8 e
    refine j_iload_n C dX10_arePowers_10 rfl rfl ?_
    refine j_iconst (v := (0 : Int32)) C dX10_arePowers_11 (by decide) ?_
    refine j_bipush (v := (22 : Int32)) C dX10_arePowers_12 (by decide) ?_
    replace e := ob e
    obtain ⟨x6, ex6, e⟩ := e
    refine j_callS (As := [.int l1, .int (0 : Int32), .int (22 : Int32)]) (na := 3) (st := []) (k1 := 0) (n1 := 0) C hr (sX10_in ex6) kX10_101 kst_X10_in kini_X10 kc_X10_in (by decide) rfl ⟨(Nat.le_of_ble_eq_true rfl), (Nat.le_of_ble_eq_true rfl)⟩ (Nat.le_of_ble_eq_true rfl) ⟨rfl, rfl, (Nat.le_of_ble_eq_true rfl), (Nat.le_of_ble_eq_true rfl)⟩ dX10_arePowers_14 ?_
    rintro _ _ ⟨rfl, rfl⟩
    show jx_J X 0 0 17 [(0, .int l0), (1, .int l1)] [.int x6] h
    refine j_if_eq (tgt := 24) C dX10_arePowers_17 (by decide) (fun c7 => ?_) (fun c7 => ?_)
    · replace e := ifp c7 e
      refine j_iconst (v := (0 : Int32)) C dX10_arePowers_24 (by decide) ?_
      cases e
      exact j_iret C hq rfl dX10_arePowers_25 ⟨Nat.le_of_ble_eq_true rfl, Nat.le_of_ble_eq_true rfl⟩ ⟨rfl, rfl⟩
    · replace e := ifn c7 e
      refine j_iconst (v := (1 : Int32)) C dX10_arePowers_20 (by decide) ?_
      refine j_goto (tgt := 25) C dX10_arePowers_21 (by decide) ?_
      cases e
      exact j_iret C hq rfl dX10_arePowers_25 ⟨Nat.le_of_ble_eq_true rfl, Nat.le_of_ble_eq_true rfl⟩ ⟨rfl, rfl⟩
/-! BorderBasisModel.trace(II)I -/
noncomputable def BX10_trace_14 (l0 : Nat) (l1 : Int32) (l2 : Int32) (s0 : Nat) (s1 : Int32) (h : jx_H) : Option (Int32 × jx_H) :=
(hp h s0 10 0 (.int s1)).bind fun h1 =>
(hgi h1 l0 10 0).bind fun x2 =>
if x2 ≤ 0 then
 (isO h1 l0 10).bind fun _ =>
 (FX10_laysTables l0 h1).bind fun h4 =>
 (isO h4 l0 10).bind fun _ =>
 bind2 (FX10_traceOf l0 l1 l2 h4) fun x6 h7 =>
 some (x6, h7)
else
 some ((0 : Int32), h1)
noncomputable def FX10_trace (l0 : Nat) (l1 : Int32) (l2 : Int32) (h : jx_H) : Option (Int32 × jx_H) :=
(FX10_arePowers l1 l2 h).bind fun x9 =>
if x9 = 0 then
 BX10_trace_14 l0 l1 l2 l0 (1 : Int32) h
else
 BX10_trace_14 l0 l1 l2 l0 (0 : Int32) h
def rmX10_trace : Room := { frames := 4, cells := 0, slots := 0, locals := 95 }
set_option maxRecDepth 20000 in
set_option maxHeartbeats 4000000 in
theorem sX10_trace {l0 : Nat} {l1 : Int32} {l2 : Int32} {h : jx_H} {r : Int32} {h9 : jx_H} (e : FX10_trace l0 l1 l2 h = some (r, h9)) : jx_Ct yX10_trace cX10_trace 3 (some .int) rmX10_trace [.ref l0, .int l1, .int l2] h (fun r' h' => some (.int r) = r' ∧ h9 = h') := by
  refine jx_Ct.of (own := RX10) (by decide) rfl (Nat.le_of_ble_eq_true rfl) (fun X C hq hr hL hN => ?_)
  refine jx_sub (lv' := [(0, .ref l0), (1, .int l1), (2, .int l2)]) [0, 1, 2] rfl ?_
  have b14 : ∀ (y11 : Nat) (y12 : Int32) (y13 : Int32) (y14 : Nat) (y15 : Int32) (h16 : jx_H), BX10_trace_14 y11 y12 y13 y14 y15 h16 = some (r, h9) → jx_J X 0 0 14 [(0, .ref y11), (1, .int y12), (2, .int y13)] [.int y15, .ref y14] h16 := by
    intro y11 y12 y13 y14 y15 h16 e
    unfold BX10_trace_14 at e
    replace e := ob e
    obtain ⟨h17, eh17, e⟩ := e
    refine j_put (ci := 10) (RC := RX10) (T := TX10) (N := 38) (ty0 := tyX10) 0 C rfl klX10 tyX10_ok nmX10 (Nat.le_of_ble_eq_true rfl) kX10_91 rfl rfl rfl rfl dX10_trace_14 eh17 ?_
    refine j_aload_n C dX10_trace_17 rfl rfl ?_
    replace e := ob e
    obtain ⟨x18, ex18, e⟩ := e
    refine j_geti (ci := 10) (RC := RX10) (T := TX10) (N := 38) 0 C rfl klX10 (Nat.le_of_ble_eq_true rfl) kX10_91 rfl dX10_trace_18 ex18 ?_
    refine j_if_le (tgt := 26) C dX10_trace_21 (by decide) (fun c24 => ?_) (fun c24 => ?_)
    · replace e := ifp c24 e
      refine j_aload_n C dX10_trace_26 rfl rfl ?_
      replace e := ob e
      obtain ⟨_, eo19, e⟩ := e
      replace e := ob e
      obtain ⟨h20, eh20, e⟩ := e
      refine j_callV (ci := 10) (RC := RX10) (T := TX10) (N := 38) (As := []) (b := y11) (na := 0) (st := []) (k1 := 0) (n1 := 0) C hr (sX10_laysTables eh20) rfl eo19 kX10_261 kim_X10_laysTables ksel_X10_laysTables kini_X10 kc_X10_laysTables (by decide) rfl ⟨(Nat.le_of_ble_eq_true rfl), (Nat.le_of_ble_eq_true rfl)⟩ (Nat.le_of_ble_eq_true rfl) ⟨rfl, rfl, (Nat.le_of_ble_eq_true rfl), (Nat.le_of_ble_eq_true rfl)⟩ dX10_trace_27 ?_
      rintro _ _ ⟨rfl, rfl⟩
      show jx_J X 0 0 30 [(0, .ref y11), (1, .int y12), (2, .int y13)] [] h20
      refine j_aload_n C dX10_trace_30 rfl rfl ?_
      refine j_iload_n C dX10_trace_31 rfl rfl ?_
      refine j_iload_n C dX10_trace_32 rfl rfl ?_
      replace e := ob e
      obtain ⟨_, eo21, e⟩ := e
      replace e := ob2 e
      obtain ⟨x22, h23, ex22, e⟩ := e
      refine j_callV (ci := 10) (RC := RX10) (T := TX10) (N := 38) (As := [.int y12, .int y13]) (b := y11) (na := 2) (st := []) (k1 := 0) (n1 := 0) C hr (sX10_traceOf ex22) rfl eo21 kX10_304 kim_X10_traceOf ksel_X10_traceOf kini_X10 kc_X10_traceOf (by decide) rfl ⟨(Nat.le_of_ble_eq_true rfl), (Nat.le_of_ble_eq_true rfl)⟩ (Nat.le_of_ble_eq_true rfl) ⟨rfl, rfl, (Nat.le_of_ble_eq_true rfl), (Nat.le_of_ble_eq_true rfl)⟩ dX10_trace_33 ?_
      rintro _ _ ⟨rfl, rfl⟩
      show jx_J X 0 0 36 [(0, .ref y11), (1, .int y12), (2, .int y13)] [.int x22] h23
      cases e
      exact j_iret C hq rfl dX10_trace_36 ⟨Nat.le_of_ble_eq_true rfl, Nat.le_of_ble_eq_true rfl⟩ ⟨rfl, rfl⟩
    · replace e := ifn c24 e
      refine j_iconst (v := (0 : Int32)) C dX10_trace_24 (by decide) ?_
      cases e
      exact j_iret C hq rfl dX10_trace_25 ⟨Nat.le_of_ble_eq_true rfl, Nat.le_of_ble_eq_true rfl⟩ ⟨rfl, rfl⟩
  unfold FX10_trace at e
  refine j_aload_n C dX10_trace_0 rfl rfl ?_
  refine j_iload_n C dX10_trace_1 rfl rfl ?_
  refine j_iload_n C dX10_trace_2 rfl rfl ?_
  replace e := ob e
  obtain ⟨x25, ex25, e⟩ := e
  refine j_callS (As := [.int l1, .int l2]) (na := 2) (st := [.ref l0]) (k1 := 0) (n1 := 0) C hr (sX10_arePowers ex25) kX10_368 kst_X10_arePowers kini_X10 kc_X10_arePowers (by decide) rfl ⟨(Nat.le_of_ble_eq_true rfl), (Nat.le_of_ble_eq_true rfl)⟩ (Nat.le_of_ble_eq_true rfl) ⟨rfl, rfl, (Nat.le_of_ble_eq_true rfl), (Nat.le_of_ble_eq_true rfl)⟩ dX10_trace_3 ?_
  rintro _ _ ⟨rfl, rfl⟩
  show jx_J X 0 0 6 [(0, .ref l0), (1, .int l1), (2, .int l2)] [.int x25, .ref l0] h
  refine j_if_eq (tgt := 13) C dX10_trace_6 (by decide) (fun c26 => ?_) (fun c26 => ?_)
  · replace e := ifp c26 e
    refine j_iconst (v := (1 : Int32)) C dX10_trace_13 (by decide) ?_
    exact b14 l0 l1 l2 l0 (1 : Int32) h e
  · replace e := ifn c26 e
    refine j_iconst (v := (0 : Int32)) C dX10_trace_9 (by decide) ?_
    refine j_goto (tgt := 14) C dX10_trace_10 (by decide) ?_
    exact b14 l0 l1 l2 l0 (0 : Int32) h e
/-! BorderBasisModel.normal(III)I -/
noncomputable def BX10_normal_26 (l0 : Nat) (l1 : Int32) (l2 : Int32) (l3 : Int32) (s0 : Nat) (s1 : Int32) (h : jx_H) : Option (Int32 × jx_H) :=
(hp h s0 10 0 (.int s1)).bind fun h1 =>
(hgi h1 l0 10 0).bind fun x2 =>
if x2 ≤ 0 then
 (isO h1 l0 10).bind fun _ =>
 (FX10_laysTables l0 h1).bind fun h4 =>
 (isO h4 l0 10).bind fun _ =>
 (FX10_laysNormal l0 l1 l2 h4).bind fun h6 =>
 (hgr h6 l0 10 26).bind fun x7 =>
 (hal h6 .int x7 l3).bind fun x8 =>
 some (x8, h6)
else
 some ((0 : Int32), h1)
noncomputable def FX10_normal (l0 : Nat) (l1 : Int32) (l2 : Int32) (l3 : Int32) (h : jx_H) : Option (Int32 × jx_H) :=
(isO h l0 10).bind fun _ =>
(FX10_isMonomial l0 l3 h).bind fun x11 =>
if x11 = 0 then
 BX10_normal_26 l0 l1 l2 l3 l0 (1 : Int32) h
else
 (FX10_arePowers l1 l2 h).bind fun x12 =>
 if x12 = 0 then
  BX10_normal_26 l0 l1 l2 l3 l0 (2 : Int32) h
 else
  BX10_normal_26 l0 l1 l2 l3 l0 (0 : Int32) h
def rmX10_normal : Room := { frames := 4, cells := 0, slots := 0, locals := 91 }
set_option maxRecDepth 20000 in
set_option maxHeartbeats 4000000 in
theorem sX10_normal {l0 : Nat} {l1 : Int32} {l2 : Int32} {l3 : Int32} {h : jx_H} {r : Int32} {h9 : jx_H} (e : FX10_normal l0 l1 l2 l3 h = some (r, h9)) : jx_Ct yX10_normal cX10_normal 4 (some .int) rmX10_normal [.ref l0, .int l1, .int l2, .int l3] h (fun r' h' => some (.int r) = r' ∧ h9 = h') := by
  refine jx_Ct.of (own := RX10) (by decide) rfl (Nat.le_of_ble_eq_true rfl) (fun X C hq hr hL hN => ?_)
  refine jx_sub (lv' := [(0, .ref l0), (1, .int l1), (2, .int l2), (3, .int l3)]) [0, 1, 2, 3] rfl ?_
  have b26 : ∀ (y15 : Nat) (y16 : Int32) (y17 : Int32) (y18 : Int32) (y19 : Nat) (y20 : Int32) (h21 : jx_H), BX10_normal_26 y15 y16 y17 y18 y19 y20 h21 = some (r, h9) → jx_J X 0 0 26 [(0, .ref y15), (1, .int y16), (2, .int y17), (3, .int y18)] [.int y20, .ref y19] h21 := by
    intro y15 y16 y17 y18 y19 y20 h21 e
    unfold BX10_normal_26 at e
    replace e := ob e
    obtain ⟨h22, eh22, e⟩ := e
    refine j_put (ci := 10) (RC := RX10) (T := TX10) (N := 38) (ty0 := tyX10) 0 C rfl klX10 tyX10_ok nmX10 (Nat.le_of_ble_eq_true rfl) kX10_91 rfl rfl rfl rfl dX10_normal_26 eh22 ?_
    refine j_aload_n C dX10_normal_29 rfl rfl ?_
    replace e := ob e
    obtain ⟨x23, ex23, e⟩ := e
    refine j_geti (ci := 10) (RC := RX10) (T := TX10) (N := 38) 0 C rfl klX10 (Nat.le_of_ble_eq_true rfl) kX10_91 rfl dX10_normal_30 ex23 ?_
    refine j_if_le (tgt := 38) C dX10_normal_33 (by decide) (fun c30 => ?_) (fun c30 => ?_)
    · replace e := ifp c30 e
      refine j_aload_n C dX10_normal_38 rfl rfl ?_
      replace e := ob e
      obtain ⟨_, eo24, e⟩ := e
      replace e := ob e
      obtain ⟨h25, eh25, e⟩ := e
      refine j_callV (ci := 10) (RC := RX10) (T := TX10) (N := 38) (As := []) (b := y15) (na := 0) (st := []) (k1 := 0) (n1 := 0) C hr (sX10_laysTables eh25) rfl eo24 kX10_261 kim_X10_laysTables ksel_X10_laysTables kini_X10 kc_X10_laysTables (by decide) rfl ⟨(Nat.le_of_ble_eq_true rfl), (Nat.le_of_ble_eq_true rfl)⟩ (Nat.le_of_ble_eq_true rfl) ⟨rfl, rfl, (Nat.le_of_ble_eq_true rfl), (Nat.le_of_ble_eq_true rfl)⟩ dX10_normal_39 ?_
      rintro _ _ ⟨rfl, rfl⟩
      show jx_J X 0 0 42 [(0, .ref y15), (1, .int y16), (2, .int y17), (3, .int y18)] [] h25
      refine j_aload_n C dX10_normal_42 rfl rfl ?_
      refine j_iload_n C dX10_normal_43 rfl rfl ?_
      refine j_iload_n C dX10_normal_44 rfl rfl ?_
      replace e := ob e
      obtain ⟨_, eo26, e⟩ := e
      replace e := ob e
      obtain ⟨h27, eh27, e⟩ := e
      refine j_callV (ci := 10) (RC := RX10) (T := TX10) (N := 38) (As := [.int y16, .int y17]) (b := y15) (na := 2) (st := []) (k1 := 0) (n1 := 0) C hr (sX10_laysNormal eh27) rfl eo26 kX10_310 kim_X10_laysNormal ksel_X10_laysNormal kini_X10 kc_X10_laysNormal (by decide) rfl ⟨(Nat.le_of_ble_eq_true rfl), (Nat.le_of_ble_eq_true rfl)⟩ (Nat.le_of_ble_eq_true rfl) ⟨rfl, rfl, (Nat.le_of_ble_eq_true rfl), (Nat.le_of_ble_eq_true rfl)⟩ dX10_normal_45 ?_
      rintro _ _ ⟨rfl, rfl⟩
      show jx_J X 0 0 48 [(0, .ref y15), (1, .int y16), (2, .int y17), (3, .int y18)] [] h27
      refine j_aload_n C dX10_normal_48 rfl rfl ?_
      replace e := ob e
      obtain ⟨x28, ex28, e⟩ := e
      refine j_getr (ci := 10) (RC := RX10) (T := TX10) (N := 38) 26 C rfl klX10 (Nat.le_of_ble_eq_true rfl) kX10_61 rfl dX10_normal_49 ex28 ?_
      refine j_iload_n C dX10_normal_52 rfl rfl ?_
      replace e := ob e
      obtain ⟨x29, ex29, e⟩ := e
      refine j_iald C dX10_normal_53 ex29 ?_
      cases e
      exact j_iret C hq rfl dX10_normal_54 ⟨Nat.le_of_ble_eq_true rfl, Nat.le_of_ble_eq_true rfl⟩ ⟨rfl, rfl⟩
    · replace e := ifn c30 e
      refine j_iconst (v := (0 : Int32)) C dX10_normal_36 (by decide) ?_
      cases e
      exact j_iret C hq rfl dX10_normal_37 ⟨Nat.le_of_ble_eq_true rfl, Nat.le_of_ble_eq_true rfl⟩ ⟨rfl, rfl⟩
  unfold FX10_normal at e
  refine j_aload_n C dX10_normal_0 rfl rfl ?_
  refine j_aload_n C dX10_normal_1 rfl rfl ?_
  refine j_iload_n C dX10_normal_2 rfl rfl ?_
  replace e := ob e
  obtain ⟨_, eo31, e⟩ := e
  replace e := ob e
  obtain ⟨x32, ex32, e⟩ := e
  refine j_callV (ci := 10) (RC := RX10) (T := TX10) (N := 38) (As := [.int l3]) (b := l0) (na := 1) (st := [.ref l0]) (k1 := 0) (n1 := 0) C hr (sX10_isMonomial ex32) rfl eo31 kX10_353 kim_X10_isMonomial ksel_X10_isMonomial kini_X10 kc_X10_isMonomial (by decide) rfl ⟨(Nat.le_of_ble_eq_true rfl), (Nat.le_of_ble_eq_true rfl)⟩ (Nat.le_of_ble_eq_true rfl) ⟨rfl, rfl, (Nat.le_of_ble_eq_true rfl), (Nat.le_of_ble_eq_true rfl)⟩ dX10_normal_3 ?_
  rintro _ _ ⟨rfl, rfl⟩
  show jx_J X 0 0 6 [(0, .ref l0), (1, .int l1), (2, .int l2), (3, .int l3)] [.int x32, .ref l0] h
  refine j_if_ne (tgt := 13) C dX10_normal_6 (by decide) (fun c35 => ?_) (fun c35 => ?_)
  · replace e := ifn c35 e
    refine j_iload_n C dX10_normal_13 rfl rfl ?_
    refine j_iload_n C dX10_normal_14 rfl rfl ?_
    replace e := ob e
    obtain ⟨x33, ex33, e⟩ := e
    refine j_callS (As := [.int l1, .int l2]) (na := 2) (st := [.ref l0]) (k1 := 0) (n1 := 0) C hr (sX10_arePowers ex33) kX10_368 kst_X10_arePowers kini_X10 kc_X10_arePowers (by decide) rfl ⟨(Nat.le_of_ble_eq_true rfl), (Nat.le_of_ble_eq_true rfl)⟩ (Nat.le_of_ble_eq_true rfl) ⟨rfl, rfl, (Nat.le_of_ble_eq_true rfl), (Nat.le_of_ble_eq_true rfl)⟩ dX10_normal_15 ?_
    rintro _ _ ⟨rfl, rfl⟩
    show jx_J X 0 0 18 [(0, .ref l0), (1, .int l1), (2, .int l2), (3, .int l3)] [.int x33, .ref l0] h
    refine j_if_eq (tgt := 25) C dX10_normal_18 (by decide) (fun c34 => ?_) (fun c34 => ?_)
    · replace e := ifp c34 e
      refine j_iconst (v := (2 : Int32)) C dX10_normal_25 (by decide) ?_
      exact b26 l0 l1 l2 l3 l0 (2 : Int32) h e
    · replace e := ifn c34 e
      refine j_iconst (v := (0 : Int32)) C dX10_normal_21 (by decide) ?_
      refine j_goto (tgt := 26) C dX10_normal_22 (by decide) ?_
      exact b26 l0 l1 l2 l3 l0 (0 : Int32) h e
  · replace e := ifp c35 e
    refine j_iconst (v := (1 : Int32)) C dX10_normal_9 (by decide) ?_
    refine j_goto (tgt := 26) C dX10_normal_10 (by decide) ?_
    exact b26 l0 l1 l2 l3 l0 (1 : Int32) h e
/-! BorderBasisModel.determinant(I)I -/
noncomputable def BX10_determinant_45 (l0 : Nat) (s0 : Nat) (s1 : Nat) (h : jx_H) : Option (Int32 × jx_H) :=
(isO h s0 10).bind fun _ =>
(FX10_laysTall s0 s1 (0 : Int32) h).bind fun h2 =>
(isO h2 l0 10).bind fun _ =>
(FX10_n l0 h2).bind fun x4 =>
(isO h2 l0 10).bind fun _ =>
(FX10_reduces l0 x4 h2).bind fun h6 =>
(hgi h6 l0 10 29).bind fun x7 =>
some (x7, h6)
noncomputable def BX10_determinant_13 (l0 : Nat) (l1 : Int32) (s0 : Nat) (s1 : Int32) (h : jx_H) : Option (Int32 × jx_H) :=
(hp h s0 10 0 (.int s1)).bind fun h8 =>
(hgi h8 l0 10 0).bind fun x9 =>
if x9 ≤ 0 then
 (isO h8 l0 10).bind fun _ =>
 (FX10_laysTables l0 h8).bind fun h11 =>
 if l1 = 0 then
  (hgr h11 l0 10 20).bind fun x13 =>
  BX10_determinant_45 l0 l0 x13 h11
 else
  (hgr h11 l0 10 21).bind fun x12 =>
  BX10_determinant_45 l0 l0 x12 h11
else
 some ((0 : Int32), h8)
noncomputable def FX10_determinant (l0 : Nat) (l1 : Int32) (h : jx_H) : Option (Int32 × jx_H) :=
(FX10_isVariable l1 h).bind fun x16 =>
if x16 = 0 then
 BX10_determinant_13 l0 l1 l0 (1 : Int32) h
else
 BX10_determinant_13 l0 l1 l0 (0 : Int32) h
def rmX10_determinant : Room := { frames := 4, cells := 0, slots := 0, locals := 91 }
set_option maxRecDepth 20000 in
set_option maxHeartbeats 4000000 in
theorem sX10_determinant {l0 : Nat} {l1 : Int32} {h : jx_H} {r : Int32} {h9 : jx_H} (e : FX10_determinant l0 l1 h = some (r, h9)) : jx_Ct yX10_determinant cX10_determinant 2 (some .int) rmX10_determinant [.ref l0, .int l1] h (fun r' h' => some (.int r) = r' ∧ h9 = h') := by
  refine jx_Ct.of (own := RX10) (by decide) rfl (Nat.le_of_ble_eq_true rfl) (fun X C hq hr hL hN => ?_)
  refine jx_sub (lv' := [(0, .ref l0), (1, .int l1)]) [0, 1] rfl ?_
  have b45 : ∀ (y18 : Nat) (y19 : Nat) (y20 : Nat) (h21 : jx_H), BX10_determinant_45 y18 y19 y20 h21 = some (r, h9) → jx_J X 0 0 45 [(0, .ref y18)] [.ref y20, .ref y19] h21 := by
    intro y18 y19 y20 h21 e
    unfold BX10_determinant_45 at e
    refine j_iconst (v := (0 : Int32)) C dX10_determinant_45 (by decide) ?_
    replace e := ob e
    obtain ⟨_, eo22, e⟩ := e
    replace e := ob e
    obtain ⟨h23, eh23, e⟩ := e
    refine j_callV (ci := 10) (RC := RX10) (T := TX10) (N := 38) (As := [.ref y20, .int (0 : Int32)]) (b := y19) (na := 2) (st := []) (k1 := 0) (n1 := 0) C hr (sX10_laysTall eh23) rfl eo22 kX10_298 kim_X10_laysTall ksel_X10_laysTall kini_X10 kc_X10_laysTall (by decide) rfl ⟨(Nat.le_of_ble_eq_true rfl), (Nat.le_of_ble_eq_true rfl)⟩ (Nat.le_of_ble_eq_true rfl) ⟨rfl, rfl, (Nat.le_of_ble_eq_true rfl), (Nat.le_of_ble_eq_true rfl)⟩ dX10_determinant_46 ?_
    rintro _ _ ⟨rfl, rfl⟩
    show jx_J X 0 0 49 [(0, .ref y18)] [] h23
    refine j_aload_n C dX10_determinant_49 rfl rfl ?_
    refine j_aload_n C dX10_determinant_50 rfl rfl ?_
    replace e := ob e
    obtain ⟨_, eo24, e⟩ := e
    replace e := ob e
    obtain ⟨x25, ex25, e⟩ := e
    refine j_callV (ci := 10) (RC := RX10) (T := TX10) (N := 38) (As := []) (b := y18) (na := 0) (st := [.ref y18]) (k1 := 0) (n1 := 0) C hr (sX10_n ex25) rfl eo24 kX10_105 kim_X10_n ksel_X10_n kini_X10 kc_X10_n (by decide) rfl ⟨(Nat.le_of_ble_eq_true rfl), (Nat.le_of_ble_eq_true rfl)⟩ (Nat.le_of_ble_eq_true rfl) ⟨rfl, rfl, (Nat.le_of_ble_eq_true rfl), (Nat.le_of_ble_eq_true rfl)⟩ dX10_determinant_51 ?_
    rintro _ _ ⟨rfl, rfl⟩
    show jx_J X 0 0 54 [(0, .ref y18)] [.int x25, .ref y18] h23
    replace e := ob e
    obtain ⟨_, eo26, e⟩ := e
    replace e := ob e
    obtain ⟨h27, eh27, e⟩ := e
    refine j_callV (ci := 10) (RC := RX10) (T := TX10) (N := 38) (As := [.int x25]) (b := y18) (na := 1) (st := []) (k1 := 0) (n1 := 0) C hr (sX10_reduces eh27) rfl eo26 kX10_301 kim_X10_reduces ksel_X10_reduces kini_X10 kc_X10_reduces (by decide) rfl ⟨(Nat.le_of_ble_eq_true rfl), (Nat.le_of_ble_eq_true rfl)⟩ (Nat.le_of_ble_eq_true rfl) ⟨rfl, rfl, (Nat.le_of_ble_eq_true rfl), (Nat.le_of_ble_eq_true rfl)⟩ dX10_determinant_54 ?_
    rintro _ _ ⟨rfl, rfl⟩
    show jx_J X 0 0 57 [(0, .ref y18)] [] h27
    refine j_aload_n C dX10_determinant_57 rfl rfl ?_
    replace e := ob e
    obtain ⟨x28, ex28, e⟩ := e
    refine j_geti (ci := 10) (RC := RX10) (T := TX10) (N := 38) 29 C rfl klX10 (Nat.le_of_ble_eq_true rfl) kX10_286 rfl dX10_determinant_58 ex28 ?_
    cases e
    exact j_iret C hq rfl dX10_determinant_61 ⟨Nat.le_of_ble_eq_true rfl, Nat.le_of_ble_eq_true rfl⟩ ⟨rfl, rfl⟩
  have b13 : ∀ (y29 : Nat) (y30 : Int32) (y31 : Nat) (y32 : Int32) (h33 : jx_H), BX10_determinant_13 y29 y30 y31 y32 h33 = some (r, h9) → jx_J X 0 0 13 [(0, .ref y29), (1, .int y30)] [.int y32, .ref y31] h33 := by
    intro y29 y30 y31 y32 h33 e
    unfold BX10_determinant_13 at e
    replace e := ob e
    obtain ⟨h34, eh34, e⟩ := e
    refine j_put (ci := 10) (RC := RX10) (T := TX10) (N := 38) (ty0 := tyX10) 0 C rfl klX10 tyX10_ok nmX10 (Nat.le_of_ble_eq_true rfl) kX10_91 rfl rfl rfl rfl dX10_determinant_13 eh34 ?_
    refine j_aload_n C dX10_determinant_16 rfl rfl ?_
    replace e := ob e
    obtain ⟨x35, ex35, e⟩ := e
    refine j_geti (ci := 10) (RC := RX10) (T := TX10) (N := 38) 0 C rfl klX10 (Nat.le_of_ble_eq_true rfl) kX10_91 rfl dX10_determinant_17 ex35 ?_
    refine j_if_le (tgt := 25) C dX10_determinant_20 (by decide) (fun c41 => ?_) (fun c41 => ?_)
    · replace e := ifp c41 e
      refine j_aload_n C dX10_determinant_25 rfl rfl ?_
      replace e := ob e
      obtain ⟨_, eo36, e⟩ := e
      replace e := ob e
      obtain ⟨h37, eh37, e⟩ := e
      refine j_callV (ci := 10) (RC := RX10) (T := TX10) (N := 38) (As := []) (b := y29) (na := 0) (st := []) (k1 := 0) (n1 := 0) C hr (sX10_laysTables eh37) rfl eo36 kX10_261 kim_X10_laysTables ksel_X10_laysTables kini_X10 kc_X10_laysTables (by decide) rfl ⟨(Nat.le_of_ble_eq_true rfl), (Nat.le_of_ble_eq_true rfl)⟩ (Nat.le_of_ble_eq_true rfl) ⟨rfl, rfl, (Nat.le_of_ble_eq_true rfl), (Nat.le_of_ble_eq_true rfl)⟩ dX10_determinant_26 ?_
      rintro _ _ ⟨rfl, rfl⟩
      show jx_J X 0 0 29 [(0, .ref y29), (1, .int y30)] [] h37
      refine j_aload_n C dX10_determinant_29 rfl rfl ?_
      refine j_iload_n C dX10_determinant_30 rfl rfl ?_
      refine j_if_ne (tgt := 41) C dX10_determinant_31 (by decide) (fun c40 => ?_) (fun c40 => ?_)
      · replace e := ifn c40 e
        refine j_aload_n C dX10_determinant_41 rfl rfl ?_
        replace e := ob e
        obtain ⟨x38, ex38, e⟩ := e
        refine j_getr (ci := 10) (RC := RX10) (T := TX10) (N := 38) 21 C rfl klX10 (Nat.le_of_ble_eq_true rfl) kX10_46 rfl dX10_determinant_42 ex38 ?_
        refine jx_sub (lv' := [(0, .ref y29)]) [0] rfl ?_
        exact b45 y29 y29 x38 h37 e
      · replace e := ifp c40 e
        refine j_aload_n C dX10_determinant_34 rfl rfl ?_
        replace e := ob e
        obtain ⟨x39, ex39, e⟩ := e
        refine j_getr (ci := 10) (RC := RX10) (T := TX10) (N := 38) 20 C rfl klX10 (Nat.le_of_ble_eq_true rfl) kX10_43 rfl dX10_determinant_35 ex39 ?_
        refine j_goto (tgt := 45) C dX10_determinant_38 (by decide) ?_
        refine jx_sub (lv' := [(0, .ref y29)]) [0] rfl ?_
        exact b45 y29 y29 x39 h37 e
    · replace e := ifn c41 e
      refine j_iconst (v := (0 : Int32)) C dX10_determinant_23 (by decide) ?_
      cases e
      exact j_iret C hq rfl dX10_determinant_24 ⟨Nat.le_of_ble_eq_true rfl, Nat.le_of_ble_eq_true rfl⟩ ⟨rfl, rfl⟩
  unfold FX10_determinant at e
  refine j_aload_n C dX10_determinant_0 rfl rfl ?_
  refine j_iload_n C dX10_determinant_1 rfl rfl ?_
  replace e := ob e
  obtain ⟨x42, ex42, e⟩ := e
  refine j_callS (As := [.int l1]) (na := 1) (st := [.ref l0]) (k1 := 0) (n1 := 0) C hr (sX10_isVariable ex42) kX10_362 kst_X10_isVariable kini_X10 kc_X10_isVariable (by decide) rfl ⟨(Nat.le_of_ble_eq_true rfl), (Nat.le_of_ble_eq_true rfl)⟩ (Nat.le_of_ble_eq_true rfl) ⟨rfl, rfl, (Nat.le_of_ble_eq_true rfl), (Nat.le_of_ble_eq_true rfl)⟩ dX10_determinant_2 ?_
  rintro _ _ ⟨rfl, rfl⟩
  show jx_J X 0 0 5 [(0, .ref l0), (1, .int l1)] [.int x42, .ref l0] h
  refine j_if_eq (tgt := 12) C dX10_determinant_5 (by decide) (fun c43 => ?_) (fun c43 => ?_)
  · replace e := ifp c43 e
    refine j_iconst (v := (1 : Int32)) C dX10_determinant_12 (by decide) ?_
    exact b13 l0 l1 l0 (1 : Int32) h e
  · replace e := ifn c43 e
    refine j_iconst (v := (0 : Int32)) C dX10_determinant_8 (by decide) ?_
    refine j_goto (tgt := 13) C dX10_determinant_9 (by decide) ?_
    exact b13 l0 l1 l0 (0 : Int32) h e
/-! BorderBasisModel.kernel(II)I -/
noncomputable def BX10_kernel_52 (l0 : Nat) (l2 : Int32) (s0 : Nat) (h : jx_H) : Option (Int32 × jx_H) :=
(isO h l0 10).bind fun _ =>
(FX10_lessens l0 s0 l2 h).bind fun h2 =>
(isO h2 l0 10).bind fun _ =>
(FX10_laysTall l0 s0 (0 : Int32) h2).bind fun h4 =>
(isO h4 l0 10).bind fun _ =>
(FX10_n l0 h4).bind fun x6 =>
(isO h4 l0 10).bind fun _ =>
(FX10_reduces l0 x6 h4).bind fun h8 =>
(isO h8 l0 10).bind fun _ =>
(FX10_n l0 h8).bind fun x10 =>
(hgi h8 l0 10 28).bind fun x11 =>
some ((x10 - x11), h8)
noncomputable def BX10_kernel_21 (l0 : Nat) (l1 : Int32) (l2 : Int32) (s0 : Nat) (s1 : Int32) (h : jx_H) : Option (Int32 × jx_H) :=
(hp h s0 10 0 (.int s1)).bind fun h12 =>
(hgi h12 l0 10 0).bind fun x13 =>
if x13 ≤ 0 then
 (isO h12 l0 10).bind fun _ =>
 (FX10_laysTables l0 h12).bind fun h15 =>
 if l1 = 0 then
  (hgr h15 l0 10 20).bind fun x17 =>
  BX10_kernel_52 l0 l2 x17 h15
 else
  (hgr h15 l0 10 21).bind fun x16 =>
  BX10_kernel_52 l0 l2 x16 h15
else
 some ((0 : Int32), h12)
noncomputable def BX10_kernel_20 (l0 : Nat) (l1 : Int32) (l2 : Int32) (s0 : Nat) (h : jx_H) : Option (Int32 × jx_H) :=
BX10_kernel_21 l0 l1 l2 s0 (1 : Int32) h
noncomputable def FX10_kernel (l0 : Nat) (l1 : Int32) (l2 : Int32) (h : jx_H) : Option (Int32 × jx_H) :=
(FX10_isVariable l1 h).bind fun x20 =>
if x20 = 0 then
 BX10_kernel_20 l0 l1 l2 l0 h
else
 (isO h l0 10).bind fun _ =>
 (FX10_isNumber l0 l2 h).bind fun x22 =>
 if x22 = 0 then
  BX10_kernel_20 l0 l1 l2 l0 h
 else
  BX10_kernel_21 l0 l1 l2 l0 (0 : Int32) h
def rmX10_kernel : Room := { frames := 4, cells := 0, slots := 0, locals := 91 }
set_option maxRecDepth 20000 in
set_option maxHeartbeats 4000000 in
theorem sX10_kernel {l0 : Nat} {l1 : Int32} {l2 : Int32} {h : jx_H} {r : Int32} {h9 : jx_H} (e : FX10_kernel l0 l1 l2 h = some (r, h9)) : jx_Ct yX10_kernel cX10_kernel 4 (some .int) rmX10_kernel [.ref l0, .int l1, .int l2] h (fun r' h' => some (.int r) = r' ∧ h9 = h') := by
  refine jx_Ct.of (own := RX10) (by decide) rfl (Nat.le_of_ble_eq_true rfl) (fun X C hq hr hL hN => ?_)
  refine jx_sub (lv' := [(0, .ref l0), (1, .int l1), (2, .int l2)]) [0, 1, 2] rfl ?_
  have b52 : ∀ (y25 : Nat) (y26 : Int32) (y27 : Nat) (h28 : jx_H), BX10_kernel_52 y25 y26 y27 h28 = some (r, h9) → jx_J X 0 0 52 [(0, .ref y25), (2, .int y26)] [.ref y27] h28 := by
    intro y25 y26 y27 h28 e
    unfold BX10_kernel_52 at e
    refine j_astore_n (lv1 := [(3, .ref y27), (0, .ref y25), (2, .int y26)]) C hL dX10_kernel_52 rfl (Nat.le_of_ble_eq_true rfl) rfl ?_
    refine j_aload_n C dX10_kernel_53 rfl rfl ?_
    refine j_aload_n C dX10_kernel_54 rfl rfl ?_
    refine j_iload_n C dX10_kernel_55 rfl rfl ?_
    replace e := ob e
    obtain ⟨_, eo29, e⟩ := e
    replace e := ob e
    obtain ⟨h30, eh30, e⟩ := e
    refine j_callV (ci := 10) (RC := RX10) (T := TX10) (N := 38) (As := [.ref y27, .int y26]) (b := y25) (na := 2) (st := []) (k1 := 0) (n1 := 0) C hr (sX10_lessens eh30) rfl eo29 kX10_295 kim_X10_lessens ksel_X10_lessens kini_X10 kc_X10_lessens (by decide) rfl ⟨(Nat.le_of_ble_eq_true rfl), (Nat.le_of_ble_eq_true rfl)⟩ (Nat.le_of_ble_eq_true rfl) ⟨rfl, rfl, (Nat.le_of_ble_eq_true rfl), (Nat.le_of_ble_eq_true rfl)⟩ dX10_kernel_56 ?_
    rintro _ _ ⟨rfl, rfl⟩
    show jx_J X 0 0 59 [(3, .ref y27), (0, .ref y25), (2, .int y26)] [] h30
    refine j_aload_n C dX10_kernel_59 rfl rfl ?_
    refine j_aload_n C dX10_kernel_60 rfl rfl ?_
    refine j_iconst (v := (0 : Int32)) C dX10_kernel_61 (by decide) ?_
    replace e := ob e
    obtain ⟨_, eo31, e⟩ := e
    replace e := ob e
    obtain ⟨h32, eh32, e⟩ := e
    refine j_callV (ci := 10) (RC := RX10) (T := TX10) (N := 38) (As := [.ref y27, .int (0 : Int32)]) (b := y25) (na := 2) (st := []) (k1 := 0) (n1 := 0) C hr (sX10_laysTall eh32) rfl eo31 kX10_298 kim_X10_laysTall ksel_X10_laysTall kini_X10 kc_X10_laysTall (by decide) rfl ⟨(Nat.le_of_ble_eq_true rfl), (Nat.le_of_ble_eq_true rfl)⟩ (Nat.le_of_ble_eq_true rfl) ⟨rfl, rfl, (Nat.le_of_ble_eq_true rfl), (Nat.le_of_ble_eq_true rfl)⟩ dX10_kernel_62 ?_
    rintro _ _ ⟨rfl, rfl⟩
    show jx_J X 0 0 65 [(3, .ref y27), (0, .ref y25), (2, .int y26)] [] h32
    refine j_aload_n C dX10_kernel_65 rfl rfl ?_
    refine j_aload_n C dX10_kernel_66 rfl rfl ?_
    replace e := ob e
    obtain ⟨_, eo33, e⟩ := e
    replace e := ob e
    obtain ⟨x34, ex34, e⟩ := e
    refine j_callV (ci := 10) (RC := RX10) (T := TX10) (N := 38) (As := []) (b := y25) (na := 0) (st := [.ref y25]) (k1 := 0) (n1 := 0) C hr (sX10_n ex34) rfl eo33 kX10_105 kim_X10_n ksel_X10_n kini_X10 kc_X10_n (by decide) rfl ⟨(Nat.le_of_ble_eq_true rfl), (Nat.le_of_ble_eq_true rfl)⟩ (Nat.le_of_ble_eq_true rfl) ⟨rfl, rfl, (Nat.le_of_ble_eq_true rfl), (Nat.le_of_ble_eq_true rfl)⟩ dX10_kernel_67 ?_
    rintro _ _ ⟨rfl, rfl⟩
    show jx_J X 0 0 70 [(3, .ref y27), (0, .ref y25), (2, .int y26)] [.int x34, .ref y25] h32
    replace e := ob e
    obtain ⟨_, eo35, e⟩ := e
    replace e := ob e
    obtain ⟨h36, eh36, e⟩ := e
    refine j_callV (ci := 10) (RC := RX10) (T := TX10) (N := 38) (As := [.int x34]) (b := y25) (na := 1) (st := []) (k1 := 0) (n1 := 0) C hr (sX10_reduces eh36) rfl eo35 kX10_301 kim_X10_reduces ksel_X10_reduces kini_X10 kc_X10_reduces (by decide) rfl ⟨(Nat.le_of_ble_eq_true rfl), (Nat.le_of_ble_eq_true rfl)⟩ (Nat.le_of_ble_eq_true rfl) ⟨rfl, rfl, (Nat.le_of_ble_eq_true rfl), (Nat.le_of_ble_eq_true rfl)⟩ dX10_kernel_70 ?_
    rintro _ _ ⟨rfl, rfl⟩
    show jx_J X 0 0 73 [(3, .ref y27), (0, .ref y25), (2, .int y26)] [] h36
    refine j_aload_n C dX10_kernel_73 rfl rfl ?_
    replace e := ob e
    obtain ⟨_, eo37, e⟩ := e
    replace e := ob e
    obtain ⟨x38, ex38, e⟩ := e
    refine j_callV (ci := 10) (RC := RX10) (T := TX10) (N := 38) (As := []) (b := y25) (na := 0) (st := []) (k1 := 0) (n1 := 0) C hr (sX10_n ex38) rfl eo37 kX10_105 kim_X10_n ksel_X10_n kini_X10 kc_X10_n (by decide) rfl ⟨(Nat.le_of_ble_eq_true rfl), (Nat.le_of_ble_eq_true rfl)⟩ (Nat.le_of_ble_eq_true rfl) ⟨rfl, rfl, (Nat.le_of_ble_eq_true rfl), (Nat.le_of_ble_eq_true rfl)⟩ dX10_kernel_74 ?_
    rintro _ _ ⟨rfl, rfl⟩
    show jx_J X 0 0 77 [(3, .ref y27), (0, .ref y25), (2, .int y26)] [.int x38] h36
    refine j_aload_n C dX10_kernel_77 rfl rfl ?_
    replace e := ob e
    obtain ⟨x39, ex39, e⟩ := e
    refine j_geti (ci := 10) (RC := RX10) (T := TX10) (N := 38) 28 C rfl klX10 (Nat.le_of_ble_eq_true rfl) kX10_283 rfl dX10_kernel_78 ex39 ?_
    refine j_isub C dX10_kernel_81 ?_
    cases e
    exact j_iret C hq rfl dX10_kernel_82 ⟨Nat.le_of_ble_eq_true rfl, Nat.le_of_ble_eq_true rfl⟩ ⟨rfl, rfl⟩
  have b21 : ∀ (y40 : Nat) (y41 : Int32) (y42 : Int32) (y43 : Nat) (y44 : Int32) (h45 : jx_H), BX10_kernel_21 y40 y41 y42 y43 y44 h45 = some (r, h9) → jx_J X 0 0 21 [(0, .ref y40), (1, .int y41), (2, .int y42)] [.int y44, .ref y43] h45 := by
    intro y40 y41 y42 y43 y44 h45 e
    unfold BX10_kernel_21 at e
    replace e := ob e
    obtain ⟨h46, eh46, e⟩ := e
    refine j_put (ci := 10) (RC := RX10) (T := TX10) (N := 38) (ty0 := tyX10) 0 C rfl klX10 tyX10_ok nmX10 (Nat.le_of_ble_eq_true rfl) kX10_91 rfl rfl rfl rfl dX10_kernel_21 eh46 ?_
    refine j_aload_n C dX10_kernel_24 rfl rfl ?_
    replace e := ob e
    obtain ⟨x47, ex47, e⟩ := e
    refine j_geti (ci := 10) (RC := RX10) (T := TX10) (N := 38) 0 C rfl klX10 (Nat.le_of_ble_eq_true rfl) kX10_91 rfl dX10_kernel_25 ex47 ?_
    refine j_if_le (tgt := 33) C dX10_kernel_28 (by decide) (fun c53 => ?_) (fun c53 => ?_)
    · replace e := ifp c53 e
      refine j_aload_n C dX10_kernel_33 rfl rfl ?_
      replace e := ob e
      obtain ⟨_, eo48, e⟩ := e
      replace e := ob e
      obtain ⟨h49, eh49, e⟩ := e
      refine j_callV (ci := 10) (RC := RX10) (T := TX10) (N := 38) (As := []) (b := y40) (na := 0) (st := []) (k1 := 0) (n1 := 0) C hr (sX10_laysTables eh49) rfl eo48 kX10_261 kim_X10_laysTables ksel_X10_laysTables kini_X10 kc_X10_laysTables (by decide) rfl ⟨(Nat.le_of_ble_eq_true rfl), (Nat.le_of_ble_eq_true rfl)⟩ (Nat.le_of_ble_eq_true rfl) ⟨rfl, rfl, (Nat.le_of_ble_eq_true rfl), (Nat.le_of_ble_eq_true rfl)⟩ dX10_kernel_34 ?_
      rintro _ _ ⟨rfl, rfl⟩
      show jx_J X 0 0 37 [(0, .ref y40), (1, .int y41), (2, .int y42)] [] h49
      refine j_iload_n C dX10_kernel_37 rfl rfl ?_
      refine j_if_ne (tgt := 48) C dX10_kernel_38 (by decide) (fun c52 => ?_) (fun c52 => ?_)
      · replace e := ifn c52 e
        refine j_aload_n C dX10_kernel_48 rfl rfl ?_
        replace e := ob e
        obtain ⟨x50, ex50, e⟩ := e
        refine j_getr (ci := 10) (RC := RX10) (T := TX10) (N := 38) 21 C rfl klX10 (Nat.le_of_ble_eq_true rfl) kX10_46 rfl dX10_kernel_49 ex50 ?_
        refine jx_sub (lv' := [(0, .ref y40), (2, .int y42)]) [0, 2] rfl ?_
        exact b52 y40 y42 x50 h49 e
      · replace e := ifp c52 e
        refine j_aload_n C dX10_kernel_41 rfl rfl ?_
        replace e := ob e
        obtain ⟨x51, ex51, e⟩ := e
        refine j_getr (ci := 10) (RC := RX10) (T := TX10) (N := 38) 20 C rfl klX10 (Nat.le_of_ble_eq_true rfl) kX10_43 rfl dX10_kernel_42 ex51 ?_
        refine j_goto (tgt := 52) C dX10_kernel_45 (by decide) ?_
        refine jx_sub (lv' := [(0, .ref y40), (2, .int y42)]) [0, 2] rfl ?_
        exact b52 y40 y42 x51 h49 e
    · replace e := ifn c53 e
      refine j_iconst (v := (0 : Int32)) C dX10_kernel_31 (by decide) ?_
      cases e
      exact j_iret C hq rfl dX10_kernel_32 ⟨Nat.le_of_ble_eq_true rfl, Nat.le_of_ble_eq_true rfl⟩ ⟨rfl, rfl⟩
  have b20 : ∀ (y54 : Nat) (y55 : Int32) (y56 : Int32) (y57 : Nat) (h58 : jx_H), BX10_kernel_20 y54 y55 y56 y57 h58 = some (r, h9) → jx_J X 0 0 20 [(0, .ref y54), (1, .int y55), (2, .int y56)] [.ref y57] h58 := by
    intro y54 y55 y56 y57 h58 e
    unfold BX10_kernel_20 at e
    refine j_iconst (v := (1 : Int32)) C dX10_kernel_20 (by decide) ?_
    exact b21 y54 y55 y56 y57 (1 : Int32) h58 e
  unfold FX10_kernel at e
  refine j_aload_n C dX10_kernel_0 rfl rfl ?_
  refine j_iload_n C dX10_kernel_1 rfl rfl ?_
  replace e := ob e
  obtain ⟨x59, ex59, e⟩ := e
  refine j_callS (As := [.int l1]) (na := 1) (st := [.ref l0]) (k1 := 0) (n1 := 0) C hr (sX10_isVariable ex59) kX10_362 kst_X10_isVariable kini_X10 kc_X10_isVariable (by decide) rfl ⟨(Nat.le_of_ble_eq_true rfl), (Nat.le_of_ble_eq_true rfl)⟩ (Nat.le_of_ble_eq_true rfl) ⟨rfl, rfl, (Nat.le_of_ble_eq_true rfl), (Nat.le_of_ble_eq_true rfl)⟩ dX10_kernel_2 ?_
  rintro _ _ ⟨rfl, rfl⟩
  show jx_J X 0 0 5 [(0, .ref l0), (1, .int l1), (2, .int l2)] [.int x59, .ref l0] h
  refine j_if_eq (tgt := 20) C dX10_kernel_5 (by decide) (fun c63 => ?_) (fun c63 => ?_)
  · replace e := ifp c63 e
    exact b20 l0 l1 l2 l0 h e
  · replace e := ifn c63 e
    refine j_aload_n C dX10_kernel_8 rfl rfl ?_
    refine j_iload_n C dX10_kernel_9 rfl rfl ?_
    replace e := ob e
    obtain ⟨_, eo60, e⟩ := e
    replace e := ob e
    obtain ⟨x61, ex61, e⟩ := e
    refine j_callV (ci := 10) (RC := RX10) (T := TX10) (N := 38) (As := [.int l2]) (b := l0) (na := 1) (st := [.ref l0]) (k1 := 0) (n1 := 0) C hr (sX10_isNumber ex61) rfl eo60 kX10_359 kim_X10_isNumber ksel_X10_isNumber kini_X10 kc_X10_isNumber (by decide) rfl ⟨(Nat.le_of_ble_eq_true rfl), (Nat.le_of_ble_eq_true rfl)⟩ (Nat.le_of_ble_eq_true rfl) ⟨rfl, rfl, (Nat.le_of_ble_eq_true rfl), (Nat.le_of_ble_eq_true rfl)⟩ dX10_kernel_10 ?_
    rintro _ _ ⟨rfl, rfl⟩
    show jx_J X 0 0 13 [(0, .ref l0), (1, .int l1), (2, .int l2)] [.int x61, .ref l0] h
    refine j_if_eq (tgt := 20) C dX10_kernel_13 (by decide) (fun c62 => ?_) (fun c62 => ?_)
    · replace e := ifp c62 e
      exact b20 l0 l1 l2 l0 h e
    · replace e := ifn c62 e
      refine j_iconst (v := (0 : Int32)) C dX10_kernel_16 (by decide) ?_
      refine j_goto (tgt := 21) C dX10_kernel_17 (by decide) ?_
      exact b21 l0 l1 l2 l0 (0 : Int32) h e
/-! BorderBasisModel.zeros(I)I -/
noncomputable def BX10_zeros_15 (l0 : Nat) (l1 : Int32) (s0 : Nat) (s1 : Int32) (h : jx_H) : Option (Int32 × jx_H) :=
(hp h s0 10 0 (.int s1)).bind fun h1 =>
(hgi h1 l0 10 0).bind fun x2 =>
if x2 ≤ 0 then
 if l1 = 0 then
  (isO h1 l0 10).bind fun _ =>
  (FX10_laysZeros l0 h1).bind fun h15 =>
  (hgi h15 l0 10 34).bind fun x16 =>
  some (x16, h15)
 else
  (isO h1 l0 10).bind fun _ =>
  bind2 (FX10_areFriends l0 h1) fun x4 h5 =>
  if x4 = 0 then
   some ((-1 : Int32), h5)
  else
   if l1 = (1 : Int32) then
    (isO h5 l0 10).bind fun _ =>
    bind2 (FX10_distinct l0 h5) fun x10 h11 =>
    some (x10, h11)
   else
    (isO h5 l0 10).bind fun _ =>
    bind2 (FX10_allTimes l0 h5) fun x7 h8 =>
    some (x7, h8)
else
 some ((0 : Int32), h1)
noncomputable def FX10_zeros (l0 : Nat) (l1 : Int32) (h : jx_H) : Option (Int32 × jx_H) :=
(FX10_in l1 (0 : Int32) (2 : Int32) h).bind fun x19 =>
if x19 = 0 then
 BX10_zeros_15 l0 l1 l0 (1 : Int32) h
else
 BX10_zeros_15 l0 l1 l0 (0 : Int32) h
def rmX10_zeros : Room := { frames := 6, cells := 0, slots := 0, locals := 135 }
set_option maxRecDepth 20000 in
set_option maxHeartbeats 4000000 in
theorem sX10_zeros {l0 : Nat} {l1 : Int32} {h : jx_H} {r : Int32} {h9 : jx_H} (e : FX10_zeros l0 l1 h = some (r, h9)) : jx_Ct yX10_zeros cX10_zeros 2 (some .int) rmX10_zeros [.ref l0, .int l1] h (fun r' h' => some (.int r) = r' ∧ h9 = h') := by
  refine jx_Ct.of (own := RX10) (by decide) rfl (Nat.le_of_ble_eq_true rfl) (fun X C hq hr hL hN => ?_)
  refine jx_sub (lv' := [(0, .ref l0), (1, .int l1)]) [0, 1] rfl ?_
  have b15 : ∀ (y21 : Nat) (y22 : Int32) (y23 : Nat) (y24 : Int32) (h25 : jx_H), BX10_zeros_15 y21 y22 y23 y24 h25 = some (r, h9) → jx_J X 0 0 15 [(0, .ref y21), (1, .int y22)] [.int y24, .ref y23] h25 := by
    intro y21 y22 y23 y24 h25 e
    unfold BX10_zeros_15 at e
    replace e := ob e
    obtain ⟨h26, eh26, e⟩ := e
    refine j_put (ci := 10) (RC := RX10) (T := TX10) (N := 38) (ty0 := tyX10) 0 C rfl klX10 tyX10_ok nmX10 (Nat.le_of_ble_eq_true rfl) kX10_91 rfl rfl rfl rfl dX10_zeros_15 eh26 ?_
    refine j_aload_n C dX10_zeros_18 rfl rfl ?_
    replace e := ob e
    obtain ⟨x27, ex27, e⟩ := e
    refine j_geti (ci := 10) (RC := RX10) (T := TX10) (N := 38) 0 C rfl klX10 (Nat.le_of_ble_eq_true rfl) kX10_91 rfl dX10_zeros_19 ex27 ?_
    refine j_if_le (tgt := 27) C dX10_zeros_22 (by decide) (fun c43 => ?_) (fun c43 => ?_)
    · replace e := ifp c43 e
      refine j_iload_n C dX10_zeros_27 rfl rfl ?_
      refine j_if_ne (tgt := 40) C dX10_zeros_28 (by decide) (fun c42 => ?_) (fun c42 => ?_)
      · replace e := ifn c42 e
        refine j_aload_n C dX10_zeros_40 rfl rfl ?_
        replace e := ob e
        obtain ⟨_, eo28, e⟩ := e
        replace e := ob2 e
        obtain ⟨x29, h30, ex29, e⟩ := e
        refine j_callV (ci := 10) (RC := RX10) (T := TX10) (N := 38) (As := []) (b := y21) (na := 0) (st := []) (k1 := 0) (n1 := 0) C hr (sX10_areFriends ex29) rfl eo28 kX10_365 kim_X10_areFriends ksel_X10_areFriends kini_X10 kc_X10_areFriends (by decide) rfl ⟨(Nat.le_of_ble_eq_true rfl), (Nat.le_of_ble_eq_true rfl)⟩ (Nat.le_of_ble_eq_true rfl) ⟨rfl, rfl, (Nat.le_of_ble_eq_true rfl), (Nat.le_of_ble_eq_true rfl)⟩ dX10_zeros_41 ?_
        rintro _ _ ⟨rfl, rfl⟩
        show jx_J X 0 0 44 [(0, .ref y21), (1, .int y22)] [.int x29] h30
        refine j_if_ne (tgt := 51) C dX10_zeros_44 (by decide) (fun c38 => ?_) (fun c38 => ?_)
        · replace e := ifn c38 e
          refine j_iload_n C dX10_zeros_51 rfl rfl ?_
          refine j_iconst (v := (1 : Int32)) C dX10_zeros_52 (by decide) ?_
          refine j_icmp_ne (tgt := 63) C dX10_zeros_53 (by decide) (fun c37 => ?_) (fun c37 => ?_)
          · replace e := ifn c37 e
            refine j_aload_n C dX10_zeros_63 rfl rfl ?_
            replace e := ob e
            obtain ⟨_, eo31, e⟩ := e
            replace e := ob2 e
            obtain ⟨x32, h33, ex32, e⟩ := e
            refine j_callV (ci := 10) (RC := RX10) (T := TX10) (N := 38) (As := []) (b := y21) (na := 0) (st := []) (k1 := 0) (n1 := 0) C hr (sX10_allTimes ex32) rfl eo31 kX10_374 kim_X10_allTimes ksel_X10_allTimes kini_X10 kc_X10_allTimes (by decide) rfl ⟨(Nat.le_of_ble_eq_true rfl), (Nat.le_of_ble_eq_true rfl)⟩ (Nat.le_of_ble_eq_true rfl) ⟨rfl, rfl, (Nat.le_of_ble_eq_true rfl), (Nat.le_of_ble_eq_true rfl)⟩ dX10_zeros_64 ?_
            rintro _ _ ⟨rfl, rfl⟩
            show jx_J X 0 0 67 [(0, .ref y21), (1, .int y22)] [.int x32] h33
            cases e
            exact j_iret C hq rfl dX10_zeros_67 ⟨Nat.le_of_ble_eq_true rfl, Nat.le_of_ble_eq_true rfl⟩ ⟨rfl, rfl⟩
          · replace e := ifp c37 e
            refine j_aload_n C dX10_zeros_56 rfl rfl ?_
            replace e := ob e
            obtain ⟨_, eo34, e⟩ := e
            replace e := ob2 e
            obtain ⟨x35, h36, ex35, e⟩ := e
            refine j_callV (ci := 10) (RC := RX10) (T := TX10) (N := 38) (As := []) (b := y21) (na := 0) (st := []) (k1 := 0) (n1 := 0) C hr (sX10_distinct ex35) rfl eo34 kX10_371 kim_X10_distinct ksel_X10_distinct kini_X10 kc_X10_distinct (by decide) rfl ⟨(Nat.le_of_ble_eq_true rfl), (Nat.le_of_ble_eq_true rfl)⟩ (Nat.le_of_ble_eq_true rfl) ⟨rfl, rfl, (Nat.le_of_ble_eq_true rfl), (Nat.le_of_ble_eq_true rfl)⟩ dX10_zeros_57 ?_
            rintro _ _ ⟨rfl, rfl⟩
            show jx_J X 0 0 60 [(0, .ref y21), (1, .int y22)] [.int x35] h36
            refine j_goto (tgt := 67) C dX10_zeros_60 (by decide) ?_
            cases e
            exact j_iret C hq rfl dX10_zeros_67 ⟨Nat.le_of_ble_eq_true rfl, Nat.le_of_ble_eq_true rfl⟩ ⟨rfl, rfl⟩
        · replace e := ifp c38 e
          refine j_iconst (v := (-1 : Int32)) C dX10_zeros_47 (by decide) ?_
          refine j_goto (tgt := 67) C dX10_zeros_48 (by decide) ?_
          cases e
          exact j_iret C hq rfl dX10_zeros_67 ⟨Nat.le_of_ble_eq_true rfl, Nat.le_of_ble_eq_true rfl⟩ ⟨rfl, rfl⟩
      · replace e := ifp c42 e
        refine j_aload_n C dX10_zeros_31 rfl rfl ?_
        replace e := ob e
        obtain ⟨_, eo39, e⟩ := e
        replace e := ob e
        obtain ⟨h40, eh40, e⟩ := e
        refine j_callV (ci := 10) (RC := RX10) (T := TX10) (N := 38) (As := []) (b := y21) (na := 0) (st := []) (k1 := 0) (n1 := 0) C hr (sX10_laysZeros eh40) rfl eo39 kX10_328 kim_X10_laysZeros ksel_X10_laysZeros kini_X10 kc_X10_laysZeros (by decide) rfl ⟨(Nat.le_of_ble_eq_true rfl), (Nat.le_of_ble_eq_true rfl)⟩ (Nat.le_of_ble_eq_true rfl) ⟨rfl, rfl, (Nat.le_of_ble_eq_true rfl), (Nat.le_of_ble_eq_true rfl)⟩ dX10_zeros_32 ?_
        rintro _ _ ⟨rfl, rfl⟩
        show jx_J X 0 0 35 [(0, .ref y21), (1, .int y22)] [] h40
        refine j_aload_n C dX10_zeros_35 rfl rfl ?_
        replace e := ob e
        obtain ⟨x41, ex41, e⟩ := e
        refine j_geti (ci := 10) (RC := RX10) (T := TX10) (N := 38) 34 C rfl klX10 (Nat.le_of_ble_eq_true rfl) kX10_322 rfl dX10_zeros_36 ex41 ?_
        cases e
        exact j_iret C hq rfl dX10_zeros_39 ⟨Nat.le_of_ble_eq_true rfl, Nat.le_of_ble_eq_true rfl⟩ ⟨rfl, rfl⟩
    · replace e := ifn c43 e
      refine j_iconst (v := (0 : Int32)) C dX10_zeros_25 (by decide) ?_
      cases e
      exact j_iret C hq rfl dX10_zeros_26 ⟨Nat.le_of_ble_eq_true rfl, Nat.le_of_ble_eq_true rfl⟩ ⟨rfl, rfl⟩
  unfold FX10_zeros at e
  refine j_aload_n C dX10_zeros_0 rfl rfl ?_
  refine j_iload_n C dX10_zeros_1 rfl rfl ?_
  refine j_iconst (v := (0 : Int32)) C dX10_zeros_2 (by decide) ?_
  refine j_iconst (v := (2 : Int32)) C dX10_zeros_3 (by decide) ?_
  replace e := ob e
  obtain ⟨x44, ex44, e⟩ := e
  refine j_callS (As := [.int l1, .int (0 : Int32), .int (2 : Int32)]) (na := 3) (st := [.ref l0]) (k1 := 0) (n1 := 0) C hr (sX10_in ex44) kX10_101 kst_X10_in kini_X10 kc_X10_in (by decide) rfl ⟨(Nat.le_of_ble_eq_true rfl), (Nat.le_of_ble_eq_true rfl)⟩ (Nat.le_of_ble_eq_true rfl) ⟨rfl, rfl, (Nat.le_of_ble_eq_true rfl), (Nat.le_of_ble_eq_true rfl)⟩ dX10_zeros_4 ?_
  rintro _ _ ⟨rfl, rfl⟩
  show jx_J X 0 0 7 [(0, .ref l0), (1, .int l1)] [.int x44, .ref l0] h
  refine j_if_eq (tgt := 14) C dX10_zeros_7 (by decide) (fun c45 => ?_) (fun c45 => ?_)
  · replace e := ifp c45 e
    refine j_iconst (v := (1 : Int32)) C dX10_zeros_14 (by decide) ?_
    exact b15 l0 l1 l0 (1 : Int32) h e
  · replace e := ifn c45 e
    refine j_iconst (v := (0 : Int32)) C dX10_zeros_10 (by decide) ?_
    refine j_goto (tgt := 15) C dX10_zeros_11 (by decide) ?_
    exact b15 l0 l1 l0 (0 : Int32) h e
/-! BorderBasisModel.zero(II)I -/
noncomputable def BX10_zero_37 (l0 : Nat) (l1 : Int32) (l2 : Int32) (s0 : Nat) (s1 : Int32) (h : jx_H) : Option (Int32 × jx_H) :=
(hp h s0 10 0 (.int s1)).bind fun h1 =>
(hgi h1 l0 10 0).bind fun x2 =>
if x2 ≤ 0 then
 if l2 = 0 then
  (hgr h1 l0 10 35).bind fun x17 =>
  (hal h1 .int x17 l1).bind fun x18 =>
  some (x18, h1)
 else
  if l2 = (1 : Int32) then
   (hgr h1 l0 10 36).bind fun x14 =>
   (hal h1 .int x14 l1).bind fun x15 =>
   some (x15, h1)
  else
   (isO h1 l0 10).bind fun _ =>
   bind2 (FX10_areFriends l0 h1) fun x4 h5 =>
   if x4 = 0 then
    some ((-1 : Int32), h5)
   else
    (hgr h5 l0 10 35).bind fun x6 =>
    (hal h5 .int x6 l1).bind fun x7 =>
    (hgr h5 l0 10 36).bind fun x8 =>
    (hal h5 .int x8 l1).bind fun x9 =>
    (isO h5 l0 10).bind fun _ =>
    bind2 (FX10_times l0 x7 x9 h5) fun x11 h12 =>
    some (x11, h12)
else
 some ((0 : Int32), h1)
noncomputable def FX10_zero (l0 : Nat) (l1 : Int32) (l2 : Int32) (h : jx_H) : Option (Int32 × jx_H) :=
(isO h l0 10).bind fun _ =>
(FX10_laysZeros l0 h).bind fun h22 =>
(hgi h22 l0 10 34).bind fun x23 =>
(FX10_in l1 (0 : Int32) (x23 - (1 : Int32)) h22).bind fun x24 =>
if x24 = 0 then
 BX10_zero_37 l0 l1 l2 l0 (1 : Int32) h22
else
 (FX10_in l2 (0 : Int32) (2 : Int32) h22).bind fun x25 =>
 if x25 = 0 then
  BX10_zero_37 l0 l1 l2 l0 (2 : Int32) h22
 else
  BX10_zero_37 l0 l1 l2 l0 (0 : Int32) h22
def rmX10_zero : Room := { frames := 6, cells := 0, slots := 0, locals := 134 }
set_option maxRecDepth 20000 in
set_option maxHeartbeats 4000000 in
theorem sX10_zero {l0 : Nat} {l1 : Int32} {l2 : Int32} {h : jx_H} {r : Int32} {h9 : jx_H} (e : FX10_zero l0 l1 l2 h = some (r, h9)) : jx_Ct yX10_zero cX10_zero 3 (some .int) rmX10_zero [.ref l0, .int l1, .int l2] h (fun r' h' => some (.int r) = r' ∧ h9 = h') := by
  refine jx_Ct.of (own := RX10) (by decide) rfl (Nat.le_of_ble_eq_true rfl) (fun X C hq hr hL hN => ?_)
  refine jx_sub (lv' := [(0, .ref l0), (1, .int l1), (2, .int l2)]) [0, 1, 2] rfl ?_
  have b37 : ∀ (y28 : Nat) (y29 : Int32) (y30 : Int32) (y31 : Nat) (y32 : Int32) (h33 : jx_H), BX10_zero_37 y28 y29 y30 y31 y32 h33 = some (r, h9) → jx_J X 0 0 37 [(0, .ref y28), (1, .int y29), (2, .int y30)] [.int y32, .ref y31] h33 := by
    intro y28 y29 y30 y31 y32 h33 e
    unfold BX10_zero_37 at e
    replace e := ob e
    obtain ⟨h34, eh34, e⟩ := e
    refine j_put (ci := 10) (RC := RX10) (T := TX10) (N := 38) (ty0 := tyX10) 0 C rfl klX10 tyX10_ok nmX10 (Nat.le_of_ble_eq_true rfl) kX10_91 rfl rfl rfl rfl dX10_zero_37 eh34 ?_
    refine j_aload_n C dX10_zero_40 rfl rfl ?_
    replace e := ob e
    obtain ⟨x35, ex35, e⟩ := e
    refine j_geti (ci := 10) (RC := RX10) (T := TX10) (N := 38) 0 C rfl klX10 (Nat.le_of_ble_eq_true rfl) kX10_91 rfl dX10_zero_41 ex35 ?_
    refine j_if_le (tgt := 49) C dX10_zero_44 (by decide) (fun c53 => ?_) (fun c53 => ?_)
    · replace e := ifp c53 e
      refine j_iload_n C dX10_zero_49 rfl rfl ?_
      refine j_if_ne (tgt := 62) C dX10_zero_50 (by decide) (fun c52 => ?_) (fun c52 => ?_)
      · replace e := ifn c52 e
        refine j_iload_n C dX10_zero_62 rfl rfl ?_
        refine j_iconst (v := (1 : Int32)) C dX10_zero_63 (by decide) ?_
        refine j_icmp_ne (tgt := 76) C dX10_zero_64 (by decide) (fun c49 => ?_) (fun c49 => ?_)
        · replace e := ifn c49 e
          refine j_aload_n C dX10_zero_76 rfl rfl ?_
          replace e := ob e
          obtain ⟨_, eo36, e⟩ := e
          replace e := ob2 e
          obtain ⟨x37, h38, ex37, e⟩ := e
          refine j_callV (ci := 10) (RC := RX10) (T := TX10) (N := 38) (As := []) (b := y28) (na := 0) (st := []) (k1 := 0) (n1 := 0) C hr (sX10_areFriends ex37) rfl eo36 kX10_365 kim_X10_areFriends ksel_X10_areFriends kini_X10 kc_X10_areFriends (by decide) rfl ⟨(Nat.le_of_ble_eq_true rfl), (Nat.le_of_ble_eq_true rfl)⟩ (Nat.le_of_ble_eq_true rfl) ⟨rfl, rfl, (Nat.le_of_ble_eq_true rfl), (Nat.le_of_ble_eq_true rfl)⟩ dX10_zero_77 ?_
          rintro _ _ ⟨rfl, rfl⟩
          show jx_J X 0 0 80 [(0, .ref y28), (1, .int y29), (2, .int y30)] [.int x37] h38
          refine j_if_eq (tgt := 102) C dX10_zero_80 (by decide) (fun c46 => ?_) (fun c46 => ?_)
          · replace e := ifp c46 e
            refine j_iconst (v := (-1 : Int32)) C dX10_zero_102 (by decide) ?_
            cases e
            exact j_iret C hq rfl dX10_zero_103 ⟨Nat.le_of_ble_eq_true rfl, Nat.le_of_ble_eq_true rfl⟩ ⟨rfl, rfl⟩
          · replace e := ifn c46 e
            refine j_aload_n C dX10_zero_83 rfl rfl ?_
            refine j_aload_n C dX10_zero_84 rfl rfl ?_
            replace e := ob e
            obtain ⟨x39, ex39, e⟩ := e
            refine j_getr (ci := 10) (RC := RX10) (T := TX10) (N := 38) 35 C rfl klX10 (Nat.le_of_ble_eq_true rfl) kX10_79 rfl dX10_zero_85 ex39 ?_
            refine j_iload_n C dX10_zero_88 rfl rfl ?_
            replace e := ob e
            obtain ⟨x40, ex40, e⟩ := e
            refine j_iald C dX10_zero_89 ex40 ?_
            refine j_aload_n C dX10_zero_90 rfl rfl ?_
            replace e := ob e
            obtain ⟨x41, ex41, e⟩ := e
            refine j_getr (ci := 10) (RC := RX10) (T := TX10) (N := 38) 36 C rfl klX10 (Nat.le_of_ble_eq_true rfl) kX10_82 rfl dX10_zero_91 ex41 ?_
            refine j_iload_n C dX10_zero_94 rfl rfl ?_
            replace e := ob e
            obtain ⟨x42, ex42, e⟩ := e
            refine j_iald C dX10_zero_95 ex42 ?_
            replace e := ob e
            obtain ⟨_, eo43, e⟩ := e
            replace e := ob2 e
            obtain ⟨x44, h45, ex44, e⟩ := e
            refine j_callV (ci := 10) (RC := RX10) (T := TX10) (N := 38) (As := [.int x40, .int x42]) (b := y28) (na := 2) (st := []) (k1 := 0) (n1 := 0) C hr (sX10_times ex44) rfl eo43 kX10_331 kim_X10_times ksel_X10_times kini_X10 kc_X10_times (by decide) rfl ⟨(Nat.le_of_ble_eq_true rfl), (Nat.le_of_ble_eq_true rfl)⟩ (Nat.le_of_ble_eq_true rfl) ⟨rfl, rfl, (Nat.le_of_ble_eq_true rfl), (Nat.le_of_ble_eq_true rfl)⟩ dX10_zero_96 ?_
            rintro _ _ ⟨rfl, rfl⟩
            show jx_J X 0 0 99 [(0, .ref y28), (1, .int y29), (2, .int y30)] [.int x44] h45
            refine j_goto (tgt := 103) C dX10_zero_99 (by decide) ?_
            cases e
            exact j_iret C hq rfl dX10_zero_103 ⟨Nat.le_of_ble_eq_true rfl, Nat.le_of_ble_eq_true rfl⟩ ⟨rfl, rfl⟩
        · replace e := ifp c49 e
          refine j_aload_n C dX10_zero_67 rfl rfl ?_
          replace e := ob e
          obtain ⟨x47, ex47, e⟩ := e
          refine j_getr (ci := 10) (RC := RX10) (T := TX10) (N := 38) 36 C rfl klX10 (Nat.le_of_ble_eq_true rfl) kX10_82 rfl dX10_zero_68 ex47 ?_
          refine j_iload_n C dX10_zero_71 rfl rfl ?_
          replace e := ob e
          obtain ⟨x48, ex48, e⟩ := e
          refine j_iald C dX10_zero_72 ex48 ?_
          refine j_goto (tgt := 103) C dX10_zero_73 (by decide) ?_
          cases e
          exact j_iret C hq rfl dX10_zero_103 ⟨Nat.le_of_ble_eq_true rfl, Nat.le_of_ble_eq_true rfl⟩ ⟨rfl, rfl⟩
      · replace e := ifp c52 e
        refine j_aload_n C dX10_zero_53 rfl rfl ?_
        replace e := ob e
        obtain ⟨x50, ex50, e⟩ := e
        refine j_getr (ci := 10) (RC := RX10) (T := TX10) (N := 38) 35 C rfl klX10 (Nat.le_of_ble_eq_true rfl) kX10_79 rfl dX10_zero_54 ex50 ?_
        refine j_iload_n C dX10_zero_57 rfl rfl ?_
        replace e := ob e
        obtain ⟨x51, ex51, e⟩ := e
        refine j_iald C dX10_zero_58 ex51 ?_
        refine j_goto (tgt := 103) C dX10_zero_59 (by decide) ?_
        cases e
        exact j_iret C hq rfl dX10_zero_103 ⟨Nat.le_of_ble_eq_true rfl, Nat.le_of_ble_eq_true rfl⟩ ⟨rfl, rfl⟩
    · replace e := ifn c53 e
      refine j_iconst (v := (0 : Int32)) C dX10_zero_47 (by decide) ?_
      cases e
      exact j_iret C hq rfl dX10_zero_48 ⟨Nat.le_of_ble_eq_true rfl, Nat.le_of_ble_eq_true rfl⟩ ⟨rfl, rfl⟩
  unfold FX10_zero at e
  refine j_aload_n C dX10_zero_0 rfl rfl ?_
  replace e := ob e
  obtain ⟨_, eo54, e⟩ := e
  replace e := ob e
  obtain ⟨h55, eh55, e⟩ := e
  refine j_callV (ci := 10) (RC := RX10) (T := TX10) (N := 38) (As := []) (b := l0) (na := 0) (st := []) (k1 := 0) (n1 := 0) C hr (sX10_laysZeros eh55) rfl eo54 kX10_328 kim_X10_laysZeros ksel_X10_laysZeros kini_X10 kc_X10_laysZeros (by decide) rfl ⟨(Nat.le_of_ble_eq_true rfl), (Nat.le_of_ble_eq_true rfl)⟩ (Nat.le_of_ble_eq_true rfl) ⟨rfl, rfl, (Nat.le_of_ble_eq_true rfl), (Nat.le_of_ble_eq_true rfl)⟩ dX10_zero_1 ?_
  rintro _ _ ⟨rfl, rfl⟩
  show jx_J X 0 0 4 [(0, .ref l0), (1, .int l1), (2, .int l2)] [] h55
  refine j_aload_n C dX10_zero_4 rfl rfl ?_
  refine j_iload_n C dX10_zero_5 rfl rfl ?_
  refine j_iconst (v := (0 : Int32)) C dX10_zero_6 (by decide) ?_
  refine j_aload_n C dX10_zero_7 rfl rfl ?_
  replace e := ob e
  obtain ⟨x56, ex56, e⟩ := e
  refine j_geti (ci := 10) (RC := RX10) (T := TX10) (N := 38) 34 C rfl klX10 (Nat.le_of_ble_eq_true rfl) kX10_322 rfl dX10_zero_8 ex56 ?_
  refine j_iconst (v := (1 : Int32)) C dX10_zero_11 (by decide) ?_
  refine j_isub C dX10_zero_12 ?_
  replace e := ob e
  obtain ⟨x57, ex57, e⟩ := e
  refine j_callS (As := [.int l1, .int (0 : Int32), .int (x56 - (1 : Int32))]) (na := 3) (st := [.ref l0]) (k1 := 0) (n1 := 0) C hr (sX10_in ex57) kX10_101 kst_X10_in kini_X10 kc_X10_in (by decide) rfl ⟨(Nat.le_of_ble_eq_true rfl), (Nat.le_of_ble_eq_true rfl)⟩ (Nat.le_of_ble_eq_true rfl) ⟨rfl, rfl, (Nat.le_of_ble_eq_true rfl), (Nat.le_of_ble_eq_true rfl)⟩ dX10_zero_13 ?_
  rintro _ _ ⟨rfl, rfl⟩
  show jx_J X 0 0 16 [(0, .ref l0), (1, .int l1), (2, .int l2)] [.int x57, .ref l0] h55
  refine j_if_ne (tgt := 23) C dX10_zero_16 (by decide) (fun c60 => ?_) (fun c60 => ?_)
  · replace e := ifn c60 e
    refine j_iload_n C dX10_zero_23 rfl rfl ?_
    refine j_iconst (v := (0 : Int32)) C dX10_zero_24 (by decide) ?_
    refine j_iconst (v := (2 : Int32)) C dX10_zero_25 (by decide) ?_
    replace e := ob e
    obtain ⟨x58, ex58, e⟩ := e
    refine j_callS (As := [.int l2, .int (0 : Int32), .int (2 : Int32)]) (na := 3) (st := [.ref l0]) (k1 := 0) (n1 := 0) C hr (sX10_in ex58) kX10_101 kst_X10_in kini_X10 kc_X10_in (by decide) rfl ⟨(Nat.le_of_ble_eq_true rfl), (Nat.le_of_ble_eq_true rfl)⟩ (Nat.le_of_ble_eq_true rfl) ⟨rfl, rfl, (Nat.le_of_ble_eq_true rfl), (Nat.le_of_ble_eq_true rfl)⟩ dX10_zero_26 ?_
    rintro _ _ ⟨rfl, rfl⟩
    show jx_J X 0 0 29 [(0, .ref l0), (1, .int l1), (2, .int l2)] [.int x58, .ref l0] h55
    refine j_if_eq (tgt := 36) C dX10_zero_29 (by decide) (fun c59 => ?_) (fun c59 => ?_)
    · replace e := ifp c59 e
      refine j_iconst (v := (2 : Int32)) C dX10_zero_36 (by decide) ?_
      exact b37 l0 l1 l2 l0 (2 : Int32) h55 e
    · replace e := ifn c59 e
      refine j_iconst (v := (0 : Int32)) C dX10_zero_32 (by decide) ?_
      refine j_goto (tgt := 37) C dX10_zero_33 (by decide) ?_
      exact b37 l0 l1 l2 l0 (0 : Int32) h55 e
  · replace e := ifp c60 e
    refine j_iconst (v := (1 : Int32)) C dX10_zero_19 (by decide) ?_
    refine j_goto (tgt := 37) C dX10_zero_20 (by decide) ?_
    exact b37 l0 l1 l2 l0 (1 : Int32) h55 e
/-! BorderBasisModel.multiplicity(II)I -/
noncomputable def BX10_multiplicity_22 (l0 : Nat) (l1 : Int32) (l2 : Int32) (s0 : Nat) (s1 : Int32) (h : jx_H) : Option (Int32 × jx_H) :=
(hp h s0 10 0 (.int s1)).bind fun h1 =>
(hgi h1 l0 10 0).bind fun x2 =>
if x2 ≤ 0 then
 (isO h1 l0 10).bind fun _ =>
 bind2 (FX10_areFriends l0 h1) fun x4 h5 =>
 if x4 = 0 then
  some ((-1 : Int32), h5)
 else
  (isO h5 l0 10).bind fun _ =>
  bind2 (FX10_times l0 l1 l2 h5) fun x7 h8 =>
  some (x7, h8)
else
 some ((0 : Int32), h1)
noncomputable def BX10_multiplicity_21 (l0 : Nat) (l1 : Int32) (l2 : Int32) (s0 : Nat) (h : jx_H) : Option (Int32 × jx_H) :=
BX10_multiplicity_22 l0 l1 l2 s0 (1 : Int32) h
noncomputable def FX10_multiplicity (l0 : Nat) (l1 : Int32) (l2 : Int32) (h : jx_H) : Option (Int32 × jx_H) :=
(isO h l0 10).bind fun _ =>
(FX10_isNumber l0 l1 h).bind fun x12 =>
if x12 = 0 then
 BX10_multiplicity_21 l0 l1 l2 l0 h
else
 (isO h l0 10).bind fun _ =>
 (FX10_isNumber l0 l2 h).bind fun x14 =>
 if x14 = 0 then
  BX10_multiplicity_21 l0 l1 l2 l0 h
 else
  BX10_multiplicity_22 l0 l1 l2 l0 (0 : Int32) h
def rmX10_multiplicity : Room := { frames := 6, cells := 0, slots := 0, locals := 134 }
set_option maxRecDepth 20000 in
set_option maxHeartbeats 4000000 in
theorem sX10_multiplicity {l0 : Nat} {l1 : Int32} {l2 : Int32} {h : jx_H} {r : Int32} {h9 : jx_H} (e : FX10_multiplicity l0 l1 l2 h = some (r, h9)) : jx_Ct yX10_multiplicity cX10_multiplicity 3 (some .int) rmX10_multiplicity [.ref l0, .int l1, .int l2] h (fun r' h' => some (.int r) = r' ∧ h9 = h') := by
  refine jx_Ct.of (own := RX10) (by decide) rfl (Nat.le_of_ble_eq_true rfl) (fun X C hq hr hL hN => ?_)
  refine jx_sub (lv' := [(0, .ref l0), (1, .int l1), (2, .int l2)]) [0, 1, 2] rfl ?_
  have b22 : ∀ (y17 : Nat) (y18 : Int32) (y19 : Int32) (y20 : Nat) (y21 : Int32) (h22 : jx_H), BX10_multiplicity_22 y17 y18 y19 y20 y21 h22 = some (r, h9) → jx_J X 0 0 22 [(0, .ref y17), (1, .int y18), (2, .int y19)] [.int y21, .ref y20] h22 := by
    intro y17 y18 y19 y20 y21 h22 e
    unfold BX10_multiplicity_22 at e
    replace e := ob e
    obtain ⟨h23, eh23, e⟩ := e
    refine j_put (ci := 10) (RC := RX10) (T := TX10) (N := 38) (ty0 := tyX10) 0 C rfl klX10 tyX10_ok nmX10 (Nat.le_of_ble_eq_true rfl) kX10_91 rfl rfl rfl rfl dX10_multiplicity_22 eh23 ?_
    refine j_aload_n C dX10_multiplicity_25 rfl rfl ?_
    replace e := ob e
    obtain ⟨x24, ex24, e⟩ := e
    refine j_geti (ci := 10) (RC := RX10) (T := TX10) (N := 38) 0 C rfl klX10 (Nat.le_of_ble_eq_true rfl) kX10_91 rfl dX10_multiplicity_26 ex24 ?_
    refine j_if_le (tgt := 34) C dX10_multiplicity_29 (by decide) (fun c32 => ?_) (fun c32 => ?_)
    · replace e := ifp c32 e
      refine j_aload_n C dX10_multiplicity_34 rfl rfl ?_
      replace e := ob e
      obtain ⟨_, eo25, e⟩ := e
      replace e := ob2 e
      obtain ⟨x26, h27, ex26, e⟩ := e
      refine j_callV (ci := 10) (RC := RX10) (T := TX10) (N := 38) (As := []) (b := y17) (na := 0) (st := []) (k1 := 0) (n1 := 0) C hr (sX10_areFriends ex26) rfl eo25 kX10_365 kim_X10_areFriends ksel_X10_areFriends kini_X10 kc_X10_areFriends (by decide) rfl ⟨(Nat.le_of_ble_eq_true rfl), (Nat.le_of_ble_eq_true rfl)⟩ (Nat.le_of_ble_eq_true rfl) ⟨rfl, rfl, (Nat.le_of_ble_eq_true rfl), (Nat.le_of_ble_eq_true rfl)⟩ dX10_multiplicity_35 ?_
      rintro _ _ ⟨rfl, rfl⟩
      show jx_J X 0 0 38 [(0, .ref y17), (1, .int y18), (2, .int y19)] [.int x26] h27
      refine j_if_eq (tgt := 50) C dX10_multiplicity_38 (by decide) (fun c31 => ?_) (fun c31 => ?_)
      · replace e := ifp c31 e
        refine j_iconst (v := (-1 : Int32)) C dX10_multiplicity_50 (by decide) ?_
        cases e
        exact j_iret C hq rfl dX10_multiplicity_51 ⟨Nat.le_of_ble_eq_true rfl, Nat.le_of_ble_eq_true rfl⟩ ⟨rfl, rfl⟩
      · replace e := ifn c31 e
        refine j_aload_n C dX10_multiplicity_41 rfl rfl ?_
        refine j_iload_n C dX10_multiplicity_42 rfl rfl ?_
        refine j_iload_n C dX10_multiplicity_43 rfl rfl ?_
        replace e := ob e
        obtain ⟨_, eo28, e⟩ := e
        replace e := ob2 e
        obtain ⟨x29, h30, ex29, e⟩ := e
        refine j_callV (ci := 10) (RC := RX10) (T := TX10) (N := 38) (As := [.int y18, .int y19]) (b := y17) (na := 2) (st := []) (k1 := 0) (n1 := 0) C hr (sX10_times ex29) rfl eo28 kX10_331 kim_X10_times ksel_X10_times kini_X10 kc_X10_times (by decide) rfl ⟨(Nat.le_of_ble_eq_true rfl), (Nat.le_of_ble_eq_true rfl)⟩ (Nat.le_of_ble_eq_true rfl) ⟨rfl, rfl, (Nat.le_of_ble_eq_true rfl), (Nat.le_of_ble_eq_true rfl)⟩ dX10_multiplicity_44 ?_
        rintro _ _ ⟨rfl, rfl⟩
        show jx_J X 0 0 47 [(0, .ref y17), (1, .int y18), (2, .int y19)] [.int x29] h30
        refine j_goto (tgt := 51) C dX10_multiplicity_47 (by decide) ?_
        cases e
        exact j_iret C hq rfl dX10_multiplicity_51 ⟨Nat.le_of_ble_eq_true rfl, Nat.le_of_ble_eq_true rfl⟩ ⟨rfl, rfl⟩
    · replace e := ifn c32 e
      refine j_iconst (v := (0 : Int32)) C dX10_multiplicity_32 (by decide) ?_
      cases e
      exact j_iret C hq rfl dX10_multiplicity_33 ⟨Nat.le_of_ble_eq_true rfl, Nat.le_of_ble_eq_true rfl⟩ ⟨rfl, rfl⟩
  have b21 : ∀ (y33 : Nat) (y34 : Int32) (y35 : Int32) (y36 : Nat) (h37 : jx_H), BX10_multiplicity_21 y33 y34 y35 y36 h37 = some (r, h9) → jx_J X 0 0 21 [(0, .ref y33), (1, .int y34), (2, .int y35)] [.ref y36] h37 := by
    intro y33 y34 y35 y36 h37 e
    unfold BX10_multiplicity_21 at e
    refine j_iconst (v := (1 : Int32)) C dX10_multiplicity_21 (by decide) ?_
    exact b22 y33 y34 y35 y36 (1 : Int32) h37 e
  unfold FX10_multiplicity at e
  refine j_aload_n C dX10_multiplicity_0 rfl rfl ?_
  refine j_aload_n C dX10_multiplicity_1 rfl rfl ?_
  refine j_iload_n C dX10_multiplicity_2 rfl rfl ?_
  replace e := ob e
  obtain ⟨_, eo38, e⟩ := e
  replace e := ob e
  obtain ⟨x39, ex39, e⟩ := e
  refine j_callV (ci := 10) (RC := RX10) (T := TX10) (N := 38) (As := [.int l1]) (b := l0) (na := 1) (st := [.ref l0]) (k1 := 0) (n1 := 0) C hr (sX10_isNumber ex39) rfl eo38 kX10_359 kim_X10_isNumber ksel_X10_isNumber kini_X10 kc_X10_isNumber (by decide) rfl ⟨(Nat.le_of_ble_eq_true rfl), (Nat.le_of_ble_eq_true rfl)⟩ (Nat.le_of_ble_eq_true rfl) ⟨rfl, rfl, (Nat.le_of_ble_eq_true rfl), (Nat.le_of_ble_eq_true rfl)⟩ dX10_multiplicity_3 ?_
  rintro _ _ ⟨rfl, rfl⟩
  show jx_J X 0 0 6 [(0, .ref l0), (1, .int l1), (2, .int l2)] [.int x39, .ref l0] h
  refine j_if_eq (tgt := 21) C dX10_multiplicity_6 (by decide) (fun c43 => ?_) (fun c43 => ?_)
  · replace e := ifp c43 e
    exact b21 l0 l1 l2 l0 h e
  · replace e := ifn c43 e
    refine j_aload_n C dX10_multiplicity_9 rfl rfl ?_
    refine j_iload_n C dX10_multiplicity_10 rfl rfl ?_
    replace e := ob e
    obtain ⟨_, eo40, e⟩ := e
    replace e := ob e
    obtain ⟨x41, ex41, e⟩ := e
    refine j_callV (ci := 10) (RC := RX10) (T := TX10) (N := 38) (As := [.int l2]) (b := l0) (na := 1) (st := [.ref l0]) (k1 := 0) (n1 := 0) C hr (sX10_isNumber ex41) rfl eo40 kX10_359 kim_X10_isNumber ksel_X10_isNumber kini_X10 kc_X10_isNumber (by decide) rfl ⟨(Nat.le_of_ble_eq_true rfl), (Nat.le_of_ble_eq_true rfl)⟩ (Nat.le_of_ble_eq_true rfl) ⟨rfl, rfl, (Nat.le_of_ble_eq_true rfl), (Nat.le_of_ble_eq_true rfl)⟩ dX10_multiplicity_11 ?_
    rintro _ _ ⟨rfl, rfl⟩
    show jx_J X 0 0 14 [(0, .ref l0), (1, .int l1), (2, .int l2)] [.int x41, .ref l0] h
    refine j_if_eq (tgt := 21) C dX10_multiplicity_14 (by decide) (fun c42 => ?_) (fun c42 => ?_)
    · replace e := ifp c42 e
      exact b21 l0 l1 l2 l0 h e
    · replace e := ifn c42 e
      refine j_iconst (v := (0 : Int32)) C dX10_multiplicity_17 (by decide) ?_
      refine j_goto (tgt := 22) C dX10_multiplicity_18 (by decide) ?_
      exact b22 l0 l1 l2 l0 (0 : Int32) h e
/-! BorderBasisModel.share()D -/
noncomputable def FX10_share (l0 : Nat) (h : jx_H) : Option (UInt64 × jx_H) :=
(hp h l0 10 0 (.int (0 : Int32))).bind fun h1 =>
(isO h1 l0 10).bind fun _ =>
bind2 (FX10_areFriends l0 h1) fun x3 h4 =>
if x3 = 0 then
 some ((13830554455654793216 : UInt64), h4)
else
 (isO h4 l0 10).bind fun _ =>
 bind2 (FX10_allTimes l0 h4) fun x6 h7 =>
 (isO h7 l0 10).bind fun _ =>
 (FX10_n l0 h7).bind fun x9 =>
 if ¬ ((FP.ddiv (FP.i2d x6) (FP.i2d x9)) &&& 0x7fffffffffffffff ≤ 0x7ff0000000000000) then none else
 some ((FP.ddiv (FP.i2d x6) (FP.i2d x9)), h7)
def rmX10_share : Room := { frames := 6, cells := 0, slots := 0, locals := 135 }
set_option maxRecDepth 20000 in
set_option maxHeartbeats 4000000 in
theorem sX10_share {l0 : Nat} {h : jx_H} {r : UInt64} {h9 : jx_H} (e : FX10_share l0 h = some (r, h9)) : jx_Ct yX10_share cX10_share 1 (some .double) rmX10_share [.ref l0] h (fun r' h' => some (.double r) = r' ∧ h9 = h') := by
  refine jx_Ct.of (own := RX10) (by decide) rfl (Nat.le_of_ble_eq_true rfl) (fun X C hq hr hL hN => ?_)
  refine jx_sub (lv' := [(0, .ref l0)]) [0] rfl ?_
  unfold FX10_share at e
  refine j_aload_n C dX10_share_0 rfl rfl ?_
  refine j_iconst (v := (0 : Int32)) C dX10_share_1 (by decide) ?_
  replace e := ob e
  obtain ⟨h12, eh12, e⟩ := e
  refine j_put (ci := 10) (RC := RX10) (T := TX10) (N := 38) (ty0 := tyX10) 0 C rfl klX10 tyX10_ok nmX10 (Nat.le_of_ble_eq_true rfl) kX10_91 rfl rfl rfl rfl dX10_share_2 eh12 ?_
  refine j_aload_n C dX10_share_5 rfl rfl ?_
  replace e := ob e
  obtain ⟨_, eo13, e⟩ := e
  replace e := ob2 e
  obtain ⟨x14, h15, ex14, e⟩ := e
  refine j_callV (ci := 10) (RC := RX10) (T := TX10) (N := 38) (As := []) (b := l0) (na := 0) (st := []) (k1 := 0) (n1 := 0) C hr (sX10_areFriends ex14) rfl eo13 kX10_365 kim_X10_areFriends ksel_X10_areFriends kini_X10 kc_X10_areFriends (by decide) rfl ⟨(Nat.le_of_ble_eq_true rfl), (Nat.le_of_ble_eq_true rfl)⟩ (Nat.le_of_ble_eq_true rfl) ⟨rfl, rfl, (Nat.le_of_ble_eq_true rfl), (Nat.le_of_ble_eq_true rfl)⟩ dX10_share_6 ?_
  rintro _ _ ⟨rfl, rfl⟩
  show jx_J X 0 0 9 [(0, .ref l0)] [.int x14] h15
  refine j_if_eq (tgt := 26) C dX10_share_9 (by decide) (fun c22 => ?_) (fun c22 => ?_)
  · replace e := ifp c22 e
    refine j_ldc2d (v := (13830554455654793216 : UInt64)) C kX10_377 dX10_share_26 ?_
    cases e
    exact j_dret C hq dX10_share_29 ⟨Nat.le_of_ble_eq_true rfl, Nat.le_of_ble_eq_true rfl⟩ ⟨rfl, rfl⟩
  · replace e := ifn c22 e
    refine j_aload_n C dX10_share_12 rfl rfl ?_
    replace e := ob e
    obtain ⟨_, eo16, e⟩ := e
    replace e := ob2 e
    obtain ⟨x17, h18, ex17, e⟩ := e
    refine j_callV (ci := 10) (RC := RX10) (T := TX10) (N := 38) (As := []) (b := l0) (na := 0) (st := []) (k1 := 0) (n1 := 0) C hr (sX10_allTimes ex17) rfl eo16 kX10_374 kim_X10_allTimes ksel_X10_allTimes kini_X10 kc_X10_allTimes (by decide) rfl ⟨(Nat.le_of_ble_eq_true rfl), (Nat.le_of_ble_eq_true rfl)⟩ (Nat.le_of_ble_eq_true rfl) ⟨rfl, rfl, (Nat.le_of_ble_eq_true rfl), (Nat.le_of_ble_eq_true rfl)⟩ dX10_share_13 ?_
    rintro _ _ ⟨rfl, rfl⟩
    show jx_J X 0 0 16 [(0, .ref l0)] [.int x17] h18
    refine j_i2d C dX10_share_16 ?_
    refine j_aload_n C dX10_share_17 rfl rfl ?_
    replace e := ob e
    obtain ⟨_, eo19, e⟩ := e
    replace e := ob e
    obtain ⟨x20, ex20, e⟩ := e
    refine j_callV (ci := 10) (RC := RX10) (T := TX10) (N := 38) (As := []) (b := l0) (na := 0) (st := [.double (FP.i2d x17)]) (k1 := 0) (n1 := 0) C hr (sX10_n ex20) rfl eo19 kX10_105 kim_X10_n ksel_X10_n kini_X10 kc_X10_n (by decide) rfl ⟨(Nat.le_of_ble_eq_true rfl), (Nat.le_of_ble_eq_true rfl)⟩ (Nat.le_of_ble_eq_true rfl) ⟨rfl, rfl, (Nat.le_of_ble_eq_true rfl), (Nat.le_of_ble_eq_true rfl)⟩ dX10_share_18 ?_
    rintro _ _ ⟨rfl, rfl⟩
    show jx_J X 0 0 21 [(0, .ref l0)] [.int x20, .double (FP.i2d x17)] h18
    refine j_i2d C dX10_share_21 ?_
    by_cases c21 : ¬ ((FP.ddiv (FP.i2d x17) (FP.i2d x20)) &&& 0x7fffffffffffffff ≤ 0x7ff0000000000000)
    · exact nos (ifp c21 e)
    replace e := ifn c21 e
    replace c21 := Classical.not_not.mp c21
    refine j_ddiv C dX10_share_22 c21 ?_
    refine j_goto (tgt := 29) C dX10_share_23 (by decide) ?_
    cases e
    exact j_dret C hq dX10_share_29 ⟨Nat.le_of_ble_eq_true rfl, Nat.le_of_ble_eq_true rfl⟩ ⟨rfl, rfl⟩
/-! BorderBasisModel.addPoint(II)I -/
noncomputable def BX10_addPoint_47 (l0 : Nat) (l1 : Int32) (l2 : Int32) (s0 : Nat) (s1 : Int32) (h : jx_H) : Option (Int32 × jx_H) :=
(hp h s0 10 0 (.int s1)).bind fun h1 =>
(hgi h1 l0 10 0).bind fun x2 =>
if x2 ≤ 0 then
 (isO h1 l0 10).bind fun _ =>
 (FX10_keeps l0 (3 : Int32) h1).bind fun h4 =>
 (isO h4 l0 10).bind fun _ =>
 bind2 (FX10_putsPoint l0 l1 l2 h4) fun x6 h7 =>
 some (x6, h7)
else
 some ((0 : Int32), h1)
noncomputable def BX10_addPoint_17 (l0 : Nat) (l1 : Int32) (l2 : Int32) (s0 : Nat) (h : jx_H) : Option (Int32 × jx_H) :=
BX10_addPoint_47 l0 l1 l2 s0 (1 : Int32) h
noncomputable def BX10_addPoint_42 (l0 : Nat) (l1 : Int32) (l2 : Int32) (s0 : Nat) (h : jx_H) : Option (Int32 × jx_H) :=
BX10_addPoint_47 l0 l1 l2 s0 (2 : Int32) h
noncomputable def FX10_addPoint (l0 : Nat) (l1 : Int32) (l2 : Int32) (h : jx_H) : Option (Int32 × jx_H) :=
(isO h l0 10).bind fun _ =>
(FX10_isNumber l0 l1 h).bind fun x10 =>
if x10 = 0 then
 BX10_addPoint_17 l0 l1 l2 l0 h
else
 (isO h l0 10).bind fun _ =>
 (FX10_isNumber l0 l2 h).bind fun x12 =>
 if x12 = 0 then
  BX10_addPoint_17 l0 l1 l2 l0 h
 else
  (isO h l0 10).bind fun _ =>
  (FX10_pointAt l0 l1 l2 h).bind fun x14 =>
  if x14 = (-1 : Int32) then
   (hgr h l0 10 1).bind fun x15 =>
   (hal h .int x15 (3 : Int32)).bind fun x16 =>
   if x16 = (12 : Int32) then
    BX10_addPoint_42 l0 l1 l2 l0 h
   else
    BX10_addPoint_47 l0 l1 l2 l0 (0 : Int32) h
  else
   BX10_addPoint_42 l0 l1 l2 l0 h
def rmX10_addPoint : Room := { frames := 2, cells := 0, slots := 0, locals := 46 }
set_option maxRecDepth 20000 in
set_option maxHeartbeats 4000000 in
theorem sX10_addPoint {l0 : Nat} {l1 : Int32} {l2 : Int32} {h : jx_H} {r : Int32} {h9 : jx_H} (e : FX10_addPoint l0 l1 l2 h = some (r, h9)) : jx_Ct yX10_addPoint cX10_addPoint 3 (some .int) rmX10_addPoint [.ref l0, .int l1, .int l2] h (fun r' h' => some (.int r) = r' ∧ h9 = h') := by
  refine jx_Ct.of (own := RX10) (by decide) rfl (Nat.le_of_ble_eq_true rfl) (fun X C hq hr hL hN => ?_)
  refine jx_sub (lv' := [(0, .ref l0), (1, .int l1), (2, .int l2)]) [0, 1, 2] rfl ?_
  have b47 : ∀ (y21 : Nat) (y22 : Int32) (y23 : Int32) (y24 : Nat) (y25 : Int32) (h26 : jx_H), BX10_addPoint_47 y21 y22 y23 y24 y25 h26 = some (r, h9) → jx_J X 0 0 47 [(0, .ref y21), (1, .int y22), (2, .int y23)] [.int y25, .ref y24] h26 := by
    intro y21 y22 y23 y24 y25 h26 e
    unfold BX10_addPoint_47 at e
    replace e := ob e
    obtain ⟨h27, eh27, e⟩ := e
    refine j_put (ci := 10) (RC := RX10) (T := TX10) (N := 38) (ty0 := tyX10) 0 C rfl klX10 tyX10_ok nmX10 (Nat.le_of_ble_eq_true rfl) kX10_91 rfl rfl rfl rfl dX10_addPoint_47 eh27 ?_
    refine j_aload_n C dX10_addPoint_50 rfl rfl ?_
    replace e := ob e
    obtain ⟨x28, ex28, e⟩ := e
    refine j_geti (ci := 10) (RC := RX10) (T := TX10) (N := 38) 0 C rfl klX10 (Nat.le_of_ble_eq_true rfl) kX10_91 rfl dX10_addPoint_51 ex28 ?_
    refine j_if_le (tgt := 59) C dX10_addPoint_54 (by decide) (fun c34 => ?_) (fun c34 => ?_)
    · replace e := ifp c34 e
      refine j_aload_n C dX10_addPoint_59 rfl rfl ?_
      refine j_iconst (v := (3 : Int32)) C dX10_addPoint_60 (by decide) ?_
      replace e := ob e
      obtain ⟨_, eo29, e⟩ := e
      replace e := ob e
      obtain ⟨h30, eh30, e⟩ := e
      refine j_callV (ci := 10) (RC := RX10) (T := TX10) (N := 38) (As := [.int (3 : Int32)]) (b := y21) (na := 1) (st := []) (k1 := 0) (n1 := 0) C hr (sX10_keeps eh30) rfl eo29 kX10_347 kim_X10_keeps ksel_X10_keeps kini_X10 kc_X10_keeps (by decide) rfl ⟨(Nat.le_of_ble_eq_true rfl), (Nat.le_of_ble_eq_true rfl)⟩ (Nat.le_of_ble_eq_true rfl) ⟨rfl, rfl, (Nat.le_of_ble_eq_true rfl), (Nat.le_of_ble_eq_true rfl)⟩ dX10_addPoint_61 ?_
      rintro _ _ ⟨rfl, rfl⟩
      show jx_J X 0 0 64 [(0, .ref y21), (1, .int y22), (2, .int y23)] [] h30
      refine j_aload_n C dX10_addPoint_64 rfl rfl ?_
      refine j_iload_n C dX10_addPoint_65 rfl rfl ?_
      refine j_iload_n C dX10_addPoint_66 rfl rfl ?_
      replace e := ob e
      obtain ⟨_, eo31, e⟩ := e
      replace e := ob2 e
      obtain ⟨x32, h33, ex32, e⟩ := e
      refine j_callV (ci := 10) (RC := RX10) (T := TX10) (N := 38) (As := [.int y22, .int y23]) (b := y21) (na := 2) (st := []) (k1 := 0) (n1 := 0) C hr (sX10_putsPoint ex32) rfl eo31 kX10_229 kim_X10_putsPoint ksel_X10_putsPoint kini_X10 kc_X10_putsPoint (by decide) rfl ⟨(Nat.le_of_ble_eq_true rfl), (Nat.le_of_ble_eq_true rfl)⟩ (Nat.le_of_ble_eq_true rfl) ⟨rfl, rfl, (Nat.le_of_ble_eq_true rfl), (Nat.le_of_ble_eq_true rfl)⟩ dX10_addPoint_67 ?_
      rintro _ _ ⟨rfl, rfl⟩
      show jx_J X 0 0 70 [(0, .ref y21), (1, .int y22), (2, .int y23)] [.int x32] h33
      cases e
      exact j_iret C hq rfl dX10_addPoint_70 ⟨Nat.le_of_ble_eq_true rfl, Nat.le_of_ble_eq_true rfl⟩ ⟨rfl, rfl⟩
    · replace e := ifn c34 e
      refine j_iconst (v := (0 : Int32)) C dX10_addPoint_57 (by decide) ?_
      cases e
      exact j_iret C hq rfl dX10_addPoint_58 ⟨Nat.le_of_ble_eq_true rfl, Nat.le_of_ble_eq_true rfl⟩ ⟨rfl, rfl⟩
  have b17 : ∀ (y35 : Nat) (y36 : Int32) (y37 : Int32) (y38 : Nat) (h39 : jx_H), BX10_addPoint_17 y35 y36 y37 y38 h39 = some (r, h9) → jx_J X 0 0 17 [(0, .ref y35), (1, .int y36), (2, .int y37)] [.ref y38] h39 := by
    intro y35 y36 y37 y38 h39 e
    unfold BX10_addPoint_17 at e
    refine j_iconst (v := (1 : Int32)) C dX10_addPoint_17 (by decide) ?_
    refine j_goto (tgt := 47) C dX10_addPoint_18 (by decide) ?_
    exact b47 y35 y36 y37 y38 (1 : Int32) h39 e
  have b42 : ∀ (y40 : Nat) (y41 : Int32) (y42 : Int32) (y43 : Nat) (h44 : jx_H), BX10_addPoint_42 y40 y41 y42 y43 h44 = some (r, h9) → jx_J X 0 0 42 [(0, .ref y40), (1, .int y41), (2, .int y42)] [.ref y43] h44 := by
    intro y40 y41 y42 y43 h44 e
    unfold BX10_addPoint_42 at e
    refine j_iconst (v := (2 : Int32)) C dX10_addPoint_42 (by decide) ?_
    refine j_goto (tgt := 47) C dX10_addPoint_43 (by decide) ?_
    exact b47 y40 y41 y42 y43 (2 : Int32) h44 e
  unfold FX10_addPoint at e
  refine j_aload_n C dX10_addPoint_0 rfl rfl ?_
  refine j_aload_n C dX10_addPoint_1 rfl rfl ?_
  refine j_iload_n C dX10_addPoint_2 rfl rfl ?_
  replace e := ob e
  obtain ⟨_, eo45, e⟩ := e
  replace e := ob e
  obtain ⟨x46, ex46, e⟩ := e
  refine j_callV (ci := 10) (RC := RX10) (T := TX10) (N := 38) (As := [.int l1]) (b := l0) (na := 1) (st := [.ref l0]) (k1 := 0) (n1 := 0) C hr (sX10_isNumber ex46) rfl eo45 kX10_359 kim_X10_isNumber ksel_X10_isNumber kini_X10 kc_X10_isNumber (by decide) rfl ⟨(Nat.le_of_ble_eq_true rfl), (Nat.le_of_ble_eq_true rfl)⟩ (Nat.le_of_ble_eq_true rfl) ⟨rfl, rfl, (Nat.le_of_ble_eq_true rfl), (Nat.le_of_ble_eq_true rfl)⟩ dX10_addPoint_3 ?_
  rintro _ _ ⟨rfl, rfl⟩
  show jx_J X 0 0 6 [(0, .ref l0), (1, .int l1), (2, .int l2)] [.int x46, .ref l0] h
  refine j_if_eq (tgt := 17) C dX10_addPoint_6 (by decide) (fun c56 => ?_) (fun c56 => ?_)
  · replace e := ifp c56 e
    exact b17 l0 l1 l2 l0 h e
  · replace e := ifn c56 e
    refine j_aload_n C dX10_addPoint_9 rfl rfl ?_
    refine j_iload_n C dX10_addPoint_10 rfl rfl ?_
    replace e := ob e
    obtain ⟨_, eo47, e⟩ := e
    replace e := ob e
    obtain ⟨x48, ex48, e⟩ := e
    refine j_callV (ci := 10) (RC := RX10) (T := TX10) (N := 38) (As := [.int l2]) (b := l0) (na := 1) (st := [.ref l0]) (k1 := 0) (n1 := 0) C hr (sX10_isNumber ex48) rfl eo47 kX10_359 kim_X10_isNumber ksel_X10_isNumber kini_X10 kc_X10_isNumber (by decide) rfl ⟨(Nat.le_of_ble_eq_true rfl), (Nat.le_of_ble_eq_true rfl)⟩ (Nat.le_of_ble_eq_true rfl) ⟨rfl, rfl, (Nat.le_of_ble_eq_true rfl), (Nat.le_of_ble_eq_true rfl)⟩ dX10_addPoint_11 ?_
    rintro _ _ ⟨rfl, rfl⟩
    show jx_J X 0 0 14 [(0, .ref l0), (1, .int l1), (2, .int l2)] [.int x48, .ref l0] h
    refine j_if_ne (tgt := 21) C dX10_addPoint_14 (by decide) (fun c55 => ?_) (fun c55 => ?_)
    · replace e := ifn c55 e
      refine j_aload_n C dX10_addPoint_21 rfl rfl ?_
      refine j_iload_n C dX10_addPoint_22 rfl rfl ?_
      refine j_iload_n C dX10_addPoint_23 rfl rfl ?_
      replace e := ob e
      obtain ⟨_, eo49, e⟩ := e
      replace e := ob e
      obtain ⟨x50, ex50, e⟩ := e
      refine j_callV (ci := 10) (RC := RX10) (T := TX10) (N := 38) (As := [.int l1, .int l2]) (b := l0) (na := 2) (st := [.ref l0]) (k1 := 0) (n1 := 0) C hr (sX10_pointAt ex50) rfl eo49 kX10_226 kim_X10_pointAt ksel_X10_pointAt kini_X10 kc_X10_pointAt (by decide) rfl ⟨(Nat.le_of_ble_eq_true rfl), (Nat.le_of_ble_eq_true rfl)⟩ (Nat.le_of_ble_eq_true rfl) ⟨rfl, rfl, (Nat.le_of_ble_eq_true rfl), (Nat.le_of_ble_eq_true rfl)⟩ dX10_addPoint_24 ?_
      rintro _ _ ⟨rfl, rfl⟩
      show jx_J X 0 0 27 [(0, .ref l0), (1, .int l1), (2, .int l2)] [.int x50, .ref l0] h
      refine j_iconst (v := (-1 : Int32)) C dX10_addPoint_27 (by decide) ?_
      refine j_icmp_ne (tgt := 42) C dX10_addPoint_28 (by decide) (fun c54 => ?_) (fun c54 => ?_)
      · replace e := ifn c54 e
        exact b42 l0 l1 l2 l0 h e
      · replace e := ifp c54 e
        refine j_aload_n C dX10_addPoint_31 rfl rfl ?_
        replace e := ob e
        obtain ⟨x51, ex51, e⟩ := e
        refine j_getr (ci := 10) (RC := RX10) (T := TX10) (N := 38) 1 C rfl klX10 (Nat.le_of_ble_eq_true rfl) kX10_7 rfl dX10_addPoint_32 ex51 ?_
        refine j_iconst (v := (3 : Int32)) C dX10_addPoint_35 (by decide) ?_
        replace e := ob e
        obtain ⟨x52, ex52, e⟩ := e
        refine j_iald C dX10_addPoint_36 ex52 ?_
        refine j_bipush (v := (12 : Int32)) C dX10_addPoint_37 (by decide) ?_
        refine j_icmp_ne (tgt := 46) C dX10_addPoint_39 (by decide) (fun c53 => ?_) (fun c53 => ?_)
        · replace e := ifn c53 e
          refine j_iconst (v := (0 : Int32)) C dX10_addPoint_46 (by decide) ?_
          exact b47 l0 l1 l2 l0 (0 : Int32) h e
        · replace e := ifp c53 e
          exact b42 l0 l1 l2 l0 h e
    · replace e := ifp c55 e
      exact b17 l0 l1 l2 l0 h e
/-! BorderBasisModel.isPoint(I)Z -/
noncomputable def FX10_isPoint (l0 : Nat) (l1 : Int32) (h : jx_H) : Option (Int32) :=
(hgr h l0 10 1).bind fun x1 =>
(hal h .int x1 (3 : Int32)).bind fun x2 =>
(FX10_in l1 (0 : Int32) (x2 - (1 : Int32)) h).bind fun x3 =>
if x3 = 0 ∨ x3 = 1 then some x3 else none
def rmX10_isPoint : Room := { frames := 1, cells := 0, slots := 0, locals := 22 }
set_option maxRecDepth 20000 in
set_option maxHeartbeats 4000000 in
theorem sX10_isPoint {l0 : Nat} {l1 : Int32} {h : jx_H} {r : Int32}  (e : FX10_isPoint l0 l1 h = some r) : jx_Ct yX10_isPoint cX10_isPoint 2 (some .boolean) rmX10_isPoint [.ref l0, .int l1] h (fun r' h' => some (.int r) = r' ∧ h = h') := by
  refine jx_Ct.of (own := RX10) (by decide) rfl (Nat.le_of_ble_eq_true rfl) (fun X C hq hr hL hN => ?_)
  refine jx_sub (lv' := [(0, .ref l0), (1, .int l1)]) [0, 1] rfl ?_
  unfold FX10_isPoint at e
  refine j_iload_n C dX10_isPoint_0 rfl rfl ?_
  refine j_iconst (v := (0 : Int32)) C dX10_isPoint_1 (by decide) ?_
  refine j_aload_n C dX10_isPoint_2 rfl rfl ?_
  replace e := ob e
  obtain ⟨x5, ex5, e⟩ := e
  refine j_getr (ci := 10) (RC := RX10) (T := TX10) (N := 38) 1 C rfl klX10 (Nat.le_of_ble_eq_true rfl) kX10_7 rfl dX10_isPoint_3 ex5 ?_
  refine j_iconst (v := (3 : Int32)) C dX10_isPoint_6 (by decide) ?_
  replace e := ob e
  obtain ⟨x6, ex6, e⟩ := e
  refine j_iald C dX10_isPoint_7 ex6 ?_
  refine j_iconst (v := (1 : Int32)) C dX10_isPoint_8 (by decide) ?_
  refine j_isub C dX10_isPoint_9 ?_
  replace e := ob e
  obtain ⟨x7, ex7, e⟩ := e
  refine j_callS (As := [.int l1, .int (0 : Int32), .int (x6 - (1 : Int32))]) (na := 3) (st := []) (k1 := 0) (n1 := 0) C hr (sX10_in ex7) kX10_101 kst_X10_in kini_X10 kc_X10_in (by decide) rfl ⟨(Nat.le_of_ble_eq_true rfl), (Nat.le_of_ble_eq_true rfl)⟩ (Nat.le_of_ble_eq_true rfl) ⟨rfl, rfl, (Nat.le_of_ble_eq_true rfl), (Nat.le_of_ble_eq_true rfl)⟩ dX10_isPoint_10 ?_
  rintro _ _ ⟨rfl, rfl⟩
  show jx_J X 0 0 13 [(0, .ref l0), (1, .int l1)] [.int x7] h
  by_cases c8 : ¬ (x7 = 0 ∨ x7 = 1)
  · exact nos (ifn c8 e)
  replace c8 := Classical.not_not.mp c8
  replace e := ifp c8 e
  cases e
  exact j_iret C hq (jx_bool c8) dX10_isPoint_13 ⟨Nat.le_of_ble_eq_true rfl, Nat.le_of_ble_eq_true rfl⟩ ⟨rfl, rfl⟩
/-! BorderBasisModel.removePoint(I)I -/
noncomputable def LX10_removePoint_33 (l0 : Nat) (l2 : Int32) (h : jx_H) : Option ((Int32 × jx_H) ⊕ (Int32 × jx_H)) :=
(hgr h l0 10 1).bind fun x5 =>
(hal h .int x5 (3 : Int32)).bind fun x6 =>
if x6 ≤ (l2 + (1 : Int32)) then
 exL ((hgr h l0 10 1).bind fun x7 =>
 (hal h .int x7 (3 : Int32)).bind fun x8 =>
 (has h .int x7 (3 : Int32) (x8 - (1 : Int32))).bind fun h9 =>
 (hgr h9 l0 10 1).bind fun x10 =>
 (hal h9 .int x10 (3 : Int32)).bind fun x11 =>
 some (x11, h9))
else
 (hgr h l0 10 1).bind fun x12 =>
 (hgr h l0 10 1).bind fun x13 =>
 (hal h .int x13 (((224 : Int32) + l2) + (1 : Int32))).bind fun x14 =>
 (has h .int x12 ((224 : Int32) + l2) x14).bind fun h15 =>
 (hgr h15 l0 10 1).bind fun x16 =>
 (hgr h15 l0 10 1).bind fun x17 =>
 (hal h15 .int x17 (((236 : Int32) + l2) + (1 : Int32))).bind fun x18 =>
 (has h15 .int x16 ((236 : Int32) + l2) x18).bind fun h19 =>
 some (.inl ((l2 + (1 : Int32)), h19))
noncomputable def BX10_removePoint_14 (l0 : Nat) (l1 : Int32) (s0 : Nat) (s1 : Int32) (h : jx_H) : Option (Int32 × jx_H) :=
(hp h s0 10 0 (.int s1)).bind fun h1 =>
(hgi h1 l0 10 0).bind fun x2 =>
if x2 ≤ 0 then
 (isO h1 l0 10).bind fun _ =>
 (FX10_keeps l0 (4 : Int32) h1).bind fun h4 =>
 itr (fun s : Int32 × jx_H => LX10_removePoint_33 l0 s.1 s.2) (l1, h4)
else
 some ((0 : Int32), h1)
noncomputable def FX10_removePoint (l0 : Nat) (l1 : Int32) (h : jx_H) : Option (Int32 × jx_H) :=
(isO h l0 10).bind fun _ =>
(FX10_isPoint l0 l1 h).bind fun x23 =>
if x23 = 0 then
 BX10_removePoint_14 l0 l1 l0 (1 : Int32) h
else
 BX10_removePoint_14 l0 l1 l0 (0 : Int32) h
def rmX10_removePoint : Room := { frames := 2, cells := 0, slots := 0, locals := 46 }
set_option maxRecDepth 20000 in
set_option maxHeartbeats 4000000 in
theorem sX10_removePoint {l0 : Nat} {l1 : Int32} {h : jx_H} {r : Int32} {h9 : jx_H} (e : FX10_removePoint l0 l1 h = some (r, h9)) : jx_Ct yX10_removePoint cX10_removePoint 3 (some .int) rmX10_removePoint [.ref l0, .int l1] h (fun r' h' => some (.int r) = r' ∧ h9 = h') := by
  refine jx_Ct.of (own := RX10) (by decide) rfl (Nat.le_of_ble_eq_true rfl) (fun X C hq hr hL hN => ?_)
  refine jx_sub (lv' := [(0, .ref l0), (1, .int l1)]) [0, 1] rfl ?_
  have b14 : ∀ (y25 : Nat) (y26 : Int32) (y27 : Nat) (y28 : Int32) (h29 : jx_H), BX10_removePoint_14 y25 y26 y27 y28 h29 = some (r, h9) → jx_J X 0 0 14 [(0, .ref y25), (1, .int y26)] [.int y28, .ref y27] h29 := by
    intro y25 y26 y27 y28 h29 e
    unfold BX10_removePoint_14 at e
    replace e := ob e
    obtain ⟨h30, eh30, e⟩ := e
    refine j_put (ci := 10) (RC := RX10) (T := TX10) (N := 38) (ty0 := tyX10) 0 C rfl klX10 tyX10_ok nmX10 (Nat.le_of_ble_eq_true rfl) kX10_91 rfl rfl rfl rfl dX10_removePoint_14 eh30 ?_
    refine j_aload_n C dX10_removePoint_17 rfl rfl ?_
    replace e := ob e
    obtain ⟨x31, ex31, e⟩ := e
    refine j_geti (ci := 10) (RC := RX10) (T := TX10) (N := 38) 0 C rfl klX10 (Nat.le_of_ble_eq_true rfl) kX10_91 rfl dX10_removePoint_18 ex31 ?_
    refine j_if_le (tgt := 26) C dX10_removePoint_21 (by decide) (fun c52 => ?_) (fun c52 => ?_)
    · replace e := ifp c52 e
      refine j_aload_n C dX10_removePoint_26 rfl rfl ?_
      refine j_iconst (v := (4 : Int32)) C dX10_removePoint_27 (by decide) ?_
      replace e := ob e
      obtain ⟨_, eo32, e⟩ := e
      replace e := ob e
      obtain ⟨h33, eh33, e⟩ := e
      refine j_callV (ci := 10) (RC := RX10) (T := TX10) (N := 38) (As := [.int (4 : Int32)]) (b := y25) (na := 1) (st := []) (k1 := 0) (n1 := 0) C hr (sX10_keeps eh33) rfl eo32 kX10_347 kim_X10_keeps ksel_X10_keeps kini_X10 kc_X10_keeps (by decide) rfl ⟨(Nat.le_of_ble_eq_true rfl), (Nat.le_of_ble_eq_true rfl)⟩ (Nat.le_of_ble_eq_true rfl) ⟨rfl, rfl, (Nat.le_of_ble_eq_true rfl), (Nat.le_of_ble_eq_true rfl)⟩ dX10_removePoint_28 ?_
      rintro _ _ ⟨rfl, rfl⟩
      show jx_J X 0 0 31 [(0, .ref y25), (1, .int y26)] [] h33
      refine j_iload_n C dX10_removePoint_31 rfl rfl ?_
      refine j_istore_n (lv1 := [(2, .int y26), (0, .ref y25), (1, .int y26)]) C hL dX10_removePoint_32 rfl (Nat.le_of_ble_eq_true rfl) rfl ?_
      refine jx_sub (lv' := [(0, .ref y25), (2, .int y26)]) [1, 0] rfl ?_
      refine itr_ind (s0 := (y26, h33)) (fun s : Int32 × jx_H => jx_J X 0 0 33 [(0, .ref y25), (2, .int s.1)] [] s.2) e ?_
      clear e
      intro s kI2 kT2 e0
      obtain ⟨z34, h35⟩ := s
      obtain ⟨u2, e0_2⟩ := e0
      have e : LX10_removePoint_33 y25 z34 h35 = some u2 := e0_2
      unfold LX10_removePoint_33 at e
      refine j_iload_n C dX10_removePoint_33 rfl rfl ?_
      refine j_iconst (v := (1 : Int32)) C dX10_removePoint_34 (by decide) ?_
      refine j_iadd C dX10_removePoint_35 ?_
      refine j_aload_n C dX10_removePoint_36 rfl rfl ?_
      replace e := ob e
      obtain ⟨x36, ex36, e⟩ := e
      refine j_getr (ci := 10) (RC := RX10) (T := TX10) (N := 38) 1 C rfl klX10 (Nat.le_of_ble_eq_true rfl) kX10_7 rfl dX10_removePoint_37 ex36 ?_
      refine j_iconst (v := (3 : Int32)) C dX10_removePoint_40 (by decide) ?_
      replace e := ob e
      obtain ⟨x37, ex37, e⟩ := e
      refine j_iald C dX10_removePoint_41 ex37 ?_
      refine j_icmp_ge (tgt := 95) C dX10_removePoint_42 (by decide) (fun c51 => ?_) (fun c51 => ?_)
      · replace e := ifp c51 e
        obtain ⟨t_3, e_3, eu_3⟩ := exL_spec e
        obtain rfl := kT2 t_3 (e0_2.trans (congrArg some eu_3))
        replace e := e_3
        refine j_aload_n C dX10_removePoint_95 rfl rfl ?_
        replace e := ob e
        obtain ⟨x38, ex38, e⟩ := e
        refine j_getr (ci := 10) (RC := RX10) (T := TX10) (N := 38) 1 C rfl klX10 (Nat.le_of_ble_eq_true rfl) kX10_7 rfl dX10_removePoint_96 ex38 ?_
        refine j_iconst (v := (3 : Int32)) C dX10_removePoint_99 (by decide) ?_
        refine j_dup2 C dX10_removePoint_100 rfl rfl ?_
        replace e := ob e
        obtain ⟨x39, ex39, e⟩ := e
        refine j_iald C dX10_removePoint_101 ex39 ?_
        refine j_iconst (v := (1 : Int32)) C dX10_removePoint_102 (by decide) ?_
        refine j_isub C dX10_removePoint_103 ?_
        replace e := ob e
        obtain ⟨h40, eh40, e⟩ := e
        refine j_iast C dX10_removePoint_104 eh40 ?_
        refine j_aload_n C dX10_removePoint_105 rfl rfl ?_
        replace e := ob e
        obtain ⟨x41, ex41, e⟩ := e
        refine j_getr (ci := 10) (RC := RX10) (T := TX10) (N := 38) 1 C rfl klX10 (Nat.le_of_ble_eq_true rfl) kX10_7 rfl dX10_removePoint_106 ex41 ?_
        refine j_iconst (v := (3 : Int32)) C dX10_removePoint_109 (by decide) ?_
        replace e := ob e
        obtain ⟨x42, ex42, e⟩ := e
        refine j_iald C dX10_removePoint_110 ex42 ?_
        cases e
        exact j_iret C hq rfl dX10_removePoint_111 ⟨Nat.le_of_ble_eq_true rfl, Nat.le_of_ble_eq_true rfl⟩ ⟨rfl, rfl⟩
      · replace e := ifn c51 e
        refine j_aload_n C dX10_removePoint_45 rfl rfl ?_
        replace e := ob e
        obtain ⟨x43, ex43, e⟩ := e
        refine j_getr (ci := 10) (RC := RX10) (T := TX10) (N := 38) 1 C rfl klX10 (Nat.le_of_ble_eq_true rfl) kX10_7 rfl dX10_removePoint_46 ex43 ?_
        refine j_sipush (v := (224 : Int32)) C dX10_removePoint_49 (by decide) ?_
        refine j_iload_n C dX10_removePoint_52 rfl rfl ?_
        refine j_iadd C dX10_removePoint_53 ?_
        refine j_aload_n C dX10_removePoint_54 rfl rfl ?_
        replace e := ob e
        obtain ⟨x44, ex44, e⟩ := e
        refine j_getr (ci := 10) (RC := RX10) (T := TX10) (N := 38) 1 C rfl klX10 (Nat.le_of_ble_eq_true rfl) kX10_7 rfl dX10_removePoint_55 ex44 ?_
        refine j_sipush (v := (224 : Int32)) C dX10_removePoint_58 (by decide) ?_
        refine j_iload_n C dX10_removePoint_61 rfl rfl ?_
        refine j_iadd C dX10_removePoint_62 ?_
        refine j_iconst (v := (1 : Int32)) C dX10_removePoint_63 (by decide) ?_
        refine j_iadd C dX10_removePoint_64 ?_
        replace e := ob e
        obtain ⟨x45, ex45, e⟩ := e
        refine j_iald C dX10_removePoint_65 ex45 ?_
        replace e := ob e
        obtain ⟨h46, eh46, e⟩ := e
        refine j_iast C dX10_removePoint_66 eh46 ?_
        refine j_aload_n C dX10_removePoint_67 rfl rfl ?_
        replace e := ob e
        obtain ⟨x47, ex47, e⟩ := e
        refine j_getr (ci := 10) (RC := RX10) (T := TX10) (N := 38) 1 C rfl klX10 (Nat.le_of_ble_eq_true rfl) kX10_7 rfl dX10_removePoint_68 ex47 ?_
        refine j_sipush (v := (236 : Int32)) C dX10_removePoint_71 (by decide) ?_
        refine j_iload_n C dX10_removePoint_74 rfl rfl ?_
        refine j_iadd C dX10_removePoint_75 ?_
        refine j_aload_n C dX10_removePoint_76 rfl rfl ?_
        replace e := ob e
        obtain ⟨x48, ex48, e⟩ := e
        refine j_getr (ci := 10) (RC := RX10) (T := TX10) (N := 38) 1 C rfl klX10 (Nat.le_of_ble_eq_true rfl) kX10_7 rfl dX10_removePoint_77 ex48 ?_
        refine j_sipush (v := (236 : Int32)) C dX10_removePoint_80 (by decide) ?_
        refine j_iload_n C dX10_removePoint_83 rfl rfl ?_
        refine j_iadd C dX10_removePoint_84 ?_
        refine j_iconst (v := (1 : Int32)) C dX10_removePoint_85 (by decide) ?_
        refine j_iadd C dX10_removePoint_86 ?_
        replace e := ob e
        obtain ⟨x49, ex49, e⟩ := e
        refine j_iald C dX10_removePoint_87 ex49 ?_
        replace e := ob e
        obtain ⟨h50, eh50, e⟩ := e
        refine j_iast C dX10_removePoint_88 eh50 ?_
        refine j_iinc (v := (z34 + (1 : Int32))) (lv1 := [(2, .int (z34 + (1 : Int32))), (0, .ref y25)]) C hL dX10_removePoint_89 rfl rfl (Nat.le_of_ble_eq_true rfl) rfl ?_
        refine j_goto (tgt := 33) C dX10_removePoint_92 (by decide) ?_
        obtain rfl := Option.some.inj e
        refine jx_sub (lv' := [(0, .ref y25), (2, .int (z34 + (1 : Int32)))]) [1, 0] rfl ?_
        exact kI2 ((z34 + (1 : Int32)), h50) e0_2
    · replace e := ifn c52 e
      refine j_iconst (v := (0 : Int32)) C dX10_removePoint_24 (by decide) ?_
      cases e
      exact j_iret C hq rfl dX10_removePoint_25 ⟨Nat.le_of_ble_eq_true rfl, Nat.le_of_ble_eq_true rfl⟩ ⟨rfl, rfl⟩
  unfold FX10_removePoint at e
  refine j_aload_n C dX10_removePoint_0 rfl rfl ?_
  refine j_aload_n C dX10_removePoint_1 rfl rfl ?_
  refine j_iload_n C dX10_removePoint_2 rfl rfl ?_
  replace e := ob e
  obtain ⟨_, eo53, e⟩ := e
  replace e := ob e
  obtain ⟨x54, ex54, e⟩ := e
  refine j_callV (ci := 10) (RC := RX10) (T := TX10) (N := 38) (As := [.int l1]) (b := l0) (na := 1) (st := [.ref l0]) (k1 := 0) (n1 := 0) C hr (sX10_isPoint ex54) rfl eo53 kX10_379 kim_X10_isPoint ksel_X10_isPoint kini_X10 kc_X10_isPoint (by decide) rfl ⟨(Nat.le_of_ble_eq_true rfl), (Nat.le_of_ble_eq_true rfl)⟩ (Nat.le_of_ble_eq_true rfl) ⟨rfl, rfl, (Nat.le_of_ble_eq_true rfl), (Nat.le_of_ble_eq_true rfl)⟩ dX10_removePoint_3 ?_
  rintro _ _ ⟨rfl, rfl⟩
  show jx_J X 0 0 6 [(0, .ref l0), (1, .int l1)] [.int x54, .ref l0] h
  refine j_if_eq (tgt := 13) C dX10_removePoint_6 (by decide) (fun c55 => ?_) (fun c55 => ?_)
  · replace e := ifp c55 e
    refine j_iconst (v := (1 : Int32)) C dX10_removePoint_13 (by decide) ?_
    exact b14 l0 l1 l0 (1 : Int32) h e
  · replace e := ifn c55 e
    refine j_iconst (v := (0 : Int32)) C dX10_removePoint_9 (by decide) ?_
    refine j_goto (tgt := 14) C dX10_removePoint_10 (by decide) ?_
    exact b14 l0 l1 l0 (0 : Int32) h e
/-! BorderBasisModel.point(II)I -/
noncomputable def BX10_point_27 (l0 : Nat) (l1 : Int32) (l2 : Int32) (s0 : Nat) (s1 : Int32) (h : jx_H) : Option (Int32 × jx_H) :=
(hp h s0 10 0 (.int s1)).bind fun h1 =>
(hgi h1 l0 10 0).bind fun x2 =>
if x2 ≤ 0 then
 (hgr h1 l0 10 1).bind fun x3 =>
 (hal h1 .int x3 ((224 : Int32) + l1)).bind fun x4 =>
 (hgr h1 l0 10 1).bind fun x5 =>
 (hal h1 .int x5 ((236 : Int32) + l1)).bind fun x6 =>
 if l2 = 0 then
  some (x4, h1)
 else
  if l2 = (1 : Int32) then
   some (x6, h1)
  else
   (isO h1 l0 10).bind fun _ =>
   bind2 (FX10_isZero l0 x4 x6 h1) fun x8 h9 =>
   if x8 = 0 then
    some ((0 : Int32), h9)
   else
    some ((1 : Int32), h9)
else
 some ((0 : Int32), h1)
noncomputable def FX10_point (l0 : Nat) (l1 : Int32) (l2 : Int32) (h : jx_H) : Option (Int32 × jx_H) :=
(isO h l0 10).bind fun _ =>
(FX10_isPoint l0 l1 h).bind fun x15 =>
if x15 = 0 then
 BX10_point_27 l0 l1 l2 l0 (1 : Int32) h
else
 (FX10_in l2 (0 : Int32) (2 : Int32) h).bind fun x16 =>
 if x16 = 0 then
  BX10_point_27 l0 l1 l2 l0 (2 : Int32) h
 else
  BX10_point_27 l0 l1 l2 l0 (0 : Int32) h
def rmX10_point : Room := { frames := 4, cells := 0, slots := 0, locals := 90 }
set_option maxRecDepth 20000 in
set_option maxHeartbeats 4000000 in
theorem sX10_point {l0 : Nat} {l1 : Int32} {l2 : Int32} {h : jx_H} {r : Int32} {h9 : jx_H} (e : FX10_point l0 l1 l2 h = some (r, h9)) : jx_Ct yX10_point cX10_point 5 (some .int) rmX10_point [.ref l0, .int l1, .int l2] h (fun r' h' => some (.int r) = r' ∧ h9 = h') := by
  refine jx_Ct.of (own := RX10) (by decide) rfl (Nat.le_of_ble_eq_true rfl) (fun X C hq hr hL hN => ?_)
  refine jx_sub (lv' := [(0, .ref l0), (1, .int l1), (2, .int l2)]) [0, 1, 2] rfl ?_
  have b27 : ∀ (y19 : Nat) (y20 : Int32) (y21 : Int32) (y22 : Nat) (y23 : Int32) (h24 : jx_H), BX10_point_27 y19 y20 y21 y22 y23 h24 = some (r, h9) → jx_J X 0 0 27 [(0, .ref y19), (1, .int y20), (2, .int y21)] [.int y23, .ref y22] h24 := by
    intro y19 y20 y21 y22 y23 h24 e
    unfold BX10_point_27 at e
    replace e := ob e
    obtain ⟨h25, eh25, e⟩ := e
    refine j_put (ci := 10) (RC := RX10) (T := TX10) (N := 38) (ty0 := tyX10) 0 C rfl klX10 tyX10_ok nmX10 (Nat.le_of_ble_eq_true rfl) kX10_91 rfl rfl rfl rfl dX10_point_27 eh25 ?_
    refine j_aload_n C dX10_point_30 rfl rfl ?_
    replace e := ob e
    obtain ⟨x26, ex26, e⟩ := e
    refine j_geti (ci := 10) (RC := RX10) (T := TX10) (N := 38) 0 C rfl klX10 (Nat.le_of_ble_eq_true rfl) kX10_91 rfl dX10_point_31 ex26 ?_
    refine j_if_le (tgt := 39) C dX10_point_34 (by decide) (fun c37 => ?_) (fun c37 => ?_)
    · replace e := ifp c37 e
      refine j_aload_n C dX10_point_39 rfl rfl ?_
      replace e := ob e
      obtain ⟨x27, ex27, e⟩ := e
      refine j_getr (ci := 10) (RC := RX10) (T := TX10) (N := 38) 1 C rfl klX10 (Nat.le_of_ble_eq_true rfl) kX10_7 rfl dX10_point_40 ex27 ?_
      refine j_sipush (v := (224 : Int32)) C dX10_point_43 (by decide) ?_
      refine j_iload_n C dX10_point_46 rfl rfl ?_
      refine j_iadd C dX10_point_47 ?_
      replace e := ob e
      obtain ⟨x28, ex28, e⟩ := e
      refine j_iald C dX10_point_48 ex28 ?_
      refine j_istore_n (lv1 := [(3, .int x28), (0, .ref y19), (1, .int y20), (2, .int y21)]) C hL dX10_point_49 rfl (Nat.le_of_ble_eq_true rfl) rfl ?_
      refine j_aload_n C dX10_point_50 rfl rfl ?_
      replace e := ob e
      obtain ⟨x29, ex29, e⟩ := e
      refine j_getr (ci := 10) (RC := RX10) (T := TX10) (N := 38) 1 C rfl klX10 (Nat.le_of_ble_eq_true rfl) kX10_7 rfl dX10_point_51 ex29 ?_
      refine j_sipush (v := (236 : Int32)) C dX10_point_54 (by decide) ?_
      refine j_iload_n C dX10_point_57 rfl rfl ?_
      refine j_iadd C dX10_point_58 ?_
      replace e := ob e
      obtain ⟨x30, ex30, e⟩ := e
      refine j_iald C dX10_point_59 ex30 ?_
      refine j_istore (lv1 := [(4, .int x30), (3, .int x28), (0, .ref y19), (1, .int y20), (2, .int y21)]) C hL dX10_point_60 (Nat.le_of_ble_eq_true rfl) rfl ?_
      refine j_iload_n C dX10_point_62 rfl rfl ?_
      refine j_if_ne (tgt := 70) C dX10_point_63 (by decide) (fun c36 => ?_) (fun c36 => ?_)
      · replace e := ifn c36 e
        refine j_iload_n C dX10_point_70 rfl rfl ?_
        refine j_iconst (v := (1 : Int32)) C dX10_point_71 (by decide) ?_
        refine j_icmp_ne (tgt := 80) C dX10_point_72 (by decide) (fun c35 => ?_) (fun c35 => ?_)
        · replace e := ifn c35 e
          refine j_aload_n C dX10_point_80 rfl rfl ?_
          refine j_iload_n C dX10_point_81 rfl rfl ?_
          refine j_iload C dX10_point_82 rfl ?_
          replace e := ob e
          obtain ⟨_, eo31, e⟩ := e
          replace e := ob2 e
          obtain ⟨x32, h33, ex32, e⟩ := e
          refine j_callV (ci := 10) (RC := RX10) (T := TX10) (N := 38) (As := [.int x28, .int x30]) (b := y19) (na := 2) (st := []) (k1 := 0) (n1 := 0) C hr (sX10_isZero ex32) rfl eo31 kX10_325 kim_X10_isZero ksel_X10_isZero kini_X10 kc_X10_isZero (by decide) rfl ⟨(Nat.le_of_ble_eq_true rfl), (Nat.le_of_ble_eq_true rfl)⟩ (Nat.le_of_ble_eq_true rfl) ⟨rfl, rfl, (Nat.le_of_ble_eq_true rfl), (Nat.le_of_ble_eq_true rfl)⟩ dX10_point_84 ?_
          rintro _ _ ⟨rfl, rfl⟩
          show jx_J X 0 0 87 [(4, .int x30), (3, .int x28), (0, .ref y19), (1, .int y20), (2, .int y21)] [.int x32] h33
          refine j_if_eq (tgt := 94) C dX10_point_87 (by decide) (fun c34 => ?_) (fun c34 => ?_)
          · replace e := ifp c34 e
            refine j_iconst (v := (0 : Int32)) C dX10_point_94 (by decide) ?_
            cases e
            exact j_iret C hq rfl dX10_point_95 ⟨Nat.le_of_ble_eq_true rfl, Nat.le_of_ble_eq_true rfl⟩ ⟨rfl, rfl⟩
          · replace e := ifn c34 e
            refine j_iconst (v := (1 : Int32)) C dX10_point_90 (by decide) ?_
            refine j_goto (tgt := 95) C dX10_point_91 (by decide) ?_
            cases e
            exact j_iret C hq rfl dX10_point_95 ⟨Nat.le_of_ble_eq_true rfl, Nat.le_of_ble_eq_true rfl⟩ ⟨rfl, rfl⟩
        · replace e := ifp c35 e
          refine j_iload C dX10_point_75 rfl ?_
          refine j_goto (tgt := 95) C dX10_point_77 (by decide) ?_
          cases e
          exact j_iret C hq rfl dX10_point_95 ⟨Nat.le_of_ble_eq_true rfl, Nat.le_of_ble_eq_true rfl⟩ ⟨rfl, rfl⟩
      · replace e := ifp c36 e
        refine j_iload_n C dX10_point_66 rfl rfl ?_
        refine j_goto (tgt := 95) C dX10_point_67 (by decide) ?_
        cases e
        exact j_iret C hq rfl dX10_point_95 ⟨Nat.le_of_ble_eq_true rfl, Nat.le_of_ble_eq_true rfl⟩ ⟨rfl, rfl⟩
    · replace e := ifn c37 e
      refine j_iconst (v := (0 : Int32)) C dX10_point_37 (by decide) ?_
      cases e
      exact j_iret C hq rfl dX10_point_38 ⟨Nat.le_of_ble_eq_true rfl, Nat.le_of_ble_eq_true rfl⟩ ⟨rfl, rfl⟩
  unfold FX10_point at e
  refine j_aload_n C dX10_point_0 rfl rfl ?_
  refine j_aload_n C dX10_point_1 rfl rfl ?_
  refine j_iload_n C dX10_point_2 rfl rfl ?_
  replace e := ob e
  obtain ⟨_, eo38, e⟩ := e
  replace e := ob e
  obtain ⟨x39, ex39, e⟩ := e
  refine j_callV (ci := 10) (RC := RX10) (T := TX10) (N := 38) (As := [.int l1]) (b := l0) (na := 1) (st := [.ref l0]) (k1 := 0) (n1 := 0) C hr (sX10_isPoint ex39) rfl eo38 kX10_379 kim_X10_isPoint ksel_X10_isPoint kini_X10 kc_X10_isPoint (by decide) rfl ⟨(Nat.le_of_ble_eq_true rfl), (Nat.le_of_ble_eq_true rfl)⟩ (Nat.le_of_ble_eq_true rfl) ⟨rfl, rfl, (Nat.le_of_ble_eq_true rfl), (Nat.le_of_ble_eq_true rfl)⟩ dX10_point_3 ?_
  rintro _ _ ⟨rfl, rfl⟩
  show jx_J X 0 0 6 [(0, .ref l0), (1, .int l1), (2, .int l2)] [.int x39, .ref l0] h
  refine j_if_ne (tgt := 13) C dX10_point_6 (by decide) (fun c42 => ?_) (fun c42 => ?_)
  · replace e := ifn c42 e
    refine j_iload_n C dX10_point_13 rfl rfl ?_
    refine j_iconst (v := (0 : Int32)) C dX10_point_14 (by decide) ?_
    refine j_iconst (v := (2 : Int32)) C dX10_point_15 (by decide) ?_
    replace e := ob e
    obtain ⟨x40, ex40, e⟩ := e
    refine j_callS (As := [.int l2, .int (0 : Int32), .int (2 : Int32)]) (na := 3) (st := [.ref l0]) (k1 := 0) (n1 := 0) C hr (sX10_in ex40) kX10_101 kst_X10_in kini_X10 kc_X10_in (by decide) rfl ⟨(Nat.le_of_ble_eq_true rfl), (Nat.le_of_ble_eq_true rfl)⟩ (Nat.le_of_ble_eq_true rfl) ⟨rfl, rfl, (Nat.le_of_ble_eq_true rfl), (Nat.le_of_ble_eq_true rfl)⟩ dX10_point_16 ?_
    rintro _ _ ⟨rfl, rfl⟩
    show jx_J X 0 0 19 [(0, .ref l0), (1, .int l1), (2, .int l2)] [.int x40, .ref l0] h
    refine j_if_eq (tgt := 26) C dX10_point_19 (by decide) (fun c41 => ?_) (fun c41 => ?_)
    · replace e := ifp c41 e
      refine j_iconst (v := (2 : Int32)) C dX10_point_26 (by decide) ?_
      exact b27 l0 l1 l2 l0 (2 : Int32) h e
    · replace e := ifn c41 e
      refine j_iconst (v := (0 : Int32)) C dX10_point_22 (by decide) ?_
      refine j_goto (tgt := 27) C dX10_point_23 (by decide) ?_
      exact b27 l0 l1 l2 l0 (0 : Int32) h e
  · replace e := ifp c42 e
    refine j_iconst (v := (1 : Int32)) C dX10_point_9 (by decide) ?_
    refine j_goto (tgt := 27) C dX10_point_10 (by decide) ?_
    exact b27 l0 l1 l2 l0 (1 : Int32) h e
/-! BorderBasisModel.valueAt(III)I -/
noncomputable def FX10_valueAt (l0 : Nat) (l1 : Int32) (l2 : Int32) (l3 : Int32) (h : jx_H) : Option (Int32 × jx_H) :=
(hgr h l0 10 1).bind fun x1 =>
(hal h .int x1 ((224 : Int32) + l3)).bind fun x2 =>
(hgr h l0 10 1).bind fun x3 =>
(hal h .int x3 ((236 : Int32) + l3)).bind fun x4 =>
(isO h l0 10).bind fun _ =>
(FX10_laysPowers l0 x2 x4 h).bind fun h6 =>
(hgr h6 l0 10 32).bind fun x7 =>
(hal h6 .int x7 l1).bind fun x8 =>
(hgr h6 l0 10 33).bind fun x9 =>
(hal h6 .int x9 l2).bind fun x10 =>
(isO h6 l0 10).bind fun _ =>
(FX10_p l0 h6).bind fun x12 =>
if x12 = 0 then none else
some (((x8 * x10) - (x8 * x10) / x12 * x12), h6)
def rmX10_valueAt : Room := { frames := 2, cells := 0, slots := 0, locals := 43 }
set_option maxRecDepth 20000 in
set_option maxHeartbeats 4000000 in
theorem sX10_valueAt {l0 : Nat} {l1 : Int32} {l2 : Int32} {l3 : Int32} {h : jx_H} {r : Int32} {h9 : jx_H} (e : FX10_valueAt l0 l1 l2 l3 h = some (r, h9)) : jx_Ct yX10_valueAt cX10_valueAt 4 (some .int) rmX10_valueAt [.ref l0, .int l1, .int l2, .int l3] h (fun r' h' => some (.int r) = r' ∧ h9 = h') := by
  refine jx_Ct.of (own := RX10) (by decide) rfl (Nat.le_of_ble_eq_true rfl) (fun X C hq hr hL hN => ?_)
  refine jx_sub (lv' := [(0, .ref l0), (1, .int l1), (2, .int l2), (3, .int l3)]) [0, 1, 2, 3] rfl ?_
  unfold FX10_valueAt at e
  refine j_aload_n C dX10_valueAt_0 rfl rfl ?_
  refine j_aload_n C dX10_valueAt_1 rfl rfl ?_
  replace e := ob e
  obtain ⟨x14, ex14, e⟩ := e
  refine j_getr (ci := 10) (RC := RX10) (T := TX10) (N := 38) 1 C rfl klX10 (Nat.le_of_ble_eq_true rfl) kX10_7 rfl dX10_valueAt_2 ex14 ?_
  refine j_sipush (v := (224 : Int32)) C dX10_valueAt_5 (by decide) ?_
  refine j_iload_n C dX10_valueAt_8 rfl rfl ?_
  refine j_iadd C dX10_valueAt_9 ?_
  replace e := ob e
  obtain ⟨x15, ex15, e⟩ := e
  refine j_iald C dX10_valueAt_10 ex15 ?_
  refine j_aload_n C dX10_valueAt_11 rfl rfl ?_
  replace e := ob e
  obtain ⟨x16, ex16, e⟩ := e
  refine j_getr (ci := 10) (RC := RX10) (T := TX10) (N := 38) 1 C rfl klX10 (Nat.le_of_ble_eq_true rfl) kX10_7 rfl dX10_valueAt_12 ex16 ?_
  refine j_sipush (v := (236 : Int32)) C dX10_valueAt_15 (by decide) ?_
  refine j_iload_n C dX10_valueAt_18 rfl rfl ?_
  refine j_iadd C dX10_valueAt_19 ?_
  replace e := ob e
  obtain ⟨x17, ex17, e⟩ := e
  refine j_iald C dX10_valueAt_20 ex17 ?_
  replace e := ob e
  obtain ⟨_, eo18, e⟩ := e
  replace e := ob e
  obtain ⟨h19, eh19, e⟩ := e
  refine j_callV (ci := 10) (RC := RX10) (T := TX10) (N := 38) (As := [.int x15, .int x17]) (b := l0) (na := 2) (st := []) (k1 := 0) (n1 := 0) C hr (sX10_laysPowers eh19) rfl eo18 kX10_316 kim_X10_laysPowers ksel_X10_laysPowers kini_X10 kc_X10_laysPowers (by decide) rfl ⟨(Nat.le_of_ble_eq_true rfl), (Nat.le_of_ble_eq_true rfl)⟩ (Nat.le_of_ble_eq_true rfl) ⟨rfl, rfl, (Nat.le_of_ble_eq_true rfl), (Nat.le_of_ble_eq_true rfl)⟩ dX10_valueAt_21 ?_
  rintro _ _ ⟨rfl, rfl⟩
  show jx_J X 0 0 24 [(0, .ref l0), (1, .int l1), (2, .int l2), (3, .int l3)] [] h19
  refine j_aload_n C dX10_valueAt_24 rfl rfl ?_
  replace e := ob e
  obtain ⟨x20, ex20, e⟩ := e
  refine j_getr (ci := 10) (RC := RX10) (T := TX10) (N := 38) 32 C rfl klX10 (Nat.le_of_ble_eq_true rfl) kX10_73 rfl dX10_valueAt_25 ex20 ?_
  refine j_iload_n C dX10_valueAt_28 rfl rfl ?_
  replace e := ob e
  obtain ⟨x21, ex21, e⟩ := e
  refine j_iald C dX10_valueAt_29 ex21 ?_
  refine j_aload_n C dX10_valueAt_30 rfl rfl ?_
  replace e := ob e
  obtain ⟨x22, ex22, e⟩ := e
  refine j_getr (ci := 10) (RC := RX10) (T := TX10) (N := 38) 33 C rfl klX10 (Nat.le_of_ble_eq_true rfl) kX10_76 rfl dX10_valueAt_31 ex22 ?_
  refine j_iload_n C dX10_valueAt_34 rfl rfl ?_
  replace e := ob e
  obtain ⟨x23, ex23, e⟩ := e
  refine j_iald C dX10_valueAt_35 ex23 ?_
  refine j_imul C dX10_valueAt_36 ?_
  refine j_aload_n C dX10_valueAt_37 rfl rfl ?_
  replace e := ob e
  obtain ⟨_, eo24, e⟩ := e
  replace e := ob e
  obtain ⟨x25, ex25, e⟩ := e
  refine j_callV (ci := 10) (RC := RX10) (T := TX10) (N := 38) (As := []) (b := l0) (na := 0) (st := [.int (x21 * x23)]) (k1 := 0) (n1 := 0) C hr (sX10_p ex25) rfl eo24 kX10_97 kim_X10_p ksel_X10_p kini_X10 kc_X10_p (by decide) rfl ⟨(Nat.le_of_ble_eq_true rfl), (Nat.le_of_ble_eq_true rfl)⟩ (Nat.le_of_ble_eq_true rfl) ⟨rfl, rfl, (Nat.le_of_ble_eq_true rfl), (Nat.le_of_ble_eq_true rfl)⟩ dX10_valueAt_38 ?_
  rintro _ _ ⟨rfl, rfl⟩
  show jx_J X 0 0 41 [(0, .ref l0), (1, .int l1), (2, .int l2), (3, .int l3)] [.int x25, .int (x21 * x23)] h19
  by_cases c26 : x25 = 0
  · exact nos (ifp c26 e)
  replace e := ifn c26 e
  refine j_irem C dX10_valueAt_41 c26 ?_
  cases e
  exact j_iret C hq rfl dX10_valueAt_42 ⟨Nat.le_of_ble_eq_true rfl, Nat.le_of_ble_eq_true rfl⟩ ⟨rfl, rfl⟩
/-! BorderBasisModel.rankOf(II)I -/
noncomputable def BX10_rankOf_175 (l0 : Nat) (l1 : Int32) (l2 : Int32) (l3 : Int32) (l4 : Int32) (h : jx_H) : Option ((Int32 × Int32 × jx_H) ⊕ (Int32 × jx_H)) :=
some (.inl (l3, (l4 + (1 : Int32)), h))
noncomputable def LX10_rankOf_111 (l0 : Nat) (l1 : Int32) (l2 : Int32) (l3 : Int32) (l4 : Int32) (l6 : Int32) (l7 : Int32) (l8 : Int32) (l9 : Int32) (h : jx_H) : Option ((Int32 × jx_H) ⊕ ((Int32 × jx_H) ⊕ ((Int32 × Int32 × jx_H) ⊕ (Int32 × jx_H)))) :=
if l2 ≤ l9 then
 exL (some (.inl ((l7 + (1 : Int32)), h)))
else
 (hgr h l0 10 25).bind fun x14 =>
 (FX10_cell l7 l9 h).bind fun x15 =>
 (hgr h l0 10 25).bind fun x16 =>
 (FX10_cell l7 l9 h).bind fun x17 =>
 (hal h .int x16 x17).bind fun x18 =>
 (hgr h l0 10 25).bind fun x19 =>
 (FX10_cell l3 l9 h).bind fun x20 =>
 (hal h .int x19 x20).bind fun x21 =>
 (isO h l0 10).bind fun _ =>
 (FX10_mod l0 (x18 - (l8 * x21)) h).bind fun x23 =>
 (has h .int x14 x15 x23).bind fun h24 =>
 some (.inl ((l9 + (1 : Int32)), h24))
noncomputable def LX10_rankOf_79 (l0 : Nat) (l1 : Int32) (l2 : Int32) (l3 : Int32) (l4 : Int32) (l6 : Int32) (l7 : Int32) (h : jx_H) : Option ((Int32 × jx_H) ⊕ ((Int32 × Int32 × jx_H) ⊕ (Int32 × jx_H))) :=
if l1 ≤ l7 then
 exL (BX10_rankOf_175 l0 l1 l2 (l3 + (1 : Int32)) l4 h)
else
 (hgr h l0 10 25).bind fun x8 =>
 (FX10_cell l7 l4 h).bind fun x9 =>
 (hal h .int x8 x9).bind fun x10 =>
 (isO h l0 10).bind fun _ =>
 (FX10_p l0 h).bind fun x12 =>
 if x12 = 0 then none else
 itr (fun s : Int32 × jx_H => LX10_rankOf_111 l0 l1 l2 l3 l4 l6 l7 ((x10 * l6) - (x10 * l6) / x12 * x12) s.1 s.2) (l4, h)
noncomputable def BX10_rankOf_41 (l0 : Nat) (l1 : Int32) (l2 : Int32) (l3 : Int32) (l4 : Int32) (l5 : Int32) (h : jx_H) : Option ((Int32 × Int32 × jx_H) ⊕ (Int32 × jx_H)) :=
if l5 = l1 then
 BX10_rankOf_175 l0 l1 l2 l3 l4 h
else
 (isO h l0 10).bind fun _ =>
 (FX10_swapsRows l0 l5 l3 h).bind fun h2 =>
 (hgr h2 l0 10 25).bind fun x3 =>
 (FX10_cell l3 l4 h2).bind fun x4 =>
 (hal h2 .int x3 x4).bind fun x5 =>
 (isO h2 l0 10).bind fun _ =>
 (FX10_inverse l0 x5 h2).bind fun x7 =>
 itr (fun s : Int32 × jx_H => LX10_rankOf_79 l0 l1 l2 l3 l4 x7 s.1 s.2) ((l3 + (1 : Int32)), h2)
noncomputable def LX10_rankOf_14 (l0 : Nat) (l1 : Int32) (l2 : Int32) (l3 : Int32) (l4 : Int32) (l5 : Int32) (h : jx_H) : Option ((Int32) ⊕ ((Int32 × Int32 × jx_H) ⊕ (Int32 × jx_H))) :=
if l1 ≤ l5 then
 exL (BX10_rankOf_41 l0 l1 l2 l3 l4 l5 h)
else
 (hgr h l0 10 25).bind fun x28 =>
 (FX10_cell l5 l4 h).bind fun x29 =>
 (hal h .int x28 x29).bind fun x30 =>
 if x30 = 0 then
  some (.inl (l5 + (1 : Int32)))
 else
  exL (BX10_rankOf_41 l0 l1 l2 l3 l4 l5 h)
noncomputable def LX10_rankOf_5 (l0 : Nat) (l1 : Int32) (l2 : Int32) (l3 : Int32) (l4 : Int32) (h : jx_H) : Option ((Int32 × Int32 × jx_H) ⊕ (Int32 × jx_H)) :=
if l2 ≤ l4 then
 exL (some (l3, h))
else
 itr (fun s : Int32 => LX10_rankOf_14 l0 l1 l2 l3 l4 s h) l3
noncomputable def FX10_rankOf (l0 : Nat) (l1 : Int32) (l2 : Int32) (h : jx_H) : Option (Int32 × jx_H) :=
itr (fun s : Int32 × Int32 × jx_H => LX10_rankOf_5 l0 l1 l2 s.1 s.2.1 s.2.2) ((0 : Int32), (0 : Int32), h)
def rmX10_rankOf : Room := { frames := 2, cells := 0, slots := 0, locals := 45 }
set_option maxRecDepth 20000 in
set_option maxHeartbeats 4000000 in
theorem sX10_rankOf {l0 : Nat} {l1 : Int32} {l2 : Int32} {h : jx_H} {r : Int32} {h9 : jx_H} (e : FX10_rankOf l0 l1 l2 h = some (r, h9)) : jx_Ct yX10_rankOf cX10_rankOf 10 (some .int) rmX10_rankOf [.ref l0, .int l1, .int l2] h (fun r' h' => some (.int r) = r' ∧ h9 = h') := by
  refine jx_Ct.of (own := RX10) (by decide) rfl (Nat.le_of_ble_eq_true rfl) (fun X C hq hr hL hN => ?_)
  refine jx_sub (lv' := [(0, .ref l0), (1, .int l1), (2, .int l2)]) [0, 1, 2] rfl ?_
  unfold FX10_rankOf at e
  refine j_iconst (v := (0 : Int32)) C dX10_rankOf_0 (by decide) ?_
  refine j_istore_n (lv1 := [(3, .int (0 : Int32)), (0, .ref l0), (1, .int l1), (2, .int l2)]) C hL dX10_rankOf_1 rfl (Nat.le_of_ble_eq_true rfl) rfl ?_
  refine j_iconst (v := (0 : Int32)) C dX10_rankOf_2 (by decide) ?_
  refine j_istore (lv1 := [(4, .int (0 : Int32)), (3, .int (0 : Int32)), (0, .ref l0), (1, .int l1), (2, .int l2)]) C hL dX10_rankOf_3 (Nat.le_of_ble_eq_true rfl) rfl ?_
  refine jx_sub (lv' := [(0, .ref l0), (1, .int l1), (2, .int l2), (3, .int (0 : Int32)), (4, .int (0 : Int32))]) [2, 3, 4, 1, 0] rfl ?_
  refine itr_ind (s0 := ((0 : Int32), (0 : Int32), h)) (fun s : Int32 × Int32 × jx_H => jx_J X 0 0 5 [(0, .ref l0), (1, .int l1), (2, .int l2), (3, .int s.1), (4, .int s.2.1)] [] s.2.2) e ?_
  clear e
  intro s kI6 kT6 e0
  obtain ⟨z34, z35, h36⟩ := s
  obtain ⟨u6, e0_6⟩ := e0
  have e : LX10_rankOf_5 l0 l1 l2 z34 z35 h36 = some u6 := e0_6
  have b175 : ∀ (y37 : Int32) (y38 : Int32) (h39 : jx_H), BX10_rankOf_175 l0 l1 l2 y37 y38 h39 = some u6 → jx_J X 0 0 175 [(0, .ref l0), (1, .int l1), (2, .int l2), (3, .int y37), (4, .int y38)] [] h39 := by
    intro y37 y38 h39 e
    unfold BX10_rankOf_175 at e
    refine j_iinc (v := (y38 + (1 : Int32))) (lv1 := [(4, .int (y38 + (1 : Int32))), (0, .ref l0), (1, .int l1), (2, .int l2), (3, .int y37)]) C hL dX10_rankOf_175 rfl rfl (Nat.le_of_ble_eq_true rfl) rfl ?_
    refine j_goto (tgt := 5) C dX10_rankOf_178 (by decide) ?_
    obtain rfl := Option.some.inj e
    refine jx_sub (lv' := [(0, .ref l0), (1, .int l1), (2, .int l2), (3, .int y37), (4, .int (y38 + (1 : Int32)))]) [1, 2, 3, 4, 0] rfl ?_
    exact kI6 (y37, (y38 + (1 : Int32)), h39) e0_6
  have b41 : ∀ (y40 : Int32) (y41 : Int32) (y42 : Int32) (h43 : jx_H), BX10_rankOf_41 l0 l1 l2 y40 y41 y42 h43 = some u6 → jx_J X 0 0 41 [(0, .ref l0), (1, .int l1), (2, .int l2), (3, .int y40), (4, .int y41), (5, .int y42)] [] h43 := by
    intro y40 y41 y42 h43 e
    unfold BX10_rankOf_41 at e
    refine j_iload C dX10_rankOf_41 rfl ?_
    refine j_iload_n C dX10_rankOf_43 rfl rfl ?_
    refine j_icmp_ne (tgt := 50) C dX10_rankOf_44 (by decide) (fun c74 => ?_) (fun c74 => ?_)
    · replace e := ifn c74 e
      refine j_aload_n C dX10_rankOf_50 rfl rfl ?_
      refine j_iload C dX10_rankOf_51 rfl ?_
      refine j_iload_n C dX10_rankOf_53 rfl rfl ?_
      replace e := ob e
      obtain ⟨_, eo44, e⟩ := e
      replace e := ob e
      obtain ⟨h45, eh45, e⟩ := e
      refine j_callV (ci := 10) (RC := RX10) (T := TX10) (N := 38) (As := [.int y42, .int y40]) (b := l0) (na := 2) (st := []) (k1 := 0) (n1 := 0) C hr (sX10_swapsRows eh45) rfl eo44 kX10_289 kim_X10_swapsRows ksel_X10_swapsRows kini_X10 kc_X10_swapsRows (by decide) rfl ⟨(Nat.le_of_ble_eq_true rfl), (Nat.le_of_ble_eq_true rfl)⟩ (Nat.le_of_ble_eq_true rfl) ⟨rfl, rfl, (Nat.le_of_ble_eq_true rfl), (Nat.le_of_ble_eq_true rfl)⟩ dX10_rankOf_54 ?_
      rintro _ _ ⟨rfl, rfl⟩
      show jx_J X 0 0 57 [(0, .ref l0), (1, .int l1), (2, .int l2), (3, .int y40), (4, .int y41), (5, .int y42)] [] h45
      refine j_aload_n C dX10_rankOf_57 rfl rfl ?_
      refine j_aload_n C dX10_rankOf_58 rfl rfl ?_
      replace e := ob e
      obtain ⟨x46, ex46, e⟩ := e
      refine j_getr (ci := 10) (RC := RX10) (T := TX10) (N := 38) 25 C rfl klX10 (Nat.le_of_ble_eq_true rfl) kX10_58 rfl dX10_rankOf_59 ex46 ?_
      refine j_iload_n C dX10_rankOf_62 rfl rfl ?_
      refine j_iload C dX10_rankOf_63 rfl ?_
      replace e := ob e
      obtain ⟨x47, ex47, e⟩ := e
      refine j_callS (As := [.int y40, .int y41]) (na := 2) (st := [.ref x46, .ref l0]) (k1 := 0) (n1 := 0) C hr (sX10_cell ex47) kX10_254 kst_X10_cell kini_X10 kc_X10_cell (by decide) rfl ⟨(Nat.le_of_ble_eq_true rfl), (Nat.le_of_ble_eq_true rfl)⟩ (Nat.le_of_ble_eq_true rfl) ⟨rfl, rfl, (Nat.le_of_ble_eq_true rfl), (Nat.le_of_ble_eq_true rfl)⟩ dX10_rankOf_65 ?_
      rintro _ _ ⟨rfl, rfl⟩
      show jx_J X 0 0 68 [(0, .ref l0), (1, .int l1), (2, .int l2), (3, .int y40), (4, .int y41), (5, .int y42)] [.int x47, .ref x46, .ref l0] h45
      replace e := ob e
      obtain ⟨x48, ex48, e⟩ := e
      refine j_iald C dX10_rankOf_68 ex48 ?_
      replace e := ob e
      obtain ⟨_, eo49, e⟩ := e
      replace e := ob e
      obtain ⟨x50, ex50, e⟩ := e
      refine j_callV (ci := 10) (RC := RX10) (T := TX10) (N := 38) (As := [.int x48]) (b := l0) (na := 1) (st := []) (k1 := 0) (n1 := 0) C hr (sX10_inverse ex50) rfl eo49 kX10_292 kim_X10_inverse ksel_X10_inverse kini_X10 kc_X10_inverse (by decide) rfl ⟨(Nat.le_of_ble_eq_true rfl), (Nat.le_of_ble_eq_true rfl)⟩ (Nat.le_of_ble_eq_true rfl) ⟨rfl, rfl, (Nat.le_of_ble_eq_true rfl), (Nat.le_of_ble_eq_true rfl)⟩ dX10_rankOf_69 ?_
      rintro _ _ ⟨rfl, rfl⟩
      show jx_J X 0 0 72 [(0, .ref l0), (1, .int l1), (2, .int l2), (3, .int y40), (4, .int y41), (5, .int y42)] [.int x50] h45
      refine j_istore (lv1 := [(6, .int x50), (0, .ref l0), (1, .int l1), (2, .int l2), (3, .int y40), (4, .int y41), (5, .int y42)]) C hL dX10_rankOf_72 (Nat.le_of_ble_eq_true rfl) rfl ?_
      refine j_iload_n C dX10_rankOf_74 rfl rfl ?_
      refine j_iconst (v := (1 : Int32)) C dX10_rankOf_75 (by decide) ?_
      refine j_iadd C dX10_rankOf_76 ?_
      refine j_istore (lv1 := [(7, .int (y40 + (1 : Int32))), (6, .int x50), (0, .ref l0), (1, .int l1), (2, .int l2), (3, .int y40), (4, .int y41), (5, .int y42)]) C hL dX10_rankOf_77 (Nat.le_of_ble_eq_true rfl) rfl ?_
      refine jx_sub (lv' := [(0, .ref l0), (1, .int l1), (2, .int l2), (3, .int y40), (4, .int y41), (6, .int x50), (7, .int (y40 + (1 : Int32)))]) [2, 3, 4, 5, 6, 1, 0] rfl ?_
      refine itr_ind (s0 := ((y40 + (1 : Int32)), h45)) (fun s : Int32 × jx_H => jx_J X 0 0 79 [(0, .ref l0), (1, .int l1), (2, .int l2), (3, .int y40), (4, .int y41), (6, .int x50), (7, .int s.1)] [] s.2) e ?_
      clear e
      intro s kI7 kT7 e0
      obtain ⟨z51, h52⟩ := s
      obtain ⟨u7, e0_7⟩ := e0
      have e : LX10_rankOf_79 l0 l1 l2 y40 y41 x50 z51 h52 = some u7 := e0_7
      unfold LX10_rankOf_79 at e
      refine j_iload C dX10_rankOf_79 rfl ?_
      refine j_iload_n C dX10_rankOf_81 rfl rfl ?_
      refine j_icmp_ge (tgt := 172) C dX10_rankOf_82 (by decide) (fun c73 => ?_) (fun c73 => ?_)
      · replace e := ifp c73 e
        obtain ⟨t_8, e_8, eu_8⟩ := exL_spec e
        obtain rfl := kT7 t_8 (e0_7.trans (congrArg some eu_8))
        replace e := e_8
        refine j_iinc (v := (y40 + (1 : Int32))) (lv1 := [(3, .int (y40 + (1 : Int32))), (0, .ref l0), (1, .int l1), (2, .int l2), (4, .int y41), (6, .int x50), (7, .int z51)]) C hL dX10_rankOf_172 rfl rfl (Nat.le_of_ble_eq_true rfl) rfl ?_
        refine jx_sub (lv' := [(0, .ref l0), (1, .int l1), (2, .int l2), (3, .int (y40 + (1 : Int32))), (4, .int y41)]) [1, 2, 3, 0, 4] rfl ?_
        exact b175 (y40 + (1 : Int32)) y41 h52 e
      · replace e := ifn c73 e
        refine j_aload_n C dX10_rankOf_85 rfl rfl ?_
        replace e := ob e
        obtain ⟨x53, ex53, e⟩ := e
        refine j_getr (ci := 10) (RC := RX10) (T := TX10) (N := 38) 25 C rfl klX10 (Nat.le_of_ble_eq_true rfl) kX10_58 rfl dX10_rankOf_86 ex53 ?_
        refine j_iload C dX10_rankOf_89 rfl ?_
        refine j_iload C dX10_rankOf_91 rfl ?_
        replace e := ob e
        obtain ⟨x54, ex54, e⟩ := e
        refine j_callS (As := [.int z51, .int y41]) (na := 2) (st := [.ref x53]) (k1 := 0) (n1 := 0) C hr (sX10_cell ex54) kX10_254 kst_X10_cell kini_X10 kc_X10_cell (by decide) rfl ⟨(Nat.le_of_ble_eq_true rfl), (Nat.le_of_ble_eq_true rfl)⟩ (Nat.le_of_ble_eq_true rfl) ⟨rfl, rfl, (Nat.le_of_ble_eq_true rfl), (Nat.le_of_ble_eq_true rfl)⟩ dX10_rankOf_93 ?_
        rintro _ _ ⟨rfl, rfl⟩
        show jx_J X 0 0 96 [(0, .ref l0), (1, .int l1), (2, .int l2), (3, .int y40), (4, .int y41), (6, .int x50), (7, .int z51)] [.int x54, .ref x53] h52
        replace e := ob e
        obtain ⟨x55, ex55, e⟩ := e
        refine j_iald C dX10_rankOf_96 ex55 ?_
        refine j_iload C dX10_rankOf_97 rfl ?_
        refine j_imul C dX10_rankOf_99 ?_
        refine j_aload_n C dX10_rankOf_100 rfl rfl ?_
        replace e := ob e
        obtain ⟨_, eo56, e⟩ := e
        replace e := ob e
        obtain ⟨x57, ex57, e⟩ := e
        refine j_callV (ci := 10) (RC := RX10) (T := TX10) (N := 38) (As := []) (b := l0) (na := 0) (st := [.int (x55 * x50)]) (k1 := 0) (n1 := 0) C hr (sX10_p ex57) rfl eo56 kX10_97 kim_X10_p ksel_X10_p kini_X10 kc_X10_p (by decide) rfl ⟨(Nat.le_of_ble_eq_true rfl), (Nat.le_of_ble_eq_true rfl)⟩ (Nat.le_of_ble_eq_true rfl) ⟨rfl, rfl, (Nat.le_of_ble_eq_true rfl), (Nat.le_of_ble_eq_true rfl)⟩ dX10_rankOf_101 ?_
        rintro _ _ ⟨rfl, rfl⟩
        show jx_J X 0 0 104 [(0, .ref l0), (1, .int l1), (2, .int l2), (3, .int y40), (4, .int y41), (6, .int x50), (7, .int z51)] [.int x57, .int (x55 * x50)] h52
        by_cases c58 : x57 = 0
        · exact nos (ifp c58 e)
        replace e := ifn c58 e
        refine j_irem C dX10_rankOf_104 c58 ?_
        refine j_istore (lv1 := [(8, .int ((x55 * x50) - (x55 * x50) / x57 * x57)), (0, .ref l0), (1, .int l1), (2, .int l2), (3, .int y40), (4, .int y41), (6, .int x50), (7, .int z51)]) C hL dX10_rankOf_105 (Nat.le_of_ble_eq_true rfl) rfl ?_
        refine j_iload C dX10_rankOf_107 rfl ?_
        refine j_istore (lv1 := [(9, .int y41), (8, .int ((x55 * x50) - (x55 * x50) / x57 * x57)), (0, .ref l0), (1, .int l1), (2, .int l2), (3, .int y40), (4, .int y41), (6, .int x50), (7, .int z51)]) C hL dX10_rankOf_109 (Nat.le_of_ble_eq_true rfl) rfl ?_
        refine jx_sub (lv' := [(0, .ref l0), (1, .int l1), (2, .int l2), (3, .int y40), (4, .int y41), (6, .int x50), (7, .int z51), (8, .int ((x55 * x50) - (x55 * x50) / x57 * x57)), (9, .int y41)]) [2, 3, 4, 5, 6, 7, 8, 1, 0] rfl ?_
        refine itr_ind (s0 := (y41, h52)) (fun s : Int32 × jx_H => jx_J X 0 0 111 [(0, .ref l0), (1, .int l1), (2, .int l2), (3, .int y40), (4, .int y41), (6, .int x50), (7, .int z51), (8, .int ((x55 * x50) - (x55 * x50) / x57 * x57)), (9, .int s.1)] [] s.2) e ?_
        clear e
        intro s kI9 kT9 e0
        obtain ⟨z59, h60⟩ := s
        obtain ⟨u9, e0_9⟩ := e0
        have e : LX10_rankOf_111 l0 l1 l2 y40 y41 x50 z51 ((x55 * x50) - (x55 * x50) / x57 * x57) z59 h60 = some u9 := e0_9
        unfold LX10_rankOf_111 at e
        refine j_iload C dX10_rankOf_111 rfl ?_
        refine j_iload_n C dX10_rankOf_113 rfl rfl ?_
        refine j_icmp_ge (tgt := 166) C dX10_rankOf_114 (by decide) (fun c72 => ?_) (fun c72 => ?_)
        · replace e := ifp c72 e
          obtain ⟨t_10, e_10, eu_10⟩ := exL_spec e
          obtain rfl := kT9 t_10 (e0_9.trans (congrArg some eu_10))
          replace e := e_10
          refine j_iinc (v := (z51 + (1 : Int32))) (lv1 := [(7, .int (z51 + (1 : Int32))), (0, .ref l0), (1, .int l1), (2, .int l2), (3, .int y40), (4, .int y41), (6, .int x50), (8, .int ((x55 * x50) - (x55 * x50) / x57 * x57)), (9, .int z59)]) C hL dX10_rankOf_166 rfl rfl (Nat.le_of_ble_eq_true rfl) rfl ?_
          refine j_goto (tgt := 79) C dX10_rankOf_169 (by decide) ?_
          obtain rfl := Option.some.inj e
          refine jx_sub (lv' := [(0, .ref l0), (1, .int l1), (2, .int l2), (3, .int y40), (4, .int y41), (6, .int x50), (7, .int (z51 + (1 : Int32)))]) [1, 2, 3, 4, 5, 6, 0] rfl ?_
          exact kI7 ((z51 + (1 : Int32)), h60) e0_7
        · replace e := ifn c72 e
          refine j_aload_n C dX10_rankOf_117 rfl rfl ?_
          replace e := ob e
          obtain ⟨x61, ex61, e⟩ := e
          refine j_getr (ci := 10) (RC := RX10) (T := TX10) (N := 38) 25 C rfl klX10 (Nat.le_of_ble_eq_true rfl) kX10_58 rfl dX10_rankOf_118 ex61 ?_
          refine j_iload C dX10_rankOf_121 rfl ?_
          refine j_iload C dX10_rankOf_123 rfl ?_
          replace e := ob e
          obtain ⟨x62, ex62, e⟩ := e
          refine j_callS (As := [.int z51, .int z59]) (na := 2) (st := [.ref x61]) (k1 := 0) (n1 := 0) C hr (sX10_cell ex62) kX10_254 kst_X10_cell kini_X10 kc_X10_cell (by decide) rfl ⟨(Nat.le_of_ble_eq_true rfl), (Nat.le_of_ble_eq_true rfl)⟩ (Nat.le_of_ble_eq_true rfl) ⟨rfl, rfl, (Nat.le_of_ble_eq_true rfl), (Nat.le_of_ble_eq_true rfl)⟩ dX10_rankOf_125 ?_
          rintro _ _ ⟨rfl, rfl⟩
          show jx_J X 0 0 128 [(0, .ref l0), (1, .int l1), (2, .int l2), (3, .int y40), (4, .int y41), (6, .int x50), (7, .int z51), (8, .int ((x55 * x50) - (x55 * x50) / x57 * x57)), (9, .int z59)] [.int x62, .ref x61] h60
          refine j_aload_n C dX10_rankOf_128 rfl rfl ?_
          refine j_aload_n C dX10_rankOf_129 rfl rfl ?_
          replace e := ob e
          obtain ⟨x63, ex63, e⟩ := e
          refine j_getr (ci := 10) (RC := RX10) (T := TX10) (N := 38) 25 C rfl klX10 (Nat.le_of_ble_eq_true rfl) kX10_58 rfl dX10_rankOf_130 ex63 ?_
          refine j_iload C dX10_rankOf_133 rfl ?_
          refine j_iload C dX10_rankOf_135 rfl ?_
          replace e := ob e
          obtain ⟨x64, ex64, e⟩ := e
          refine j_callS (As := [.int z51, .int z59]) (na := 2) (st := [.ref x63, .ref l0, .int x62, .ref x61]) (k1 := 0) (n1 := 0) C hr (sX10_cell ex64) kX10_254 kst_X10_cell kini_X10 kc_X10_cell (by decide) rfl ⟨(Nat.le_of_ble_eq_true rfl), (Nat.le_of_ble_eq_true rfl)⟩ (Nat.le_of_ble_eq_true rfl) ⟨rfl, rfl, (Nat.le_of_ble_eq_true rfl), (Nat.le_of_ble_eq_true rfl)⟩ dX10_rankOf_137 ?_
          rintro _ _ ⟨rfl, rfl⟩
          show jx_J X 0 0 140 [(0, .ref l0), (1, .int l1), (2, .int l2), (3, .int y40), (4, .int y41), (6, .int x50), (7, .int z51), (8, .int ((x55 * x50) - (x55 * x50) / x57 * x57)), (9, .int z59)] [.int x64, .ref x63, .ref l0, .int x62, .ref x61] h60
          replace e := ob e
          obtain ⟨x65, ex65, e⟩ := e
          refine j_iald C dX10_rankOf_140 ex65 ?_
          refine j_iload C dX10_rankOf_141 rfl ?_
          refine j_aload_n C dX10_rankOf_143 rfl rfl ?_
          replace e := ob e
          obtain ⟨x66, ex66, e⟩ := e
          refine j_getr (ci := 10) (RC := RX10) (T := TX10) (N := 38) 25 C rfl klX10 (Nat.le_of_ble_eq_true rfl) kX10_58 rfl dX10_rankOf_144 ex66 ?_
          refine j_iload_n C dX10_rankOf_147 rfl rfl ?_
          refine j_iload C dX10_rankOf_148 rfl ?_
          replace e := ob e
          obtain ⟨x67, ex67, e⟩ := e
          refine j_callS (As := [.int y40, .int z59]) (na := 2) (st := [.ref x66, .int ((x55 * x50) - (x55 * x50) / x57 * x57), .int x65, .ref l0, .int x62, .ref x61]) (k1 := 0) (n1 := 0) C hr (sX10_cell ex67) kX10_254 kst_X10_cell kini_X10 kc_X10_cell (by decide) rfl ⟨(Nat.le_of_ble_eq_true rfl), (Nat.le_of_ble_eq_true rfl)⟩ (Nat.le_of_ble_eq_true rfl) ⟨rfl, rfl, (Nat.le_of_ble_eq_true rfl), (Nat.le_of_ble_eq_true rfl)⟩ dX10_rankOf_150 ?_
          rintro _ _ ⟨rfl, rfl⟩
          show jx_J X 0 0 153 [(0, .ref l0), (1, .int l1), (2, .int l2), (3, .int y40), (4, .int y41), (6, .int x50), (7, .int z51), (8, .int ((x55 * x50) - (x55 * x50) / x57 * x57)), (9, .int z59)] [.int x67, .ref x66, .int ((x55 * x50) - (x55 * x50) / x57 * x57), .int x65, .ref l0, .int x62, .ref x61] h60
          replace e := ob e
          obtain ⟨x68, ex68, e⟩ := e
          refine j_iald C dX10_rankOf_153 ex68 ?_
          refine j_imul C dX10_rankOf_154 ?_
          refine j_isub C dX10_rankOf_155 ?_
          replace e := ob e
          obtain ⟨_, eo69, e⟩ := e
          replace e := ob e
          obtain ⟨x70, ex70, e⟩ := e
          refine j_callV (ci := 10) (RC := RX10) (T := TX10) (N := 38) (As := [.int (x65 - (((x55 * x50) - (x55 * x50) / x57 * x57) * x68))]) (b := l0) (na := 1) (st := [.int x62, .ref x61]) (k1 := 0) (n1 := 0) C hr (sX10_mod ex70) rfl eo69 kX10_205 kim_X10_mod ksel_X10_mod kini_X10 kc_X10_mod (by decide) rfl ⟨(Nat.le_of_ble_eq_true rfl), (Nat.le_of_ble_eq_true rfl)⟩ (Nat.le_of_ble_eq_true rfl) ⟨rfl, rfl, (Nat.le_of_ble_eq_true rfl), (Nat.le_of_ble_eq_true rfl)⟩ dX10_rankOf_156 ?_
          rintro _ _ ⟨rfl, rfl⟩
          show jx_J X 0 0 159 [(0, .ref l0), (1, .int l1), (2, .int l2), (3, .int y40), (4, .int y41), (6, .int x50), (7, .int z51), (8, .int ((x55 * x50) - (x55 * x50) / x57 * x57)), (9, .int z59)] [.int x70, .int x62, .ref x61] h60
          replace e := ob e
          obtain ⟨h71, eh71, e⟩ := e
          refine j_iast C dX10_rankOf_159 eh71 ?_
          refine j_iinc (v := (z59 + (1 : Int32))) (lv1 := [(9, .int (z59 + (1 : Int32))), (0, .ref l0), (1, .int l1), (2, .int l2), (3, .int y40), (4, .int y41), (6, .int x50), (7, .int z51), (8, .int ((x55 * x50) - (x55 * x50) / x57 * x57))]) C hL dX10_rankOf_160 rfl rfl (Nat.le_of_ble_eq_true rfl) rfl ?_
          refine j_goto (tgt := 111) C dX10_rankOf_163 (by decide) ?_
          obtain rfl := Option.some.inj e
          refine jx_sub (lv' := [(0, .ref l0), (1, .int l1), (2, .int l2), (3, .int y40), (4, .int y41), (6, .int x50), (7, .int z51), (8, .int ((x55 * x50) - (x55 * x50) / x57 * x57)), (9, .int (z59 + (1 : Int32)))]) [1, 2, 3, 4, 5, 6, 7, 8, 0] rfl ?_
          exact kI9 ((z59 + (1 : Int32)), h71) e0_9
    · replace e := ifp c74 e
      refine j_goto (tgt := 175) C dX10_rankOf_47 (by decide) ?_
      refine jx_sub (lv' := [(0, .ref l0), (1, .int l1), (2, .int l2), (3, .int y40), (4, .int y41)]) [0, 1, 2, 3, 4] rfl ?_
      exact b175 y40 y41 h43 e
  unfold LX10_rankOf_5 at e
  refine j_iload C dX10_rankOf_5 rfl ?_
  refine j_iload_n C dX10_rankOf_7 rfl rfl ?_
  refine j_icmp_ge (tgt := 181) C dX10_rankOf_8 (by decide) (fun c81 => ?_) (fun c81 => ?_)
  · replace e := ifp c81 e
    obtain ⟨t_11, e_11, eu_11⟩ := exL_spec e
    obtain rfl := kT6 t_11 (e0_6.trans (congrArg some eu_11))
    replace e := e_11
    refine j_iload_n C dX10_rankOf_181 rfl rfl ?_
    cases e
    exact j_iret C hq rfl dX10_rankOf_182 ⟨Nat.le_of_ble_eq_true rfl, Nat.le_of_ble_eq_true rfl⟩ ⟨rfl, rfl⟩
  · replace e := ifn c81 e
    refine j_iload_n C dX10_rankOf_11 rfl rfl ?_
    refine j_istore (lv1 := [(5, .int z34), (0, .ref l0), (1, .int l1), (2, .int l2), (3, .int z34), (4, .int z35)]) C hL dX10_rankOf_12 (Nat.le_of_ble_eq_true rfl) rfl ?_
    refine jx_sub (lv' := [(0, .ref l0), (1, .int l1), (2, .int l2), (3, .int z34), (4, .int z35), (5, .int z34)]) [1, 2, 3, 4, 5, 0] rfl ?_
    refine itr_ind (s0 := z34) (fun s : Int32 => jx_J X 0 0 14 [(0, .ref l0), (1, .int l1), (2, .int l2), (3, .int z34), (4, .int z35), (5, .int s)] [] h36) e ?_
    clear e
    intro s kI12 kT12 e0
    obtain ⟨z75, es⟩ : ∃ z, z = s := ⟨_, rfl⟩
    subst es
    obtain ⟨u12, e0_12⟩ := e0
    have e : LX10_rankOf_14 l0 l1 l2 z34 z35 z75 h36 = some u12 := e0_12
    unfold LX10_rankOf_14 at e
    refine j_iload C dX10_rankOf_14 rfl ?_
    refine j_iload_n C dX10_rankOf_16 rfl rfl ?_
    refine j_icmp_ge (tgt := 41) C dX10_rankOf_17 (by decide) (fun c80 => ?_) (fun c80 => ?_)
    · replace e := ifp c80 e
      obtain ⟨t_13, e_13, eu_13⟩ := exL_spec e
      obtain rfl := kT12 t_13 (e0_12.trans (congrArg some eu_13))
      replace e := e_13
      exact b41 z34 z35 z75 h36 e
    · replace e := ifn c80 e
      refine j_aload_n C dX10_rankOf_20 rfl rfl ?_
      replace e := ob e
      obtain ⟨x76, ex76, e⟩ := e
      refine j_getr (ci := 10) (RC := RX10) (T := TX10) (N := 38) 25 C rfl klX10 (Nat.le_of_ble_eq_true rfl) kX10_58 rfl dX10_rankOf_21 ex76 ?_
      refine j_iload C dX10_rankOf_24 rfl ?_
      refine j_iload C dX10_rankOf_26 rfl ?_
      replace e := ob e
      obtain ⟨x77, ex77, e⟩ := e
      refine j_callS (As := [.int z75, .int z35]) (na := 2) (st := [.ref x76]) (k1 := 0) (n1 := 0) C hr (sX10_cell ex77) kX10_254 kst_X10_cell kini_X10 kc_X10_cell (by decide) rfl ⟨(Nat.le_of_ble_eq_true rfl), (Nat.le_of_ble_eq_true rfl)⟩ (Nat.le_of_ble_eq_true rfl) ⟨rfl, rfl, (Nat.le_of_ble_eq_true rfl), (Nat.le_of_ble_eq_true rfl)⟩ dX10_rankOf_28 ?_
      rintro _ _ ⟨rfl, rfl⟩
      show jx_J X 0 0 31 [(0, .ref l0), (1, .int l1), (2, .int l2), (3, .int z34), (4, .int z35), (5, .int z75)] [.int x77, .ref x76] h36
      replace e := ob e
      obtain ⟨x78, ex78, e⟩ := e
      refine j_iald C dX10_rankOf_31 ex78 ?_
      refine j_if_ne (tgt := 41) C dX10_rankOf_32 (by decide) (fun c79 => ?_) (fun c79 => ?_)
      · replace e := ifn c79 e
        obtain ⟨t_14, e_14, eu_14⟩ := exL_spec e
        obtain rfl := kT12 t_14 (e0_12.trans (congrArg some eu_14))
        replace e := e_14
        exact b41 z34 z35 z75 h36 e
      · replace e := ifp c79 e
        refine j_iinc (v := (z75 + (1 : Int32))) (lv1 := [(5, .int (z75 + (1 : Int32))), (0, .ref l0), (1, .int l1), (2, .int l2), (3, .int z34), (4, .int z35)]) C hL dX10_rankOf_35 rfl rfl (Nat.le_of_ble_eq_true rfl) rfl ?_
        refine j_goto (tgt := 14) C dX10_rankOf_38 (by decide) ?_
        obtain rfl := Option.some.inj e
        refine jx_sub (lv' := [(0, .ref l0), (1, .int l1), (2, .int l2), (3, .int z34), (4, .int z35), (5, .int (z75 + (1 : Int32)))]) [1, 2, 3, 4, 5, 0] rfl ?_
        exact kI12 (z75 + (1 : Int32)) e0_12
/-! BorderBasisModel.isFresh(II)Z -/
noncomputable def BX10_isFresh_84 (l0 : Nat) (l1 : Int32) (l2 : Int32) (l3 : Int32) (l4 : Int32) (l5 : Int32) (s0 : Nat) (s1 : Int32) (s2 : Int32) (h : jx_H) : Option ((Int32 × jx_H) ⊕ ((Int32 × jx_H) ⊕ (Int32 × jx_H))) :=
(has h .int s0 s1 s2).bind fun h13 =>
some (.inl ((l5 + (1 : Int32)), h13))
noncomputable def LX10_isFresh_22 (l0 : Nat) (l1 : Int32) (l2 : Int32) (l3 : Int32) (l4 : Int32) (l5 : Int32) (h : jx_H) : Option ((Int32 × jx_H) ⊕ ((Int32 × jx_H) ⊕ (Int32 × jx_H))) :=
if l3 ≤ l5 then
 exL (some (.inl ((l4 + (1 : Int32)), h)))
else
 (hgr h l0 10 25).bind fun x14 =>
 (FX10_cell l4 l5 h).bind fun x15 =>
 (isO h l0 10).bind fun _ =>
 (FX10_n l0 h).bind fun x17 =>
 if x17 ≤ l4 then
  (isO h l0 10).bind fun _ =>
  bind2 (FX10_valueAt l0 l1 l2 l5 h) fun x19 h20 =>
  BX10_isFresh_84 l0 l1 l2 l3 l4 l5 x14 x15 x19 h20
 else
  (hgr h l0 10 1).bind fun x21 =>
  (hal h .int x21 ((4 : Int32) + l4)).bind fun x22 =>
  (hgr h l0 10 1).bind fun x23 =>
  (hal h .int x23 ((16 : Int32) + l4)).bind fun x24 =>
  (isO h l0 10).bind fun _ =>
  bind2 (FX10_valueAt l0 x22 x24 l5 h) fun x26 h27 =>
  BX10_isFresh_84 l0 l1 l2 l3 l4 l5 x14 x15 x26 h27
noncomputable def LX10_isFresh_10 (l0 : Nat) (l1 : Int32) (l2 : Int32) (l3 : Int32) (l4 : Int32) (h : jx_H) : Option ((Int32 × jx_H) ⊕ (Int32 × jx_H)) :=
(isO h l0 10).bind fun _ =>
(FX10_n l0 h).bind fun x4 =>
if x4 < l4 then
 exL ((isO h l0 10).bind fun _ =>
 (FX10_n l0 h).bind fun x6 =>
 (isO h l0 10).bind fun _ =>
 bind2 (FX10_rankOf l0 (x6 + (1 : Int32)) l3 h) fun x8 h9 =>
 (isO h9 l0 10).bind fun _ =>
 (FX10_n l0 h9).bind fun x11 =>
 if x8 = (x11 + (1 : Int32)) then
  some ((1 : Int32), h9)
 else
  some ((0 : Int32), h9))
else
 itr (fun s : Int32 × jx_H => LX10_isFresh_22 l0 l1 l2 l3 l4 s.1 s.2) ((0 : Int32), h)
noncomputable def FX10_isFresh (l0 : Nat) (l1 : Int32) (l2 : Int32) (h : jx_H) : Option (Int32 × jx_H) :=
(hgr h l0 10 1).bind fun x1 =>
(hal h .int x1 (3 : Int32)).bind fun x2 =>
itr (fun s : Int32 × jx_H => LX10_isFresh_10 l0 l1 l2 x2 s.1 s.2) ((0 : Int32), h)
def rmX10_isFresh : Room := { frames := 3, cells := 0, slots := 0, locals := 74 }
set_option maxRecDepth 20000 in
set_option maxHeartbeats 4000000 in
theorem sX10_isFresh {l0 : Nat} {l1 : Int32} {l2 : Int32} {h : jx_H} {r : Int32} {h9 : jx_H} (e : FX10_isFresh l0 l1 l2 h = some (r, h9)) : jx_Ct yX10_isFresh cX10_isFresh 6 (some .boolean) rmX10_isFresh [.ref l0, .int l1, .int l2] h (fun r' h' => some (.int r) = r' ∧ h9 = h') := by
  refine jx_Ct.of (own := RX10) (by decide) rfl (Nat.le_of_ble_eq_true rfl) (fun X C hq hr hL hN => ?_)
  refine jx_sub (lv' := [(0, .ref l0), (1, .int l1), (2, .int l2)]) [0, 1, 2] rfl ?_
  unfold FX10_isFresh at e
  refine j_aload_n C dX10_isFresh_0 rfl rfl ?_
  replace e := ob e
  obtain ⟨x31, ex31, e⟩ := e
  refine j_getr (ci := 10) (RC := RX10) (T := TX10) (N := 38) 1 C rfl klX10 (Nat.le_of_ble_eq_true rfl) kX10_7 rfl dX10_isFresh_1 ex31 ?_
  refine j_iconst (v := (3 : Int32)) C dX10_isFresh_4 (by decide) ?_
  replace e := ob e
  obtain ⟨x32, ex32, e⟩ := e
  refine j_iald C dX10_isFresh_5 ex32 ?_
  refine j_istore_n (lv1 := [(3, .int x32), (0, .ref l0), (1, .int l1), (2, .int l2)]) C hL dX10_isFresh_6 rfl (Nat.le_of_ble_eq_true rfl) rfl ?_
  refine j_iconst (v := (0 : Int32)) C dX10_isFresh_7 (by decide) ?_
  refine j_istore (lv1 := [(4, .int (0 : Int32)), (3, .int x32), (0, .ref l0), (1, .int l1), (2, .int l2)]) C hL dX10_isFresh_8 (Nat.le_of_ble_eq_true rfl) rfl ?_
  refine jx_sub (lv' := [(0, .ref l0), (1, .int l1), (2, .int l2), (3, .int x32), (4, .int (0 : Int32))]) [2, 3, 4, 1, 0] rfl ?_
  refine itr_ind (s0 := ((0 : Int32), h)) (fun s : Int32 × jx_H => jx_J X 0 0 10 [(0, .ref l0), (1, .int l1), (2, .int l2), (3, .int x32), (4, .int s.1)] [] s.2) e ?_
  clear e
  intro s kI3 kT3 e0
  obtain ⟨z33, h34⟩ := s
  obtain ⟨u3, e0_3⟩ := e0
  have e : LX10_isFresh_10 l0 l1 l2 x32 z33 h34 = some u3 := e0_3
  unfold LX10_isFresh_10 at e
  refine j_iload C dX10_isFresh_10 rfl ?_
  refine j_aload_n C dX10_isFresh_12 rfl rfl ?_
  replace e := ob e
  obtain ⟨_, eo35, e⟩ := e
  replace e := ob e
  obtain ⟨x36, ex36, e⟩ := e
  refine j_callV (ci := 10) (RC := RX10) (T := TX10) (N := 38) (As := []) (b := l0) (na := 0) (st := [.int z33]) (k1 := 0) (n1 := 0) C hr (sX10_n ex36) rfl eo35 kX10_105 kim_X10_n ksel_X10_n kini_X10 kc_X10_n (by decide) rfl ⟨(Nat.le_of_ble_eq_true rfl), (Nat.le_of_ble_eq_true rfl)⟩ (Nat.le_of_ble_eq_true rfl) ⟨rfl, rfl, (Nat.le_of_ble_eq_true rfl), (Nat.le_of_ble_eq_true rfl)⟩ dX10_isFresh_13 ?_
  rintro _ _ ⟨rfl, rfl⟩
  show jx_J X 0 0 16 [(0, .ref l0), (1, .int l1), (2, .int l2), (3, .int x32), (4, .int z33)] [.int x36, .int z33] h34
  refine j_icmp_gt (tgt := 97) C dX10_isFresh_16 (by decide) (fun c69 => ?_) (fun c69 => ?_)
  · replace e := ifp c69 e
    obtain ⟨t_4, e_4, eu_4⟩ := exL_spec e
    obtain rfl := kT3 t_4 (e0_3.trans (congrArg some eu_4))
    replace e := e_4
    refine j_aload_n C dX10_isFresh_97 rfl rfl ?_
    refine j_aload_n C dX10_isFresh_98 rfl rfl ?_
    replace e := ob e
    obtain ⟨_, eo37, e⟩ := e
    replace e := ob e
    obtain ⟨x38, ex38, e⟩ := e
    refine j_callV (ci := 10) (RC := RX10) (T := TX10) (N := 38) (As := []) (b := l0) (na := 0) (st := [.ref l0]) (k1 := 0) (n1 := 0) C hr (sX10_n ex38) rfl eo37 kX10_105 kim_X10_n ksel_X10_n kini_X10 kc_X10_n (by decide) rfl ⟨(Nat.le_of_ble_eq_true rfl), (Nat.le_of_ble_eq_true rfl)⟩ (Nat.le_of_ble_eq_true rfl) ⟨rfl, rfl, (Nat.le_of_ble_eq_true rfl), (Nat.le_of_ble_eq_true rfl)⟩ dX10_isFresh_99 ?_
    rintro _ _ ⟨rfl, rfl⟩
    show jx_J X 0 0 102 [(0, .ref l0), (1, .int l1), (2, .int l2), (3, .int x32), (4, .int z33)] [.int x38, .ref l0] h34
    refine j_iconst (v := (1 : Int32)) C dX10_isFresh_102 (by decide) ?_
    refine j_iadd C dX10_isFresh_103 ?_
    refine j_iload_n C dX10_isFresh_104 rfl rfl ?_
    replace e := ob e
    obtain ⟨_, eo39, e⟩ := e
    replace e := ob2 e
    obtain ⟨x40, h41, ex40, e⟩ := e
    refine j_callV (ci := 10) (RC := RX10) (T := TX10) (N := 38) (As := [.int (x38 + (1 : Int32)), .int x32]) (b := l0) (na := 2) (st := []) (k1 := 0) (n1 := 0) C hr (sX10_rankOf ex40) rfl eo39 kX10_386 kim_X10_rankOf ksel_X10_rankOf kini_X10 kc_X10_rankOf (by decide) rfl ⟨(Nat.le_of_ble_eq_true rfl), (Nat.le_of_ble_eq_true rfl)⟩ (Nat.le_of_ble_eq_true rfl) ⟨rfl, rfl, (Nat.le_of_ble_eq_true rfl), (Nat.le_of_ble_eq_true rfl)⟩ dX10_isFresh_105 ?_
    rintro _ _ ⟨rfl, rfl⟩
    show jx_J X 0 0 108 [(0, .ref l0), (1, .int l1), (2, .int l2), (3, .int x32), (4, .int z33)] [.int x40] h41
    refine j_aload_n C dX10_isFresh_108 rfl rfl ?_
    replace e := ob e
    obtain ⟨_, eo42, e⟩ := e
    replace e := ob e
    obtain ⟨x43, ex43, e⟩ := e
    refine j_callV (ci := 10) (RC := RX10) (T := TX10) (N := 38) (As := []) (b := l0) (na := 0) (st := [.int x40]) (k1 := 0) (n1 := 0) C hr (sX10_n ex43) rfl eo42 kX10_105 kim_X10_n ksel_X10_n kini_X10 kc_X10_n (by decide) rfl ⟨(Nat.le_of_ble_eq_true rfl), (Nat.le_of_ble_eq_true rfl)⟩ (Nat.le_of_ble_eq_true rfl) ⟨rfl, rfl, (Nat.le_of_ble_eq_true rfl), (Nat.le_of_ble_eq_true rfl)⟩ dX10_isFresh_109 ?_
    rintro _ _ ⟨rfl, rfl⟩
    show jx_J X 0 0 112 [(0, .ref l0), (1, .int l1), (2, .int l2), (3, .int x32), (4, .int z33)] [.int x43, .int x40] h41
    refine j_iconst (v := (1 : Int32)) C dX10_isFresh_112 (by decide) ?_
    refine j_iadd C dX10_isFresh_113 ?_
    refine j_icmp_ne (tgt := 121) C dX10_isFresh_114 (by decide) (fun c44 => ?_) (fun c44 => ?_)
    · replace e := ifn c44 e
      refine j_iconst (v := (0 : Int32)) C dX10_isFresh_121 (by decide) ?_
      cases e
      exact j_iret C hq rfl dX10_isFresh_122 ⟨Nat.le_of_ble_eq_true rfl, Nat.le_of_ble_eq_true rfl⟩ ⟨rfl, rfl⟩
    · replace e := ifp c44 e
      refine j_iconst (v := (1 : Int32)) C dX10_isFresh_117 (by decide) ?_
      refine j_goto (tgt := 122) C dX10_isFresh_118 (by decide) ?_
      cases e
      exact j_iret C hq rfl dX10_isFresh_122 ⟨Nat.le_of_ble_eq_true rfl, Nat.le_of_ble_eq_true rfl⟩ ⟨rfl, rfl⟩
  · replace e := ifn c69 e
    refine j_iconst (v := (0 : Int32)) C dX10_isFresh_19 (by decide) ?_
    refine j_istore (lv1 := [(5, .int (0 : Int32)), (0, .ref l0), (1, .int l1), (2, .int l2), (3, .int x32), (4, .int z33)]) C hL dX10_isFresh_20 (Nat.le_of_ble_eq_true rfl) rfl ?_
    refine jx_sub (lv' := [(0, .ref l0), (1, .int l1), (2, .int l2), (3, .int x32), (4, .int z33), (5, .int (0 : Int32))]) [1, 2, 3, 4, 5, 0] rfl ?_
    refine itr_ind (s0 := ((0 : Int32), h34)) (fun s : Int32 × jx_H => jx_J X 0 0 22 [(0, .ref l0), (1, .int l1), (2, .int l2), (3, .int x32), (4, .int z33), (5, .int s.1)] [] s.2) e ?_
    clear e
    intro s kI5 kT5 e0
    obtain ⟨z45, h46⟩ := s
    obtain ⟨u5, e0_5⟩ := e0
    have e : LX10_isFresh_22 l0 l1 l2 x32 z33 z45 h46 = some u5 := e0_5
    have b84 : ∀ (y47 : Int32) (y48 : Nat) (y49 : Int32) (y50 : Int32) (h51 : jx_H), BX10_isFresh_84 l0 l1 l2 x32 z33 y47 y48 y49 y50 h51 = some u5 → jx_J X 0 0 84 [(0, .ref l0), (1, .int l1), (2, .int l2), (3, .int x32), (4, .int z33), (5, .int y47)] [.int y50, .int y49, .ref y48] h51 := by
      intro y47 y48 y49 y50 h51 e
      unfold BX10_isFresh_84 at e
      replace e := ob e
      obtain ⟨h52, eh52, e⟩ := e
      refine j_iast C dX10_isFresh_84 eh52 ?_
      refine j_iinc (v := (y47 + (1 : Int32))) (lv1 := [(5, .int (y47 + (1 : Int32))), (0, .ref l0), (1, .int l1), (2, .int l2), (3, .int x32), (4, .int z33)]) C hL dX10_isFresh_85 rfl rfl (Nat.le_of_ble_eq_true rfl) rfl ?_
      refine j_goto (tgt := 22) C dX10_isFresh_88 (by decide) ?_
      obtain rfl := Option.some.inj e
      refine jx_sub (lv' := [(0, .ref l0), (1, .int l1), (2, .int l2), (3, .int x32), (4, .int z33), (5, .int (y47 + (1 : Int32)))]) [1, 2, 3, 4, 5, 0] rfl ?_
      exact kI5 ((y47 + (1 : Int32)), h52) e0_5
    unfold LX10_isFresh_22 at e
    refine j_iload C dX10_isFresh_22 rfl ?_
    refine j_iload_n C dX10_isFresh_24 rfl rfl ?_
    refine j_icmp_ge (tgt := 91) C dX10_isFresh_25 (by decide) (fun c68 => ?_) (fun c68 => ?_)
    · replace e := ifp c68 e
      obtain ⟨t_6, e_6, eu_6⟩ := exL_spec e
      obtain rfl := kT5 t_6 (e0_5.trans (congrArg some eu_6))
      replace e := e_6
      refine j_iinc (v := (z33 + (1 : Int32))) (lv1 := [(4, .int (z33 + (1 : Int32))), (0, .ref l0), (1, .int l1), (2, .int l2), (3, .int x32), (5, .int z45)]) C hL dX10_isFresh_91 rfl rfl (Nat.le_of_ble_eq_true rfl) rfl ?_
      refine j_goto (tgt := 10) C dX10_isFresh_94 (by decide) ?_
      obtain rfl := Option.some.inj e
      refine jx_sub (lv' := [(0, .ref l0), (1, .int l1), (2, .int l2), (3, .int x32), (4, .int (z33 + (1 : Int32)))]) [1, 2, 3, 4, 0] rfl ?_
      exact kI3 ((z33 + (1 : Int32)), h46) e0_3
    · replace e := ifn c68 e
      refine j_aload_n C dX10_isFresh_28 rfl rfl ?_
      replace e := ob e
      obtain ⟨x53, ex53, e⟩ := e
      refine j_getr (ci := 10) (RC := RX10) (T := TX10) (N := 38) 25 C rfl klX10 (Nat.le_of_ble_eq_true rfl) kX10_58 rfl dX10_isFresh_29 ex53 ?_
      refine j_iload C dX10_isFresh_32 rfl ?_
      refine j_iload C dX10_isFresh_34 rfl ?_
      replace e := ob e
      obtain ⟨x54, ex54, e⟩ := e
      refine j_callS (As := [.int z33, .int z45]) (na := 2) (st := [.ref x53]) (k1 := 0) (n1 := 0) C hr (sX10_cell ex54) kX10_254 kst_X10_cell kini_X10 kc_X10_cell (by decide) rfl ⟨(Nat.le_of_ble_eq_true rfl), (Nat.le_of_ble_eq_true rfl)⟩ (Nat.le_of_ble_eq_true rfl) ⟨rfl, rfl, (Nat.le_of_ble_eq_true rfl), (Nat.le_of_ble_eq_true rfl)⟩ dX10_isFresh_36 ?_
      rintro _ _ ⟨rfl, rfl⟩
      show jx_J X 0 0 39 [(0, .ref l0), (1, .int l1), (2, .int l2), (3, .int x32), (4, .int z33), (5, .int z45)] [.int x54, .ref x53] h46
      refine j_iload C dX10_isFresh_39 rfl ?_
      refine j_aload_n C dX10_isFresh_41 rfl rfl ?_
      replace e := ob e
      obtain ⟨_, eo55, e⟩ := e
      replace e := ob e
      obtain ⟨x56, ex56, e⟩ := e
      refine j_callV (ci := 10) (RC := RX10) (T := TX10) (N := 38) (As := []) (b := l0) (na := 0) (st := [.int z33, .int x54, .ref x53]) (k1 := 0) (n1 := 0) C hr (sX10_n ex56) rfl eo55 kX10_105 kim_X10_n ksel_X10_n kini_X10 kc_X10_n (by decide) rfl ⟨(Nat.le_of_ble_eq_true rfl), (Nat.le_of_ble_eq_true rfl)⟩ (Nat.le_of_ble_eq_true rfl) ⟨rfl, rfl, (Nat.le_of_ble_eq_true rfl), (Nat.le_of_ble_eq_true rfl)⟩ dX10_isFresh_42 ?_
      rintro _ _ ⟨rfl, rfl⟩
      show jx_J X 0 0 45 [(0, .ref l0), (1, .int l1), (2, .int l2), (3, .int x32), (4, .int z33), (5, .int z45)] [.int x56, .int z33, .int x54, .ref x53] h46
      refine j_icmp_ge (tgt := 76) C dX10_isFresh_45 (by decide) (fun c67 => ?_) (fun c67 => ?_)
      · replace e := ifp c67 e
        refine j_aload_n C dX10_isFresh_76 rfl rfl ?_
        refine j_iload_n C dX10_isFresh_77 rfl rfl ?_
        refine j_iload_n C dX10_isFresh_78 rfl rfl ?_
        refine j_iload C dX10_isFresh_79 rfl ?_
        replace e := ob e
        obtain ⟨_, eo57, e⟩ := e
        replace e := ob2 e
        obtain ⟨x58, h59, ex58, e⟩ := e
        refine j_callV (ci := 10) (RC := RX10) (T := TX10) (N := 38) (As := [.int l1, .int l2, .int z45]) (b := l0) (na := 3) (st := [.int x54, .ref x53]) (k1 := 0) (n1 := 0) C hr (sX10_valueAt ex58) rfl eo57 kX10_382 kim_X10_valueAt ksel_X10_valueAt kini_X10 kc_X10_valueAt (by decide) rfl ⟨(Nat.le_of_ble_eq_true rfl), (Nat.le_of_ble_eq_true rfl)⟩ (Nat.le_of_ble_eq_true rfl) ⟨rfl, rfl, (Nat.le_of_ble_eq_true rfl), (Nat.le_of_ble_eq_true rfl)⟩ dX10_isFresh_81 ?_
        rintro _ _ ⟨rfl, rfl⟩
        show jx_J X 0 0 84 [(0, .ref l0), (1, .int l1), (2, .int l2), (3, .int x32), (4, .int z33), (5, .int z45)] [.int x58, .int x54, .ref x53] h59
        exact b84 z45 x53 x54 x58 h59 e
      · replace e := ifn c67 e
        refine j_aload_n C dX10_isFresh_48 rfl rfl ?_
        refine j_aload_n C dX10_isFresh_49 rfl rfl ?_
        replace e := ob e
        obtain ⟨x60, ex60, e⟩ := e
        refine j_getr (ci := 10) (RC := RX10) (T := TX10) (N := 38) 1 C rfl klX10 (Nat.le_of_ble_eq_true rfl) kX10_7 rfl dX10_isFresh_50 ex60 ?_
        refine j_iconst (v := (4 : Int32)) C dX10_isFresh_53 (by decide) ?_
        refine j_iload C dX10_isFresh_54 rfl ?_
        refine j_iadd C dX10_isFresh_56 ?_
        replace e := ob e
        obtain ⟨x61, ex61, e⟩ := e
        refine j_iald C dX10_isFresh_57 ex61 ?_
        refine j_aload_n C dX10_isFresh_58 rfl rfl ?_
        replace e := ob e
        obtain ⟨x62, ex62, e⟩ := e
        refine j_getr (ci := 10) (RC := RX10) (T := TX10) (N := 38) 1 C rfl klX10 (Nat.le_of_ble_eq_true rfl) kX10_7 rfl dX10_isFresh_59 ex62 ?_
        refine j_bipush (v := (16 : Int32)) C dX10_isFresh_62 (by decide) ?_
        refine j_iload C dX10_isFresh_64 rfl ?_
        refine j_iadd C dX10_isFresh_66 ?_
        replace e := ob e
        obtain ⟨x63, ex63, e⟩ := e
        refine j_iald C dX10_isFresh_67 ex63 ?_
        refine j_iload C dX10_isFresh_68 rfl ?_
        replace e := ob e
        obtain ⟨_, eo64, e⟩ := e
        replace e := ob2 e
        obtain ⟨x65, h66, ex65, e⟩ := e
        refine j_callV (ci := 10) (RC := RX10) (T := TX10) (N := 38) (As := [.int x61, .int x63, .int z45]) (b := l0) (na := 3) (st := [.int x54, .ref x53]) (k1 := 0) (n1 := 0) C hr (sX10_valueAt ex65) rfl eo64 kX10_382 kim_X10_valueAt ksel_X10_valueAt kini_X10 kc_X10_valueAt (by decide) rfl ⟨(Nat.le_of_ble_eq_true rfl), (Nat.le_of_ble_eq_true rfl)⟩ (Nat.le_of_ble_eq_true rfl) ⟨rfl, rfl, (Nat.le_of_ble_eq_true rfl), (Nat.le_of_ble_eq_true rfl)⟩ dX10_isFresh_70 ?_
        rintro _ _ ⟨rfl, rfl⟩
        show jx_J X 0 0 73 [(0, .ref l0), (1, .int l1), (2, .int l2), (3, .int x32), (4, .int z33), (5, .int z45)] [.int x65, .int x54, .ref x53] h66
        refine j_goto (tgt := 84) C dX10_isFresh_73 (by decide) ?_
        exact b84 z45 x53 x54 x65 h66 e
/-! BorderBasisModel.solves(I)V -/
noncomputable def LX10_solves_345 (l0 : Nat) (l1 : Int32) (l2 : Int32) (l3 : Int32) (h : jx_H) : Option ((Int32 × jx_H) ⊕ (jx_H)) :=
if l2 ≤ l3 then
 exL (some h)
else
 (hgr h l0 10 1).bind fun x3 =>
 (FX10_ruleAt l1 l3 h).bind fun x4 =>
 (hgr h l0 10 37).bind fun x5 =>
 (hal h .int x5 (((13 : Int32) * l3) + (12 : Int32))).bind fun x6 =>
 (has h .int x3 x4 x6).bind fun h7 =>
 some (.inl ((l3 + (1 : Int32)), h7))
noncomputable def BX10_solves_331 (l0 : Nat) (l1 : Int32) (l2 : Int32) (l3 : Int32) (l6 : Int32) (h : jx_H) : Option ((Int32 × jx_H) ⊕ ((Int32 × jx_H) ⊕ (jx_H))) :=
some (.inl ((l6 + (1 : Int32)), h))
noncomputable def LX10_solves_267 (l0 : Nat) (l1 : Int32) (l2 : Int32) (l3 : Int32) (l6 : Int32) (l7 : Int32) (l8 : Int32) (h : jx_H) : Option ((Int32 × jx_H) ⊕ ((Int32 × jx_H) ⊕ ((Int32 × jx_H) ⊕ (jx_H)))) :=
if (13 : Int32) ≤ l8 then
 exL (BX10_solves_331 l0 l1 l2 l3 l6 h)
else
 if l7 ≤ 0 then
  exL (BX10_solves_331 l0 l1 l2 l3 l6 h)
 else
  (hgr h l0 10 37).bind fun x15 =>
  (hgr h l0 10 37).bind fun x16 =>
  (hal h .int x16 (((13 : Int32) * l6) + l8)).bind fun x17 =>
  (hgr h l0 10 37).bind fun x18 =>
  (hal h .int x18 (((13 : Int32) * l3) + l8)).bind fun x19 =>
  (isO h l0 10).bind fun _ =>
  (FX10_mod l0 (x17 - (l7 * x19)) h).bind fun x21 =>
  (has h .int x15 (((13 : Int32) * l6) + l8) x21).bind fun h22 =>
  some (.inl ((l8 + (1 : Int32)), h22))
noncomputable def BX10_solves_262 (l0 : Nat) (l1 : Int32) (l2 : Int32) (l3 : Int32) (l6 : Int32) (s0 : Int32) (h : jx_H) : Option ((Int32 × jx_H) ⊕ ((Int32 × jx_H) ⊕ (jx_H))) :=
itr (fun s : Int32 × jx_H => LX10_solves_267 l0 l1 l2 l3 l6 s0 s.1 s.2) ((0 : Int32), h)
noncomputable def LX10_solves_234 (l0 : Nat) (l1 : Int32) (l2 : Int32) (l3 : Int32) (l6 : Int32) (h : jx_H) : Option ((Int32 × jx_H) ⊕ ((Int32 × jx_H) ⊕ (jx_H))) :=
if l2 ≤ l6 then
 exL (some (.inl ((l3 + (1 : Int32)), h)))
else
 if l6 = l3 then
  BX10_solves_262 l0 l1 l2 l3 l6 (0 : Int32) h
 else
  (hgr h l0 10 37).bind fun x25 =>
  (hal h .int x25 (((13 : Int32) * l6) + l3)).bind fun x26 =>
  BX10_solves_262 l0 l1 l2 l3 l6 x26 h
noncomputable def LX10_solves_156 (l0 : Nat) (l1 : Int32) (l2 : Int32) (l3 : Int32) (l4 : Int32) (l5 : Int32) (l6 : Int32) (h : jx_H) : Option ((Int32 × jx_H) ⊕ ((Int32 × jx_H) ⊕ (jx_H))) :=
if (13 : Int32) ≤ l6 then
 exL (itr (fun s : Int32 × jx_H => LX10_solves_234 l0 l1 l2 l3 s.1 s.2) ((0 : Int32), h))
else
 (hgr h l0 10 37).bind fun x29 =>
 (hal h .int x29 (((13 : Int32) * l4) + l6)).bind fun x30 =>
 (isO h l0 10).bind fun _ =>
 (FX10_p l0 h).bind fun x32 =>
 if x32 = 0 then none else
 (hgr h l0 10 37).bind fun x34 =>
 (hgr h l0 10 37).bind fun x35 =>
 (hal h .int x35 (((13 : Int32) * l3) + l6)).bind fun x36 =>
 (has h .int x34 (((13 : Int32) * l4) + l6) x36).bind fun h37 =>
 (hgr h37 l0 10 37).bind fun x38 =>
 (has h37 .int x38 (((13 : Int32) * l3) + l6) ((x30 * l5) - (x30 * l5) / x32 * x32)).bind fun h39 =>
 some (.inl ((l6 + (1 : Int32)), h39))
noncomputable def LX10_solves_114 (l0 : Nat) (l1 : Int32) (l2 : Int32) (l3 : Int32) (l4 : Int32) (h : jx_H) : Option ((Int32) ⊕ ((Int32 × jx_H) ⊕ (jx_H))) :=
(hgr h l0 10 37).bind fun x9 =>
(hal h .int x9 (((13 : Int32) * l4) + l3)).bind fun x10 =>
if x10 = 0 then
 some (.inl (l4 + (1 : Int32)))
else
 exL ((hgr h l0 10 37).bind fun x11 =>
 (hal h .int x11 (((13 : Int32) * l4) + l3)).bind fun x12 =>
 (isO h l0 10).bind fun _ =>
 (FX10_inverse l0 x12 h).bind fun x14 =>
 itr (fun s : Int32 × jx_H => LX10_solves_156 l0 l1 l2 l3 l4 x14 s.1 s.2) ((0 : Int32), h))
noncomputable def LX10_solves_106 (l0 : Nat) (l1 : Int32) (l2 : Int32) (l3 : Int32) (h : jx_H) : Option ((Int32 × jx_H) ⊕ (jx_H)) :=
if l2 ≤ l3 then
 exL (itr (fun s : Int32 × jx_H => LX10_solves_345 l0 l1 l2 s.1 s.2) ((0 : Int32), h))
else
 itr (fun s : Int32 => LX10_solves_114 l0 l1 l2 l3 s h) l3
noncomputable def LX10_solves_15 (l0 : Nat) (l1 : Int32) (l2 : Int32) (l3 : Int32) (l4 : Int32) (h : jx_H) : Option ((Int32 × jx_H) ⊕ ((Int32 × jx_H) ⊕ (jx_H))) :=
if l2 ≤ l4 then
 exL ((hgr h l0 10 37).bind fun x43 =>
 (hgr h l0 10 1).bind fun x44 =>
 (hal h .int x44 ((28 : Int32) + l1)).bind fun x45 =>
 (hgr h l0 10 1).bind fun x46 =>
 (hal h .int x46 ((42 : Int32) + l1)).bind fun x47 =>
 (isO h l0 10).bind fun _ =>
 bind2 (FX10_valueAt l0 x45 x47 l3 h) fun x49 h50 =>
 (has h50 .int x43 (((13 : Int32) * l3) + (12 : Int32)) x49).bind fun h51 =>
 some (.inl ((l3 + (1 : Int32)), h51)))
else
 (hgr h l0 10 37).bind fun x52 =>
 (hgr h l0 10 1).bind fun x53 =>
 (hal h .int x53 ((4 : Int32) + l4)).bind fun x54 =>
 (hgr h l0 10 1).bind fun x55 =>
 (hal h .int x55 ((16 : Int32) + l4)).bind fun x56 =>
 (isO h l0 10).bind fun _ =>
 bind2 (FX10_valueAt l0 x54 x56 l3 h) fun x58 h59 =>
 (has h59 .int x52 (((13 : Int32) * l3) + l4) x58).bind fun h60 =>
 some (.inl ((l4 + (1 : Int32)), h60))
noncomputable def LX10_solves_7 (l0 : Nat) (l1 : Int32) (l2 : Int32) (l3 : Int32) (h : jx_H) : Option ((Int32 × jx_H) ⊕ (jx_H)) :=
if l2 ≤ l3 then
 exL (itr (fun s : Int32 × jx_H => LX10_solves_106 l0 l1 l2 s.1 s.2) ((0 : Int32), h))
else
 itr (fun s : Int32 × jx_H => LX10_solves_15 l0 l1 l2 l3 s.1 s.2) ((0 : Int32), h)
noncomputable def FX10_solves (l0 : Nat) (l1 : Int32) (h : jx_H) : Option (jx_H) :=
(isO h l0 10).bind fun _ =>
(FX10_n l0 h).bind fun x2 =>
itr (fun s : Int32 × jx_H => LX10_solves_7 l0 l1 x2 s.1 s.2) ((0 : Int32), h)
def rmX10_solves : Room := { frames := 3, cells := 0, slots := 0, locals := 66 }
set_option maxRecDepth 20000 in
set_option maxHeartbeats 4000000 in
theorem sX10_solves {l0 : Nat} {l1 : Int32} {h : jx_H} {h9 : jx_H} (e : FX10_solves l0 l1 h = some h9) : jx_Ct yX10_solves cX10_solves 9 none rmX10_solves [.ref l0, .int l1] h (fun r' h' => none = r' ∧ h9 = h') := by
  refine jx_Ct.of (own := RX10) (by decide) rfl (Nat.le_of_ble_eq_true rfl) (fun X C hq hr hL hN => ?_)
  refine jx_sub (lv' := [(0, .ref l0), (1, .int l1)]) [0, 1] rfl ?_
  unfold FX10_solves at e
  refine j_aload_n C dX10_solves_0 rfl rfl ?_
  replace e := ob e
  obtain ⟨_, eo63, e⟩ := e
  replace e := ob e
  obtain ⟨x64, ex64, e⟩ := e
  refine j_callV (ci := 10) (RC := RX10) (T := TX10) (N := 38) (As := []) (b := l0) (na := 0) (st := []) (k1 := 0) (n1 := 0) C hr (sX10_n ex64) rfl eo63 kX10_105 kim_X10_n ksel_X10_n kini_X10 kc_X10_n (by decide) rfl ⟨(Nat.le_of_ble_eq_true rfl), (Nat.le_of_ble_eq_true rfl)⟩ (Nat.le_of_ble_eq_true rfl) ⟨rfl, rfl, (Nat.le_of_ble_eq_true rfl), (Nat.le_of_ble_eq_true rfl)⟩ dX10_solves_1 ?_
  rintro _ _ ⟨rfl, rfl⟩
  show jx_J X 0 0 4 [(0, .ref l0), (1, .int l1)] [.int x64] h
  refine j_istore_n (lv1 := [(2, .int x64), (0, .ref l0), (1, .int l1)]) C hL dX10_solves_4 rfl (Nat.le_of_ble_eq_true rfl) rfl ?_
  refine j_iconst (v := (0 : Int32)) C dX10_solves_5 (by decide) ?_
  refine j_istore_n (lv1 := [(3, .int (0 : Int32)), (2, .int x64), (0, .ref l0), (1, .int l1)]) C hL dX10_solves_6 rfl (Nat.le_of_ble_eq_true rfl) rfl ?_
  refine jx_sub (lv' := [(0, .ref l0), (1, .int l1), (2, .int x64), (3, .int (0 : Int32))]) [2, 3, 1, 0] rfl ?_
  refine itr_ind (s0 := ((0 : Int32), h)) (fun s : Int32 × jx_H => jx_J X 0 0 7 [(0, .ref l0), (1, .int l1), (2, .int x64), (3, .int s.1)] [] s.2) e ?_
  clear e
  intro s kI10 kT10 e0
  obtain ⟨z65, h66⟩ := s
  obtain ⟨u10, e0_10⟩ := e0
  have e : LX10_solves_7 l0 l1 x64 z65 h66 = some u10 := e0_10
  unfold LX10_solves_7 at e
  refine j_iload_n C dX10_solves_7 rfl rfl ?_
  refine j_iload_n C dX10_solves_8 rfl rfl ?_
  refine j_icmp_ge (tgt := 104) C dX10_solves_9 (by decide) (fun c144 => ?_) (fun c144 => ?_)
  · replace e := ifp c144 e
    obtain ⟨t_24, e_24, eu_24⟩ := exL_spec e
    obtain rfl := kT10 t_24 (e0_10.trans (congrArg some eu_24))
    replace e := e_24
    refine j_iconst (v := (0 : Int32)) C dX10_solves_104 (by decide) ?_
    refine j_istore_n (lv1 := [(3, .int (0 : Int32)), (0, .ref l0), (1, .int l1), (2, .int x64)]) C hL dX10_solves_105 rfl (Nat.le_of_ble_eq_true rfl) rfl ?_
    refine jx_sub (lv' := [(0, .ref l0), (1, .int l1), (2, .int x64), (3, .int (0 : Int32))]) [1, 2, 3, 0] rfl ?_
    refine itr_ind (s0 := ((0 : Int32), h66)) (fun s : Int32 × jx_H => jx_J X 0 0 106 [(0, .ref l0), (1, .int l1), (2, .int x64), (3, .int s.1)] [] s.2) e ?_
    clear e
    intro s kI11 kT11 e0
    obtain ⟨z67, h68⟩ := s
    obtain ⟨u11, e0_11⟩ := e0
    have e : LX10_solves_106 l0 l1 x64 z67 h68 = some u11 := e0_11
    unfold LX10_solves_106 at e
    refine j_iload_n C dX10_solves_106 rfl rfl ?_
    refine j_iload_n C dX10_solves_107 rfl rfl ?_
    refine j_icmp_ge (tgt := 343) C dX10_solves_108 (by decide) (fun c122 => ?_) (fun c122 => ?_)
    · replace e := ifp c122 e
      obtain ⟨t_14, e_14, eu_14⟩ := exL_spec e
      obtain rfl := kT11 t_14 (e0_11.trans (congrArg some eu_14))
      replace e := e_14
      refine j_iconst (v := (0 : Int32)) C dX10_solves_343 (by decide) ?_
      refine j_istore_n (lv1 := [(3, .int (0 : Int32)), (0, .ref l0), (1, .int l1), (2, .int x64)]) C hL dX10_solves_344 rfl (Nat.le_of_ble_eq_true rfl) rfl ?_
      refine jx_sub (lv' := [(0, .ref l0), (1, .int l1), (2, .int x64), (3, .int (0 : Int32))]) [1, 2, 3, 0] rfl ?_
      refine itr_ind (s0 := ((0 : Int32), h68)) (fun s : Int32 × jx_H => jx_J X 0 0 345 [(0, .ref l0), (1, .int l1), (2, .int x64), (3, .int s.1)] [] s.2) e ?_
      clear e
      intro s kI12 kT12 e0
      obtain ⟨z69, h70⟩ := s
      obtain ⟨u12, e0_12⟩ := e0
      have e : LX10_solves_345 l0 l1 x64 z69 h70 = some u12 := e0_12
      unfold LX10_solves_345 at e
      refine j_iload_n C dX10_solves_345 rfl rfl ?_
      refine j_iload_n C dX10_solves_346 rfl rfl ?_
      refine j_icmp_ge (tgt := 378) C dX10_solves_347 (by decide) (fun c76 => ?_) (fun c76 => ?_)
      · replace e := ifp c76 e
        obtain ⟨t_13, e_13, eu_13⟩ := exL_spec e
        obtain rfl := kT12 t_13 (e0_12.trans (congrArg some eu_13))
        replace e := e_13
        cases e
        exact j_vret C hq dX10_solves_378 ⟨Nat.le_of_ble_eq_true rfl, Nat.le_of_ble_eq_true rfl⟩ ⟨rfl, rfl⟩
      · replace e := ifn c76 e
        refine j_aload_n C dX10_solves_350 rfl rfl ?_
        replace e := ob e
        obtain ⟨x71, ex71, e⟩ := e
        refine j_getr (ci := 10) (RC := RX10) (T := TX10) (N := 38) 1 C rfl klX10 (Nat.le_of_ble_eq_true rfl) kX10_7 rfl dX10_solves_351 ex71 ?_
        refine j_iload_n C dX10_solves_354 rfl rfl ?_
        refine j_iload_n C dX10_solves_355 rfl rfl ?_
        replace e := ob e
        obtain ⟨x72, ex72, e⟩ := e
        refine j_callS (As := [.int l1, .int z69]) (na := 2) (st := [.ref x71]) (k1 := 0) (n1 := 0) C hr (sX10_ruleAt ex72) kX10_130 kst_X10_ruleAt kini_X10 kc_X10_ruleAt (by decide) rfl ⟨(Nat.le_of_ble_eq_true rfl), (Nat.le_of_ble_eq_true rfl)⟩ (Nat.le_of_ble_eq_true rfl) ⟨rfl, rfl, (Nat.le_of_ble_eq_true rfl), (Nat.le_of_ble_eq_true rfl)⟩ dX10_solves_356 ?_
        rintro _ _ ⟨rfl, rfl⟩
        show jx_J X 0 0 359 [(0, .ref l0), (1, .int l1), (2, .int x64), (3, .int z69)] [.int x72, .ref x71] h70
        refine j_aload_n C dX10_solves_359 rfl rfl ?_
        replace e := ob e
        obtain ⟨x73, ex73, e⟩ := e
        refine j_getr (ci := 10) (RC := RX10) (T := TX10) (N := 38) 37 C rfl klX10 (Nat.le_of_ble_eq_true rfl) kX10_85 rfl dX10_solves_360 ex73 ?_
        refine j_bipush (v := (13 : Int32)) C dX10_solves_363 (by decide) ?_
        refine j_iload_n C dX10_solves_365 rfl rfl ?_
        refine j_imul C dX10_solves_366 ?_
        refine j_bipush (v := (12 : Int32)) C dX10_solves_367 (by decide) ?_
        refine j_iadd C dX10_solves_369 ?_
        replace e := ob e
        obtain ⟨x74, ex74, e⟩ := e
        refine j_iald C dX10_solves_370 ex74 ?_
        replace e := ob e
        obtain ⟨h75, eh75, e⟩ := e
        refine j_iast C dX10_solves_371 eh75 ?_
        refine j_iinc (v := (z69 + (1 : Int32))) (lv1 := [(3, .int (z69 + (1 : Int32))), (0, .ref l0), (1, .int l1), (2, .int x64)]) C hL dX10_solves_372 rfl rfl (Nat.le_of_ble_eq_true rfl) rfl ?_
        refine j_goto (tgt := 345) C dX10_solves_375 (by decide) ?_
        obtain rfl := Option.some.inj e
        refine jx_sub (lv' := [(0, .ref l0), (1, .int l1), (2, .int x64), (3, .int (z69 + (1 : Int32)))]) [1, 2, 3, 0] rfl ?_
        exact kI12 ((z69 + (1 : Int32)), h75) e0_12
    · replace e := ifn c122 e
      refine j_iload_n C dX10_solves_111 rfl rfl ?_
      refine j_istore (lv1 := [(4, .int z67), (0, .ref l0), (1, .int l1), (2, .int x64), (3, .int z67)]) C hL dX10_solves_112 (Nat.le_of_ble_eq_true rfl) rfl ?_
      refine jx_sub (lv' := [(0, .ref l0), (1, .int l1), (2, .int x64), (3, .int z67), (4, .int z67)]) [1, 2, 3, 4, 0] rfl ?_
      refine itr_ind (s0 := z67) (fun s : Int32 => jx_J X 0 0 114 [(0, .ref l0), (1, .int l1), (2, .int x64), (3, .int z67), (4, .int s)] [] h68) e ?_
      clear e
      intro s kI15 kT15 e0
      obtain ⟨z77, es⟩ : ∃ z, z = s := ⟨_, rfl⟩
      subst es
      obtain ⟨u15, e0_15⟩ := e0
      have e : LX10_solves_114 l0 l1 x64 z67 z77 h68 = some u15 := e0_15
      unfold LX10_solves_114 at e
      refine j_aload_n C dX10_solves_114 rfl rfl ?_
      replace e := ob e
      obtain ⟨x78, ex78, e⟩ := e
      refine j_getr (ci := 10) (RC := RX10) (T := TX10) (N := 38) 37 C rfl klX10 (Nat.le_of_ble_eq_true rfl) kX10_85 rfl dX10_solves_115 ex78 ?_
      refine j_bipush (v := (13 : Int32)) C dX10_solves_118 (by decide) ?_
      refine j_iload C dX10_solves_120 rfl ?_
      refine j_imul C dX10_solves_122 ?_
      refine j_iload_n C dX10_solves_123 rfl rfl ?_
      refine j_iadd C dX10_solves_124 ?_
      replace e := ob e
      obtain ⟨x79, ex79, e⟩ := e
      refine j_iald C dX10_solves_125 ex79 ?_
      refine j_if_ne (tgt := 135) C dX10_solves_126 (by decide) (fun c121 => ?_) (fun c121 => ?_)
      · replace e := ifn c121 e
        obtain ⟨t_23, e_23, eu_23⟩ := exL_spec e
        obtain rfl := kT15 t_23 (e0_15.trans (congrArg some eu_23))
        replace e := e_23
        refine j_aload_n C dX10_solves_135 rfl rfl ?_
        refine j_aload_n C dX10_solves_136 rfl rfl ?_
        replace e := ob e
        obtain ⟨x80, ex80, e⟩ := e
        refine j_getr (ci := 10) (RC := RX10) (T := TX10) (N := 38) 37 C rfl klX10 (Nat.le_of_ble_eq_true rfl) kX10_85 rfl dX10_solves_137 ex80 ?_
        refine j_bipush (v := (13 : Int32)) C dX10_solves_140 (by decide) ?_
        refine j_iload C dX10_solves_142 rfl ?_
        refine j_imul C dX10_solves_144 ?_
        refine j_iload_n C dX10_solves_145 rfl rfl ?_
        refine j_iadd C dX10_solves_146 ?_
        replace e := ob e
        obtain ⟨x81, ex81, e⟩ := e
        refine j_iald C dX10_solves_147 ex81 ?_
        replace e := ob e
        obtain ⟨_, eo82, e⟩ := e
        replace e := ob e
        obtain ⟨x83, ex83, e⟩ := e
        refine j_callV (ci := 10) (RC := RX10) (T := TX10) (N := 38) (As := [.int x81]) (b := l0) (na := 1) (st := []) (k1 := 0) (n1 := 0) C hr (sX10_inverse ex83) rfl eo82 kX10_292 kim_X10_inverse ksel_X10_inverse kini_X10 kc_X10_inverse (by decide) rfl ⟨(Nat.le_of_ble_eq_true rfl), (Nat.le_of_ble_eq_true rfl)⟩ (Nat.le_of_ble_eq_true rfl) ⟨rfl, rfl, (Nat.le_of_ble_eq_true rfl), (Nat.le_of_ble_eq_true rfl)⟩ dX10_solves_148 ?_
        rintro _ _ ⟨rfl, rfl⟩
        show jx_J X 0 0 151 [(0, .ref l0), (1, .int l1), (2, .int x64), (3, .int z67), (4, .int z77)] [.int x83] h68
        refine j_istore (lv1 := [(5, .int x83), (0, .ref l0), (1, .int l1), (2, .int x64), (3, .int z67), (4, .int z77)]) C hL dX10_solves_151 (Nat.le_of_ble_eq_true rfl) rfl ?_
        refine j_iconst (v := (0 : Int32)) C dX10_solves_153 (by decide) ?_
        refine j_istore (lv1 := [(6, .int (0 : Int32)), (5, .int x83), (0, .ref l0), (1, .int l1), (2, .int x64), (3, .int z67), (4, .int z77)]) C hL dX10_solves_154 (Nat.le_of_ble_eq_true rfl) rfl ?_
        refine jx_sub (lv' := [(0, .ref l0), (1, .int l1), (2, .int x64), (3, .int z67), (4, .int z77), (5, .int x83), (6, .int (0 : Int32))]) [2, 3, 4, 5, 6, 1, 0] rfl ?_
        refine itr_ind (s0 := ((0 : Int32), h68)) (fun s : Int32 × jx_H => jx_J X 0 0 156 [(0, .ref l0), (1, .int l1), (2, .int x64), (3, .int z67), (4, .int z77), (5, .int x83), (6, .int s.1)] [] s.2) e ?_
        clear e
        intro s kI16 kT16 e0
        obtain ⟨z84, h85⟩ := s
        obtain ⟨u16, e0_16⟩ := e0
        have e : LX10_solves_156 l0 l1 x64 z67 z77 x83 z84 h85 = some u16 := e0_16
        unfold LX10_solves_156 at e
        refine j_iload C dX10_solves_156 rfl ?_
        refine j_bipush (v := (13 : Int32)) C dX10_solves_158 (by decide) ?_
        refine j_icmp_ge (tgt := 231) C dX10_solves_160 (by decide) (fun c120 => ?_) (fun c120 => ?_)
        · replace e := ifp c120 e
          obtain ⟨t_22, e_22, eu_22⟩ := exL_spec e
          obtain rfl := kT16 t_22 (e0_16.trans (congrArg some eu_22))
          replace e := e_22
          refine j_iconst (v := (0 : Int32)) C dX10_solves_231 (by decide) ?_
          refine j_istore (lv1 := [(6, .int (0 : Int32)), (0, .ref l0), (1, .int l1), (2, .int x64), (3, .int z67), (4, .int z77), (5, .int x83)]) C hL dX10_solves_232 (Nat.le_of_ble_eq_true rfl) rfl ?_
          refine jx_sub (lv' := [(0, .ref l0), (1, .int l1), (2, .int x64), (3, .int z67), (6, .int (0 : Int32))]) [1, 2, 3, 4, 0] rfl ?_
          refine itr_ind (s0 := ((0 : Int32), h85)) (fun s : Int32 × jx_H => jx_J X 0 0 234 [(0, .ref l0), (1, .int l1), (2, .int x64), (3, .int z67), (6, .int s.1)] [] s.2) e ?_
          clear e
          intro s kI17 kT17 e0
          obtain ⟨z86, h87⟩ := s
          obtain ⟨u17, e0_17⟩ := e0
          have e : LX10_solves_234 l0 l1 x64 z67 z86 h87 = some u17 := e0_17
          have b331 : ∀ (y88 : Int32) (h89 : jx_H), BX10_solves_331 l0 l1 x64 z67 y88 h89 = some u17 → jx_J X 0 0 331 [(0, .ref l0), (1, .int l1), (2, .int x64), (3, .int z67), (6, .int y88)] [] h89 := by
            intro y88 h89 e
            unfold BX10_solves_331 at e
            refine j_iinc (v := (y88 + (1 : Int32))) (lv1 := [(6, .int (y88 + (1 : Int32))), (0, .ref l0), (1, .int l1), (2, .int x64), (3, .int z67)]) C hL dX10_solves_331 rfl rfl (Nat.le_of_ble_eq_true rfl) rfl ?_
            refine j_goto (tgt := 234) C dX10_solves_334 (by decide) ?_
            obtain rfl := Option.some.inj e
            refine jx_sub (lv' := [(0, .ref l0), (1, .int l1), (2, .int x64), (3, .int z67), (6, .int (y88 + (1 : Int32)))]) [1, 2, 3, 4, 0] rfl ?_
            exact kI17 ((y88 + (1 : Int32)), h89) e0_17
          have b262 : ∀ (y90 : Int32) (y91 : Int32) (h92 : jx_H), BX10_solves_262 l0 l1 x64 z67 y90 y91 h92 = some u17 → jx_J X 0 0 262 [(0, .ref l0), (1, .int l1), (2, .int x64), (3, .int z67), (6, .int y90)] [.int y91] h92 := by
            intro y90 y91 h92 e
            unfold BX10_solves_262 at e
            refine j_istore (lv1 := [(7, .int y91), (0, .ref l0), (1, .int l1), (2, .int x64), (3, .int z67), (6, .int y90)]) C hL dX10_solves_262 (Nat.le_of_ble_eq_true rfl) rfl ?_
            refine j_iconst (v := (0 : Int32)) C dX10_solves_264 (by decide) ?_
            refine j_istore (lv1 := [(8, .int (0 : Int32)), (7, .int y91), (0, .ref l0), (1, .int l1), (2, .int x64), (3, .int z67), (6, .int y90)]) C hL dX10_solves_265 (Nat.le_of_ble_eq_true rfl) rfl ?_
            refine jx_sub (lv' := [(0, .ref l0), (1, .int l1), (2, .int x64), (3, .int z67), (6, .int y90), (7, .int y91), (8, .int (0 : Int32))]) [2, 3, 4, 5, 6, 1, 0] rfl ?_
            refine itr_ind (s0 := ((0 : Int32), h92)) (fun s : Int32 × jx_H => jx_J X 0 0 267 [(0, .ref l0), (1, .int l1), (2, .int x64), (3, .int z67), (6, .int y90), (7, .int y91), (8, .int s.1)] [] s.2) e ?_
            clear e
            intro s kI18 kT18 e0
            obtain ⟨z93, h94⟩ := s
            obtain ⟨u18, e0_18⟩ := e0
            have e : LX10_solves_267 l0 l1 x64 z67 y90 y91 z93 h94 = some u18 := e0_18
            unfold LX10_solves_267 at e
            refine j_iload C dX10_solves_267 rfl ?_
            refine j_bipush (v := (13 : Int32)) C dX10_solves_269 (by decide) ?_
            refine j_icmp_ge (tgt := 331) C dX10_solves_271 (by decide) (fun c104 => ?_) (fun c104 => ?_)
            · replace e := ifp c104 e
              obtain ⟨t_19, e_19, eu_19⟩ := exL_spec e
              obtain rfl := kT18 t_19 (e0_18.trans (congrArg some eu_19))
              replace e := e_19
              refine jx_sub (lv' := [(0, .ref l0), (1, .int l1), (2, .int x64), (3, .int z67), (6, .int y90)]) [0, 1, 2, 3, 4] rfl ?_
              exact b331 y90 h94 e
            · replace e := ifn c104 e
              refine j_iload C dX10_solves_274 rfl ?_
              refine j_if_le (tgt := 331) C dX10_solves_276 (by decide) (fun c103 => ?_) (fun c103 => ?_)
              · replace e := ifp c103 e
                obtain ⟨t_20, e_20, eu_20⟩ := exL_spec e
                obtain rfl := kT18 t_20 (e0_18.trans (congrArg some eu_20))
                replace e := e_20
                refine jx_sub (lv' := [(0, .ref l0), (1, .int l1), (2, .int x64), (3, .int z67), (6, .int y90)]) [0, 1, 2, 3, 4] rfl ?_
                exact b331 y90 h94 e
              · replace e := ifn c103 e
                refine j_aload_n C dX10_solves_279 rfl rfl ?_
                replace e := ob e
                obtain ⟨x95, ex95, e⟩ := e
                refine j_getr (ci := 10) (RC := RX10) (T := TX10) (N := 38) 37 C rfl klX10 (Nat.le_of_ble_eq_true rfl) kX10_85 rfl dX10_solves_280 ex95 ?_
                refine j_bipush (v := (13 : Int32)) C dX10_solves_283 (by decide) ?_
                refine j_iload C dX10_solves_285 rfl ?_
                refine j_imul C dX10_solves_287 ?_
                refine j_iload C dX10_solves_288 rfl ?_
                refine j_iadd C dX10_solves_290 ?_
                refine j_aload_n C dX10_solves_291 rfl rfl ?_
                refine j_aload_n C dX10_solves_292 rfl rfl ?_
                replace e := ob e
                obtain ⟨x96, ex96, e⟩ := e
                refine j_getr (ci := 10) (RC := RX10) (T := TX10) (N := 38) 37 C rfl klX10 (Nat.le_of_ble_eq_true rfl) kX10_85 rfl dX10_solves_293 ex96 ?_
                refine j_bipush (v := (13 : Int32)) C dX10_solves_296 (by decide) ?_
                refine j_iload C dX10_solves_298 rfl ?_
                refine j_imul C dX10_solves_300 ?_
                refine j_iload C dX10_solves_301 rfl ?_
                refine j_iadd C dX10_solves_303 ?_
                replace e := ob e
                obtain ⟨x97, ex97, e⟩ := e
                refine j_iald C dX10_solves_304 ex97 ?_
                refine j_iload C dX10_solves_305 rfl ?_
                refine j_aload_n C dX10_solves_307 rfl rfl ?_
                replace e := ob e
                obtain ⟨x98, ex98, e⟩ := e
                refine j_getr (ci := 10) (RC := RX10) (T := TX10) (N := 38) 37 C rfl klX10 (Nat.le_of_ble_eq_true rfl) kX10_85 rfl dX10_solves_308 ex98 ?_
                refine j_bipush (v := (13 : Int32)) C dX10_solves_311 (by decide) ?_
                refine j_iload_n C dX10_solves_313 rfl rfl ?_
                refine j_imul C dX10_solves_314 ?_
                refine j_iload C dX10_solves_315 rfl ?_
                refine j_iadd C dX10_solves_317 ?_
                replace e := ob e
                obtain ⟨x99, ex99, e⟩ := e
                refine j_iald C dX10_solves_318 ex99 ?_
                refine j_imul C dX10_solves_319 ?_
                refine j_isub C dX10_solves_320 ?_
                replace e := ob e
                obtain ⟨_, eo100, e⟩ := e
                replace e := ob e
                obtain ⟨x101, ex101, e⟩ := e
                refine j_callV (ci := 10) (RC := RX10) (T := TX10) (N := 38) (As := [.int (x97 - (y91 * x99))]) (b := l0) (na := 1) (st := [.int (((13 : Int32) * y90) + z93), .ref x95]) (k1 := 0) (n1 := 0) C hr (sX10_mod ex101) rfl eo100 kX10_205 kim_X10_mod ksel_X10_mod kini_X10 kc_X10_mod (by decide) rfl ⟨(Nat.le_of_ble_eq_true rfl), (Nat.le_of_ble_eq_true rfl)⟩ (Nat.le_of_ble_eq_true rfl) ⟨rfl, rfl, (Nat.le_of_ble_eq_true rfl), (Nat.le_of_ble_eq_true rfl)⟩ dX10_solves_321 ?_
                rintro _ _ ⟨rfl, rfl⟩
                show jx_J X 0 0 324 [(0, .ref l0), (1, .int l1), (2, .int x64), (3, .int z67), (6, .int y90), (7, .int y91), (8, .int z93)] [.int x101, .int (((13 : Int32) * y90) + z93), .ref x95] h94
                replace e := ob e
                obtain ⟨h102, eh102, e⟩ := e
                refine j_iast C dX10_solves_324 eh102 ?_
                refine j_iinc (v := (z93 + (1 : Int32))) (lv1 := [(8, .int (z93 + (1 : Int32))), (0, .ref l0), (1, .int l1), (2, .int x64), (3, .int z67), (6, .int y90), (7, .int y91)]) C hL dX10_solves_325 rfl rfl (Nat.le_of_ble_eq_true rfl) rfl ?_
                refine j_goto (tgt := 267) C dX10_solves_328 (by decide) ?_
                obtain rfl := Option.some.inj e
                refine jx_sub (lv' := [(0, .ref l0), (1, .int l1), (2, .int x64), (3, .int z67), (6, .int y90), (7, .int y91), (8, .int (z93 + (1 : Int32)))]) [1, 2, 3, 4, 5, 6, 0] rfl ?_
                exact kI18 ((z93 + (1 : Int32)), h102) e0_18
          unfold LX10_solves_234 at e
          refine j_iload C dX10_solves_234 rfl ?_
          refine j_iload_n C dX10_solves_236 rfl rfl ?_
          refine j_icmp_ge (tgt := 337) C dX10_solves_237 (by decide) (fun c108 => ?_) (fun c108 => ?_)
          · replace e := ifp c108 e
            obtain ⟨t_21, e_21, eu_21⟩ := exL_spec e
            obtain rfl := kT17 t_21 (e0_17.trans (congrArg some eu_21))
            replace e := e_21
            refine j_iinc (v := (z67 + (1 : Int32))) (lv1 := [(3, .int (z67 + (1 : Int32))), (0, .ref l0), (1, .int l1), (2, .int x64), (6, .int z86)]) C hL dX10_solves_337 rfl rfl (Nat.le_of_ble_eq_true rfl) rfl ?_
            refine j_goto (tgt := 106) C dX10_solves_340 (by decide) ?_
            obtain rfl := Option.some.inj e
            refine jx_sub (lv' := [(0, .ref l0), (1, .int l1), (2, .int x64), (3, .int (z67 + (1 : Int32)))]) [1, 2, 3, 0] rfl ?_
            exact kI11 ((z67 + (1 : Int32)), h87) e0_11
          · replace e := ifn c108 e
            refine j_iload C dX10_solves_240 rfl ?_
            refine j_iload_n C dX10_solves_242 rfl rfl ?_
            refine j_icmp_ne (tgt := 250) C dX10_solves_243 (by decide) (fun c107 => ?_) (fun c107 => ?_)
            · replace e := ifn c107 e
              refine j_aload_n C dX10_solves_250 rfl rfl ?_
              replace e := ob e
              obtain ⟨x105, ex105, e⟩ := e
              refine j_getr (ci := 10) (RC := RX10) (T := TX10) (N := 38) 37 C rfl klX10 (Nat.le_of_ble_eq_true rfl) kX10_85 rfl dX10_solves_251 ex105 ?_
              refine j_bipush (v := (13 : Int32)) C dX10_solves_254 (by decide) ?_
              refine j_iload C dX10_solves_256 rfl ?_
              refine j_imul C dX10_solves_258 ?_
              refine j_iload_n C dX10_solves_259 rfl rfl ?_
              refine j_iadd C dX10_solves_260 ?_
              replace e := ob e
              obtain ⟨x106, ex106, e⟩ := e
              refine j_iald C dX10_solves_261 ex106 ?_
              exact b262 z86 x106 h87 e
            · replace e := ifp c107 e
              refine j_iconst (v := (0 : Int32)) C dX10_solves_246 (by decide) ?_
              refine j_goto (tgt := 262) C dX10_solves_247 (by decide) ?_
              exact b262 z86 (0 : Int32) h87 e
        · replace e := ifn c120 e
          refine j_aload_n C dX10_solves_163 rfl rfl ?_
          replace e := ob e
          obtain ⟨x109, ex109, e⟩ := e
          refine j_getr (ci := 10) (RC := RX10) (T := TX10) (N := 38) 37 C rfl klX10 (Nat.le_of_ble_eq_true rfl) kX10_85 rfl dX10_solves_164 ex109 ?_
          refine j_bipush (v := (13 : Int32)) C dX10_solves_167 (by decide) ?_
          refine j_iload C dX10_solves_169 rfl ?_
          refine j_imul C dX10_solves_171 ?_
          refine j_iload C dX10_solves_172 rfl ?_
          refine j_iadd C dX10_solves_174 ?_
          replace e := ob e
          obtain ⟨x110, ex110, e⟩ := e
          refine j_iald C dX10_solves_175 ex110 ?_
          refine j_iload C dX10_solves_176 rfl ?_
          refine j_imul C dX10_solves_178 ?_
          refine j_aload_n C dX10_solves_179 rfl rfl ?_
          replace e := ob e
          obtain ⟨_, eo111, e⟩ := e
          replace e := ob e
          obtain ⟨x112, ex112, e⟩ := e
          refine j_callV (ci := 10) (RC := RX10) (T := TX10) (N := 38) (As := []) (b := l0) (na := 0) (st := [.int (x110 * x83)]) (k1 := 0) (n1 := 0) C hr (sX10_p ex112) rfl eo111 kX10_97 kim_X10_p ksel_X10_p kini_X10 kc_X10_p (by decide) rfl ⟨(Nat.le_of_ble_eq_true rfl), (Nat.le_of_ble_eq_true rfl)⟩ (Nat.le_of_ble_eq_true rfl) ⟨rfl, rfl, (Nat.le_of_ble_eq_true rfl), (Nat.le_of_ble_eq_true rfl)⟩ dX10_solves_180 ?_
          rintro _ _ ⟨rfl, rfl⟩
          show jx_J X 0 0 183 [(0, .ref l0), (1, .int l1), (2, .int x64), (3, .int z67), (4, .int z77), (5, .int x83), (6, .int z84)] [.int x112, .int (x110 * x83)] h85
          by_cases c113 : x112 = 0
          · exact nos (ifp c113 e)
          replace e := ifn c113 e
          refine j_irem C dX10_solves_183 c113 ?_
          refine j_istore (lv1 := [(7, .int ((x110 * x83) - (x110 * x83) / x112 * x112)), (0, .ref l0), (1, .int l1), (2, .int x64), (3, .int z67), (4, .int z77), (5, .int x83), (6, .int z84)]) C hL dX10_solves_184 (Nat.le_of_ble_eq_true rfl) rfl ?_
          refine j_aload_n C dX10_solves_186 rfl rfl ?_
          replace e := ob e
          obtain ⟨x114, ex114, e⟩ := e
          refine j_getr (ci := 10) (RC := RX10) (T := TX10) (N := 38) 37 C rfl klX10 (Nat.le_of_ble_eq_true rfl) kX10_85 rfl dX10_solves_187 ex114 ?_
          refine j_bipush (v := (13 : Int32)) C dX10_solves_190 (by decide) ?_
          refine j_iload C dX10_solves_192 rfl ?_
          refine j_imul C dX10_solves_194 ?_
          refine j_iload C dX10_solves_195 rfl ?_
          refine j_iadd C dX10_solves_197 ?_
          refine j_aload_n C dX10_solves_198 rfl rfl ?_
          replace e := ob e
          obtain ⟨x115, ex115, e⟩ := e
          refine j_getr (ci := 10) (RC := RX10) (T := TX10) (N := 38) 37 C rfl klX10 (Nat.le_of_ble_eq_true rfl) kX10_85 rfl dX10_solves_199 ex115 ?_
          refine j_bipush (v := (13 : Int32)) C dX10_solves_202 (by decide) ?_
          refine j_iload_n C dX10_solves_204 rfl rfl ?_
          refine j_imul C dX10_solves_205 ?_
          refine j_iload C dX10_solves_206 rfl ?_
          refine j_iadd C dX10_solves_208 ?_
          replace e := ob e
          obtain ⟨x116, ex116, e⟩ := e
          refine j_iald C dX10_solves_209 ex116 ?_
          replace e := ob e
          obtain ⟨h117, eh117, e⟩ := e
          refine j_iast C dX10_solves_210 eh117 ?_
          refine j_aload_n C dX10_solves_211 rfl rfl ?_
          replace e := ob e
          obtain ⟨x118, ex118, e⟩ := e
          refine j_getr (ci := 10) (RC := RX10) (T := TX10) (N := 38) 37 C rfl klX10 (Nat.le_of_ble_eq_true rfl) kX10_85 rfl dX10_solves_212 ex118 ?_
          refine j_bipush (v := (13 : Int32)) C dX10_solves_215 (by decide) ?_
          refine j_iload_n C dX10_solves_217 rfl rfl ?_
          refine j_imul C dX10_solves_218 ?_
          refine j_iload C dX10_solves_219 rfl ?_
          refine j_iadd C dX10_solves_221 ?_
          refine j_iload C dX10_solves_222 rfl ?_
          replace e := ob e
          obtain ⟨h119, eh119, e⟩ := e
          refine j_iast C dX10_solves_224 eh119 ?_
          refine j_iinc (v := (z84 + (1 : Int32))) (lv1 := [(6, .int (z84 + (1 : Int32))), (7, .int ((x110 * x83) - (x110 * x83) / x112 * x112)), (0, .ref l0), (1, .int l1), (2, .int x64), (3, .int z67), (4, .int z77), (5, .int x83)]) C hL dX10_solves_225 rfl rfl (Nat.le_of_ble_eq_true rfl) rfl ?_
          refine j_goto (tgt := 156) C dX10_solves_228 (by decide) ?_
          obtain rfl := Option.some.inj e
          refine jx_sub (lv' := [(0, .ref l0), (1, .int l1), (2, .int x64), (3, .int z67), (4, .int z77), (5, .int x83), (6, .int (z84 + (1 : Int32)))]) [2, 3, 4, 5, 6, 7, 0] rfl ?_
          exact kI16 ((z84 + (1 : Int32)), h119) e0_16
      · replace e := ifp c121 e
        refine j_iinc (v := (z77 + (1 : Int32))) (lv1 := [(4, .int (z77 + (1 : Int32))), (0, .ref l0), (1, .int l1), (2, .int x64), (3, .int z67)]) C hL dX10_solves_129 rfl rfl (Nat.le_of_ble_eq_true rfl) rfl ?_
        refine j_goto (tgt := 114) C dX10_solves_132 (by decide) ?_
        obtain rfl := Option.some.inj e
        refine jx_sub (lv' := [(0, .ref l0), (1, .int l1), (2, .int x64), (3, .int z67), (4, .int (z77 + (1 : Int32)))]) [1, 2, 3, 4, 0] rfl ?_
        exact kI15 (z77 + (1 : Int32)) e0_15
  · replace e := ifn c144 e
    refine j_iconst (v := (0 : Int32)) C dX10_solves_12 (by decide) ?_
    refine j_istore (lv1 := [(4, .int (0 : Int32)), (0, .ref l0), (1, .int l1), (2, .int x64), (3, .int z65)]) C hL dX10_solves_13 (Nat.le_of_ble_eq_true rfl) rfl ?_
    refine jx_sub (lv' := [(0, .ref l0), (1, .int l1), (2, .int x64), (3, .int z65), (4, .int (0 : Int32))]) [1, 2, 3, 4, 0] rfl ?_
    refine itr_ind (s0 := ((0 : Int32), h66)) (fun s : Int32 × jx_H => jx_J X 0 0 15 [(0, .ref l0), (1, .int l1), (2, .int x64), (3, .int z65), (4, .int s.1)] [] s.2) e ?_
    clear e
    intro s kI25 kT25 e0
    obtain ⟨z123, h124⟩ := s
    obtain ⟨u25, e0_25⟩ := e0
    have e : LX10_solves_15 l0 l1 x64 z65 z123 h124 = some u25 := e0_25
    unfold LX10_solves_15 at e
    refine j_iload C dX10_solves_15 rfl ?_
    refine j_iload_n C dX10_solves_17 rfl rfl ?_
    refine j_icmp_ge (tgt := 63) C dX10_solves_18 (by decide) (fun c143 => ?_) (fun c143 => ?_)
    · replace e := ifp c143 e
      obtain ⟨t_26, e_26, eu_26⟩ := exL_spec e
      obtain rfl := kT25 t_26 (e0_25.trans (congrArg some eu_26))
      replace e := e_26
      refine j_aload_n C dX10_solves_63 rfl rfl ?_
      replace e := ob e
      obtain ⟨x125, ex125, e⟩ := e
      refine j_getr (ci := 10) (RC := RX10) (T := TX10) (N := 38) 37 C rfl klX10 (Nat.le_of_ble_eq_true rfl) kX10_85 rfl dX10_solves_64 ex125 ?_
      refine j_bipush (v := (13 : Int32)) C dX10_solves_67 (by decide) ?_
      refine j_iload_n C dX10_solves_69 rfl rfl ?_
      refine j_imul C dX10_solves_70 ?_
      refine j_bipush (v := (12 : Int32)) C dX10_solves_71 (by decide) ?_
      refine j_iadd C dX10_solves_73 ?_
      refine j_aload_n C dX10_solves_74 rfl rfl ?_
      refine j_aload_n C dX10_solves_75 rfl rfl ?_
      replace e := ob e
      obtain ⟨x126, ex126, e⟩ := e
      refine j_getr (ci := 10) (RC := RX10) (T := TX10) (N := 38) 1 C rfl klX10 (Nat.le_of_ble_eq_true rfl) kX10_7 rfl dX10_solves_76 ex126 ?_
      refine j_bipush (v := (28 : Int32)) C dX10_solves_79 (by decide) ?_
      refine j_iload_n C dX10_solves_81 rfl rfl ?_
      refine j_iadd C dX10_solves_82 ?_
      replace e := ob e
      obtain ⟨x127, ex127, e⟩ := e
      refine j_iald C dX10_solves_83 ex127 ?_
      refine j_aload_n C dX10_solves_84 rfl rfl ?_
      replace e := ob e
      obtain ⟨x128, ex128, e⟩ := e
      refine j_getr (ci := 10) (RC := RX10) (T := TX10) (N := 38) 1 C rfl klX10 (Nat.le_of_ble_eq_true rfl) kX10_7 rfl dX10_solves_85 ex128 ?_
      refine j_bipush (v := (42 : Int32)) C dX10_solves_88 (by decide) ?_
      refine j_iload_n C dX10_solves_90 rfl rfl ?_
      refine j_iadd C dX10_solves_91 ?_
      replace e := ob e
      obtain ⟨x129, ex129, e⟩ := e
      refine j_iald C dX10_solves_92 ex129 ?_
      refine j_iload_n C dX10_solves_93 rfl rfl ?_
      replace e := ob e
      obtain ⟨_, eo130, e⟩ := e
      replace e := ob2 e
      obtain ⟨x131, h132, ex131, e⟩ := e
      refine j_callV (ci := 10) (RC := RX10) (T := TX10) (N := 38) (As := [.int x127, .int x129, .int z65]) (b := l0) (na := 3) (st := [.int (((13 : Int32) * z65) + (12 : Int32)), .ref x125]) (k1 := 0) (n1 := 0) C hr (sX10_valueAt ex131) rfl eo130 kX10_382 kim_X10_valueAt ksel_X10_valueAt kini_X10 kc_X10_valueAt (by decide) rfl ⟨(Nat.le_of_ble_eq_true rfl), (Nat.le_of_ble_eq_true rfl)⟩ (Nat.le_of_ble_eq_true rfl) ⟨rfl, rfl, (Nat.le_of_ble_eq_true rfl), (Nat.le_of_ble_eq_true rfl)⟩ dX10_solves_94 ?_
      rintro _ _ ⟨rfl, rfl⟩
      show jx_J X 0 0 97 [(0, .ref l0), (1, .int l1), (2, .int x64), (3, .int z65), (4, .int z123)] [.int x131, .int (((13 : Int32) * z65) + (12 : Int32)), .ref x125] h132
      replace e := ob e
      obtain ⟨h133, eh133, e⟩ := e
      refine j_iast C dX10_solves_97 eh133 ?_
      refine j_iinc (v := (z65 + (1 : Int32))) (lv1 := [(3, .int (z65 + (1 : Int32))), (0, .ref l0), (1, .int l1), (2, .int x64), (4, .int z123)]) C hL dX10_solves_98 rfl rfl (Nat.le_of_ble_eq_true rfl) rfl ?_
      refine j_goto (tgt := 7) C dX10_solves_101 (by decide) ?_
      obtain rfl := Option.some.inj e
      refine jx_sub (lv' := [(0, .ref l0), (1, .int l1), (2, .int x64), (3, .int (z65 + (1 : Int32)))]) [1, 2, 3, 0] rfl ?_
      exact kI10 ((z65 + (1 : Int32)), h133) e0_10
    · replace e := ifn c143 e
      refine j_aload_n C dX10_solves_21 rfl rfl ?_
      replace e := ob e
      obtain ⟨x134, ex134, e⟩ := e
      refine j_getr (ci := 10) (RC := RX10) (T := TX10) (N := 38) 37 C rfl klX10 (Nat.le_of_ble_eq_true rfl) kX10_85 rfl dX10_solves_22 ex134 ?_
      refine j_bipush (v := (13 : Int32)) C dX10_solves_25 (by decide) ?_
      refine j_iload_n C dX10_solves_27 rfl rfl ?_
      refine j_imul C dX10_solves_28 ?_
      refine j_iload C dX10_solves_29 rfl ?_
      refine j_iadd C dX10_solves_31 ?_
      refine j_aload_n C dX10_solves_32 rfl rfl ?_
      refine j_aload_n C dX10_solves_33 rfl rfl ?_
      replace e := ob e
      obtain ⟨x135, ex135, e⟩ := e
      refine j_getr (ci := 10) (RC := RX10) (T := TX10) (N := 38) 1 C rfl klX10 (Nat.le_of_ble_eq_true rfl) kX10_7 rfl dX10_solves_34 ex135 ?_
      refine j_iconst (v := (4 : Int32)) C dX10_solves_37 (by decide) ?_
      refine j_iload C dX10_solves_38 rfl ?_
      refine j_iadd C dX10_solves_40 ?_
      replace e := ob e
      obtain ⟨x136, ex136, e⟩ := e
      refine j_iald C dX10_solves_41 ex136 ?_
      refine j_aload_n C dX10_solves_42 rfl rfl ?_
      replace e := ob e
      obtain ⟨x137, ex137, e⟩ := e
      refine j_getr (ci := 10) (RC := RX10) (T := TX10) (N := 38) 1 C rfl klX10 (Nat.le_of_ble_eq_true rfl) kX10_7 rfl dX10_solves_43 ex137 ?_
      refine j_bipush (v := (16 : Int32)) C dX10_solves_46 (by decide) ?_
      refine j_iload C dX10_solves_48 rfl ?_
      refine j_iadd C dX10_solves_50 ?_
      replace e := ob e
      obtain ⟨x138, ex138, e⟩ := e
      refine j_iald C dX10_solves_51 ex138 ?_
      refine j_iload_n C dX10_solves_52 rfl rfl ?_
      replace e := ob e
      obtain ⟨_, eo139, e⟩ := e
      replace e := ob2 e
      obtain ⟨x140, h141, ex140, e⟩ := e
      refine j_callV (ci := 10) (RC := RX10) (T := TX10) (N := 38) (As := [.int x136, .int x138, .int z65]) (b := l0) (na := 3) (st := [.int (((13 : Int32) * z65) + z123), .ref x134]) (k1 := 0) (n1 := 0) C hr (sX10_valueAt ex140) rfl eo139 kX10_382 kim_X10_valueAt ksel_X10_valueAt kini_X10 kc_X10_valueAt (by decide) rfl ⟨(Nat.le_of_ble_eq_true rfl), (Nat.le_of_ble_eq_true rfl)⟩ (Nat.le_of_ble_eq_true rfl) ⟨rfl, rfl, (Nat.le_of_ble_eq_true rfl), (Nat.le_of_ble_eq_true rfl)⟩ dX10_solves_53 ?_
      rintro _ _ ⟨rfl, rfl⟩
      show jx_J X 0 0 56 [(0, .ref l0), (1, .int l1), (2, .int x64), (3, .int z65), (4, .int z123)] [.int x140, .int (((13 : Int32) * z65) + z123), .ref x134] h141
      replace e := ob e
      obtain ⟨h142, eh142, e⟩ := e
      refine j_iast C dX10_solves_56 eh142 ?_
      refine j_iinc (v := (z123 + (1 : Int32))) (lv1 := [(4, .int (z123 + (1 : Int32))), (0, .ref l0), (1, .int l1), (2, .int x64), (3, .int z65)]) C hL dX10_solves_57 rfl rfl (Nat.le_of_ble_eq_true rfl) rfl ?_
      refine j_goto (tgt := 15) C dX10_solves_60 (by decide) ?_
      obtain rfl := Option.some.inj e
      refine jx_sub (lv' := [(0, .ref l0), (1, .int l1), (2, .int x64), (3, .int z65), (4, .int (z123 + (1 : Int32)))]) [1, 2, 3, 4, 0] rfl ?_
      exact kI25 ((z123 + (1 : Int32)), h142) e0_25
/-! BorderBasisModel.fits()V -/
noncomputable def BX10_fits_71 (l0 : Nat) (l1 : Int32) (h : jx_H) : Option ((Int32 × jx_H) ⊕ (jx_H)) :=
some (.inl ((l1 + (1 : Int32)), h))
noncomputable def LX10_fits_83 (l0 : Nat) (l1 : Int32) (h : jx_H) : Option ((Int32 × jx_H) ⊕ (jx_H)) :=
(hgr h l0 10 1).bind fun x5 =>
(hal h .int x5 (2 : Int32)).bind fun x6 =>
if x6 ≤ l1 then
 exL (some h)
else
 (isO h l0 10).bind fun _ =>
 (FX10_solves l0 l1 h).bind fun h8 =>
 some (.inl ((l1 + (1 : Int32)), h8))
noncomputable def BX10_fits_65 (l0 : Nat) (l1 : Int32) (l2 : Int32) (h : jx_H) : Option ((Int32 × jx_H) ⊕ ((Int32 × jx_H) ⊕ (jx_H))) :=
some (.inl ((l2 + (1 : Int32)), h))
noncomputable def LX10_fits_17 (l0 : Nat) (l1 : Int32) (l2 : Int32) (h : jx_H) : Option ((Int32 × jx_H) ⊕ ((Int32 × jx_H) ⊕ (jx_H))) :=
if l1 < l2 then
 exL (BX10_fits_71 l0 l1 h)
else
 (isO h l0 10).bind fun _ =>
 (FX10_n l0 h).bind fun x11 =>
 (hgr h l0 10 1).bind fun x12 =>
 (hal h .int x12 (3 : Int32)).bind fun x13 =>
 if x13 ≤ x11 then
  exL (BX10_fits_71 l0 l1 h)
 else
  (isO h l0 10).bind fun _ =>
  (FX10_hasDivisors l0 (l1 - l2) l2 h).bind fun x15 =>
  if x15 = 0 then
   BX10_fits_65 l0 l1 l2 h
  else
   (isO h l0 10).bind fun _ =>
   bind2 (FX10_isFresh l0 (l1 - l2) l2 h) fun x17 h18 =>
   if x17 = 0 then
    BX10_fits_65 l0 l1 l2 h18
   else
    (isO h18 l0 10).bind fun _ =>
    bind2 (FX10_placed l0 (l1 - l2) l2 h18) fun x20 h21 =>
    BX10_fits_65 l0 l1 l2 h21
noncomputable def LX10_fits_9 (l0 : Nat) (l1 : Int32) (h : jx_H) : Option ((Int32 × jx_H) ⊕ (jx_H)) :=
if (11 : Int32) < l1 then
 exL ((isO h l0 10).bind fun _ =>
 (FX10_laysBorder l0 h).bind fun h4 =>
 itr (fun s : Int32 × jx_H => LX10_fits_83 l0 s.1 s.2) ((0 : Int32), h4))
else
 itr (fun s : Int32 × jx_H => LX10_fits_17 l0 l1 s.1 s.2) ((0 : Int32), h)
noncomputable def FX10_fits (l0 : Nat) (h : jx_H) : Option (jx_H) :=
(hgr h l0 10 1).bind fun x1 =>
(has h .int x1 (1 : Int32) (0 : Int32)).bind fun h2 =>
itr (fun s : Int32 × jx_H => LX10_fits_9 l0 s.1 s.2) ((0 : Int32), h2)
def rmX10_fits : Room := { frames := 5, cells := 0, slots := 0, locals := 109 }
set_option maxRecDepth 20000 in
set_option maxHeartbeats 4000000 in
theorem sX10_fits {l0 : Nat} {h : jx_H} {h9 : jx_H} (e : FX10_fits l0 h = some h9) : jx_Ct yX10_fits cX10_fits 5 none rmX10_fits [.ref l0] h (fun r' h' => none = r' ∧ h9 = h') := by
  refine jx_Ct.of (own := RX10) (by decide) rfl (Nat.le_of_ble_eq_true rfl) (fun X C hq hr hL hN => ?_)
  refine jx_sub (lv' := [(0, .ref l0)]) [0] rfl ?_
  unfold FX10_fits at e
  refine j_aload_n C dX10_fits_0 rfl rfl ?_
  replace e := ob e
  obtain ⟨x27, ex27, e⟩ := e
  refine j_getr (ci := 10) (RC := RX10) (T := TX10) (N := 38) 1 C rfl klX10 (Nat.le_of_ble_eq_true rfl) kX10_7 rfl dX10_fits_1 ex27 ?_
  refine j_iconst (v := (1 : Int32)) C dX10_fits_4 (by decide) ?_
  refine j_iconst (v := (0 : Int32)) C dX10_fits_5 (by decide) ?_
  replace e := ob e
  obtain ⟨h28, eh28, e⟩ := e
  refine j_iast C dX10_fits_6 eh28 ?_
  refine j_iconst (v := (0 : Int32)) C dX10_fits_7 (by decide) ?_
  refine j_istore_n (lv1 := [(1, .int (0 : Int32)), (0, .ref l0)]) C hL dX10_fits_8 rfl (Nat.le_of_ble_eq_true rfl) rfl ?_
  refine jx_sub (lv' := [(0, .ref l0), (1, .int (0 : Int32))]) [1, 0] rfl ?_
  refine itr_ind (s0 := ((0 : Int32), h28)) (fun s : Int32 × jx_H => jx_J X 0 0 9 [(0, .ref l0), (1, .int s.1)] [] s.2) e ?_
  clear e
  intro s kI5 kT5 e0
  obtain ⟨z29, h30⟩ := s
  obtain ⟨u5, e0_5⟩ := e0
  have e : LX10_fits_9 l0 z29 h30 = some u5 := e0_5
  have b71 : ∀ (y31 : Int32) (h32 : jx_H), BX10_fits_71 l0 y31 h32 = some u5 → jx_J X 0 0 71 [(0, .ref l0), (1, .int y31)] [] h32 := by
    intro y31 h32 e
    unfold BX10_fits_71 at e
    refine j_iinc (v := (y31 + (1 : Int32))) (lv1 := [(1, .int (y31 + (1 : Int32))), (0, .ref l0)]) C hL dX10_fits_71 rfl rfl (Nat.le_of_ble_eq_true rfl) rfl ?_
    refine j_goto (tgt := 9) C dX10_fits_74 (by decide) ?_
    obtain rfl := Option.some.inj e
    refine jx_sub (lv' := [(0, .ref l0), (1, .int (y31 + (1 : Int32)))]) [1, 0] rfl ?_
    exact kI5 ((y31 + (1 : Int32)), h32) e0_5
  unfold LX10_fits_9 at e
  refine j_iload_n C dX10_fits_9 rfl rfl ?_
  refine j_bipush (v := (11 : Int32)) C dX10_fits_10 (by decide) ?_
  refine j_icmp_gt (tgt := 77) C dX10_fits_12 (by decide) (fun c62 => ?_) (fun c62 => ?_)
  · replace e := ifp c62 e
    obtain ⟨t_8, e_8, eu_8⟩ := exL_spec e
    obtain rfl := kT5 t_8 (e0_5.trans (congrArg some eu_8))
    replace e := e_8
    refine j_aload_n C dX10_fits_77 rfl rfl ?_
    replace e := ob e
    obtain ⟨_, eo33, e⟩ := e
    replace e := ob e
    obtain ⟨h34, eh34, e⟩ := e
    refine j_callV (ci := 10) (RC := RX10) (T := TX10) (N := 38) (As := []) (b := l0) (na := 0) (st := []) (k1 := 0) (n1 := 0) C hr (sX10_laysBorder eh34) rfl eo33 kX10_94 kim_X10_laysBorder ksel_X10_laysBorder kini_X10 kc_X10_laysBorder (by decide) rfl ⟨(Nat.le_of_ble_eq_true rfl), (Nat.le_of_ble_eq_true rfl)⟩ (Nat.le_of_ble_eq_true rfl) ⟨rfl, rfl, (Nat.le_of_ble_eq_true rfl), (Nat.le_of_ble_eq_true rfl)⟩ dX10_fits_78 ?_
    rintro _ _ ⟨rfl, rfl⟩
    show jx_J X 0 0 81 [(0, .ref l0), (1, .int z29)] [] h34
    refine j_iconst (v := (0 : Int32)) C dX10_fits_81 (by decide) ?_
    refine j_istore_n (lv1 := [(1, .int (0 : Int32)), (0, .ref l0)]) C hL dX10_fits_82 rfl (Nat.le_of_ble_eq_true rfl) rfl ?_
    refine jx_sub (lv' := [(0, .ref l0), (1, .int (0 : Int32))]) [1, 0] rfl ?_
    refine itr_ind (s0 := ((0 : Int32), h34)) (fun s : Int32 × jx_H => jx_J X 0 0 83 [(0, .ref l0), (1, .int s.1)] [] s.2) e ?_
    clear e
    intro s kI6 kT6 e0
    obtain ⟨z35, h36⟩ := s
    obtain ⟨u6, e0_6⟩ := e0
    have e : LX10_fits_83 l0 z35 h36 = some u6 := e0_6
    unfold LX10_fits_83 at e
    refine j_iload_n C dX10_fits_83 rfl rfl ?_
    refine j_aload_n C dX10_fits_84 rfl rfl ?_
    replace e := ob e
    obtain ⟨x37, ex37, e⟩ := e
    refine j_getr (ci := 10) (RC := RX10) (T := TX10) (N := 38) 1 C rfl klX10 (Nat.le_of_ble_eq_true rfl) kX10_7 rfl dX10_fits_85 ex37 ?_
    refine j_iconst (v := (2 : Int32)) C dX10_fits_88 (by decide) ?_
    replace e := ob e
    obtain ⟨x38, ex38, e⟩ := e
    refine j_iald C dX10_fits_89 ex38 ?_
    refine j_icmp_ge (tgt := 104) C dX10_fits_90 (by decide) (fun c41 => ?_) (fun c41 => ?_)
    · replace e := ifp c41 e
      obtain ⟨t_7, e_7, eu_7⟩ := exL_spec e
      obtain rfl := kT6 t_7 (e0_6.trans (congrArg some eu_7))
      replace e := e_7
      cases e
      exact j_vret C hq dX10_fits_104 ⟨Nat.le_of_ble_eq_true rfl, Nat.le_of_ble_eq_true rfl⟩ ⟨rfl, rfl⟩
    · replace e := ifn c41 e
      refine j_aload_n C dX10_fits_93 rfl rfl ?_
      refine j_iload_n C dX10_fits_94 rfl rfl ?_
      replace e := ob e
      obtain ⟨_, eo39, e⟩ := e
      replace e := ob e
      obtain ⟨h40, eh40, e⟩ := e
      refine j_callV (ci := 10) (RC := RX10) (T := TX10) (N := 38) (As := [.int z35]) (b := l0) (na := 1) (st := []) (k1 := 0) (n1 := 0) C hr (sX10_solves eh40) rfl eo39 kX10_392 kim_X10_solves ksel_X10_solves kini_X10 kc_X10_solves (by decide) rfl ⟨(Nat.le_of_ble_eq_true rfl), (Nat.le_of_ble_eq_true rfl)⟩ (Nat.le_of_ble_eq_true rfl) ⟨rfl, rfl, (Nat.le_of_ble_eq_true rfl), (Nat.le_of_ble_eq_true rfl)⟩ dX10_fits_95 ?_
      rintro _ _ ⟨rfl, rfl⟩
      show jx_J X 0 0 98 [(0, .ref l0), (1, .int z35)] [] h40
      refine j_iinc (v := (z35 + (1 : Int32))) (lv1 := [(1, .int (z35 + (1 : Int32))), (0, .ref l0)]) C hL dX10_fits_98 rfl rfl (Nat.le_of_ble_eq_true rfl) rfl ?_
      refine j_goto (tgt := 83) C dX10_fits_101 (by decide) ?_
      obtain rfl := Option.some.inj e
      refine jx_sub (lv' := [(0, .ref l0), (1, .int (z35 + (1 : Int32)))]) [1, 0] rfl ?_
      exact kI6 ((z35 + (1 : Int32)), h40) e0_6
  · replace e := ifn c62 e
    refine j_iconst (v := (0 : Int32)) C dX10_fits_15 (by decide) ?_
    refine j_istore_n (lv1 := [(2, .int (0 : Int32)), (0, .ref l0), (1, .int z29)]) C hL dX10_fits_16 rfl (Nat.le_of_ble_eq_true rfl) rfl ?_
    refine jx_sub (lv' := [(0, .ref l0), (1, .int z29), (2, .int (0 : Int32))]) [1, 2, 0] rfl ?_
    refine itr_ind (s0 := ((0 : Int32), h30)) (fun s : Int32 × jx_H => jx_J X 0 0 17 [(0, .ref l0), (1, .int z29), (2, .int s.1)] [] s.2) e ?_
    clear e
    intro s kI9 kT9 e0
    obtain ⟨z42, h43⟩ := s
    obtain ⟨u9, e0_9⟩ := e0
    have e : LX10_fits_17 l0 z29 z42 h43 = some u9 := e0_9
    have b65 : ∀ (y44 : Int32) (h45 : jx_H), BX10_fits_65 l0 z29 y44 h45 = some u9 → jx_J X 0 0 65 [(0, .ref l0), (1, .int z29), (2, .int y44)] [] h45 := by
      intro y44 h45 e
      unfold BX10_fits_65 at e
      refine j_iinc (v := (y44 + (1 : Int32))) (lv1 := [(2, .int (y44 + (1 : Int32))), (0, .ref l0), (1, .int z29)]) C hL dX10_fits_65 rfl rfl (Nat.le_of_ble_eq_true rfl) rfl ?_
      refine j_goto (tgt := 17) C dX10_fits_68 (by decide) ?_
      obtain rfl := Option.some.inj e
      refine jx_sub (lv' := [(0, .ref l0), (1, .int z29), (2, .int (y44 + (1 : Int32)))]) [1, 2, 0] rfl ?_
      exact kI9 ((y44 + (1 : Int32)), h45) e0_9
    unfold LX10_fits_17 at e
    refine j_iload_n C dX10_fits_17 rfl rfl ?_
    refine j_iload_n C dX10_fits_18 rfl rfl ?_
    refine j_icmp_gt (tgt := 71) C dX10_fits_19 (by decide) (fun c61 => ?_) (fun c61 => ?_)
    · replace e := ifp c61 e
      obtain ⟨t_10, e_10, eu_10⟩ := exL_spec e
      obtain rfl := kT9 t_10 (e0_9.trans (congrArg some eu_10))
      replace e := e_10
      refine jx_sub (lv' := [(0, .ref l0), (1, .int z29)]) [0, 1] rfl ?_
      exact b71 z29 h43 e
    · replace e := ifn c61 e
      refine j_aload_n C dX10_fits_22 rfl rfl ?_
      replace e := ob e
      obtain ⟨_, eo46, e⟩ := e
      replace e := ob e
      obtain ⟨x47, ex47, e⟩ := e
      refine j_callV (ci := 10) (RC := RX10) (T := TX10) (N := 38) (As := []) (b := l0) (na := 0) (st := []) (k1 := 0) (n1 := 0) C hr (sX10_n ex47) rfl eo46 kX10_105 kim_X10_n ksel_X10_n kini_X10 kc_X10_n (by decide) rfl ⟨(Nat.le_of_ble_eq_true rfl), (Nat.le_of_ble_eq_true rfl)⟩ (Nat.le_of_ble_eq_true rfl) ⟨rfl, rfl, (Nat.le_of_ble_eq_true rfl), (Nat.le_of_ble_eq_true rfl)⟩ dX10_fits_23 ?_
      rintro _ _ ⟨rfl, rfl⟩
      show jx_J X 0 0 26 [(0, .ref l0), (1, .int z29), (2, .int z42)] [.int x47] h43
      refine j_aload_n C dX10_fits_26 rfl rfl ?_
      replace e := ob e
      obtain ⟨x48, ex48, e⟩ := e
      refine j_getr (ci := 10) (RC := RX10) (T := TX10) (N := 38) 1 C rfl klX10 (Nat.le_of_ble_eq_true rfl) kX10_7 rfl dX10_fits_27 ex48 ?_
      refine j_iconst (v := (3 : Int32)) C dX10_fits_30 (by decide) ?_
      replace e := ob e
      obtain ⟨x49, ex49, e⟩ := e
      refine j_iald C dX10_fits_31 ex49 ?_
      refine j_icmp_ge (tgt := 71) C dX10_fits_32 (by decide) (fun c60 => ?_) (fun c60 => ?_)
      · replace e := ifp c60 e
        obtain ⟨t_11, e_11, eu_11⟩ := exL_spec e
        obtain rfl := kT9 t_11 (e0_9.trans (congrArg some eu_11))
        replace e := e_11
        refine jx_sub (lv' := [(0, .ref l0), (1, .int z29)]) [0, 1] rfl ?_
        exact b71 z29 h43 e
      · replace e := ifn c60 e
        refine j_iload_n C dX10_fits_35 rfl rfl ?_
        refine j_iload_n C dX10_fits_36 rfl rfl ?_
        refine j_isub C dX10_fits_37 ?_
        refine j_istore_n (lv1 := [(3, .int (z29 - z42)), (0, .ref l0), (1, .int z29), (2, .int z42)]) C hL dX10_fits_38 rfl (Nat.le_of_ble_eq_true rfl) rfl ?_
        refine j_aload_n C dX10_fits_39 rfl rfl ?_
        refine j_iload_n C dX10_fits_40 rfl rfl ?_
        refine j_iload_n C dX10_fits_41 rfl rfl ?_
        replace e := ob e
        obtain ⟨_, eo50, e⟩ := e
        replace e := ob e
        obtain ⟨x51, ex51, e⟩ := e
        refine j_callV (ci := 10) (RC := RX10) (T := TX10) (N := 38) (As := [.int (z29 - z42), .int z42]) (b := l0) (na := 2) (st := []) (k1 := 0) (n1 := 0) C hr (sX10_hasDivisors ex51) rfl eo50 kX10_116 kim_X10_hasDivisors ksel_X10_hasDivisors kini_X10 kc_X10_hasDivisors (by decide) rfl ⟨(Nat.le_of_ble_eq_true rfl), (Nat.le_of_ble_eq_true rfl)⟩ (Nat.le_of_ble_eq_true rfl) ⟨rfl, rfl, (Nat.le_of_ble_eq_true rfl), (Nat.le_of_ble_eq_true rfl)⟩ dX10_fits_42 ?_
        rintro _ _ ⟨rfl, rfl⟩
        show jx_J X 0 0 45 [(3, .int (z29 - z42)), (0, .ref l0), (1, .int z29), (2, .int z42)] [.int x51] h43
        refine j_if_eq (tgt := 65) C dX10_fits_45 (by decide) (fun c59 => ?_) (fun c59 => ?_)
        · replace e := ifp c59 e
          refine jx_sub (lv' := [(0, .ref l0), (1, .int z29), (2, .int z42)]) [1, 2, 3] rfl ?_
          exact b65 z42 h43 e
        · replace e := ifn c59 e
          refine j_aload_n C dX10_fits_48 rfl rfl ?_
          refine j_iload_n C dX10_fits_49 rfl rfl ?_
          refine j_iload_n C dX10_fits_50 rfl rfl ?_
          replace e := ob e
          obtain ⟨_, eo52, e⟩ := e
          replace e := ob2 e
          obtain ⟨x53, h54, ex53, e⟩ := e
          refine j_callV (ci := 10) (RC := RX10) (T := TX10) (N := 38) (As := [.int (z29 - z42), .int z42]) (b := l0) (na := 2) (st := []) (k1 := 0) (n1 := 0) C hr (sX10_isFresh ex53) rfl eo52 kX10_389 kim_X10_isFresh ksel_X10_isFresh kini_X10 kc_X10_isFresh (by decide) rfl ⟨(Nat.le_of_ble_eq_true rfl), (Nat.le_of_ble_eq_true rfl)⟩ (Nat.le_of_ble_eq_true rfl) ⟨rfl, rfl, (Nat.le_of_ble_eq_true rfl), (Nat.le_of_ble_eq_true rfl)⟩ dX10_fits_51 ?_
          rintro _ _ ⟨rfl, rfl⟩
          show jx_J X 0 0 54 [(3, .int (z29 - z42)), (0, .ref l0), (1, .int z29), (2, .int z42)] [.int x53] h54
          refine j_if_eq (tgt := 65) C dX10_fits_54 (by decide) (fun c58 => ?_) (fun c58 => ?_)
          · replace e := ifp c58 e
            refine jx_sub (lv' := [(0, .ref l0), (1, .int z29), (2, .int z42)]) [1, 2, 3] rfl ?_
            exact b65 z42 h54 e
          · replace e := ifn c58 e
            refine j_aload_n C dX10_fits_57 rfl rfl ?_
            refine j_iload_n C dX10_fits_58 rfl rfl ?_
            refine j_iload_n C dX10_fits_59 rfl rfl ?_
            replace e := ob e
            obtain ⟨_, eo55, e⟩ := e
            replace e := ob2 e
            obtain ⟨x56, h57, ex56, e⟩ := e
            refine j_callV (ci := 10) (RC := RX10) (T := TX10) (N := 38) (As := [.int (z29 - z42), .int z42]) (b := l0) (na := 2) (st := []) (k1 := 0) (n1 := 0) C hr (sX10_placed ex56) rfl eo55 kX10_140 kim_X10_placed ksel_X10_placed kini_X10 kc_X10_placed (by decide) rfl ⟨(Nat.le_of_ble_eq_true rfl), (Nat.le_of_ble_eq_true rfl)⟩ (Nat.le_of_ble_eq_true rfl) ⟨rfl, rfl, (Nat.le_of_ble_eq_true rfl), (Nat.le_of_ble_eq_true rfl)⟩ dX10_fits_60 ?_
            rintro _ _ ⟨rfl, rfl⟩
            show jx_J X 0 0 63 [(3, .int (z29 - z42)), (0, .ref l0), (1, .int z29), (2, .int z42)] [.int x56] h57
            refine j_istore (lv1 := [(4, .int x56), (3, .int (z29 - z42)), (0, .ref l0), (1, .int z29), (2, .int z42)]) C hL dX10_fits_63 (Nat.le_of_ble_eq_true rfl) rfl ?_
            refine jx_sub (lv' := [(0, .ref l0), (1, .int z29), (2, .int z42)]) [2, 3, 4] rfl ?_
            exact b65 z42 h57 e
/-! BorderBasisModel.fit()I -/
noncomputable def BX10_fit_15 (l0 : Nat) (s0 : Nat) (s1 : Int32) (h : jx_H) : Option (Int32 × jx_H) :=
(hp h s0 10 0 (.int s1)).bind fun h1 =>
(hgi h1 l0 10 0).bind fun x2 =>
if x2 ≤ 0 then
 (isO h1 l0 10).bind fun _ =>
 (FX10_keeps l0 (5 : Int32) h1).bind fun h4 =>
 (isO h4 l0 10).bind fun _ =>
 (FX10_fits l0 h4).bind fun h6 =>
 (isO h6 l0 10).bind fun _ =>
 (FX10_n l0 h6).bind fun x8 =>
 some (x8, h6)
else
 some ((0 : Int32), h1)
noncomputable def FX10_fit (l0 : Nat) (h : jx_H) : Option (Int32 × jx_H) :=
(hgr h l0 10 1).bind fun x10 =>
(hal h .int x10 (3 : Int32)).bind fun x11 =>
if x11 = 0 then
 BX10_fit_15 l0 l0 (1 : Int32) h
else
 BX10_fit_15 l0 l0 (0 : Int32) h
def rmX10_fit : Room := { frames := 6, cells := 0, slots := 0, locals := 133 }
set_option maxRecDepth 20000 in
set_option maxHeartbeats 4000000 in
theorem sX10_fit {l0 : Nat} {h : jx_H} {r : Int32} {h9 : jx_H} (e : FX10_fit l0 h = some (r, h9)) : jx_Ct yX10_fit cX10_fit 1 (some .int) rmX10_fit [.ref l0] h (fun r' h' => some (.int r) = r' ∧ h9 = h') := by
  refine jx_Ct.of (own := RX10) (by decide) rfl (Nat.le_of_ble_eq_true rfl) (fun X C hq hr hL hN => ?_)
  refine jx_sub (lv' := [(0, .ref l0)]) [0] rfl ?_
  have b15 : ∀ (y13 : Nat) (y14 : Nat) (y15 : Int32) (h16 : jx_H), BX10_fit_15 y13 y14 y15 h16 = some (r, h9) → jx_J X 0 0 15 [(0, .ref y13)] [.int y15, .ref y14] h16 := by
    intro y13 y14 y15 h16 e
    unfold BX10_fit_15 at e
    replace e := ob e
    obtain ⟨h17, eh17, e⟩ := e
    refine j_put (ci := 10) (RC := RX10) (T := TX10) (N := 38) (ty0 := tyX10) 0 C rfl klX10 tyX10_ok nmX10 (Nat.le_of_ble_eq_true rfl) kX10_91 rfl rfl rfl rfl dX10_fit_15 eh17 ?_
    refine j_aload_n C dX10_fit_18 rfl rfl ?_
    replace e := ob e
    obtain ⟨x18, ex18, e⟩ := e
    refine j_geti (ci := 10) (RC := RX10) (T := TX10) (N := 38) 0 C rfl klX10 (Nat.le_of_ble_eq_true rfl) kX10_91 rfl dX10_fit_19 ex18 ?_
    refine j_if_le (tgt := 27) C dX10_fit_22 (by decide) (fun c25 => ?_) (fun c25 => ?_)
    · replace e := ifp c25 e
      refine j_aload_n C dX10_fit_27 rfl rfl ?_
      refine j_iconst (v := (5 : Int32)) C dX10_fit_28 (by decide) ?_
      replace e := ob e
      obtain ⟨_, eo19, e⟩ := e
      replace e := ob e
      obtain ⟨h20, eh20, e⟩ := e
      refine j_callV (ci := 10) (RC := RX10) (T := TX10) (N := 38) (As := [.int (5 : Int32)]) (b := y13) (na := 1) (st := []) (k1 := 0) (n1 := 0) C hr (sX10_keeps eh20) rfl eo19 kX10_347 kim_X10_keeps ksel_X10_keeps kini_X10 kc_X10_keeps (by decide) rfl ⟨(Nat.le_of_ble_eq_true rfl), (Nat.le_of_ble_eq_true rfl)⟩ (Nat.le_of_ble_eq_true rfl) ⟨rfl, rfl, (Nat.le_of_ble_eq_true rfl), (Nat.le_of_ble_eq_true rfl)⟩ dX10_fit_29 ?_
      rintro _ _ ⟨rfl, rfl⟩
      show jx_J X 0 0 32 [(0, .ref y13)] [] h20
      refine j_aload_n C dX10_fit_32 rfl rfl ?_
      replace e := ob e
      obtain ⟨_, eo21, e⟩ := e
      replace e := ob e
      obtain ⟨h22, eh22, e⟩ := e
      refine j_callV (ci := 10) (RC := RX10) (T := TX10) (N := 38) (As := []) (b := y13) (na := 0) (st := []) (k1 := 0) (n1 := 0) C hr (sX10_fits eh22) rfl eo21 kX10_395 kim_X10_fits ksel_X10_fits kini_X10 kc_X10_fits (by decide) rfl ⟨(Nat.le_of_ble_eq_true rfl), (Nat.le_of_ble_eq_true rfl)⟩ (Nat.le_of_ble_eq_true rfl) ⟨rfl, rfl, (Nat.le_of_ble_eq_true rfl), (Nat.le_of_ble_eq_true rfl)⟩ dX10_fit_33 ?_
      rintro _ _ ⟨rfl, rfl⟩
      show jx_J X 0 0 36 [(0, .ref y13)] [] h22
      refine j_aload_n C dX10_fit_36 rfl rfl ?_
      replace e := ob e
      obtain ⟨_, eo23, e⟩ := e
      replace e := ob e
      obtain ⟨x24, ex24, e⟩ := e
      refine j_callV (ci := 10) (RC := RX10) (T := TX10) (N := 38) (As := []) (b := y13) (na := 0) (st := []) (k1 := 0) (n1 := 0) C hr (sX10_n ex24) rfl eo23 kX10_105 kim_X10_n ksel_X10_n kini_X10 kc_X10_n (by decide) rfl ⟨(Nat.le_of_ble_eq_true rfl), (Nat.le_of_ble_eq_true rfl)⟩ (Nat.le_of_ble_eq_true rfl) ⟨rfl, rfl, (Nat.le_of_ble_eq_true rfl), (Nat.le_of_ble_eq_true rfl)⟩ dX10_fit_37 ?_
      rintro _ _ ⟨rfl, rfl⟩
      show jx_J X 0 0 40 [(0, .ref y13)] [.int x24] h22
      cases e
      exact j_iret C hq rfl dX10_fit_40 ⟨Nat.le_of_ble_eq_true rfl, Nat.le_of_ble_eq_true rfl⟩ ⟨rfl, rfl⟩
    · replace e := ifn c25 e
      refine j_iconst (v := (0 : Int32)) C dX10_fit_25 (by decide) ?_
      cases e
      exact j_iret C hq rfl dX10_fit_26 ⟨Nat.le_of_ble_eq_true rfl, Nat.le_of_ble_eq_true rfl⟩ ⟨rfl, rfl⟩
  unfold FX10_fit at e
  refine j_aload_n C dX10_fit_0 rfl rfl ?_
  refine j_aload_n C dX10_fit_1 rfl rfl ?_
  replace e := ob e
  obtain ⟨x26, ex26, e⟩ := e
  refine j_getr (ci := 10) (RC := RX10) (T := TX10) (N := 38) 1 C rfl klX10 (Nat.le_of_ble_eq_true rfl) kX10_7 rfl dX10_fit_2 ex26 ?_
  refine j_iconst (v := (3 : Int32)) C dX10_fit_5 (by decide) ?_
  replace e := ob e
  obtain ⟨x27, ex27, e⟩ := e
  refine j_iald C dX10_fit_6 ex27 ?_
  refine j_if_ne (tgt := 14) C dX10_fit_7 (by decide) (fun c28 => ?_) (fun c28 => ?_)
  · replace e := ifn c28 e
    refine j_iconst (v := (0 : Int32)) C dX10_fit_14 (by decide) ?_
    exact b15 l0 l0 (0 : Int32) h e
  · replace e := ifp c28 e
    refine j_iconst (v := (1 : Int32)) C dX10_fit_10 (by decide) ?_
    refine j_goto (tgt := 15) C dX10_fit_11 (by decide) ?_
    exact b15 l0 l0 (1 : Int32) h e
/-! BorderBasisModel.hasSameMonomials()Z -/
noncomputable def BX10_hasSameMonomials_82 (l0 : Nat) (l2 : Int32) (s0 : Int32) (h : jx_H) : Option ((Int32 × Int32) ⊕ (Int32)) :=
some (.inl (s0, (l2 + (1 : Int32))))
noncomputable def BX10_hasSameMonomials_81 (l0 : Nat) (l2 : Int32) (h : jx_H) : Option ((Int32 × Int32) ⊕ (Int32)) :=
BX10_hasSameMonomials_82 l0 l2 (0 : Int32) h
noncomputable def LX10_hasSameMonomials_23 (l0 : Nat) (l1 : Int32) (l2 : Int32) (h : jx_H) : Option ((Int32 × Int32) ⊕ (Int32)) :=
(hgr h l0 10 1).bind fun x1 =>
(hal h .int x1 (1 : Int32)).bind fun x2 =>
if x2 ≤ l2 then
 exL (if l1 = 0 ∨ l1 = 1 then some l1 else none)
else
 if l1 = 0 then
  BX10_hasSameMonomials_81 l0 l2 h
 else
  (hgr h l0 10 1).bind fun x4 =>
  (hal h .int x4 ((4 : Int32) + l2)).bind fun x5 =>
  (hgr h l0 10 2).bind fun x6 =>
  (hal h .int x6 ((4 : Int32) + l2)).bind fun x7 =>
  if x5 = x7 then
   (hgr h l0 10 1).bind fun x8 =>
   (hal h .int x8 ((16 : Int32) + l2)).bind fun x9 =>
   (hgr h l0 10 2).bind fun x10 =>
   (hal h .int x10 ((16 : Int32) + l2)).bind fun x11 =>
   if x9 = x11 then
    BX10_hasSameMonomials_82 l0 l2 (1 : Int32) h
   else
    BX10_hasSameMonomials_81 l0 l2 h
  else
   BX10_hasSameMonomials_81 l0 l2 h
noncomputable def BX10_hasSameMonomials_20 (l0 : Nat) (s0 : Int32) (h : jx_H) : Option (Int32) :=
itr (fun s : Int32 × Int32 => LX10_hasSameMonomials_23 l0 s.1 s.2 h) (s0, (0 : Int32))
noncomputable def FX10_hasSameMonomials (l0 : Nat) (h : jx_H) : Option (Int32) :=
(hgr h l0 10 1).bind fun x16 =>
(hal h .int x16 (1 : Int32)).bind fun x17 =>
(hgr h l0 10 2).bind fun x18 =>
(hal h .int x18 (1 : Int32)).bind fun x19 =>
if x17 = x19 then
 BX10_hasSameMonomials_20 l0 (1 : Int32) h
else
 BX10_hasSameMonomials_20 l0 (0 : Int32) h
def rmX10_hasSameMonomials : Room := { frames := 0, cells := 0, slots := 0, locals := 0 }
set_option maxRecDepth 20000 in
set_option maxHeartbeats 4000000 in
theorem sX10_hasSameMonomials {l0 : Nat} {h : jx_H} {r : Int32}  (e : FX10_hasSameMonomials l0 h = some r) : jx_Ct yX10_hasSameMonomials cX10_hasSameMonomials 3 (some .boolean) rmX10_hasSameMonomials [.ref l0] h (fun r' h' => some (.int r) = r' ∧ h = h') := by
  refine jx_Ct.of (own := RX10) (by decide) rfl (Nat.le_of_ble_eq_true rfl) (fun X C hq hr hL hN => ?_)
  refine jx_sub (lv' := [(0, .ref l0)]) [0] rfl ?_
  have b20 : ∀ (y21 : Nat) (y22 : Int32), BX10_hasSameMonomials_20 y21 y22 h = some r → jx_J X 0 0 20 [(0, .ref y21)] [.int y22] h := by
    intro y21 y22 e
    unfold BX10_hasSameMonomials_20 at e
    refine j_istore_n (lv1 := [(1, .int y22), (0, .ref y21)]) C hL dX10_hasSameMonomials_20 rfl (Nat.le_of_ble_eq_true rfl) rfl ?_
    refine j_iconst (v := (0 : Int32)) C dX10_hasSameMonomials_21 (by decide) ?_
    refine j_istore_n (lv1 := [(2, .int (0 : Int32)), (1, .int y22), (0, .ref y21)]) C hL dX10_hasSameMonomials_22 rfl (Nat.le_of_ble_eq_true rfl) rfl ?_
    refine jx_sub (lv' := [(0, .ref y21), (1, .int y22), (2, .int (0 : Int32))]) [2, 1, 0] rfl ?_
    refine itr_ind (s0 := (y22, (0 : Int32))) (fun s : Int32 × Int32 => jx_J X 0 0 23 [(0, .ref y21), (1, .int s.1), (2, .int s.2)] [] h) e ?_
    clear e
    intro s kI2 kT2 e0
    obtain ⟨z23, z24⟩ := s
    obtain ⟨u2, e0_2⟩ := e0
    have e : LX10_hasSameMonomials_23 y21 z23 z24 h = some u2 := e0_2
    have b82 : ∀ (y25 : Int32) (y26 : Int32), BX10_hasSameMonomials_82 y21 y25 y26 h = some u2 → jx_J X 0 0 82 [(0, .ref y21), (2, .int y25)] [.int y26] h := by
      intro y25 y26 e
      unfold BX10_hasSameMonomials_82 at e
      refine j_istore_n (lv1 := [(1, .int y26), (0, .ref y21), (2, .int y25)]) C hL dX10_hasSameMonomials_82 rfl (Nat.le_of_ble_eq_true rfl) rfl ?_
      refine j_iinc (v := (y25 + (1 : Int32))) (lv1 := [(2, .int (y25 + (1 : Int32))), (1, .int y26), (0, .ref y21)]) C hL dX10_hasSameMonomials_83 rfl rfl (Nat.le_of_ble_eq_true rfl) rfl ?_
      refine j_goto (tgt := 23) C dX10_hasSameMonomials_86 (by decide) ?_
      obtain rfl := Option.some.inj e
      refine jx_sub (lv' := [(0, .ref y21), (1, .int y26), (2, .int (y25 + (1 : Int32)))]) [2, 1, 0] rfl ?_
      exact kI2 (y26, (y25 + (1 : Int32))) e0_2
    have b81 : ∀ (y27 : Int32), BX10_hasSameMonomials_81 y21 y27 h = some u2 → jx_J X 0 0 81 [(0, .ref y21), (2, .int y27)] [] h := by
      intro y27 e
      unfold BX10_hasSameMonomials_81 at e
      refine j_iconst (v := (0 : Int32)) C dX10_hasSameMonomials_81 (by decide) ?_
      exact b82 y27 (0 : Int32) e
    unfold LX10_hasSameMonomials_23 at e
    refine j_iload_n C dX10_hasSameMonomials_23 rfl rfl ?_
    refine j_aload_n C dX10_hasSameMonomials_24 rfl rfl ?_
    replace e := ob e
    obtain ⟨x28, ex28, e⟩ := e
    refine j_getr (ci := 10) (RC := RX10) (T := TX10) (N := 38) 1 C rfl klX10 (Nat.le_of_ble_eq_true rfl) kX10_7 rfl dX10_hasSameMonomials_25 ex28 ?_
    refine j_iconst (v := (1 : Int32)) C dX10_hasSameMonomials_28 (by decide) ?_
    replace e := ob e
    obtain ⟨x29, ex29, e⟩ := e
    refine j_iald C dX10_hasSameMonomials_29 ex29 ?_
    refine j_icmp_ge (tgt := 89) C dX10_hasSameMonomials_30 (by decide) (fun c42 => ?_) (fun c42 => ?_)
    · replace e := ifp c42 e
      obtain ⟨t_3, e_3, eu_3⟩ := exL_spec e
      obtain rfl := kT2 t_3 (e0_2.trans (congrArg some eu_3))
      replace e := e_3
      refine j_iload_n C dX10_hasSameMonomials_89 rfl rfl ?_
      by_cases c30 : ¬ (z23 = 0 ∨ z23 = 1)
      · exact nos (ifn c30 e)
      replace c30 := Classical.not_not.mp c30
      replace e := ifp c30 e
      cases e
      exact j_iret C hq (jx_bool c30) dX10_hasSameMonomials_90 ⟨Nat.le_of_ble_eq_true rfl, Nat.le_of_ble_eq_true rfl⟩ ⟨rfl, rfl⟩
    · replace e := ifn c42 e
      refine j_iload_n C dX10_hasSameMonomials_33 rfl rfl ?_
      refine j_if_eq (tgt := 81) C dX10_hasSameMonomials_34 (by decide) (fun c41 => ?_) (fun c41 => ?_)
      · replace e := ifp c41 e
        refine jx_sub (lv' := [(0, .ref y21), (2, .int z24)]) [0, 2] rfl ?_
        exact b81 z24 e
      · replace e := ifn c41 e
        refine j_aload_n C dX10_hasSameMonomials_37 rfl rfl ?_
        replace e := ob e
        obtain ⟨x31, ex31, e⟩ := e
        refine j_getr (ci := 10) (RC := RX10) (T := TX10) (N := 38) 1 C rfl klX10 (Nat.le_of_ble_eq_true rfl) kX10_7 rfl dX10_hasSameMonomials_38 ex31 ?_
        refine j_iconst (v := (4 : Int32)) C dX10_hasSameMonomials_41 (by decide) ?_
        refine j_iload_n C dX10_hasSameMonomials_42 rfl rfl ?_
        refine j_iadd C dX10_hasSameMonomials_43 ?_
        replace e := ob e
        obtain ⟨x32, ex32, e⟩ := e
        refine j_iald C dX10_hasSameMonomials_44 ex32 ?_
        refine j_aload_n C dX10_hasSameMonomials_45 rfl rfl ?_
        replace e := ob e
        obtain ⟨x33, ex33, e⟩ := e
        refine j_getr (ci := 10) (RC := RX10) (T := TX10) (N := 38) 2 C rfl klX10 (Nat.le_of_ble_eq_true rfl) kX10_13 rfl dX10_hasSameMonomials_46 ex33 ?_
        refine j_iconst (v := (4 : Int32)) C dX10_hasSameMonomials_49 (by decide) ?_
        refine j_iload_n C dX10_hasSameMonomials_50 rfl rfl ?_
        refine j_iadd C dX10_hasSameMonomials_51 ?_
        replace e := ob e
        obtain ⟨x34, ex34, e⟩ := e
        refine j_iald C dX10_hasSameMonomials_52 ex34 ?_
        refine j_icmp_ne (tgt := 81) C dX10_hasSameMonomials_53 (by decide) (fun c40 => ?_) (fun c40 => ?_)
        · replace e := ifn c40 e
          refine jx_sub (lv' := [(0, .ref y21), (2, .int z24)]) [0, 2] rfl ?_
          exact b81 z24 e
        · replace e := ifp c40 e
          refine j_aload_n C dX10_hasSameMonomials_56 rfl rfl ?_
          replace e := ob e
          obtain ⟨x35, ex35, e⟩ := e
          refine j_getr (ci := 10) (RC := RX10) (T := TX10) (N := 38) 1 C rfl klX10 (Nat.le_of_ble_eq_true rfl) kX10_7 rfl dX10_hasSameMonomials_57 ex35 ?_
          refine j_bipush (v := (16 : Int32)) C dX10_hasSameMonomials_60 (by decide) ?_
          refine j_iload_n C dX10_hasSameMonomials_62 rfl rfl ?_
          refine j_iadd C dX10_hasSameMonomials_63 ?_
          replace e := ob e
          obtain ⟨x36, ex36, e⟩ := e
          refine j_iald C dX10_hasSameMonomials_64 ex36 ?_
          refine j_aload_n C dX10_hasSameMonomials_65 rfl rfl ?_
          replace e := ob e
          obtain ⟨x37, ex37, e⟩ := e
          refine j_getr (ci := 10) (RC := RX10) (T := TX10) (N := 38) 2 C rfl klX10 (Nat.le_of_ble_eq_true rfl) kX10_13 rfl dX10_hasSameMonomials_66 ex37 ?_
          refine j_bipush (v := (16 : Int32)) C dX10_hasSameMonomials_69 (by decide) ?_
          refine j_iload_n C dX10_hasSameMonomials_71 rfl rfl ?_
          refine j_iadd C dX10_hasSameMonomials_72 ?_
          replace e := ob e
          obtain ⟨x38, ex38, e⟩ := e
          refine j_iald C dX10_hasSameMonomials_73 ex38 ?_
          refine j_icmp_ne (tgt := 81) C dX10_hasSameMonomials_74 (by decide) (fun c39 => ?_) (fun c39 => ?_)
          · replace e := ifn c39 e
            refine jx_sub (lv' := [(0, .ref y21), (2, .int z24)]) [0, 2] rfl ?_
            exact b81 z24 e
          · replace e := ifp c39 e
            refine j_iconst (v := (1 : Int32)) C dX10_hasSameMonomials_77 (by decide) ?_
            refine j_goto (tgt := 82) C dX10_hasSameMonomials_78 (by decide) ?_
            refine jx_sub (lv' := [(0, .ref y21), (2, .int z24)]) [0, 2] rfl ?_
            exact b82 z24 (1 : Int32) e
  unfold FX10_hasSameMonomials at e
  refine j_aload_n C dX10_hasSameMonomials_0 rfl rfl ?_
  replace e := ob e
  obtain ⟨x43, ex43, e⟩ := e
  refine j_getr (ci := 10) (RC := RX10) (T := TX10) (N := 38) 1 C rfl klX10 (Nat.le_of_ble_eq_true rfl) kX10_7 rfl dX10_hasSameMonomials_1 ex43 ?_
  refine j_iconst (v := (1 : Int32)) C dX10_hasSameMonomials_4 (by decide) ?_
  replace e := ob e
  obtain ⟨x44, ex44, e⟩ := e
  refine j_iald C dX10_hasSameMonomials_5 ex44 ?_
  refine j_aload_n C dX10_hasSameMonomials_6 rfl rfl ?_
  replace e := ob e
  obtain ⟨x45, ex45, e⟩ := e
  refine j_getr (ci := 10) (RC := RX10) (T := TX10) (N := 38) 2 C rfl klX10 (Nat.le_of_ble_eq_true rfl) kX10_13 rfl dX10_hasSameMonomials_7 ex45 ?_
  refine j_iconst (v := (1 : Int32)) C dX10_hasSameMonomials_10 (by decide) ?_
  replace e := ob e
  obtain ⟨x46, ex46, e⟩ := e
  refine j_iald C dX10_hasSameMonomials_11 ex46 ?_
  refine j_icmp_ne (tgt := 19) C dX10_hasSameMonomials_12 (by decide) (fun c47 => ?_) (fun c47 => ?_)
  · replace e := ifn c47 e
    refine j_iconst (v := (0 : Int32)) C dX10_hasSameMonomials_19 (by decide) ?_
    exact b20 l0 (0 : Int32) e
  · replace e := ifp c47 e
    refine j_iconst (v := (1 : Int32)) C dX10_hasSameMonomials_15 (by decide) ?_
    refine j_goto (tgt := 20) C dX10_hasSameMonomials_16 (by decide) ?_
    exact b20 l0 (1 : Int32) e
/-! BorderBasisModel.misfits()I -/
noncomputable def BX10_misfits_136 (l0 : Nat) (l1 : Int32) (h : jx_H) : Option (Int32 × jx_H) :=
(hgr h l0 10 2).bind fun x1 =>
(hgr h l0 10 1).bind fun x2 =>
(FX10_copies x1 (0 : Int32) x2 (0 : Int32) h).bind fun h3 =>
some (l1, h3)
noncomputable def BX10_misfits_128 (l0 : Nat) (l2 : Int32) (s0 : Int32) (s1 : Int32) (h : jx_H) : Option ((Int32 × Int32) ⊕ (Int32 × jx_H)) :=
some (.inl ((s0 + s1), (l2 + (1 : Int32))))
noncomputable def BX10_misfits_111 (l0 : Nat) (l1 : Int32) (l2 : Int32) (l4 : Int32) (s0 : Int32) (h : jx_H) : Option ((Int32 × Int32) ⊕ ((Int32 × Int32) ⊕ (Int32 × jx_H))) :=
some (.inl (s0, (l4 + (1 : Int32))))
noncomputable def BX10_misfits_110 (l0 : Nat) (l1 : Int32) (l2 : Int32) (l4 : Int32) (h : jx_H) : Option ((Int32 × Int32) ⊕ ((Int32 × Int32) ⊕ (Int32 × jx_H))) :=
BX10_misfits_111 l0 l1 l2 l4 (0 : Int32) h
noncomputable def LX10_misfits_68 (l0 : Nat) (l1 : Int32) (l2 : Int32) (l3 : Int32) (l4 : Int32) (h : jx_H) : Option ((Int32 × Int32) ⊕ ((Int32 × Int32) ⊕ (Int32 × jx_H))) :=
(isO h l0 10).bind fun _ =>
(FX10_n l0 h).bind fun x7 =>
if x7 ≤ l4 then
 exL (if l3 = 0 then
  BX10_misfits_128 l0 l2 l1 (1 : Int32) h
 else
  BX10_misfits_128 l0 l2 l1 (0 : Int32) h)
else
 if l3 = 0 then
  BX10_misfits_110 l0 l1 l2 l4 h
 else
  (hgr h l0 10 1).bind fun x9 =>
  (FX10_ruleAt l2 l4 h).bind fun x10 =>
  (hal h .int x9 x10).bind fun x11 =>
  (hgr h l0 10 2).bind fun x12 =>
  (FX10_ruleAt l2 l4 h).bind fun x13 =>
  (hal h .int x12 x13).bind fun x14 =>
  if x11 = x14 then
   BX10_misfits_111 l0 l1 l2 l4 (1 : Int32) h
  else
   BX10_misfits_110 l0 l1 l2 l4 h
noncomputable def LX10_misfits_48 (l0 : Nat) (l1 : Int32) (l2 : Int32) (h : jx_H) : Option ((Int32 × Int32) ⊕ (Int32 × jx_H)) :=
(hgr h l0 10 1).bind fun x4 =>
(hal h .int x4 (2 : Int32)).bind fun x5 =>
if x5 ≤ l2 then
 exL (BX10_misfits_136 l0 l1 h)
else
 if l1 = (-1 : Int32) then
  exL (BX10_misfits_136 l0 l1 h)
 else
  itr (fun s : Int32 × Int32 => LX10_misfits_68 l0 l1 l2 s.1 s.2 h) ((1 : Int32), (0 : Int32))
noncomputable def BX10_misfits_45 (l0 : Nat) (s0 : Int32) (h : jx_H) : Option (Int32 × jx_H) :=
itr (fun s : Int32 × Int32 => LX10_misfits_48 l0 s.1 s.2 h) (s0, (0 : Int32))
noncomputable def FX10_misfits (l0 : Nat) (h : jx_H) : Option (Int32 × jx_H) :=
(hp h l0 10 0 (.int (0 : Int32))).bind fun h20 =>
(hgr h20 l0 10 1).bind fun x21 =>
(hal h20 .int x21 (3 : Int32)).bind fun x22 =>
if x22 = 0 then
 some ((-1 : Int32), h20)
else
 (hgr h20 l0 10 1).bind fun x23 =>
 (hgr h20 l0 10 2).bind fun x24 =>
 (FX10_copies x23 (0 : Int32) x24 (0 : Int32) h20).bind fun h25 =>
 (isO h25 l0 10).bind fun _ =>
 (FX10_fits l0 h25).bind fun h27 =>
 (isO h27 l0 10).bind fun _ =>
 (FX10_hasSameMonomials l0 h27).bind fun x29 =>
 if x29 = 0 then
  BX10_misfits_45 l0 (-1 : Int32) h27
 else
  BX10_misfits_45 l0 (0 : Int32) h27
def rmX10_misfits : Room := { frames := 6, cells := 0, slots := 0, locals := 133 }
set_option maxRecDepth 20000 in
set_option maxHeartbeats 4000000 in
theorem sX10_misfits {l0 : Nat} {h : jx_H} {r : Int32} {h9 : jx_H} (e : FX10_misfits l0 h = some (r, h9)) : jx_Ct yX10_misfits cX10_misfits 5 (some .int) rmX10_misfits [.ref l0] h (fun r' h' => some (.int r) = r' ∧ h9 = h') := by
  refine jx_Ct.of (own := RX10) (by decide) rfl (Nat.le_of_ble_eq_true rfl) (fun X C hq hr hL hN => ?_)
  refine jx_sub (lv' := [(0, .ref l0)]) [0] rfl ?_
  have b136 : ∀ (y32 : Nat) (y33 : Int32) (h34 : jx_H), BX10_misfits_136 y32 y33 h34 = some (r, h9) → jx_J X 0 0 136 [(0, .ref y32), (1, .int y33)] [] h34 := by
    intro y32 y33 h34 e
    unfold BX10_misfits_136 at e
    refine j_aload_n C dX10_misfits_136 rfl rfl ?_
    replace e := ob e
    obtain ⟨x35, ex35, e⟩ := e
    refine j_getr (ci := 10) (RC := RX10) (T := TX10) (N := 38) 2 C rfl klX10 (Nat.le_of_ble_eq_true rfl) kX10_13 rfl dX10_misfits_137 ex35 ?_
    refine j_iconst (v := (0 : Int32)) C dX10_misfits_140 (by decide) ?_
    refine j_aload_n C dX10_misfits_141 rfl rfl ?_
    replace e := ob e
    obtain ⟨x36, ex36, e⟩ := e
    refine j_getr (ci := 10) (RC := RX10) (T := TX10) (N := 38) 1 C rfl klX10 (Nat.le_of_ble_eq_true rfl) kX10_7 rfl dX10_misfits_142 ex36 ?_
    refine j_iconst (v := (0 : Int32)) C dX10_misfits_145 (by decide) ?_
    replace e := ob e
    obtain ⟨h37, eh37, e⟩ := e
    refine j_callS (As := [.ref x35, .int (0 : Int32), .ref x36, .int (0 : Int32)]) (na := 4) (st := []) (k1 := 0) (n1 := 0) C hr (sX10_copies eh37) kX10_136 kst_X10_copies kini_X10 kc_X10_copies (by decide) rfl ⟨(Nat.le_of_ble_eq_true rfl), (Nat.le_of_ble_eq_true rfl)⟩ (Nat.le_of_ble_eq_true rfl) ⟨rfl, rfl, (Nat.le_of_ble_eq_true rfl), (Nat.le_of_ble_eq_true rfl)⟩ dX10_misfits_146 ?_
    rintro _ _ ⟨rfl, rfl⟩
    show jx_J X 0 0 149 [(0, .ref y32), (1, .int y33)] [] h37
    refine j_iload_n C dX10_misfits_149 rfl rfl ?_
    cases e
    exact j_iret C hq rfl dX10_misfits_150 ⟨Nat.le_of_ble_eq_true rfl, Nat.le_of_ble_eq_true rfl⟩ ⟨rfl, rfl⟩
  have b45 : ∀ (y38 : Nat) (y39 : Int32) (h40 : jx_H), BX10_misfits_45 y38 y39 h40 = some (r, h9) → jx_J X 0 0 45 [(0, .ref y38)] [.int y39] h40 := by
    intro y38 y39 h40 e
    unfold BX10_misfits_45 at e
    refine j_istore_n (lv1 := [(1, .int y39), (0, .ref y38)]) C hL dX10_misfits_45 rfl (Nat.le_of_ble_eq_true rfl) rfl ?_
    refine j_iconst (v := (0 : Int32)) C dX10_misfits_46 (by decide) ?_
    refine j_istore_n (lv1 := [(2, .int (0 : Int32)), (1, .int y39), (0, .ref y38)]) C hL dX10_misfits_47 rfl (Nat.le_of_ble_eq_true rfl) rfl ?_
    refine jx_sub (lv' := [(0, .ref y38), (1, .int y39), (2, .int (0 : Int32))]) [2, 1, 0] rfl ?_
    refine itr_ind (s0 := (y39, (0 : Int32))) (fun s : Int32 × Int32 => jx_J X 0 0 48 [(0, .ref y38), (1, .int s.1), (2, .int s.2)] [] h40) e ?_
    clear e
    intro s kI4 kT4 e0
    obtain ⟨z41, z42⟩ := s
    obtain ⟨u4, e0_4⟩ := e0
    have e : LX10_misfits_48 y38 z41 z42 h40 = some u4 := e0_4
    have b128 : ∀ (y43 : Int32) (y44 : Int32) (y45 : Int32), BX10_misfits_128 y38 y43 y44 y45 h40 = some u4 → jx_J X 0 0 128 [(0, .ref y38), (2, .int y43)] [.int y45, .int y44] h40 := by
      intro y43 y44 y45 e
      unfold BX10_misfits_128 at e
      refine j_iadd C dX10_misfits_128 ?_
      refine j_istore_n (lv1 := [(1, .int (y44 + y45)), (0, .ref y38), (2, .int y43)]) C hL dX10_misfits_129 rfl (Nat.le_of_ble_eq_true rfl) rfl ?_
      refine j_iinc (v := (y43 + (1 : Int32))) (lv1 := [(2, .int (y43 + (1 : Int32))), (1, .int (y44 + y45)), (0, .ref y38)]) C hL dX10_misfits_130 rfl rfl (Nat.le_of_ble_eq_true rfl) rfl ?_
      refine j_goto (tgt := 48) C dX10_misfits_133 (by decide) ?_
      obtain rfl := Option.some.inj e
      refine jx_sub (lv' := [(0, .ref y38), (1, .int (y44 + y45)), (2, .int (y43 + (1 : Int32)))]) [2, 1, 0] rfl ?_
      exact kI4 ((y44 + y45), (y43 + (1 : Int32))) e0_4
    unfold LX10_misfits_48 at e
    refine j_iload_n C dX10_misfits_48 rfl rfl ?_
    refine j_aload_n C dX10_misfits_49 rfl rfl ?_
    replace e := ob e
    obtain ⟨x46, ex46, e⟩ := e
    refine j_getr (ci := 10) (RC := RX10) (T := TX10) (N := 38) 1 C rfl klX10 (Nat.le_of_ble_eq_true rfl) kX10_7 rfl dX10_misfits_50 ex46 ?_
    refine j_iconst (v := (2 : Int32)) C dX10_misfits_53 (by decide) ?_
    replace e := ob e
    obtain ⟨x47, ex47, e⟩ := e
    refine j_iald C dX10_misfits_54 ex47 ?_
    refine j_icmp_ge (tgt := 136) C dX10_misfits_55 (by decide) (fun c66 => ?_) (fun c66 => ?_)
    · replace e := ifp c66 e
      obtain ⟨t_5, e_5, eu_5⟩ := exL_spec e
      obtain rfl := kT4 t_5 (e0_4.trans (congrArg some eu_5))
      replace e := e_5
      refine jx_sub (lv' := [(0, .ref y38), (1, .int z41)]) [0, 1] rfl ?_
      exact b136 y38 z41 h40 e
    · replace e := ifn c66 e
      refine j_iload_n C dX10_misfits_58 rfl rfl ?_
      refine j_iconst (v := (-1 : Int32)) C dX10_misfits_59 (by decide) ?_
      refine j_icmp_eq (tgt := 136) C dX10_misfits_60 (by decide) (fun c65 => ?_) (fun c65 => ?_)
      · replace e := ifp c65 e
        obtain ⟨t_6, e_6, eu_6⟩ := exL_spec e
        obtain rfl := kT4 t_6 (e0_4.trans (congrArg some eu_6))
        replace e := e_6
        refine jx_sub (lv' := [(0, .ref y38), (1, .int z41)]) [0, 1] rfl ?_
        exact b136 y38 z41 h40 e
      · replace e := ifn c65 e
        refine j_iconst (v := (1 : Int32)) C dX10_misfits_63 (by decide) ?_
        refine j_istore_n (lv1 := [(3, .int (1 : Int32)), (0, .ref y38), (1, .int z41), (2, .int z42)]) C hL dX10_misfits_64 rfl (Nat.le_of_ble_eq_true rfl) rfl ?_
        refine j_iconst (v := (0 : Int32)) C dX10_misfits_65 (by decide) ?_
        refine j_istore (lv1 := [(4, .int (0 : Int32)), (3, .int (1 : Int32)), (0, .ref y38), (1, .int z41), (2, .int z42)]) C hL dX10_misfits_66 (Nat.le_of_ble_eq_true rfl) rfl ?_
        refine jx_sub (lv' := [(0, .ref y38), (1, .int z41), (2, .int z42), (3, .int (1 : Int32)), (4, .int (0 : Int32))]) [2, 3, 4, 1, 0] rfl ?_
        refine itr_ind (s0 := ((1 : Int32), (0 : Int32))) (fun s : Int32 × Int32 => jx_J X 0 0 68 [(0, .ref y38), (1, .int z41), (2, .int z42), (3, .int s.1), (4, .int s.2)] [] h40) e ?_
        clear e
        intro s kI7 kT7 e0
        obtain ⟨z48, z49⟩ := s
        obtain ⟨u7, e0_7⟩ := e0
        have e : LX10_misfits_68 y38 z41 z42 z48 z49 h40 = some u7 := e0_7
        have b111 : ∀ (y50 : Int32) (y51 : Int32), BX10_misfits_111 y38 z41 z42 y50 y51 h40 = some u7 → jx_J X 0 0 111 [(0, .ref y38), (1, .int z41), (2, .int z42), (4, .int y50)] [.int y51] h40 := by
          intro y50 y51 e
          unfold BX10_misfits_111 at e
          refine j_istore_n (lv1 := [(3, .int y51), (0, .ref y38), (1, .int z41), (2, .int z42), (4, .int y50)]) C hL dX10_misfits_111 rfl (Nat.le_of_ble_eq_true rfl) rfl ?_
          refine j_iinc (v := (y50 + (1 : Int32))) (lv1 := [(4, .int (y50 + (1 : Int32))), (3, .int y51), (0, .ref y38), (1, .int z41), (2, .int z42)]) C hL dX10_misfits_112 rfl rfl (Nat.le_of_ble_eq_true rfl) rfl ?_
          refine j_goto (tgt := 68) C dX10_misfits_115 (by decide) ?_
          obtain rfl := Option.some.inj e
          refine jx_sub (lv' := [(0, .ref y38), (1, .int z41), (2, .int z42), (3, .int y51), (4, .int (y50 + (1 : Int32)))]) [2, 3, 4, 1, 0] rfl ?_
          exact kI7 (y51, (y50 + (1 : Int32))) e0_7
        have b110 : ∀ (y52 : Int32), BX10_misfits_110 y38 z41 z42 y52 h40 = some u7 → jx_J X 0 0 110 [(0, .ref y38), (1, .int z41), (2, .int z42), (4, .int y52)] [] h40 := by
          intro y52 e
          unfold BX10_misfits_110 at e
          refine j_iconst (v := (0 : Int32)) C dX10_misfits_110 (by decide) ?_
          exact b111 y52 (0 : Int32) e
        unfold LX10_misfits_68 at e
        refine j_iload C dX10_misfits_68 rfl ?_
        refine j_aload_n C dX10_misfits_70 rfl rfl ?_
        replace e := ob e
        obtain ⟨_, eo53, e⟩ := e
        replace e := ob e
        obtain ⟨x54, ex54, e⟩ := e
        refine j_callV (ci := 10) (RC := RX10) (T := TX10) (N := 38) (As := []) (b := y38) (na := 0) (st := [.int z49]) (k1 := 0) (n1 := 0) C hr (sX10_n ex54) rfl eo53 kX10_105 kim_X10_n ksel_X10_n kini_X10 kc_X10_n (by decide) rfl ⟨(Nat.le_of_ble_eq_true rfl), (Nat.le_of_ble_eq_true rfl)⟩ (Nat.le_of_ble_eq_true rfl) ⟨rfl, rfl, (Nat.le_of_ble_eq_true rfl), (Nat.le_of_ble_eq_true rfl)⟩ dX10_misfits_71 ?_
        rintro _ _ ⟨rfl, rfl⟩
        show jx_J X 0 0 74 [(0, .ref y38), (1, .int z41), (2, .int z42), (3, .int z48), (4, .int z49)] [.int x54, .int z49] h40
        refine j_icmp_ge (tgt := 118) C dX10_misfits_74 (by decide) (fun c64 => ?_) (fun c64 => ?_)
        · replace e := ifp c64 e
          obtain ⟨t_8, e_8, eu_8⟩ := exL_spec e
          obtain rfl := kT7 t_8 (e0_7.trans (congrArg some eu_8))
          replace e := e_8
          refine j_iload_n C dX10_misfits_118 rfl rfl ?_
          refine j_iload_n C dX10_misfits_119 rfl rfl ?_
          refine j_if_eq (tgt := 127) C dX10_misfits_120 (by decide) (fun c55 => ?_) (fun c55 => ?_)
          · replace e := ifp c55 e
            refine j_iconst (v := (1 : Int32)) C dX10_misfits_127 (by decide) ?_
            refine jx_sub (lv' := [(0, .ref y38), (2, .int z42)]) [0, 2] rfl ?_
            exact b128 z42 z41 (1 : Int32) e
          · replace e := ifn c55 e
            refine j_iconst (v := (0 : Int32)) C dX10_misfits_123 (by decide) ?_
            refine j_goto (tgt := 128) C dX10_misfits_124 (by decide) ?_
            refine jx_sub (lv' := [(0, .ref y38), (2, .int z42)]) [0, 2] rfl ?_
            exact b128 z42 z41 (0 : Int32) e
        · replace e := ifn c64 e
          refine j_iload_n C dX10_misfits_77 rfl rfl ?_
          refine j_if_eq (tgt := 110) C dX10_misfits_78 (by decide) (fun c63 => ?_) (fun c63 => ?_)
          · replace e := ifp c63 e
            refine jx_sub (lv' := [(0, .ref y38), (1, .int z41), (2, .int z42), (4, .int z49)]) [0, 1, 2, 4] rfl ?_
            exact b110 z49 e
          · replace e := ifn c63 e
            refine j_aload_n C dX10_misfits_81 rfl rfl ?_
            replace e := ob e
            obtain ⟨x56, ex56, e⟩ := e
            refine j_getr (ci := 10) (RC := RX10) (T := TX10) (N := 38) 1 C rfl klX10 (Nat.le_of_ble_eq_true rfl) kX10_7 rfl dX10_misfits_82 ex56 ?_
            refine j_iload_n C dX10_misfits_85 rfl rfl ?_
            refine j_iload C dX10_misfits_86 rfl ?_
            replace e := ob e
            obtain ⟨x57, ex57, e⟩ := e
            refine j_callS (As := [.int z42, .int z49]) (na := 2) (st := [.ref x56]) (k1 := 0) (n1 := 0) C hr (sX10_ruleAt ex57) kX10_130 kst_X10_ruleAt kini_X10 kc_X10_ruleAt (by decide) rfl ⟨(Nat.le_of_ble_eq_true rfl), (Nat.le_of_ble_eq_true rfl)⟩ (Nat.le_of_ble_eq_true rfl) ⟨rfl, rfl, (Nat.le_of_ble_eq_true rfl), (Nat.le_of_ble_eq_true rfl)⟩ dX10_misfits_88 ?_
            rintro _ _ ⟨rfl, rfl⟩
            show jx_J X 0 0 91 [(0, .ref y38), (1, .int z41), (2, .int z42), (3, .int z48), (4, .int z49)] [.int x57, .ref x56] h40
            replace e := ob e
            obtain ⟨x58, ex58, e⟩ := e
            refine j_iald C dX10_misfits_91 ex58 ?_
            refine j_aload_n C dX10_misfits_92 rfl rfl ?_
            replace e := ob e
            obtain ⟨x59, ex59, e⟩ := e
            refine j_getr (ci := 10) (RC := RX10) (T := TX10) (N := 38) 2 C rfl klX10 (Nat.le_of_ble_eq_true rfl) kX10_13 rfl dX10_misfits_93 ex59 ?_
            refine j_iload_n C dX10_misfits_96 rfl rfl ?_
            refine j_iload C dX10_misfits_97 rfl ?_
            replace e := ob e
            obtain ⟨x60, ex60, e⟩ := e
            refine j_callS (As := [.int z42, .int z49]) (na := 2) (st := [.ref x59, .int x58]) (k1 := 0) (n1 := 0) C hr (sX10_ruleAt ex60) kX10_130 kst_X10_ruleAt kini_X10 kc_X10_ruleAt (by decide) rfl ⟨(Nat.le_of_ble_eq_true rfl), (Nat.le_of_ble_eq_true rfl)⟩ (Nat.le_of_ble_eq_true rfl) ⟨rfl, rfl, (Nat.le_of_ble_eq_true rfl), (Nat.le_of_ble_eq_true rfl)⟩ dX10_misfits_99 ?_
            rintro _ _ ⟨rfl, rfl⟩
            show jx_J X 0 0 102 [(0, .ref y38), (1, .int z41), (2, .int z42), (3, .int z48), (4, .int z49)] [.int x60, .ref x59, .int x58] h40
            replace e := ob e
            obtain ⟨x61, ex61, e⟩ := e
            refine j_iald C dX10_misfits_102 ex61 ?_
            refine j_icmp_ne (tgt := 110) C dX10_misfits_103 (by decide) (fun c62 => ?_) (fun c62 => ?_)
            · replace e := ifn c62 e
              refine jx_sub (lv' := [(0, .ref y38), (1, .int z41), (2, .int z42), (4, .int z49)]) [0, 1, 2, 4] rfl ?_
              exact b110 z49 e
            · replace e := ifp c62 e
              refine j_iconst (v := (1 : Int32)) C dX10_misfits_106 (by decide) ?_
              refine j_goto (tgt := 111) C dX10_misfits_107 (by decide) ?_
              refine jx_sub (lv' := [(0, .ref y38), (1, .int z41), (2, .int z42), (4, .int z49)]) [0, 1, 2, 4] rfl ?_
              exact b111 z49 (1 : Int32) e
  unfold FX10_misfits at e
  refine j_aload_n C dX10_misfits_0 rfl rfl ?_
  refine j_iconst (v := (0 : Int32)) C dX10_misfits_1 (by decide) ?_
  replace e := ob e
  obtain ⟨h67, eh67, e⟩ := e
  refine j_put (ci := 10) (RC := RX10) (T := TX10) (N := 38) (ty0 := tyX10) 0 C rfl klX10 tyX10_ok nmX10 (Nat.le_of_ble_eq_true rfl) kX10_91 rfl rfl rfl rfl dX10_misfits_2 eh67 ?_
  refine j_aload_n C dX10_misfits_5 rfl rfl ?_
  replace e := ob e
  obtain ⟨x68, ex68, e⟩ := e
  refine j_getr (ci := 10) (RC := RX10) (T := TX10) (N := 38) 1 C rfl klX10 (Nat.le_of_ble_eq_true rfl) kX10_7 rfl dX10_misfits_6 ex68 ?_
  refine j_iconst (v := (3 : Int32)) C dX10_misfits_9 (by decide) ?_
  replace e := ob e
  obtain ⟨x69, ex69, e⟩ := e
  refine j_iald C dX10_misfits_10 ex69 ?_
  refine j_if_ne (tgt := 16) C dX10_misfits_11 (by decide) (fun c78 => ?_) (fun c78 => ?_)
  · replace e := ifn c78 e
    refine j_aload_n C dX10_misfits_16 rfl rfl ?_
    replace e := ob e
    obtain ⟨x70, ex70, e⟩ := e
    refine j_getr (ci := 10) (RC := RX10) (T := TX10) (N := 38) 1 C rfl klX10 (Nat.le_of_ble_eq_true rfl) kX10_7 rfl dX10_misfits_17 ex70 ?_
    refine j_iconst (v := (0 : Int32)) C dX10_misfits_20 (by decide) ?_
    refine j_aload_n C dX10_misfits_21 rfl rfl ?_
    replace e := ob e
    obtain ⟨x71, ex71, e⟩ := e
    refine j_getr (ci := 10) (RC := RX10) (T := TX10) (N := 38) 2 C rfl klX10 (Nat.le_of_ble_eq_true rfl) kX10_13 rfl dX10_misfits_22 ex71 ?_
    refine j_iconst (v := (0 : Int32)) C dX10_misfits_25 (by decide) ?_
    replace e := ob e
    obtain ⟨h72, eh72, e⟩ := e
    refine j_callS (As := [.ref x70, .int (0 : Int32), .ref x71, .int (0 : Int32)]) (na := 4) (st := []) (k1 := 0) (n1 := 0) C hr (sX10_copies eh72) kX10_136 kst_X10_copies kini_X10 kc_X10_copies (by decide) rfl ⟨(Nat.le_of_ble_eq_true rfl), (Nat.le_of_ble_eq_true rfl)⟩ (Nat.le_of_ble_eq_true rfl) ⟨rfl, rfl, (Nat.le_of_ble_eq_true rfl), (Nat.le_of_ble_eq_true rfl)⟩ dX10_misfits_26 ?_
    rintro _ _ ⟨rfl, rfl⟩
    show jx_J X 0 0 29 [(0, .ref l0)] [] h72
    refine j_aload_n C dX10_misfits_29 rfl rfl ?_
    replace e := ob e
    obtain ⟨_, eo73, e⟩ := e
    replace e := ob e
    obtain ⟨h74, eh74, e⟩ := e
    refine j_callV (ci := 10) (RC := RX10) (T := TX10) (N := 38) (As := []) (b := l0) (na := 0) (st := []) (k1 := 0) (n1 := 0) C hr (sX10_fits eh74) rfl eo73 kX10_395 kim_X10_fits ksel_X10_fits kini_X10 kc_X10_fits (by decide) rfl ⟨(Nat.le_of_ble_eq_true rfl), (Nat.le_of_ble_eq_true rfl)⟩ (Nat.le_of_ble_eq_true rfl) ⟨rfl, rfl, (Nat.le_of_ble_eq_true rfl), (Nat.le_of_ble_eq_true rfl)⟩ dX10_misfits_30 ?_
    rintro _ _ ⟨rfl, rfl⟩
    show jx_J X 0 0 33 [(0, .ref l0)] [] h74
    refine j_aload_n C dX10_misfits_33 rfl rfl ?_
    replace e := ob e
    obtain ⟨_, eo75, e⟩ := e
    replace e := ob e
    obtain ⟨x76, ex76, e⟩ := e
    refine j_callV (ci := 10) (RC := RX10) (T := TX10) (N := 38) (As := []) (b := l0) (na := 0) (st := []) (k1 := 0) (n1 := 0) C hr (sX10_hasSameMonomials ex76) rfl eo75 kX10_398 kim_X10_hasSameMonomials ksel_X10_hasSameMonomials kini_X10 kc_X10_hasSameMonomials (by decide) rfl ⟨(Nat.le_of_ble_eq_true rfl), (Nat.le_of_ble_eq_true rfl)⟩ (Nat.le_of_ble_eq_true rfl) ⟨rfl, rfl, (Nat.le_of_ble_eq_true rfl), (Nat.le_of_ble_eq_true rfl)⟩ dX10_misfits_34 ?_
    rintro _ _ ⟨rfl, rfl⟩
    show jx_J X 0 0 37 [(0, .ref l0)] [.int x76] h74
    refine j_if_eq (tgt := 44) C dX10_misfits_37 (by decide) (fun c77 => ?_) (fun c77 => ?_)
    · replace e := ifp c77 e
      refine j_iconst (v := (-1 : Int32)) C dX10_misfits_44 (by decide) ?_
      exact b45 l0 (-1 : Int32) h74 e
    · replace e := ifn c77 e
      refine j_iconst (v := (0 : Int32)) C dX10_misfits_40 (by decide) ?_
      refine j_goto (tgt := 45) C dX10_misfits_41 (by decide) ?_
      exact b45 l0 (0 : Int32) h74 e
  · replace e := ifp c78 e
    refine j_iconst (v := (-1 : Int32)) C dX10_misfits_14 (by decide) ?_
    cases e
    exact j_iret C hq rfl dX10_misfits_15 ⟨Nat.le_of_ble_eq_true rfl, Nat.le_of_ble_eq_true rfl⟩ ⟨rfl, rfl⟩
/-! BorderBasisModel.undo()I -/
noncomputable def FX10_undo (l0 : Nat) (h : jx_H) : Option (Int32 × jx_H) :=
(hp h l0 10 0 (.int (0 : Int32))).bind fun h1 =>
(hgi h1 l0 10 5).bind fun x2 =>
if x2 = 0 then
 some ((-1 : Int32), h1)
else
 (hgi h1 l0 10 5).bind fun x3 =>
 (hp h1 l0 10 5 (.int (x3 - (1 : Int32)))).bind fun h4 =>
 (hgr h4 l0 10 4).bind fun x5 =>
 (hgi h4 l0 10 5).bind fun x6 =>
 (hgr h4 l0 10 1).bind fun x7 =>
 (FX10_copies x5 ((248 : Int32) * x6) x7 (0 : Int32) h4).bind fun h8 =>
 (hgi h8 l0 10 5).bind fun x9 =>
 some (x9, h8)
def rmX10_undo : Room := { frames := 1, cells := 0, slots := 0, locals := 24 }
set_option maxRecDepth 20000 in
set_option maxHeartbeats 4000000 in
theorem sX10_undo {l0 : Nat} {h : jx_H} {r : Int32} {h9 : jx_H} (e : FX10_undo l0 h = some (r, h9)) : jx_Ct yX10_undo cX10_undo 1 (some .int) rmX10_undo [.ref l0] h (fun r' h' => some (.int r) = r' ∧ h9 = h') := by
  refine jx_Ct.of (own := RX10) (by decide) rfl (Nat.le_of_ble_eq_true rfl) (fun X C hq hr hL hN => ?_)
  refine jx_sub (lv' := [(0, .ref l0)]) [0] rfl ?_
  unfold FX10_undo at e
  refine j_aload_n C dX10_undo_0 rfl rfl ?_
  refine j_iconst (v := (0 : Int32)) C dX10_undo_1 (by decide) ?_
  replace e := ob e
  obtain ⟨h11, eh11, e⟩ := e
  refine j_put (ci := 10) (RC := RX10) (T := TX10) (N := 38) (ty0 := tyX10) 0 C rfl klX10 tyX10_ok nmX10 (Nat.le_of_ble_eq_true rfl) kX10_91 rfl rfl rfl rfl dX10_undo_2 eh11 ?_
  refine j_aload_n C dX10_undo_5 rfl rfl ?_
  replace e := ob e
  obtain ⟨x12, ex12, e⟩ := e
  refine j_geti (ci := 10) (RC := RX10) (T := TX10) (N := 38) 5 C rfl klX10 (Nat.le_of_ble_eq_true rfl) kX10_251 rfl dX10_undo_6 ex12 ?_
  refine j_if_ne (tgt := 14) C dX10_undo_9 (by decide) (fun c20 => ?_) (fun c20 => ?_)
  · replace e := ifn c20 e
    refine j_aload_n C dX10_undo_14 rfl rfl ?_
    refine j_dup C dX10_undo_15 rfl ?_
    replace e := ob e
    obtain ⟨x13, ex13, e⟩ := e
    refine j_geti (ci := 10) (RC := RX10) (T := TX10) (N := 38) 5 C rfl klX10 (Nat.le_of_ble_eq_true rfl) kX10_251 rfl dX10_undo_16 ex13 ?_
    refine j_iconst (v := (1 : Int32)) C dX10_undo_19 (by decide) ?_
    refine j_isub C dX10_undo_20 ?_
    replace e := ob e
    obtain ⟨h14, eh14, e⟩ := e
    refine j_put (ci := 10) (RC := RX10) (T := TX10) (N := 38) (ty0 := tyX10) 5 C rfl klX10 tyX10_ok nmX10 (Nat.le_of_ble_eq_true rfl) kX10_251 rfl rfl rfl rfl dX10_undo_21 eh14 ?_
    refine j_aload_n C dX10_undo_24 rfl rfl ?_
    replace e := ob e
    obtain ⟨x15, ex15, e⟩ := e
    refine j_getr (ci := 10) (RC := RX10) (T := TX10) (N := 38) 4 C rfl klX10 (Nat.le_of_ble_eq_true rfl) kX10_19 rfl dX10_undo_25 ex15 ?_
    refine j_sipush (v := (248 : Int32)) C dX10_undo_28 (by decide) ?_
    refine j_aload_n C dX10_undo_31 rfl rfl ?_
    replace e := ob e
    obtain ⟨x16, ex16, e⟩ := e
    refine j_geti (ci := 10) (RC := RX10) (T := TX10) (N := 38) 5 C rfl klX10 (Nat.le_of_ble_eq_true rfl) kX10_251 rfl dX10_undo_32 ex16 ?_
    refine j_imul C dX10_undo_35 ?_
    refine j_aload_n C dX10_undo_36 rfl rfl ?_
    replace e := ob e
    obtain ⟨x17, ex17, e⟩ := e
    refine j_getr (ci := 10) (RC := RX10) (T := TX10) (N := 38) 1 C rfl klX10 (Nat.le_of_ble_eq_true rfl) kX10_7 rfl dX10_undo_37 ex17 ?_
    refine j_iconst (v := (0 : Int32)) C dX10_undo_40 (by decide) ?_
    replace e := ob e
    obtain ⟨h18, eh18, e⟩ := e
    refine j_callS (As := [.ref x15, .int ((248 : Int32) * x16), .ref x17, .int (0 : Int32)]) (na := 4) (st := []) (k1 := 0) (n1 := 0) C hr (sX10_copies eh18) kX10_136 kst_X10_copies kini_X10 kc_X10_copies (by decide) rfl ⟨(Nat.le_of_ble_eq_true rfl), (Nat.le_of_ble_eq_true rfl)⟩ (Nat.le_of_ble_eq_true rfl) ⟨rfl, rfl, (Nat.le_of_ble_eq_true rfl), (Nat.le_of_ble_eq_true rfl)⟩ dX10_undo_41 ?_
    rintro _ _ ⟨rfl, rfl⟩
    show jx_J X 0 0 44 [(0, .ref l0)] [] h18
    refine j_aload_n C dX10_undo_44 rfl rfl ?_
    replace e := ob e
    obtain ⟨x19, ex19, e⟩ := e
    refine j_geti (ci := 10) (RC := RX10) (T := TX10) (N := 38) 5 C rfl klX10 (Nat.le_of_ble_eq_true rfl) kX10_251 rfl dX10_undo_45 ex19 ?_
    cases e
    exact j_iret C hq rfl dX10_undo_48 ⟨Nat.le_of_ble_eq_true rfl, Nat.le_of_ble_eq_true rfl⟩ ⟨rfl, rfl⟩
  · replace e := ifp c20 e
    refine j_iconst (v := (-1 : Int32)) C dX10_undo_12 (by decide) ?_
    cases e
    exact j_iret C hq rfl dX10_undo_13 ⟨Nat.le_of_ble_eq_true rfl, Nat.le_of_ble_eq_true rfl⟩ ⟨rfl, rfl⟩
/-! BorderBasisModel.save(I)V -/
noncomputable def BX10_save_15 (l0 : Nat) (l1 : Int32) (s0 : Nat) (s1 : Int32) (h : jx_H) : Option (jx_H) :=
(hp h s0 10 0 (.int s1)).bind fun h1 =>
(hgi h1 l0 10 0).bind fun x2 =>
if x2 ≤ 0 then
 (hgr h1 l0 10 1).bind fun x3 =>
 (hgr h1 l0 10 6).bind fun x4 =>
 (FX10_copies x3 (0 : Int32) x4 ((248 : Int32) * l1) h1).bind fun h5 =>
 (hgr h5 l0 10 7).bind fun x6 =>
 (has h5 .boolean x6 l1 (vp_nar .boolean (1 : Int32))).bind fun h7 =>
 some h7
else
 some h1
noncomputable def FX10_save (l0 : Nat) (l1 : Int32) (h : jx_H) : Option (jx_H) :=
(FX10_in l1 (0 : Int32) (1 : Int32) h).bind fun x9 =>
if x9 = 0 then
 BX10_save_15 l0 l1 l0 (1 : Int32) h
else
 BX10_save_15 l0 l1 l0 (0 : Int32) h
def rmX10_save : Room := { frames := 1, cells := 0, slots := 0, locals := 24 }
set_option maxRecDepth 20000 in
set_option maxHeartbeats 4000000 in
theorem sX10_save {l0 : Nat} {l1 : Int32} {h : jx_H} {h9 : jx_H} (e : FX10_save l0 l1 h = some h9) : jx_Ct yX10_save cX10_save 2 none rmX10_save [.ref l0, .int l1] h (fun r' h' => none = r' ∧ h9 = h') := by
  refine jx_Ct.of (own := RX10) (by decide) rfl (Nat.le_of_ble_eq_true rfl) (fun X C hq hr hL hN => ?_)
  refine jx_sub (lv' := [(0, .ref l0), (1, .int l1)]) [0, 1] rfl ?_
  have b15 : ∀ (y11 : Nat) (y12 : Int32) (y13 : Nat) (y14 : Int32) (h15 : jx_H), BX10_save_15 y11 y12 y13 y14 h15 = some h9 → jx_J X 0 0 15 [(0, .ref y11), (1, .int y12)] [.int y14, .ref y13] h15 := by
    intro y11 y12 y13 y14 h15 e
    unfold BX10_save_15 at e
    replace e := ob e
    obtain ⟨h16, eh16, e⟩ := e
    refine j_put (ci := 10) (RC := RX10) (T := TX10) (N := 38) (ty0 := tyX10) 0 C rfl klX10 tyX10_ok nmX10 (Nat.le_of_ble_eq_true rfl) kX10_91 rfl rfl rfl rfl dX10_save_15 eh16 ?_
    refine j_aload_n C dX10_save_18 rfl rfl ?_
    replace e := ob e
    obtain ⟨x17, ex17, e⟩ := e
    refine j_geti (ci := 10) (RC := RX10) (T := TX10) (N := 38) 0 C rfl klX10 (Nat.le_of_ble_eq_true rfl) kX10_91 rfl dX10_save_19 ex17 ?_
    refine j_if_le (tgt := 26) C dX10_save_22 (by decide) (fun c23 => ?_) (fun c23 => ?_)
    · replace e := ifp c23 e
      refine j_aload_n C dX10_save_26 rfl rfl ?_
      replace e := ob e
      obtain ⟨x18, ex18, e⟩ := e
      refine j_getr (ci := 10) (RC := RX10) (T := TX10) (N := 38) 1 C rfl klX10 (Nat.le_of_ble_eq_true rfl) kX10_7 rfl dX10_save_27 ex18 ?_
      refine j_iconst (v := (0 : Int32)) C dX10_save_30 (by decide) ?_
      refine j_aload_n C dX10_save_31 rfl rfl ?_
      replace e := ob e
      obtain ⟨x19, ex19, e⟩ := e
      refine j_getr (ci := 10) (RC := RX10) (T := TX10) (N := 38) 6 C rfl klX10 (Nat.le_of_ble_eq_true rfl) kX10_22 rfl dX10_save_32 ex19 ?_
      refine j_sipush (v := (248 : Int32)) C dX10_save_35 (by decide) ?_
      refine j_iload_n C dX10_save_38 rfl rfl ?_
      refine j_imul C dX10_save_39 ?_
      replace e := ob e
      obtain ⟨h20, eh20, e⟩ := e
      refine j_callS (As := [.ref x18, .int (0 : Int32), .ref x19, .int ((248 : Int32) * y12)]) (na := 4) (st := []) (k1 := 0) (n1 := 0) C hr (sX10_copies eh20) kX10_136 kst_X10_copies kini_X10 kc_X10_copies (by decide) rfl ⟨(Nat.le_of_ble_eq_true rfl), (Nat.le_of_ble_eq_true rfl)⟩ (Nat.le_of_ble_eq_true rfl) ⟨rfl, rfl, (Nat.le_of_ble_eq_true rfl), (Nat.le_of_ble_eq_true rfl)⟩ dX10_save_40 ?_
      rintro _ _ ⟨rfl, rfl⟩
      show jx_J X 0 0 43 [(0, .ref y11), (1, .int y12)] [] h20
      refine j_aload_n C dX10_save_43 rfl rfl ?_
      replace e := ob e
      obtain ⟨x21, ex21, e⟩ := e
      refine j_getr (ci := 10) (RC := RX10) (T := TX10) (N := 38) 7 C rfl klX10 (Nat.le_of_ble_eq_true rfl) kX10_25 rfl dX10_save_44 ex21 ?_
      refine j_iload_n C dX10_save_47 rfl rfl ?_
      refine j_iconst (v := (1 : Int32)) C dX10_save_48 (by decide) ?_
      replace e := ob e
      obtain ⟨h22, eh22, e⟩ := e
      refine j_zast C dX10_save_49 eh22 ?_
      cases e
      exact j_vret C hq dX10_save_50 ⟨Nat.le_of_ble_eq_true rfl, Nat.le_of_ble_eq_true rfl⟩ ⟨rfl, rfl⟩
    · replace e := ifn c23 e
      cases e
      exact j_vret C hq dX10_save_25 ⟨Nat.le_of_ble_eq_true rfl, Nat.le_of_ble_eq_true rfl⟩ ⟨rfl, rfl⟩
  unfold FX10_save at e
  refine j_aload_n C dX10_save_0 rfl rfl ?_
  refine j_iload_n C dX10_save_1 rfl rfl ?_
  refine j_iconst (v := (0 : Int32)) C dX10_save_2 (by decide) ?_
  refine j_iconst (v := (1 : Int32)) C dX10_save_3 (by decide) ?_
  replace e := ob e
  obtain ⟨x24, ex24, e⟩ := e
  refine j_callS (As := [.int l1, .int (0 : Int32), .int (1 : Int32)]) (na := 3) (st := [.ref l0]) (k1 := 0) (n1 := 0) C hr (sX10_in ex24) kX10_101 kst_X10_in kini_X10 kc_X10_in (by decide) rfl ⟨(Nat.le_of_ble_eq_true rfl), (Nat.le_of_ble_eq_true rfl)⟩ (Nat.le_of_ble_eq_true rfl) ⟨rfl, rfl, (Nat.le_of_ble_eq_true rfl), (Nat.le_of_ble_eq_true rfl)⟩ dX10_save_4 ?_
  rintro _ _ ⟨rfl, rfl⟩
  show jx_J X 0 0 7 [(0, .ref l0), (1, .int l1)] [.int x24, .ref l0] h
  refine j_if_eq (tgt := 14) C dX10_save_7 (by decide) (fun c25 => ?_) (fun c25 => ?_)
  · replace e := ifp c25 e
    refine j_iconst (v := (1 : Int32)) C dX10_save_14 (by decide) ?_
    exact b15 l0 l1 l0 (1 : Int32) h e
  · replace e := ifn c25 e
    refine j_iconst (v := (0 : Int32)) C dX10_save_10 (by decide) ?_
    refine j_goto (tgt := 15) C dX10_save_11 (by decide) ?_
    exact b15 l0 l1 l0 (0 : Int32) h e
/-! BorderBasisModel.restore(I)V -/
noncomputable def BX10_restore_28 (l0 : Nat) (l1 : Int32) (s0 : Nat) (s1 : Int32) (h : jx_H) : Option (jx_H) :=
(hp h s0 10 0 (.int s1)).bind fun h1 =>
(hgi h1 l0 10 0).bind fun x2 =>
if x2 ≤ 0 then
 (hgr h1 l0 10 6).bind fun x3 =>
 (hgr h1 l0 10 1).bind fun x4 =>
 (FX10_copies x3 ((248 : Int32) * l1) x4 (0 : Int32) h1).bind fun h5 =>
 (hp h5 l0 10 5 (.int (0 : Int32))).bind fun h6 =>
 some h6
else
 some h1
noncomputable def FX10_restore (l0 : Nat) (l1 : Int32) (h : jx_H) : Option (jx_H) :=
(FX10_in l1 (0 : Int32) (1 : Int32) h).bind fun x8 =>
if x8 = 0 then
 BX10_restore_28 l0 l1 l0 (1 : Int32) h
else
 (hgr h l0 10 7).bind fun x9 =>
 (hal h .boolean x9 l1).bind fun x10 =>
 if x10 = 0 then
  BX10_restore_28 l0 l1 l0 (2 : Int32) h
 else
  BX10_restore_28 l0 l1 l0 (0 : Int32) h
def rmX10_restore : Room := { frames := 1, cells := 0, slots := 0, locals := 24 }
set_option maxRecDepth 20000 in
set_option maxHeartbeats 4000000 in
theorem sX10_restore {l0 : Nat} {l1 : Int32} {h : jx_H} {h9 : jx_H} (e : FX10_restore l0 l1 h = some h9) : jx_Ct yX10_restore cX10_restore 2 none rmX10_restore [.ref l0, .int l1] h (fun r' h' => none = r' ∧ h9 = h') := by
  refine jx_Ct.of (own := RX10) (by decide) rfl (Nat.le_of_ble_eq_true rfl) (fun X C hq hr hL hN => ?_)
  refine jx_sub (lv' := [(0, .ref l0), (1, .int l1)]) [0, 1] rfl ?_
  have b28 : ∀ (y13 : Nat) (y14 : Int32) (y15 : Nat) (y16 : Int32) (h17 : jx_H), BX10_restore_28 y13 y14 y15 y16 h17 = some h9 → jx_J X 0 0 28 [(0, .ref y13), (1, .int y14)] [.int y16, .ref y15] h17 := by
    intro y13 y14 y15 y16 h17 e
    unfold BX10_restore_28 at e
    replace e := ob e
    obtain ⟨h18, eh18, e⟩ := e
    refine j_put (ci := 10) (RC := RX10) (T := TX10) (N := 38) (ty0 := tyX10) 0 C rfl klX10 tyX10_ok nmX10 (Nat.le_of_ble_eq_true rfl) kX10_91 rfl rfl rfl rfl dX10_restore_28 eh18 ?_
    refine j_aload_n C dX10_restore_31 rfl rfl ?_
    replace e := ob e
    obtain ⟨x19, ex19, e⟩ := e
    refine j_geti (ci := 10) (RC := RX10) (T := TX10) (N := 38) 0 C rfl klX10 (Nat.le_of_ble_eq_true rfl) kX10_91 rfl dX10_restore_32 ex19 ?_
    refine j_if_le (tgt := 39) C dX10_restore_35 (by decide) (fun c24 => ?_) (fun c24 => ?_)
    · replace e := ifp c24 e
      refine j_aload_n C dX10_restore_39 rfl rfl ?_
      replace e := ob e
      obtain ⟨x20, ex20, e⟩ := e
      refine j_getr (ci := 10) (RC := RX10) (T := TX10) (N := 38) 6 C rfl klX10 (Nat.le_of_ble_eq_true rfl) kX10_22 rfl dX10_restore_40 ex20 ?_
      refine j_sipush (v := (248 : Int32)) C dX10_restore_43 (by decide) ?_
      refine j_iload_n C dX10_restore_46 rfl rfl ?_
      refine j_imul C dX10_restore_47 ?_
      refine j_aload_n C dX10_restore_48 rfl rfl ?_
      replace e := ob e
      obtain ⟨x21, ex21, e⟩ := e
      refine j_getr (ci := 10) (RC := RX10) (T := TX10) (N := 38) 1 C rfl klX10 (Nat.le_of_ble_eq_true rfl) kX10_7 rfl dX10_restore_49 ex21 ?_
      refine j_iconst (v := (0 : Int32)) C dX10_restore_52 (by decide) ?_
      replace e := ob e
      obtain ⟨h22, eh22, e⟩ := e
      refine j_callS (As := [.ref x20, .int ((248 : Int32) * y14), .ref x21, .int (0 : Int32)]) (na := 4) (st := []) (k1 := 0) (n1 := 0) C hr (sX10_copies eh22) kX10_136 kst_X10_copies kini_X10 kc_X10_copies (by decide) rfl ⟨(Nat.le_of_ble_eq_true rfl), (Nat.le_of_ble_eq_true rfl)⟩ (Nat.le_of_ble_eq_true rfl) ⟨rfl, rfl, (Nat.le_of_ble_eq_true rfl), (Nat.le_of_ble_eq_true rfl)⟩ dX10_restore_53 ?_
      rintro _ _ ⟨rfl, rfl⟩
      show jx_J X 0 0 56 [(0, .ref y13), (1, .int y14)] [] h22
      refine j_aload_n C dX10_restore_56 rfl rfl ?_
      refine j_iconst (v := (0 : Int32)) C dX10_restore_57 (by decide) ?_
      replace e := ob e
      obtain ⟨h23, eh23, e⟩ := e
      refine j_put (ci := 10) (RC := RX10) (T := TX10) (N := 38) (ty0 := tyX10) 5 C rfl klX10 tyX10_ok nmX10 (Nat.le_of_ble_eq_true rfl) kX10_251 rfl rfl rfl rfl dX10_restore_58 eh23 ?_
      cases e
      exact j_vret C hq dX10_restore_61 ⟨Nat.le_of_ble_eq_true rfl, Nat.le_of_ble_eq_true rfl⟩ ⟨rfl, rfl⟩
    · replace e := ifn c24 e
      cases e
      exact j_vret C hq dX10_restore_38 ⟨Nat.le_of_ble_eq_true rfl, Nat.le_of_ble_eq_true rfl⟩ ⟨rfl, rfl⟩
  unfold FX10_restore at e
  refine j_aload_n C dX10_restore_0 rfl rfl ?_
  refine j_iload_n C dX10_restore_1 rfl rfl ?_
  refine j_iconst (v := (0 : Int32)) C dX10_restore_2 (by decide) ?_
  refine j_iconst (v := (1 : Int32)) C dX10_restore_3 (by decide) ?_
  replace e := ob e
  obtain ⟨x25, ex25, e⟩ := e
  refine j_callS (As := [.int l1, .int (0 : Int32), .int (1 : Int32)]) (na := 3) (st := [.ref l0]) (k1 := 0) (n1 := 0) C hr (sX10_in ex25) kX10_101 kst_X10_in kini_X10 kc_X10_in (by decide) rfl ⟨(Nat.le_of_ble_eq_true rfl), (Nat.le_of_ble_eq_true rfl)⟩ (Nat.le_of_ble_eq_true rfl) ⟨rfl, rfl, (Nat.le_of_ble_eq_true rfl), (Nat.le_of_ble_eq_true rfl)⟩ dX10_restore_4 ?_
  rintro _ _ ⟨rfl, rfl⟩
  show jx_J X 0 0 7 [(0, .ref l0), (1, .int l1)] [.int x25, .ref l0] h
  refine j_if_ne (tgt := 14) C dX10_restore_7 (by decide) (fun c29 => ?_) (fun c29 => ?_)
  · replace e := ifn c29 e
    refine j_aload_n C dX10_restore_14 rfl rfl ?_
    replace e := ob e
    obtain ⟨x26, ex26, e⟩ := e
    refine j_getr (ci := 10) (RC := RX10) (T := TX10) (N := 38) 7 C rfl klX10 (Nat.le_of_ble_eq_true rfl) kX10_25 rfl dX10_restore_15 ex26 ?_
    refine j_iload_n C dX10_restore_18 rfl rfl ?_
    replace e := ob e
    obtain ⟨x27, ex27, e⟩ := e
    refine j_zald C dX10_restore_19 ex27 ?_
    refine j_if_eq (tgt := 27) C dX10_restore_20 (by decide) (fun c28 => ?_) (fun c28 => ?_)
    · replace e := ifp c28 e
      refine j_iconst (v := (2 : Int32)) C dX10_restore_27 (by decide) ?_
      exact b28 l0 l1 l0 (2 : Int32) h e
    · replace e := ifn c28 e
      refine j_iconst (v := (0 : Int32)) C dX10_restore_23 (by decide) ?_
      refine j_goto (tgt := 28) C dX10_restore_24 (by decide) ?_
      exact b28 l0 l1 l0 (0 : Int32) h e
  · replace e := ifp c29 e
    refine j_iconst (v := (1 : Int32)) C dX10_restore_10 (by decide) ?_
    refine j_goto (tgt := 28) C dX10_restore_11 (by decide) ?_
    exact b28 l0 l1 l0 (1 : Int32) h e
