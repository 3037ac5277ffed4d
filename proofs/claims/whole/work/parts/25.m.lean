/-! BorderBasisModel.laysTall([II)V -/
noncomputable def LX10_laysTall_13 (l0 : Nat) (l1 : Nat) (l2 : Int32) (l3 : Int32) (l4 : Int32) (h : jx_H) : Option ((Int32 × jx_H) ⊕ ((Int32 × jx_H) ⊕ (jx_H))) :=
(isO h l0 10).bind fun _ =>
(FX10_n l0 h).bind fun x4 =>
if x4 ≤ l4 then
 exL (some (.inl ((l3 + (1 : Int32)), h)))
else
 (hgr h l0 10 25).bind fun x5 =>
 (FX10_cell (l2 + l3) l4 h).bind fun x6 =>
 (FX10_cell l3 l4 h).bind fun x7 =>
 (hal h .int l1 x7).bind fun x8 =>
 (has h .int x5 x6 x8).bind fun h9 =>
 some (.inl ((l4 + (1 : Int32)), h9))
noncomputable def LX10_laysTall_2 (l0 : Nat) (l1 : Nat) (l2 : Int32) (l3 : Int32) (h : jx_H) : Option ((Int32 × jx_H) ⊕ (jx_H)) :=
(isO h l0 10).bind fun _ =>
(FX10_n l0 h).bind fun x2 =>
if x2 ≤ l3 then
 exL (some h)
else
 itr (fun s : Int32 × jx_H => LX10_laysTall_13 l0 l1 l2 l3 s.1 s.2) ((0 : Int32), h)
noncomputable def FX10_laysTall (l0 : Nat) (l1 : Nat) (l2 : Int32) (h : jx_H) : Option (jx_H) :=
itr (fun s : Int32 × jx_H => LX10_laysTall_2 l0 l1 l2 s.1 s.2) ((0 : Int32), h)
def rmX10_laysTall : Room := { frames := 1, cells := 0, slots := 0, locals := 21 }
set_option maxRecDepth 20000 in
set_option maxHeartbeats 4000000 in
theorem sX10_laysTall {l0 : Nat} {l1 : Nat} {l2 : Int32} {h : jx_H} {h9 : jx_H} (e : FX10_laysTall l0 l1 l2 h = some h9) : jx_Ct yX10_laysTall cX10_laysTall 5 none rmX10_laysTall [.ref l0, .ref l1, .int l2] h (fun r' h' => none = r' ∧ h9 = h') := by
  refine jx_Ct.of (own := RX10) (by decide) rfl (Nat.le_of_ble_eq_true rfl) (fun X C hq hr hL hN => ?_)
  refine jx_sub (lv' := [(0, .ref l0), (1, .ref l1), (2, .int l2)]) [0, 1, 2] rfl ?_
  unfold FX10_laysTall at e
  refine j_iconst (v := (0 : Int32)) C dX10_laysTall_0 (by decide) ?_
  refine j_istore_n (lv1 := [(3, .int (0 : Int32)), (0, .ref l0), (1, .ref l1), (2, .int l2)]) C hL dX10_laysTall_1 rfl (Nat.le_of_ble_eq_true rfl) rfl ?_
  refine jx_sub (lv' := [(0, .ref l0), (1, .ref l1), (2, .int l2), (3, .int (0 : Int32))]) [1, 2, 3, 0] rfl ?_
  refine itr_ind (s0 := ((0 : Int32), h)) (fun s : Int32 × jx_H => jx_J X 0 0 2 [(0, .ref l0), (1, .ref l1), (2, .int l2), (3, .int s.1)] [] s.2) e ?_
  clear e
  intro s kI3 kT3 e0
  obtain ⟨z12, h13⟩ := s
  obtain ⟨u3, e0_3⟩ := e0
  have e : LX10_laysTall_2 l0 l1 l2 z12 h13 = some u3 := e0_3
  unfold LX10_laysTall_2 at e
  refine j_iload_n C dX10_laysTall_2 rfl rfl ?_
  refine j_aload_n C dX10_laysTall_3 rfl rfl ?_
  replace e := ob e
  obtain ⟨_, eo14, e⟩ := e
  replace e := ob e
  obtain ⟨x15, ex15, e⟩ := e
  refine j_callV (ci := 10) (RC := RX10) (T := TX10) (N := 38) (As := []) (b := l0) (na := 0) (st := [.int z12]) (k1 := 0) (n1 := 0) C hr (sX10_n ex15) rfl eo14 kX10_105 kim_X10_n ksel_X10_n kini_X10 kc_X10_n (by decide) rfl ⟨(Nat.le_of_ble_eq_true rfl), (Nat.le_of_ble_eq_true rfl)⟩ (Nat.le_of_ble_eq_true rfl) ⟨rfl, rfl, (Nat.le_of_ble_eq_true rfl), (Nat.le_of_ble_eq_true rfl)⟩ dX10_laysTall_4 ?_
  rintro _ _ ⟨rfl, rfl⟩
  show jx_J X 0 0 7 [(0, .ref l0), (1, .ref l1), (2, .int l2), (3, .int z12)] [.int x15, .int z12] h13
  refine j_icmp_ge (tgt := 55) C dX10_laysTall_7 (by decide) (fun c26 => ?_) (fun c26 => ?_)
  · replace e := ifp c26 e
    obtain ⟨t_4, e_4, eu_4⟩ := exL_spec e
    obtain rfl := kT3 t_4 (e0_3.trans (congrArg some eu_4))
    replace e := e_4
    cases e
    exact j_vret C hq dX10_laysTall_55 ⟨Nat.le_of_ble_eq_true rfl, Nat.le_of_ble_eq_true rfl⟩ ⟨rfl, rfl⟩
  · replace e := ifn c26 e
    refine j_iconst (v := (0 : Int32)) C dX10_laysTall_10 (by decide) ?_
    refine j_istore (lv1 := [(4, .int (0 : Int32)), (0, .ref l0), (1, .ref l1), (2, .int l2), (3, .int z12)]) C hL dX10_laysTall_11 (Nat.le_of_ble_eq_true rfl) rfl ?_
    refine jx_sub (lv' := [(0, .ref l0), (1, .ref l1), (2, .int l2), (3, .int z12), (4, .int (0 : Int32))]) [1, 2, 3, 4, 0] rfl ?_
    refine itr_ind (s0 := ((0 : Int32), h13)) (fun s : Int32 × jx_H => jx_J X 0 0 13 [(0, .ref l0), (1, .ref l1), (2, .int l2), (3, .int z12), (4, .int s.1)] [] s.2) e ?_
    clear e
    intro s kI5 kT5 e0
    obtain ⟨z16, h17⟩ := s
    obtain ⟨u5, e0_5⟩ := e0
    have e : LX10_laysTall_13 l0 l1 l2 z12 z16 h17 = some u5 := e0_5
    unfold LX10_laysTall_13 at e
    refine j_iload C dX10_laysTall_13 rfl ?_
    refine j_aload_n C dX10_laysTall_15 rfl rfl ?_
    replace e := ob e
    obtain ⟨_, eo18, e⟩ := e
    replace e := ob e
    obtain ⟨x19, ex19, e⟩ := e
    refine j_callV (ci := 10) (RC := RX10) (T := TX10) (N := 38) (As := []) (b := l0) (na := 0) (st := [.int z16]) (k1 := 0) (n1 := 0) C hr (sX10_n ex19) rfl eo18 kX10_105 kim_X10_n ksel_X10_n kini_X10 kc_X10_n (by decide) rfl ⟨(Nat.le_of_ble_eq_true rfl), (Nat.le_of_ble_eq_true rfl)⟩ (Nat.le_of_ble_eq_true rfl) ⟨rfl, rfl, (Nat.le_of_ble_eq_true rfl), (Nat.le_of_ble_eq_true rfl)⟩ dX10_laysTall_16 ?_
    rintro _ _ ⟨rfl, rfl⟩
    show jx_J X 0 0 19 [(0, .ref l0), (1, .ref l1), (2, .int l2), (3, .int z12), (4, .int z16)] [.int x19, .int z16] h17
    refine j_icmp_ge (tgt := 49) C dX10_laysTall_19 (by decide) (fun c25 => ?_) (fun c25 => ?_)
    · replace e := ifp c25 e
      obtain ⟨t_6, e_6, eu_6⟩ := exL_spec e
      obtain rfl := kT5 t_6 (e0_5.trans (congrArg some eu_6))
      replace e := e_6
      refine j_iinc (v := (z12 + (1 : Int32))) (lv1 := [(3, .int (z12 + (1 : Int32))), (0, .ref l0), (1, .ref l1), (2, .int l2), (4, .int z16)]) C hL dX10_laysTall_49 rfl rfl (Nat.le_of_ble_eq_true rfl) rfl ?_
      refine j_goto (tgt := 2) C dX10_laysTall_52 (by decide) ?_
      obtain rfl := Option.some.inj e
      refine jx_sub (lv' := [(0, .ref l0), (1, .ref l1), (2, .int l2), (3, .int (z12 + (1 : Int32)))]) [1, 2, 3, 0] rfl ?_
      exact kI3 ((z12 + (1 : Int32)), h17) e0_3
    · replace e := ifn c25 e
      refine j_aload_n C dX10_laysTall_22 rfl rfl ?_
      replace e := ob e
      obtain ⟨x20, ex20, e⟩ := e
      refine j_getr (ci := 10) (RC := RX10) (T := TX10) (N := 38) 25 C rfl klX10 (Nat.le_of_ble_eq_true rfl) kX10_58 rfl dX10_laysTall_23 ex20 ?_
      refine j_iload_n C dX10_laysTall_26 rfl rfl ?_
      refine j_iload_n C dX10_laysTall_27 rfl rfl ?_
      refine j_iadd C dX10_laysTall_28 ?_
      refine j_iload C dX10_laysTall_29 rfl ?_
      replace e := ob e
      obtain ⟨x21, ex21, e⟩ := e
      refine j_callS (As := [.int (l2 + z12), .int z16]) (na := 2) (st := [.ref x20]) (k1 := 0) (n1 := 0) C hr (sX10_cell ex21) kX10_254 kst_X10_cell kini_X10 kc_X10_cell (by decide) rfl ⟨(Nat.le_of_ble_eq_true rfl), (Nat.le_of_ble_eq_true rfl)⟩ (Nat.le_of_ble_eq_true rfl) ⟨rfl, rfl, (Nat.le_of_ble_eq_true rfl), (Nat.le_of_ble_eq_true rfl)⟩ dX10_laysTall_31 ?_
      rintro _ _ ⟨rfl, rfl⟩
      show jx_J X 0 0 34 [(0, .ref l0), (1, .ref l1), (2, .int l2), (3, .int z12), (4, .int z16)] [.int x21, .ref x20] h17
      refine j_aload_n C dX10_laysTall_34 rfl rfl ?_
      refine j_iload_n C dX10_laysTall_35 rfl rfl ?_
      refine j_iload C dX10_laysTall_36 rfl ?_
      replace e := ob e
      obtain ⟨x22, ex22, e⟩ := e
      refine j_callS (As := [.int z12, .int z16]) (na := 2) (st := [.ref l1, .int x21, .ref x20]) (k1 := 0) (n1 := 0) C hr (sX10_cell ex22) kX10_254 kst_X10_cell kini_X10 kc_X10_cell (by decide) rfl ⟨(Nat.le_of_ble_eq_true rfl), (Nat.le_of_ble_eq_true rfl)⟩ (Nat.le_of_ble_eq_true rfl) ⟨rfl, rfl, (Nat.le_of_ble_eq_true rfl), (Nat.le_of_ble_eq_true rfl)⟩ dX10_laysTall_38 ?_
      rintro _ _ ⟨rfl, rfl⟩
      show jx_J X 0 0 41 [(0, .ref l0), (1, .ref l1), (2, .int l2), (3, .int z12), (4, .int z16)] [.int x22, .ref l1, .int x21, .ref x20] h17
      replace e := ob e
      obtain ⟨x23, ex23, e⟩ := e
      refine j_iald C dX10_laysTall_41 ex23 ?_
      replace e := ob e
      obtain ⟨h24, eh24, e⟩ := e
      refine j_iast C dX10_laysTall_42 eh24 ?_
      refine j_iinc (v := (z16 + (1 : Int32))) (lv1 := [(4, .int (z16 + (1 : Int32))), (0, .ref l0), (1, .ref l1), (2, .int l2), (3, .int z12)]) C hL dX10_laysTall_43 rfl rfl (Nat.le_of_ble_eq_true rfl) rfl ?_
      refine j_goto (tgt := 13) C dX10_laysTall_46 (by decide) ?_
      obtain rfl := Option.some.inj e
      refine jx_sub (lv' := [(0, .ref l0), (1, .ref l1), (2, .int l2), (3, .int z12), (4, .int (z16 + (1 : Int32)))]) [1, 2, 3, 4, 0] rfl ?_
      exact kI5 ((z16 + (1 : Int32)), h24) e0_5
/-! BorderBasisModel.times(II)I -/
noncomputable def FX10_times (l0 : Nat) (l1 : Int32) (l2 : Int32) (h : jx_H) : Option (Int32 × jx_H) :=
(isO h l0 10).bind fun _ =>
(FX10_laysTables l0 h).bind fun h2 =>
(hgr h2 l0 10 20).bind fun x3 =>
(isO h2 l0 10).bind fun _ =>
(FX10_lessens l0 x3 l1 h2).bind fun h5 =>
(hgr h5 l0 10 21).bind fun x6 =>
(isO h5 l0 10).bind fun _ =>
(FX10_lessens l0 x6 l2 h5).bind fun h8 =>
(hgr h8 l0 10 20).bind fun x9 =>
(isO h8 l0 10).bind fun _ =>
(FX10_n l0 h8).bind fun x11 =>
(isO h8 l0 10).bind fun _ =>
(FX10_raises l0 x9 x11 h8).bind fun h13 =>
(hgr h13 l0 10 22).bind fun x14 =>
(isO h13 l0 10).bind fun _ =>
(FX10_laysTall l0 x14 (0 : Int32) h13).bind fun h16 =>
(hgr h16 l0 10 21).bind fun x17 =>
(isO h16 l0 10).bind fun _ =>
(FX10_n l0 h16).bind fun x19 =>
(isO h16 l0 10).bind fun _ =>
(FX10_raises l0 x17 x19 h16).bind fun h21 =>
(hgr h21 l0 10 22).bind fun x22 =>
(isO h21 l0 10).bind fun _ =>
(FX10_n l0 h21).bind fun x24 =>
(isO h21 l0 10).bind fun _ =>
(FX10_laysTall l0 x22 x24 h21).bind fun h26 =>
(isO h26 l0 10).bind fun _ =>
(FX10_n l0 h26).bind fun x28 =>
(isO h26 l0 10).bind fun _ =>
(FX10_reduces l0 ((2 : Int32) * x28) h26).bind fun h30 =>
(isO h30 l0 10).bind fun _ =>
(FX10_n l0 h30).bind fun x32 =>
(hgi h30 l0 10 28).bind fun x33 =>
some ((x32 - x33), h30)
def rmX10_times : Room := { frames := 4, cells := 0, slots := 0, locals := 91 }
set_option maxRecDepth 20000 in
set_option maxHeartbeats 4000000 in
theorem sX10_times {l0 : Nat} {l1 : Int32} {l2 : Int32} {h : jx_H} {r : Int32} {h9 : jx_H} (e : FX10_times l0 l1 l2 h = some (r, h9)) : jx_Ct yX10_times cX10_times 3 (some .int) rmX10_times [.ref l0, .int l1, .int l2] h (fun r' h' => some (.int r) = r' ∧ h9 = h') := by
  refine jx_Ct.of (own := RX10) (by decide) rfl (Nat.le_of_ble_eq_true rfl) (fun X C hq hr hL hN => ?_)
  refine jx_sub (lv' := [(0, .ref l0), (1, .int l1), (2, .int l2)]) [0, 1, 2] rfl ?_
  unfold FX10_times at e
  refine j_aload_n C dX10_times_0 rfl rfl ?_
  replace e := ob e
  obtain ⟨_, eo34, e⟩ := e
  replace e := ob e
  obtain ⟨h35, eh35, e⟩ := e
  refine j_callV (ci := 10) (RC := RX10) (T := TX10) (N := 38) (As := []) (b := l0) (na := 0) (st := []) (k1 := 0) (n1 := 0) C hr (sX10_laysTables eh35) rfl eo34 kX10_261 kim_X10_laysTables ksel_X10_laysTables kini_X10 kc_X10_laysTables (by decide) rfl ⟨(Nat.le_of_ble_eq_true rfl), (Nat.le_of_ble_eq_true rfl)⟩ (Nat.le_of_ble_eq_true rfl) ⟨rfl, rfl, (Nat.le_of_ble_eq_true rfl), (Nat.le_of_ble_eq_true rfl)⟩ dX10_times_1 ?_
  rintro _ _ ⟨rfl, rfl⟩
  show jx_J X 0 0 4 [(0, .ref l0), (1, .int l1), (2, .int l2)] [] h35
  refine j_aload_n C dX10_times_4 rfl rfl ?_
  refine j_aload_n C dX10_times_5 rfl rfl ?_
  replace e := ob e
  obtain ⟨x36, ex36, e⟩ := e
  refine j_getr (ci := 10) (RC := RX10) (T := TX10) (N := 38) 20 C rfl klX10 (Nat.le_of_ble_eq_true rfl) kX10_43 rfl dX10_times_6 ex36 ?_
  refine j_iload_n C dX10_times_9 rfl rfl ?_
  replace e := ob e
  obtain ⟨_, eo37, e⟩ := e
  replace e := ob e
  obtain ⟨h38, eh38, e⟩ := e
  refine j_callV (ci := 10) (RC := RX10) (T := TX10) (N := 38) (As := [.ref x36, .int l1]) (b := l0) (na := 2) (st := []) (k1 := 0) (n1 := 0) C hr (sX10_lessens eh38) rfl eo37 kX10_295 kim_X10_lessens ksel_X10_lessens kini_X10 kc_X10_lessens (by decide) rfl ⟨(Nat.le_of_ble_eq_true rfl), (Nat.le_of_ble_eq_true rfl)⟩ (Nat.le_of_ble_eq_true rfl) ⟨rfl, rfl, (Nat.le_of_ble_eq_true rfl), (Nat.le_of_ble_eq_true rfl)⟩ dX10_times_10 ?_
  rintro _ _ ⟨rfl, rfl⟩
  show jx_J X 0 0 13 [(0, .ref l0), (1, .int l1), (2, .int l2)] [] h38
  refine j_aload_n C dX10_times_13 rfl rfl ?_
  refine j_aload_n C dX10_times_14 rfl rfl ?_
  replace e := ob e
  obtain ⟨x39, ex39, e⟩ := e
  refine j_getr (ci := 10) (RC := RX10) (T := TX10) (N := 38) 21 C rfl klX10 (Nat.le_of_ble_eq_true rfl) kX10_46 rfl dX10_times_15 ex39 ?_
  refine j_iload_n C dX10_times_18 rfl rfl ?_
  replace e := ob e
  obtain ⟨_, eo40, e⟩ := e
  replace e := ob e
  obtain ⟨h41, eh41, e⟩ := e
  refine j_callV (ci := 10) (RC := RX10) (T := TX10) (N := 38) (As := [.ref x39, .int l2]) (b := l0) (na := 2) (st := []) (k1 := 0) (n1 := 0) C hr (sX10_lessens eh41) rfl eo40 kX10_295 kim_X10_lessens ksel_X10_lessens kini_X10 kc_X10_lessens (by decide) rfl ⟨(Nat.le_of_ble_eq_true rfl), (Nat.le_of_ble_eq_true rfl)⟩ (Nat.le_of_ble_eq_true rfl) ⟨rfl, rfl, (Nat.le_of_ble_eq_true rfl), (Nat.le_of_ble_eq_true rfl)⟩ dX10_times_19 ?_
  rintro _ _ ⟨rfl, rfl⟩
  show jx_J X 0 0 22 [(0, .ref l0), (1, .int l1), (2, .int l2)] [] h41
  refine j_aload_n C dX10_times_22 rfl rfl ?_
  refine j_aload_n C dX10_times_23 rfl rfl ?_
  replace e := ob e
  obtain ⟨x42, ex42, e⟩ := e
  refine j_getr (ci := 10) (RC := RX10) (T := TX10) (N := 38) 20 C rfl klX10 (Nat.le_of_ble_eq_true rfl) kX10_43 rfl dX10_times_24 ex42 ?_
  refine j_aload_n C dX10_times_27 rfl rfl ?_
  replace e := ob e
  obtain ⟨_, eo43, e⟩ := e
  replace e := ob e
  obtain ⟨x44, ex44, e⟩ := e
  refine j_callV (ci := 10) (RC := RX10) (T := TX10) (N := 38) (As := []) (b := l0) (na := 0) (st := [.ref x42, .ref l0]) (k1 := 0) (n1 := 0) C hr (sX10_n ex44) rfl eo43 kX10_105 kim_X10_n ksel_X10_n kini_X10 kc_X10_n (by decide) rfl ⟨(Nat.le_of_ble_eq_true rfl), (Nat.le_of_ble_eq_true rfl)⟩ (Nat.le_of_ble_eq_true rfl) ⟨rfl, rfl, (Nat.le_of_ble_eq_true rfl), (Nat.le_of_ble_eq_true rfl)⟩ dX10_times_28 ?_
  rintro _ _ ⟨rfl, rfl⟩
  show jx_J X 0 0 31 [(0, .ref l0), (1, .int l1), (2, .int l2)] [.int x44, .ref x42, .ref l0] h41
  replace e := ob e
  obtain ⟨_, eo45, e⟩ := e
  replace e := ob e
  obtain ⟨h46, eh46, e⟩ := e
  refine j_callV (ci := 10) (RC := RX10) (T := TX10) (N := 38) (As := [.ref x42, .int x44]) (b := l0) (na := 2) (st := []) (k1 := 0) (n1 := 0) C hr (sX10_raises eh46) rfl eo45 kX10_279 kim_X10_raises ksel_X10_raises kini_X10 kc_X10_raises (by decide) rfl ⟨(Nat.le_of_ble_eq_true rfl), (Nat.le_of_ble_eq_true rfl)⟩ (Nat.le_of_ble_eq_true rfl) ⟨rfl, rfl, (Nat.le_of_ble_eq_true rfl), (Nat.le_of_ble_eq_true rfl)⟩ dX10_times_31 ?_
  rintro _ _ ⟨rfl, rfl⟩
  show jx_J X 0 0 34 [(0, .ref l0), (1, .int l1), (2, .int l2)] [] h46
  refine j_aload_n C dX10_times_34 rfl rfl ?_
  refine j_aload_n C dX10_times_35 rfl rfl ?_
  replace e := ob e
  obtain ⟨x47, ex47, e⟩ := e
  refine j_getr (ci := 10) (RC := RX10) (T := TX10) (N := 38) 22 C rfl klX10 (Nat.le_of_ble_eq_true rfl) kX10_49 rfl dX10_times_36 ex47 ?_
  refine j_iconst (v := (0 : Int32)) C dX10_times_39 (by decide) ?_
  replace e := ob e
  obtain ⟨_, eo48, e⟩ := e
  replace e := ob e
  obtain ⟨h49, eh49, e⟩ := e
  refine j_callV (ci := 10) (RC := RX10) (T := TX10) (N := 38) (As := [.ref x47, .int (0 : Int32)]) (b := l0) (na := 2) (st := []) (k1 := 0) (n1 := 0) C hr (sX10_laysTall eh49) rfl eo48 kX10_298 kim_X10_laysTall ksel_X10_laysTall kini_X10 kc_X10_laysTall (by decide) rfl ⟨(Nat.le_of_ble_eq_true rfl), (Nat.le_of_ble_eq_true rfl)⟩ (Nat.le_of_ble_eq_true rfl) ⟨rfl, rfl, (Nat.le_of_ble_eq_true rfl), (Nat.le_of_ble_eq_true rfl)⟩ dX10_times_40 ?_
  rintro _ _ ⟨rfl, rfl⟩
  show jx_J X 0 0 43 [(0, .ref l0), (1, .int l1), (2, .int l2)] [] h49
  refine j_aload_n C dX10_times_43 rfl rfl ?_
  refine j_aload_n C dX10_times_44 rfl rfl ?_
  replace e := ob e
  obtain ⟨x50, ex50, e⟩ := e
  refine j_getr (ci := 10) (RC := RX10) (T := TX10) (N := 38) 21 C rfl klX10 (Nat.le_of_ble_eq_true rfl) kX10_46 rfl dX10_times_45 ex50 ?_
  refine j_aload_n C dX10_times_48 rfl rfl ?_
  replace e := ob e
  obtain ⟨_, eo51, e⟩ := e
  replace e := ob e
  obtain ⟨x52, ex52, e⟩ := e
  refine j_callV (ci := 10) (RC := RX10) (T := TX10) (N := 38) (As := []) (b := l0) (na := 0) (st := [.ref x50, .ref l0]) (k1 := 0) (n1 := 0) C hr (sX10_n ex52) rfl eo51 kX10_105 kim_X10_n ksel_X10_n kini_X10 kc_X10_n (by decide) rfl ⟨(Nat.le_of_ble_eq_true rfl), (Nat.le_of_ble_eq_true rfl)⟩ (Nat.le_of_ble_eq_true rfl) ⟨rfl, rfl, (Nat.le_of_ble_eq_true rfl), (Nat.le_of_ble_eq_true rfl)⟩ dX10_times_49 ?_
  rintro _ _ ⟨rfl, rfl⟩
  show jx_J X 0 0 52 [(0, .ref l0), (1, .int l1), (2, .int l2)] [.int x52, .ref x50, .ref l0] h49
  replace e := ob e
  obtain ⟨_, eo53, e⟩ := e
  replace e := ob e
  obtain ⟨h54, eh54, e⟩ := e
  refine j_callV (ci := 10) (RC := RX10) (T := TX10) (N := 38) (As := [.ref x50, .int x52]) (b := l0) (na := 2) (st := []) (k1 := 0) (n1 := 0) C hr (sX10_raises eh54) rfl eo53 kX10_279 kim_X10_raises ksel_X10_raises kini_X10 kc_X10_raises (by decide) rfl ⟨(Nat.le_of_ble_eq_true rfl), (Nat.le_of_ble_eq_true rfl)⟩ (Nat.le_of_ble_eq_true rfl) ⟨rfl, rfl, (Nat.le_of_ble_eq_true rfl), (Nat.le_of_ble_eq_true rfl)⟩ dX10_times_52 ?_
  rintro _ _ ⟨rfl, rfl⟩
  show jx_J X 0 0 55 [(0, .ref l0), (1, .int l1), (2, .int l2)] [] h54
  refine j_aload_n C dX10_times_55 rfl rfl ?_
  refine j_aload_n C dX10_times_56 rfl rfl ?_
  replace e := ob e
  obtain ⟨x55, ex55, e⟩ := e
  refine j_getr (ci := 10) (RC := RX10) (T := TX10) (N := 38) 22 C rfl klX10 (Nat.le_of_ble_eq_true rfl) kX10_49 rfl dX10_times_57 ex55 ?_
  refine j_aload_n C dX10_times_60 rfl rfl ?_
  replace e := ob e
  obtain ⟨_, eo56, e⟩ := e
  replace e := ob e
  obtain ⟨x57, ex57, e⟩ := e
  refine j_callV (ci := 10) (RC := RX10) (T := TX10) (N := 38) (As := []) (b := l0) (na := 0) (st := [.ref x55, .ref l0]) (k1 := 0) (n1 := 0) C hr (sX10_n ex57) rfl eo56 kX10_105 kim_X10_n ksel_X10_n kini_X10 kc_X10_n (by decide) rfl ⟨(Nat.le_of_ble_eq_true rfl), (Nat.le_of_ble_eq_true rfl)⟩ (Nat.le_of_ble_eq_true rfl) ⟨rfl, rfl, (Nat.le_of_ble_eq_true rfl), (Nat.le_of_ble_eq_true rfl)⟩ dX10_times_61 ?_
  rintro _ _ ⟨rfl, rfl⟩
  show jx_J X 0 0 64 [(0, .ref l0), (1, .int l1), (2, .int l2)] [.int x57, .ref x55, .ref l0] h54
  replace e := ob e
  obtain ⟨_, eo58, e⟩ := e
  replace e := ob e
  obtain ⟨h59, eh59, e⟩ := e
  refine j_callV (ci := 10) (RC := RX10) (T := TX10) (N := 38) (As := [.ref x55, .int x57]) (b := l0) (na := 2) (st := []) (k1 := 0) (n1 := 0) C hr (sX10_laysTall eh59) rfl eo58 kX10_298 kim_X10_laysTall ksel_X10_laysTall kini_X10 kc_X10_laysTall (by decide) rfl ⟨(Nat.le_of_ble_eq_true rfl), (Nat.le_of_ble_eq_true rfl)⟩ (Nat.le_of_ble_eq_true rfl) ⟨rfl, rfl, (Nat.le_of_ble_eq_true rfl), (Nat.le_of_ble_eq_true rfl)⟩ dX10_times_64 ?_
  rintro _ _ ⟨rfl, rfl⟩
  show jx_J X 0 0 67 [(0, .ref l0), (1, .int l1), (2, .int l2)] [] h59
  refine j_aload_n C dX10_times_67 rfl rfl ?_
  refine j_iconst (v := (2 : Int32)) C dX10_times_68 (by decide) ?_
  refine j_aload_n C dX10_times_69 rfl rfl ?_
  replace e := ob e
  obtain ⟨_, eo60, e⟩ := e
  replace e := ob e
  obtain ⟨x61, ex61, e⟩ := e
  refine j_callV (ci := 10) (RC := RX10) (T := TX10) (N := 38) (As := []) (b := l0) (na := 0) (st := [.int (2 : Int32), .ref l0]) (k1 := 0) (n1 := 0) C hr (sX10_n ex61) rfl eo60 kX10_105 kim_X10_n ksel_X10_n kini_X10 kc_X10_n (by decide) rfl ⟨(Nat.le_of_ble_eq_true rfl), (Nat.le_of_ble_eq_true rfl)⟩ (Nat.le_of_ble_eq_true rfl) ⟨rfl, rfl, (Nat.le_of_ble_eq_true rfl), (Nat.le_of_ble_eq_true rfl)⟩ dX10_times_70 ?_
  rintro _ _ ⟨rfl, rfl⟩
  show jx_J X 0 0 73 [(0, .ref l0), (1, .int l1), (2, .int l2)] [.int x61, .int (2 : Int32), .ref l0] h59
  refine j_imul C dX10_times_73 ?_
  replace e := ob e
  obtain ⟨_, eo62, e⟩ := e
  replace e := ob e
  obtain ⟨h63, eh63, e⟩ := e
  refine j_callV (ci := 10) (RC := RX10) (T := TX10) (N := 38) (As := [.int ((2 : Int32) * x61)]) (b := l0) (na := 1) (st := []) (k1 := 0) (n1 := 0) C hr (sX10_reduces eh63) rfl eo62 kX10_301 kim_X10_reduces ksel_X10_reduces kini_X10 kc_X10_reduces (by decide) rfl ⟨(Nat.le_of_ble_eq_true rfl), (Nat.le_of_ble_eq_true rfl)⟩ (Nat.le_of_ble_eq_true rfl) ⟨rfl, rfl, (Nat.le_of_ble_eq_true rfl), (Nat.le_of_ble_eq_true rfl)⟩ dX10_times_74 ?_
  rintro _ _ ⟨rfl, rfl⟩
  show jx_J X 0 0 77 [(0, .ref l0), (1, .int l1), (2, .int l2)] [] h63
  refine j_aload_n C dX10_times_77 rfl rfl ?_
  replace e := ob e
  obtain ⟨_, eo64, e⟩ := e
  replace e := ob e
  obtain ⟨x65, ex65, e⟩ := e
  refine j_callV (ci := 10) (RC := RX10) (T := TX10) (N := 38) (As := []) (b := l0) (na := 0) (st := []) (k1 := 0) (n1 := 0) C hr (sX10_n ex65) rfl eo64 kX10_105 kim_X10_n ksel_X10_n kini_X10 kc_X10_n (by decide) rfl ⟨(Nat.le_of_ble_eq_true rfl), (Nat.le_of_ble_eq_true rfl)⟩ (Nat.le_of_ble_eq_true rfl) ⟨rfl, rfl, (Nat.le_of_ble_eq_true rfl), (Nat.le_of_ble_eq_true rfl)⟩ dX10_times_78 ?_
  rintro _ _ ⟨rfl, rfl⟩
  show jx_J X 0 0 81 [(0, .ref l0), (1, .int l1), (2, .int l2)] [.int x65] h63
  refine j_aload_n C dX10_times_81 rfl rfl ?_
  replace e := ob e
  obtain ⟨x66, ex66, e⟩ := e
  refine j_geti (ci := 10) (RC := RX10) (T := TX10) (N := 38) 28 C rfl klX10 (Nat.le_of_ble_eq_true rfl) kX10_283 rfl dX10_times_82 ex66 ?_
  refine j_isub C dX10_times_85 ?_
  cases e
  exact j_iret C hq rfl dX10_times_86 ⟨Nat.le_of_ble_eq_true rfl, Nat.le_of_ble_eq_true rfl⟩ ⟨rfl, rfl⟩
/-! BorderBasisModel.distinct()I -/
noncomputable def LX10_distinct_16 (l0 : Nat) (l1 : Int32) (l2 : Int32) (h : jx_H) : Option ((Int32 × jx_H) ⊕ ((Int32 × jx_H) ⊕ (Int32 × jx_H))) :=
(isO h l0 10).bind fun _ =>
(FX10_n l0 h).bind fun x11 =>
if x11 ≤ l2 then
 exL (some (.inl ((l1 + (1 : Int32)), h)))
else
 (hgr h l0 10 25).bind fun x12 =>
 (FX10_cell l1 l2 h).bind fun x13 =>
 (hgr h l0 10 1).bind fun x14 =>
 (hal h .int x14 ((4 : Int32) + l1)).bind fun x15 =>
 (hgr h l0 10 1).bind fun x16 =>
 (hal h .int x16 ((4 : Int32) + l2)).bind fun x17 =>
 (hgr h l0 10 1).bind fun x18 =>
 (hal h .int x18 ((16 : Int32) + l1)).bind fun x19 =>
 (hgr h l0 10 1).bind fun x20 =>
 (hal h .int x20 ((16 : Int32) + l2)).bind fun x21 =>
 (isO h l0 10).bind fun _ =>
 bind2 (FX10_traceOf l0 (x15 + x17) (x19 + x21) h) fun x23 h24 =>
 (has h24 .int x12 x13 x23).bind fun h25 =>
 some (.inl ((l2 + (1 : Int32)), h25))
noncomputable def LX10_distinct_6 (l0 : Nat) (l1 : Int32) (h : jx_H) : Option ((Int32 × jx_H) ⊕ (Int32 × jx_H)) :=
(isO h l0 10).bind fun _ =>
(FX10_n l0 h).bind fun x4 =>
if x4 ≤ l1 then
 exL ((isO h l0 10).bind fun _ =>
 (FX10_n l0 h).bind fun x6 =>
 (isO h l0 10).bind fun _ =>
 (FX10_reduces l0 x6 h).bind fun h8 =>
 (hgi h8 l0 10 28).bind fun x9 =>
 some (x9, h8))
else
 itr (fun s : Int32 × jx_H => LX10_distinct_16 l0 l1 s.1 s.2) ((0 : Int32), h)
noncomputable def FX10_distinct (l0 : Nat) (h : jx_H) : Option (Int32 × jx_H) :=
(isO h l0 10).bind fun _ =>
(FX10_laysTables l0 h).bind fun h2 =>
itr (fun s : Int32 × jx_H => LX10_distinct_6 l0 s.1 s.2) ((0 : Int32), h2)
def rmX10_distinct : Room := { frames := 4, cells := 0, slots := 0, locals := 95 }
set_option maxRecDepth 20000 in
set_option maxHeartbeats 4000000 in
theorem sX10_distinct {l0 : Nat} {h : jx_H} {r : Int32} {h9 : jx_H} (e : FX10_distinct l0 h = some (r, h9)) : jx_Ct yX10_distinct cX10_distinct 3 (some .int) rmX10_distinct [.ref l0] h (fun r' h' => some (.int r) = r' ∧ h9 = h') := by
  refine jx_Ct.of (own := RX10) (by decide) rfl (Nat.le_of_ble_eq_true rfl) (fun X C hq hr hL hN => ?_)
  refine jx_sub (lv' := [(0, .ref l0)]) [0] rfl ?_
  unfold FX10_distinct at e
  refine j_aload_n C dX10_distinct_0 rfl rfl ?_
  replace e := ob e
  obtain ⟨_, eo28, e⟩ := e
  replace e := ob e
  obtain ⟨h29, eh29, e⟩ := e
  refine j_callV (ci := 10) (RC := RX10) (T := TX10) (N := 38) (As := []) (b := l0) (na := 0) (st := []) (k1 := 0) (n1 := 0) C hr (sX10_laysTables eh29) rfl eo28 kX10_261 kim_X10_laysTables ksel_X10_laysTables kini_X10 kc_X10_laysTables (by decide) rfl ⟨(Nat.le_of_ble_eq_true rfl), (Nat.le_of_ble_eq_true rfl)⟩ (Nat.le_of_ble_eq_true rfl) ⟨rfl, rfl, (Nat.le_of_ble_eq_true rfl), (Nat.le_of_ble_eq_true rfl)⟩ dX10_distinct_1 ?_
  rintro _ _ ⟨rfl, rfl⟩
  show jx_J X 0 0 4 [(0, .ref l0)] [] h29
  refine j_iconst (v := (0 : Int32)) C dX10_distinct_4 (by decide) ?_
  refine j_istore_n (lv1 := [(1, .int (0 : Int32)), (0, .ref l0)]) C hL dX10_distinct_5 rfl (Nat.le_of_ble_eq_true rfl) rfl ?_
  refine jx_sub (lv' := [(0, .ref l0), (1, .int (0 : Int32))]) [1, 0] rfl ?_
  refine itr_ind (s0 := ((0 : Int32), h29)) (fun s : Int32 × jx_H => jx_J X 0 0 6 [(0, .ref l0), (1, .int s.1)] [] s.2) e ?_
  clear e
  intro s kI3 kT3 e0
  obtain ⟨z30, h31⟩ := s
  obtain ⟨u3, e0_3⟩ := e0
  have e : LX10_distinct_6 l0 z30 h31 = some u3 := e0_3
  unfold LX10_distinct_6 at e
  refine j_iload_n C dX10_distinct_6 rfl rfl ?_
  refine j_aload_n C dX10_distinct_7 rfl rfl ?_
  replace e := ob e
  obtain ⟨_, eo32, e⟩ := e
  replace e := ob e
  obtain ⟨x33, ex33, e⟩ := e
  refine j_callV (ci := 10) (RC := RX10) (T := TX10) (N := 38) (As := []) (b := l0) (na := 0) (st := [.int z30]) (k1 := 0) (n1 := 0) C hr (sX10_n ex33) rfl eo32 kX10_105 kim_X10_n ksel_X10_n kini_X10 kc_X10_n (by decide) rfl ⟨(Nat.le_of_ble_eq_true rfl), (Nat.le_of_ble_eq_true rfl)⟩ (Nat.le_of_ble_eq_true rfl) ⟨rfl, rfl, (Nat.le_of_ble_eq_true rfl), (Nat.le_of_ble_eq_true rfl)⟩ dX10_distinct_8 ?_
  rintro _ _ ⟨rfl, rfl⟩
  show jx_J X 0 0 11 [(0, .ref l0), (1, .int z30)] [.int x33, .int z30] h31
  refine j_icmp_ge (tgt := 86) C dX10_distinct_11 (by decide) (fun c58 => ?_) (fun c58 => ?_)
  · replace e := ifp c58 e
    obtain ⟨t_4, e_4, eu_4⟩ := exL_spec e
    obtain rfl := kT3 t_4 (e0_3.trans (congrArg some eu_4))
    replace e := e_4
    refine j_aload_n C dX10_distinct_86 rfl rfl ?_
    refine j_aload_n C dX10_distinct_87 rfl rfl ?_
    replace e := ob e
    obtain ⟨_, eo34, e⟩ := e
    replace e := ob e
    obtain ⟨x35, ex35, e⟩ := e
    refine j_callV (ci := 10) (RC := RX10) (T := TX10) (N := 38) (As := []) (b := l0) (na := 0) (st := [.ref l0]) (k1 := 0) (n1 := 0) C hr (sX10_n ex35) rfl eo34 kX10_105 kim_X10_n ksel_X10_n kini_X10 kc_X10_n (by decide) rfl ⟨(Nat.le_of_ble_eq_true rfl), (Nat.le_of_ble_eq_true rfl)⟩ (Nat.le_of_ble_eq_true rfl) ⟨rfl, rfl, (Nat.le_of_ble_eq_true rfl), (Nat.le_of_ble_eq_true rfl)⟩ dX10_distinct_88 ?_
    rintro _ _ ⟨rfl, rfl⟩
    show jx_J X 0 0 91 [(0, .ref l0), (1, .int z30)] [.int x35, .ref l0] h31
    replace e := ob e
    obtain ⟨_, eo36, e⟩ := e
    replace e := ob e
    obtain ⟨h37, eh37, e⟩ := e
    refine j_callV (ci := 10) (RC := RX10) (T := TX10) (N := 38) (As := [.int x35]) (b := l0) (na := 1) (st := []) (k1 := 0) (n1 := 0) C hr (sX10_reduces eh37) rfl eo36 kX10_301 kim_X10_reduces ksel_X10_reduces kini_X10 kc_X10_reduces (by decide) rfl ⟨(Nat.le_of_ble_eq_true rfl), (Nat.le_of_ble_eq_true rfl)⟩ (Nat.le_of_ble_eq_true rfl) ⟨rfl, rfl, (Nat.le_of_ble_eq_true rfl), (Nat.le_of_ble_eq_true rfl)⟩ dX10_distinct_91 ?_
    rintro _ _ ⟨rfl, rfl⟩
    show jx_J X 0 0 94 [(0, .ref l0), (1, .int z30)] [] h37
    refine j_aload_n C dX10_distinct_94 rfl rfl ?_
    replace e := ob e
    obtain ⟨x38, ex38, e⟩ := e
    refine j_geti (ci := 10) (RC := RX10) (T := TX10) (N := 38) 28 C rfl klX10 (Nat.le_of_ble_eq_true rfl) kX10_283 rfl dX10_distinct_95 ex38 ?_
    cases e
    exact j_iret C hq rfl dX10_distinct_98 ⟨Nat.le_of_ble_eq_true rfl, Nat.le_of_ble_eq_true rfl⟩ ⟨rfl, rfl⟩
  · replace e := ifn c58 e
    refine j_iconst (v := (0 : Int32)) C dX10_distinct_14 (by decide) ?_
    refine j_istore_n (lv1 := [(2, .int (0 : Int32)), (0, .ref l0), (1, .int z30)]) C hL dX10_distinct_15 rfl (Nat.le_of_ble_eq_true rfl) rfl ?_
    refine jx_sub (lv' := [(0, .ref l0), (1, .int z30), (2, .int (0 : Int32))]) [1, 2, 0] rfl ?_
    refine itr_ind (s0 := ((0 : Int32), h31)) (fun s : Int32 × jx_H => jx_J X 0 0 16 [(0, .ref l0), (1, .int z30), (2, .int s.1)] [] s.2) e ?_
    clear e
    intro s kI5 kT5 e0
    obtain ⟨z39, h40⟩ := s
    obtain ⟨u5, e0_5⟩ := e0
    have e : LX10_distinct_16 l0 z30 z39 h40 = some u5 := e0_5
    unfold LX10_distinct_16 at e
    refine j_iload_n C dX10_distinct_16 rfl rfl ?_
    refine j_aload_n C dX10_distinct_17 rfl rfl ?_
    replace e := ob e
    obtain ⟨_, eo41, e⟩ := e
    replace e := ob e
    obtain ⟨x42, ex42, e⟩ := e
    refine j_callV (ci := 10) (RC := RX10) (T := TX10) (N := 38) (As := []) (b := l0) (na := 0) (st := [.int z39]) (k1 := 0) (n1 := 0) C hr (sX10_n ex42) rfl eo41 kX10_105 kim_X10_n ksel_X10_n kini_X10 kc_X10_n (by decide) rfl ⟨(Nat.le_of_ble_eq_true rfl), (Nat.le_of_ble_eq_true rfl)⟩ (Nat.le_of_ble_eq_true rfl) ⟨rfl, rfl, (Nat.le_of_ble_eq_true rfl), (Nat.le_of_ble_eq_true rfl)⟩ dX10_distinct_18 ?_
    rintro _ _ ⟨rfl, rfl⟩
    show jx_J X 0 0 21 [(0, .ref l0), (1, .int z30), (2, .int z39)] [.int x42, .int z39] h40
    refine j_icmp_ge (tgt := 80) C dX10_distinct_21 (by decide) (fun c57 => ?_) (fun c57 => ?_)
    · replace e := ifp c57 e
      obtain ⟨t_6, e_6, eu_6⟩ := exL_spec e
      obtain rfl := kT5 t_6 (e0_5.trans (congrArg some eu_6))
      replace e := e_6
      refine j_iinc (v := (z30 + (1 : Int32))) (lv1 := [(1, .int (z30 + (1 : Int32))), (0, .ref l0), (2, .int z39)]) C hL dX10_distinct_80 rfl rfl (Nat.le_of_ble_eq_true rfl) rfl ?_
      refine j_goto (tgt := 6) C dX10_distinct_83 (by decide) ?_
      obtain rfl := Option.some.inj e
      refine jx_sub (lv' := [(0, .ref l0), (1, .int (z30 + (1 : Int32)))]) [1, 0] rfl ?_
      exact kI3 ((z30 + (1 : Int32)), h40) e0_3
    · replace e := ifn c57 e
      refine j_aload_n C dX10_distinct_24 rfl rfl ?_
      replace e := ob e
      obtain ⟨x43, ex43, e⟩ := e
      refine j_getr (ci := 10) (RC := RX10) (T := TX10) (N := 38) 25 C rfl klX10 (Nat.le_of_ble_eq_true rfl) kX10_58 rfl dX10_distinct_25 ex43 ?_
      refine j_iload_n C dX10_distinct_28 rfl rfl ?_
      refine j_iload_n C dX10_distinct_29 rfl rfl ?_
      replace e := ob e
      obtain ⟨x44, ex44, e⟩ := e
      refine j_callS (As := [.int z30, .int z39]) (na := 2) (st := [.ref x43]) (k1 := 0) (n1 := 0) C hr (sX10_cell ex44) kX10_254 kst_X10_cell kini_X10 kc_X10_cell (by decide) rfl ⟨(Nat.le_of_ble_eq_true rfl), (Nat.le_of_ble_eq_true rfl)⟩ (Nat.le_of_ble_eq_true rfl) ⟨rfl, rfl, (Nat.le_of_ble_eq_true rfl), (Nat.le_of_ble_eq_true rfl)⟩ dX10_distinct_30 ?_
      rintro _ _ ⟨rfl, rfl⟩
      show jx_J X 0 0 33 [(0, .ref l0), (1, .int z30), (2, .int z39)] [.int x44, .ref x43] h40
      refine j_aload_n C dX10_distinct_33 rfl rfl ?_
      refine j_aload_n C dX10_distinct_34 rfl rfl ?_
      replace e := ob e
      obtain ⟨x45, ex45, e⟩ := e
      refine j_getr (ci := 10) (RC := RX10) (T := TX10) (N := 38) 1 C rfl klX10 (Nat.le_of_ble_eq_true rfl) kX10_7 rfl dX10_distinct_35 ex45 ?_
      refine j_iconst (v := (4 : Int32)) C dX10_distinct_38 (by decide) ?_
      refine j_iload_n C dX10_distinct_39 rfl rfl ?_
      refine j_iadd C dX10_distinct_40 ?_
      replace e := ob e
      obtain ⟨x46, ex46, e⟩ := e
      refine j_iald C dX10_distinct_41 ex46 ?_
      refine j_aload_n C dX10_distinct_42 rfl rfl ?_
      replace e := ob e
      obtain ⟨x47, ex47, e⟩ := e
      refine j_getr (ci := 10) (RC := RX10) (T := TX10) (N := 38) 1 C rfl klX10 (Nat.le_of_ble_eq_true rfl) kX10_7 rfl dX10_distinct_43 ex47 ?_
      refine j_iconst (v := (4 : Int32)) C dX10_distinct_46 (by decide) ?_
      refine j_iload_n C dX10_distinct_47 rfl rfl ?_
      refine j_iadd C dX10_distinct_48 ?_
      replace e := ob e
      obtain ⟨x48, ex48, e⟩ := e
      refine j_iald C dX10_distinct_49 ex48 ?_
      refine j_iadd C dX10_distinct_50 ?_
      refine j_aload_n C dX10_distinct_51 rfl rfl ?_
      replace e := ob e
      obtain ⟨x49, ex49, e⟩ := e
      refine j_getr (ci := 10) (RC := RX10) (T := TX10) (N := 38) 1 C rfl klX10 (Nat.le_of_ble_eq_true rfl) kX10_7 rfl dX10_distinct_52 ex49 ?_
      refine j_bipush (v := (16 : Int32)) C dX10_distinct_55 (by decide) ?_
      refine j_iload_n C dX10_distinct_57 rfl rfl ?_
      refine j_iadd C dX10_distinct_58 ?_
      replace e := ob e
      obtain ⟨x50, ex50, e⟩ := e
      refine j_iald C dX10_distinct_59 ex50 ?_
      refine j_aload_n C dX10_distinct_60 rfl rfl ?_
      replace e := ob e
      obtain ⟨x51, ex51, e⟩ := e
      refine j_getr (ci := 10) (RC := RX10) (T := TX10) (N := 38) 1 C rfl klX10 (Nat.le_of_ble_eq_true rfl) kX10_7 rfl dX10_distinct_61 ex51 ?_
      refine j_bipush (v := (16 : Int32)) C dX10_distinct_64 (by decide) ?_
      refine j_iload_n C dX10_distinct_66 rfl rfl ?_
      refine j_iadd C dX10_distinct_67 ?_
      replace e := ob e
      obtain ⟨x52, ex52, e⟩ := e
      refine j_iald C dX10_distinct_68 ex52 ?_
      refine j_iadd C dX10_distinct_69 ?_
      replace e := ob e
      obtain ⟨_, eo53, e⟩ := e
      replace e := ob2 e
      obtain ⟨x54, h55, ex54, e⟩ := e
      refine j_callV (ci := 10) (RC := RX10) (T := TX10) (N := 38) (As := [.int (x46 + x48), .int (x50 + x52)]) (b := l0) (na := 2) (st := [.int x44, .ref x43]) (k1 := 0) (n1 := 0) C hr (sX10_traceOf ex54) rfl eo53 kX10_304 kim_X10_traceOf ksel_X10_traceOf kini_X10 kc_X10_traceOf (by decide) rfl ⟨(Nat.le_of_ble_eq_true rfl), (Nat.le_of_ble_eq_true rfl)⟩ (Nat.le_of_ble_eq_true rfl) ⟨rfl, rfl, (Nat.le_of_ble_eq_true rfl), (Nat.le_of_ble_eq_true rfl)⟩ dX10_distinct_70 ?_
      rintro _ _ ⟨rfl, rfl⟩
      show jx_J X 0 0 73 [(0, .ref l0), (1, .int z30), (2, .int z39)] [.int x54, .int x44, .ref x43] h55
      replace e := ob e
      obtain ⟨h56, eh56, e⟩ := e
      refine j_iast C dX10_distinct_73 eh56 ?_
      refine j_iinc (v := (z39 + (1 : Int32))) (lv1 := [(2, .int (z39 + (1 : Int32))), (0, .ref l0), (1, .int z30)]) C hL dX10_distinct_74 rfl rfl (Nat.le_of_ble_eq_true rfl) rfl ?_
      refine j_goto (tgt := 16) C dX10_distinct_77 (by decide) ?_
      obtain rfl := Option.some.inj e
      refine jx_sub (lv' := [(0, .ref l0), (1, .int z30), (2, .int (z39 + (1 : Int32)))]) [1, 2, 0] rfl ?_
      exact kI5 ((z39 + (1 : Int32)), h56) e0_5
/-! BorderBasisModel.applies([I)V -/
noncomputable def LX10_applies_69 (l0 : Nat) (l2 : Int32) (h : jx_H) : Option ((Int32 × jx_H) ⊕ (jx_H)) :=
(isO h l0 10).bind fun _ =>
(FX10_n l0 h).bind fun x4 =>
if x4 ≤ l2 then
 exL (some h)
else
 (hgr h l0 10 26).bind fun x5 =>
 (hgr h l0 10 27).bind fun x6 =>
 (hal h .int x6 l2).bind fun x7 =>
 (has h .int x5 l2 x7).bind fun h8 =>
 some (.inl ((l2 + (1 : Int32)), h8))
noncomputable def LX10_applies_15 (l0 : Nat) (l1 : Nat) (l2 : Int32) (l3 : Int32) (l4 : Int32) (h : jx_H) : Option ((Int32 × Int32) ⊕ ((Int32 × jx_H) ⊕ (jx_H))) :=
(isO h l0 10).bind fun _ =>
(FX10_n l0 h).bind fun x11 =>
if x11 ≤ l4 then
 exL ((hgr h l0 10 27).bind fun x12 =>
 (isO h l0 10).bind fun _ =>
 (FX10_p l0 h).bind fun x14 =>
 if x14 = 0 then none else
 (has h .int x12 l2 (l3 - l3 / x14 * x14)).bind fun h16 =>
 some (.inl ((l2 + (1 : Int32)), h16)))
else
 (FX10_cell l2 l4 h).bind fun x17 =>
 (hal h .int l1 x17).bind fun x18 =>
 (hgr h l0 10 26).bind fun x19 =>
 (hal h .int x19 l4).bind fun x20 =>
 some (.inl ((l3 + (x18 * x20)), (l4 + (1 : Int32))))
noncomputable def LX10_applies_2 (l0 : Nat) (l1 : Nat) (l2 : Int32) (h : jx_H) : Option ((Int32 × jx_H) ⊕ (jx_H)) :=
(isO h l0 10).bind fun _ =>
(FX10_n l0 h).bind fun x2 =>
if x2 ≤ l2 then
 exL (itr (fun s : Int32 × jx_H => LX10_applies_69 l0 s.1 s.2) ((0 : Int32), h))
else
 itr (fun s : Int32 × Int32 => LX10_applies_15 l0 l1 l2 s.1 s.2 h) ((0 : Int32), (0 : Int32))
noncomputable def FX10_applies (l0 : Nat) (l1 : Nat) (h : jx_H) : Option (jx_H) :=
itr (fun s : Int32 × jx_H => LX10_applies_2 l0 l1 s.1 s.2) ((0 : Int32), h)
def rmX10_applies : Room := { frames := 1, cells := 0, slots := 0, locals := 21 }
set_option maxRecDepth 20000 in
set_option maxHeartbeats 4000000 in
theorem sX10_applies {l0 : Nat} {l1 : Nat} {h : jx_H} {h9 : jx_H} (e : FX10_applies l0 l1 h = some h9) : jx_Ct yX10_applies cX10_applies 5 none rmX10_applies [.ref l0, .ref l1] h (fun r' h' => none = r' ∧ h9 = h') := by
  refine jx_Ct.of (own := RX10) (by decide) rfl (Nat.le_of_ble_eq_true rfl) (fun X C hq hr hL hN => ?_)
  refine jx_sub (lv' := [(0, .ref l0), (1, .ref l1)]) [0, 1] rfl ?_
  unfold FX10_applies at e
  refine j_iconst (v := (0 : Int32)) C dX10_applies_0 (by decide) ?_
  refine j_istore_n (lv1 := [(2, .int (0 : Int32)), (0, .ref l0), (1, .ref l1)]) C hL dX10_applies_1 rfl (Nat.le_of_ble_eq_true rfl) rfl ?_
  refine jx_sub (lv' := [(0, .ref l0), (1, .ref l1), (2, .int (0 : Int32))]) [1, 2, 0] rfl ?_
  refine itr_ind (s0 := ((0 : Int32), h)) (fun s : Int32 × jx_H => jx_J X 0 0 2 [(0, .ref l0), (1, .ref l1), (2, .int s.1)] [] s.2) e ?_
  clear e
  intro s kI4 kT4 e0
  obtain ⟨z23, h24⟩ := s
  obtain ⟨u4, e0_4⟩ := e0
  have e : LX10_applies_2 l0 l1 z23 h24 = some u4 := e0_4
  unfold LX10_applies_2 at e
  refine j_iload_n C dX10_applies_2 rfl rfl ?_
  refine j_aload_n C dX10_applies_3 rfl rfl ?_
  replace e := ob e
  obtain ⟨_, eo25, e⟩ := e
  replace e := ob e
  obtain ⟨x26, ex26, e⟩ := e
  refine j_callV (ci := 10) (RC := RX10) (T := TX10) (N := 38) (As := []) (b := l0) (na := 0) (st := [.int z23]) (k1 := 0) (n1 := 0) C hr (sX10_n ex26) rfl eo25 kX10_105 kim_X10_n ksel_X10_n kini_X10 kc_X10_n (by decide) rfl ⟨(Nat.le_of_ble_eq_true rfl), (Nat.le_of_ble_eq_true rfl)⟩ (Nat.le_of_ble_eq_true rfl) ⟨rfl, rfl, (Nat.le_of_ble_eq_true rfl), (Nat.le_of_ble_eq_true rfl)⟩ dX10_applies_4 ?_
  rintro _ _ ⟨rfl, rfl⟩
  show jx_J X 0 0 7 [(0, .ref l0), (1, .ref l1), (2, .int z23)] [.int x26, .int z23] h24
  refine j_icmp_ge (tgt := 67) C dX10_applies_7 (by decide) (fun c50 => ?_) (fun c50 => ?_)
  · replace e := ifp c50 e
    obtain ⟨t_7, e_7, eu_7⟩ := exL_spec e
    obtain rfl := kT4 t_7 (e0_4.trans (congrArg some eu_7))
    replace e := e_7
    refine j_iconst (v := (0 : Int32)) C dX10_applies_67 (by decide) ?_
    refine j_istore_n (lv1 := [(2, .int (0 : Int32)), (0, .ref l0), (1, .ref l1)]) C hL dX10_applies_68 rfl (Nat.le_of_ble_eq_true rfl) rfl ?_
    refine jx_sub (lv' := [(0, .ref l0), (2, .int (0 : Int32))]) [1, 0] rfl ?_
    refine itr_ind (s0 := ((0 : Int32), h24)) (fun s : Int32 × jx_H => jx_J X 0 0 69 [(0, .ref l0), (2, .int s.1)] [] s.2) e ?_
    clear e
    intro s kI5 kT5 e0
    obtain ⟨z27, h28⟩ := s
    obtain ⟨u5, e0_5⟩ := e0
    have e : LX10_applies_69 l0 z27 h28 = some u5 := e0_5
    unfold LX10_applies_69 at e
    refine j_iload_n C dX10_applies_69 rfl rfl ?_
    refine j_aload_n C dX10_applies_70 rfl rfl ?_
    replace e := ob e
    obtain ⟨_, eo29, e⟩ := e
    replace e := ob e
    obtain ⟨x30, ex30, e⟩ := e
    refine j_callV (ci := 10) (RC := RX10) (T := TX10) (N := 38) (As := []) (b := l0) (na := 0) (st := [.int z27]) (k1 := 0) (n1 := 0) C hr (sX10_n ex30) rfl eo29 kX10_105 kim_X10_n ksel_X10_n kini_X10 kc_X10_n (by decide) rfl ⟨(Nat.le_of_ble_eq_true rfl), (Nat.le_of_ble_eq_true rfl)⟩ (Nat.le_of_ble_eq_true rfl) ⟨rfl, rfl, (Nat.le_of_ble_eq_true rfl), (Nat.le_of_ble_eq_true rfl)⟩ dX10_applies_71 ?_
    rintro _ _ ⟨rfl, rfl⟩
    show jx_J X 0 0 74 [(0, .ref l0), (2, .int z27)] [.int x30, .int z27] h28
    refine j_icmp_ge (tgt := 95) C dX10_applies_74 (by decide) (fun c35 => ?_) (fun c35 => ?_)
    · replace e := ifp c35 e
      obtain ⟨t_6, e_6, eu_6⟩ := exL_spec e
      obtain rfl := kT5 t_6 (e0_5.trans (congrArg some eu_6))
      replace e := e_6
      cases e
      exact j_vret C hq dX10_applies_95 ⟨Nat.le_of_ble_eq_true rfl, Nat.le_of_ble_eq_true rfl⟩ ⟨rfl, rfl⟩
    · replace e := ifn c35 e
      refine j_aload_n C dX10_applies_77 rfl rfl ?_
      replace e := ob e
      obtain ⟨x31, ex31, e⟩ := e
      refine j_getr (ci := 10) (RC := RX10) (T := TX10) (N := 38) 26 C rfl klX10 (Nat.le_of_ble_eq_true rfl) kX10_61 rfl dX10_applies_78 ex31 ?_
      refine j_iload_n C dX10_applies_81 rfl rfl ?_
      refine j_aload_n C dX10_applies_82 rfl rfl ?_
      replace e := ob e
      obtain ⟨x32, ex32, e⟩ := e
      refine j_getr (ci := 10) (RC := RX10) (T := TX10) (N := 38) 27 C rfl klX10 (Nat.le_of_ble_eq_true rfl) kX10_64 rfl dX10_applies_83 ex32 ?_
      refine j_iload_n C dX10_applies_86 rfl rfl ?_
      replace e := ob e
      obtain ⟨x33, ex33, e⟩ := e
      refine j_iald C dX10_applies_87 ex33 ?_
      replace e := ob e
      obtain ⟨h34, eh34, e⟩ := e
      refine j_iast C dX10_applies_88 eh34 ?_
      refine j_iinc (v := (z27 + (1 : Int32))) (lv1 := [(2, .int (z27 + (1 : Int32))), (0, .ref l0)]) C hL dX10_applies_89 rfl rfl (Nat.le_of_ble_eq_true rfl) rfl ?_
      refine j_goto (tgt := 69) C dX10_applies_92 (by decide) ?_
      obtain rfl := Option.some.inj e
      refine jx_sub (lv' := [(0, .ref l0), (2, .int (z27 + (1 : Int32)))]) [1, 0] rfl ?_
      exact kI5 ((z27 + (1 : Int32)), h34) e0_5
  · replace e := ifn c50 e
    refine j_iconst (v := (0 : Int32)) C dX10_applies_10 (by decide) ?_
    refine j_istore_n (lv1 := [(3, .int (0 : Int32)), (0, .ref l0), (1, .ref l1), (2, .int z23)]) C hL dX10_applies_11 rfl (Nat.le_of_ble_eq_true rfl) rfl ?_
    refine j_iconst (v := (0 : Int32)) C dX10_applies_12 (by decide) ?_
    refine j_istore (lv1 := [(4, .int (0 : Int32)), (3, .int (0 : Int32)), (0, .ref l0), (1, .ref l1), (2, .int z23)]) C hL dX10_applies_13 (Nat.le_of_ble_eq_true rfl) rfl ?_
    refine jx_sub (lv' := [(0, .ref l0), (1, .ref l1), (2, .int z23), (3, .int (0 : Int32)), (4, .int (0 : Int32))]) [2, 3, 4, 1, 0] rfl ?_
    refine itr_ind (s0 := ((0 : Int32), (0 : Int32))) (fun s : Int32 × Int32 => jx_J X 0 0 15 [(0, .ref l0), (1, .ref l1), (2, .int z23), (3, .int s.1), (4, .int s.2)] [] h24) e ?_
    clear e
    intro s kI8 kT8 e0
    obtain ⟨z36, z37⟩ := s
    obtain ⟨u8, e0_8⟩ := e0
    have e : LX10_applies_15 l0 l1 z23 z36 z37 h24 = some u8 := e0_8
    unfold LX10_applies_15 at e
    refine j_iload C dX10_applies_15 rfl ?_
    refine j_aload_n C dX10_applies_17 rfl rfl ?_
    replace e := ob e
    obtain ⟨_, eo38, e⟩ := e
    replace e := ob e
    obtain ⟨x39, ex39, e⟩ := e
    refine j_callV (ci := 10) (RC := RX10) (T := TX10) (N := 38) (As := []) (b := l0) (na := 0) (st := [.int z37]) (k1 := 0) (n1 := 0) C hr (sX10_n ex39) rfl eo38 kX10_105 kim_X10_n ksel_X10_n kini_X10 kc_X10_n (by decide) rfl ⟨(Nat.le_of_ble_eq_true rfl), (Nat.le_of_ble_eq_true rfl)⟩ (Nat.le_of_ble_eq_true rfl) ⟨rfl, rfl, (Nat.le_of_ble_eq_true rfl), (Nat.le_of_ble_eq_true rfl)⟩ dX10_applies_18 ?_
    rintro _ _ ⟨rfl, rfl⟩
    show jx_J X 0 0 21 [(0, .ref l0), (1, .ref l1), (2, .int z23), (3, .int z36), (4, .int z37)] [.int x39, .int z37] h24
    refine j_icmp_ge (tgt := 49) C dX10_applies_21 (by decide) (fun c49 => ?_) (fun c49 => ?_)
    · replace e := ifp c49 e
      obtain ⟨t_9, e_9, eu_9⟩ := exL_spec e
      obtain rfl := kT8 t_9 (e0_8.trans (congrArg some eu_9))
      replace e := e_9
      refine j_aload_n C dX10_applies_49 rfl rfl ?_
      replace e := ob e
      obtain ⟨x40, ex40, e⟩ := e
      refine j_getr (ci := 10) (RC := RX10) (T := TX10) (N := 38) 27 C rfl klX10 (Nat.le_of_ble_eq_true rfl) kX10_64 rfl dX10_applies_50 ex40 ?_
      refine j_iload_n C dX10_applies_53 rfl rfl ?_
      refine j_iload_n C dX10_applies_54 rfl rfl ?_
      refine j_aload_n C dX10_applies_55 rfl rfl ?_
      replace e := ob e
      obtain ⟨_, eo41, e⟩ := e
      replace e := ob e
      obtain ⟨x42, ex42, e⟩ := e
      refine j_callV (ci := 10) (RC := RX10) (T := TX10) (N := 38) (As := []) (b := l0) (na := 0) (st := [.int z36, .int z23, .ref x40]) (k1 := 0) (n1 := 0) C hr (sX10_p ex42) rfl eo41 kX10_97 kim_X10_p ksel_X10_p kini_X10 kc_X10_p (by decide) rfl ⟨(Nat.le_of_ble_eq_true rfl), (Nat.le_of_ble_eq_true rfl)⟩ (Nat.le_of_ble_eq_true rfl) ⟨rfl, rfl, (Nat.le_of_ble_eq_true rfl), (Nat.le_of_ble_eq_true rfl)⟩ dX10_applies_56 ?_
      rintro _ _ ⟨rfl, rfl⟩
      show jx_J X 0 0 59 [(0, .ref l0), (1, .ref l1), (2, .int z23), (3, .int z36), (4, .int z37)] [.int x42, .int z36, .int z23, .ref x40] h24
      by_cases c43 : x42 = 0
      · exact nos (ifp c43 e)
      replace e := ifn c43 e
      refine j_irem C dX10_applies_59 c43 ?_
      replace e := ob e
      obtain ⟨h44, eh44, e⟩ := e
      refine j_iast C dX10_applies_60 eh44 ?_
      refine j_iinc (v := (z23 + (1 : Int32))) (lv1 := [(2, .int (z23 + (1 : Int32))), (0, .ref l0), (1, .ref l1), (3, .int z36), (4, .int z37)]) C hL dX10_applies_61 rfl rfl (Nat.le_of_ble_eq_true rfl) rfl ?_
      refine j_goto (tgt := 2) C dX10_applies_64 (by decide) ?_
      obtain rfl := Option.some.inj e
      refine jx_sub (lv' := [(0, .ref l0), (1, .ref l1), (2, .int (z23 + (1 : Int32)))]) [1, 2, 0] rfl ?_
      exact kI4 ((z23 + (1 : Int32)), h44) e0_4
    · replace e := ifn c49 e
      refine j_iload_n C dX10_applies_24 rfl rfl ?_
      refine j_aload_n C dX10_applies_25 rfl rfl ?_
      refine j_iload_n C dX10_applies_26 rfl rfl ?_
      refine j_iload C dX10_applies_27 rfl ?_
      replace e := ob e
      obtain ⟨x45, ex45, e⟩ := e
      refine j_callS (As := [.int z23, .int z37]) (na := 2) (st := [.ref l1, .int z36]) (k1 := 0) (n1 := 0) C hr (sX10_cell ex45) kX10_254 kst_X10_cell kini_X10 kc_X10_cell (by decide) rfl ⟨(Nat.le_of_ble_eq_true rfl), (Nat.le_of_ble_eq_true rfl)⟩ (Nat.le_of_ble_eq_true rfl) ⟨rfl, rfl, (Nat.le_of_ble_eq_true rfl), (Nat.le_of_ble_eq_true rfl)⟩ dX10_applies_29 ?_
      rintro _ _ ⟨rfl, rfl⟩
      show jx_J X 0 0 32 [(0, .ref l0), (1, .ref l1), (2, .int z23), (3, .int z36), (4, .int z37)] [.int x45, .ref l1, .int z36] h24
      replace e := ob e
      obtain ⟨x46, ex46, e⟩ := e
      refine j_iald C dX10_applies_32 ex46 ?_
      refine j_aload_n C dX10_applies_33 rfl rfl ?_
      replace e := ob e
      obtain ⟨x47, ex47, e⟩ := e
      refine j_getr (ci := 10) (RC := RX10) (T := TX10) (N := 38) 26 C rfl klX10 (Nat.le_of_ble_eq_true rfl) kX10_61 rfl dX10_applies_34 ex47 ?_
      refine j_iload C dX10_applies_37 rfl ?_
      replace e := ob e
      obtain ⟨x48, ex48, e⟩ := e
      refine j_iald C dX10_applies_39 ex48 ?_
      refine j_imul C dX10_applies_40 ?_
      refine j_iadd C dX10_applies_41 ?_
      refine j_istore_n (lv1 := [(3, .int (z36 + (x46 * x48))), (0, .ref l0), (1, .ref l1), (2, .int z23), (4, .int z37)]) C hL dX10_applies_42 rfl (Nat.le_of_ble_eq_true rfl) rfl ?_
      refine j_iinc (v := (z37 + (1 : Int32))) (lv1 := [(4, .int (z37 + (1 : Int32))), (3, .int (z36 + (x46 * x48))), (0, .ref l0), (1, .ref l1), (2, .int z23)]) C hL dX10_applies_43 rfl rfl (Nat.le_of_ble_eq_true rfl) rfl ?_
      refine j_goto (tgt := 15) C dX10_applies_46 (by decide) ?_
      obtain rfl := Option.some.inj e
      refine jx_sub (lv' := [(0, .ref l0), (1, .ref l1), (2, .int z23), (3, .int (z36 + (x46 * x48))), (4, .int (z37 + (1 : Int32)))]) [2, 3, 4, 1, 0] rfl ?_
      exact kI8 ((z36 + (x46 * x48)), (z37 + (1 : Int32))) e0_8
/-! BorderBasisModel.laysNormal(II)V -/
noncomputable def BX10_laysNormal_22 (l0 : Nat) (l1 : Int32) (l2 : Int32) (l3 : Int32) (s0 : Nat) (s1 : Int32) (s2 : Int32) (h : jx_H) : Option ((Int32 × jx_H) ⊕ (jx_H)) :=
(has h .int s0 s1 s2).bind fun h1 =>
some (.inl ((l3 + (1 : Int32)), h1))
noncomputable def BX10_laysNormal_55 (l0 : Nat) (l1 : Int32) (l2 : Int32) (l3 : Int32) (s0 : Nat) (s1 : Nat) (h : jx_H) : Option ((Int32 × jx_H) ⊕ (jx_H)) :=
(isO h s0 10).bind fun _ =>
(FX10_applies s0 s1 h).bind fun h3 =>
some (.inl ((l3 + (1 : Int32)), h3))
noncomputable def LX10_laysNormal_31 (l0 : Nat) (l1 : Int32) (l2 : Int32) (l3 : Int32) (h : jx_H) : Option ((Int32 × jx_H) ⊕ (jx_H)) :=
if (l1 + l2) ≤ l3 then
 exL (some h)
else
 if l2 ≤ l3 then
  (hgr h l0 10 20).bind fun x4 =>
  BX10_laysNormal_55 l0 l1 l2 l3 l0 x4 h
 else
  (hgr h l0 10 21).bind fun x5 =>
  BX10_laysNormal_55 l0 l1 l2 l3 l0 x5 h
noncomputable def LX10_laysNormal_2 (l0 : Nat) (l1 : Int32) (l2 : Int32) (l3 : Int32) (h : jx_H) : Option ((Int32 × jx_H) ⊕ (jx_H)) :=
if (12 : Int32) ≤ l3 then
 exL (itr (fun s : Int32 × jx_H => LX10_laysNormal_31 l0 l1 l2 s.1 s.2) ((0 : Int32), h))
else
 (hgr h l0 10 26).bind fun x8 =>
 if l3 = 0 then
  BX10_laysNormal_22 l0 l1 l2 l3 x8 l3 (1 : Int32) h
 else
  BX10_laysNormal_22 l0 l1 l2 l3 x8 l3 (0 : Int32) h
noncomputable def FX10_laysNormal (l0 : Nat) (l1 : Int32) (l2 : Int32) (h : jx_H) : Option (jx_H) :=
itr (fun s : Int32 × jx_H => LX10_laysNormal_2 l0 l1 l2 s.1 s.2) ((0 : Int32), h)
def rmX10_laysNormal : Room := { frames := 2, cells := 0, slots := 0, locals := 45 }
set_option maxRecDepth 20000 in
set_option maxHeartbeats 4000000 in
theorem sX10_laysNormal {l0 : Nat} {l1 : Int32} {l2 : Int32} {h : jx_H} {h9 : jx_H} (e : FX10_laysNormal l0 l1 l2 h = some h9) : jx_Ct yX10_laysNormal cX10_laysNormal 4 none rmX10_laysNormal [.ref l0, .int l1, .int l2] h (fun r' h' => none = r' ∧ h9 = h') := by
  refine jx_Ct.of (own := RX10) (by decide) rfl (Nat.le_of_ble_eq_true rfl) (fun X C hq hr hL hN => ?_)
  refine jx_sub (lv' := [(0, .ref l0), (1, .int l1), (2, .int l2)]) [0, 1, 2] rfl ?_
  unfold FX10_laysNormal at e
  refine j_iconst (v := (0 : Int32)) C dX10_laysNormal_0 (by decide) ?_
  refine j_istore_n (lv1 := [(3, .int (0 : Int32)), (0, .ref l0), (1, .int l1), (2, .int l2)]) C hL dX10_laysNormal_1 rfl (Nat.le_of_ble_eq_true rfl) rfl ?_
  refine jx_sub (lv' := [(0, .ref l0), (1, .int l1), (2, .int l2), (3, .int (0 : Int32))]) [1, 2, 3, 0] rfl ?_
  refine itr_ind (s0 := ((0 : Int32), h)) (fun s : Int32 × jx_H => jx_J X 0 0 2 [(0, .ref l0), (1, .int l1), (2, .int l2), (3, .int s.1)] [] s.2) e ?_
  clear e
  intro s kI3 kT3 e0
  obtain ⟨z11, h12⟩ := s
  obtain ⟨u3, e0_3⟩ := e0
  have e : LX10_laysNormal_2 l0 l1 l2 z11 h12 = some u3 := e0_3
  have b22 : ∀ (y13 : Int32) (y14 : Nat) (y15 : Int32) (y16 : Int32) (h17 : jx_H), BX10_laysNormal_22 l0 l1 l2 y13 y14 y15 y16 h17 = some u3 → jx_J X 0 0 22 [(0, .ref l0), (1, .int l1), (2, .int l2), (3, .int y13)] [.int y16, .int y15, .ref y14] h17 := by
    intro y13 y14 y15 y16 h17 e
    unfold BX10_laysNormal_22 at e
    replace e := ob e
    obtain ⟨h18, eh18, e⟩ := e
    refine j_iast C dX10_laysNormal_22 eh18 ?_
    refine j_iinc (v := (y13 + (1 : Int32))) (lv1 := [(3, .int (y13 + (1 : Int32))), (0, .ref l0), (1, .int l1), (2, .int l2)]) C hL dX10_laysNormal_23 rfl rfl (Nat.le_of_ble_eq_true rfl) rfl ?_
    refine j_goto (tgt := 2) C dX10_laysNormal_26 (by decide) ?_
    obtain rfl := Option.some.inj e
    refine jx_sub (lv' := [(0, .ref l0), (1, .int l1), (2, .int l2), (3, .int (y13 + (1 : Int32)))]) [1, 2, 3, 0] rfl ?_
    exact kI3 ((y13 + (1 : Int32)), h18) e0_3
  unfold LX10_laysNormal_2 at e
  refine j_iload_n C dX10_laysNormal_2 rfl rfl ?_
  refine j_bipush (v := (12 : Int32)) C dX10_laysNormal_3 (by decide) ?_
  refine j_icmp_ge (tgt := 29) C dX10_laysNormal_5 (by decide) (fun c33 => ?_) (fun c33 => ?_)
  · replace e := ifp c33 e
    obtain ⟨t_6, e_6, eu_6⟩ := exL_spec e
    obtain rfl := kT3 t_6 (e0_3.trans (congrArg some eu_6))
    replace e := e_6
    refine j_iconst (v := (0 : Int32)) C dX10_laysNormal_29 (by decide) ?_
    refine j_istore_n (lv1 := [(3, .int (0 : Int32)), (0, .ref l0), (1, .int l1), (2, .int l2)]) C hL dX10_laysNormal_30 rfl (Nat.le_of_ble_eq_true rfl) rfl ?_
    refine jx_sub (lv' := [(0, .ref l0), (1, .int l1), (2, .int l2), (3, .int (0 : Int32))]) [1, 2, 3, 0] rfl ?_
    refine itr_ind (s0 := ((0 : Int32), h12)) (fun s : Int32 × jx_H => jx_J X 0 0 31 [(0, .ref l0), (1, .int l1), (2, .int l2), (3, .int s.1)] [] s.2) e ?_
    clear e
    intro s kI4 kT4 e0
    obtain ⟨z19, h20⟩ := s
    obtain ⟨u4, e0_4⟩ := e0
    have e : LX10_laysNormal_31 l0 l1 l2 z19 h20 = some u4 := e0_4
    have b55 : ∀ (y21 : Int32) (y22 : Nat) (y23 : Nat) (h24 : jx_H), BX10_laysNormal_55 l0 l1 l2 y21 y22 y23 h24 = some u4 → jx_J X 0 0 55 [(0, .ref l0), (1, .int l1), (2, .int l2), (3, .int y21)] [.ref y23, .ref y22] h24 := by
      intro y21 y22 y23 h24 e
      unfold BX10_laysNormal_55 at e
      replace e := ob e
      obtain ⟨_, eo25, e⟩ := e
      replace e := ob e
      obtain ⟨h26, eh26, e⟩ := e
      refine j_callV (ci := 10) (RC := RX10) (T := TX10) (N := 38) (As := [.ref y23]) (b := y22) (na := 1) (st := []) (k1 := 0) (n1 := 0) C hr (sX10_applies eh26) rfl eo25 kX10_307 kim_X10_applies ksel_X10_applies kini_X10 kc_X10_applies (by decide) rfl ⟨(Nat.le_of_ble_eq_true rfl), (Nat.le_of_ble_eq_true rfl)⟩ (Nat.le_of_ble_eq_true rfl) ⟨rfl, rfl, (Nat.le_of_ble_eq_true rfl), (Nat.le_of_ble_eq_true rfl)⟩ dX10_laysNormal_55 ?_
      rintro _ _ ⟨rfl, rfl⟩
      show jx_J X 0 0 58 [(0, .ref l0), (1, .int l1), (2, .int l2), (3, .int y21)] [] h26
      refine j_iinc (v := (y21 + (1 : Int32))) (lv1 := [(3, .int (y21 + (1 : Int32))), (0, .ref l0), (1, .int l1), (2, .int l2)]) C hL dX10_laysNormal_58 rfl rfl (Nat.le_of_ble_eq_true rfl) rfl ?_
      refine j_goto (tgt := 31) C dX10_laysNormal_61 (by decide) ?_
      obtain rfl := Option.some.inj e
      refine jx_sub (lv' := [(0, .ref l0), (1, .int l1), (2, .int l2), (3, .int (y21 + (1 : Int32)))]) [1, 2, 3, 0] rfl ?_
      exact kI4 ((y21 + (1 : Int32)), h26) e0_4
    unfold LX10_laysNormal_31 at e
    refine j_iload_n C dX10_laysNormal_31 rfl rfl ?_
    refine j_iload_n C dX10_laysNormal_32 rfl rfl ?_
    refine j_iload_n C dX10_laysNormal_33 rfl rfl ?_
    refine j_iadd C dX10_laysNormal_34 ?_
    refine j_icmp_ge (tgt := 64) C dX10_laysNormal_35 (by decide) (fun c30 => ?_) (fun c30 => ?_)
    · replace e := ifp c30 e
      obtain ⟨t_5, e_5, eu_5⟩ := exL_spec e
      obtain rfl := kT4 t_5 (e0_4.trans (congrArg some eu_5))
      replace e := e_5
      cases e
      exact j_vret C hq dX10_laysNormal_64 ⟨Nat.le_of_ble_eq_true rfl, Nat.le_of_ble_eq_true rfl⟩ ⟨rfl, rfl⟩
    · replace e := ifn c30 e
      refine j_aload_n C dX10_laysNormal_38 rfl rfl ?_
      refine j_iload_n C dX10_laysNormal_39 rfl rfl ?_
      refine j_iload_n C dX10_laysNormal_40 rfl rfl ?_
      refine j_icmp_ge (tgt := 51) C dX10_laysNormal_41 (by decide) (fun c29 => ?_) (fun c29 => ?_)
      · replace e := ifp c29 e
        refine j_aload_n C dX10_laysNormal_51 rfl rfl ?_
        replace e := ob e
        obtain ⟨x27, ex27, e⟩ := e
        refine j_getr (ci := 10) (RC := RX10) (T := TX10) (N := 38) 20 C rfl klX10 (Nat.le_of_ble_eq_true rfl) kX10_43 rfl dX10_laysNormal_52 ex27 ?_
        exact b55 z19 l0 x27 h20 e
      · replace e := ifn c29 e
        refine j_aload_n C dX10_laysNormal_44 rfl rfl ?_
        replace e := ob e
        obtain ⟨x28, ex28, e⟩ := e
        refine j_getr (ci := 10) (RC := RX10) (T := TX10) (N := 38) 21 C rfl klX10 (Nat.le_of_ble_eq_true rfl) kX10_46 rfl dX10_laysNormal_45 ex28 ?_
        refine j_goto (tgt := 55) C dX10_laysNormal_48 (by decide) ?_
        exact b55 z19 l0 x28 h20 e
  · replace e := ifn c33 e
    refine j_aload_n C dX10_laysNormal_8 rfl rfl ?_
    replace e := ob e
    obtain ⟨x31, ex31, e⟩ := e
    refine j_getr (ci := 10) (RC := RX10) (T := TX10) (N := 38) 26 C rfl klX10 (Nat.le_of_ble_eq_true rfl) kX10_61 rfl dX10_laysNormal_9 ex31 ?_
    refine j_iload_n C dX10_laysNormal_12 rfl rfl ?_
    refine j_iload_n C dX10_laysNormal_13 rfl rfl ?_
    refine j_if_ne (tgt := 21) C dX10_laysNormal_14 (by decide) (fun c32 => ?_) (fun c32 => ?_)
    · replace e := ifn c32 e
      refine j_iconst (v := (0 : Int32)) C dX10_laysNormal_21 (by decide) ?_
      exact b22 z11 x31 z11 (0 : Int32) h12 e
    · replace e := ifp c32 e
      refine j_iconst (v := (1 : Int32)) C dX10_laysNormal_17 (by decide) ?_
      refine j_goto (tgt := 22) C dX10_laysNormal_18 (by decide) ?_
      exact b22 z11 x31 z11 (1 : Int32) h12 e
/-! BorderBasisModel.addsColumn()V -/
noncomputable def LX10_addsColumn_2 (l0 : Nat) (l1 : Int32) (h : jx_H) : Option ((Int32 × jx_H) ⊕ (jx_H)) :=
(isO h l0 10).bind fun _ =>
(FX10_n l0 h).bind fun x2 =>
if x2 ≤ l1 then
 exL (some h)
else
 (hgr h l0 10 31).bind fun x3 =>
 (hgr h l0 10 31).bind fun x4 =>
 (hal h .int x4 l1).bind fun x5 =>
 (hgi h l0 10 18).bind fun x6 =>
 (hgr h l0 10 26).bind fun x7 =>
 (hal h .int x7 l1).bind fun x8 =>
 (isO h l0 10).bind fun _ =>
 (FX10_p l0 h).bind fun x10 =>
 if x10 = 0 then none else
 (has h .int x3 l1 ((x5 + (x6 * x8)) - (x5 + (x6 * x8)) / x10 * x10)).bind fun h12 =>
 some (.inl ((l1 + (1 : Int32)), h12))
noncomputable def FX10_addsColumn (l0 : Nat) (h : jx_H) : Option (jx_H) :=
itr (fun s : Int32 × jx_H => LX10_addsColumn_2 l0 s.1 s.2) ((0 : Int32), h)
def rmX10_addsColumn : Room := { frames := 1, cells := 0, slots := 0, locals := 20 }
set_option maxRecDepth 20000 in
set_option maxHeartbeats 4000000 in
theorem sX10_addsColumn {l0 : Nat} {h : jx_H} {h9 : jx_H} (e : FX10_addsColumn l0 h = some h9) : jx_Ct yX10_addsColumn cX10_addsColumn 2 none rmX10_addsColumn [.ref l0] h (fun r' h' => none = r' ∧ h9 = h') := by
  refine jx_Ct.of (own := RX10) (by decide) rfl (Nat.le_of_ble_eq_true rfl) (fun X C hq hr hL hN => ?_)
  refine jx_sub (lv' := [(0, .ref l0)]) [0] rfl ?_
  unfold FX10_addsColumn at e
  refine j_iconst (v := (0 : Int32)) C dX10_addsColumn_0 (by decide) ?_
  refine j_istore_n (lv1 := [(1, .int (0 : Int32)), (0, .ref l0)]) C hL dX10_addsColumn_1 rfl (Nat.le_of_ble_eq_true rfl) rfl ?_
  refine jx_sub (lv' := [(0, .ref l0), (1, .int (0 : Int32))]) [1, 0] rfl ?_
  refine itr_ind (s0 := ((0 : Int32), h)) (fun s : Int32 × jx_H => jx_J X 0 0 2 [(0, .ref l0), (1, .int s.1)] [] s.2) e ?_
  clear e
  intro s kI2 kT2 e0
  obtain ⟨z14, h15⟩ := s
  obtain ⟨u2, e0_2⟩ := e0
  have e : LX10_addsColumn_2 l0 z14 h15 = some u2 := e0_2
  unfold LX10_addsColumn_2 at e
  refine j_iload_n C dX10_addsColumn_2 rfl rfl ?_
  refine j_aload_n C dX10_addsColumn_3 rfl rfl ?_
  replace e := ob e
  obtain ⟨_, eo16, e⟩ := e
  replace e := ob e
  obtain ⟨x17, ex17, e⟩ := e
  refine j_callV (ci := 10) (RC := RX10) (T := TX10) (N := 38) (As := []) (b := l0) (na := 0) (st := [.int z14]) (k1 := 0) (n1 := 0) C hr (sX10_n ex17) rfl eo16 kX10_105 kim_X10_n ksel_X10_n kini_X10 kc_X10_n (by decide) rfl ⟨(Nat.le_of_ble_eq_true rfl), (Nat.le_of_ble_eq_true rfl)⟩ (Nat.le_of_ble_eq_true rfl) ⟨rfl, rfl, (Nat.le_of_ble_eq_true rfl), (Nat.le_of_ble_eq_true rfl)⟩ dX10_addsColumn_4 ?_
  rintro _ _ ⟨rfl, rfl⟩
  show jx_J X 0 0 7 [(0, .ref l0), (1, .int z14)] [.int x17, .int z14] h15
  refine j_icmp_ge (tgt := 45) C dX10_addsColumn_7 (by decide) (fun c28 => ?_) (fun c28 => ?_)
  · replace e := ifp c28 e
    obtain ⟨t_3, e_3, eu_3⟩ := exL_spec e
    obtain rfl := kT2 t_3 (e0_2.trans (congrArg some eu_3))
    replace e := e_3
    cases e
    exact j_vret C hq dX10_addsColumn_45 ⟨Nat.le_of_ble_eq_true rfl, Nat.le_of_ble_eq_true rfl⟩ ⟨rfl, rfl⟩
  · replace e := ifn c28 e
    refine j_aload_n C dX10_addsColumn_10 rfl rfl ?_
    replace e := ob e
    obtain ⟨x18, ex18, e⟩ := e
    refine j_getr (ci := 10) (RC := RX10) (T := TX10) (N := 38) 31 C rfl klX10 (Nat.le_of_ble_eq_true rfl) kX10_70 rfl dX10_addsColumn_11 ex18 ?_
    refine j_iload_n C dX10_addsColumn_14 rfl rfl ?_
    refine j_aload_n C dX10_addsColumn_15 rfl rfl ?_
    replace e := ob e
    obtain ⟨x19, ex19, e⟩ := e
    refine j_getr (ci := 10) (RC := RX10) (T := TX10) (N := 38) 31 C rfl klX10 (Nat.le_of_ble_eq_true rfl) kX10_70 rfl dX10_addsColumn_16 ex19 ?_
    refine j_iload_n C dX10_addsColumn_19 rfl rfl ?_
    replace e := ob e
    obtain ⟨x20, ex20, e⟩ := e
    refine j_iald C dX10_addsColumn_20 ex20 ?_
    refine j_aload_n C dX10_addsColumn_21 rfl rfl ?_
    replace e := ob e
    obtain ⟨x21, ex21, e⟩ := e
    refine j_geti (ci := 10) (RC := RX10) (T := TX10) (N := 38) 18 C rfl klX10 (Nat.le_of_ble_eq_true rfl) kX10_208 rfl dX10_addsColumn_22 ex21 ?_
    refine j_aload_n C dX10_addsColumn_25 rfl rfl ?_
    replace e := ob e
    obtain ⟨x22, ex22, e⟩ := e
    refine j_getr (ci := 10) (RC := RX10) (T := TX10) (N := 38) 26 C rfl klX10 (Nat.le_of_ble_eq_true rfl) kX10_61 rfl dX10_addsColumn_26 ex22 ?_
    refine j_iload_n C dX10_addsColumn_29 rfl rfl ?_
    replace e := ob e
    obtain ⟨x23, ex23, e⟩ := e
    refine j_iald C dX10_addsColumn_30 ex23 ?_
    refine j_imul C dX10_addsColumn_31 ?_
    refine j_iadd C dX10_addsColumn_32 ?_
    refine j_aload_n C dX10_addsColumn_33 rfl rfl ?_
    replace e := ob e
    obtain ⟨_, eo24, e⟩ := e
    replace e := ob e
    obtain ⟨x25, ex25, e⟩ := e
    refine j_callV (ci := 10) (RC := RX10) (T := TX10) (N := 38) (As := []) (b := l0) (na := 0) (st := [.int (x20 + (x21 * x23)), .int z14, .ref x18]) (k1 := 0) (n1 := 0) C hr (sX10_p ex25) rfl eo24 kX10_97 kim_X10_p ksel_X10_p kini_X10 kc_X10_p (by decide) rfl ⟨(Nat.le_of_ble_eq_true rfl), (Nat.le_of_ble_eq_true rfl)⟩ (Nat.le_of_ble_eq_true rfl) ⟨rfl, rfl, (Nat.le_of_ble_eq_true rfl), (Nat.le_of_ble_eq_true rfl)⟩ dX10_addsColumn_34 ?_
    rintro _ _ ⟨rfl, rfl⟩
    show jx_J X 0 0 37 [(0, .ref l0), (1, .int z14)] [.int x25, .int (x20 + (x21 * x23)), .int z14, .ref x18] h15
    by_cases c26 : x25 = 0
    · exact nos (ifp c26 e)
    replace e := ifn c26 e
    refine j_irem C dX10_addsColumn_37 c26 ?_
    replace e := ob e
    obtain ⟨h27, eh27, e⟩ := e
    refine j_iast C dX10_addsColumn_38 eh27 ?_
    refine j_iinc (v := (z14 + (1 : Int32))) (lv1 := [(1, .int (z14 + (1 : Int32))), (0, .ref l0)]) C hL dX10_addsColumn_39 rfl rfl (Nat.le_of_ble_eq_true rfl) rfl ?_
    refine j_goto (tgt := 2) C dX10_addsColumn_42 (by decide) ?_
    obtain rfl := Option.some.inj e
    refine jx_sub (lv' := [(0, .ref l0), (1, .int (z14 + (1 : Int32)))]) [1, 0] rfl ?_
    exact kI2 ((z14 + (1 : Int32)), h27) e0_2
/-! BorderBasisModel.reduce()I -/
noncomputable def BX10_reduce_150 (l0 : Nat) (l3 : Int32) (s0 : Int32) (s1 : Int32) (h : jx_H) : Option ((Int32 × Int32 × jx_H) ⊕ (Int32 × jx_H)) :=
some (.inl ((s0 + s1), (l3 + (1 : Int32)), h))
noncomputable def LX10_reduce_117 (l0 : Nat) (l2 : Int32) (l3 : Int32) (h : jx_H) : Option ((Int32 × Int32 × jx_H) ⊕ (Int32 × jx_H)) :=
if (12 : Int32) ≤ l3 then
 exL (some (l2, h))
else
 (hgr h l0 10 30).bind fun x6 =>
 (hgr h l0 10 31).bind fun x7 =>
 (hal h .int x7 l3).bind fun x8 =>
 (has h .int x6 l3 x8).bind fun h9 =>
 (hgr h9 l0 10 31).bind fun x10 =>
 (hal h9 .int x10 l3).bind fun x11 =>
 if x11 ≤ 0 then
  BX10_reduce_150 l0 l3 l2 (0 : Int32) h9
 else
  BX10_reduce_150 l0 l3 l2 (1 : Int32) h9
noncomputable def BX10_reduce_90 (l0 : Nat) (s0 : Nat) (s1 : Int32) (h : jx_H) : Option (Int32 × jx_H) :=
(isO h s0 10).bind fun _ =>
(FX10_must s0 s1 (1 : Int32) h).bind fun h2 =>
(hp h2 l0 10 10 (.int (0 : Int32))).bind fun h3 =>
(hp h3 l0 10 0 (.int (0 : Int32))).bind fun h4 =>
(hgi h4 l0 10 15).bind fun x5 =>
if x5 ≤ 0 then
 itr (fun s : Int32 × Int32 × jx_H => LX10_reduce_117 l0 s.1 s.2.1 s.2.2) ((0 : Int32), (0 : Int32), h4)
else
 some ((-1 : Int32), h4)
noncomputable def BX10_reduce_69 (l0 : Nat) (h : jx_H) : Option ((Int32 × jx_H) ⊕ (Int32 × jx_H)) :=
(isO h l0 10).bind fun _ =>
bind2 (FX10_hasComma l0 h) fun x20 h21 =>
some (.inl (x20, h21))
noncomputable def LX10_reduce_31 (l0 : Nat) (l1 : Int32) (h : jx_H) : Option ((Int32 × jx_H) ⊕ (Int32 × jx_H)) :=
if l1 = 0 then
 exL ((hgi h l0 10 13).bind fun x22 =>
 if x22 = 0 then
  BX10_reduce_90 l0 l0 (1 : Int32) h
 else
  BX10_reduce_90 l0 l0 (0 : Int32) h)
else
 (isO h l0 10).bind fun _ =>
 (FX10_readTerm l0 (20 : Int32) h).bind fun h25 =>
 (isO h25 l0 10).bind fun _ =>
 bind2 (FX10_reads l0 (0 : Int32) (20 : Int32) h25) fun x27 h28 =>
 (hgi h28 l0 10 15).bind fun x29 =>
 if x29 = 0 then
  (hgi h28 l0 10 19).bind fun x30 =>
  (isO h28 l0 10).bind fun _ =>
  (FX10_laysNormal l0 x30 x27 h28).bind fun h32 =>
  (isO h32 l0 10).bind fun _ =>
  (FX10_addsColumn l0 h32).bind fun h34 =>
  BX10_reduce_69 l0 h34
 else
  BX10_reduce_69 l0 h28
noncomputable def LX10_reduce_10 (l0 : Nat) (l1 : Int32) (h : jx_H) : Option ((Int32 × jx_H) ⊕ (Int32 × jx_H)) :=
if (12 : Int32) ≤ l1 then
 exL (itr (fun s : Int32 × jx_H => LX10_reduce_31 l0 s.1 s.2) ((1 : Int32), h))
else
 (hgr h l0 10 31).bind fun x37 =>
 (has h .int x37 l1 (0 : Int32)).bind fun h38 =>
 some (.inl ((l1 + (1 : Int32)), h38))
noncomputable def FX10_reduce (l0 : Nat) (h : jx_H) : Option (Int32 × jx_H) :=
(isO h l0 10).bind fun _ =>
(FX10_opensText l0 h).bind fun h16 =>
(isO h16 l0 10).bind fun _ =>
(FX10_laysTables l0 h16).bind fun h18 =>
itr (fun s : Int32 × jx_H => LX10_reduce_10 l0 s.1 s.2) ((0 : Int32), h18)
def rmX10_reduce : Room := { frames := 5, cells := 0, slots := 0, locals := 108 }
set_option maxRecDepth 20000 in
set_option maxHeartbeats 4000000 in
theorem sX10_reduce {l0 : Nat} {h : jx_H} {r : Int32} {h9 : jx_H} (e : FX10_reduce l0 h = some (r, h9)) : jx_Ct yX10_reduce cX10_reduce 4 (some .int) rmX10_reduce [.ref l0] h (fun r' h' => some (.int r) = r' ∧ h9 = h') := by
  refine jx_Ct.of (own := RX10) (by decide) rfl (Nat.le_of_ble_eq_true rfl) (fun X C hq hr hL hN => ?_)
  refine jx_sub (lv' := [(0, .ref l0)]) [0] rfl ?_
  have b90 : ∀ (y40 : Nat) (y41 : Nat) (y42 : Int32) (h43 : jx_H), BX10_reduce_90 y40 y41 y42 h43 = some (r, h9) → jx_J X 0 0 90 [(0, .ref y40)] [.int y42, .ref y41] h43 := by
    intro y40 y41 y42 h43 e
    unfold BX10_reduce_90 at e
    refine j_iconst (v := (1 : Int32)) C dX10_reduce_90 (by decide) ?_
    replace e := ob e
    obtain ⟨_, eo44, e⟩ := e
    replace e := ob e
    obtain ⟨h45, eh45, e⟩ := e
    refine j_callV (ci := 10) (RC := RX10) (T := TX10) (N := 38) (As := [.int y42, .int (1 : Int32)]) (b := y41) (na := 2) (st := []) (k1 := 0) (n1 := 0) C hr (sX10_must eh45) rfl eo44 kX10_192 kim_X10_must ksel_X10_must kini_X10 kc_X10_must (by decide) rfl ⟨(Nat.le_of_ble_eq_true rfl), (Nat.le_of_ble_eq_true rfl)⟩ (Nat.le_of_ble_eq_true rfl) ⟨rfl, rfl, (Nat.le_of_ble_eq_true rfl), (Nat.le_of_ble_eq_true rfl)⟩ dX10_reduce_91 ?_
    rintro _ _ ⟨rfl, rfl⟩
    show jx_J X 0 0 94 [(0, .ref y40)] [] h45
    refine j_aload_n C dX10_reduce_94 rfl rfl ?_
    refine j_iconst (v := (0 : Int32)) C dX10_reduce_95 (by decide) ?_
    replace e := ob e
    obtain ⟨h46, eh46, e⟩ := e
    refine j_put (ci := 10) (RC := RX10) (T := TX10) (N := 38) (ty0 := tyX10) 10 C rfl klX10 tyX10_ok nmX10 (Nat.le_of_ble_eq_true rfl) kX10_146 rfl rfl rfl rfl dX10_reduce_96 eh46 ?_
    refine j_aload_n C dX10_reduce_99 rfl rfl ?_
    refine j_iconst (v := (0 : Int32)) C dX10_reduce_100 (by decide) ?_
    replace e := ob e
    obtain ⟨h47, eh47, e⟩ := e
    refine j_put (ci := 10) (RC := RX10) (T := TX10) (N := 38) (ty0 := tyX10) 0 C rfl klX10 tyX10_ok nmX10 (Nat.le_of_ble_eq_true rfl) kX10_91 rfl rfl rfl rfl dX10_reduce_101 eh47 ?_
    refine j_aload_n C dX10_reduce_104 rfl rfl ?_
    replace e := ob e
    obtain ⟨x48, ex48, e⟩ := e
    refine j_geti (ci := 10) (RC := RX10) (T := TX10) (N := 38) 15 C rfl klX10 (Nat.le_of_ble_eq_true rfl) kX10_175 rfl dX10_reduce_105 ex48 ?_
    refine j_if_le (tgt := 113) C dX10_reduce_108 (by decide) (fun c64 => ?_) (fun c64 => ?_)
    · replace e := ifp c64 e
      refine j_iconst (v := (0 : Int32)) C dX10_reduce_113 (by decide) ?_
      refine j_istore_n (lv1 := [(2, .int (0 : Int32)), (0, .ref y40)]) C hL dX10_reduce_114 rfl (Nat.le_of_ble_eq_true rfl) rfl ?_
      refine j_iconst (v := (0 : Int32)) C dX10_reduce_115 (by decide) ?_
      refine j_istore_n (lv1 := [(3, .int (0 : Int32)), (2, .int (0 : Int32)), (0, .ref y40)]) C hL dX10_reduce_116 rfl (Nat.le_of_ble_eq_true rfl) rfl ?_
      refine jx_sub (lv' := [(0, .ref y40), (2, .int (0 : Int32)), (3, .int (0 : Int32))]) [2, 1, 0] rfl ?_
      refine itr_ind (s0 := ((0 : Int32), (0 : Int32), h47)) (fun s : Int32 × Int32 × jx_H => jx_J X 0 0 117 [(0, .ref y40), (2, .int s.1), (3, .int s.2.1)] [] s.2.2) e ?_
      clear e
      intro s kI4 kT4 e0
      obtain ⟨z49, z50, h51⟩ := s
      obtain ⟨u4, e0_4⟩ := e0
      have e : LX10_reduce_117 y40 z49 z50 h51 = some u4 := e0_4
      have b150 : ∀ (y52 : Int32) (y53 : Int32) (y54 : Int32) (h55 : jx_H), BX10_reduce_150 y40 y52 y53 y54 h55 = some u4 → jx_J X 0 0 150 [(0, .ref y40), (3, .int y52)] [.int y54, .int y53] h55 := by
        intro y52 y53 y54 h55 e
        unfold BX10_reduce_150 at e
        refine j_iadd C dX10_reduce_150 ?_
        refine j_istore_n (lv1 := [(2, .int (y53 + y54)), (0, .ref y40), (3, .int y52)]) C hL dX10_reduce_151 rfl (Nat.le_of_ble_eq_true rfl) rfl ?_
        refine j_iinc (v := (y52 + (1 : Int32))) (lv1 := [(3, .int (y52 + (1 : Int32))), (2, .int (y53 + y54)), (0, .ref y40)]) C hL dX10_reduce_152 rfl rfl (Nat.le_of_ble_eq_true rfl) rfl ?_
        refine j_goto (tgt := 117) C dX10_reduce_155 (by decide) ?_
        obtain rfl := Option.some.inj e
        refine jx_sub (lv' := [(0, .ref y40), (2, .int (y53 + y54)), (3, .int (y52 + (1 : Int32)))]) [2, 1, 0] rfl ?_
        exact kI4 ((y53 + y54), (y52 + (1 : Int32)), h55) e0_4
      unfold LX10_reduce_117 at e
      refine j_iload_n C dX10_reduce_117 rfl rfl ?_
      refine j_bipush (v := (12 : Int32)) C dX10_reduce_118 (by decide) ?_
      refine j_icmp_ge (tgt := 158) C dX10_reduce_120 (by decide) (fun c63 => ?_) (fun c63 => ?_)
      · replace e := ifp c63 e
        obtain ⟨t_5, e_5, eu_5⟩ := exL_spec e
        obtain rfl := kT4 t_5 (e0_4.trans (congrArg some eu_5))
        replace e := e_5
        refine j_iload_n C dX10_reduce_158 rfl rfl ?_
        cases e
        exact j_iret C hq rfl dX10_reduce_159 ⟨Nat.le_of_ble_eq_true rfl, Nat.le_of_ble_eq_true rfl⟩ ⟨rfl, rfl⟩
      · replace e := ifn c63 e
        refine j_aload_n C dX10_reduce_123 rfl rfl ?_
        replace e := ob e
        obtain ⟨x56, ex56, e⟩ := e
        refine j_getr (ci := 10) (RC := RX10) (T := TX10) (N := 38) 30 C rfl klX10 (Nat.le_of_ble_eq_true rfl) kX10_67 rfl dX10_reduce_124 ex56 ?_
        refine j_iload_n C dX10_reduce_127 rfl rfl ?_
        refine j_aload_n C dX10_reduce_128 rfl rfl ?_
        replace e := ob e
        obtain ⟨x57, ex57, e⟩ := e
        refine j_getr (ci := 10) (RC := RX10) (T := TX10) (N := 38) 31 C rfl klX10 (Nat.le_of_ble_eq_true rfl) kX10_70 rfl dX10_reduce_129 ex57 ?_
        refine j_iload_n C dX10_reduce_132 rfl rfl ?_
        replace e := ob e
        obtain ⟨x58, ex58, e⟩ := e
        refine j_iald C dX10_reduce_133 ex58 ?_
        replace e := ob e
        obtain ⟨h59, eh59, e⟩ := e
        refine j_iast C dX10_reduce_134 eh59 ?_
        refine j_iload_n C dX10_reduce_135 rfl rfl ?_
        refine j_aload_n C dX10_reduce_136 rfl rfl ?_
        replace e := ob e
        obtain ⟨x60, ex60, e⟩ := e
        refine j_getr (ci := 10) (RC := RX10) (T := TX10) (N := 38) 31 C rfl klX10 (Nat.le_of_ble_eq_true rfl) kX10_70 rfl dX10_reduce_137 ex60 ?_
        refine j_iload_n C dX10_reduce_140 rfl rfl ?_
        replace e := ob e
        obtain ⟨x61, ex61, e⟩ := e
        refine j_iald C dX10_reduce_141 ex61 ?_
        refine j_if_le (tgt := 149) C dX10_reduce_142 (by decide) (fun c62 => ?_) (fun c62 => ?_)
        · replace e := ifp c62 e
          refine j_iconst (v := (0 : Int32)) C dX10_reduce_149 (by decide) ?_
          refine jx_sub (lv' := [(0, .ref y40), (3, .int z50)]) [0, 2] rfl ?_
          exact b150 z50 z49 (0 : Int32) h59 e
        · replace e := ifn c62 e
          refine j_iconst (v := (1 : Int32)) C dX10_reduce_145 (by decide) ?_
          refine j_goto (tgt := 150) C dX10_reduce_146 (by decide) ?_
          refine jx_sub (lv' := [(0, .ref y40), (3, .int z50)]) [0, 2] rfl ?_
          exact b150 z50 z49 (1 : Int32) h59 e
    · replace e := ifn c64 e
      refine j_iconst (v := (-1 : Int32)) C dX10_reduce_111 (by decide) ?_
      cases e
      exact j_iret C hq rfl dX10_reduce_112 ⟨Nat.le_of_ble_eq_true rfl, Nat.le_of_ble_eq_true rfl⟩ ⟨rfl, rfl⟩
  unfold FX10_reduce at e
  refine j_aload_n C dX10_reduce_0 rfl rfl ?_
  replace e := ob e
  obtain ⟨_, eo65, e⟩ := e
  replace e := ob e
  obtain ⟨h66, eh66, e⟩ := e
  refine j_callV (ci := 10) (RC := RX10) (T := TX10) (N := 38) (As := []) (b := l0) (na := 0) (st := []) (k1 := 0) (n1 := 0) C hr (sX10_opensText eh66) rfl eo65 kX10_244 kim_X10_opensText ksel_X10_opensText kini_X10 kc_X10_opensText (by decide) rfl ⟨(Nat.le_of_ble_eq_true rfl), (Nat.le_of_ble_eq_true rfl)⟩ (Nat.le_of_ble_eq_true rfl) ⟨rfl, rfl, (Nat.le_of_ble_eq_true rfl), (Nat.le_of_ble_eq_true rfl)⟩ dX10_reduce_1 ?_
  rintro _ _ ⟨rfl, rfl⟩
  show jx_J X 0 0 4 [(0, .ref l0)] [] h66
  refine j_aload_n C dX10_reduce_4 rfl rfl ?_
  replace e := ob e
  obtain ⟨_, eo67, e⟩ := e
  replace e := ob e
  obtain ⟨h68, eh68, e⟩ := e
  refine j_callV (ci := 10) (RC := RX10) (T := TX10) (N := 38) (As := []) (b := l0) (na := 0) (st := []) (k1 := 0) (n1 := 0) C hr (sX10_laysTables eh68) rfl eo67 kX10_261 kim_X10_laysTables ksel_X10_laysTables kini_X10 kc_X10_laysTables (by decide) rfl ⟨(Nat.le_of_ble_eq_true rfl), (Nat.le_of_ble_eq_true rfl)⟩ (Nat.le_of_ble_eq_true rfl) ⟨rfl, rfl, (Nat.le_of_ble_eq_true rfl), (Nat.le_of_ble_eq_true rfl)⟩ dX10_reduce_5 ?_
  rintro _ _ ⟨rfl, rfl⟩
  show jx_J X 0 0 8 [(0, .ref l0)] [] h68
  refine j_iconst (v := (0 : Int32)) C dX10_reduce_8 (by decide) ?_
  refine j_istore_n (lv1 := [(1, .int (0 : Int32)), (0, .ref l0)]) C hL dX10_reduce_9 rfl (Nat.le_of_ble_eq_true rfl) rfl ?_
  refine jx_sub (lv' := [(0, .ref l0), (1, .int (0 : Int32))]) [1, 0] rfl ?_
  refine itr_ind (s0 := ((0 : Int32), h68)) (fun s : Int32 × jx_H => jx_J X 0 0 10 [(0, .ref l0), (1, .int s.1)] [] s.2) e ?_
  clear e
  intro s kI6 kT6 e0
  obtain ⟨z69, h70⟩ := s
  obtain ⟨u6, e0_6⟩ := e0
  have e : LX10_reduce_10 l0 z69 h70 = some u6 := e0_6
  unfold LX10_reduce_10 at e
  refine j_iload_n C dX10_reduce_10 rfl rfl ?_
  refine j_bipush (v := (12 : Int32)) C dX10_reduce_11 (by decide) ?_
  refine j_icmp_ge (tgt := 29) C dX10_reduce_13 (by decide) (fun c94 => ?_) (fun c94 => ?_)
  · replace e := ifp c94 e
    obtain ⟨t_9, e_9, eu_9⟩ := exL_spec e
    obtain rfl := kT6 t_9 (e0_6.trans (congrArg some eu_9))
    replace e := e_9
    refine j_iconst (v := (1 : Int32)) C dX10_reduce_29 (by decide) ?_
    refine j_istore_n (lv1 := [(1, .int (1 : Int32)), (0, .ref l0)]) C hL dX10_reduce_30 rfl (Nat.le_of_ble_eq_true rfl) rfl ?_
    refine jx_sub (lv' := [(0, .ref l0), (1, .int (1 : Int32))]) [1, 0] rfl ?_
    refine itr_ind (s0 := ((1 : Int32), h70)) (fun s : Int32 × jx_H => jx_J X 0 0 31 [(0, .ref l0), (1, .int s.1)] [] s.2) e ?_
    clear e
    intro s kI7 kT7 e0
    obtain ⟨z71, h72⟩ := s
    obtain ⟨u7, e0_7⟩ := e0
    have e : LX10_reduce_31 l0 z71 h72 = some u7 := e0_7
    have b69 : ∀ (h73 : jx_H), BX10_reduce_69 l0 h73 = some u7 → jx_J X 0 0 69 [(0, .ref l0)] [] h73 := by
      intro h73 e
      unfold BX10_reduce_69 at e
      refine j_aload_n C dX10_reduce_69 rfl rfl ?_
      replace e := ob e
      obtain ⟨_, eo74, e⟩ := e
      replace e := ob2 e
      obtain ⟨x75, h76, ex75, e⟩ := e
      refine j_callV (ci := 10) (RC := RX10) (T := TX10) (N := 38) (As := []) (b := l0) (na := 0) (st := []) (k1 := 0) (n1 := 0) C hr (sX10_hasComma ex75) rfl eo74 kX10_223 kim_X10_hasComma ksel_X10_hasComma kini_X10 kc_X10_hasComma (by decide) rfl ⟨(Nat.le_of_ble_eq_true rfl), (Nat.le_of_ble_eq_true rfl)⟩ (Nat.le_of_ble_eq_true rfl) ⟨rfl, rfl, (Nat.le_of_ble_eq_true rfl), (Nat.le_of_ble_eq_true rfl)⟩ dX10_reduce_70 ?_
      rintro _ _ ⟨rfl, rfl⟩
      show jx_J X 0 0 73 [(0, .ref l0)] [.int x75] h76
      refine j_istore_n (lv1 := [(1, .int x75), (0, .ref l0)]) C hL dX10_reduce_73 rfl (Nat.le_of_ble_eq_true rfl) rfl ?_
      refine j_goto (tgt := 31) C dX10_reduce_74 (by decide) ?_
      obtain rfl := Option.some.inj e
      refine jx_sub (lv' := [(0, .ref l0), (1, .int x75)]) [1, 0] rfl ?_
      exact kI7 (x75, h76) e0_7
    unfold LX10_reduce_31 at e
    refine j_iload_n C dX10_reduce_31 rfl rfl ?_
    refine j_if_eq (tgt := 77) C dX10_reduce_32 (by decide) (fun c91 => ?_) (fun c91 => ?_)
    · replace e := ifp c91 e
      obtain ⟨t_8, e_8, eu_8⟩ := exL_spec e
      obtain rfl := kT7 t_8 (e0_7.trans (congrArg some eu_8))
      replace e := e_8
      refine j_aload_n C dX10_reduce_77 rfl rfl ?_
      refine j_aload_n C dX10_reduce_78 rfl rfl ?_
      replace e := ob e
      obtain ⟨x77, ex77, e⟩ := e
      refine j_geti (ci := 10) (RC := RX10) (T := TX10) (N := 38) 13 C rfl klX10 (Nat.le_of_ble_eq_true rfl) kX10_169 rfl dX10_reduce_79 ex77 ?_
      refine j_if_ne (tgt := 89) C dX10_reduce_82 (by decide) (fun c78 => ?_) (fun c78 => ?_)
      · replace e := ifn c78 e
        refine j_iconst (v := (0 : Int32)) C dX10_reduce_89 (by decide) ?_
        refine jx_sub (lv' := [(0, .ref l0)]) [0] rfl ?_
        exact b90 l0 l0 (0 : Int32) h72 e
      · replace e := ifp c78 e
        refine j_iconst (v := (1 : Int32)) C dX10_reduce_85 (by decide) ?_
        refine j_goto (tgt := 90) C dX10_reduce_86 (by decide) ?_
        refine jx_sub (lv' := [(0, .ref l0)]) [0] rfl ?_
        exact b90 l0 l0 (1 : Int32) h72 e
    · replace e := ifn c91 e
      refine j_aload_n C dX10_reduce_35 rfl rfl ?_
      refine j_bipush (v := (20 : Int32)) C dX10_reduce_36 (by decide) ?_
      replace e := ob e
      obtain ⟨_, eo79, e⟩ := e
      replace e := ob e
      obtain ⟨h80, eh80, e⟩ := e
      refine j_callV (ci := 10) (RC := RX10) (T := TX10) (N := 38) (As := [.int (20 : Int32)]) (b := l0) (na := 1) (st := []) (k1 := 0) (n1 := 0) C hr (sX10_readTerm eh80) rfl eo79 kX10_220 kim_X10_readTerm ksel_X10_readTerm kini_X10 kc_X10_readTerm (by decide) rfl ⟨(Nat.le_of_ble_eq_true rfl), (Nat.le_of_ble_eq_true rfl)⟩ (Nat.le_of_ble_eq_true rfl) ⟨rfl, rfl, (Nat.le_of_ble_eq_true rfl), (Nat.le_of_ble_eq_true rfl)⟩ dX10_reduce_38 ?_
      rintro _ _ ⟨rfl, rfl⟩
      show jx_J X 0 0 41 [(0, .ref l0), (1, .int z71)] [] h80
      refine j_aload_n C dX10_reduce_41 rfl rfl ?_
      refine j_iconst (v := (0 : Int32)) C dX10_reduce_42 (by decide) ?_
      refine j_bipush (v := (20 : Int32)) C dX10_reduce_43 (by decide) ?_
      replace e := ob e
      obtain ⟨_, eo81, e⟩ := e
      replace e := ob2 e
      obtain ⟨x82, h83, ex82, e⟩ := e
      refine j_callV (ci := 10) (RC := RX10) (T := TX10) (N := 38) (As := [.int (0 : Int32), .int (20 : Int32)]) (b := l0) (na := 2) (st := []) (k1 := 0) (n1 := 0) C hr (sX10_reads ex82) rfl eo81 kX10_196 kim_X10_reads ksel_X10_reads kini_X10 kc_X10_reads (by decide) rfl ⟨(Nat.le_of_ble_eq_true rfl), (Nat.le_of_ble_eq_true rfl)⟩ (Nat.le_of_ble_eq_true rfl) ⟨rfl, rfl, (Nat.le_of_ble_eq_true rfl), (Nat.le_of_ble_eq_true rfl)⟩ dX10_reduce_45 ?_
      rintro _ _ ⟨rfl, rfl⟩
      show jx_J X 0 0 48 [(0, .ref l0), (1, .int z71)] [.int x82] h83
      refine j_istore_n (lv1 := [(2, .int x82), (0, .ref l0), (1, .int z71)]) C hL dX10_reduce_48 rfl (Nat.le_of_ble_eq_true rfl) rfl ?_
      refine j_aload_n C dX10_reduce_49 rfl rfl ?_
      replace e := ob e
      obtain ⟨x84, ex84, e⟩ := e
      refine j_geti (ci := 10) (RC := RX10) (T := TX10) (N := 38) 15 C rfl klX10 (Nat.le_of_ble_eq_true rfl) kX10_175 rfl dX10_reduce_50 ex84 ?_
      refine j_if_ne (tgt := 69) C dX10_reduce_53 (by decide) (fun c90 => ?_) (fun c90 => ?_)
      · replace e := ifn c90 e
        refine jx_sub (lv' := [(0, .ref l0)]) [1] rfl ?_
        exact b69 h83 e
      · replace e := ifp c90 e
        refine j_aload_n C dX10_reduce_56 rfl rfl ?_
        refine j_aload_n C dX10_reduce_57 rfl rfl ?_
        replace e := ob e
        obtain ⟨x85, ex85, e⟩ := e
        refine j_geti (ci := 10) (RC := RX10) (T := TX10) (N := 38) 19 C rfl klX10 (Nat.le_of_ble_eq_true rfl) kX10_211 rfl dX10_reduce_58 ex85 ?_
        refine j_iload_n C dX10_reduce_61 rfl rfl ?_
        replace e := ob e
        obtain ⟨_, eo86, e⟩ := e
        replace e := ob e
        obtain ⟨h87, eh87, e⟩ := e
        refine j_callV (ci := 10) (RC := RX10) (T := TX10) (N := 38) (As := [.int x85, .int x82]) (b := l0) (na := 2) (st := []) (k1 := 0) (n1 := 0) C hr (sX10_laysNormal eh87) rfl eo86 kX10_310 kim_X10_laysNormal ksel_X10_laysNormal kini_X10 kc_X10_laysNormal (by decide) rfl ⟨(Nat.le_of_ble_eq_true rfl), (Nat.le_of_ble_eq_true rfl)⟩ (Nat.le_of_ble_eq_true rfl) ⟨rfl, rfl, (Nat.le_of_ble_eq_true rfl), (Nat.le_of_ble_eq_true rfl)⟩ dX10_reduce_62 ?_
        rintro _ _ ⟨rfl, rfl⟩
        show jx_J X 0 0 65 [(2, .int x82), (0, .ref l0), (1, .int z71)] [] h87
        refine j_aload_n C dX10_reduce_65 rfl rfl ?_
        replace e := ob e
        obtain ⟨_, eo88, e⟩ := e
        replace e := ob e
        obtain ⟨h89, eh89, e⟩ := e
        refine j_callV (ci := 10) (RC := RX10) (T := TX10) (N := 38) (As := []) (b := l0) (na := 0) (st := []) (k1 := 0) (n1 := 0) C hr (sX10_addsColumn eh89) rfl eo88 kX10_313 kim_X10_addsColumn ksel_X10_addsColumn kini_X10 kc_X10_addsColumn (by decide) rfl ⟨(Nat.le_of_ble_eq_true rfl), (Nat.le_of_ble_eq_true rfl)⟩ (Nat.le_of_ble_eq_true rfl) ⟨rfl, rfl, (Nat.le_of_ble_eq_true rfl), (Nat.le_of_ble_eq_true rfl)⟩ dX10_reduce_66 ?_
        rintro _ _ ⟨rfl, rfl⟩
        show jx_J X 0 0 69 [(2, .int x82), (0, .ref l0), (1, .int z71)] [] h89
        refine jx_sub (lv' := [(0, .ref l0)]) [1] rfl ?_
        exact b69 h89 e
  · replace e := ifn c94 e
    refine j_aload_n C dX10_reduce_16 rfl rfl ?_
    replace e := ob e
    obtain ⟨x92, ex92, e⟩ := e
    refine j_getr (ci := 10) (RC := RX10) (T := TX10) (N := 38) 31 C rfl klX10 (Nat.le_of_ble_eq_true rfl) kX10_70 rfl dX10_reduce_17 ex92 ?_
    refine j_iload_n C dX10_reduce_20 rfl rfl ?_
    refine j_iconst (v := (0 : Int32)) C dX10_reduce_21 (by decide) ?_
    replace e := ob e
    obtain ⟨h93, eh93, e⟩ := e
    refine j_iast C dX10_reduce_22 eh93 ?_
    refine j_iinc (v := (z69 + (1 : Int32))) (lv1 := [(1, .int (z69 + (1 : Int32))), (0, .ref l0)]) C hL dX10_reduce_23 rfl rfl (Nat.le_of_ble_eq_true rfl) rfl ?_
    refine j_goto (tgt := 10) C dX10_reduce_26 (by decide) ?_
    obtain rfl := Option.some.inj e
    refine jx_sub (lv' := [(0, .ref l0), (1, .int (z69 + (1 : Int32)))]) [1, 0] rfl ?_
    exact kI6 ((z69 + (1 : Int32)), h93) e0_6
/-! BorderBasisModel.result(I)I -/
noncomputable def BX10_result_16 (l0 : Nat) (l1 : Int32) (s0 : Nat) (s1 : Int32) (h : jx_H) : Option (Int32 × jx_H) :=
(hp h s0 10 0 (.int s1)).bind fun h1 =>
(hgi h1 l0 10 0).bind fun x2 =>
if x2 ≤ 0 then
 (hgr h1 l0 10 30).bind fun x3 =>
 (hal h1 .int x3 l1).bind fun x4 =>
 some (x4, h1)
else
 some ((0 : Int32), h1)
noncomputable def FX10_result (l0 : Nat) (l1 : Int32) (h : jx_H) : Option (Int32 × jx_H) :=
(FX10_in l1 (0 : Int32) (11 : Int32) h).bind fun x6 =>
if x6 = 0 then
 BX10_result_16 l0 l1 l0 (1 : Int32) h
else
 BX10_result_16 l0 l1 l0 (0 : Int32) h
def rmX10_result : Room := { frames := 1, cells := 0, slots := 0, locals := 22 }
set_option maxRecDepth 20000 in
set_option maxHeartbeats 4000000 in
theorem sX10_result {l0 : Nat} {l1 : Int32} {h : jx_H} {r : Int32} {h9 : jx_H} (e : FX10_result l0 l1 h = some (r, h9)) : jx_Ct yX10_result cX10_result 2 (some .int) rmX10_result [.ref l0, .int l1] h (fun r' h' => some (.int r) = r' ∧ h9 = h') := by
  refine jx_Ct.of (own := RX10) (by decide) rfl (Nat.le_of_ble_eq_true rfl) (fun X C hq hr hL hN => ?_)
  refine jx_sub (lv' := [(0, .ref l0), (1, .int l1)]) [0, 1] rfl ?_
  have b16 : ∀ (y8 : Nat) (y9 : Int32) (y10 : Nat) (y11 : Int32) (h12 : jx_H), BX10_result_16 y8 y9 y10 y11 h12 = some (r, h9) → jx_J X 0 0 16 [(0, .ref y8), (1, .int y9)] [.int y11, .ref y10] h12 := by
    intro y8 y9 y10 y11 h12 e
    unfold BX10_result_16 at e
    replace e := ob e
    obtain ⟨h13, eh13, e⟩ := e
    refine j_put (ci := 10) (RC := RX10) (T := TX10) (N := 38) (ty0 := tyX10) 0 C rfl klX10 tyX10_ok nmX10 (Nat.le_of_ble_eq_true rfl) kX10_91 rfl rfl rfl rfl dX10_result_16 eh13 ?_
    refine j_aload_n C dX10_result_19 rfl rfl ?_
    replace e := ob e
    obtain ⟨x14, ex14, e⟩ := e
    refine j_geti (ci := 10) (RC := RX10) (T := TX10) (N := 38) 0 C rfl klX10 (Nat.le_of_ble_eq_true rfl) kX10_91 rfl dX10_result_20 ex14 ?_
    refine j_if_le (tgt := 30) C dX10_result_23 (by decide) (fun c17 => ?_) (fun c17 => ?_)
    · replace e := ifp c17 e
      refine j_aload_n C dX10_result_30 rfl rfl ?_
      replace e := ob e
      obtain ⟨x15, ex15, e⟩ := e
      refine j_getr (ci := 10) (RC := RX10) (T := TX10) (N := 38) 30 C rfl klX10 (Nat.le_of_ble_eq_true rfl) kX10_67 rfl dX10_result_31 ex15 ?_
      refine j_iload_n C dX10_result_34 rfl rfl ?_
      replace e := ob e
      obtain ⟨x16, ex16, e⟩ := e
      refine j_iald C dX10_result_35 ex16 ?_
      cases e
      exact j_iret C hq rfl dX10_result_36 ⟨Nat.le_of_ble_eq_true rfl, Nat.le_of_ble_eq_true rfl⟩ ⟨rfl, rfl⟩
    · replace e := ifn c17 e
      refine j_iconst (v := (0 : Int32)) C dX10_result_26 (by decide) ?_
      refine j_goto (tgt := 36) C dX10_result_27 (by decide) ?_
      cases e
      exact j_iret C hq rfl dX10_result_36 ⟨Nat.le_of_ble_eq_true rfl, Nat.le_of_ble_eq_true rfl⟩ ⟨rfl, rfl⟩
  unfold FX10_result at e
  refine j_aload_n C dX10_result_0 rfl rfl ?_
  refine j_iload_n C dX10_result_1 rfl rfl ?_
  refine j_iconst (v := (0 : Int32)) C dX10_result_2 (by decide) ?_
  refine j_bipush (v := (11 : Int32)) C dX10_result_3 (by decide) ?_
  replace e := ob e
  obtain ⟨x18, ex18, e⟩ := e
  refine j_callS (As := [.int l1, .int (0 : Int32), .int (11 : Int32)]) (na := 3) (st := [.ref l0]) (k1 := 0) (n1 := 0) C hr (sX10_in ex18) kX10_101 kst_X10_in kini_X10 kc_X10_in (by decide) rfl ⟨(Nat.le_of_ble_eq_true rfl), (Nat.le_of_ble_eq_true rfl)⟩ (Nat.le_of_ble_eq_true rfl) ⟨rfl, rfl, (Nat.le_of_ble_eq_true rfl), (Nat.le_of_ble_eq_true rfl)⟩ dX10_result_5 ?_
  rintro _ _ ⟨rfl, rfl⟩
  show jx_J X 0 0 8 [(0, .ref l0), (1, .int l1)] [.int x18, .ref l0] h
  refine j_if_eq (tgt := 15) C dX10_result_8 (by decide) (fun c19 => ?_) (fun c19 => ?_)
  · replace e := ifp c19 e
    refine j_iconst (v := (1 : Int32)) C dX10_result_15 (by decide) ?_
    exact b16 l0 l1 l0 (1 : Int32) h e
  · replace e := ifn c19 e
    refine j_iconst (v := (0 : Int32)) C dX10_result_11 (by decide) ?_
    refine j_goto (tgt := 16) C dX10_result_12 (by decide) ?_
    exact b16 l0 l1 l0 (0 : Int32) h e
/-! BorderBasisModel.laysPowers(II)V -/
noncomputable def LX10_laysPowers_16 (l0 : Nat) (l1 : Int32) (l2 : Int32) (l3 : Int32) (h : jx_H) : Option ((Int32 × jx_H) ⊕ (jx_H)) :=
if (13 : Int32) ≤ l3 then
 exL (some h)
else
 (hgr h l0 10 32).bind fun x5 =>
 (hgr h l0 10 32).bind fun x6 =>
 (hal h .int x6 (l3 - (1 : Int32))).bind fun x7 =>
 (isO h l0 10).bind fun _ =>
 (FX10_p l0 h).bind fun x9 =>
 if x9 = 0 then none else
 (has h .int x5 l3 ((x7 * l1) - (x7 * l1) / x9 * x9)).bind fun h11 =>
 (hgr h11 l0 10 33).bind fun x12 =>
 (hgr h11 l0 10 33).bind fun x13 =>
 (hal h11 .int x13 (l3 - (1 : Int32))).bind fun x14 =>
 (isO h11 l0 10).bind fun _ =>
 (FX10_p l0 h11).bind fun x16 =>
 if x16 = 0 then none else
 (has h11 .int x12 l3 ((x14 * l2) - (x14 * l2) / x16 * x16)).bind fun h18 =>
 some (.inl ((l3 + (1 : Int32)), h18))
noncomputable def FX10_laysPowers (l0 : Nat) (l1 : Int32) (l2 : Int32) (h : jx_H) : Option (jx_H) :=
(hgr h l0 10 32).bind fun x1 =>
(has h .int x1 (0 : Int32) (1 : Int32)).bind fun h2 =>
(hgr h2 l0 10 33).bind fun x3 =>
(has h2 .int x3 (0 : Int32) (1 : Int32)).bind fun h4 =>
itr (fun s : Int32 × jx_H => LX10_laysPowers_16 l0 l1 l2 s.1 s.2) ((1 : Int32), h4)
def rmX10_laysPowers : Room := { frames := 1, cells := 0, slots := 0, locals := 20 }
set_option maxRecDepth 20000 in
set_option maxHeartbeats 4000000 in
theorem sX10_laysPowers {l0 : Nat} {l1 : Int32} {l2 : Int32} {h : jx_H} {h9 : jx_H} (e : FX10_laysPowers l0 l1 l2 h = some h9) : jx_Ct yX10_laysPowers cX10_laysPowers 4 none rmX10_laysPowers [.ref l0, .int l1, .int l2] h (fun r' h' => none = r' ∧ h9 = h') := by
  refine jx_Ct.of (own := RX10) (by decide) rfl (Nat.le_of_ble_eq_true rfl) (fun X C hq hr hL hN => ?_)
  refine jx_sub (lv' := [(0, .ref l0), (1, .int l1), (2, .int l2)]) [0, 1, 2] rfl ?_
  unfold FX10_laysPowers at e
  refine j_aload_n C dX10_laysPowers_0 rfl rfl ?_
  replace e := ob e
  obtain ⟨x20, ex20, e⟩ := e
  refine j_getr (ci := 10) (RC := RX10) (T := TX10) (N := 38) 32 C rfl klX10 (Nat.le_of_ble_eq_true rfl) kX10_73 rfl dX10_laysPowers_1 ex20 ?_
  refine j_iconst (v := (0 : Int32)) C dX10_laysPowers_4 (by decide) ?_
  refine j_iconst (v := (1 : Int32)) C dX10_laysPowers_5 (by decide) ?_
  replace e := ob e
  obtain ⟨h21, eh21, e⟩ := e
  refine j_iast C dX10_laysPowers_6 eh21 ?_
  refine j_aload_n C dX10_laysPowers_7 rfl rfl ?_
  replace e := ob e
  obtain ⟨x22, ex22, e⟩ := e
  refine j_getr (ci := 10) (RC := RX10) (T := TX10) (N := 38) 33 C rfl klX10 (Nat.le_of_ble_eq_true rfl) kX10_76 rfl dX10_laysPowers_8 ex22 ?_
  refine j_iconst (v := (0 : Int32)) C dX10_laysPowers_11 (by decide) ?_
  refine j_iconst (v := (1 : Int32)) C dX10_laysPowers_12 (by decide) ?_
  replace e := ob e
  obtain ⟨h23, eh23, e⟩ := e
  refine j_iast C dX10_laysPowers_13 eh23 ?_
  refine j_iconst (v := (1 : Int32)) C dX10_laysPowers_14 (by decide) ?_
  refine j_istore_n (lv1 := [(3, .int (1 : Int32)), (0, .ref l0), (1, .int l1), (2, .int l2)]) C hL dX10_laysPowers_15 rfl (Nat.le_of_ble_eq_true rfl) rfl ?_
  refine jx_sub (lv' := [(0, .ref l0), (1, .int l1), (2, .int l2), (3, .int (1 : Int32))]) [1, 2, 3, 0] rfl ?_
  refine itr_ind (s0 := ((1 : Int32), h23)) (fun s : Int32 × jx_H => jx_J X 0 0 16 [(0, .ref l0), (1, .int l1), (2, .int l2), (3, .int s.1)] [] s.2) e ?_
  clear e
  intro s kI2 kT2 e0
  obtain ⟨z24, h25⟩ := s
  obtain ⟨u2, e0_2⟩ := e0
  have e : LX10_laysPowers_16 l0 l1 l2 z24 h25 = some u2 := e0_2
  unfold LX10_laysPowers_16 at e
  refine j_iload_n C dX10_laysPowers_16 rfl rfl ?_
  refine j_bipush (v := (13 : Int32)) C dX10_laysPowers_17 (by decide) ?_
  refine j_icmp_ge (tgt := 70) C dX10_laysPowers_19 (by decide) (fun c40 => ?_) (fun c40 => ?_)
  · replace e := ifp c40 e
    obtain ⟨t_3, e_3, eu_3⟩ := exL_spec e
    obtain rfl := kT2 t_3 (e0_2.trans (congrArg some eu_3))
    replace e := e_3
    cases e
    exact j_vret C hq dX10_laysPowers_70 ⟨Nat.le_of_ble_eq_true rfl, Nat.le_of_ble_eq_true rfl⟩ ⟨rfl, rfl⟩
  · replace e := ifn c40 e
    refine j_aload_n C dX10_laysPowers_22 rfl rfl ?_
    replace e := ob e
    obtain ⟨x26, ex26, e⟩ := e
    refine j_getr (ci := 10) (RC := RX10) (T := TX10) (N := 38) 32 C rfl klX10 (Nat.le_of_ble_eq_true rfl) kX10_73 rfl dX10_laysPowers_23 ex26 ?_
    refine j_iload_n C dX10_laysPowers_26 rfl rfl ?_
    refine j_aload_n C dX10_laysPowers_27 rfl rfl ?_
    replace e := ob e
    obtain ⟨x27, ex27, e⟩ := e
    refine j_getr (ci := 10) (RC := RX10) (T := TX10) (N := 38) 32 C rfl klX10 (Nat.le_of_ble_eq_true rfl) kX10_73 rfl dX10_laysPowers_28 ex27 ?_
    refine j_iload_n C dX10_laysPowers_31 rfl rfl ?_
    refine j_iconst (v := (1 : Int32)) C dX10_laysPowers_32 (by decide) ?_
    refine j_isub C dX10_laysPowers_33 ?_
    replace e := ob e
    obtain ⟨x28, ex28, e⟩ := e
    refine j_iald C dX10_laysPowers_34 ex28 ?_
    refine j_iload_n C dX10_laysPowers_35 rfl rfl ?_
    refine j_imul C dX10_laysPowers_36 ?_
    refine j_aload_n C dX10_laysPowers_37 rfl rfl ?_
    replace e := ob e
    obtain ⟨_, eo29, e⟩ := e
    replace e := ob e
    obtain ⟨x30, ex30, e⟩ := e
    refine j_callV (ci := 10) (RC := RX10) (T := TX10) (N := 38) (As := []) (b := l0) (na := 0) (st := [.int (x28 * l1), .int z24, .ref x26]) (k1 := 0) (n1 := 0) C hr (sX10_p ex30) rfl eo29 kX10_97 kim_X10_p ksel_X10_p kini_X10 kc_X10_p (by decide) rfl ⟨(Nat.le_of_ble_eq_true rfl), (Nat.le_of_ble_eq_true rfl)⟩ (Nat.le_of_ble_eq_true rfl) ⟨rfl, rfl, (Nat.le_of_ble_eq_true rfl), (Nat.le_of_ble_eq_true rfl)⟩ dX10_laysPowers_38 ?_
    rintro _ _ ⟨rfl, rfl⟩
    show jx_J X 0 0 41 [(0, .ref l0), (1, .int l1), (2, .int l2), (3, .int z24)] [.int x30, .int (x28 * l1), .int z24, .ref x26] h25
    by_cases c31 : x30 = 0
    · exact nos (ifp c31 e)
    replace e := ifn c31 e
    refine j_irem C dX10_laysPowers_41 c31 ?_
    replace e := ob e
    obtain ⟨h32, eh32, e⟩ := e
    refine j_iast C dX10_laysPowers_42 eh32 ?_
    refine j_aload_n C dX10_laysPowers_43 rfl rfl ?_
    replace e := ob e
    obtain ⟨x33, ex33, e⟩ := e
    refine j_getr (ci := 10) (RC := RX10) (T := TX10) (N := 38) 33 C rfl klX10 (Nat.le_of_ble_eq_true rfl) kX10_76 rfl dX10_laysPowers_44 ex33 ?_
    refine j_iload_n C dX10_laysPowers_47 rfl rfl ?_
    refine j_aload_n C dX10_laysPowers_48 rfl rfl ?_
    replace e := ob e
    obtain ⟨x34, ex34, e⟩ := e
    refine j_getr (ci := 10) (RC := RX10) (T := TX10) (N := 38) 33 C rfl klX10 (Nat.le_of_ble_eq_true rfl) kX10_76 rfl dX10_laysPowers_49 ex34 ?_
    refine j_iload_n C dX10_laysPowers_52 rfl rfl ?_
    refine j_iconst (v := (1 : Int32)) C dX10_laysPowers_53 (by decide) ?_
    refine j_isub C dX10_laysPowers_54 ?_
    replace e := ob e
    obtain ⟨x35, ex35, e⟩ := e
    refine j_iald C dX10_laysPowers_55 ex35 ?_
    refine j_iload_n C dX10_laysPowers_56 rfl rfl ?_
    refine j_imul C dX10_laysPowers_57 ?_
    refine j_aload_n C dX10_laysPowers_58 rfl rfl ?_
    replace e := ob e
    obtain ⟨_, eo36, e⟩ := e
    replace e := ob e
    obtain ⟨x37, ex37, e⟩ := e
    refine j_callV (ci := 10) (RC := RX10) (T := TX10) (N := 38) (As := []) (b := l0) (na := 0) (st := [.int (x35 * l2), .int z24, .ref x33]) (k1 := 0) (n1 := 0) C hr (sX10_p ex37) rfl eo36 kX10_97 kim_X10_p ksel_X10_p kini_X10 kc_X10_p (by decide) rfl ⟨(Nat.le_of_ble_eq_true rfl), (Nat.le_of_ble_eq_true rfl)⟩ (Nat.le_of_ble_eq_true rfl) ⟨rfl, rfl, (Nat.le_of_ble_eq_true rfl), (Nat.le_of_ble_eq_true rfl)⟩ dX10_laysPowers_59 ?_
    rintro _ _ ⟨rfl, rfl⟩
    show jx_J X 0 0 62 [(0, .ref l0), (1, .int l1), (2, .int l2), (3, .int z24)] [.int x37, .int (x35 * l2), .int z24, .ref x33] h32
    by_cases c38 : x37 = 0
    · exact nos (ifp c38 e)
    replace e := ifn c38 e
    refine j_irem C dX10_laysPowers_62 c38 ?_
    replace e := ob e
    obtain ⟨h39, eh39, e⟩ := e
    refine j_iast C dX10_laysPowers_63 eh39 ?_
    refine j_iinc (v := (z24 + (1 : Int32))) (lv1 := [(3, .int (z24 + (1 : Int32))), (0, .ref l0), (1, .int l1), (2, .int l2)]) C hL dX10_laysPowers_64 rfl rfl (Nat.le_of_ble_eq_true rfl) rfl ?_
    refine j_goto (tgt := 16) C dX10_laysPowers_67 (by decide) ?_
    obtain rfl := Option.some.inj e
    refine jx_sub (lv' := [(0, .ref l0), (1, .int l1), (2, .int l2), (3, .int (z24 + (1 : Int32)))]) [1, 2, 3, 0] rfl ?_
    exact kI2 ((z24 + (1 : Int32)), h39) e0_2
/-! BorderBasisModel.valueOf(I)I -/
noncomputable def BX10_valueOf_98 (l0 : Nat) (l1 : Int32) (l3 : Int32) (s0 : Int32) (s1 : Int32) (h : jx_H) : Option ((Int32 × Int32) ⊕ (Int32)) :=
some (.inl ((s0 - s1), (l3 + (1 : Int32))))
noncomputable def LX10_valueOf_32 (l0 : Nat) (l1 : Int32) (l2 : Int32) (l3 : Int32) (h : jx_H) : Option ((Int32 × Int32) ⊕ (Int32)) :=
(isO h l0 10).bind fun _ =>
(FX10_n l0 h).bind fun x10 =>
if x10 ≤ l3 then
 exL ((isO h l0 10).bind fun _ =>
 (FX10_mod l0 l2 h).bind fun x12 =>
 some x12)
else
 (hgr h l0 10 1).bind fun x13 =>
 (FX10_ruleAt l1 l3 h).bind fun x14 =>
 (hal h .int x13 x14).bind fun x15 =>
 if x15 = 0 then
  BX10_valueOf_98 l0 l1 l3 l2 (0 : Int32) h
 else
  (hgr h l0 10 32).bind fun x16 =>
  (hgr h l0 10 1).bind fun x17 =>
  (hal h .int x17 ((4 : Int32) + l3)).bind fun x18 =>
  (hal h .int x16 x18).bind fun x19 =>
  (hgr h l0 10 33).bind fun x20 =>
  (hgr h l0 10 1).bind fun x21 =>
  (hal h .int x21 ((16 : Int32) + l3)).bind fun x22 =>
  (hal h .int x20 x22).bind fun x23 =>
  (isO h l0 10).bind fun _ =>
  (FX10_p l0 h).bind fun x25 =>
  if x25 = 0 then none else
  BX10_valueOf_98 l0 l1 l3 l2 (x15 * ((x19 * x23) - (x19 * x23) / x25 * x25)) h
noncomputable def FX10_valueOf (l0 : Nat) (l1 : Int32) (h : jx_H) : Option (Int32) :=
(hgr h l0 10 32).bind fun x1 =>
(hgr h l0 10 1).bind fun x2 =>
(hal h .int x2 ((28 : Int32) + l1)).bind fun x3 =>
(hal h .int x1 x3).bind fun x4 =>
(hgr h l0 10 33).bind fun x5 =>
(hgr h l0 10 1).bind fun x6 =>
(hal h .int x6 ((42 : Int32) + l1)).bind fun x7 =>
(hal h .int x5 x7).bind fun x8 =>
itr (fun s : Int32 × Int32 => LX10_valueOf_32 l0 l1 s.1 s.2 h) ((x4 * x8), (0 : Int32))
def rmX10_valueOf : Room := { frames := 2, cells := 0, slots := 0, locals := 42 }
set_option maxRecDepth 20000 in
set_option maxHeartbeats 4000000 in
theorem sX10_valueOf {l0 : Nat} {l1 : Int32} {h : jx_H} {r : Int32}  (e : FX10_valueOf l0 l1 h = some r) : jx_Ct yX10_valueOf cX10_valueOf 5 (some .int) rmX10_valueOf [.ref l0, .int l1] h (fun r' h' => some (.int r) = r' ∧ h = h') := by
  refine jx_Ct.of (own := RX10) (by decide) rfl (Nat.le_of_ble_eq_true rfl) (fun X C hq hr hL hN => ?_)
  refine jx_sub (lv' := [(0, .ref l0), (1, .int l1)]) [0, 1] rfl ?_
  unfold FX10_valueOf at e
  refine j_aload_n C dX10_valueOf_0 rfl rfl ?_
  replace e := ob e
  obtain ⟨x29, ex29, e⟩ := e
  refine j_getr (ci := 10) (RC := RX10) (T := TX10) (N := 38) 32 C rfl klX10 (Nat.le_of_ble_eq_true rfl) kX10_73 rfl dX10_valueOf_1 ex29 ?_
  refine j_aload_n C dX10_valueOf_4 rfl rfl ?_
  replace e := ob e
  obtain ⟨x30, ex30, e⟩ := e
  refine j_getr (ci := 10) (RC := RX10) (T := TX10) (N := 38) 1 C rfl klX10 (Nat.le_of_ble_eq_true rfl) kX10_7 rfl dX10_valueOf_5 ex30 ?_
  refine j_bipush (v := (28 : Int32)) C dX10_valueOf_8 (by decide) ?_
  refine j_iload_n C dX10_valueOf_10 rfl rfl ?_
  refine j_iadd C dX10_valueOf_11 ?_
  replace e := ob e
  obtain ⟨x31, ex31, e⟩ := e
  refine j_iald C dX10_valueOf_12 ex31 ?_
  replace e := ob e
  obtain ⟨x32, ex32, e⟩ := e
  refine j_iald C dX10_valueOf_13 ex32 ?_
  refine j_aload_n C dX10_valueOf_14 rfl rfl ?_
  replace e := ob e
  obtain ⟨x33, ex33, e⟩ := e
  refine j_getr (ci := 10) (RC := RX10) (T := TX10) (N := 38) 33 C rfl klX10 (Nat.le_of_ble_eq_true rfl) kX10_76 rfl dX10_valueOf_15 ex33 ?_
  refine j_aload_n C dX10_valueOf_18 rfl rfl ?_
  replace e := ob e
  obtain ⟨x34, ex34, e⟩ := e
  refine j_getr (ci := 10) (RC := RX10) (T := TX10) (N := 38) 1 C rfl klX10 (Nat.le_of_ble_eq_true rfl) kX10_7 rfl dX10_valueOf_19 ex34 ?_
  refine j_bipush (v := (42 : Int32)) C dX10_valueOf_22 (by decide) ?_
  refine j_iload_n C dX10_valueOf_24 rfl rfl ?_
  refine j_iadd C dX10_valueOf_25 ?_
  replace e := ob e
  obtain ⟨x35, ex35, e⟩ := e
  refine j_iald C dX10_valueOf_26 ex35 ?_
  replace e := ob e
  obtain ⟨x36, ex36, e⟩ := e
  refine j_iald C dX10_valueOf_27 ex36 ?_
  refine j_imul C dX10_valueOf_28 ?_
  refine j_istore_n (lv1 := [(2, .int (x32 * x36)), (0, .ref l0), (1, .int l1)]) C hL dX10_valueOf_29 rfl (Nat.le_of_ble_eq_true rfl) rfl ?_
  refine j_iconst (v := (0 : Int32)) C dX10_valueOf_30 (by decide) ?_
  refine j_istore_n (lv1 := [(3, .int (0 : Int32)), (2, .int (x32 * x36)), (0, .ref l0), (1, .int l1)]) C hL dX10_valueOf_31 rfl (Nat.le_of_ble_eq_true rfl) rfl ?_
  refine jx_sub (lv' := [(0, .ref l0), (1, .int l1), (2, .int (x32 * x36)), (3, .int (0 : Int32))]) [2, 3, 1, 0] rfl ?_
  refine itr_ind (s0 := ((x32 * x36), (0 : Int32))) (fun s : Int32 × Int32 => jx_J X 0 0 32 [(0, .ref l0), (1, .int l1), (2, .int s.1), (3, .int s.2)] [] h) e ?_
  clear e
  intro s kI2 kT2 e0
  obtain ⟨z37, z38⟩ := s
  obtain ⟨u2, e0_2⟩ := e0
  have e : LX10_valueOf_32 l0 l1 z37 z38 h = some u2 := e0_2
  have b98 : ∀ (y39 : Int32) (y40 : Int32) (y41 : Int32), BX10_valueOf_98 l0 l1 y39 y40 y41 h = some u2 → jx_J X 0 0 98 [(0, .ref l0), (1, .int l1), (3, .int y39)] [.int y41, .int y40] h := by
    intro y39 y40 y41 e
    unfold BX10_valueOf_98 at e
    refine j_isub C dX10_valueOf_98 ?_
    refine j_istore_n (lv1 := [(2, .int (y40 - y41)), (0, .ref l0), (1, .int l1), (3, .int y39)]) C hL dX10_valueOf_99 rfl (Nat.le_of_ble_eq_true rfl) rfl ?_
    refine j_iinc (v := (y39 + (1 : Int32))) (lv1 := [(3, .int (y39 + (1 : Int32))), (2, .int (y40 - y41)), (0, .ref l0), (1, .int l1)]) C hL dX10_valueOf_100 rfl rfl (Nat.le_of_ble_eq_true rfl) rfl ?_
    refine j_goto (tgt := 32) C dX10_valueOf_103 (by decide) ?_
    obtain rfl := Option.some.inj e
    refine jx_sub (lv' := [(0, .ref l0), (1, .int l1), (2, .int (y40 - y41)), (3, .int (y39 + (1 : Int32)))]) [2, 3, 1, 0] rfl ?_
    exact kI2 ((y40 - y41), (y39 + (1 : Int32))) e0_2
  unfold LX10_valueOf_32 at e
  refine j_iload_n C dX10_valueOf_32 rfl rfl ?_
  refine j_aload_n C dX10_valueOf_33 rfl rfl ?_
  replace e := ob e
  obtain ⟨_, eo42, e⟩ := e
  replace e := ob e
  obtain ⟨x43, ex43, e⟩ := e
  refine j_callV (ci := 10) (RC := RX10) (T := TX10) (N := 38) (As := []) (b := l0) (na := 0) (st := [.int z38]) (k1 := 0) (n1 := 0) C hr (sX10_n ex43) rfl eo42 kX10_105 kim_X10_n ksel_X10_n kini_X10 kc_X10_n (by decide) rfl ⟨(Nat.le_of_ble_eq_true rfl), (Nat.le_of_ble_eq_true rfl)⟩ (Nat.le_of_ble_eq_true rfl) ⟨rfl, rfl, (Nat.le_of_ble_eq_true rfl), (Nat.le_of_ble_eq_true rfl)⟩ dX10_valueOf_34 ?_
  rintro _ _ ⟨rfl, rfl⟩
  show jx_J X 0 0 37 [(0, .ref l0), (1, .int l1), (2, .int z37), (3, .int z38)] [.int x43, .int z38] h
  refine j_icmp_ge (tgt := 106) C dX10_valueOf_37 (by decide) (fun c61 => ?_) (fun c61 => ?_)
  · replace e := ifp c61 e
    obtain ⟨t_3, e_3, eu_3⟩ := exL_spec e
    obtain rfl := kT2 t_3 (e0_2.trans (congrArg some eu_3))
    replace e := e_3
    refine j_aload_n C dX10_valueOf_106 rfl rfl ?_
    refine j_iload_n C dX10_valueOf_107 rfl rfl ?_
    replace e := ob e
    obtain ⟨_, eo44, e⟩ := e
    replace e := ob e
    obtain ⟨x45, ex45, e⟩ := e
    refine j_callV (ci := 10) (RC := RX10) (T := TX10) (N := 38) (As := [.int z37]) (b := l0) (na := 1) (st := []) (k1 := 0) (n1 := 0) C hr (sX10_mod ex45) rfl eo44 kX10_205 kim_X10_mod ksel_X10_mod kini_X10 kc_X10_mod (by decide) rfl ⟨(Nat.le_of_ble_eq_true rfl), (Nat.le_of_ble_eq_true rfl)⟩ (Nat.le_of_ble_eq_true rfl) ⟨rfl, rfl, (Nat.le_of_ble_eq_true rfl), (Nat.le_of_ble_eq_true rfl)⟩ dX10_valueOf_108 ?_
    rintro _ _ ⟨rfl, rfl⟩
    show jx_J X 0 0 111 [(0, .ref l0), (1, .int l1), (2, .int z37), (3, .int z38)] [.int x45] h
    cases e
    exact j_iret C hq rfl dX10_valueOf_111 ⟨Nat.le_of_ble_eq_true rfl, Nat.le_of_ble_eq_true rfl⟩ ⟨rfl, rfl⟩
  · replace e := ifn c61 e
    refine j_aload_n C dX10_valueOf_40 rfl rfl ?_
    replace e := ob e
    obtain ⟨x46, ex46, e⟩ := e
    refine j_getr (ci := 10) (RC := RX10) (T := TX10) (N := 38) 1 C rfl klX10 (Nat.le_of_ble_eq_true rfl) kX10_7 rfl dX10_valueOf_41 ex46 ?_
    refine j_iload_n C dX10_valueOf_44 rfl rfl ?_
    refine j_iload_n C dX10_valueOf_45 rfl rfl ?_
    replace e := ob e
    obtain ⟨x47, ex47, e⟩ := e
    refine j_callS (As := [.int l1, .int z38]) (na := 2) (st := [.ref x46]) (k1 := 0) (n1 := 0) C hr (sX10_ruleAt ex47) kX10_130 kst_X10_ruleAt kini_X10 kc_X10_ruleAt (by decide) rfl ⟨(Nat.le_of_ble_eq_true rfl), (Nat.le_of_ble_eq_true rfl)⟩ (Nat.le_of_ble_eq_true rfl) ⟨rfl, rfl, (Nat.le_of_ble_eq_true rfl), (Nat.le_of_ble_eq_true rfl)⟩ dX10_valueOf_46 ?_
    rintro _ _ ⟨rfl, rfl⟩
    show jx_J X 0 0 49 [(0, .ref l0), (1, .int l1), (2, .int z37), (3, .int z38)] [.int x47, .ref x46] h
    replace e := ob e
    obtain ⟨x48, ex48, e⟩ := e
    refine j_iald C dX10_valueOf_49 ex48 ?_
    refine j_istore (lv1 := [(4, .int x48), (0, .ref l0), (1, .int l1), (2, .int z37), (3, .int z38)]) C hL dX10_valueOf_50 (Nat.le_of_ble_eq_true rfl) rfl ?_
    refine j_iload_n C dX10_valueOf_52 rfl rfl ?_
    refine j_iload C dX10_valueOf_53 rfl ?_
    refine j_if_ne (tgt := 62) C dX10_valueOf_55 (by decide) (fun c60 => ?_) (fun c60 => ?_)
    · replace e := ifn c60 e
      refine j_iload C dX10_valueOf_62 rfl ?_
      refine j_aload_n C dX10_valueOf_64 rfl rfl ?_
      replace e := ob e
      obtain ⟨x49, ex49, e⟩ := e
      refine j_getr (ci := 10) (RC := RX10) (T := TX10) (N := 38) 32 C rfl klX10 (Nat.le_of_ble_eq_true rfl) kX10_73 rfl dX10_valueOf_65 ex49 ?_
      refine j_aload_n C dX10_valueOf_68 rfl rfl ?_
      replace e := ob e
      obtain ⟨x50, ex50, e⟩ := e
      refine j_getr (ci := 10) (RC := RX10) (T := TX10) (N := 38) 1 C rfl klX10 (Nat.le_of_ble_eq_true rfl) kX10_7 rfl dX10_valueOf_69 ex50 ?_
      refine j_iconst (v := (4 : Int32)) C dX10_valueOf_72 (by decide) ?_
      refine j_iload_n C dX10_valueOf_73 rfl rfl ?_
      refine j_iadd C dX10_valueOf_74 ?_
      replace e := ob e
      obtain ⟨x51, ex51, e⟩ := e
      refine j_iald C dX10_valueOf_75 ex51 ?_
      replace e := ob e
      obtain ⟨x52, ex52, e⟩ := e
      refine j_iald C dX10_valueOf_76 ex52 ?_
      refine j_aload_n C dX10_valueOf_77 rfl rfl ?_
      replace e := ob e
      obtain ⟨x53, ex53, e⟩ := e
      refine j_getr (ci := 10) (RC := RX10) (T := TX10) (N := 38) 33 C rfl klX10 (Nat.le_of_ble_eq_true rfl) kX10_76 rfl dX10_valueOf_78 ex53 ?_
      refine j_aload_n C dX10_valueOf_81 rfl rfl ?_
      replace e := ob e
      obtain ⟨x54, ex54, e⟩ := e
      refine j_getr (ci := 10) (RC := RX10) (T := TX10) (N := 38) 1 C rfl klX10 (Nat.le_of_ble_eq_true rfl) kX10_7 rfl dX10_valueOf_82 ex54 ?_
      refine j_bipush (v := (16 : Int32)) C dX10_valueOf_85 (by decide) ?_
      refine j_iload_n C dX10_valueOf_87 rfl rfl ?_
      refine j_iadd C dX10_valueOf_88 ?_
      replace e := ob e
      obtain ⟨x55, ex55, e⟩ := e
      refine j_iald C dX10_valueOf_89 ex55 ?_
      replace e := ob e
      obtain ⟨x56, ex56, e⟩ := e
      refine j_iald C dX10_valueOf_90 ex56 ?_
      refine j_imul C dX10_valueOf_91 ?_
      refine j_aload_n C dX10_valueOf_92 rfl rfl ?_
      replace e := ob e
      obtain ⟨_, eo57, e⟩ := e
      replace e := ob e
      obtain ⟨x58, ex58, e⟩ := e
      refine j_callV (ci := 10) (RC := RX10) (T := TX10) (N := 38) (As := []) (b := l0) (na := 0) (st := [.int (x52 * x56), .int x48, .int z37]) (k1 := 0) (n1 := 0) C hr (sX10_p ex58) rfl eo57 kX10_97 kim_X10_p ksel_X10_p kini_X10 kc_X10_p (by decide) rfl ⟨(Nat.le_of_ble_eq_true rfl), (Nat.le_of_ble_eq_true rfl)⟩ (Nat.le_of_ble_eq_true rfl) ⟨rfl, rfl, (Nat.le_of_ble_eq_true rfl), (Nat.le_of_ble_eq_true rfl)⟩ dX10_valueOf_93 ?_
      rintro _ _ ⟨rfl, rfl⟩
      show jx_J X 0 0 96 [(4, .int x48), (0, .ref l0), (1, .int l1), (2, .int z37), (3, .int z38)] [.int x58, .int (x52 * x56), .int x48, .int z37] h
      by_cases c59 : x58 = 0
      · exact nos (ifp c59 e)
      replace e := ifn c59 e
      refine j_irem C dX10_valueOf_96 c59 ?_
      refine j_imul C dX10_valueOf_97 ?_
      refine jx_sub (lv' := [(0, .ref l0), (1, .int l1), (3, .int z38)]) [1, 2, 4] rfl ?_
      exact b98 z38 z37 (x48 * ((x52 * x56) - (x52 * x56) / x58 * x58)) e
    · replace e := ifp c60 e
      refine j_iconst (v := (0 : Int32)) C dX10_valueOf_58 (by decide) ?_
      refine j_goto (tgt := 98) C dX10_valueOf_59 (by decide) ?_
      refine jx_sub (lv' := [(0, .ref l0), (1, .int l1), (3, .int z38)]) [1, 2, 4] rfl ?_
      exact b98 z38 z37 (0 : Int32) e
/-! BorderBasisModel.isZero(II)Z -/
noncomputable def BX10_isZero_40 (l0 : Nat) (l4 : Int32) (s0 : Int32) (h : jx_H) : Option ((Int32 × Int32) ⊕ (Int32 × jx_H)) :=
some (.inl (s0, (l4 + (1 : Int32))))
noncomputable def LX10_isZero_11 (l0 : Nat) (l3 : Int32) (l4 : Int32) (h : jx_H) : Option ((Int32 × Int32) ⊕ (Int32 × jx_H)) :=
(hgr h l0 10 1).bind fun x3 =>
(hal h .int x3 (2 : Int32)).bind fun x4 =>
if x4 ≤ l4 then
 exL (if l3 = 0 ∨ l3 = 1 then some (l3, h) else none)
else
 if l3 = 0 then
  exL (if l3 = 0 ∨ l3 = 1 then some (l3, h) else none)
 else
  (isO h l0 10).bind fun _ =>
  (FX10_valueOf l0 l4 h).bind fun x8 =>
  if x8 = 0 then
   BX10_isZero_40 l0 l4 (1 : Int32) h
  else
   BX10_isZero_40 l0 l4 (0 : Int32) h
noncomputable def FX10_isZero (l0 : Nat) (l1 : Int32) (l2 : Int32) (h : jx_H) : Option (Int32 × jx_H) :=
(isO h l0 10).bind fun _ =>
(FX10_laysPowers l0 l1 l2 h).bind fun h2 =>
itr (fun s : Int32 × Int32 => LX10_isZero_11 l0 s.1 s.2 h2) ((1 : Int32), (0 : Int32))
def rmX10_isZero : Room := { frames := 3, cells := 0, slots := 0, locals := 66 }
set_option maxRecDepth 20000 in
set_option maxHeartbeats 4000000 in
theorem sX10_isZero {l0 : Nat} {l1 : Int32} {l2 : Int32} {h : jx_H} {r : Int32} {h9 : jx_H} (e : FX10_isZero l0 l1 l2 h = some (r, h9)) : jx_Ct yX10_isZero cX10_isZero 5 (some .boolean) rmX10_isZero [.ref l0, .int l1, .int l2] h (fun r' h' => some (.int r) = r' ∧ h9 = h') := by
  refine jx_Ct.of (own := RX10) (by decide) rfl (Nat.le_of_ble_eq_true rfl) (fun X C hq hr hL hN => ?_)
  refine jx_sub (lv' := [(0, .ref l0), (1, .int l1), (2, .int l2)]) [0, 1, 2] rfl ?_
  unfold FX10_isZero at e
  refine j_aload_n C dX10_isZero_0 rfl rfl ?_
  refine j_iload_n C dX10_isZero_1 rfl rfl ?_
  refine j_iload_n C dX10_isZero_2 rfl rfl ?_
  replace e := ob e
  obtain ⟨_, eo12, e⟩ := e
  replace e := ob e
  obtain ⟨h13, eh13, e⟩ := e
  refine j_callV (ci := 10) (RC := RX10) (T := TX10) (N := 38) (As := [.int l1, .int l2]) (b := l0) (na := 2) (st := []) (k1 := 0) (n1 := 0) C hr (sX10_laysPowers eh13) rfl eo12 kX10_316 kim_X10_laysPowers ksel_X10_laysPowers kini_X10 kc_X10_laysPowers (by decide) rfl ⟨(Nat.le_of_ble_eq_true rfl), (Nat.le_of_ble_eq_true rfl)⟩ (Nat.le_of_ble_eq_true rfl) ⟨rfl, rfl, (Nat.le_of_ble_eq_true rfl), (Nat.le_of_ble_eq_true rfl)⟩ dX10_isZero_3 ?_
  rintro _ _ ⟨rfl, rfl⟩
  show jx_J X 0 0 6 [(0, .ref l0), (1, .int l1), (2, .int l2)] [] h13
  refine j_iconst (v := (1 : Int32)) C dX10_isZero_6 (by decide) ?_
  refine j_istore_n (lv1 := [(3, .int (1 : Int32)), (0, .ref l0), (1, .int l1), (2, .int l2)]) C hL dX10_isZero_7 rfl (Nat.le_of_ble_eq_true rfl) rfl ?_
  refine j_iconst (v := (0 : Int32)) C dX10_isZero_8 (by decide) ?_
  refine j_istore (lv1 := [(4, .int (0 : Int32)), (3, .int (1 : Int32)), (0, .ref l0), (1, .int l1), (2, .int l2)]) C hL dX10_isZero_9 (Nat.le_of_ble_eq_true rfl) rfl ?_
  refine jx_sub (lv' := [(0, .ref l0), (3, .int (1 : Int32)), (4, .int (0 : Int32))]) [2, 1, 0] rfl ?_
  refine itr_ind (s0 := ((1 : Int32), (0 : Int32))) (fun s : Int32 × Int32 => jx_J X 0 0 11 [(0, .ref l0), (3, .int s.1), (4, .int s.2)] [] h13) e ?_
  clear e
  intro s kI3 kT3 e0
  obtain ⟨z14, z15⟩ := s
  obtain ⟨u3, e0_3⟩ := e0
  have e : LX10_isZero_11 l0 z14 z15 h13 = some u3 := e0_3
  have b40 : ∀ (y16 : Int32) (y17 : Int32), BX10_isZero_40 l0 y16 y17 h13 = some u3 → jx_J X 0 0 40 [(0, .ref l0), (4, .int y16)] [.int y17] h13 := by
    intro y16 y17 e
    unfold BX10_isZero_40 at e
    refine j_istore_n (lv1 := [(3, .int y17), (0, .ref l0), (4, .int y16)]) C hL dX10_isZero_40 rfl (Nat.le_of_ble_eq_true rfl) rfl ?_
    refine j_iinc (v := (y16 + (1 : Int32))) (lv1 := [(4, .int (y16 + (1 : Int32))), (3, .int y17), (0, .ref l0)]) C hL dX10_isZero_41 rfl rfl (Nat.le_of_ble_eq_true rfl) rfl ?_
    refine j_goto (tgt := 11) C dX10_isZero_44 (by decide) ?_
    obtain rfl := Option.some.inj e
    refine jx_sub (lv' := [(0, .ref l0), (3, .int y17), (4, .int (y16 + (1 : Int32)))]) [2, 1, 0] rfl ?_
    exact kI3 (y17, (y16 + (1 : Int32))) e0_3
  unfold LX10_isZero_11 at e
  refine j_iload C dX10_isZero_11 rfl ?_
  refine j_aload_n C dX10_isZero_13 rfl rfl ?_
  replace e := ob e
  obtain ⟨x18, ex18, e⟩ := e
  refine j_getr (ci := 10) (RC := RX10) (T := TX10) (N := 38) 1 C rfl klX10 (Nat.le_of_ble_eq_true rfl) kX10_7 rfl dX10_isZero_14 ex18 ?_
  refine j_iconst (v := (2 : Int32)) C dX10_isZero_17 (by decide) ?_
  replace e := ob e
  obtain ⟨x19, ex19, e⟩ := e
  refine j_iald C dX10_isZero_18 ex19 ?_
  refine j_icmp_ge (tgt := 47) C dX10_isZero_19 (by decide) (fun c26 => ?_) (fun c26 => ?_)
  · replace e := ifp c26 e
    obtain ⟨t_4, e_4, eu_4⟩ := exL_spec e
    obtain rfl := kT3 t_4 (e0_3.trans (congrArg some eu_4))
    replace e := e_4
    refine j_iload_n C dX10_isZero_47 rfl rfl ?_
    by_cases c20 : ¬ (z14 = 0 ∨ z14 = 1)
    · exact nos (ifn c20 e)
    replace c20 := Classical.not_not.mp c20
    replace e := ifp c20 e
    cases e
    exact j_iret C hq (jx_bool c20) dX10_isZero_48 ⟨Nat.le_of_ble_eq_true rfl, Nat.le_of_ble_eq_true rfl⟩ ⟨rfl, rfl⟩
  · replace e := ifn c26 e
    refine j_iload_n C dX10_isZero_22 rfl rfl ?_
    refine j_if_eq (tgt := 47) C dX10_isZero_23 (by decide) (fun c25 => ?_) (fun c25 => ?_)
    · replace e := ifp c25 e
      obtain ⟨t_5, e_5, eu_5⟩ := exL_spec e
      obtain rfl := kT3 t_5 (e0_3.trans (congrArg some eu_5))
      replace e := e_5
      refine j_iload_n C dX10_isZero_47 rfl rfl ?_
      by_cases c21 : ¬ (z14 = 0 ∨ z14 = 1)
      · exact nos (ifn c21 e)
      replace c21 := Classical.not_not.mp c21
      replace e := ifp c21 e
      cases e
      exact j_iret C hq (jx_bool c21) dX10_isZero_48 ⟨Nat.le_of_ble_eq_true rfl, Nat.le_of_ble_eq_true rfl⟩ ⟨rfl, rfl⟩
    · replace e := ifn c25 e
      refine j_aload_n C dX10_isZero_26 rfl rfl ?_
      refine j_iload C dX10_isZero_27 rfl ?_
      replace e := ob e
      obtain ⟨_, eo22, e⟩ := e
      replace e := ob e
      obtain ⟨x23, ex23, e⟩ := e
      refine j_callV (ci := 10) (RC := RX10) (T := TX10) (N := 38) (As := [.int z15]) (b := l0) (na := 1) (st := []) (k1 := 0) (n1 := 0) C hr (sX10_valueOf ex23) rfl eo22 kX10_319 kim_X10_valueOf ksel_X10_valueOf kini_X10 kc_X10_valueOf (by decide) rfl ⟨(Nat.le_of_ble_eq_true rfl), (Nat.le_of_ble_eq_true rfl)⟩ (Nat.le_of_ble_eq_true rfl) ⟨rfl, rfl, (Nat.le_of_ble_eq_true rfl), (Nat.le_of_ble_eq_true rfl)⟩ dX10_isZero_29 ?_
      rintro _ _ ⟨rfl, rfl⟩
      show jx_J X 0 0 32 [(0, .ref l0), (3, .int z14), (4, .int z15)] [.int x23] h13
      refine j_if_ne (tgt := 39) C dX10_isZero_32 (by decide) (fun c24 => ?_) (fun c24 => ?_)
      · replace e := ifn c24 e
        refine j_iconst (v := (0 : Int32)) C dX10_isZero_39 (by decide) ?_
        refine jx_sub (lv' := [(0, .ref l0), (4, .int z15)]) [0, 2] rfl ?_
        exact b40 z15 (0 : Int32) e
      · replace e := ifp c24 e
        refine j_iconst (v := (1 : Int32)) C dX10_isZero_35 (by decide) ?_
        refine j_goto (tgt := 40) C dX10_isZero_36 (by decide) ?_
        refine jx_sub (lv' := [(0, .ref l0), (4, .int z15)]) [0, 2] rfl ?_
        exact b40 z15 (1 : Int32) e
/-! BorderBasisModel.laysZeros()V -/
noncomputable def BX10_laysZeros_64 (l0 : Nat) (l1 : Int32) (l2 : Int32) (h : jx_H) : Option ((Int32 × jx_H) ⊕ ((Int32 × jx_H) ⊕ (jx_H))) :=
some (.inl ((l2 + (1 : Int32)), h))
noncomputable def LX10_laysZeros_17 (l0 : Nat) (l1 : Int32) (l2 : Int32) (h : jx_H) : Option ((Int32 × jx_H) ⊕ ((Int32 × jx_H) ⊕ (jx_H))) :=
(isO h l0 10).bind fun _ =>
(FX10_p l0 h).bind fun x5 =>
if x5 ≤ l2 then
 exL (some (.inl ((l1 + (1 : Int32)), h)))
else
 (isO h l0 10).bind fun _ =>
 bind2 (FX10_isZero l0 l1 l2 h) fun x7 h8 =>
 if x7 = 0 then
  BX10_laysZeros_64 l0 l1 l2 h8
 else
  (hgr h8 l0 10 35).bind fun x9 =>
  (hgi h8 l0 10 34).bind fun x10 =>
  (has h8 .int x9 x10 l1).bind fun h11 =>
  (hgr h11 l0 10 36).bind fun x12 =>
  (hgi h11 l0 10 34).bind fun x13 =>
  (has h11 .int x12 x13 l2).bind fun h14 =>
  (hgi h14 l0 10 34).bind fun x15 =>
  (hp h14 l0 10 34 (.int (x15 + (1 : Int32)))).bind fun h16 =>
  BX10_laysZeros_64 l0 l1 l2 h16
noncomputable def LX10_laysZeros_7 (l0 : Nat) (l1 : Int32) (h : jx_H) : Option ((Int32 × jx_H) ⊕ (jx_H)) :=
(isO h l0 10).bind fun _ =>
(FX10_p l0 h).bind fun x3 =>
if x3 ≤ l1 then
 exL (some h)
else
 itr (fun s : Int32 × jx_H => LX10_laysZeros_17 l0 l1 s.1 s.2) ((0 : Int32), h)
noncomputable def FX10_laysZeros (l0 : Nat) (h : jx_H) : Option (jx_H) :=
(hp h l0 10 34 (.int (0 : Int32))).bind fun h1 =>
itr (fun s : Int32 × jx_H => LX10_laysZeros_7 l0 s.1 s.2) ((0 : Int32), h1)
def rmX10_laysZeros : Room := { frames := 4, cells := 0, slots := 0, locals := 90 }
set_option maxRecDepth 20000 in
set_option maxHeartbeats 4000000 in
theorem sX10_laysZeros {l0 : Nat} {h : jx_H} {h9 : jx_H} (e : FX10_laysZeros l0 h = some h9) : jx_Ct yX10_laysZeros cX10_laysZeros 3 none rmX10_laysZeros [.ref l0] h (fun r' h' => none = r' ∧ h9 = h') := by
  refine jx_Ct.of (own := RX10) (by decide) rfl (Nat.le_of_ble_eq_true rfl) (fun X C hq hr hL hN => ?_)
  refine jx_sub (lv' := [(0, .ref l0)]) [0] rfl ?_
  unfold FX10_laysZeros at e
  refine j_aload_n C dX10_laysZeros_0 rfl rfl ?_
  refine j_iconst (v := (0 : Int32)) C dX10_laysZeros_1 (by decide) ?_
  replace e := ob e
  obtain ⟨h20, eh20, e⟩ := e
  refine j_put (ci := 10) (RC := RX10) (T := TX10) (N := 38) (ty0 := tyX10) 34 C rfl klX10 tyX10_ok nmX10 (Nat.le_of_ble_eq_true rfl) kX10_322 rfl rfl rfl rfl dX10_laysZeros_2 eh20 ?_
  refine j_iconst (v := (0 : Int32)) C dX10_laysZeros_5 (by decide) ?_
  refine j_istore_n (lv1 := [(1, .int (0 : Int32)), (0, .ref l0)]) C hL dX10_laysZeros_6 rfl (Nat.le_of_ble_eq_true rfl) rfl ?_
  refine jx_sub (lv' := [(0, .ref l0), (1, .int (0 : Int32))]) [1, 0] rfl ?_
  refine itr_ind (s0 := ((0 : Int32), h20)) (fun s : Int32 × jx_H => jx_J X 0 0 7 [(0, .ref l0), (1, .int s.1)] [] s.2) e ?_
  clear e
  intro s kI3 kT3 e0
  obtain ⟨z21, h22⟩ := s
  obtain ⟨u3, e0_3⟩ := e0
  have e : LX10_laysZeros_7 l0 z21 h22 = some u3 := e0_3
  unfold LX10_laysZeros_7 at e
  refine j_iload_n C dX10_laysZeros_7 rfl rfl ?_
  refine j_aload_n C dX10_laysZeros_8 rfl rfl ?_
  replace e := ob e
  obtain ⟨_, eo23, e⟩ := e
  replace e := ob e
  obtain ⟨x24, ex24, e⟩ := e
  refine j_callV (ci := 10) (RC := RX10) (T := TX10) (N := 38) (As := []) (b := l0) (na := 0) (st := [.int z21]) (k1 := 0) (n1 := 0) C hr (sX10_p ex24) rfl eo23 kX10_97 kim_X10_p ksel_X10_p kini_X10 kc_X10_p (by decide) rfl ⟨(Nat.le_of_ble_eq_true rfl), (Nat.le_of_ble_eq_true rfl)⟩ (Nat.le_of_ble_eq_true rfl) ⟨rfl, rfl, (Nat.le_of_ble_eq_true rfl), (Nat.le_of_ble_eq_true rfl)⟩ dX10_laysZeros_9 ?_
  rintro _ _ ⟨rfl, rfl⟩
  show jx_J X 0 0 12 [(0, .ref l0), (1, .int z21)] [.int x24, .int z21] h22
  refine j_icmp_ge (tgt := 76) C dX10_laysZeros_12 (by decide) (fun c44 => ?_) (fun c44 => ?_)
  · replace e := ifp c44 e
    obtain ⟨t_4, e_4, eu_4⟩ := exL_spec e
    obtain rfl := kT3 t_4 (e0_3.trans (congrArg some eu_4))
    replace e := e_4
    cases e
    exact j_vret C hq dX10_laysZeros_76 ⟨Nat.le_of_ble_eq_true rfl, Nat.le_of_ble_eq_true rfl⟩ ⟨rfl, rfl⟩
  · replace e := ifn c44 e
    refine j_iconst (v := (0 : Int32)) C dX10_laysZeros_15 (by decide) ?_
    refine j_istore_n (lv1 := [(2, .int (0 : Int32)), (0, .ref l0), (1, .int z21)]) C hL dX10_laysZeros_16 rfl (Nat.le_of_ble_eq_true rfl) rfl ?_
    refine jx_sub (lv' := [(0, .ref l0), (1, .int z21), (2, .int (0 : Int32))]) [1, 2, 0] rfl ?_
    refine itr_ind (s0 := ((0 : Int32), h22)) (fun s : Int32 × jx_H => jx_J X 0 0 17 [(0, .ref l0), (1, .int z21), (2, .int s.1)] [] s.2) e ?_
    clear e
    intro s kI5 kT5 e0
    obtain ⟨z25, h26⟩ := s
    obtain ⟨u5, e0_5⟩ := e0
    have e : LX10_laysZeros_17 l0 z21 z25 h26 = some u5 := e0_5
    have b64 : ∀ (y27 : Int32) (h28 : jx_H), BX10_laysZeros_64 l0 z21 y27 h28 = some u5 → jx_J X 0 0 64 [(0, .ref l0), (1, .int z21), (2, .int y27)] [] h28 := by
      intro y27 h28 e
      unfold BX10_laysZeros_64 at e
      refine j_iinc (v := (y27 + (1 : Int32))) (lv1 := [(2, .int (y27 + (1 : Int32))), (0, .ref l0), (1, .int z21)]) C hL dX10_laysZeros_64 rfl rfl (Nat.le_of_ble_eq_true rfl) rfl ?_
      refine j_goto (tgt := 17) C dX10_laysZeros_67 (by decide) ?_
      obtain rfl := Option.some.inj e
      refine jx_sub (lv' := [(0, .ref l0), (1, .int z21), (2, .int (y27 + (1 : Int32)))]) [1, 2, 0] rfl ?_
      exact kI5 ((y27 + (1 : Int32)), h28) e0_5
    unfold LX10_laysZeros_17 at e
    refine j_iload_n C dX10_laysZeros_17 rfl rfl ?_
    refine j_aload_n C dX10_laysZeros_18 rfl rfl ?_
    replace e := ob e
    obtain ⟨_, eo29, e⟩ := e
    replace e := ob e
    obtain ⟨x30, ex30, e⟩ := e
    refine j_callV (ci := 10) (RC := RX10) (T := TX10) (N := 38) (As := []) (b := l0) (na := 0) (st := [.int z25]) (k1 := 0) (n1 := 0) C hr (sX10_p ex30) rfl eo29 kX10_97 kim_X10_p ksel_X10_p kini_X10 kc_X10_p (by decide) rfl ⟨(Nat.le_of_ble_eq_true rfl), (Nat.le_of_ble_eq_true rfl)⟩ (Nat.le_of_ble_eq_true rfl) ⟨rfl, rfl, (Nat.le_of_ble_eq_true rfl), (Nat.le_of_ble_eq_true rfl)⟩ dX10_laysZeros_19 ?_
    rintro _ _ ⟨rfl, rfl⟩
    show jx_J X 0 0 22 [(0, .ref l0), (1, .int z21), (2, .int z25)] [.int x30, .int z25] h26
    refine j_icmp_ge (tgt := 70) C dX10_laysZeros_22 (by decide) (fun c43 => ?_) (fun c43 => ?_)
    · replace e := ifp c43 e
      obtain ⟨t_6, e_6, eu_6⟩ := exL_spec e
      obtain rfl := kT5 t_6 (e0_5.trans (congrArg some eu_6))
      replace e := e_6
      refine j_iinc (v := (z21 + (1 : Int32))) (lv1 := [(1, .int (z21 + (1 : Int32))), (0, .ref l0), (2, .int z25)]) C hL dX10_laysZeros_70 rfl rfl (Nat.le_of_ble_eq_true rfl) rfl ?_
      refine j_goto (tgt := 7) C dX10_laysZeros_73 (by decide) ?_
      obtain rfl := Option.some.inj e
      refine jx_sub (lv' := [(0, .ref l0), (1, .int (z21 + (1 : Int32)))]) [1, 0] rfl ?_
      exact kI3 ((z21 + (1 : Int32)), h26) e0_3
    · replace e := ifn c43 e
      refine j_aload_n C dX10_laysZeros_25 rfl rfl ?_
      refine j_iload_n C dX10_laysZeros_26 rfl rfl ?_
      refine j_iload_n C dX10_laysZeros_27 rfl rfl ?_
      replace e := ob e
      obtain ⟨_, eo31, e⟩ := e
      replace e := ob2 e
      obtain ⟨x32, h33, ex32, e⟩ := e
      refine j_callV (ci := 10) (RC := RX10) (T := TX10) (N := 38) (As := [.int z21, .int z25]) (b := l0) (na := 2) (st := []) (k1 := 0) (n1 := 0) C hr (sX10_isZero ex32) rfl eo31 kX10_325 kim_X10_isZero ksel_X10_isZero kini_X10 kc_X10_isZero (by decide) rfl ⟨(Nat.le_of_ble_eq_true rfl), (Nat.le_of_ble_eq_true rfl)⟩ (Nat.le_of_ble_eq_true rfl) ⟨rfl, rfl, (Nat.le_of_ble_eq_true rfl), (Nat.le_of_ble_eq_true rfl)⟩ dX10_laysZeros_28 ?_
      rintro _ _ ⟨rfl, rfl⟩
      show jx_J X 0 0 31 [(0, .ref l0), (1, .int z21), (2, .int z25)] [.int x32] h33
      refine j_if_eq (tgt := 64) C dX10_laysZeros_31 (by decide) (fun c42 => ?_) (fun c42 => ?_)
      · replace e := ifp c42 e
        exact b64 z25 h33 e
      · replace e := ifn c42 e
        refine j_aload_n C dX10_laysZeros_34 rfl rfl ?_
        replace e := ob e
        obtain ⟨x34, ex34, e⟩ := e
        refine j_getr (ci := 10) (RC := RX10) (T := TX10) (N := 38) 35 C rfl klX10 (Nat.le_of_ble_eq_true rfl) kX10_79 rfl dX10_laysZeros_35 ex34 ?_
        refine j_aload_n C dX10_laysZeros_38 rfl rfl ?_
        replace e := ob e
        obtain ⟨x35, ex35, e⟩ := e
        refine j_geti (ci := 10) (RC := RX10) (T := TX10) (N := 38) 34 C rfl klX10 (Nat.le_of_ble_eq_true rfl) kX10_322 rfl dX10_laysZeros_39 ex35 ?_
        refine j_iload_n C dX10_laysZeros_42 rfl rfl ?_
        replace e := ob e
        obtain ⟨h36, eh36, e⟩ := e
        refine j_iast C dX10_laysZeros_43 eh36 ?_
        refine j_aload_n C dX10_laysZeros_44 rfl rfl ?_
        replace e := ob e
        obtain ⟨x37, ex37, e⟩ := e
        refine j_getr (ci := 10) (RC := RX10) (T := TX10) (N := 38) 36 C rfl klX10 (Nat.le_of_ble_eq_true rfl) kX10_82 rfl dX10_laysZeros_45 ex37 ?_
        refine j_aload_n C dX10_laysZeros_48 rfl rfl ?_
        replace e := ob e
        obtain ⟨x38, ex38, e⟩ := e
        refine j_geti (ci := 10) (RC := RX10) (T := TX10) (N := 38) 34 C rfl klX10 (Nat.le_of_ble_eq_true rfl) kX10_322 rfl dX10_laysZeros_49 ex38 ?_
        refine j_iload_n C dX10_laysZeros_52 rfl rfl ?_
        replace e := ob e
        obtain ⟨h39, eh39, e⟩ := e
        refine j_iast C dX10_laysZeros_53 eh39 ?_
        refine j_aload_n C dX10_laysZeros_54 rfl rfl ?_
        refine j_dup C dX10_laysZeros_55 rfl ?_
        replace e := ob e
        obtain ⟨x40, ex40, e⟩ := e
        refine j_geti (ci := 10) (RC := RX10) (T := TX10) (N := 38) 34 C rfl klX10 (Nat.le_of_ble_eq_true rfl) kX10_322 rfl dX10_laysZeros_56 ex40 ?_
        refine j_iconst (v := (1 : Int32)) C dX10_laysZeros_59 (by decide) ?_
        refine j_iadd C dX10_laysZeros_60 ?_
        replace e := ob e
        obtain ⟨h41, eh41, e⟩ := e
        refine j_put (ci := 10) (RC := RX10) (T := TX10) (N := 38) (ty0 := tyX10) 34 C rfl klX10 tyX10_ok nmX10 (Nat.le_of_ble_eq_true rfl) kX10_322 rfl rfl rfl rfl dX10_laysZeros_61 eh41 ?_
        exact b64 z25 h41 e
/-! BorderBasisModel.allTimes()I -/
noncomputable def LX10_allTimes_8 (l0 : Nat) (l1 : Int32) (l2 : Int32) (h : jx_H) : Option ((Int32 × Int32 × jx_H) ⊕ (Int32 × jx_H)) :=
(hgi h l0 10 34).bind fun x3 =>
if x3 ≤ l2 then
 exL (some (l1, h))
else
 (hgr h l0 10 35).bind fun x4 =>
 (hal h .int x4 l2).bind fun x5 =>
 (hgr h l0 10 36).bind fun x6 =>
 (hal h .int x6 l2).bind fun x7 =>
 (isO h l0 10).bind fun _ =>
 bind2 (FX10_times l0 x5 x7 h) fun x9 h10 =>
 some (.inl ((l1 + x9), (l2 + (1 : Int32)), h10))
noncomputable def FX10_allTimes (l0 : Nat) (h : jx_H) : Option (Int32 × jx_H) :=
(isO h l0 10).bind fun _ =>
(FX10_laysZeros l0 h).bind fun h2 =>
itr (fun s : Int32 × Int32 × jx_H => LX10_allTimes_8 l0 s.1 s.2.1 s.2.2) ((0 : Int32), (0 : Int32), h2)
def rmX10_allTimes : Room := { frames := 5, cells := 0, slots := 0, locals := 113 }
set_option maxRecDepth 20000 in
set_option maxHeartbeats 4000000 in
theorem sX10_allTimes {l0 : Nat} {h : jx_H} {r : Int32} {h9 : jx_H} (e : FX10_allTimes l0 h = some (r, h9)) : jx_Ct yX10_allTimes cX10_allTimes 3 (some .int) rmX10_allTimes [.ref l0] h (fun r' h' => some (.int r) = r' ∧ h9 = h') := by
  refine jx_Ct.of (own := RX10) (by decide) rfl (Nat.le_of_ble_eq_true rfl) (fun X C hq hr hL hN => ?_)
  refine jx_sub (lv' := [(0, .ref l0)]) [0] rfl ?_
  unfold FX10_allTimes at e
  refine j_aload_n C dX10_allTimes_0 rfl rfl ?_
  replace e := ob e
  obtain ⟨_, eo12, e⟩ := e
  replace e := ob e
  obtain ⟨h13, eh13, e⟩ := e
  refine j_callV (ci := 10) (RC := RX10) (T := TX10) (N := 38) (As := []) (b := l0) (na := 0) (st := []) (k1 := 0) (n1 := 0) C hr (sX10_laysZeros eh13) rfl eo12 kX10_328 kim_X10_laysZeros ksel_X10_laysZeros kini_X10 kc_X10_laysZeros (by decide) rfl ⟨(Nat.le_of_ble_eq_true rfl), (Nat.le_of_ble_eq_true rfl)⟩ (Nat.le_of_ble_eq_true rfl) ⟨rfl, rfl, (Nat.le_of_ble_eq_true rfl), (Nat.le_of_ble_eq_true rfl)⟩ dX10_allTimes_1 ?_
  rintro _ _ ⟨rfl, rfl⟩
  show jx_J X 0 0 4 [(0, .ref l0)] [] h13
  refine j_iconst (v := (0 : Int32)) C dX10_allTimes_4 (by decide) ?_
  refine j_istore_n (lv1 := [(1, .int (0 : Int32)), (0, .ref l0)]) C hL dX10_allTimes_5 rfl (Nat.le_of_ble_eq_true rfl) rfl ?_
  refine j_iconst (v := (0 : Int32)) C dX10_allTimes_6 (by decide) ?_
  refine j_istore_n (lv1 := [(2, .int (0 : Int32)), (1, .int (0 : Int32)), (0, .ref l0)]) C hL dX10_allTimes_7 rfl (Nat.le_of_ble_eq_true rfl) rfl ?_
  refine jx_sub (lv' := [(0, .ref l0), (1, .int (0 : Int32)), (2, .int (0 : Int32))]) [2, 1, 0] rfl ?_
  refine itr_ind (s0 := ((0 : Int32), (0 : Int32), h13)) (fun s : Int32 × Int32 × jx_H => jx_J X 0 0 8 [(0, .ref l0), (1, .int s.1), (2, .int s.2.1)] [] s.2.2) e ?_
  clear e
  intro s kI2 kT2 e0
  obtain ⟨z14, z15, h16⟩ := s
  obtain ⟨u2, e0_2⟩ := e0
  have e : LX10_allTimes_8 l0 z14 z15 h16 = some u2 := e0_2
  unfold LX10_allTimes_8 at e
  refine j_iload_n C dX10_allTimes_8 rfl rfl ?_
  refine j_aload_n C dX10_allTimes_9 rfl rfl ?_
  replace e := ob e
  obtain ⟨x17, ex17, e⟩ := e
  refine j_geti (ci := 10) (RC := RX10) (T := TX10) (N := 38) 34 C rfl klX10 (Nat.le_of_ble_eq_true rfl) kX10_322 rfl dX10_allTimes_10 ex17 ?_
  refine j_icmp_ge (tgt := 41) C dX10_allTimes_13 (by decide) (fun c25 => ?_) (fun c25 => ?_)
  · replace e := ifp c25 e
    obtain ⟨t_3, e_3, eu_3⟩ := exL_spec e
    obtain rfl := kT2 t_3 (e0_2.trans (congrArg some eu_3))
    replace e := e_3
    refine j_iload_n C dX10_allTimes_41 rfl rfl ?_
    cases e
    exact j_iret C hq rfl dX10_allTimes_42 ⟨Nat.le_of_ble_eq_true rfl, Nat.le_of_ble_eq_true rfl⟩ ⟨rfl, rfl⟩
  · replace e := ifn c25 e
    refine j_iload_n C dX10_allTimes_16 rfl rfl ?_
    refine j_aload_n C dX10_allTimes_17 rfl rfl ?_
    refine j_aload_n C dX10_allTimes_18 rfl rfl ?_
    replace e := ob e
    obtain ⟨x18, ex18, e⟩ := e
    refine j_getr (ci := 10) (RC := RX10) (T := TX10) (N := 38) 35 C rfl klX10 (Nat.le_of_ble_eq_true rfl) kX10_79 rfl dX10_allTimes_19 ex18 ?_
    refine j_iload_n C dX10_allTimes_22 rfl rfl ?_
    replace e := ob e
    obtain ⟨x19, ex19, e⟩ := e
    refine j_iald C dX10_allTimes_23 ex19 ?_
    refine j_aload_n C dX10_allTimes_24 rfl rfl ?_
    replace e := ob e
    obtain ⟨x20, ex20, e⟩ := e
    refine j_getr (ci := 10) (RC := RX10) (T := TX10) (N := 38) 36 C rfl klX10 (Nat.le_of_ble_eq_true rfl) kX10_82 rfl dX10_allTimes_25 ex20 ?_
    refine j_iload_n C dX10_allTimes_28 rfl rfl ?_
    replace e := ob e
    obtain ⟨x21, ex21, e⟩ := e
    refine j_iald C dX10_allTimes_29 ex21 ?_
    replace e := ob e
    obtain ⟨_, eo22, e⟩ := e
    replace e := ob2 e
    obtain ⟨x23, h24, ex23, e⟩ := e
    refine j_callV (ci := 10) (RC := RX10) (T := TX10) (N := 38) (As := [.int x19, .int x21]) (b := l0) (na := 2) (st := [.int z14]) (k1 := 0) (n1 := 0) C hr (sX10_times ex23) rfl eo22 kX10_331 kim_X10_times ksel_X10_times kini_X10 kc_X10_times (by decide) rfl ⟨(Nat.le_of_ble_eq_true rfl), (Nat.le_of_ble_eq_true rfl)⟩ (Nat.le_of_ble_eq_true rfl) ⟨rfl, rfl, (Nat.le_of_ble_eq_true rfl), (Nat.le_of_ble_eq_true rfl)⟩ dX10_allTimes_30 ?_
    rintro _ _ ⟨rfl, rfl⟩
    show jx_J X 0 0 33 [(0, .ref l0), (1, .int z14), (2, .int z15)] [.int x23, .int z14] h24
    refine j_iadd C dX10_allTimes_33 ?_
    refine j_istore_n (lv1 := [(1, .int (z14 + x23)), (0, .ref l0), (2, .int z15)]) C hL dX10_allTimes_34 rfl (Nat.le_of_ble_eq_true rfl) rfl ?_
    refine j_iinc (v := (z15 + (1 : Int32))) (lv1 := [(2, .int (z15 + (1 : Int32))), (1, .int (z14 + x23)), (0, .ref l0)]) C hL dX10_allTimes_35 rfl rfl (Nat.le_of_ble_eq_true rfl) rfl ?_
    refine j_goto (tgt := 8) C dX10_allTimes_38 (by decide) ?_
    obtain rfl := Option.some.inj e
    refine jx_sub (lv' := [(0, .ref l0), (1, .int (z14 + x23)), (2, .int (z15 + (1 : Int32)))]) [2, 1, 0] rfl ?_
    exact kI2 ((z14 + x23), (z15 + (1 : Int32)), h24) e0_2
/-! BorderBasisModel.filled()I -/
noncomputable def BX10_filled_43 (l0 : Nat) (l2 : Int32) (l3 : Int32) (s0 : Int32) (s1 : Int32) (h : jx_H) : Option ((Int32 × Int32) ⊕ ((Int32 × Int32) ⊕ (Int32))) :=
some (.inl ((s0 + s1), (l3 + (1 : Int32))))
noncomputable def LX10_filled_16 (l0 : Nat) (l2 : Int32) (l1 : Int32) (l3 : Int32) (h : jx_H) : Option ((Int32 × Int32) ⊕ ((Int32 × Int32) ⊕ (Int32))) :=
(isO h l0 10).bind fun _ =>
(FX10_n l0 h).bind fun x4 =>
if x4 ≤ l3 then
 exL (some (.inl (l1, (l2 + (1 : Int32)))))
else
 (hgr h l0 10 1).bind fun x5 =>
 (FX10_ruleAt l2 l3 h).bind fun x6 =>
 (hal h .int x5 x6).bind fun x7 =>
 if x7 ≤ 0 then
  BX10_filled_43 l0 l2 l3 l1 (0 : Int32) h
 else
  BX10_filled_43 l0 l2 l3 l1 (1 : Int32) h
noncomputable def LX10_filled_4 (l0 : Nat) (l1 : Int32) (l2 : Int32) (h : jx_H) : Option ((Int32 × Int32) ⊕ (Int32)) :=
(hgr h l0 10 1).bind fun x1 =>
(hal h .int x1 (2 : Int32)).bind fun x2 =>
if x2 ≤ l2 then
 exL (some l1)
else
 itr (fun s : Int32 × Int32 => LX10_filled_16 l0 l2 s.1 s.2 h) (l1, (0 : Int32))
noncomputable def FX10_filled (l0 : Nat) (h : jx_H) : Option (Int32) :=
itr (fun s : Int32 × Int32 => LX10_filled_4 l0 s.1 s.2 h) ((0 : Int32), (0 : Int32))
def rmX10_filled : Room := { frames := 1, cells := 0, slots := 0, locals := 21 }
set_option maxRecDepth 20000 in
set_option maxHeartbeats 4000000 in
theorem sX10_filled {l0 : Nat} {h : jx_H} {r : Int32}  (e : FX10_filled l0 h = some r) : jx_Ct yX10_filled cX10_filled 4 (some .int) rmX10_filled [.ref l0] h (fun r' h' => some (.int r) = r' ∧ h = h') := by
  refine jx_Ct.of (own := RX10) (by decide) rfl (Nat.le_of_ble_eq_true rfl) (fun X C hq hr hL hN => ?_)
  refine jx_sub (lv' := [(0, .ref l0)]) [0] rfl ?_
  unfold FX10_filled at e
  refine j_iconst (v := (0 : Int32)) C dX10_filled_0 (by decide) ?_
  refine j_istore_n (lv1 := [(1, .int (0 : Int32)), (0, .ref l0)]) C hL dX10_filled_1 rfl (Nat.le_of_ble_eq_true rfl) rfl ?_
  refine j_iconst (v := (0 : Int32)) C dX10_filled_2 (by decide) ?_
  refine j_istore_n (lv1 := [(2, .int (0 : Int32)), (1, .int (0 : Int32)), (0, .ref l0)]) C hL dX10_filled_3 rfl (Nat.le_of_ble_eq_true rfl) rfl ?_
  refine jx_sub (lv' := [(0, .ref l0), (1, .int (0 : Int32)), (2, .int (0 : Int32))]) [2, 1, 0] rfl ?_
  refine itr_ind (s0 := ((0 : Int32), (0 : Int32))) (fun s : Int32 × Int32 => jx_J X 0 0 4 [(0, .ref l0), (1, .int s.1), (2, .int s.2)] [] h) e ?_
  clear e
  intro s kI3 kT3 e0
  obtain ⟨z11, z12⟩ := s
  obtain ⟨u3, e0_3⟩ := e0
  have e : LX10_filled_4 l0 z11 z12 h = some u3 := e0_3
  unfold LX10_filled_4 at e
  refine j_iload_n C dX10_filled_4 rfl rfl ?_
  refine j_aload_n C dX10_filled_5 rfl rfl ?_
  replace e := ob e
  obtain ⟨x13, ex13, e⟩ := e
  refine j_getr (ci := 10) (RC := RX10) (T := TX10) (N := 38) 1 C rfl klX10 (Nat.le_of_ble_eq_true rfl) kX10_7 rfl dX10_filled_6 ex13 ?_
  refine j_iconst (v := (2 : Int32)) C dX10_filled_9 (by decide) ?_
  replace e := ob e
  obtain ⟨x14, ex14, e⟩ := e
  refine j_iald C dX10_filled_10 ex14 ?_
  refine j_icmp_ge (tgt := 57) C dX10_filled_11 (by decide) (fun c27 => ?_) (fun c27 => ?_)
  · replace e := ifp c27 e
    obtain ⟨t_4, e_4, eu_4⟩ := exL_spec e
    obtain rfl := kT3 t_4 (e0_3.trans (congrArg some eu_4))
    replace e := e_4
    refine j_iload_n C dX10_filled_57 rfl rfl ?_
    cases e
    exact j_iret C hq rfl dX10_filled_58 ⟨Nat.le_of_ble_eq_true rfl, Nat.le_of_ble_eq_true rfl⟩ ⟨rfl, rfl⟩
  · replace e := ifn c27 e
    refine j_iconst (v := (0 : Int32)) C dX10_filled_14 (by decide) ?_
    refine j_istore_n (lv1 := [(3, .int (0 : Int32)), (0, .ref l0), (1, .int z11), (2, .int z12)]) C hL dX10_filled_15 rfl (Nat.le_of_ble_eq_true rfl) rfl ?_
    refine jx_sub (lv' := [(0, .ref l0), (1, .int z11), (2, .int z12), (3, .int (0 : Int32))]) [1, 2, 3, 0] rfl ?_
    refine itr_ind (s0 := (z11, (0 : Int32))) (fun s : Int32 × Int32 => jx_J X 0 0 16 [(0, .ref l0), (1, .int s.1), (2, .int z12), (3, .int s.2)] [] h) e ?_
    clear e
    intro s kI5 kT5 e0
    obtain ⟨z15, z16⟩ := s
    obtain ⟨u5, e0_5⟩ := e0
    have e : LX10_filled_16 l0 z12 z15 z16 h = some u5 := e0_5
    have b43 : ∀ (y17 : Int32) (y18 : Int32) (y19 : Int32), BX10_filled_43 l0 z12 y17 y18 y19 h = some u5 → jx_J X 0 0 43 [(0, .ref l0), (2, .int z12), (3, .int y17)] [.int y19, .int y18] h := by
      intro y17 y18 y19 e
      unfold BX10_filled_43 at e
      refine j_iadd C dX10_filled_43 ?_
      refine j_istore_n (lv1 := [(1, .int (y18 + y19)), (0, .ref l0), (2, .int z12), (3, .int y17)]) C hL dX10_filled_44 rfl (Nat.le_of_ble_eq_true rfl) rfl ?_
      refine j_iinc (v := (y17 + (1 : Int32))) (lv1 := [(3, .int (y17 + (1 : Int32))), (1, .int (y18 + y19)), (0, .ref l0), (2, .int z12)]) C hL dX10_filled_45 rfl rfl (Nat.le_of_ble_eq_true rfl) rfl ?_
      refine j_goto (tgt := 16) C dX10_filled_48 (by decide) ?_
      obtain rfl := Option.some.inj e
      refine jx_sub (lv' := [(0, .ref l0), (1, .int (y18 + y19)), (2, .int z12), (3, .int (y17 + (1 : Int32)))]) [2, 1, 3, 0] rfl ?_
      exact kI5 ((y18 + y19), (y17 + (1 : Int32))) e0_5
    unfold LX10_filled_16 at e
    refine j_iload_n C dX10_filled_16 rfl rfl ?_
    refine j_aload_n C dX10_filled_17 rfl rfl ?_
    replace e := ob e
    obtain ⟨_, eo20, e⟩ := e
    replace e := ob e
    obtain ⟨x21, ex21, e⟩ := e
    refine j_callV (ci := 10) (RC := RX10) (T := TX10) (N := 38) (As := []) (b := l0) (na := 0) (st := [.int z16]) (k1 := 0) (n1 := 0) C hr (sX10_n ex21) rfl eo20 kX10_105 kim_X10_n ksel_X10_n kini_X10 kc_X10_n (by decide) rfl ⟨(Nat.le_of_ble_eq_true rfl), (Nat.le_of_ble_eq_true rfl)⟩ (Nat.le_of_ble_eq_true rfl) ⟨rfl, rfl, (Nat.le_of_ble_eq_true rfl), (Nat.le_of_ble_eq_true rfl)⟩ dX10_filled_18 ?_
    rintro _ _ ⟨rfl, rfl⟩
    show jx_J X 0 0 21 [(0, .ref l0), (1, .int z15), (2, .int z12), (3, .int z16)] [.int x21, .int z16] h
    refine j_icmp_ge (tgt := 51) C dX10_filled_21 (by decide) (fun c26 => ?_) (fun c26 => ?_)
    · replace e := ifp c26 e
      obtain ⟨t_6, e_6, eu_6⟩ := exL_spec e
      obtain rfl := kT5 t_6 (e0_5.trans (congrArg some eu_6))
      replace e := e_6
      refine j_iinc (v := (z12 + (1 : Int32))) (lv1 := [(2, .int (z12 + (1 : Int32))), (0, .ref l0), (1, .int z15), (3, .int z16)]) C hL dX10_filled_51 rfl rfl (Nat.le_of_ble_eq_true rfl) rfl ?_
      refine j_goto (tgt := 4) C dX10_filled_54 (by decide) ?_
      obtain rfl := Option.some.inj e
      refine jx_sub (lv' := [(0, .ref l0), (1, .int z15), (2, .int (z12 + (1 : Int32)))]) [1, 2, 0] rfl ?_
      exact kI3 (z15, (z12 + (1 : Int32))) e0_3
    · replace e := ifn c26 e
      refine j_iload_n C dX10_filled_24 rfl rfl ?_
      refine j_aload_n C dX10_filled_25 rfl rfl ?_
      replace e := ob e
      obtain ⟨x22, ex22, e⟩ := e
      refine j_getr (ci := 10) (RC := RX10) (T := TX10) (N := 38) 1 C rfl klX10 (Nat.le_of_ble_eq_true rfl) kX10_7 rfl dX10_filled_26 ex22 ?_
      refine j_iload_n C dX10_filled_29 rfl rfl ?_
      refine j_iload_n C dX10_filled_30 rfl rfl ?_
      replace e := ob e
      obtain ⟨x23, ex23, e⟩ := e
      refine j_callS (As := [.int z12, .int z16]) (na := 2) (st := [.ref x22, .int z15]) (k1 := 0) (n1 := 0) C hr (sX10_ruleAt ex23) kX10_130 kst_X10_ruleAt kini_X10 kc_X10_ruleAt (by decide) rfl ⟨(Nat.le_of_ble_eq_true rfl), (Nat.le_of_ble_eq_true rfl)⟩ (Nat.le_of_ble_eq_true rfl) ⟨rfl, rfl, (Nat.le_of_ble_eq_true rfl), (Nat.le_of_ble_eq_true rfl)⟩ dX10_filled_31 ?_
      rintro _ _ ⟨rfl, rfl⟩
      show jx_J X 0 0 34 [(0, .ref l0), (1, .int z15), (2, .int z12), (3, .int z16)] [.int x23, .ref x22, .int z15] h
      replace e := ob e
      obtain ⟨x24, ex24, e⟩ := e
      refine j_iald C dX10_filled_34 ex24 ?_
      refine j_if_le (tgt := 42) C dX10_filled_35 (by decide) (fun c25 => ?_) (fun c25 => ?_)
      · replace e := ifp c25 e
        refine j_iconst (v := (0 : Int32)) C dX10_filled_42 (by decide) ?_
        refine jx_sub (lv' := [(0, .ref l0), (2, .int z12), (3, .int z16)]) [0, 2, 3] rfl ?_
        exact b43 z16 z15 (0 : Int32) e
      · replace e := ifn c25 e
        refine j_iconst (v := (1 : Int32)) C dX10_filled_38 (by decide) ?_
        refine j_goto (tgt := 43) C dX10_filled_39 (by decide) ?_
        refine jx_sub (lv' := [(0, .ref l0), (2, .int z12), (3, .int z16)]) [0, 2, 3] rfl ?_
        exact b43 z16 z15 (1 : Int32) e
/-! BorderBasisModel.movable(Z)I -/
noncomputable def BX10_movable_53 (l0 : Nat) (l1 : Int32) (l3 : Int32) (l4 : Int32) (s0 : Int32) (s1 : Int32) (h : jx_H) : Option ((Int32 × Int32) ⊕ ((Int32 × Int32) ⊕ (Int32))) :=
some (.inl ((s0 + s1), (l4 + (1 : Int32))))
noncomputable def BX10_movable_52 (l0 : Nat) (l1 : Int32) (l3 : Int32) (l4 : Int32) (s0 : Int32) (h : jx_H) : Option ((Int32 × Int32) ⊕ ((Int32 × Int32) ⊕ (Int32))) :=
BX10_movable_53 l0 l1 l3 l4 s0 (0 : Int32) h
noncomputable def BX10_movable_48 (l0 : Nat) (l1 : Int32) (l3 : Int32) (l4 : Int32) (s0 : Int32) (h : jx_H) : Option ((Int32 × Int32) ⊕ ((Int32 × Int32) ⊕ (Int32))) :=
BX10_movable_53 l0 l1 l3 l4 s0 (1 : Int32) h
noncomputable def LX10_movable_13 (l0 : Nat) (l1 : Int32) (l3 : Int32) (l2 : Int32) (l4 : Int32) (h : jx_H) : Option ((Int32 × Int32) ⊕ ((Int32 × Int32) ⊕ (Int32))) :=
if (11 : Int32) < l4 then
 exL (some (.inl (l2, (l3 + (1 : Int32)))))
else
 if l1 = 0 then
  (isO h l0 10).bind fun _ =>
  (FX10_canLeave l0 l3 l4 h).bind fun x2 =>
  if x2 = 0 then
   BX10_movable_52 l0 l1 l3 l4 l2 h
  else
   BX10_movable_48 l0 l1 l3 l4 l2 h
 else
  (isO h l0 10).bind fun _ =>
  (FX10_canJoin l0 l3 l4 h).bind fun x5 =>
  if x5 = 0 then
   BX10_movable_52 l0 l1 l3 l4 l2 h
  else
   BX10_movable_48 l0 l1 l3 l4 l2 h
noncomputable def LX10_movable_4 (l0 : Nat) (l1 : Int32) (l2 : Int32) (l3 : Int32) (h : jx_H) : Option ((Int32 × Int32) ⊕ (Int32)) :=
if (11 : Int32) < l3 then
 exL (some l2)
else
 itr (fun s : Int32 × Int32 => LX10_movable_13 l0 l1 l3 s.1 s.2 h) (l2, (0 : Int32))
noncomputable def FX10_movable (l0 : Nat) (l1 : Int32) (h : jx_H) : Option (Int32) :=
itr (fun s : Int32 × Int32 => LX10_movable_4 l0 l1 s.1 s.2 h) ((0 : Int32), (0 : Int32))
def rmX10_movable : Room := { frames := 5, cells := 0, slots := 0, locals := 109 }
set_option maxRecDepth 20000 in
set_option maxHeartbeats 4000000 in
theorem sX10_movable {l0 : Nat} {l1 : Int32} {h : jx_H} {r : Int32}  (e : FX10_movable l0 l1 h = some r) : jx_Ct yX10_movable cX10_movable 5 (some .int) rmX10_movable [.ref l0, .int l1] h (fun r' h' => some (.int r) = r' ∧ h = h') := by
  refine jx_Ct.of (own := RX10) (by decide) rfl (Nat.le_of_ble_eq_true rfl) (fun X C hq hr hL hN => ?_)
  refine jx_sub (lv' := [(0, .ref l0), (1, .int l1)]) [0, 1] rfl ?_
  unfold FX10_movable at e
  refine j_iconst (v := (0 : Int32)) C dX10_movable_0 (by decide) ?_
  refine j_istore_n (lv1 := [(2, .int (0 : Int32)), (0, .ref l0), (1, .int l1)]) C hL dX10_movable_1 rfl (Nat.le_of_ble_eq_true rfl) rfl ?_
  refine j_iconst (v := (0 : Int32)) C dX10_movable_2 (by decide) ?_
  refine j_istore_n (lv1 := [(3, .int (0 : Int32)), (2, .int (0 : Int32)), (0, .ref l0), (1, .int l1)]) C hL dX10_movable_3 rfl (Nat.le_of_ble_eq_true rfl) rfl ?_
  refine jx_sub (lv' := [(0, .ref l0), (1, .int l1), (2, .int (0 : Int32)), (3, .int (0 : Int32))]) [2, 3, 1, 0] rfl ?_
  refine itr_ind (s0 := ((0 : Int32), (0 : Int32))) (fun s : Int32 × Int32 => jx_J X 0 0 4 [(0, .ref l0), (1, .int l1), (2, .int s.1), (3, .int s.2)] [] h) e ?_
  clear e
  intro s kI3 kT3 e0
  obtain ⟨z10, z11⟩ := s
  obtain ⟨u3, e0_3⟩ := e0
  have e : LX10_movable_4 l0 l1 z10 z11 h = some u3 := e0_3
  unfold LX10_movable_4 at e
  refine j_iload_n C dX10_movable_4 rfl rfl ?_
  refine j_bipush (v := (11 : Int32)) C dX10_movable_5 (by decide) ?_
  refine j_icmp_gt (tgt := 67) C dX10_movable_7 (by decide) (fun c29 => ?_) (fun c29 => ?_)
  · replace e := ifp c29 e
    obtain ⟨t_4, e_4, eu_4⟩ := exL_spec e
    obtain rfl := kT3 t_4 (e0_3.trans (congrArg some eu_4))
    replace e := e_4
    refine j_iload_n C dX10_movable_67 rfl rfl ?_
    cases e
    exact j_iret C hq rfl dX10_movable_68 ⟨Nat.le_of_ble_eq_true rfl, Nat.le_of_ble_eq_true rfl⟩ ⟨rfl, rfl⟩
  · replace e := ifn c29 e
    refine j_iconst (v := (0 : Int32)) C dX10_movable_10 (by decide) ?_
    refine j_istore (lv1 := [(4, .int (0 : Int32)), (0, .ref l0), (1, .int l1), (2, .int z10), (3, .int z11)]) C hL dX10_movable_11 (Nat.le_of_ble_eq_true rfl) rfl ?_
    refine jx_sub (lv' := [(0, .ref l0), (1, .int l1), (2, .int z10), (3, .int z11), (4, .int (0 : Int32))]) [1, 2, 3, 4, 0] rfl ?_
    refine itr_ind (s0 := (z10, (0 : Int32))) (fun s : Int32 × Int32 => jx_J X 0 0 13 [(0, .ref l0), (1, .int l1), (2, .int s.1), (3, .int z11), (4, .int s.2)] [] h) e ?_
    clear e
    intro s kI5 kT5 e0
    obtain ⟨z12, z13⟩ := s
    obtain ⟨u5, e0_5⟩ := e0
    have e : LX10_movable_13 l0 l1 z11 z12 z13 h = some u5 := e0_5
    have b53 : ∀ (y14 : Int32) (y15 : Int32) (y16 : Int32), BX10_movable_53 l0 l1 z11 y14 y15 y16 h = some u5 → jx_J X 0 0 53 [(0, .ref l0), (1, .int l1), (3, .int z11), (4, .int y14)] [.int y16, .int y15] h := by
      intro y14 y15 y16 e
      unfold BX10_movable_53 at e
      refine j_iadd C dX10_movable_53 ?_
      refine j_istore_n (lv1 := [(2, .int (y15 + y16)), (0, .ref l0), (1, .int l1), (3, .int z11), (4, .int y14)]) C hL dX10_movable_54 rfl (Nat.le_of_ble_eq_true rfl) rfl ?_
      refine j_iinc (v := (y14 + (1 : Int32))) (lv1 := [(4, .int (y14 + (1 : Int32))), (2, .int (y15 + y16)), (0, .ref l0), (1, .int l1), (3, .int z11)]) C hL dX10_movable_55 rfl rfl (Nat.le_of_ble_eq_true rfl) rfl ?_
      refine j_goto (tgt := 13) C dX10_movable_58 (by decide) ?_
      obtain rfl := Option.some.inj e
      refine jx_sub (lv' := [(0, .ref l0), (1, .int l1), (2, .int (y15 + y16)), (3, .int z11), (4, .int (y14 + (1 : Int32)))]) [2, 3, 1, 4, 0] rfl ?_
      exact kI5 ((y15 + y16), (y14 + (1 : Int32))) e0_5
    have b52 : ∀ (y17 : Int32) (y18 : Int32), BX10_movable_52 l0 l1 z11 y17 y18 h = some u5 → jx_J X 0 0 52 [(0, .ref l0), (1, .int l1), (3, .int z11), (4, .int y17)] [.int y18] h := by
      intro y17 y18 e
      unfold BX10_movable_52 at e
      refine j_iconst (v := (0 : Int32)) C dX10_movable_52 (by decide) ?_
      exact b53 y17 y18 (0 : Int32) e
    have b48 : ∀ (y19 : Int32) (y20 : Int32), BX10_movable_48 l0 l1 z11 y19 y20 h = some u5 → jx_J X 0 0 48 [(0, .ref l0), (1, .int l1), (3, .int z11), (4, .int y19)] [.int y20] h := by
      intro y19 y20 e
      unfold BX10_movable_48 at e
      refine j_iconst (v := (1 : Int32)) C dX10_movable_48 (by decide) ?_
      refine j_goto (tgt := 53) C dX10_movable_49 (by decide) ?_
      exact b53 y19 y20 (1 : Int32) e
    unfold LX10_movable_13 at e
    refine j_iload C dX10_movable_13 rfl ?_
    refine j_bipush (v := (11 : Int32)) C dX10_movable_15 (by decide) ?_
    refine j_icmp_gt (tgt := 61) C dX10_movable_17 (by decide) (fun c28 => ?_) (fun c28 => ?_)
    · replace e := ifp c28 e
      obtain ⟨t_6, e_6, eu_6⟩ := exL_spec e
      obtain rfl := kT5 t_6 (e0_5.trans (congrArg some eu_6))
      replace e := e_6
      refine j_iinc (v := (z11 + (1 : Int32))) (lv1 := [(3, .int (z11 + (1 : Int32))), (0, .ref l0), (1, .int l1), (2, .int z12), (4, .int z13)]) C hL dX10_movable_61 rfl rfl (Nat.le_of_ble_eq_true rfl) rfl ?_
      refine j_goto (tgt := 4) C dX10_movable_64 (by decide) ?_
      obtain rfl := Option.some.inj e
      refine jx_sub (lv' := [(0, .ref l0), (1, .int l1), (2, .int z12), (3, .int (z11 + (1 : Int32)))]) [1, 2, 3, 0] rfl ?_
      exact kI3 (z12, (z11 + (1 : Int32))) e0_3
    · replace e := ifn c28 e
      refine j_iload_n C dX10_movable_20 rfl rfl ?_
      refine j_iload_n C dX10_movable_21 rfl rfl ?_
      refine j_if_eq (tgt := 38) C dX10_movable_22 (by decide) (fun c27 => ?_) (fun c27 => ?_)
      · replace e := ifp c27 e
        refine j_aload_n C dX10_movable_38 rfl rfl ?_
        refine j_iload_n C dX10_movable_39 rfl rfl ?_
        refine j_iload C dX10_movable_40 rfl ?_
        replace e := ob e
        obtain ⟨_, eo21, e⟩ := e
        replace e := ob e
        obtain ⟨x22, ex22, e⟩ := e
        refine j_callV (ci := 10) (RC := RX10) (T := TX10) (N := 38) (As := [.int z11, .int z13]) (b := l0) (na := 2) (st := [.int z12]) (k1 := 0) (n1 := 0) C hr (sX10_canLeave ex22) rfl eo21 kX10_334 kim_X10_canLeave ksel_X10_canLeave kini_X10 kc_X10_canLeave (by decide) rfl ⟨(Nat.le_of_ble_eq_true rfl), (Nat.le_of_ble_eq_true rfl)⟩ (Nat.le_of_ble_eq_true rfl) ⟨rfl, rfl, (Nat.le_of_ble_eq_true rfl), (Nat.le_of_ble_eq_true rfl)⟩ dX10_movable_42 ?_
        rintro _ _ ⟨rfl, rfl⟩
        show jx_J X 0 0 45 [(0, .ref l0), (1, .int l1), (2, .int z12), (3, .int z11), (4, .int z13)] [.int x22, .int z12] h
        refine j_if_eq (tgt := 52) C dX10_movable_45 (by decide) (fun c23 => ?_) (fun c23 => ?_)
        · replace e := ifp c23 e
          refine jx_sub (lv' := [(0, .ref l0), (1, .int l1), (3, .int z11), (4, .int z13)]) [0, 1, 3, 4] rfl ?_
          exact b52 z13 z12 e
        · replace e := ifn c23 e
          refine jx_sub (lv' := [(0, .ref l0), (1, .int l1), (3, .int z11), (4, .int z13)]) [0, 1, 3, 4] rfl ?_
          exact b48 z13 z12 e
      · replace e := ifn c27 e
        refine j_aload_n C dX10_movable_25 rfl rfl ?_
        refine j_iload_n C dX10_movable_26 rfl rfl ?_
        refine j_iload C dX10_movable_27 rfl ?_
        replace e := ob e
        obtain ⟨_, eo24, e⟩ := e
        replace e := ob e
        obtain ⟨x25, ex25, e⟩ := e
        refine j_callV (ci := 10) (RC := RX10) (T := TX10) (N := 38) (As := [.int z11, .int z13]) (b := l0) (na := 2) (st := [.int z12]) (k1 := 0) (n1 := 0) C hr (sX10_canJoin ex25) rfl eo24 kX10_199 kim_X10_canJoin ksel_X10_canJoin kini_X10 kc_X10_canJoin (by decide) rfl ⟨(Nat.le_of_ble_eq_true rfl), (Nat.le_of_ble_eq_true rfl)⟩ (Nat.le_of_ble_eq_true rfl) ⟨rfl, rfl, (Nat.le_of_ble_eq_true rfl), (Nat.le_of_ble_eq_true rfl)⟩ dX10_movable_29 ?_
        rintro _ _ ⟨rfl, rfl⟩
        show jx_J X 0 0 32 [(0, .ref l0), (1, .int l1), (2, .int z12), (3, .int z11), (4, .int z13)] [.int x25, .int z12] h
        refine j_if_eq (tgt := 52) C dX10_movable_32 (by decide) (fun c26 => ?_) (fun c26 => ?_)
        · replace e := ifp c26 e
          refine jx_sub (lv' := [(0, .ref l0), (1, .int l1), (3, .int z11), (4, .int z13)]) [0, 1, 3, 4] rfl ?_
          exact b52 z13 z12 e
        · replace e := ifn c26 e
          refine j_goto (tgt := 48) C dX10_movable_35 (by decide) ?_
          refine jx_sub (lv' := [(0, .ref l0), (1, .int l1), (3, .int z11), (4, .int z13)]) [0, 1, 3, 4] rfl ?_
          exact b48 z13 z12 e
/-! BorderBasisModel.count(I)I -/
noncomputable def BX10_count_111 (l0 : Nat) (l1 : Int32) (h : jx_H) : Option (Int32 × jx_H) :=
(hgr h l0 10 1).bind fun x1 =>
(hal h .int x1 l1).bind fun x2 =>
some (x2, h)
noncomputable def BX10_count_31 (l0 : Nat) (l1 : Int32) (s0 : Int32) (h : jx_H) : Option (Int32 × jx_H) :=
if s0 = -1 then
 some ((0 : Int32), h)
else
if s0 = 0 then
 BX10_count_111 l0 l1 h
else
if s0 = 1 then
 BX10_count_111 l0 l1 h
else
if s0 = 2 then
 BX10_count_111 l0 l1 h
else
if s0 = 3 then
 (isO h l0 10).bind fun _ =>
 (FX10_filled l0 h).bind fun x9 =>
 some (x9, h)
else
if s0 = 4 then
 (hgr h l0 10 1).bind fun x11 =>
 (hal h .int x11 (3 : Int32)).bind fun x12 =>
 some (x12, h)
else
if s0 = 5 then
 (hgi h l0 10 5).bind fun x14 =>
 some (x14, h)
else
if s0 = 6 then
 (isO h l0 10).bind fun _ =>
 (FX10_movable l0 (1 : Int32) h).bind fun x17 =>
 some (x17, h)
else
if s0 = 7 then
 (isO h l0 10).bind fun _ =>
 (FX10_movable l0 (0 : Int32) h).bind fun x20 =>
 some (x20, h)
else
BX10_count_111 l0 l1 h
noncomputable def BX10_count_16 (l0 : Nat) (l1 : Int32) (s0 : Nat) (s1 : Int32) (h : jx_H) : Option (Int32 × jx_H) :=
(hp h s0 10 0 (.int s1)).bind fun h21 =>
(hgi h21 l0 10 0).bind fun x22 =>
if x22 ≤ 0 then
 BX10_count_31 l0 l1 l1 h21
else
 BX10_count_31 l0 l1 (-1 : Int32) h21
noncomputable def FX10_count (l0 : Nat) (l1 : Int32) (h : jx_H) : Option (Int32 × jx_H) :=
(FX10_in l1 (0 : Int32) (7 : Int32) h).bind fun x24 =>
if x24 = 0 then
 BX10_count_16 l0 l1 l0 (1 : Int32) h
else
 BX10_count_16 l0 l1 l0 (0 : Int32) h
def rmX10_count : Room := { frames := 6, cells := 0, slots := 0, locals := 133 }
set_option maxRecDepth 20000 in
set_option maxHeartbeats 4000000 in
theorem sX10_count {l0 : Nat} {l1 : Int32} {h : jx_H} {r : Int32} {h9 : jx_H} (e : FX10_count l0 l1 h = some (r, h9)) : jx_Ct yX10_count cX10_count 2 (some .int) rmX10_count [.ref l0, .int l1] h (fun r' h' => some (.int r) = r' ∧ h9 = h') := by
  refine jx_Ct.of (own := RX10) (by decide) rfl (Nat.le_of_ble_eq_true rfl) (fun X C hq hr hL hN => ?_)
  refine jx_sub (lv' := [(0, .ref l0), (1, .int l1)]) [0, 1] rfl ?_
  have b111 : ∀ (y26 : Nat) (y27 : Int32) (h28 : jx_H), BX10_count_111 y26 y27 h28 = some (r, h9) → jx_J X 0 0 111 [(0, .ref y26), (1, .int y27)] [] h28 := by
    intro y26 y27 h28 e
    unfold BX10_count_111 at e
    refine j_aload_n C dX10_count_111 rfl rfl ?_
    replace e := ob e
    obtain ⟨x29, ex29, e⟩ := e
    refine j_getr (ci := 10) (RC := RX10) (T := TX10) (N := 38) 1 C rfl klX10 (Nat.le_of_ble_eq_true rfl) kX10_7 rfl dX10_count_112 ex29 ?_
    refine j_iload_n C dX10_count_115 rfl rfl ?_
    replace e := ob e
    obtain ⟨x30, ex30, e⟩ := e
    refine j_iald C dX10_count_116 ex30 ?_
    cases e
    exact j_iret C hq rfl dX10_count_117 ⟨Nat.le_of_ble_eq_true rfl, Nat.le_of_ble_eq_true rfl⟩ ⟨rfl, rfl⟩
  have b31 : ∀ (y31 : Nat) (y32 : Int32) (y33 : Int32) (h34 : jx_H), BX10_count_31 y31 y32 y33 h34 = some (r, h9) → jx_J X 0 0 31 [(0, .ref y31), (1, .int y32)] [.int y33] h34 := by
    intro y31 y32 y33 h34 e
    unfold BX10_count_31 at e
    by_cases c35 : y33 = -1
    · replace e := ifp c35 e
      refine j_tsw (tgt := 80) C (-1 : Int32) dX10_count_31 c35 (by decide) (by decide) rfl (by decide) ?_
      refine j_iconst (v := (0 : Int32)) C dX10_count_80 (by decide) ?_
      cases e
      exact j_iret C hq rfl dX10_count_81 ⟨Nat.le_of_ble_eq_true rfl, Nat.le_of_ble_eq_true rfl⟩ ⟨rfl, rfl⟩
    replace e := ifn c35 e
    by_cases c36 : y33 = 0
    · replace e := ifp c36 e
      refine j_tsw (tgt := 111) C (0 : Int32) dX10_count_31 c36 (by decide) (by decide) rfl (by decide) ?_
      exact b111 y31 y32 h34 e
    replace e := ifn c36 e
    by_cases c37 : y33 = 1
    · replace e := ifp c37 e
      refine j_tsw (tgt := 111) C (1 : Int32) dX10_count_31 c37 (by decide) (by decide) rfl (by decide) ?_
      exact b111 y31 y32 h34 e
    replace e := ifn c37 e
    by_cases c38 : y33 = 2
    · replace e := ifp c38 e
      refine j_tsw (tgt := 111) C (2 : Int32) dX10_count_31 c38 (by decide) (by decide) rfl (by decide) ?_
      exact b111 y31 y32 h34 e
    replace e := ifn c38 e
    by_cases c39 : y33 = 3
    · replace e := ifp c39 e
      refine j_tsw (tgt := 82) C (3 : Int32) dX10_count_31 c39 (by decide) (by decide) rfl (by decide) ?_
      refine j_aload_n C dX10_count_82 rfl rfl ?_
      replace e := ob e
      obtain ⟨_, eo40, e⟩ := e
      replace e := ob e
      obtain ⟨x41, ex41, e⟩ := e
      refine j_callV (ci := 10) (RC := RX10) (T := TX10) (N := 38) (As := []) (b := y31) (na := 0) (st := []) (k1 := 0) (n1 := 0) C hr (sX10_filled ex41) rfl eo40 kX10_337 kim_X10_filled ksel_X10_filled kini_X10 kc_X10_filled (by decide) rfl ⟨(Nat.le_of_ble_eq_true rfl), (Nat.le_of_ble_eq_true rfl)⟩ (Nat.le_of_ble_eq_true rfl) ⟨rfl, rfl, (Nat.le_of_ble_eq_true rfl), (Nat.le_of_ble_eq_true rfl)⟩ dX10_count_83 ?_
      rintro _ _ ⟨rfl, rfl⟩
      show jx_J X 0 0 86 [(0, .ref y31), (1, .int y32)] [.int x41] h34
      cases e
      exact j_iret C hq rfl dX10_count_86 ⟨Nat.le_of_ble_eq_true rfl, Nat.le_of_ble_eq_true rfl⟩ ⟨rfl, rfl⟩
    replace e := ifn c39 e
    by_cases c42 : y33 = 4
    · replace e := ifp c42 e
      refine j_tsw (tgt := 87) C (4 : Int32) dX10_count_31 c42 (by decide) (by decide) rfl (by decide) ?_
      refine j_aload_n C dX10_count_87 rfl rfl ?_
      replace e := ob e
      obtain ⟨x43, ex43, e⟩ := e
      refine j_getr (ci := 10) (RC := RX10) (T := TX10) (N := 38) 1 C rfl klX10 (Nat.le_of_ble_eq_true rfl) kX10_7 rfl dX10_count_88 ex43 ?_
      refine j_iconst (v := (3 : Int32)) C dX10_count_91 (by decide) ?_
      replace e := ob e
      obtain ⟨x44, ex44, e⟩ := e
      refine j_iald C dX10_count_92 ex44 ?_
      cases e
      exact j_iret C hq rfl dX10_count_93 ⟨Nat.le_of_ble_eq_true rfl, Nat.le_of_ble_eq_true rfl⟩ ⟨rfl, rfl⟩
    replace e := ifn c42 e
    by_cases c45 : y33 = 5
    · replace e := ifp c45 e
      refine j_tsw (tgt := 94) C (5 : Int32) dX10_count_31 c45 (by decide) (by decide) rfl (by decide) ?_
      refine j_aload_n C dX10_count_94 rfl rfl ?_
      replace e := ob e
      obtain ⟨x46, ex46, e⟩ := e
      refine j_geti (ci := 10) (RC := RX10) (T := TX10) (N := 38) 5 C rfl klX10 (Nat.le_of_ble_eq_true rfl) kX10_251 rfl dX10_count_95 ex46 ?_
      cases e
      exact j_iret C hq rfl dX10_count_98 ⟨Nat.le_of_ble_eq_true rfl, Nat.le_of_ble_eq_true rfl⟩ ⟨rfl, rfl⟩
    replace e := ifn c45 e
    by_cases c47 : y33 = 6
    · replace e := ifp c47 e
      refine j_tsw (tgt := 99) C (6 : Int32) dX10_count_31 c47 (by decide) (by decide) rfl (by decide) ?_
      refine j_aload_n C dX10_count_99 rfl rfl ?_
      refine j_iconst (v := (1 : Int32)) C dX10_count_100 (by decide) ?_
      replace e := ob e
      obtain ⟨_, eo48, e⟩ := e
      replace e := ob e
      obtain ⟨x49, ex49, e⟩ := e
      refine j_callV (ci := 10) (RC := RX10) (T := TX10) (N := 38) (As := [.int (1 : Int32)]) (b := y31) (na := 1) (st := []) (k1 := 0) (n1 := 0) C hr (sX10_movable ex49) rfl eo48 kX10_340 kim_X10_movable ksel_X10_movable kini_X10 kc_X10_movable (by decide) rfl ⟨(Nat.le_of_ble_eq_true rfl), (Nat.le_of_ble_eq_true rfl)⟩ (Nat.le_of_ble_eq_true rfl) ⟨rfl, rfl, (Nat.le_of_ble_eq_true rfl), (Nat.le_of_ble_eq_true rfl)⟩ dX10_count_101 ?_
      rintro _ _ ⟨rfl, rfl⟩
      show jx_J X 0 0 104 [(0, .ref y31), (1, .int y32)] [.int x49] h34
      cases e
      exact j_iret C hq rfl dX10_count_104 ⟨Nat.le_of_ble_eq_true rfl, Nat.le_of_ble_eq_true rfl⟩ ⟨rfl, rfl⟩
    replace e := ifn c47 e
    by_cases c50 : y33 = 7
    · replace e := ifp c50 e
      refine j_tsw (tgt := 105) C (7 : Int32) dX10_count_31 c50 (by decide) (by decide) rfl (by decide) ?_
      refine j_aload_n C dX10_count_105 rfl rfl ?_
      refine j_iconst (v := (0 : Int32)) C dX10_count_106 (by decide) ?_
      replace e := ob e
      obtain ⟨_, eo51, e⟩ := e
      replace e := ob e
      obtain ⟨x52, ex52, e⟩ := e
      refine j_callV (ci := 10) (RC := RX10) (T := TX10) (N := 38) (As := [.int (0 : Int32)]) (b := y31) (na := 1) (st := []) (k1 := 0) (n1 := 0) C hr (sX10_movable ex52) rfl eo51 kX10_340 kim_X10_movable ksel_X10_movable kini_X10 kc_X10_movable (by decide) rfl ⟨(Nat.le_of_ble_eq_true rfl), (Nat.le_of_ble_eq_true rfl)⟩ (Nat.le_of_ble_eq_true rfl) ⟨rfl, rfl, (Nat.le_of_ble_eq_true rfl), (Nat.le_of_ble_eq_true rfl)⟩ dX10_count_107 ?_
      rintro _ _ ⟨rfl, rfl⟩
      show jx_J X 0 0 110 [(0, .ref y31), (1, .int y32)] [.int x52] h34
      cases e
      exact j_iret C hq rfl dX10_count_110 ⟨Nat.le_of_ble_eq_true rfl, Nat.le_of_ble_eq_true rfl⟩ ⟨rfl, rfl⟩
    replace e := ifn c50 e
    refine j_tswOut (tgt := 111) C dX10_count_31 (by have gc35 := jx_sw (j := -1) (by decide) c35; have gc36 := jx_sw (j := 0) (by decide) c36; have gc37 := jx_sw (j := 1) (by decide) c37; have gc38 := jx_sw (j := 2) (by decide) c38; have gc39 := jx_sw (j := 3) (by decide) c39; have gc42 := jx_sw (j := 4) (by decide) c42; have gc45 := jx_sw (j := 5) (by decide) c45; have gc47 := jx_sw (j := 6) (by decide) c47; have gc50 := jx_sw (j := 7) (by decide) c50; omega) (by decide) ?_
    exact b111 y31 y32 h34 e
  have b16 : ∀ (y53 : Nat) (y54 : Int32) (y55 : Nat) (y56 : Int32) (h57 : jx_H), BX10_count_16 y53 y54 y55 y56 h57 = some (r, h9) → jx_J X 0 0 16 [(0, .ref y53), (1, .int y54)] [.int y56, .ref y55] h57 := by
    intro y53 y54 y55 y56 h57 e
    unfold BX10_count_16 at e
    replace e := ob e
    obtain ⟨h58, eh58, e⟩ := e
    refine j_put (ci := 10) (RC := RX10) (T := TX10) (N := 38) (ty0 := tyX10) 0 C rfl klX10 tyX10_ok nmX10 (Nat.le_of_ble_eq_true rfl) kX10_91 rfl rfl rfl rfl dX10_count_16 eh58 ?_
    refine j_aload_n C dX10_count_19 rfl rfl ?_
    replace e := ob e
    obtain ⟨x59, ex59, e⟩ := e
    refine j_geti (ci := 10) (RC := RX10) (T := TX10) (N := 38) 0 C rfl klX10 (Nat.le_of_ble_eq_true rfl) kX10_91 rfl dX10_count_20 ex59 ?_
    refine j_if_le (tgt := 30) C dX10_count_23 (by decide) (fun c60 => ?_) (fun c60 => ?_)
    · replace e := ifp c60 e
      refine j_iload_n C dX10_count_30 rfl rfl ?_
      exact b31 y53 y54 y54 h58 e
    · replace e := ifn c60 e
      refine j_iconst (v := (-1 : Int32)) C dX10_count_26 (by decide) ?_
      refine j_goto (tgt := 31) C dX10_count_27 (by decide) ?_
      exact b31 y53 y54 (-1 : Int32) h58 e
  unfold FX10_count at e
  refine j_aload_n C dX10_count_0 rfl rfl ?_
  refine j_iload_n C dX10_count_1 rfl rfl ?_
  refine j_iconst (v := (0 : Int32)) C dX10_count_2 (by decide) ?_
  refine j_bipush (v := (7 : Int32)) C dX10_count_3 (by decide) ?_
  replace e := ob e
  obtain ⟨x61, ex61, e⟩ := e
  refine j_callS (As := [.int l1, .int (0 : Int32), .int (7 : Int32)]) (na := 3) (st := [.ref l0]) (k1 := 0) (n1 := 0) C hr (sX10_in ex61) kX10_101 kst_X10_in kini_X10 kc_X10_in (by decide) rfl ⟨(Nat.le_of_ble_eq_true rfl), (Nat.le_of_ble_eq_true rfl)⟩ (Nat.le_of_ble_eq_true rfl) ⟨rfl, rfl, (Nat.le_of_ble_eq_true rfl), (Nat.le_of_ble_eq_true rfl)⟩ dX10_count_5 ?_
  rintro _ _ ⟨rfl, rfl⟩
  show jx_J X 0 0 8 [(0, .ref l0), (1, .int l1)] [.int x61, .ref l0] h
  refine j_if_eq (tgt := 15) C dX10_count_8 (by decide) (fun c62 => ?_) (fun c62 => ?_)
  · replace e := ifp c62 e
    refine j_iconst (v := (1 : Int32)) C dX10_count_15 (by decide) ?_
    exact b16 l0 l1 l0 (1 : Int32) h e
  · replace e := ifn c62 e
    refine j_iconst (v := (0 : Int32)) C dX10_count_11 (by decide) ?_
    refine j_goto (tgt := 16) C dX10_count_12 (by decide) ?_
    exact b16 l0 l1 l0 (0 : Int32) h e
/-! BorderBasisModel.changes(I)I -/
noncomputable def BX10_changes_15 (l0 : Nat) (l1 : Int32) (s0 : Nat) (s1 : Int32) (h : jx_H) : Option (Int32 × jx_H) :=
(hp h s0 10 0 (.int s1)).bind fun h1 =>
(hgi h1 l0 10 0).bind fun x2 =>
if x2 ≤ 0 then
 (hgr h1 l0 10 8).bind fun x3 =>
 (hal h1 .int x3 l1).bind fun x4 =>
 some (x4, h1)
else
 some ((0 : Int32), h1)
noncomputable def FX10_changes (l0 : Nat) (l1 : Int32) (h : jx_H) : Option (Int32 × jx_H) :=
(FX10_in l1 (0 : Int32) (5 : Int32) h).bind fun x6 =>
if x6 = 0 then
 BX10_changes_15 l0 l1 l0 (1 : Int32) h
else
 BX10_changes_15 l0 l1 l0 (0 : Int32) h
def rmX10_changes : Room := { frames := 1, cells := 0, slots := 0, locals := 22 }
set_option maxRecDepth 20000 in
set_option maxHeartbeats 4000000 in
theorem sX10_changes {l0 : Nat} {l1 : Int32} {h : jx_H} {r : Int32} {h9 : jx_H} (e : FX10_changes l0 l1 h = some (r, h9)) : jx_Ct yX10_changes cX10_changes 2 (some .int) rmX10_changes [.ref l0, .int l1] h (fun r' h' => some (.int r) = r' ∧ h9 = h') := by
  refine jx_Ct.of (own := RX10) (by decide) rfl (Nat.le_of_ble_eq_true rfl) (fun X C hq hr hL hN => ?_)
  refine jx_sub (lv' := [(0, .ref l0), (1, .int l1)]) [0, 1] rfl ?_
  have b15 : ∀ (y8 : Nat) (y9 : Int32) (y10 : Nat) (y11 : Int32) (h12 : jx_H), BX10_changes_15 y8 y9 y10 y11 h12 = some (r, h9) → jx_J X 0 0 15 [(0, .ref y8), (1, .int y9)] [.int y11, .ref y10] h12 := by
    intro y8 y9 y10 y11 h12 e
    unfold BX10_changes_15 at e
    replace e := ob e
    obtain ⟨h13, eh13, e⟩ := e
    refine j_put (ci := 10) (RC := RX10) (T := TX10) (N := 38) (ty0 := tyX10) 0 C rfl klX10 tyX10_ok nmX10 (Nat.le_of_ble_eq_true rfl) kX10_91 rfl rfl rfl rfl dX10_changes_15 eh13 ?_
    refine j_aload_n C dX10_changes_18 rfl rfl ?_
    replace e := ob e
    obtain ⟨x14, ex14, e⟩ := e
    refine j_geti (ci := 10) (RC := RX10) (T := TX10) (N := 38) 0 C rfl klX10 (Nat.le_of_ble_eq_true rfl) kX10_91 rfl dX10_changes_19 ex14 ?_
    refine j_if_le (tgt := 29) C dX10_changes_22 (by decide) (fun c17 => ?_) (fun c17 => ?_)
    · replace e := ifp c17 e
      refine j_aload_n C dX10_changes_29 rfl rfl ?_
      replace e := ob e
      obtain ⟨x15, ex15, e⟩ := e
      refine j_getr (ci := 10) (RC := RX10) (T := TX10) (N := 38) 8 C rfl klX10 (Nat.le_of_ble_eq_true rfl) kX10_29 rfl dX10_changes_30 ex15 ?_
      refine j_iload_n C dX10_changes_33 rfl rfl ?_
      replace e := ob e
      obtain ⟨x16, ex16, e⟩ := e
      refine j_iald C dX10_changes_34 ex16 ?_
      cases e
      exact j_iret C hq rfl dX10_changes_35 ⟨Nat.le_of_ble_eq_true rfl, Nat.le_of_ble_eq_true rfl⟩ ⟨rfl, rfl⟩
    · replace e := ifn c17 e
      refine j_iconst (v := (0 : Int32)) C dX10_changes_25 (by decide) ?_
      refine j_goto (tgt := 35) C dX10_changes_26 (by decide) ?_
      cases e
      exact j_iret C hq rfl dX10_changes_35 ⟨Nat.le_of_ble_eq_true rfl, Nat.le_of_ble_eq_true rfl⟩ ⟨rfl, rfl⟩
  unfold FX10_changes at e
  refine j_aload_n C dX10_changes_0 rfl rfl ?_
  refine j_iload_n C dX10_changes_1 rfl rfl ?_
  refine j_iconst (v := (0 : Int32)) C dX10_changes_2 (by decide) ?_
  refine j_iconst (v := (5 : Int32)) C dX10_changes_3 (by decide) ?_
  replace e := ob e
  obtain ⟨x18, ex18, e⟩ := e
  refine j_callS (As := [.int l1, .int (0 : Int32), .int (5 : Int32)]) (na := 3) (st := [.ref l0]) (k1 := 0) (n1 := 0) C hr (sX10_in ex18) kX10_101 kst_X10_in kini_X10 kc_X10_in (by decide) rfl ⟨(Nat.le_of_ble_eq_true rfl), (Nat.le_of_ble_eq_true rfl)⟩ (Nat.le_of_ble_eq_true rfl) ⟨rfl, rfl, (Nat.le_of_ble_eq_true rfl), (Nat.le_of_ble_eq_true rfl)⟩ dX10_changes_4 ?_
  rintro _ _ ⟨rfl, rfl⟩
  show jx_J X 0 0 7 [(0, .ref l0), (1, .int l1)] [.int x18, .ref l0] h
  refine j_if_eq (tgt := 14) C dX10_changes_7 (by decide) (fun c19 => ?_) (fun c19 => ?_)
  · replace e := ifp c19 e
    refine j_iconst (v := (1 : Int32)) C dX10_changes_14 (by decide) ?_
    exact b15 l0 l1 l0 (1 : Int32) h e
  · replace e := ifn c19 e
    refine j_iconst (v := (0 : Int32)) C dX10_changes_10 (by decide) ?_
    refine j_goto (tgt := 15) C dX10_changes_11 (by decide) ?_
    exact b15 l0 l1 l0 (0 : Int32) h e
/-! BorderBasisModel.isOnSide(II)Z -/
noncomputable def FX10_isOnSide (l0 : Int32) (l1 : Int32) (h : jx_H) : Option (Int32) :=
(FX10_in l0 (0 : Int32) (11 : Int32) h).bind fun x1 =>
if x1 = 0 then
 some (0 : Int32)
else
 (FX10_in l1 (0 : Int32) (11 : Int32) h).bind fun x2 =>
 if x2 = 0 then
  some (0 : Int32)
 else
  some (1 : Int32)
def rmX10_isOnSide : Room := { frames := 1, cells := 0, slots := 0, locals := 22 }
set_option maxRecDepth 20000 in
set_option maxHeartbeats 4000000 in
theorem sX10_isOnSide {l0 : Int32} {l1 : Int32} {h : jx_H} {r : Int32}  (e : FX10_isOnSide l0 l1 h = some r) : jx_Ct yX10_isOnSide cX10_isOnSide 2 (some .boolean) rmX10_isOnSide [.int l0, .int l1] h (fun r' h' => some (.int r) = r' ∧ h = h') := by
  refine jx_Ct.of (own := RX10) (by decide) rfl (Nat.le_of_ble_eq_true rfl) (fun X C hq hr hL hN => ?_)
  refine jx_sub (lv' := [(0, .int l0), (1, .int l1)]) [0, 1] rfl ?_
  unfold FX10_isOnSide at e
  refine j_iload_n C dX10_isOnSide_0 rfl rfl ?_
  refine j_iconst (v := (0 : Int32)) C dX10_isOnSide_1 (by decide) ?_
  refine j_bipush (v := (11 : Int32)) C dX10_isOnSide_2 (by decide) ?_
  replace e := ob e
  obtain ⟨x5, ex5, e⟩ := e
  refine j_callS (As := [.int l0, .int (0 : Int32), .int (11 : Int32)]) (na := 3) (st := []) (k1 := 0) (n1 := 0) C hr (sX10_in ex5) kX10_101 kst_X10_in kini_X10 kc_X10_in (by decide) rfl ⟨(Nat.le_of_ble_eq_true rfl), (Nat.le_of_ble_eq_true rfl)⟩ (Nat.le_of_ble_eq_true rfl) ⟨rfl, rfl, (Nat.le_of_ble_eq_true rfl), (Nat.le_of_ble_eq_true rfl)⟩ dX10_isOnSide_4 ?_
  rintro _ _ ⟨rfl, rfl⟩
  show jx_J X 0 0 7 [(0, .int l0), (1, .int l1)] [.int x5] h
  refine j_if_eq (tgt := 24) C dX10_isOnSide_7 (by decide) (fun c8 => ?_) (fun c8 => ?_)
  · replace e := ifp c8 e
    refine j_iconst (v := (0 : Int32)) C dX10_isOnSide_24 (by decide) ?_
    cases e
    exact j_iret C hq rfl dX10_isOnSide_25 ⟨Nat.le_of_ble_eq_true rfl, Nat.le_of_ble_eq_true rfl⟩ ⟨rfl, rfl⟩
  · replace e := ifn c8 e
    refine j_iload_n C dX10_isOnSide_10 rfl rfl ?_
    refine j_iconst (v := (0 : Int32)) C dX10_isOnSide_11 (by decide) ?_
    refine j_bipush (v := (11 : Int32)) C dX10_isOnSide_12 (by decide) ?_
    replace e := ob e
    obtain ⟨x6, ex6, e⟩ := e
    refine j_callS (As := [.int l1, .int (0 : Int32), .int (11 : Int32)]) (na := 3) (st := []) (k1 := 0) (n1 := 0) C hr (sX10_in ex6) kX10_101 kst_X10_in kini_X10 kc_X10_in (by decide) rfl ⟨(Nat.le_of_ble_eq_true rfl), (Nat.le_of_ble_eq_true rfl)⟩ (Nat.le_of_ble_eq_true rfl) ⟨rfl, rfl, (Nat.le_of_ble_eq_true rfl), (Nat.le_of_ble_eq_true rfl)⟩ dX10_isOnSide_14 ?_
    rintro _ _ ⟨rfl, rfl⟩
    show jx_J X 0 0 17 [(0, .int l0), (1, .int l1)] [.int x6] h
    refine j_if_eq (tgt := 24) C dX10_isOnSide_17 (by decide) (fun c7 => ?_) (fun c7 => ?_)
    · replace e := ifp c7 e
      refine j_iconst (v := (0 : Int32)) C dX10_isOnSide_24 (by decide) ?_
      cases e
      exact j_iret C hq rfl dX10_isOnSide_25 ⟨Nat.le_of_ble_eq_true rfl, Nat.le_of_ble_eq_true rfl⟩ ⟨rfl, rfl⟩
    · replace e := ifn c7 e
      refine j_iconst (v := (1 : Int32)) C dX10_isOnSide_20 (by decide) ?_
      refine j_goto (tgt := 25) C dX10_isOnSide_21 (by decide) ?_
      cases e
      exact j_iret C hq rfl dX10_isOnSide_25 ⟨Nat.le_of_ble_eq_true rfl, Nat.le_of_ble_eq_true rfl⟩ ⟨rfl, rfl⟩
/-! BorderBasisModel.refusal(II)I -/
noncomputable def BX10_refusal_14 (l0 : Nat) (l1 : Int32) (l2 : Int32) (s0 : Nat) (s1 : Int32) (h : jx_H) : Option (Int32 × jx_H) :=
(hp h s0 10 0 (.int s1)).bind fun h1 =>
(hgi h1 l0 10 0).bind fun x2 =>
if x2 ≤ 0 then
 (isO h1 l0 10).bind fun _ =>
 (FX10_hasIt l0 l1 l2 h1).bind fun x4 =>
 if x4 = 0 then
  (isO h1 l0 10).bind fun _ =>
  (FX10_hasDivisors l0 l1 l2 h1).bind fun x6 =>
  if x6 = 0 then
   some ((2 : Int32), h1)
  else
   (isO h1 l0 10).bind fun _ =>
   (FX10_n l0 h1).bind fun x8 =>
   if x8 = (12 : Int32) then
    some ((3 : Int32), h1)
   else
    some ((0 : Int32), h1)
 else
  some ((1 : Int32), h1)
else
 some ((0 : Int32), h1)
noncomputable def FX10_refusal (l0 : Nat) (l1 : Int32) (l2 : Int32) (h : jx_H) : Option (Int32 × jx_H) :=
(FX10_isOnSide l1 l2 h).bind fun x13 =>
if x13 = 0 then
 BX10_refusal_14 l0 l1 l2 l0 (1 : Int32) h
else
 BX10_refusal_14 l0 l1 l2 l0 (0 : Int32) h
def rmX10_refusal : Room := { frames := 4, cells := 0, slots := 0, locals := 87 }
set_option maxRecDepth 20000 in
set_option maxHeartbeats 4000000 in
theorem sX10_refusal {l0 : Nat} {l1 : Int32} {l2 : Int32} {h : jx_H} {r : Int32} {h9 : jx_H} (e : FX10_refusal l0 l1 l2 h = some (r, h9)) : jx_Ct yX10_refusal cX10_refusal 3 (some .int) rmX10_refusal [.ref l0, .int l1, .int l2] h (fun r' h' => some (.int r) = r' ∧ h9 = h') := by
  refine jx_Ct.of (own := RX10) (by decide) rfl (Nat.le_of_ble_eq_true rfl) (fun X C hq hr hL hN => ?_)
  refine jx_sub (lv' := [(0, .ref l0), (1, .int l1), (2, .int l2)]) [0, 1, 2] rfl ?_
  have b14 : ∀ (y15 : Nat) (y16 : Int32) (y17 : Int32) (y18 : Nat) (y19 : Int32) (h20 : jx_H), BX10_refusal_14 y15 y16 y17 y18 y19 h20 = some (r, h9) → jx_J X 0 0 14 [(0, .ref y15), (1, .int y16), (2, .int y17)] [.int y19, .ref y18] h20 := by
    intro y15 y16 y17 y18 y19 h20 e
    unfold BX10_refusal_14 at e
    replace e := ob e
    obtain ⟨h21, eh21, e⟩ := e
    refine j_put (ci := 10) (RC := RX10) (T := TX10) (N := 38) (ty0 := tyX10) 0 C rfl klX10 tyX10_ok nmX10 (Nat.le_of_ble_eq_true rfl) kX10_91 rfl rfl rfl rfl dX10_refusal_14 eh21 ?_
    refine j_aload_n C dX10_refusal_17 rfl rfl ?_
    replace e := ob e
    obtain ⟨x22, ex22, e⟩ := e
    refine j_geti (ci := 10) (RC := RX10) (T := TX10) (N := 38) 0 C rfl klX10 (Nat.le_of_ble_eq_true rfl) kX10_91 rfl dX10_refusal_18 ex22 ?_
    refine j_if_le (tgt := 26) C dX10_refusal_21 (by decide) (fun c32 => ?_) (fun c32 => ?_)
    · replace e := ifp c32 e
      refine j_aload_n C dX10_refusal_26 rfl rfl ?_
      refine j_iload_n C dX10_refusal_27 rfl rfl ?_
      refine j_iload_n C dX10_refusal_28 rfl rfl ?_
      replace e := ob e
      obtain ⟨_, eo23, e⟩ := e
      replace e := ob e
      obtain ⟨x24, ex24, e⟩ := e
      refine j_callV (ci := 10) (RC := RX10) (T := TX10) (N := 38) (As := [.int y16, .int y17]) (b := y15) (na := 2) (st := []) (k1 := 0) (n1 := 0) C hr (sX10_hasIt ex24) rfl eo23 kX10_112 kim_X10_hasIt ksel_X10_hasIt kini_X10 kc_X10_hasIt (by decide) rfl ⟨(Nat.le_of_ble_eq_true rfl), (Nat.le_of_ble_eq_true rfl)⟩ (Nat.le_of_ble_eq_true rfl) ⟨rfl, rfl, (Nat.le_of_ble_eq_true rfl), (Nat.le_of_ble_eq_true rfl)⟩ dX10_refusal_29 ?_
      rintro _ _ ⟨rfl, rfl⟩
      show jx_J X 0 0 32 [(0, .ref y15), (1, .int y16), (2, .int y17)] [.int x24] h21
      refine j_if_eq (tgt := 39) C dX10_refusal_32 (by decide) (fun c31 => ?_) (fun c31 => ?_)
      · replace e := ifp c31 e
        refine j_aload_n C dX10_refusal_39 rfl rfl ?_
        refine j_iload_n C dX10_refusal_40 rfl rfl ?_
        refine j_iload_n C dX10_refusal_41 rfl rfl ?_
        replace e := ob e
        obtain ⟨_, eo25, e⟩ := e
        replace e := ob e
        obtain ⟨x26, ex26, e⟩ := e
        refine j_callV (ci := 10) (RC := RX10) (T := TX10) (N := 38) (As := [.int y16, .int y17]) (b := y15) (na := 2) (st := []) (k1 := 0) (n1 := 0) C hr (sX10_hasDivisors ex26) rfl eo25 kX10_116 kim_X10_hasDivisors ksel_X10_hasDivisors kini_X10 kc_X10_hasDivisors (by decide) rfl ⟨(Nat.le_of_ble_eq_true rfl), (Nat.le_of_ble_eq_true rfl)⟩ (Nat.le_of_ble_eq_true rfl) ⟨rfl, rfl, (Nat.le_of_ble_eq_true rfl), (Nat.le_of_ble_eq_true rfl)⟩ dX10_refusal_42 ?_
        rintro _ _ ⟨rfl, rfl⟩
        show jx_J X 0 0 45 [(0, .ref y15), (1, .int y16), (2, .int y17)] [.int x26] h21
        refine j_if_ne (tgt := 52) C dX10_refusal_45 (by decide) (fun c30 => ?_) (fun c30 => ?_)
        · replace e := ifn c30 e
          refine j_aload_n C dX10_refusal_52 rfl rfl ?_
          replace e := ob e
          obtain ⟨_, eo27, e⟩ := e
          replace e := ob e
          obtain ⟨x28, ex28, e⟩ := e
          refine j_callV (ci := 10) (RC := RX10) (T := TX10) (N := 38) (As := []) (b := y15) (na := 0) (st := []) (k1 := 0) (n1 := 0) C hr (sX10_n ex28) rfl eo27 kX10_105 kim_X10_n ksel_X10_n kini_X10 kc_X10_n (by decide) rfl ⟨(Nat.le_of_ble_eq_true rfl), (Nat.le_of_ble_eq_true rfl)⟩ (Nat.le_of_ble_eq_true rfl) ⟨rfl, rfl, (Nat.le_of_ble_eq_true rfl), (Nat.le_of_ble_eq_true rfl)⟩ dX10_refusal_53 ?_
          rintro _ _ ⟨rfl, rfl⟩
          show jx_J X 0 0 56 [(0, .ref y15), (1, .int y16), (2, .int y17)] [.int x28] h21
          refine j_bipush (v := (12 : Int32)) C dX10_refusal_56 (by decide) ?_
          refine j_icmp_ne (tgt := 65) C dX10_refusal_58 (by decide) (fun c29 => ?_) (fun c29 => ?_)
          · replace e := ifn c29 e
            refine j_iconst (v := (0 : Int32)) C dX10_refusal_65 (by decide) ?_
            cases e
            exact j_iret C hq rfl dX10_refusal_66 ⟨Nat.le_of_ble_eq_true rfl, Nat.le_of_ble_eq_true rfl⟩ ⟨rfl, rfl⟩
          · replace e := ifp c29 e
            refine j_iconst (v := (3 : Int32)) C dX10_refusal_61 (by decide) ?_
            refine j_goto (tgt := 66) C dX10_refusal_62 (by decide) ?_
            cases e
            exact j_iret C hq rfl dX10_refusal_66 ⟨Nat.le_of_ble_eq_true rfl, Nat.le_of_ble_eq_true rfl⟩ ⟨rfl, rfl⟩
        · replace e := ifp c30 e
          refine j_iconst (v := (2 : Int32)) C dX10_refusal_48 (by decide) ?_
          refine j_goto (tgt := 66) C dX10_refusal_49 (by decide) ?_
          cases e
          exact j_iret C hq rfl dX10_refusal_66 ⟨Nat.le_of_ble_eq_true rfl, Nat.le_of_ble_eq_true rfl⟩ ⟨rfl, rfl⟩
      · replace e := ifn c31 e
        refine j_iconst (v := (1 : Int32)) C dX10_refusal_35 (by decide) ?_
        refine j_goto (tgt := 66) C dX10_refusal_36 (by decide) ?_
        cases e
        exact j_iret C hq rfl dX10_refusal_66 ⟨Nat.le_of_ble_eq_true rfl, Nat.le_of_ble_eq_true rfl⟩ ⟨rfl, rfl⟩
    · replace e := ifn c32 e
      refine j_iconst (v := (0 : Int32)) C dX10_refusal_24 (by decide) ?_
      cases e
      exact j_iret C hq rfl dX10_refusal_25 ⟨Nat.le_of_ble_eq_true rfl, Nat.le_of_ble_eq_true rfl⟩ ⟨rfl, rfl⟩
  unfold FX10_refusal at e
  refine j_aload_n C dX10_refusal_0 rfl rfl ?_
  refine j_iload_n C dX10_refusal_1 rfl rfl ?_
  refine j_iload_n C dX10_refusal_2 rfl rfl ?_
  replace e := ob e
  obtain ⟨x33, ex33, e⟩ := e
  refine j_callS (As := [.int l1, .int l2]) (na := 2) (st := [.ref l0]) (k1 := 0) (n1 := 0) C hr (sX10_isOnSide ex33) kX10_344 kst_X10_isOnSide kini_X10 kc_X10_isOnSide (by decide) rfl ⟨(Nat.le_of_ble_eq_true rfl), (Nat.le_of_ble_eq_true rfl)⟩ (Nat.le_of_ble_eq_true rfl) ⟨rfl, rfl, (Nat.le_of_ble_eq_true rfl), (Nat.le_of_ble_eq_true rfl)⟩ dX10_refusal_3 ?_
  rintro _ _ ⟨rfl, rfl⟩
  show jx_J X 0 0 6 [(0, .ref l0), (1, .int l1), (2, .int l2)] [.int x33, .ref l0] h
  refine j_if_eq (tgt := 13) C dX10_refusal_6 (by decide) (fun c34 => ?_) (fun c34 => ?_)
  · replace e := ifp c34 e
    refine j_iconst (v := (1 : Int32)) C dX10_refusal_13 (by decide) ?_
    exact b14 l0 l1 l2 l0 (1 : Int32) h e
  · replace e := ifn c34 e
    refine j_iconst (v := (0 : Int32)) C dX10_refusal_9 (by decide) ?_
    refine j_goto (tgt := 14) C dX10_refusal_10 (by decide) ?_
    exact b14 l0 l1 l2 l0 (0 : Int32) h e
/-! BorderBasisModel.keeps(I)V -/
noncomputable def BX10_keeps_50 (l0 : Nat) (l1 : Int32) (h : jx_H) : Option (jx_H) :=
(hgr h l0 10 1).bind fun x1 =>
(hgr h l0 10 4).bind fun x2 =>
(hgi h l0 10 5).bind fun x3 =>
(FX10_copies x1 (0 : Int32) x2 ((248 : Int32) * x3) h).bind fun h4 =>
(hgi h4 l0 10 5).bind fun x5 =>
(hp h4 l0 10 5 (.int (x5 + (1 : Int32)))).bind fun h6 =>
(hgr h6 l0 10 8).bind fun x7 =>
(hal h6 .int x7 l1).bind fun x8 =>
(has h6 .int x7 l1 (x8 + (1 : Int32))).bind fun h9 =>
some h9
noncomputable def LX10_keeps_11 (l0 : Nat) (l1 : Int32) (l2 : Int32) (h : jx_H) : Option ((Int32 × jx_H) ⊕ (jx_H)) :=
if (1736 : Int32) ≤ l2 then
 exL ((hgi h l0 10 5).bind fun x11 =>
 (hp h l0 10 5 (.int (x11 - (1 : Int32)))).bind fun h12 =>
 BX10_keeps_50 l0 l1 h12)
else
 (hgr h l0 10 4).bind fun x13 =>
 (hgr h l0 10 4).bind fun x14 =>
 (hal h .int x14 (l2 + (248 : Int32))).bind fun x15 =>
 (has h .int x13 l2 x15).bind fun h16 =>
 some (.inl ((l2 + (1 : Int32)), h16))
noncomputable def FX10_keeps (l0 : Nat) (l1 : Int32) (h : jx_H) : Option (jx_H) :=
(hgi h l0 10 5).bind fun x10 =>
if x10 = (8 : Int32) then
 itr (fun s : Int32 × jx_H => LX10_keeps_11 l0 l1 s.1 s.2) ((0 : Int32), h)
else
 BX10_keeps_50 l0 l1 h
def rmX10_keeps : Room := { frames := 1, cells := 0, slots := 0, locals := 24 }
set_option maxRecDepth 20000 in
set_option maxHeartbeats 4000000 in
theorem sX10_keeps {l0 : Nat} {l1 : Int32} {h : jx_H} {h9 : jx_H} (e : FX10_keeps l0 l1 h = some h9) : jx_Ct yX10_keeps cX10_keeps 3 none rmX10_keeps [.ref l0, .int l1] h (fun r' h' => none = r' ∧ h9 = h') := by
  refine jx_Ct.of (own := RX10) (by decide) rfl (Nat.le_of_ble_eq_true rfl) (fun X C hq hr hL hN => ?_)
  refine jx_sub (lv' := [(0, .ref l0), (1, .int l1)]) [0, 1] rfl ?_
  have b50 : ∀ (y19 : Nat) (y20 : Int32) (h21 : jx_H), BX10_keeps_50 y19 y20 h21 = some h9 → jx_J X 0 0 50 [(0, .ref y19), (1, .int y20)] [] h21 := by
    intro y19 y20 h21 e
    unfold BX10_keeps_50 at e
    refine j_aload_n C dX10_keeps_50 rfl rfl ?_
    replace e := ob e
    obtain ⟨x22, ex22, e⟩ := e
    refine j_getr (ci := 10) (RC := RX10) (T := TX10) (N := 38) 1 C rfl klX10 (Nat.le_of_ble_eq_true rfl) kX10_7 rfl dX10_keeps_51 ex22 ?_
    refine j_iconst (v := (0 : Int32)) C dX10_keeps_54 (by decide) ?_
    refine j_aload_n C dX10_keeps_55 rfl rfl ?_
    replace e := ob e
    obtain ⟨x23, ex23, e⟩ := e
    refine j_getr (ci := 10) (RC := RX10) (T := TX10) (N := 38) 4 C rfl klX10 (Nat.le_of_ble_eq_true rfl) kX10_19 rfl dX10_keeps_56 ex23 ?_
    refine j_sipush (v := (248 : Int32)) C dX10_keeps_59 (by decide) ?_
    refine j_aload_n C dX10_keeps_62 rfl rfl ?_
    replace e := ob e
    obtain ⟨x24, ex24, e⟩ := e
    refine j_geti (ci := 10) (RC := RX10) (T := TX10) (N := 38) 5 C rfl klX10 (Nat.le_of_ble_eq_true rfl) kX10_251 rfl dX10_keeps_63 ex24 ?_
    refine j_imul C dX10_keeps_66 ?_
    replace e := ob e
    obtain ⟨h25, eh25, e⟩ := e
    refine j_callS (As := [.ref x22, .int (0 : Int32), .ref x23, .int ((248 : Int32) * x24)]) (na := 4) (st := []) (k1 := 0) (n1 := 0) C hr (sX10_copies eh25) kX10_136 kst_X10_copies kini_X10 kc_X10_copies (by decide) rfl ⟨(Nat.le_of_ble_eq_true rfl), (Nat.le_of_ble_eq_true rfl)⟩ (Nat.le_of_ble_eq_true rfl) ⟨rfl, rfl, (Nat.le_of_ble_eq_true rfl), (Nat.le_of_ble_eq_true rfl)⟩ dX10_keeps_67 ?_
    rintro _ _ ⟨rfl, rfl⟩
    show jx_J X 0 0 70 [(0, .ref y19), (1, .int y20)] [] h25
    refine j_aload_n C dX10_keeps_70 rfl rfl ?_
    refine j_dup C dX10_keeps_71 rfl ?_
    replace e := ob e
    obtain ⟨x26, ex26, e⟩ := e
    refine j_geti (ci := 10) (RC := RX10) (T := TX10) (N := 38) 5 C rfl klX10 (Nat.le_of_ble_eq_true rfl) kX10_251 rfl dX10_keeps_72 ex26 ?_
    refine j_iconst (v := (1 : Int32)) C dX10_keeps_75 (by decide) ?_
    refine j_iadd C dX10_keeps_76 ?_
    replace e := ob e
    obtain ⟨h27, eh27, e⟩ := e
    refine j_put (ci := 10) (RC := RX10) (T := TX10) (N := 38) (ty0 := tyX10) 5 C rfl klX10 tyX10_ok nmX10 (Nat.le_of_ble_eq_true rfl) kX10_251 rfl rfl rfl rfl dX10_keeps_77 eh27 ?_
    refine j_aload_n C dX10_keeps_80 rfl rfl ?_
    replace e := ob e
    obtain ⟨x28, ex28, e⟩ := e
    refine j_getr (ci := 10) (RC := RX10) (T := TX10) (N := 38) 8 C rfl klX10 (Nat.le_of_ble_eq_true rfl) kX10_29 rfl dX10_keeps_81 ex28 ?_
    refine j_iload_n C dX10_keeps_84 rfl rfl ?_
    refine j_dup2 C dX10_keeps_85 rfl rfl ?_
    replace e := ob e
    obtain ⟨x29, ex29, e⟩ := e
    refine j_iald C dX10_keeps_86 ex29 ?_
    refine j_iconst (v := (1 : Int32)) C dX10_keeps_87 (by decide) ?_
    refine j_iadd C dX10_keeps_88 ?_
    replace e := ob e
    obtain ⟨h30, eh30, e⟩ := e
    refine j_iast C dX10_keeps_89 eh30 ?_
    cases e
    exact j_vret C hq dX10_keeps_90 ⟨Nat.le_of_ble_eq_true rfl, Nat.le_of_ble_eq_true rfl⟩ ⟨rfl, rfl⟩
  unfold FX10_keeps at e
  refine j_aload_n C dX10_keeps_0 rfl rfl ?_
  replace e := ob e
  obtain ⟨x31, ex31, e⟩ := e
  refine j_geti (ci := 10) (RC := RX10) (T := TX10) (N := 38) 5 C rfl klX10 (Nat.le_of_ble_eq_true rfl) kX10_251 rfl dX10_keeps_1 ex31 ?_
  refine j_bipush (v := (8 : Int32)) C dX10_keeps_4 (by decide) ?_
  refine j_icmp_ne (tgt := 50) C dX10_keeps_6 (by decide) (fun c41 => ?_) (fun c41 => ?_)
  · replace e := ifn c41 e
    exact b50 l0 l1 h e
  · replace e := ifp c41 e
    refine j_iconst (v := (0 : Int32)) C dX10_keeps_9 (by decide) ?_
    refine j_istore_n (lv1 := [(2, .int (0 : Int32)), (0, .ref l0), (1, .int l1)]) C hL dX10_keeps_10 rfl (Nat.le_of_ble_eq_true rfl) rfl ?_
    refine jx_sub (lv' := [(0, .ref l0), (1, .int l1), (2, .int (0 : Int32))]) [1, 2, 0] rfl ?_
    refine itr_ind (s0 := ((0 : Int32), h)) (fun s : Int32 × jx_H => jx_J X 0 0 11 [(0, .ref l0), (1, .int l1), (2, .int s.1)] [] s.2) e ?_
    clear e
    intro s kI2 kT2 e0
    obtain ⟨z32, h33⟩ := s
    obtain ⟨u2, e0_2⟩ := e0
    have e : LX10_keeps_11 l0 l1 z32 h33 = some u2 := e0_2
    unfold LX10_keeps_11 at e
    refine j_iload_n C dX10_keeps_11 rfl rfl ?_
    refine j_sipush (v := (1736 : Int32)) C dX10_keeps_12 (by decide) ?_
    refine j_icmp_ge (tgt := 40) C dX10_keeps_15 (by decide) (fun c40 => ?_) (fun c40 => ?_)
    · replace e := ifp c40 e
      obtain ⟨t_3, e_3, eu_3⟩ := exL_spec e
      obtain rfl := kT2 t_3 (e0_2.trans (congrArg some eu_3))
      replace e := e_3
      refine j_aload_n C dX10_keeps_40 rfl rfl ?_
      refine j_dup C dX10_keeps_41 rfl ?_
      replace e := ob e
      obtain ⟨x34, ex34, e⟩ := e
      refine j_geti (ci := 10) (RC := RX10) (T := TX10) (N := 38) 5 C rfl klX10 (Nat.le_of_ble_eq_true rfl) kX10_251 rfl dX10_keeps_42 ex34 ?_
      refine j_iconst (v := (1 : Int32)) C dX10_keeps_45 (by decide) ?_
      refine j_isub C dX10_keeps_46 ?_
      replace e := ob e
      obtain ⟨h35, eh35, e⟩ := e
      refine j_put (ci := 10) (RC := RX10) (T := TX10) (N := 38) (ty0 := tyX10) 5 C rfl klX10 tyX10_ok nmX10 (Nat.le_of_ble_eq_true rfl) kX10_251 rfl rfl rfl rfl dX10_keeps_47 eh35 ?_
      refine jx_sub (lv' := [(0, .ref l0), (1, .int l1)]) [0, 1] rfl ?_
      exact b50 l0 l1 h35 e
    · replace e := ifn c40 e
      refine j_aload_n C dX10_keeps_18 rfl rfl ?_
      replace e := ob e
      obtain ⟨x36, ex36, e⟩ := e
      refine j_getr (ci := 10) (RC := RX10) (T := TX10) (N := 38) 4 C rfl klX10 (Nat.le_of_ble_eq_true rfl) kX10_19 rfl dX10_keeps_19 ex36 ?_
      refine j_iload_n C dX10_keeps_22 rfl rfl ?_
      refine j_aload_n C dX10_keeps_23 rfl rfl ?_
      replace e := ob e
      obtain ⟨x37, ex37, e⟩ := e
      refine j_getr (ci := 10) (RC := RX10) (T := TX10) (N := 38) 4 C rfl klX10 (Nat.le_of_ble_eq_true rfl) kX10_19 rfl dX10_keeps_24 ex37 ?_
      refine j_iload_n C dX10_keeps_27 rfl rfl ?_
      refine j_sipush (v := (248 : Int32)) C dX10_keeps_28 (by decide) ?_
      refine j_iadd C dX10_keeps_31 ?_
      replace e := ob e
      obtain ⟨x38, ex38, e⟩ := e
      refine j_iald C dX10_keeps_32 ex38 ?_
      replace e := ob e
      obtain ⟨h39, eh39, e⟩ := e
      refine j_iast C dX10_keeps_33 eh39 ?_
      refine j_iinc (v := (z32 + (1 : Int32))) (lv1 := [(2, .int (z32 + (1 : Int32))), (0, .ref l0), (1, .int l1)]) C hL dX10_keeps_34 rfl rfl (Nat.le_of_ble_eq_true rfl) rfl ?_
      refine j_goto (tgt := 11) C dX10_keeps_37 (by decide) ?_
      obtain rfl := Option.some.inj e
      refine jx_sub (lv' := [(0, .ref l0), (1, .int l1), (2, .int (z32 + (1 : Int32)))]) [1, 2, 0] rfl ?_
      exact kI2 ((z32 + (1 : Int32)), h39) e0_2
/-! BorderBasisModel.join(II)I -/
noncomputable def BX10_join_36 (l0 : Nat) (l1 : Int32) (l2 : Int32) (s0 : Nat) (s1 : Int32) (h : jx_H) : Option (Int32 × jx_H) :=
(hp h s0 10 0 (.int s1)).bind fun h1 =>
(hgi h1 l0 10 0).bind fun x2 =>
if x2 ≤ 0 then
 (isO h1 l0 10).bind fun _ =>
 (FX10_keeps l0 (0 : Int32) h1).bind fun h4 =>
 (isO h4 l0 10).bind fun _ =>
 bind2 (FX10_joins l0 l1 l2 h4) fun x6 h7 =>
 some (x6, h7)
else
 some ((0 : Int32), h1)
noncomputable def BX10_join_35 (l0 : Nat) (l1 : Int32) (l2 : Int32) (s0 : Nat) (h : jx_H) : Option (Int32 × jx_H) :=
BX10_join_36 l0 l1 l2 s0 (2 : Int32) h
noncomputable def FX10_join (l0 : Nat) (l1 : Int32) (l2 : Int32) (h : jx_H) : Option (Int32 × jx_H) :=
(FX10_isOnSide l1 l2 h).bind fun x9 =>
if x9 = 0 then
 BX10_join_36 l0 l1 l2 l0 (1 : Int32) h
else
 (isO h l0 10).bind fun _ =>
 (FX10_canJoin l0 l1 l2 h).bind fun x11 =>
 if x11 = 0 then
  BX10_join_35 l0 l1 l2 l0 h
 else
  (isO h l0 10).bind fun _ =>
  (FX10_n l0 h).bind fun x13 =>
  if (12 : Int32) ≤ x13 then
   BX10_join_35 l0 l1 l2 l0 h
  else
   BX10_join_36 l0 l1 l2 l0 (0 : Int32) h
def rmX10_join : Room := { frames := 7, cells := 0, slots := 0, locals := 154 }
set_option maxRecDepth 20000 in
set_option maxHeartbeats 4000000 in
theorem sX10_join {l0 : Nat} {l1 : Int32} {l2 : Int32} {h : jx_H} {r : Int32} {h9 : jx_H} (e : FX10_join l0 l1 l2 h = some (r, h9)) : jx_Ct yX10_join cX10_join 3 (some .int) rmX10_join [.ref l0, .int l1, .int l2] h (fun r' h' => some (.int r) = r' ∧ h9 = h') := by
  refine jx_Ct.of (own := RX10) (by decide) rfl (Nat.le_of_ble_eq_true rfl) (fun X C hq hr hL hN => ?_)
  refine jx_sub (lv' := [(0, .ref l0), (1, .int l1), (2, .int l2)]) [0, 1, 2] rfl ?_
  have b36 : ∀ (y17 : Nat) (y18 : Int32) (y19 : Int32) (y20 : Nat) (y21 : Int32) (h22 : jx_H), BX10_join_36 y17 y18 y19 y20 y21 h22 = some (r, h9) → jx_J X 0 0 36 [(0, .ref y17), (1, .int y18), (2, .int y19)] [.int y21, .ref y20] h22 := by
    intro y17 y18 y19 y20 y21 h22 e
    unfold BX10_join_36 at e
    replace e := ob e
    obtain ⟨h23, eh23, e⟩ := e
    refine j_put (ci := 10) (RC := RX10) (T := TX10) (N := 38) (ty0 := tyX10) 0 C rfl klX10 tyX10_ok nmX10 (Nat.le_of_ble_eq_true rfl) kX10_91 rfl rfl rfl rfl dX10_join_36 eh23 ?_
    refine j_aload_n C dX10_join_39 rfl rfl ?_
    replace e := ob e
    obtain ⟨x24, ex24, e⟩ := e
    refine j_geti (ci := 10) (RC := RX10) (T := TX10) (N := 38) 0 C rfl klX10 (Nat.le_of_ble_eq_true rfl) kX10_91 rfl dX10_join_40 ex24 ?_
    refine j_if_le (tgt := 48) C dX10_join_43 (by decide) (fun c30 => ?_) (fun c30 => ?_)
    · replace e := ifp c30 e
      refine j_aload_n C dX10_join_48 rfl rfl ?_
      refine j_iconst (v := (0 : Int32)) C dX10_join_49 (by decide) ?_
      replace e := ob e
      obtain ⟨_, eo25, e⟩ := e
      replace e := ob e
      obtain ⟨h26, eh26, e⟩ := e
      refine j_callV (ci := 10) (RC := RX10) (T := TX10) (N := 38) (As := [.int (0 : Int32)]) (b := y17) (na := 1) (st := []) (k1 := 0) (n1 := 0) C hr (sX10_keeps eh26) rfl eo25 kX10_347 kim_X10_keeps ksel_X10_keeps kini_X10 kc_X10_keeps (by decide) rfl ⟨(Nat.le_of_ble_eq_true rfl), (Nat.le_of_ble_eq_true rfl)⟩ (Nat.le_of_ble_eq_true rfl) ⟨rfl, rfl, (Nat.le_of_ble_eq_true rfl), (Nat.le_of_ble_eq_true rfl)⟩ dX10_join_50 ?_
      rintro _ _ ⟨rfl, rfl⟩
      show jx_J X 0 0 53 [(0, .ref y17), (1, .int y18), (2, .int y19)] [] h26
      refine j_aload_n C dX10_join_53 rfl rfl ?_
      refine j_iload_n C dX10_join_54 rfl rfl ?_
      refine j_iload_n C dX10_join_55 rfl rfl ?_
      replace e := ob e
      obtain ⟨_, eo27, e⟩ := e
      replace e := ob2 e
      obtain ⟨x28, h29, ex28, e⟩ := e
      refine j_callV (ci := 10) (RC := RX10) (T := TX10) (N := 38) (As := [.int y18, .int y19]) (b := y17) (na := 2) (st := []) (k1 := 0) (n1 := 0) C hr (sX10_joins ex28) rfl eo27 kX10_202 kim_X10_joins ksel_X10_joins kini_X10 kc_X10_joins (by decide) rfl ⟨(Nat.le_of_ble_eq_true rfl), (Nat.le_of_ble_eq_true rfl)⟩ (Nat.le_of_ble_eq_true rfl) ⟨rfl, rfl, (Nat.le_of_ble_eq_true rfl), (Nat.le_of_ble_eq_true rfl)⟩ dX10_join_56 ?_
      rintro _ _ ⟨rfl, rfl⟩
      show jx_J X 0 0 59 [(0, .ref y17), (1, .int y18), (2, .int y19)] [.int x28] h29
      cases e
      exact j_iret C hq rfl dX10_join_59 ⟨Nat.le_of_ble_eq_true rfl, Nat.le_of_ble_eq_true rfl⟩ ⟨rfl, rfl⟩
    · replace e := ifn c30 e
      refine j_iconst (v := (0 : Int32)) C dX10_join_46 (by decide) ?_
      cases e
      exact j_iret C hq rfl dX10_join_47 ⟨Nat.le_of_ble_eq_true rfl, Nat.le_of_ble_eq_true rfl⟩ ⟨rfl, rfl⟩
  have b35 : ∀ (y31 : Nat) (y32 : Int32) (y33 : Int32) (y34 : Nat) (h35 : jx_H), BX10_join_35 y31 y32 y33 y34 h35 = some (r, h9) → jx_J X 0 0 35 [(0, .ref y31), (1, .int y32), (2, .int y33)] [.ref y34] h35 := by
    intro y31 y32 y33 y34 h35 e
    unfold BX10_join_35 at e
    refine j_iconst (v := (2 : Int32)) C dX10_join_35 (by decide) ?_
    exact b36 y31 y32 y33 y34 (2 : Int32) h35 e
  unfold FX10_join at e
  refine j_aload_n C dX10_join_0 rfl rfl ?_
  refine j_iload_n C dX10_join_1 rfl rfl ?_
  refine j_iload_n C dX10_join_2 rfl rfl ?_
  replace e := ob e
  obtain ⟨x36, ex36, e⟩ := e
  refine j_callS (As := [.int l1, .int l2]) (na := 2) (st := [.ref l0]) (k1 := 0) (n1 := 0) C hr (sX10_isOnSide ex36) kX10_344 kst_X10_isOnSide kini_X10 kc_X10_isOnSide (by decide) rfl ⟨(Nat.le_of_ble_eq_true rfl), (Nat.le_of_ble_eq_true rfl)⟩ (Nat.le_of_ble_eq_true rfl) ⟨rfl, rfl, (Nat.le_of_ble_eq_true rfl), (Nat.le_of_ble_eq_true rfl)⟩ dX10_join_3 ?_
  rintro _ _ ⟨rfl, rfl⟩
  show jx_J X 0 0 6 [(0, .ref l0), (1, .int l1), (2, .int l2)] [.int x36, .ref l0] h
  refine j_if_ne (tgt := 13) C dX10_join_6 (by decide) (fun c43 => ?_) (fun c43 => ?_)
  · replace e := ifn c43 e
    refine j_aload_n C dX10_join_13 rfl rfl ?_
    refine j_iload_n C dX10_join_14 rfl rfl ?_
    refine j_iload_n C dX10_join_15 rfl rfl ?_
    replace e := ob e
    obtain ⟨_, eo37, e⟩ := e
    replace e := ob e
    obtain ⟨x38, ex38, e⟩ := e
    refine j_callV (ci := 10) (RC := RX10) (T := TX10) (N := 38) (As := [.int l1, .int l2]) (b := l0) (na := 2) (st := [.ref l0]) (k1 := 0) (n1 := 0) C hr (sX10_canJoin ex38) rfl eo37 kX10_199 kim_X10_canJoin ksel_X10_canJoin kini_X10 kc_X10_canJoin (by decide) rfl ⟨(Nat.le_of_ble_eq_true rfl), (Nat.le_of_ble_eq_true rfl)⟩ (Nat.le_of_ble_eq_true rfl) ⟨rfl, rfl, (Nat.le_of_ble_eq_true rfl), (Nat.le_of_ble_eq_true rfl)⟩ dX10_join_16 ?_
    rintro _ _ ⟨rfl, rfl⟩
    show jx_J X 0 0 19 [(0, .ref l0), (1, .int l1), (2, .int l2)] [.int x38, .ref l0] h
    refine j_if_eq (tgt := 35) C dX10_join_19 (by decide) (fun c42 => ?_) (fun c42 => ?_)
    · replace e := ifp c42 e
      exact b35 l0 l1 l2 l0 h e
    · replace e := ifn c42 e
      refine j_aload_n C dX10_join_22 rfl rfl ?_
      replace e := ob e
      obtain ⟨_, eo39, e⟩ := e
      replace e := ob e
      obtain ⟨x40, ex40, e⟩ := e
      refine j_callV (ci := 10) (RC := RX10) (T := TX10) (N := 38) (As := []) (b := l0) (na := 0) (st := [.ref l0]) (k1 := 0) (n1 := 0) C hr (sX10_n ex40) rfl eo39 kX10_105 kim_X10_n ksel_X10_n kini_X10 kc_X10_n (by decide) rfl ⟨(Nat.le_of_ble_eq_true rfl), (Nat.le_of_ble_eq_true rfl)⟩ (Nat.le_of_ble_eq_true rfl) ⟨rfl, rfl, (Nat.le_of_ble_eq_true rfl), (Nat.le_of_ble_eq_true rfl)⟩ dX10_join_23 ?_
      rintro _ _ ⟨rfl, rfl⟩
      show jx_J X 0 0 26 [(0, .ref l0), (1, .int l1), (2, .int l2)] [.int x40, .ref l0] h
      refine j_bipush (v := (12 : Int32)) C dX10_join_26 (by decide) ?_
      refine j_icmp_ge (tgt := 35) C dX10_join_28 (by decide) (fun c41 => ?_) (fun c41 => ?_)
      · replace e := ifp c41 e
        exact b35 l0 l1 l2 l0 h e
      · replace e := ifn c41 e
        refine j_iconst (v := (0 : Int32)) C dX10_join_31 (by decide) ?_
        refine j_goto (tgt := 36) C dX10_join_32 (by decide) ?_
        exact b36 l0 l1 l2 l0 (0 : Int32) h e
  · replace e := ifp c43 e
    refine j_iconst (v := (1 : Int32)) C dX10_join_9 (by decide) ?_
    refine j_goto (tgt := 36) C dX10_join_10 (by decide) ?_
    exact b36 l0 l1 l2 l0 (1 : Int32) h e
/-! BorderBasisModel.leave(II)I -/
noncomputable def BX10_leave_27 (l0 : Nat) (l1 : Int32) (l2 : Int32) (s0 : Nat) (s1 : Int32) (h : jx_H) : Option (Int32 × jx_H) :=
(hp h s0 10 0 (.int s1)).bind fun h1 =>
(hgi h1 l0 10 0).bind fun x2 =>
if x2 ≤ 0 then
 (isO h1 l0 10).bind fun _ =>
 (FX10_keeps l0 (1 : Int32) h1).bind fun h4 =>
 (isO h4 l0 10).bind fun _ =>
 bind2 (FX10_leaves l0 l1 l2 h4) fun x6 h7 =>
 some (x6, h7)
else
 some ((0 : Int32), h1)
noncomputable def FX10_leave (l0 : Nat) (l1 : Int32) (l2 : Int32) (h : jx_H) : Option (Int32 × jx_H) :=
(FX10_isOnSide l1 l2 h).bind fun x9 =>
if x9 = 0 then
 BX10_leave_27 l0 l1 l2 l0 (1 : Int32) h
else
 (isO h l0 10).bind fun _ =>
 (FX10_canLeave l0 l1 l2 h).bind fun x11 =>
 if x11 = 0 then
  BX10_leave_27 l0 l1 l2 l0 (2 : Int32) h
 else
  BX10_leave_27 l0 l1 l2 l0 (0 : Int32) h
def rmX10_leave : Room := { frames := 7, cells := 0, slots := 0, locals := 155 }
set_option maxRecDepth 20000 in
set_option maxHeartbeats 4000000 in
theorem sX10_leave {l0 : Nat} {l1 : Int32} {l2 : Int32} {h : jx_H} {r : Int32} {h9 : jx_H} (e : FX10_leave l0 l1 l2 h = some (r, h9)) : jx_Ct yX10_leave cX10_leave 3 (some .int) rmX10_leave [.ref l0, .int l1, .int l2] h (fun r' h' => some (.int r) = r' ∧ h9 = h') := by
  refine jx_Ct.of (own := RX10) (by decide) rfl (Nat.le_of_ble_eq_true rfl) (fun X C hq hr hL hN => ?_)
  refine jx_sub (lv' := [(0, .ref l0), (1, .int l1), (2, .int l2)]) [0, 1, 2] rfl ?_
  have b27 : ∀ (y14 : Nat) (y15 : Int32) (y16 : Int32) (y17 : Nat) (y18 : Int32) (h19 : jx_H), BX10_leave_27 y14 y15 y16 y17 y18 h19 = some (r, h9) → jx_J X 0 0 27 [(0, .ref y14), (1, .int y15), (2, .int y16)] [.int y18, .ref y17] h19 := by
    intro y14 y15 y16 y17 y18 h19 e
    unfold BX10_leave_27 at e
    replace e := ob e
    obtain ⟨h20, eh20, e⟩ := e
    refine j_put (ci := 10) (RC := RX10) (T := TX10) (N := 38) (ty0 := tyX10) 0 C rfl klX10 tyX10_ok nmX10 (Nat.le_of_ble_eq_true rfl) kX10_91 rfl rfl rfl rfl dX10_leave_27 eh20 ?_
    refine j_aload_n C dX10_leave_30 rfl rfl ?_
    replace e := ob e
    obtain ⟨x21, ex21, e⟩ := e
    refine j_geti (ci := 10) (RC := RX10) (T := TX10) (N := 38) 0 C rfl klX10 (Nat.le_of_ble_eq_true rfl) kX10_91 rfl dX10_leave_31 ex21 ?_
    refine j_if_le (tgt := 39) C dX10_leave_34 (by decide) (fun c27 => ?_) (fun c27 => ?_)
    · replace e := ifp c27 e
      refine j_aload_n C dX10_leave_39 rfl rfl ?_
      refine j_iconst (v := (1 : Int32)) C dX10_leave_40 (by decide) ?_
      replace e := ob e
      obtain ⟨_, eo22, e⟩ := e
      replace e := ob e
      obtain ⟨h23, eh23, e⟩ := e
      refine j_callV (ci := 10) (RC := RX10) (T := TX10) (N := 38) (As := [.int (1 : Int32)]) (b := y14) (na := 1) (st := []) (k1 := 0) (n1 := 0) C hr (sX10_keeps eh23) rfl eo22 kX10_347 kim_X10_keeps ksel_X10_keeps kini_X10 kc_X10_keeps (by decide) rfl ⟨(Nat.le_of_ble_eq_true rfl), (Nat.le_of_ble_eq_true rfl)⟩ (Nat.le_of_ble_eq_true rfl) ⟨rfl, rfl, (Nat.le_of_ble_eq_true rfl), (Nat.le_of_ble_eq_true rfl)⟩ dX10_leave_41 ?_
      rintro _ _ ⟨rfl, rfl⟩
      show jx_J X 0 0 44 [(0, .ref y14), (1, .int y15), (2, .int y16)] [] h23
      refine j_aload_n C dX10_leave_44 rfl rfl ?_
      refine j_iload_n C dX10_leave_45 rfl rfl ?_
      refine j_iload_n C dX10_leave_46 rfl rfl ?_
      replace e := ob e
      obtain ⟨_, eo24, e⟩ := e
      replace e := ob2 e
      obtain ⟨x25, h26, ex25, e⟩ := e
      refine j_callV (ci := 10) (RC := RX10) (T := TX10) (N := 38) (As := [.int y15, .int y16]) (b := y14) (na := 2) (st := []) (k1 := 0) (n1 := 0) C hr (sX10_leaves ex25) rfl eo24 kX10_350 kim_X10_leaves ksel_X10_leaves kini_X10 kc_X10_leaves (by decide) rfl ⟨(Nat.le_of_ble_eq_true rfl), (Nat.le_of_ble_eq_true rfl)⟩ (Nat.le_of_ble_eq_true rfl) ⟨rfl, rfl, (Nat.le_of_ble_eq_true rfl), (Nat.le_of_ble_eq_true rfl)⟩ dX10_leave_47 ?_
      rintro _ _ ⟨rfl, rfl⟩
      show jx_J X 0 0 50 [(0, .ref y14), (1, .int y15), (2, .int y16)] [.int x25] h26
      cases e
      exact j_iret C hq rfl dX10_leave_50 ⟨Nat.le_of_ble_eq_true rfl, Nat.le_of_ble_eq_true rfl⟩ ⟨rfl, rfl⟩
    · replace e := ifn c27 e
      refine j_iconst (v := (0 : Int32)) C dX10_leave_37 (by decide) ?_
      cases e
      exact j_iret C hq rfl dX10_leave_38 ⟨Nat.le_of_ble_eq_true rfl, Nat.le_of_ble_eq_true rfl⟩ ⟨rfl, rfl⟩
  unfold FX10_leave at e
  refine j_aload_n C dX10_leave_0 rfl rfl ?_
  refine j_iload_n C dX10_leave_1 rfl rfl ?_
  refine j_iload_n C dX10_leave_2 rfl rfl ?_
  replace e := ob e
  obtain ⟨x28, ex28, e⟩ := e
  refine j_callS (As := [.int l1, .int l2]) (na := 2) (st := [.ref l0]) (k1 := 0) (n1 := 0) C hr (sX10_isOnSide ex28) kX10_344 kst_X10_isOnSide kini_X10 kc_X10_isOnSide (by decide) rfl ⟨(Nat.le_of_ble_eq_true rfl), (Nat.le_of_ble_eq_true rfl)⟩ (Nat.le_of_ble_eq_true rfl) ⟨rfl, rfl, (Nat.le_of_ble_eq_true rfl), (Nat.le_of_ble_eq_true rfl)⟩ dX10_leave_3 ?_
  rintro _ _ ⟨rfl, rfl⟩
  show jx_J X 0 0 6 [(0, .ref l0), (1, .int l1), (2, .int l2)] [.int x28, .ref l0] h
  refine j_if_ne (tgt := 13) C dX10_leave_6 (by decide) (fun c32 => ?_) (fun c32 => ?_)
  · replace e := ifn c32 e
    refine j_aload_n C dX10_leave_13 rfl rfl ?_
    refine j_iload_n C dX10_leave_14 rfl rfl ?_
    refine j_iload_n C dX10_leave_15 rfl rfl ?_
    replace e := ob e
    obtain ⟨_, eo29, e⟩ := e
    replace e := ob e
    obtain ⟨x30, ex30, e⟩ := e
    refine j_callV (ci := 10) (RC := RX10) (T := TX10) (N := 38) (As := [.int l1, .int l2]) (b := l0) (na := 2) (st := [.ref l0]) (k1 := 0) (n1 := 0) C hr (sX10_canLeave ex30) rfl eo29 kX10_334 kim_X10_canLeave ksel_X10_canLeave kini_X10 kc_X10_canLeave (by decide) rfl ⟨(Nat.le_of_ble_eq_true rfl), (Nat.le_of_ble_eq_true rfl)⟩ (Nat.le_of_ble_eq_true rfl) ⟨rfl, rfl, (Nat.le_of_ble_eq_true rfl), (Nat.le_of_ble_eq_true rfl)⟩ dX10_leave_16 ?_
    rintro _ _ ⟨rfl, rfl⟩
    show jx_J X 0 0 19 [(0, .ref l0), (1, .int l1), (2, .int l2)] [.int x30, .ref l0] h
    refine j_if_eq (tgt := 26) C dX10_leave_19 (by decide) (fun c31 => ?_) (fun c31 => ?_)
    · replace e := ifp c31 e
      refine j_iconst (v := (2 : Int32)) C dX10_leave_26 (by decide) ?_
      exact b27 l0 l1 l2 l0 (2 : Int32) h e
    · replace e := ifn c31 e
      refine j_iconst (v := (0 : Int32)) C dX10_leave_22 (by decide) ?_
      refine j_goto (tgt := 27) C dX10_leave_23 (by decide) ?_
      exact b27 l0 l1 l2 l0 (0 : Int32) h e
  · replace e := ifp c32 e
    refine j_iconst (v := (1 : Int32)) C dX10_leave_9 (by decide) ?_
    refine j_goto (tgt := 27) C dX10_leave_10 (by decide) ?_
    exact b27 l0 l1 l2 l0 (1 : Int32) h e
/-! BorderBasisModel.isMonomial(I)Z -/
noncomputable def FX10_isMonomial (l0 : Nat) (l1 : Int32) (h : jx_H) : Option (Int32) :=
(isO h l0 10).bind fun _ =>
(FX10_n l0 h).bind fun x2 =>
(FX10_in l1 (0 : Int32) (x2 - (1 : Int32)) h).bind fun x3 =>
if x3 = 0 ∨ x3 = 1 then some x3 else none
def rmX10_isMonomial : Room := { frames := 1, cells := 0, slots := 0, locals := 22 }
set_option maxRecDepth 20000 in
set_option maxHeartbeats 4000000 in
theorem sX10_isMonomial {l0 : Nat} {l1 : Int32} {h : jx_H} {r : Int32}  (e : FX10_isMonomial l0 l1 h = some r) : jx_Ct yX10_isMonomial cX10_isMonomial 2 (some .boolean) rmX10_isMonomial [.ref l0, .int l1] h (fun r' h' => some (.int r) = r' ∧ h = h') := by
  refine jx_Ct.of (own := RX10) (by decide) rfl (Nat.le_of_ble_eq_true rfl) (fun X C hq hr hL hN => ?_)
  refine jx_sub (lv' := [(0, .ref l0), (1, .int l1)]) [0, 1] rfl ?_
  unfold FX10_isMonomial at e
  refine j_iload_n C dX10_isMonomial_0 rfl rfl ?_
  refine j_iconst (v := (0 : Int32)) C dX10_isMonomial_1 (by decide) ?_
  refine j_aload_n C dX10_isMonomial_2 rfl rfl ?_
  replace e := ob e
  obtain ⟨_, eo5, e⟩ := e
  replace e := ob e
  obtain ⟨x6, ex6, e⟩ := e
  refine j_callV (ci := 10) (RC := RX10) (T := TX10) (N := 38) (As := []) (b := l0) (na := 0) (st := [.int (0 : Int32), .int l1]) (k1 := 0) (n1 := 0) C hr (sX10_n ex6) rfl eo5 kX10_105 kim_X10_n ksel_X10_n kini_X10 kc_X10_n (by decide) rfl ⟨(Nat.le_of_ble_eq_true rfl), (Nat.le_of_ble_eq_true rfl)⟩ (Nat.le_of_ble_eq_true rfl) ⟨rfl, rfl, (Nat.le_of_ble_eq_true rfl), (Nat.le_of_ble_eq_true rfl)⟩ dX10_isMonomial_3 ?_
  rintro _ _ ⟨rfl, rfl⟩
  show jx_J X 0 0 6 [(0, .ref l0), (1, .int l1)] [.int x6, .int (0 : Int32), .int l1] h
  refine j_iconst (v := (1 : Int32)) C dX10_isMonomial_6 (by decide) ?_
  refine j_isub C dX10_isMonomial_7 ?_
  replace e := ob e
  obtain ⟨x7, ex7, e⟩ := e
  refine j_callS (As := [.int l1, .int (0 : Int32), .int (x6 - (1 : Int32))]) (na := 3) (st := []) (k1 := 0) (n1 := 0) C hr (sX10_in ex7) kX10_101 kst_X10_in kini_X10 kc_X10_in (by decide) rfl ⟨(Nat.le_of_ble_eq_true rfl), (Nat.le_of_ble_eq_true rfl)⟩ (Nat.le_of_ble_eq_true rfl) ⟨rfl, rfl, (Nat.le_of_ble_eq_true rfl), (Nat.le_of_ble_eq_true rfl)⟩ dX10_isMonomial_8 ?_
  rintro _ _ ⟨rfl, rfl⟩
  show jx_J X 0 0 11 [(0, .ref l0), (1, .int l1)] [.int x7] h
  by_cases c8 : ¬ (x7 = 0 ∨ x7 = 1)
  · exact nos (ifn c8 e)
  replace c8 := Classical.not_not.mp c8
  replace e := ifp c8 e
  cases e
  exact j_iret C hq (jx_bool c8) dX10_isMonomial_11 ⟨Nat.le_of_ble_eq_true rfl, Nat.le_of_ble_eq_true rfl⟩ ⟨rfl, rfl⟩
/-! BorderBasisModel.isBorder(I)Z -/
noncomputable def FX10_isBorder (l0 : Nat) (l1 : Int32) (h : jx_H) : Option (Int32) :=
(hgr h l0 10 1).bind fun x1 =>
(hal h .int x1 (2 : Int32)).bind fun x2 =>
(FX10_in l1 (0 : Int32) (x2 - (1 : Int32)) h).bind fun x3 =>
if x3 = 0 ∨ x3 = 1 then some x3 else none
def rmX10_isBorder : Room := { frames := 1, cells := 0, slots := 0, locals := 22 }
set_option maxRecDepth 20000 in
set_option maxHeartbeats 4000000 in
theorem sX10_isBorder {l0 : Nat} {l1 : Int32} {h : jx_H} {r : Int32}  (e : FX10_isBorder l0 l1 h = some r) : jx_Ct yX10_isBorder cX10_isBorder 2 (some .boolean) rmX10_isBorder [.ref l0, .int l1] h (fun r' h' => some (.int r) = r' ∧ h = h') := by
  refine jx_Ct.of (own := RX10) (by decide) rfl (Nat.le_of_ble_eq_true rfl) (fun X C hq hr hL hN => ?_)
  refine jx_sub (lv' := [(0, .ref l0), (1, .int l1)]) [0, 1] rfl ?_
  unfold FX10_isBorder at e
  refine j_iload_n C dX10_isBorder_0 rfl rfl ?_
  refine j_iconst (v := (0 : Int32)) C dX10_isBorder_1 (by decide) ?_
  refine j_aload_n C dX10_isBorder_2 rfl rfl ?_
  replace e := ob e
  obtain ⟨x5, ex5, e⟩ := e
  refine j_getr (ci := 10) (RC := RX10) (T := TX10) (N := 38) 1 C rfl klX10 (Nat.le_of_ble_eq_true rfl) kX10_7 rfl dX10_isBorder_3 ex5 ?_
  refine j_iconst (v := (2 : Int32)) C dX10_isBorder_6 (by decide) ?_
  replace e := ob e
  obtain ⟨x6, ex6, e⟩ := e
  refine j_iald C dX10_isBorder_7 ex6 ?_
  refine j_iconst (v := (1 : Int32)) C dX10_isBorder_8 (by decide) ?_
  refine j_isub C dX10_isBorder_9 ?_
  replace e := ob e
  obtain ⟨x7, ex7, e⟩ := e
  refine j_callS (As := [.int l1, .int (0 : Int32), .int (x6 - (1 : Int32))]) (na := 3) (st := []) (k1 := 0) (n1 := 0) C hr (sX10_in ex7) kX10_101 kst_X10_in kini_X10 kc_X10_in (by decide) rfl ⟨(Nat.le_of_ble_eq_true rfl), (Nat.le_of_ble_eq_true rfl)⟩ (Nat.le_of_ble_eq_true rfl) ⟨rfl, rfl, (Nat.le_of_ble_eq_true rfl), (Nat.le_of_ble_eq_true rfl)⟩ dX10_isBorder_10 ?_
  rintro _ _ ⟨rfl, rfl⟩
  show jx_J X 0 0 13 [(0, .ref l0), (1, .int l1)] [.int x7] h
  by_cases c8 : ¬ (x7 = 0 ∨ x7 = 1)
  · exact nos (ifn c8 e)
  replace c8 := Classical.not_not.mp c8
  replace e := ifp c8 e
  cases e
  exact j_iret C hq (jx_bool c8) dX10_isBorder_13 ⟨Nat.le_of_ble_eq_true rfl, Nat.le_of_ble_eq_true rfl⟩ ⟨rfl, rfl⟩
/-! BorderBasisModel.monomial(II)I -/
noncomputable def BX10_monomial_55 (l1 : Int32) (s0 : Nat) (s1 : Int32) (h : jx_H) : Option (Int32 × jx_H) :=
(hal h .int s0 (s1 + l1)).bind fun x1 =>
some (x1, h)
noncomputable def BX10_monomial_27 (l0 : Nat) (l1 : Int32) (l2 : Int32) (s0 : Nat) (s1 : Int32) (h : jx_H) : Option (Int32 × jx_H) :=
(hp h s0 10 0 (.int s1)).bind fun h2 =>
(hgi h2 l0 10 0).bind fun x3 =>
if x3 ≤ 0 then
 (hgr h2 l0 10 1).bind fun x4 =>
 if l2 = 0 then
  BX10_monomial_55 l1 x4 (4 : Int32) h2
 else
  BX10_monomial_55 l1 x4 (16 : Int32) h2
else
 some ((0 : Int32), h2)
noncomputable def FX10_monomial (l0 : Nat) (l1 : Int32) (l2 : Int32) (h : jx_H) : Option (Int32 × jx_H) :=
(isO h l0 10).bind fun _ =>
(FX10_isMonomial l0 l1 h).bind fun x8 =>
if x8 = 0 then
 BX10_monomial_27 l0 l1 l2 l0 (1 : Int32) h
else
 (FX10_in l2 (0 : Int32) (1 : Int32) h).bind fun x9 =>
 if x9 = 0 then
  BX10_monomial_27 l0 l1 l2 l0 (2 : Int32) h
 else
  BX10_monomial_27 l0 l1 l2 l0 (0 : Int32) h
def rmX10_monomial : Room := { frames := 2, cells := 0, slots := 0, locals := 43 }
set_option maxRecDepth 20000 in
set_option maxHeartbeats 4000000 in
theorem sX10_monomial {l0 : Nat} {l1 : Int32} {l2 : Int32} {h : jx_H} {r : Int32} {h9 : jx_H} (e : FX10_monomial l0 l1 l2 h = some (r, h9)) : jx_Ct yX10_monomial cX10_monomial 3 (some .int) rmX10_monomial [.ref l0, .int l1, .int l2] h (fun r' h' => some (.int r) = r' ∧ h9 = h') := by
  refine jx_Ct.of (own := RX10) (by decide) rfl (Nat.le_of_ble_eq_true rfl) (fun X C hq hr hL hN => ?_)
  refine jx_sub (lv' := [(0, .ref l0), (1, .int l1), (2, .int l2)]) [0, 1, 2] rfl ?_
  have b55 : ∀ (y12 : Int32) (y13 : Nat) (y14 : Int32) (h15 : jx_H), BX10_monomial_55 y12 y13 y14 h15 = some (r, h9) → jx_J X 0 0 55 [(1, .int y12)] [.int y14, .ref y13] h15 := by
    intro y12 y13 y14 h15 e
    unfold BX10_monomial_55 at e
    refine j_iload_n C dX10_monomial_55 rfl rfl ?_
    refine j_iadd C dX10_monomial_56 ?_
    replace e := ob e
    obtain ⟨x16, ex16, e⟩ := e
    refine j_iald C dX10_monomial_57 ex16 ?_
    cases e
    exact j_iret C hq rfl dX10_monomial_58 ⟨Nat.le_of_ble_eq_true rfl, Nat.le_of_ble_eq_true rfl⟩ ⟨rfl, rfl⟩
  have b27 : ∀ (y17 : Nat) (y18 : Int32) (y19 : Int32) (y20 : Nat) (y21 : Int32) (h22 : jx_H), BX10_monomial_27 y17 y18 y19 y20 y21 h22 = some (r, h9) → jx_J X 0 0 27 [(0, .ref y17), (1, .int y18), (2, .int y19)] [.int y21, .ref y20] h22 := by
    intro y17 y18 y19 y20 y21 h22 e
    unfold BX10_monomial_27 at e
    replace e := ob e
    obtain ⟨h23, eh23, e⟩ := e
    refine j_put (ci := 10) (RC := RX10) (T := TX10) (N := 38) (ty0 := tyX10) 0 C rfl klX10 tyX10_ok nmX10 (Nat.le_of_ble_eq_true rfl) kX10_91 rfl rfl rfl rfl dX10_monomial_27 eh23 ?_
    refine j_aload_n C dX10_monomial_30 rfl rfl ?_
    replace e := ob e
    obtain ⟨x24, ex24, e⟩ := e
    refine j_geti (ci := 10) (RC := RX10) (T := TX10) (N := 38) 0 C rfl klX10 (Nat.le_of_ble_eq_true rfl) kX10_91 rfl dX10_monomial_31 ex24 ?_
    refine j_if_le (tgt := 41) C dX10_monomial_34 (by decide) (fun c27 => ?_) (fun c27 => ?_)
    · replace e := ifp c27 e
      refine j_aload_n C dX10_monomial_41 rfl rfl ?_
      replace e := ob e
      obtain ⟨x25, ex25, e⟩ := e
      refine j_getr (ci := 10) (RC := RX10) (T := TX10) (N := 38) 1 C rfl klX10 (Nat.le_of_ble_eq_true rfl) kX10_7 rfl dX10_monomial_42 ex25 ?_
      refine j_iload_n C dX10_monomial_45 rfl rfl ?_
      refine j_if_ne (tgt := 53) C dX10_monomial_46 (by decide) (fun c26 => ?_) (fun c26 => ?_)
      · replace e := ifn c26 e
        refine j_bipush (v := (16 : Int32)) C dX10_monomial_53 (by decide) ?_
        refine jx_sub (lv' := [(1, .int y18)]) [1] rfl ?_
        exact b55 y18 x25 (16 : Int32) h23 e
      · replace e := ifp c26 e
        refine j_iconst (v := (4 : Int32)) C dX10_monomial_49 (by decide) ?_
        refine j_goto (tgt := 55) C dX10_monomial_50 (by decide) ?_
        refine jx_sub (lv' := [(1, .int y18)]) [1] rfl ?_
        exact b55 y18 x25 (4 : Int32) h23 e
    · replace e := ifn c27 e
      refine j_iconst (v := (0 : Int32)) C dX10_monomial_37 (by decide) ?_
      refine j_goto (tgt := 58) C dX10_monomial_38 (by decide) ?_
      cases e
      exact j_iret C hq rfl dX10_monomial_58 ⟨Nat.le_of_ble_eq_true rfl, Nat.le_of_ble_eq_true rfl⟩ ⟨rfl, rfl⟩
  unfold FX10_monomial at e
  refine j_aload_n C dX10_monomial_0 rfl rfl ?_
  refine j_aload_n C dX10_monomial_1 rfl rfl ?_
  refine j_iload_n C dX10_monomial_2 rfl rfl ?_
  replace e := ob e
  obtain ⟨_, eo28, e⟩ := e
  replace e := ob e
  obtain ⟨x29, ex29, e⟩ := e
  refine j_callV (ci := 10) (RC := RX10) (T := TX10) (N := 38) (As := [.int l1]) (b := l0) (na := 1) (st := [.ref l0]) (k1 := 0) (n1 := 0) C hr (sX10_isMonomial ex29) rfl eo28 kX10_353 kim_X10_isMonomial ksel_X10_isMonomial kini_X10 kc_X10_isMonomial (by decide) rfl ⟨(Nat.le_of_ble_eq_true rfl), (Nat.le_of_ble_eq_true rfl)⟩ (Nat.le_of_ble_eq_true rfl) ⟨rfl, rfl, (Nat.le_of_ble_eq_true rfl), (Nat.le_of_ble_eq_true rfl)⟩ dX10_monomial_3 ?_
  rintro _ _ ⟨rfl, rfl⟩
  show jx_J X 0 0 6 [(0, .ref l0), (1, .int l1), (2, .int l2)] [.int x29, .ref l0] h
  refine j_if_ne (tgt := 13) C dX10_monomial_6 (by decide) (fun c32 => ?_) (fun c32 => ?_)
  · replace e := ifn c32 e
    refine j_iload_n C dX10_monomial_13 rfl rfl ?_
    refine j_iconst (v := (0 : Int32)) C dX10_monomial_14 (by decide) ?_
    refine j_iconst (v := (1 : Int32)) C dX10_monomial_15 (by decide) ?_
    replace e := ob e
    obtain ⟨x30, ex30, e⟩ := e
    refine j_callS (As := [.int l2, .int (0 : Int32), .int (1 : Int32)]) (na := 3) (st := [.ref l0]) (k1 := 0) (n1 := 0) C hr (sX10_in ex30) kX10_101 kst_X10_in kini_X10 kc_X10_in (by decide) rfl ⟨(Nat.le_of_ble_eq_true rfl), (Nat.le_of_ble_eq_true rfl)⟩ (Nat.le_of_ble_eq_true rfl) ⟨rfl, rfl, (Nat.le_of_ble_eq_true rfl), (Nat.le_of_ble_eq_true rfl)⟩ dX10_monomial_16 ?_
    rintro _ _ ⟨rfl, rfl⟩
    show jx_J X 0 0 19 [(0, .ref l0), (1, .int l1), (2, .int l2)] [.int x30, .ref l0] h
    refine j_if_eq (tgt := 26) C dX10_monomial_19 (by decide) (fun c31 => ?_) (fun c31 => ?_)
    · replace e := ifp c31 e
      refine j_iconst (v := (2 : Int32)) C dX10_monomial_26 (by decide) ?_
      exact b27 l0 l1 l2 l0 (2 : Int32) h e
    · replace e := ifn c31 e
      refine j_iconst (v := (0 : Int32)) C dX10_monomial_22 (by decide) ?_
      refine j_goto (tgt := 27) C dX10_monomial_23 (by decide) ?_
      exact b27 l0 l1 l2 l0 (0 : Int32) h e
  · replace e := ifp c32 e
    refine j_iconst (v := (1 : Int32)) C dX10_monomial_9 (by decide) ?_
    refine j_goto (tgt := 27) C dX10_monomial_10 (by decide) ?_
    exact b27 l0 l1 l2 l0 (1 : Int32) h e
/-! BorderBasisModel.border(II)I -/
noncomputable def BX10_border_56 (l1 : Int32) (s0 : Nat) (s1 : Int32) (h : jx_H) : Option (Int32 × jx_H) :=
(hal h .int s0 (s1 + l1)).bind fun x1 =>
some (x1, h)
noncomputable def BX10_border_27 (l0 : Nat) (l1 : Int32) (l2 : Int32) (s0 : Nat) (s1 : Int32) (h : jx_H) : Option (Int32 × jx_H) :=
(hp h s0 10 0 (.int s1)).bind fun h2 =>
(hgi h2 l0 10 0).bind fun x3 =>
if x3 ≤ 0 then
 (hgr h2 l0 10 1).bind fun x4 =>
 if l2 = 0 then
  BX10_border_56 l1 x4 (28 : Int32) h2
 else
  BX10_border_56 l1 x4 (42 : Int32) h2
else
 some ((0 : Int32), h2)
noncomputable def FX10_border (l0 : Nat) (l1 : Int32) (l2 : Int32) (h : jx_H) : Option (Int32 × jx_H) :=
(isO h l0 10).bind fun _ =>
(FX10_isBorder l0 l1 h).bind fun x8 =>
if x8 = 0 then
 BX10_border_27 l0 l1 l2 l0 (1 : Int32) h
else
 (FX10_in l2 (0 : Int32) (1 : Int32) h).bind fun x9 =>
 if x9 = 0 then
  BX10_border_27 l0 l1 l2 l0 (2 : Int32) h
 else
  BX10_border_27 l0 l1 l2 l0 (0 : Int32) h
def rmX10_border : Room := { frames := 2, cells := 0, slots := 0, locals := 43 }
set_option maxRecDepth 20000 in
set_option maxHeartbeats 4000000 in
theorem sX10_border {l0 : Nat} {l1 : Int32} {l2 : Int32} {h : jx_H} {r : Int32} {h9 : jx_H} (e : FX10_border l0 l1 l2 h = some (r, h9)) : jx_Ct yX10_border cX10_border 3 (some .int) rmX10_border [.ref l0, .int l1, .int l2] h (fun r' h' => some (.int r) = r' ∧ h9 = h') := by
  refine jx_Ct.of (own := RX10) (by decide) rfl (Nat.le_of_ble_eq_true rfl) (fun X C hq hr hL hN => ?_)
  refine jx_sub (lv' := [(0, .ref l0), (1, .int l1), (2, .int l2)]) [0, 1, 2] rfl ?_
  have b56 : ∀ (y12 : Int32) (y13 : Nat) (y14 : Int32) (h15 : jx_H), BX10_border_56 y12 y13 y14 h15 = some (r, h9) → jx_J X 0 0 56 [(1, .int y12)] [.int y14, .ref y13] h15 := by
    intro y12 y13 y14 h15 e
    unfold BX10_border_56 at e
    refine j_iload_n C dX10_border_56 rfl rfl ?_
    refine j_iadd C dX10_border_57 ?_
    replace e := ob e
    obtain ⟨x16, ex16, e⟩ := e
    refine j_iald C dX10_border_58 ex16 ?_
    cases e
    exact j_iret C hq rfl dX10_border_59 ⟨Nat.le_of_ble_eq_true rfl, Nat.le_of_ble_eq_true rfl⟩ ⟨rfl, rfl⟩
  have b27 : ∀ (y17 : Nat) (y18 : Int32) (y19 : Int32) (y20 : Nat) (y21 : Int32) (h22 : jx_H), BX10_border_27 y17 y18 y19 y20 y21 h22 = some (r, h9) → jx_J X 0 0 27 [(0, .ref y17), (1, .int y18), (2, .int y19)] [.int y21, .ref y20] h22 := by
    intro y17 y18 y19 y20 y21 h22 e
    unfold BX10_border_27 at e
    replace e := ob e
    obtain ⟨h23, eh23, e⟩ := e
    refine j_put (ci := 10) (RC := RX10) (T := TX10) (N := 38) (ty0 := tyX10) 0 C rfl klX10 tyX10_ok nmX10 (Nat.le_of_ble_eq_true rfl) kX10_91 rfl rfl rfl rfl dX10_border_27 eh23 ?_
    refine j_aload_n C dX10_border_30 rfl rfl ?_
    replace e := ob e
    obtain ⟨x24, ex24, e⟩ := e
    refine j_geti (ci := 10) (RC := RX10) (T := TX10) (N := 38) 0 C rfl klX10 (Nat.le_of_ble_eq_true rfl) kX10_91 rfl dX10_border_31 ex24 ?_
    refine j_if_le (tgt := 41) C dX10_border_34 (by decide) (fun c27 => ?_) (fun c27 => ?_)
    · replace e := ifp c27 e
      refine j_aload_n C dX10_border_41 rfl rfl ?_
      replace e := ob e
      obtain ⟨x25, ex25, e⟩ := e
      refine j_getr (ci := 10) (RC := RX10) (T := TX10) (N := 38) 1 C rfl klX10 (Nat.le_of_ble_eq_true rfl) kX10_7 rfl dX10_border_42 ex25 ?_
      refine j_iload_n C dX10_border_45 rfl rfl ?_
      refine j_if_ne (tgt := 54) C dX10_border_46 (by decide) (fun c26 => ?_) (fun c26 => ?_)
      · replace e := ifn c26 e
        refine j_bipush (v := (42 : Int32)) C dX10_border_54 (by decide) ?_
        refine jx_sub (lv' := [(1, .int y18)]) [1] rfl ?_
        exact b56 y18 x25 (42 : Int32) h23 e
      · replace e := ifp c26 e
        refine j_bipush (v := (28 : Int32)) C dX10_border_49 (by decide) ?_
        refine j_goto (tgt := 56) C dX10_border_51 (by decide) ?_
        refine jx_sub (lv' := [(1, .int y18)]) [1] rfl ?_
        exact b56 y18 x25 (28 : Int32) h23 e
    · replace e := ifn c27 e
      refine j_iconst (v := (0 : Int32)) C dX10_border_37 (by decide) ?_
      refine j_goto (tgt := 59) C dX10_border_38 (by decide) ?_
      cases e
      exact j_iret C hq rfl dX10_border_59 ⟨Nat.le_of_ble_eq_true rfl, Nat.le_of_ble_eq_true rfl⟩ ⟨rfl, rfl⟩
  unfold FX10_border at e
  refine j_aload_n C dX10_border_0 rfl rfl ?_
  refine j_aload_n C dX10_border_1 rfl rfl ?_
  refine j_iload_n C dX10_border_2 rfl rfl ?_
  replace e := ob e
  obtain ⟨_, eo28, e⟩ := e
  replace e := ob e
  obtain ⟨x29, ex29, e⟩ := e
  refine j_callV (ci := 10) (RC := RX10) (T := TX10) (N := 38) (As := [.int l1]) (b := l0) (na := 1) (st := [.ref l0]) (k1 := 0) (n1 := 0) C hr (sX10_isBorder ex29) rfl eo28 kX10_356 kim_X10_isBorder ksel_X10_isBorder kini_X10 kc_X10_isBorder (by decide) rfl ⟨(Nat.le_of_ble_eq_true rfl), (Nat.le_of_ble_eq_true rfl)⟩ (Nat.le_of_ble_eq_true rfl) ⟨rfl, rfl, (Nat.le_of_ble_eq_true rfl), (Nat.le_of_ble_eq_true rfl)⟩ dX10_border_3 ?_
  rintro _ _ ⟨rfl, rfl⟩
  show jx_J X 0 0 6 [(0, .ref l0), (1, .int l1), (2, .int l2)] [.int x29, .ref l0] h
  refine j_if_ne (tgt := 13) C dX10_border_6 (by decide) (fun c32 => ?_) (fun c32 => ?_)
  · replace e := ifn c32 e
    refine j_iload_n C dX10_border_13 rfl rfl ?_
    refine j_iconst (v := (0 : Int32)) C dX10_border_14 (by decide) ?_
    refine j_iconst (v := (1 : Int32)) C dX10_border_15 (by decide) ?_
    replace e := ob e
    obtain ⟨x30, ex30, e⟩ := e
    refine j_callS (As := [.int l2, .int (0 : Int32), .int (1 : Int32)]) (na := 3) (st := [.ref l0]) (k1 := 0) (n1 := 0) C hr (sX10_in ex30) kX10_101 kst_X10_in kini_X10 kc_X10_in (by decide) rfl ⟨(Nat.le_of_ble_eq_true rfl), (Nat.le_of_ble_eq_true rfl)⟩ (Nat.le_of_ble_eq_true rfl) ⟨rfl, rfl, (Nat.le_of_ble_eq_true rfl), (Nat.le_of_ble_eq_true rfl)⟩ dX10_border_16 ?_
    rintro _ _ ⟨rfl, rfl⟩
    show jx_J X 0 0 19 [(0, .ref l0), (1, .int l1), (2, .int l2)] [.int x30, .ref l0] h
    refine j_if_eq (tgt := 26) C dX10_border_19 (by decide) (fun c31 => ?_) (fun c31 => ?_)
    · replace e := ifp c31 e
      refine j_iconst (v := (2 : Int32)) C dX10_border_26 (by decide) ?_
      exact b27 l0 l1 l2 l0 (2 : Int32) h e
    · replace e := ifn c31 e
      refine j_iconst (v := (0 : Int32)) C dX10_border_22 (by decide) ?_
      refine j_goto (tgt := 27) C dX10_border_23 (by decide) ?_
      exact b27 l0 l1 l2 l0 (0 : Int32) h e
  · replace e := ifp c32 e
    refine j_iconst (v := (1 : Int32)) C dX10_border_9 (by decide) ?_
    refine j_goto (tgt := 27) C dX10_border_10 (by decide) ?_
    exact b27 l0 l1 l2 l0 (1 : Int32) h e
/-! BorderBasisModel.place(II)I -/
noncomputable def FX10_place (l0 : Nat) (l1 : Int32) (l2 : Int32) (h : jx_H) : Option (Int32 × jx_H) :=
(hp h l0 10 0 (.int (0 : Int32))).bind fun h1 =>
(isO h1 l0 10).bind fun _ =>
(FX10_monomialAt l0 l1 l2 h1).bind fun x3 =>
(isO h1 l0 10).bind fun _ =>
(FX10_borderAt l0 l1 l2 h1).bind fun x5 =>
if x3 = (-1 : Int32) then
 if x5 = (-1 : Int32) then
  some ((-1 : Int32), h1)
 else
  some (((100 : Int32) + x5), h1)
else
 some (x3, h1)
def rmX10_place : Room := { frames := 2, cells := 0, slots := 0, locals := 43 }
set_option maxRecDepth 20000 in
set_option maxHeartbeats 4000000 in
theorem sX10_place {l0 : Nat} {l1 : Int32} {l2 : Int32} {h : jx_H} {r : Int32} {h9 : jx_H} (e : FX10_place l0 l1 l2 h = some (r, h9)) : jx_Ct yX10_place cX10_place 5 (some .int) rmX10_place [.ref l0, .int l1, .int l2] h (fun r' h' => some (.int r) = r' ∧ h9 = h') := by
  refine jx_Ct.of (own := RX10) (by decide) rfl (Nat.le_of_ble_eq_true rfl) (fun X C hq hr hL hN => ?_)
  refine jx_sub (lv' := [(0, .ref l0), (1, .int l1), (2, .int l2)]) [0, 1, 2] rfl ?_
  unfold FX10_place at e
  refine j_aload_n C dX10_place_0 rfl rfl ?_
  refine j_iconst (v := (0 : Int32)) C dX10_place_1 (by decide) ?_
  replace e := ob e
  obtain ⟨h8, eh8, e⟩ := e
  refine j_put (ci := 10) (RC := RX10) (T := TX10) (N := 38) (ty0 := tyX10) 0 C rfl klX10 tyX10_ok nmX10 (Nat.le_of_ble_eq_true rfl) kX10_91 rfl rfl rfl rfl dX10_place_2 eh8 ?_
  refine j_aload_n C dX10_place_5 rfl rfl ?_
  refine j_iload_n C dX10_place_6 rfl rfl ?_
  refine j_iload_n C dX10_place_7 rfl rfl ?_
  replace e := ob e
  obtain ⟨_, eo9, e⟩ := e
  replace e := ob e
  obtain ⟨x10, ex10, e⟩ := e
  refine j_callV (ci := 10) (RC := RX10) (T := TX10) (N := 38) (As := [.int l1, .int l2]) (b := l0) (na := 2) (st := []) (k1 := 0) (n1 := 0) C hr (sX10_monomialAt ex10) rfl eo9 kX10_108 kim_X10_monomialAt ksel_X10_monomialAt kini_X10 kc_X10_monomialAt (by decide) rfl ⟨(Nat.le_of_ble_eq_true rfl), (Nat.le_of_ble_eq_true rfl)⟩ (Nat.le_of_ble_eq_true rfl) ⟨rfl, rfl, (Nat.le_of_ble_eq_true rfl), (Nat.le_of_ble_eq_true rfl)⟩ dX10_place_8 ?_
  rintro _ _ ⟨rfl, rfl⟩
  show jx_J X 0 0 11 [(0, .ref l0), (1, .int l1), (2, .int l2)] [.int x10] h8
  refine j_istore_n (lv1 := [(3, .int x10), (0, .ref l0), (1, .int l1), (2, .int l2)]) C hL dX10_place_11 rfl (Nat.le_of_ble_eq_true rfl) rfl ?_
  refine j_aload_n C dX10_place_12 rfl rfl ?_
  refine j_iload_n C dX10_place_13 rfl rfl ?_
  refine j_iload_n C dX10_place_14 rfl rfl ?_
  replace e := ob e
  obtain ⟨_, eo11, e⟩ := e
  replace e := ob e
  obtain ⟨x12, ex12, e⟩ := e
  refine j_callV (ci := 10) (RC := RX10) (T := TX10) (N := 38) (As := [.int l1, .int l2]) (b := l0) (na := 2) (st := []) (k1 := 0) (n1 := 0) C hr (sX10_borderAt ex12) rfl eo11 kX10_119 kim_X10_borderAt ksel_X10_borderAt kini_X10 kc_X10_borderAt (by decide) rfl ⟨(Nat.le_of_ble_eq_true rfl), (Nat.le_of_ble_eq_true rfl)⟩ (Nat.le_of_ble_eq_true rfl) ⟨rfl, rfl, (Nat.le_of_ble_eq_true rfl), (Nat.le_of_ble_eq_true rfl)⟩ dX10_place_15 ?_
  rintro _ _ ⟨rfl, rfl⟩
  show jx_J X 0 0 18 [(3, .int x10), (0, .ref l0), (1, .int l1), (2, .int l2)] [.int x12] h8
  refine j_istore (lv1 := [(4, .int x12), (3, .int x10), (0, .ref l0), (1, .int l1), (2, .int l2)]) C hL dX10_place_18 (Nat.le_of_ble_eq_true rfl) rfl ?_
  refine j_iload_n C dX10_place_20 rfl rfl ?_
  refine j_iconst (v := (-1 : Int32)) C dX10_place_21 (by decide) ?_
  refine j_icmp_eq (tgt := 29) C dX10_place_22 (by decide) (fun c14 => ?_) (fun c14 => ?_)
  · replace e := ifp c14 e
    refine j_iload C dX10_place_29 rfl ?_
    refine j_iconst (v := (-1 : Int32)) C dX10_place_31 (by decide) ?_
    refine j_icmp_eq (tgt := 43) C dX10_place_32 (by decide) (fun c13 => ?_) (fun c13 => ?_)
    · replace e := ifp c13 e
      refine j_iconst (v := (-1 : Int32)) C dX10_place_43 (by decide) ?_
      cases e
      exact j_iret C hq rfl dX10_place_44 ⟨Nat.le_of_ble_eq_true rfl, Nat.le_of_ble_eq_true rfl⟩ ⟨rfl, rfl⟩
    · replace e := ifn c13 e
      refine j_bipush (v := (100 : Int32)) C dX10_place_35 (by decide) ?_
      refine j_iload C dX10_place_37 rfl ?_
      refine j_iadd C dX10_place_39 ?_
      refine j_goto (tgt := 44) C dX10_place_40 (by decide) ?_
      cases e
      exact j_iret C hq rfl dX10_place_44 ⟨Nat.le_of_ble_eq_true rfl, Nat.le_of_ble_eq_true rfl⟩ ⟨rfl, rfl⟩
  · replace e := ifn c14 e
    refine j_iload_n C dX10_place_25 rfl rfl ?_
    refine j_goto (tgt := 44) C dX10_place_26 (by decide) ?_
    cases e
    exact j_iret C hq rfl dX10_place_44 ⟨Nat.le_of_ble_eq_true rfl, Nat.le_of_ble_eq_true rfl⟩ ⟨rfl, rfl⟩
/-! BorderBasisModel.isNumber(I)Z -/
noncomputable def FX10_isNumber (l0 : Nat) (l1 : Int32) (h : jx_H) : Option (Int32) :=
(isO h l0 10).bind fun _ =>
(FX10_p l0 h).bind fun x2 =>
(FX10_in l1 (0 : Int32) (x2 - (1 : Int32)) h).bind fun x3 =>
if x3 = 0 ∨ x3 = 1 then some x3 else none
def rmX10_isNumber : Room := { frames := 1, cells := 0, slots := 0, locals := 22 }
set_option maxRecDepth 20000 in
set_option maxHeartbeats 4000000 in
theorem sX10_isNumber {l0 : Nat} {l1 : Int32} {h : jx_H} {r : Int32}  (e : FX10_isNumber l0 l1 h = some r) : jx_Ct yX10_isNumber cX10_isNumber 2 (some .boolean) rmX10_isNumber [.ref l0, .int l1] h (fun r' h' => some (.int r) = r' ∧ h = h') := by
  refine jx_Ct.of (own := RX10) (by decide) rfl (Nat.le_of_ble_eq_true rfl) (fun X C hq hr hL hN => ?_)
  refine jx_sub (lv' := [(0, .ref l0), (1, .int l1)]) [0, 1] rfl ?_
  unfold FX10_isNumber at e
  refine j_iload_n C dX10_isNumber_0 rfl rfl ?_
  refine j_iconst (v := (0 : Int32)) C dX10_isNumber_1 (by decide) ?_
  refine j_aload_n C dX10_isNumber_2 rfl rfl ?_
  replace e := ob e
  obtain ⟨_, eo5, e⟩ := e
  replace e := ob e
  obtain ⟨x6, ex6, e⟩ := e
  refine j_callV (ci := 10) (RC := RX10) (T := TX10) (N := 38) (As := []) (b := l0) (na := 0) (st := [.int (0 : Int32), .int l1]) (k1 := 0) (n1 := 0) C hr (sX10_p ex6) rfl eo5 kX10_97 kim_X10_p ksel_X10_p kini_X10 kc_X10_p (by decide) rfl ⟨(Nat.le_of_ble_eq_true rfl), (Nat.le_of_ble_eq_true rfl)⟩ (Nat.le_of_ble_eq_true rfl) ⟨rfl, rfl, (Nat.le_of_ble_eq_true rfl), (Nat.le_of_ble_eq_true rfl)⟩ dX10_isNumber_3 ?_
  rintro _ _ ⟨rfl, rfl⟩
  show jx_J X 0 0 6 [(0, .ref l0), (1, .int l1)] [.int x6, .int (0 : Int32), .int l1] h
  refine j_iconst (v := (1 : Int32)) C dX10_isNumber_6 (by decide) ?_
  refine j_isub C dX10_isNumber_7 ?_
  replace e := ob e
  obtain ⟨x7, ex7, e⟩ := e
  refine j_callS (As := [.int l1, .int (0 : Int32), .int (x6 - (1 : Int32))]) (na := 3) (st := []) (k1 := 0) (n1 := 0) C hr (sX10_in ex7) kX10_101 kst_X10_in kini_X10 kc_X10_in (by decide) rfl ⟨(Nat.le_of_ble_eq_true rfl), (Nat.le_of_ble_eq_true rfl)⟩ (Nat.le_of_ble_eq_true rfl) ⟨rfl, rfl, (Nat.le_of_ble_eq_true rfl), (Nat.le_of_ble_eq_true rfl)⟩ dX10_isNumber_8 ?_
  rintro _ _ ⟨rfl, rfl⟩
  show jx_J X 0 0 11 [(0, .ref l0), (1, .int l1)] [.int x7] h
  by_cases c8 : ¬ (x7 = 0 ∨ x7 = 1)
  · exact nos (ifn c8 e)
  replace c8 := Classical.not_not.mp c8
  replace e := ifp c8 e
  cases e
  exact j_iret C hq (jx_bool c8) dX10_isNumber_11 ⟨Nat.le_of_ble_eq_true rfl, Nat.le_of_ble_eq_true rfl⟩ ⟨rfl, rfl⟩
/-! BorderBasisModel.setRule(III)I -/
noncomputable def BX10_setRule_34 (l0 : Nat) (l1 : Int32) (l2 : Int32) (l3 : Int32) (s0 : Nat) (s1 : Int32) (h : jx_H) : Option (Int32 × jx_H) :=
(hp h s0 10 0 (.int s1)).bind fun h1 =>
(hgi h1 l0 10 0).bind fun x2 =>
if x2 ≤ 0 then
 (isO h1 l0 10).bind fun _ =>
 (FX10_keeps l0 (2 : Int32) h1).bind fun h4 =>
 (hgr h4 l0 10 1).bind fun x5 =>
 (FX10_ruleAt l1 l2 h4).bind fun x6 =>
 (hal h4 .int x5 x6).bind fun x7 =>
 (hgr h4 l0 10 1).bind fun x8 =>
 (FX10_ruleAt l1 l2 h4).bind fun x9 =>
 (has h4 .int x8 x9 l3).bind fun h10 =>
 some (x7, h10)
else
 some ((0 : Int32), h1)
noncomputable def BX10_setRule_17 (l0 : Nat) (l1 : Int32) (l2 : Int32) (l3 : Int32) (s0 : Nat) (h : jx_H) : Option (Int32 × jx_H) :=
BX10_setRule_34 l0 l1 l2 l3 s0 (1 : Int32) h
noncomputable def FX10_setRule (l0 : Nat) (l1 : Int32) (l2 : Int32) (l3 : Int32) (h : jx_H) : Option (Int32 × jx_H) :=
(isO h l0 10).bind fun _ =>
(FX10_isBorder l0 l1 h).bind fun x13 =>
if x13 = 0 then
 BX10_setRule_17 l0 l1 l2 l3 l0 h
else
 (isO h l0 10).bind fun _ =>
 (FX10_isMonomial l0 l2 h).bind fun x15 =>
 if x15 = 0 then
  BX10_setRule_17 l0 l1 l2 l3 l0 h
 else
  (isO h l0 10).bind fun _ =>
  (FX10_isNumber l0 l3 h).bind fun x17 =>
  if x17 = 0 then
   BX10_setRule_34 l0 l1 l2 l3 l0 (2 : Int32) h
  else
   BX10_setRule_34 l0 l1 l2 l3 l0 (0 : Int32) h
def rmX10_setRule : Room := { frames := 2, cells := 0, slots := 0, locals := 46 }
set_option maxRecDepth 20000 in
set_option maxHeartbeats 4000000 in
theorem sX10_setRule {l0 : Nat} {l1 : Int32} {l2 : Int32} {l3 : Int32} {h : jx_H} {r : Int32} {h9 : jx_H} (e : FX10_setRule l0 l1 l2 l3 h = some (r, h9)) : jx_Ct yX10_setRule cX10_setRule 5 (some .int) rmX10_setRule [.ref l0, .int l1, .int l2, .int l3] h (fun r' h' => some (.int r) = r' ∧ h9 = h') := by
  refine jx_Ct.of (own := RX10) (by decide) rfl (Nat.le_of_ble_eq_true rfl) (fun X C hq hr hL hN => ?_)
  refine jx_sub (lv' := [(0, .ref l0), (1, .int l1), (2, .int l2), (3, .int l3)]) [0, 1, 2, 3] rfl ?_
  have b34 : ∀ (y21 : Nat) (y22 : Int32) (y23 : Int32) (y24 : Int32) (y25 : Nat) (y26 : Int32) (h27 : jx_H), BX10_setRule_34 y21 y22 y23 y24 y25 y26 h27 = some (r, h9) → jx_J X 0 0 34 [(0, .ref y21), (1, .int y22), (2, .int y23), (3, .int y24)] [.int y26, .ref y25] h27 := by
    intro y21 y22 y23 y24 y25 y26 h27 e
    unfold BX10_setRule_34 at e
    replace e := ob e
    obtain ⟨h28, eh28, e⟩ := e
    refine j_put (ci := 10) (RC := RX10) (T := TX10) (N := 38) (ty0 := tyX10) 0 C rfl klX10 tyX10_ok nmX10 (Nat.le_of_ble_eq_true rfl) kX10_91 rfl rfl rfl rfl dX10_setRule_34 eh28 ?_
    refine j_aload_n C dX10_setRule_37 rfl rfl ?_
    replace e := ob e
    obtain ⟨x29, ex29, e⟩ := e
    refine j_geti (ci := 10) (RC := RX10) (T := TX10) (N := 38) 0 C rfl klX10 (Nat.le_of_ble_eq_true rfl) kX10_91 rfl dX10_setRule_38 ex29 ?_
    refine j_if_le (tgt := 46) C dX10_setRule_41 (by decide) (fun c38 => ?_) (fun c38 => ?_)
    · replace e := ifp c38 e
      refine j_aload_n C dX10_setRule_46 rfl rfl ?_
      refine j_iconst (v := (2 : Int32)) C dX10_setRule_47 (by decide) ?_
      replace e := ob e
      obtain ⟨_, eo30, e⟩ := e
      replace e := ob e
      obtain ⟨h31, eh31, e⟩ := e
      refine j_callV (ci := 10) (RC := RX10) (T := TX10) (N := 38) (As := [.int (2 : Int32)]) (b := y21) (na := 1) (st := []) (k1 := 0) (n1 := 0) C hr (sX10_keeps eh31) rfl eo30 kX10_347 kim_X10_keeps ksel_X10_keeps kini_X10 kc_X10_keeps (by decide) rfl ⟨(Nat.le_of_ble_eq_true rfl), (Nat.le_of_ble_eq_true rfl)⟩ (Nat.le_of_ble_eq_true rfl) ⟨rfl, rfl, (Nat.le_of_ble_eq_true rfl), (Nat.le_of_ble_eq_true rfl)⟩ dX10_setRule_48 ?_
      rintro _ _ ⟨rfl, rfl⟩
      show jx_J X 0 0 51 [(0, .ref y21), (1, .int y22), (2, .int y23), (3, .int y24)] [] h31
      refine j_aload_n C dX10_setRule_51 rfl rfl ?_
      replace e := ob e
      obtain ⟨x32, ex32, e⟩ := e
      refine j_getr (ci := 10) (RC := RX10) (T := TX10) (N := 38) 1 C rfl klX10 (Nat.le_of_ble_eq_true rfl) kX10_7 rfl dX10_setRule_52 ex32 ?_
      refine j_iload_n C dX10_setRule_55 rfl rfl ?_
      refine j_iload_n C dX10_setRule_56 rfl rfl ?_
      replace e := ob e
      obtain ⟨x33, ex33, e⟩ := e
      refine j_callS (As := [.int y22, .int y23]) (na := 2) (st := [.ref x32]) (k1 := 0) (n1 := 0) C hr (sX10_ruleAt ex33) kX10_130 kst_X10_ruleAt kini_X10 kc_X10_ruleAt (by decide) rfl ⟨(Nat.le_of_ble_eq_true rfl), (Nat.le_of_ble_eq_true rfl)⟩ (Nat.le_of_ble_eq_true rfl) ⟨rfl, rfl, (Nat.le_of_ble_eq_true rfl), (Nat.le_of_ble_eq_true rfl)⟩ dX10_setRule_57 ?_
      rintro _ _ ⟨rfl, rfl⟩
      show jx_J X 0 0 60 [(0, .ref y21), (1, .int y22), (2, .int y23), (3, .int y24)] [.int x33, .ref x32] h31
      replace e := ob e
      obtain ⟨x34, ex34, e⟩ := e
      refine j_iald C dX10_setRule_60 ex34 ?_
      refine j_istore (lv1 := [(4, .int x34), (0, .ref y21), (1, .int y22), (2, .int y23), (3, .int y24)]) C hL dX10_setRule_61 (Nat.le_of_ble_eq_true rfl) rfl ?_
      refine j_aload_n C dX10_setRule_63 rfl rfl ?_
      replace e := ob e
      obtain ⟨x35, ex35, e⟩ := e
      refine j_getr (ci := 10) (RC := RX10) (T := TX10) (N := 38) 1 C rfl klX10 (Nat.le_of_ble_eq_true rfl) kX10_7 rfl dX10_setRule_64 ex35 ?_
      refine j_iload_n C dX10_setRule_67 rfl rfl ?_
      refine j_iload_n C dX10_setRule_68 rfl rfl ?_
      replace e := ob e
      obtain ⟨x36, ex36, e⟩ := e
      refine j_callS (As := [.int y22, .int y23]) (na := 2) (st := [.ref x35]) (k1 := 0) (n1 := 0) C hr (sX10_ruleAt ex36) kX10_130 kst_X10_ruleAt kini_X10 kc_X10_ruleAt (by decide) rfl ⟨(Nat.le_of_ble_eq_true rfl), (Nat.le_of_ble_eq_true rfl)⟩ (Nat.le_of_ble_eq_true rfl) ⟨rfl, rfl, (Nat.le_of_ble_eq_true rfl), (Nat.le_of_ble_eq_true rfl)⟩ dX10_setRule_69 ?_
      rintro _ _ ⟨rfl, rfl⟩
      show jx_J X 0 0 72 [(4, .int x34), (0, .ref y21), (1, .int y22), (2, .int y23), (3, .int y24)] [.int x36, .ref x35] h31
      refine j_iload_n C dX10_setRule_72 rfl rfl ?_
      replace e := ob e
      obtain ⟨h37, eh37, e⟩ := e
      refine j_iast C dX10_setRule_73 eh37 ?_
      refine j_iload C dX10_setRule_74 rfl ?_
      cases e
      exact j_iret C hq rfl dX10_setRule_76 ⟨Nat.le_of_ble_eq_true rfl, Nat.le_of_ble_eq_true rfl⟩ ⟨rfl, rfl⟩
    · replace e := ifn c38 e
      refine j_iconst (v := (0 : Int32)) C dX10_setRule_44 (by decide) ?_
      cases e
      exact j_iret C hq rfl dX10_setRule_45 ⟨Nat.le_of_ble_eq_true rfl, Nat.le_of_ble_eq_true rfl⟩ ⟨rfl, rfl⟩
  have b17 : ∀ (y39 : Nat) (y40 : Int32) (y41 : Int32) (y42 : Int32) (y43 : Nat) (h44 : jx_H), BX10_setRule_17 y39 y40 y41 y42 y43 h44 = some (r, h9) → jx_J X 0 0 17 [(0, .ref y39), (1, .int y40), (2, .int y41), (3, .int y42)] [.ref y43] h44 := by
    intro y39 y40 y41 y42 y43 h44 e
    unfold BX10_setRule_17 at e
    refine j_iconst (v := (1 : Int32)) C dX10_setRule_17 (by decide) ?_
    refine j_goto (tgt := 34) C dX10_setRule_18 (by decide) ?_
    exact b34 y39 y40 y41 y42 y43 (1 : Int32) h44 e
  unfold FX10_setRule at e
  refine j_aload_n C dX10_setRule_0 rfl rfl ?_
  refine j_aload_n C dX10_setRule_1 rfl rfl ?_
  refine j_iload_n C dX10_setRule_2 rfl rfl ?_
  replace e := ob e
  obtain ⟨_, eo45, e⟩ := e
  replace e := ob e
  obtain ⟨x46, ex46, e⟩ := e
  refine j_callV (ci := 10) (RC := RX10) (T := TX10) (N := 38) (As := [.int l1]) (b := l0) (na := 1) (st := [.ref l0]) (k1 := 0) (n1 := 0) C hr (sX10_isBorder ex46) rfl eo45 kX10_356 kim_X10_isBorder ksel_X10_isBorder kini_X10 kc_X10_isBorder (by decide) rfl ⟨(Nat.le_of_ble_eq_true rfl), (Nat.le_of_ble_eq_true rfl)⟩ (Nat.le_of_ble_eq_true rfl) ⟨rfl, rfl, (Nat.le_of_ble_eq_true rfl), (Nat.le_of_ble_eq_true rfl)⟩ dX10_setRule_3 ?_
  rintro _ _ ⟨rfl, rfl⟩
  show jx_J X 0 0 6 [(0, .ref l0), (1, .int l1), (2, .int l2), (3, .int l3)] [.int x46, .ref l0] h
  refine j_if_eq (tgt := 17) C dX10_setRule_6 (by decide) (fun c53 => ?_) (fun c53 => ?_)
  · replace e := ifp c53 e
    exact b17 l0 l1 l2 l3 l0 h e
  · replace e := ifn c53 e
    refine j_aload_n C dX10_setRule_9 rfl rfl ?_
    refine j_iload_n C dX10_setRule_10 rfl rfl ?_
    replace e := ob e
    obtain ⟨_, eo47, e⟩ := e
    replace e := ob e
    obtain ⟨x48, ex48, e⟩ := e
    refine j_callV (ci := 10) (RC := RX10) (T := TX10) (N := 38) (As := [.int l2]) (b := l0) (na := 1) (st := [.ref l0]) (k1 := 0) (n1 := 0) C hr (sX10_isMonomial ex48) rfl eo47 kX10_353 kim_X10_isMonomial ksel_X10_isMonomial kini_X10 kc_X10_isMonomial (by decide) rfl ⟨(Nat.le_of_ble_eq_true rfl), (Nat.le_of_ble_eq_true rfl)⟩ (Nat.le_of_ble_eq_true rfl) ⟨rfl, rfl, (Nat.le_of_ble_eq_true rfl), (Nat.le_of_ble_eq_true rfl)⟩ dX10_setRule_11 ?_
    rintro _ _ ⟨rfl, rfl⟩
    show jx_J X 0 0 14 [(0, .ref l0), (1, .int l1), (2, .int l2), (3, .int l3)] [.int x48, .ref l0] h
    refine j_if_ne (tgt := 21) C dX10_setRule_14 (by decide) (fun c52 => ?_) (fun c52 => ?_)
    · replace e := ifn c52 e
      refine j_aload_n C dX10_setRule_21 rfl rfl ?_
      refine j_iload_n C dX10_setRule_22 rfl rfl ?_
      replace e := ob e
      obtain ⟨_, eo49, e⟩ := e
      replace e := ob e
      obtain ⟨x50, ex50, e⟩ := e
      refine j_callV (ci := 10) (RC := RX10) (T := TX10) (N := 38) (As := [.int l3]) (b := l0) (na := 1) (st := [.ref l0]) (k1 := 0) (n1 := 0) C hr (sX10_isNumber ex50) rfl eo49 kX10_359 kim_X10_isNumber ksel_X10_isNumber kini_X10 kc_X10_isNumber (by decide) rfl ⟨(Nat.le_of_ble_eq_true rfl), (Nat.le_of_ble_eq_true rfl)⟩ (Nat.le_of_ble_eq_true rfl) ⟨rfl, rfl, (Nat.le_of_ble_eq_true rfl), (Nat.le_of_ble_eq_true rfl)⟩ dX10_setRule_23 ?_
      rintro _ _ ⟨rfl, rfl⟩
      show jx_J X 0 0 26 [(0, .ref l0), (1, .int l1), (2, .int l2), (3, .int l3)] [.int x50, .ref l0] h
      refine j_if_eq (tgt := 33) C dX10_setRule_26 (by decide) (fun c51 => ?_) (fun c51 => ?_)
      · replace e := ifp c51 e
        refine j_iconst (v := (2 : Int32)) C dX10_setRule_33 (by decide) ?_
        exact b34 l0 l1 l2 l3 l0 (2 : Int32) h e
      · replace e := ifn c51 e
        refine j_iconst (v := (0 : Int32)) C dX10_setRule_29 (by decide) ?_
        refine j_goto (tgt := 34) C dX10_setRule_30 (by decide) ?_
        exact b34 l0 l1 l2 l3 l0 (0 : Int32) h e
    · replace e := ifp c52 e
      exact b17 l0 l1 l2 l3 l0 h e
/-! BorderBasisModel.rule(II)I -/
noncomputable def BX10_rule_22 (l0 : Nat) (l1 : Int32) (l2 : Int32) (s0 : Nat) (s1 : Int32) (h : jx_H) : Option (Int32 × jx_H) :=
(hp h s0 10 0 (.int s1)).bind fun h1 =>
(hgi h1 l0 10 0).bind fun x2 =>
if x2 ≤ 0 then
 (hgr h1 l0 10 1).bind fun x3 =>
 (FX10_ruleAt l1 l2 h1).bind fun x4 =>
 (hal h1 .int x3 x4).bind fun x5 =>
 some (x5, h1)
else
 some ((0 : Int32), h1)
noncomputable def BX10_rule_21 (l0 : Nat) (l1 : Int32) (l2 : Int32) (s0 : Nat) (h : jx_H) : Option (Int32 × jx_H) :=
BX10_rule_22 l0 l1 l2 s0 (1 : Int32) h
noncomputable def FX10_rule (l0 : Nat) (l1 : Int32) (l2 : Int32) (h : jx_H) : Option (Int32 × jx_H) :=
(isO h l0 10).bind fun _ =>
(FX10_isBorder l0 l1 h).bind fun x8 =>
if x8 = 0 then
 BX10_rule_21 l0 l1 l2 l0 h
else
 (isO h l0 10).bind fun _ =>
 (FX10_isMonomial l0 l2 h).bind fun x10 =>
 if x10 = 0 then
  BX10_rule_21 l0 l1 l2 l0 h
 else
  BX10_rule_22 l0 l1 l2 l0 (0 : Int32) h
def rmX10_rule : Room := { frames := 2, cells := 0, slots := 0, locals := 43 }
set_option maxRecDepth 20000 in
set_option maxHeartbeats 4000000 in
theorem sX10_rule {l0 : Nat} {l1 : Int32} {l2 : Int32} {h : jx_H} {r : Int32} {h9 : jx_H} (e : FX10_rule l0 l1 l2 h = some (r, h9)) : jx_Ct yX10_rule cX10_rule 3 (some .int) rmX10_rule [.ref l0, .int l1, .int l2] h (fun r' h' => some (.int r) = r' ∧ h9 = h') := by
  refine jx_Ct.of (own := RX10) (by decide) rfl (Nat.le_of_ble_eq_true rfl) (fun X C hq hr hL hN => ?_)
  refine jx_sub (lv' := [(0, .ref l0), (1, .int l1), (2, .int l2)]) [0, 1, 2] rfl ?_
  have b22 : ∀ (y13 : Nat) (y14 : Int32) (y15 : Int32) (y16 : Nat) (y17 : Int32) (h18 : jx_H), BX10_rule_22 y13 y14 y15 y16 y17 h18 = some (r, h9) → jx_J X 0 0 22 [(0, .ref y13), (1, .int y14), (2, .int y15)] [.int y17, .ref y16] h18 := by
    intro y13 y14 y15 y16 y17 h18 e
    unfold BX10_rule_22 at e
    replace e := ob e
    obtain ⟨h19, eh19, e⟩ := e
    refine j_put (ci := 10) (RC := RX10) (T := TX10) (N := 38) (ty0 := tyX10) 0 C rfl klX10 tyX10_ok nmX10 (Nat.le_of_ble_eq_true rfl) kX10_91 rfl rfl rfl rfl dX10_rule_22 eh19 ?_
    refine j_aload_n C dX10_rule_25 rfl rfl ?_
    replace e := ob e
    obtain ⟨x20, ex20, e⟩ := e
    refine j_geti (ci := 10) (RC := RX10) (T := TX10) (N := 38) 0 C rfl klX10 (Nat.le_of_ble_eq_true rfl) kX10_91 rfl dX10_rule_26 ex20 ?_
    refine j_if_le (tgt := 36) C dX10_rule_29 (by decide) (fun c24 => ?_) (fun c24 => ?_)
    · replace e := ifp c24 e
      refine j_aload_n C dX10_rule_36 rfl rfl ?_
      replace e := ob e
      obtain ⟨x21, ex21, e⟩ := e
      refine j_getr (ci := 10) (RC := RX10) (T := TX10) (N := 38) 1 C rfl klX10 (Nat.le_of_ble_eq_true rfl) kX10_7 rfl dX10_rule_37 ex21 ?_
      refine j_iload_n C dX10_rule_40 rfl rfl ?_
      refine j_iload_n C dX10_rule_41 rfl rfl ?_
      replace e := ob e
      obtain ⟨x22, ex22, e⟩ := e
      refine j_callS (As := [.int y14, .int y15]) (na := 2) (st := [.ref x21]) (k1 := 0) (n1 := 0) C hr (sX10_ruleAt ex22) kX10_130 kst_X10_ruleAt kini_X10 kc_X10_ruleAt (by decide) rfl ⟨(Nat.le_of_ble_eq_true rfl), (Nat.le_of_ble_eq_true rfl)⟩ (Nat.le_of_ble_eq_true rfl) ⟨rfl, rfl, (Nat.le_of_ble_eq_true rfl), (Nat.le_of_ble_eq_true rfl)⟩ dX10_rule_42 ?_
      rintro _ _ ⟨rfl, rfl⟩
      show jx_J X 0 0 45 [(0, .ref y13), (1, .int y14), (2, .int y15)] [.int x22, .ref x21] h19
      replace e := ob e
      obtain ⟨x23, ex23, e⟩ := e
      refine j_iald C dX10_rule_45 ex23 ?_
      cases e
      exact j_iret C hq rfl dX10_rule_46 ⟨Nat.le_of_ble_eq_true rfl, Nat.le_of_ble_eq_true rfl⟩ ⟨rfl, rfl⟩
    · replace e := ifn c24 e
      refine j_iconst (v := (0 : Int32)) C dX10_rule_32 (by decide) ?_
      refine j_goto (tgt := 46) C dX10_rule_33 (by decide) ?_
      cases e
      exact j_iret C hq rfl dX10_rule_46 ⟨Nat.le_of_ble_eq_true rfl, Nat.le_of_ble_eq_true rfl⟩ ⟨rfl, rfl⟩
  have b21 : ∀ (y25 : Nat) (y26 : Int32) (y27 : Int32) (y28 : Nat) (h29 : jx_H), BX10_rule_21 y25 y26 y27 y28 h29 = some (r, h9) → jx_J X 0 0 21 [(0, .ref y25), (1, .int y26), (2, .int y27)] [.ref y28] h29 := by
    intro y25 y26 y27 y28 h29 e
    unfold BX10_rule_21 at e
    refine j_iconst (v := (1 : Int32)) C dX10_rule_21 (by decide) ?_
    exact b22 y25 y26 y27 y28 (1 : Int32) h29 e
  unfold FX10_rule at e
  refine j_aload_n C dX10_rule_0 rfl rfl ?_
  refine j_aload_n C dX10_rule_1 rfl rfl ?_
  refine j_iload_n C dX10_rule_2 rfl rfl ?_
  replace e := ob e
  obtain ⟨_, eo30, e⟩ := e
  replace e := ob e
  obtain ⟨x31, ex31, e⟩ := e
  refine j_callV (ci := 10) (RC := RX10) (T := TX10) (N := 38) (As := [.int l1]) (b := l0) (na := 1) (st := [.ref l0]) (k1 := 0) (n1 := 0) C hr (sX10_isBorder ex31) rfl eo30 kX10_356 kim_X10_isBorder ksel_X10_isBorder kini_X10 kc_X10_isBorder (by decide) rfl ⟨(Nat.le_of_ble_eq_true rfl), (Nat.le_of_ble_eq_true rfl)⟩ (Nat.le_of_ble_eq_true rfl) ⟨rfl, rfl, (Nat.le_of_ble_eq_true rfl), (Nat.le_of_ble_eq_true rfl)⟩ dX10_rule_3 ?_
  rintro _ _ ⟨rfl, rfl⟩
  show jx_J X 0 0 6 [(0, .ref l0), (1, .int l1), (2, .int l2)] [.int x31, .ref l0] h
  refine j_if_eq (tgt := 21) C dX10_rule_6 (by decide) (fun c35 => ?_) (fun c35 => ?_)
  · replace e := ifp c35 e
    exact b21 l0 l1 l2 l0 h e
  · replace e := ifn c35 e
    refine j_aload_n C dX10_rule_9 rfl rfl ?_
    refine j_iload_n C dX10_rule_10 rfl rfl ?_
    replace e := ob e
    obtain ⟨_, eo32, e⟩ := e
    replace e := ob e
    obtain ⟨x33, ex33, e⟩ := e
    refine j_callV (ci := 10) (RC := RX10) (T := TX10) (N := 38) (As := [.int l2]) (b := l0) (na := 1) (st := [.ref l0]) (k1 := 0) (n1 := 0) C hr (sX10_isMonomial ex33) rfl eo32 kX10_353 kim_X10_isMonomial ksel_X10_isMonomial kini_X10 kc_X10_isMonomial (by decide) rfl ⟨(Nat.le_of_ble_eq_true rfl), (Nat.le_of_ble_eq_true rfl)⟩ (Nat.le_of_ble_eq_true rfl) ⟨rfl, rfl, (Nat.le_of_ble_eq_true rfl), (Nat.le_of_ble_eq_true rfl)⟩ dX10_rule_11 ?_
    rintro _ _ ⟨rfl, rfl⟩
    show jx_J X 0 0 14 [(0, .ref l0), (1, .int l1), (2, .int l2)] [.int x33, .ref l0] h
    refine j_if_eq (tgt := 21) C dX10_rule_14 (by decide) (fun c34 => ?_) (fun c34 => ?_)
    · replace e := ifp c34 e
      exact b21 l0 l1 l2 l0 h e
    · replace e := ifn c34 e
      refine j_iconst (v := (0 : Int32)) C dX10_rule_17 (by decide) ?_
      refine j_goto (tgt := 22) C dX10_rule_18 (by decide) ?_
      exact b22 l0 l1 l2 l0 (0 : Int32) h e
/-! BorderBasisModel.value(III)I -/
noncomputable def BX10_value_34 (l0 : Nat) (l1 : Int32) (l2 : Int32) (l3 : Int32) (s0 : Nat) (s1 : Int32) (h : jx_H) : Option (Int32 × jx_H) :=
(hp h s0 10 0 (.int s1)).bind fun h1 =>
(hgi h1 l0 10 0).bind fun x2 =>
if x2 ≤ 0 then
 (isO h1 l0 10).bind fun _ =>
 (FX10_laysPowers l0 l2 l3 h1).bind fun h4 =>
 (isO h4 l0 10).bind fun _ =>
 (FX10_valueOf l0 l1 h4).bind fun x6 =>
 some (x6, h4)
else
 some ((0 : Int32), h1)
noncomputable def BX10_value_33 (l0 : Nat) (l1 : Int32) (l2 : Int32) (l3 : Int32) (s0 : Nat) (h : jx_H) : Option (Int32 × jx_H) :=
BX10_value_34 l0 l1 l2 l3 s0 (2 : Int32) h
noncomputable def FX10_value (l0 : Nat) (l1 : Int32) (l2 : Int32) (l3 : Int32) (h : jx_H) : Option (Int32 × jx_H) :=
(isO h l0 10).bind fun _ =>
(FX10_isBorder l0 l1 h).bind fun x9 =>
if x9 = 0 then
 BX10_value_34 l0 l1 l2 l3 l0 (1 : Int32) h
else
 (isO h l0 10).bind fun _ =>
 (FX10_isNumber l0 l2 h).bind fun x11 =>
 if x11 = 0 then
  BX10_value_33 l0 l1 l2 l3 l0 h
 else
  (isO h l0 10).bind fun _ =>
  (FX10_isNumber l0 l3 h).bind fun x13 =>
  if x13 = 0 then
   BX10_value_33 l0 l1 l2 l3 l0 h
  else
   BX10_value_34 l0 l1 l2 l3 l0 (0 : Int32) h
def rmX10_value : Room := { frames := 3, cells := 0, slots := 0, locals := 66 }
set_option maxRecDepth 20000 in
set_option maxHeartbeats 4000000 in
theorem sX10_value {l0 : Nat} {l1 : Int32} {l2 : Int32} {l3 : Int32} {h : jx_H} {r : Int32} {h9 : jx_H} (e : FX10_value l0 l1 l2 l3 h = some (r, h9)) : jx_Ct yX10_value cX10_value 4 (some .int) rmX10_value [.ref l0, .int l1, .int l2, .int l3] h (fun r' h' => some (.int r) = r' ∧ h9 = h') := by
  refine jx_Ct.of (own := RX10) (by decide) rfl (Nat.le_of_ble_eq_true rfl) (fun X C hq hr hL hN => ?_)
  refine jx_sub (lv' := [(0, .ref l0), (1, .int l1), (2, .int l2), (3, .int l3)]) [0, 1, 2, 3] rfl ?_
  have b34 : ∀ (y17 : Nat) (y18 : Int32) (y19 : Int32) (y20 : Int32) (y21 : Nat) (y22 : Int32) (h23 : jx_H), BX10_value_34 y17 y18 y19 y20 y21 y22 h23 = some (r, h9) → jx_J X 0 0 34 [(0, .ref y17), (1, .int y18), (2, .int y19), (3, .int y20)] [.int y22, .ref y21] h23 := by
    intro y17 y18 y19 y20 y21 y22 h23 e
    unfold BX10_value_34 at e
    replace e := ob e
    obtain ⟨h24, eh24, e⟩ := e
    refine j_put (ci := 10) (RC := RX10) (T := TX10) (N := 38) (ty0 := tyX10) 0 C rfl klX10 tyX10_ok nmX10 (Nat.le_of_ble_eq_true rfl) kX10_91 rfl rfl rfl rfl dX10_value_34 eh24 ?_
    refine j_aload_n C dX10_value_37 rfl rfl ?_
    replace e := ob e
    obtain ⟨x25, ex25, e⟩ := e
    refine j_geti (ci := 10) (RC := RX10) (T := TX10) (N := 38) 0 C rfl klX10 (Nat.le_of_ble_eq_true rfl) kX10_91 rfl dX10_value_38 ex25 ?_
    refine j_if_le (tgt := 46) C dX10_value_41 (by decide) (fun c30 => ?_) (fun c30 => ?_)
    · replace e := ifp c30 e
      refine j_aload_n C dX10_value_46 rfl rfl ?_
      refine j_iload_n C dX10_value_47 rfl rfl ?_
      refine j_iload_n C dX10_value_48 rfl rfl ?_
      replace e := ob e
      obtain ⟨_, eo26, e⟩ := e
      replace e := ob e
      obtain ⟨h27, eh27, e⟩ := e
      refine j_callV (ci := 10) (RC := RX10) (T := TX10) (N := 38) (As := [.int y19, .int y20]) (b := y17) (na := 2) (st := []) (k1 := 0) (n1 := 0) C hr (sX10_laysPowers eh27) rfl eo26 kX10_316 kim_X10_laysPowers ksel_X10_laysPowers kini_X10 kc_X10_laysPowers (by decide) rfl ⟨(Nat.le_of_ble_eq_true rfl), (Nat.le_of_ble_eq_true rfl)⟩ (Nat.le_of_ble_eq_true rfl) ⟨rfl, rfl, (Nat.le_of_ble_eq_true rfl), (Nat.le_of_ble_eq_true rfl)⟩ dX10_value_49 ?_
      rintro _ _ ⟨rfl, rfl⟩
      show jx_J X 0 0 52 [(0, .ref y17), (1, .int y18), (2, .int y19), (3, .int y20)] [] h27
      refine j_aload_n C dX10_value_52 rfl rfl ?_
      refine j_iload_n C dX10_value_53 rfl rfl ?_
      replace e := ob e
      obtain ⟨_, eo28, e⟩ := e
      replace e := ob e
      obtain ⟨x29, ex29, e⟩ := e
      refine j_callV (ci := 10) (RC := RX10) (T := TX10) (N := 38) (As := [.int y18]) (b := y17) (na := 1) (st := []) (k1 := 0) (n1 := 0) C hr (sX10_valueOf ex29) rfl eo28 kX10_319 kim_X10_valueOf ksel_X10_valueOf kini_X10 kc_X10_valueOf (by decide) rfl ⟨(Nat.le_of_ble_eq_true rfl), (Nat.le_of_ble_eq_true rfl)⟩ (Nat.le_of_ble_eq_true rfl) ⟨rfl, rfl, (Nat.le_of_ble_eq_true rfl), (Nat.le_of_ble_eq_true rfl)⟩ dX10_value_54 ?_
      rintro _ _ ⟨rfl, rfl⟩
      show jx_J X 0 0 57 [(0, .ref y17), (1, .int y18), (2, .int y19), (3, .int y20)] [.int x29] h27
      cases e
      exact j_iret C hq rfl dX10_value_57 ⟨Nat.le_of_ble_eq_true rfl, Nat.le_of_ble_eq_true rfl⟩ ⟨rfl, rfl⟩
    · replace e := ifn c30 e
      refine j_iconst (v := (0 : Int32)) C dX10_value_44 (by decide) ?_
      cases e
      exact j_iret C hq rfl dX10_value_45 ⟨Nat.le_of_ble_eq_true rfl, Nat.le_of_ble_eq_true rfl⟩ ⟨rfl, rfl⟩
  have b33 : ∀ (y31 : Nat) (y32 : Int32) (y33 : Int32) (y34 : Int32) (y35 : Nat) (h36 : jx_H), BX10_value_33 y31 y32 y33 y34 y35 h36 = some (r, h9) → jx_J X 0 0 33 [(0, .ref y31), (1, .int y32), (2, .int y33), (3, .int y34)] [.ref y35] h36 := by
    intro y31 y32 y33 y34 y35 h36 e
    unfold BX10_value_33 at e
    refine j_iconst (v := (2 : Int32)) C dX10_value_33 (by decide) ?_
    exact b34 y31 y32 y33 y34 y35 (2 : Int32) h36 e
  unfold FX10_value at e
  refine j_aload_n C dX10_value_0 rfl rfl ?_
  refine j_aload_n C dX10_value_1 rfl rfl ?_
  refine j_iload_n C dX10_value_2 rfl rfl ?_
  replace e := ob e
  obtain ⟨_, eo37, e⟩ := e
  replace e := ob e
  obtain ⟨x38, ex38, e⟩ := e
  refine j_callV (ci := 10) (RC := RX10) (T := TX10) (N := 38) (As := [.int l1]) (b := l0) (na := 1) (st := [.ref l0]) (k1 := 0) (n1 := 0) C hr (sX10_isBorder ex38) rfl eo37 kX10_356 kim_X10_isBorder ksel_X10_isBorder kini_X10 kc_X10_isBorder (by decide) rfl ⟨(Nat.le_of_ble_eq_true rfl), (Nat.le_of_ble_eq_true rfl)⟩ (Nat.le_of_ble_eq_true rfl) ⟨rfl, rfl, (Nat.le_of_ble_eq_true rfl), (Nat.le_of_ble_eq_true rfl)⟩ dX10_value_3 ?_
  rintro _ _ ⟨rfl, rfl⟩
  show jx_J X 0 0 6 [(0, .ref l0), (1, .int l1), (2, .int l2), (3, .int l3)] [.int x38, .ref l0] h
  refine j_if_ne (tgt := 13) C dX10_value_6 (by decide) (fun c45 => ?_) (fun c45 => ?_)
  · replace e := ifn c45 e
    refine j_aload_n C dX10_value_13 rfl rfl ?_
    refine j_iload_n C dX10_value_14 rfl rfl ?_
    replace e := ob e
    obtain ⟨_, eo39, e⟩ := e
    replace e := ob e
    obtain ⟨x40, ex40, e⟩ := e
    refine j_callV (ci := 10) (RC := RX10) (T := TX10) (N := 38) (As := [.int l2]) (b := l0) (na := 1) (st := [.ref l0]) (k1 := 0) (n1 := 0) C hr (sX10_isNumber ex40) rfl eo39 kX10_359 kim_X10_isNumber ksel_X10_isNumber kini_X10 kc_X10_isNumber (by decide) rfl ⟨(Nat.le_of_ble_eq_true rfl), (Nat.le_of_ble_eq_true rfl)⟩ (Nat.le_of_ble_eq_true rfl) ⟨rfl, rfl, (Nat.le_of_ble_eq_true rfl), (Nat.le_of_ble_eq_true rfl)⟩ dX10_value_15 ?_
    rintro _ _ ⟨rfl, rfl⟩
    show jx_J X 0 0 18 [(0, .ref l0), (1, .int l1), (2, .int l2), (3, .int l3)] [.int x40, .ref l0] h
    refine j_if_eq (tgt := 33) C dX10_value_18 (by decide) (fun c44 => ?_) (fun c44 => ?_)
    · replace e := ifp c44 e
      exact b33 l0 l1 l2 l3 l0 h e
    · replace e := ifn c44 e
      refine j_aload_n C dX10_value_21 rfl rfl ?_
      refine j_iload_n C dX10_value_22 rfl rfl ?_
      replace e := ob e
      obtain ⟨_, eo41, e⟩ := e
      replace e := ob e
      obtain ⟨x42, ex42, e⟩ := e
      refine j_callV (ci := 10) (RC := RX10) (T := TX10) (N := 38) (As := [.int l3]) (b := l0) (na := 1) (st := [.ref l0]) (k1 := 0) (n1 := 0) C hr (sX10_isNumber ex42) rfl eo41 kX10_359 kim_X10_isNumber ksel_X10_isNumber kini_X10 kc_X10_isNumber (by decide) rfl ⟨(Nat.le_of_ble_eq_true rfl), (Nat.le_of_ble_eq_true rfl)⟩ (Nat.le_of_ble_eq_true rfl) ⟨rfl, rfl, (Nat.le_of_ble_eq_true rfl), (Nat.le_of_ble_eq_true rfl)⟩ dX10_value_23 ?_
      rintro _ _ ⟨rfl, rfl⟩
      show jx_J X 0 0 26 [(0, .ref l0), (1, .int l1), (2, .int l2), (3, .int l3)] [.int x42, .ref l0] h
      refine j_if_eq (tgt := 33) C dX10_value_26 (by decide) (fun c43 => ?_) (fun c43 => ?_)
      · replace e := ifp c43 e
        exact b33 l0 l1 l2 l3 l0 h e
      · replace e := ifn c43 e
        refine j_iconst (v := (0 : Int32)) C dX10_value_29 (by decide) ?_
        refine j_goto (tgt := 34) C dX10_value_30 (by decide) ?_
        exact b34 l0 l1 l2 l3 l0 (0 : Int32) h e
  · replace e := ifp c45 e
    refine j_iconst (v := (1 : Int32)) C dX10_value_9 (by decide) ?_
    refine j_goto (tgt := 34) C dX10_value_10 (by decide) ?_
    exact b34 l0 l1 l2 l3 l0 (1 : Int32) h e
/-! BorderBasisModel.isVariable(I)Z -/
noncomputable def FX10_isVariable (l0 : Int32) (h : jx_H) : Option (Int32) :=
(FX10_in l0 (0 : Int32) (1 : Int32) h).bind fun x1 =>
if x1 = 0 ∨ x1 = 1 then some x1 else none
def rmX10_isVariable : Room := { frames := 1, cells := 0, slots := 0, locals := 22 }
set_option maxRecDepth 20000 in
set_option maxHeartbeats 4000000 in
theorem sX10_isVariable {l0 : Int32} {h : jx_H} {r : Int32}  (e : FX10_isVariable l0 h = some r) : jx_Ct yX10_isVariable cX10_isVariable 1 (some .boolean) rmX10_isVariable [.int l0] h (fun r' h' => some (.int r) = r' ∧ h = h') := by
  refine jx_Ct.of (own := RX10) (by decide) rfl (Nat.le_of_ble_eq_true rfl) (fun X C hq hr hL hN => ?_)
  refine jx_sub (lv' := [(0, .int l0)]) [0] rfl ?_
  unfold FX10_isVariable at e
  refine j_iload_n C dX10_isVariable_0 rfl rfl ?_
  refine j_iconst (v := (0 : Int32)) C dX10_isVariable_1 (by decide) ?_
  refine j_iconst (v := (1 : Int32)) C dX10_isVariable_2 (by decide) ?_
  replace e := ob e
  obtain ⟨x3, ex3, e⟩ := e
  refine j_callS (As := [.int l0, .int (0 : Int32), .int (1 : Int32)]) (na := 3) (st := []) (k1 := 0) (n1 := 0) C hr (sX10_in ex3) kX10_101 kst_X10_in kini_X10 kc_X10_in (by decide) rfl ⟨(Nat.le_of_ble_eq_true rfl), (Nat.le_of_ble_eq_true rfl)⟩ (Nat.le_of_ble_eq_true rfl) ⟨rfl, rfl, (Nat.le_of_ble_eq_true rfl), (Nat.le_of_ble_eq_true rfl)⟩ dX10_isVariable_3 ?_
  rintro _ _ ⟨rfl, rfl⟩
  show jx_J X 0 0 6 [(0, .int l0)] [.int x3] h
  by_cases c4 : ¬ (x3 = 0 ∨ x3 = 1)
  · exact nos (ifn c4 e)
  replace c4 := Classical.not_not.mp c4
  replace e := ifp c4 e
  cases e
  exact j_iret C hq (jx_bool c4) dX10_isVariable_6 ⟨Nat.le_of_ble_eq_true rfl, Nat.le_of_ble_eq_true rfl⟩ ⟨rfl, rfl⟩
/-! BorderBasisModel.table(III)I -/
noncomputable def BX10_table_64 (l2 : Int32) (l3 : Int32) (s0 : Nat) (h : jx_H) : Option (Int32 × jx_H) :=
(FX10_cell l2 l3 h).bind fun x1 =>
(hal h .int s0 x1).bind fun x2 =>
some (x2, h)
noncomputable def BX10_table_33 (l0 : Nat) (l1 : Int32) (l2 : Int32) (l3 : Int32) (s0 : Nat) (s1 : Int32) (h : jx_H) : Option (Int32 × jx_H) :=
(hp h s0 10 0 (.int s1)).bind fun h3 =>
(hgi h3 l0 10 0).bind fun x4 =>
if x4 ≤ 0 then
 (isO h3 l0 10).bind fun _ =>
 (FX10_laysTables l0 h3).bind fun h6 =>
 if l1 = 0 then
  (hgr h6 l0 10 20).bind fun x8 =>
  BX10_table_64 l2 l3 x8 h6
 else
  (hgr h6 l0 10 21).bind fun x7 =>
  BX10_table_64 l2 l3 x7 h6
else
 some ((0 : Int32), h3)
noncomputable def BX10_table_17 (l0 : Nat) (l1 : Int32) (l2 : Int32) (l3 : Int32) (s0 : Nat) (h : jx_H) : Option (Int32 × jx_H) :=
BX10_table_33 l0 l1 l2 l3 s0 (1 : Int32) h
noncomputable def FX10_table (l0 : Nat) (l1 : Int32) (l2 : Int32) (l3 : Int32) (h : jx_H) : Option (Int32 × jx_H) :=
(isO h l0 10).bind fun _ =>
(FX10_isMonomial l0 l2 h).bind fun x12 =>
if x12 = 0 then
 BX10_table_17 l0 l1 l2 l3 l0 h
else
 (isO h l0 10).bind fun _ =>
 (FX10_isMonomial l0 l3 h).bind fun x14 =>
 if x14 = 0 then
  BX10_table_17 l0 l1 l2 l3 l0 h
 else
  (FX10_isVariable l1 h).bind fun x15 =>
  if x15 = 0 then
   BX10_table_33 l0 l1 l2 l3 l0 (2 : Int32) h
  else
   BX10_table_33 l0 l1 l2 l3 l0 (0 : Int32) h
def rmX10_table : Room := { frames := 4, cells := 0, slots := 0, locals := 91 }
set_option maxRecDepth 20000 in
set_option maxHeartbeats 4000000 in
theorem sX10_table {l0 : Nat} {l1 : Int32} {l2 : Int32} {l3 : Int32} {h : jx_H} {r : Int32} {h9 : jx_H} (e : FX10_table l0 l1 l2 l3 h = some (r, h9)) : jx_Ct yX10_table cX10_table 4 (some .int) rmX10_table [.ref l0, .int l1, .int l2, .int l3] h (fun r' h' => some (.int r) = r' ∧ h9 = h') := by
  refine jx_Ct.of (own := RX10) (by decide) rfl (Nat.le_of_ble_eq_true rfl) (fun X C hq hr hL hN => ?_)
  refine jx_sub (lv' := [(0, .ref l0), (1, .int l1), (2, .int l2), (3, .int l3)]) [0, 1, 2, 3] rfl ?_
  have b64 : ∀ (y19 : Int32) (y20 : Int32) (y21 : Nat) (h22 : jx_H), BX10_table_64 y19 y20 y21 h22 = some (r, h9) → jx_J X 0 0 64 [(2, .int y19), (3, .int y20)] [.ref y21] h22 := by
    intro y19 y20 y21 h22 e
    unfold BX10_table_64 at e
    refine j_iload_n C dX10_table_64 rfl rfl ?_
    refine j_iload_n C dX10_table_65 rfl rfl ?_
    replace e := ob e
    obtain ⟨x23, ex23, e⟩ := e
    refine j_callS (As := [.int y19, .int y20]) (na := 2) (st := [.ref y21]) (k1 := 0) (n1 := 0) C hr (sX10_cell ex23) kX10_254 kst_X10_cell kini_X10 kc_X10_cell (by decide) rfl ⟨(Nat.le_of_ble_eq_true rfl), (Nat.le_of_ble_eq_true rfl)⟩ (Nat.le_of_ble_eq_true rfl) ⟨rfl, rfl, (Nat.le_of_ble_eq_true rfl), (Nat.le_of_ble_eq_true rfl)⟩ dX10_table_66 ?_
    rintro _ _ ⟨rfl, rfl⟩
    show jx_J X 0 0 69 [(2, .int y19), (3, .int y20)] [.int x23, .ref y21] h22
    replace e := ob e
    obtain ⟨x24, ex24, e⟩ := e
    refine j_iald C dX10_table_69 ex24 ?_
    cases e
    exact j_iret C hq rfl dX10_table_70 ⟨Nat.le_of_ble_eq_true rfl, Nat.le_of_ble_eq_true rfl⟩ ⟨rfl, rfl⟩
  have b33 : ∀ (y25 : Nat) (y26 : Int32) (y27 : Int32) (y28 : Int32) (y29 : Nat) (y30 : Int32) (h31 : jx_H), BX10_table_33 y25 y26 y27 y28 y29 y30 h31 = some (r, h9) → jx_J X 0 0 33 [(0, .ref y25), (1, .int y26), (2, .int y27), (3, .int y28)] [.int y30, .ref y29] h31 := by
    intro y25 y26 y27 y28 y29 y30 h31 e
    unfold BX10_table_33 at e
    replace e := ob e
    obtain ⟨h32, eh32, e⟩ := e
    refine j_put (ci := 10) (RC := RX10) (T := TX10) (N := 38) (ty0 := tyX10) 0 C rfl klX10 tyX10_ok nmX10 (Nat.le_of_ble_eq_true rfl) kX10_91 rfl rfl rfl rfl dX10_table_33 eh32 ?_
    refine j_aload_n C dX10_table_36 rfl rfl ?_
    replace e := ob e
    obtain ⟨x33, ex33, e⟩ := e
    refine j_geti (ci := 10) (RC := RX10) (T := TX10) (N := 38) 0 C rfl klX10 (Nat.le_of_ble_eq_true rfl) kX10_91 rfl dX10_table_37 ex33 ?_
    refine j_if_le (tgt := 45) C dX10_table_40 (by decide) (fun c39 => ?_) (fun c39 => ?_)
    · replace e := ifp c39 e
      refine j_aload_n C dX10_table_45 rfl rfl ?_
      replace e := ob e
      obtain ⟨_, eo34, e⟩ := e
      replace e := ob e
      obtain ⟨h35, eh35, e⟩ := e
      refine j_callV (ci := 10) (RC := RX10) (T := TX10) (N := 38) (As := []) (b := y25) (na := 0) (st := []) (k1 := 0) (n1 := 0) C hr (sX10_laysTables eh35) rfl eo34 kX10_261 kim_X10_laysTables ksel_X10_laysTables kini_X10 kc_X10_laysTables (by decide) rfl ⟨(Nat.le_of_ble_eq_true rfl), (Nat.le_of_ble_eq_true rfl)⟩ (Nat.le_of_ble_eq_true rfl) ⟨rfl, rfl, (Nat.le_of_ble_eq_true rfl), (Nat.le_of_ble_eq_true rfl)⟩ dX10_table_46 ?_
      rintro _ _ ⟨rfl, rfl⟩
      show jx_J X 0 0 49 [(0, .ref y25), (1, .int y26), (2, .int y27), (3, .int y28)] [] h35
      refine j_iload_n C dX10_table_49 rfl rfl ?_
      refine j_if_ne (tgt := 60) C dX10_table_50 (by decide) (fun c38 => ?_) (fun c38 => ?_)
      · replace e := ifn c38 e
        refine j_aload_n C dX10_table_60 rfl rfl ?_
        replace e := ob e
        obtain ⟨x36, ex36, e⟩ := e
        refine j_getr (ci := 10) (RC := RX10) (T := TX10) (N := 38) 21 C rfl klX10 (Nat.le_of_ble_eq_true rfl) kX10_46 rfl dX10_table_61 ex36 ?_
        refine jx_sub (lv' := [(2, .int y27), (3, .int y28)]) [2, 3] rfl ?_
        exact b64 y27 y28 x36 h35 e
      · replace e := ifp c38 e
        refine j_aload_n C dX10_table_53 rfl rfl ?_
        replace e := ob e
        obtain ⟨x37, ex37, e⟩ := e
        refine j_getr (ci := 10) (RC := RX10) (T := TX10) (N := 38) 20 C rfl klX10 (Nat.le_of_ble_eq_true rfl) kX10_43 rfl dX10_table_54 ex37 ?_
        refine j_goto (tgt := 64) C dX10_table_57 (by decide) ?_
        refine jx_sub (lv' := [(2, .int y27), (3, .int y28)]) [2, 3] rfl ?_
        exact b64 y27 y28 x37 h35 e
    · replace e := ifn c39 e
      refine j_iconst (v := (0 : Int32)) C dX10_table_43 (by decide) ?_
      cases e
      exact j_iret C hq rfl dX10_table_44 ⟨Nat.le_of_ble_eq_true rfl, Nat.le_of_ble_eq_true rfl⟩ ⟨rfl, rfl⟩
  have b17 : ∀ (y40 : Nat) (y41 : Int32) (y42 : Int32) (y43 : Int32) (y44 : Nat) (h45 : jx_H), BX10_table_17 y40 y41 y42 y43 y44 h45 = some (r, h9) → jx_J X 0 0 17 [(0, .ref y40), (1, .int y41), (2, .int y42), (3, .int y43)] [.ref y44] h45 := by
    intro y40 y41 y42 y43 y44 h45 e
    unfold BX10_table_17 at e
    refine j_iconst (v := (1 : Int32)) C dX10_table_17 (by decide) ?_
    refine j_goto (tgt := 33) C dX10_table_18 (by decide) ?_
    exact b33 y40 y41 y42 y43 y44 (1 : Int32) h45 e
  unfold FX10_table at e
  refine j_aload_n C dX10_table_0 rfl rfl ?_
  refine j_aload_n C dX10_table_1 rfl rfl ?_
  refine j_iload_n C dX10_table_2 rfl rfl ?_
  replace e := ob e
  obtain ⟨_, eo46, e⟩ := e
  replace e := ob e
  obtain ⟨x47, ex47, e⟩ := e
  refine j_callV (ci := 10) (RC := RX10) (T := TX10) (N := 38) (As := [.int l2]) (b := l0) (na := 1) (st := [.ref l0]) (k1 := 0) (n1 := 0) C hr (sX10_isMonomial ex47) rfl eo46 kX10_353 kim_X10_isMonomial ksel_X10_isMonomial kini_X10 kc_X10_isMonomial (by decide) rfl ⟨(Nat.le_of_ble_eq_true rfl), (Nat.le_of_ble_eq_true rfl)⟩ (Nat.le_of_ble_eq_true rfl) ⟨rfl, rfl, (Nat.le_of_ble_eq_true rfl), (Nat.le_of_ble_eq_true rfl)⟩ dX10_table_3 ?_
  rintro _ _ ⟨rfl, rfl⟩
  show jx_J X 0 0 6 [(0, .ref l0), (1, .int l1), (2, .int l2), (3, .int l3)] [.int x47, .ref l0] h
  refine j_if_eq (tgt := 17) C dX10_table_6 (by decide) (fun c53 => ?_) (fun c53 => ?_)
  · replace e := ifp c53 e
    exact b17 l0 l1 l2 l3 l0 h e
  · replace e := ifn c53 e
    refine j_aload_n C dX10_table_9 rfl rfl ?_
    refine j_iload_n C dX10_table_10 rfl rfl ?_
    replace e := ob e
    obtain ⟨_, eo48, e⟩ := e
    replace e := ob e
    obtain ⟨x49, ex49, e⟩ := e
    refine j_callV (ci := 10) (RC := RX10) (T := TX10) (N := 38) (As := [.int l3]) (b := l0) (na := 1) (st := [.ref l0]) (k1 := 0) (n1 := 0) C hr (sX10_isMonomial ex49) rfl eo48 kX10_353 kim_X10_isMonomial ksel_X10_isMonomial kini_X10 kc_X10_isMonomial (by decide) rfl ⟨(Nat.le_of_ble_eq_true rfl), (Nat.le_of_ble_eq_true rfl)⟩ (Nat.le_of_ble_eq_true rfl) ⟨rfl, rfl, (Nat.le_of_ble_eq_true rfl), (Nat.le_of_ble_eq_true rfl)⟩ dX10_table_11 ?_
    rintro _ _ ⟨rfl, rfl⟩
    show jx_J X 0 0 14 [(0, .ref l0), (1, .int l1), (2, .int l2), (3, .int l3)] [.int x49, .ref l0] h
    refine j_if_ne (tgt := 21) C dX10_table_14 (by decide) (fun c52 => ?_) (fun c52 => ?_)
    · replace e := ifn c52 e
      refine j_iload_n C dX10_table_21 rfl rfl ?_
      replace e := ob e
      obtain ⟨x50, ex50, e⟩ := e
      refine j_callS (As := [.int l1]) (na := 1) (st := [.ref l0]) (k1 := 0) (n1 := 0) C hr (sX10_isVariable ex50) kX10_362 kst_X10_isVariable kini_X10 kc_X10_isVariable (by decide) rfl ⟨(Nat.le_of_ble_eq_true rfl), (Nat.le_of_ble_eq_true rfl)⟩ (Nat.le_of_ble_eq_true rfl) ⟨rfl, rfl, (Nat.le_of_ble_eq_true rfl), (Nat.le_of_ble_eq_true rfl)⟩ dX10_table_22 ?_
      rintro _ _ ⟨rfl, rfl⟩
      show jx_J X 0 0 25 [(0, .ref l0), (1, .int l1), (2, .int l2), (3, .int l3)] [.int x50, .ref l0] h
      refine j_if_eq (tgt := 32) C dX10_table_25 (by decide) (fun c51 => ?_) (fun c51 => ?_)
      · replace e := ifp c51 e
        refine j_iconst (v := (2 : Int32)) C dX10_table_32 (by decide) ?_
        exact b33 l0 l1 l2 l3 l0 (2 : Int32) h e
      · replace e := ifn c51 e
        refine j_iconst (v := (0 : Int32)) C dX10_table_28 (by decide) ?_
        refine j_goto (tgt := 33) C dX10_table_29 (by decide) ?_
        exact b33 l0 l1 l2 l3 l0 (0 : Int32) h e
    · replace e := ifp c52 e
      exact b17 l0 l1 l2 l3 l0 h e
/-! BorderBasisModel.commutes()Z -/
noncomputable def FX10_commutes (l0 : Nat) (h : jx_H) : Option (Int32 × jx_H) :=
(hp h l0 10 0 (.int (0 : Int32))).bind fun h1 =>
(isO h1 l0 10).bind fun _ =>
bind2 (FX10_areFriends l0 h1) fun x3 h4 =>
if x3 = 0 ∨ x3 = 1 then some (x3, h4) else none
def rmX10_commutes : Room := { frames := 6, cells := 0, slots := 0, locals := 134 }
set_option maxRecDepth 20000 in
set_option maxHeartbeats 4000000 in
theorem sX10_commutes {l0 : Nat} {h : jx_H} {r : Int32} {h9 : jx_H} (e : FX10_commutes l0 h = some (r, h9)) : jx_Ct yX10_commutes cX10_commutes 1 (some .boolean) rmX10_commutes [.ref l0] h (fun r' h' => some (.int r) = r' ∧ h9 = h') := by
  refine jx_Ct.of (own := RX10) (by decide) rfl (Nat.le_of_ble_eq_true rfl) (fun X C hq hr hL hN => ?_)
  refine jx_sub (lv' := [(0, .ref l0)]) [0] rfl ?_
  unfold FX10_commutes at e
  refine j_aload_n C dX10_commutes_0 rfl rfl ?_
  refine j_iconst (v := (0 : Int32)) C dX10_commutes_1 (by decide) ?_
  replace e := ob e
  obtain ⟨h6, eh6, e⟩ := e
  refine j_put (ci := 10) (RC := RX10) (T := TX10) (N := 38) (ty0 := tyX10) 0 C rfl klX10 tyX10_ok nmX10 (Nat.le_of_ble_eq_true rfl) kX10_91 rfl rfl rfl rfl dX10_commutes_2 eh6 ?_
  refine j_aload_n C dX10_commutes_5 rfl rfl ?_
  replace e := ob e
  obtain ⟨_, eo7, e⟩ := e
  replace e := ob2 e
  obtain ⟨x8, h9, ex8, e⟩ := e
  refine j_callV (ci := 10) (RC := RX10) (T := TX10) (N := 38) (As := []) (b := l0) (na := 0) (st := []) (k1 := 0) (n1 := 0) C hr (sX10_areFriends ex8) rfl eo7 kX10_365 kim_X10_areFriends ksel_X10_areFriends kini_X10 kc_X10_areFriends (by decide) rfl ⟨(Nat.le_of_ble_eq_true rfl), (Nat.le_of_ble_eq_true rfl)⟩ (Nat.le_of_ble_eq_true rfl) ⟨rfl, rfl, (Nat.le_of_ble_eq_true rfl), (Nat.le_of_ble_eq_true rfl)⟩ dX10_commutes_6 ?_
  rintro _ _ ⟨rfl, rfl⟩
  show jx_J X 0 0 9 [(0, .ref l0)] [.int x8] h9
  by_cases c10 : ¬ (x8 = 0 ∨ x8 = 1)
  · exact nos (ifn c10 e)
  replace c10 := Classical.not_not.mp c10
  replace e := ifp c10 e
  cases e
  exact j_iret C hq (jx_bool c10) dX10_commutes_9 ⟨Nat.le_of_ble_eq_true rfl, Nat.le_of_ble_eq_true rfl⟩ ⟨rfl, rfl⟩
/-! BorderBasisModel.clash(I)I -/
noncomputable def BX10_clash_41 (l1 : Int32) (l2 : Int32) (h : jx_H) : Option (Int32 × jx_H) :=
if l1 = (4 : Int32) then
 some (l2, h)
else
 some ((-1 : Int32), h)
noncomputable def LX10_clash_54 (l0 : Nat) (l1 : Int32) (l3 : Int32) (h : jx_H) : Option ((Int32) ⊕ (Int32 × jx_H)) :=
(hgr h l0 10 23).bind fun x7 =>
(isO h l0 10).bind fun _ =>
(FX10_n l0 h).bind fun x9 =>
if x9 = 0 then none else
(isO h l0 10).bind fun _ =>
(FX10_n l0 h).bind fun x12 =>
if x12 = 0 then none else
(FX10_cell (l3 - l3 / x9 * x9) (l3 / x12) h).bind fun x14 =>
(hal h .int x7 x14).bind fun x15 =>
(hgr h l0 10 24).bind fun x16 =>
(isO h l0 10).bind fun _ =>
(FX10_n l0 h).bind fun x18 =>
if x18 = 0 then none else
(isO h l0 10).bind fun _ =>
(FX10_n l0 h).bind fun x21 =>
if x21 = 0 then none else
(FX10_cell (l3 - l3 / x18 * x18) (l3 / x21) h).bind fun x23 =>
(hal h .int x16 x23).bind fun x24 =>
if x15 = x24 then
 some (.inl (l3 + (1 : Int32)))
else
 exL ((isO h l0 10).bind fun _ =>
 (FX10_n l0 h).bind fun x26 =>
 if x26 = 0 then none else
 (isO h l0 10).bind fun _ =>
 (FX10_n l0 h).bind fun x29 =>
 if x29 = 0 then none else
 (FX10_cell (l3 - l3 / x26 * x26) (l3 / x29) h).bind fun x31 =>
 if l1 = 0 then
  (isO h l0 10).bind fun _ =>
  (FX10_n l0 h).bind fun x42 =>
  if x42 = 0 then none else
  some ((l3 / x42), h)
 else
  if l1 = (1 : Int32) then
   (isO h l0 10).bind fun _ =>
   (FX10_n l0 h).bind fun x38 =>
   if x38 = 0 then none else
   some ((l3 - l3 / x38 * x38), h)
  else
   if l1 = (2 : Int32) then
    (hgr h l0 10 23).bind fun x34 =>
    (hal h .int x34 x31).bind fun x35 =>
    some (x35, h)
   else
    (hgr h l0 10 24).bind fun x32 =>
    (hal h .int x32 x31).bind fun x33 =>
    some (x33, h))
noncomputable def BX10_clash_15 (l0 : Nat) (l1 : Int32) (s0 : Nat) (s1 : Int32) (h : jx_H) : Option (Int32 × jx_H) :=
(hp h s0 10 0 (.int s1)).bind fun h2 =>
(hgi h2 l0 10 0).bind fun x3 =>
if x3 ≤ 0 then
 (isO h2 l0 10).bind fun _ =>
 bind2 (FX10_differences l0 h2) fun x5 h6 =>
 if l1 = (4 : Int32) then
  BX10_clash_41 l1 x5 h6
 else
  if x5 = 0 then
   BX10_clash_41 l1 x5 h6
  else
   itr (fun s : Int32 => LX10_clash_54 l0 l1 s h6) (0 : Int32)
else
 some ((0 : Int32), h2)
noncomputable def FX10_clash (l0 : Nat) (l1 : Int32) (h : jx_H) : Option (Int32 × jx_H) :=
(FX10_in l1 (0 : Int32) (4 : Int32) h).bind fun x49 =>
if x49 = 0 then
 BX10_clash_15 l0 l1 l0 (1 : Int32) h
else
 BX10_clash_15 l0 l1 l0 (0 : Int32) h
def rmX10_clash : Room := { frames := 5, cells := 0, slots := 0, locals := 114 }
set_option maxRecDepth 20000 in
set_option maxHeartbeats 4000000 in
theorem sX10_clash {l0 : Nat} {l1 : Int32} {h : jx_H} {r : Int32} {h9 : jx_H} (e : FX10_clash l0 l1 h = some (r, h9)) : jx_Ct yX10_clash cX10_clash 5 (some .int) rmX10_clash [.ref l0, .int l1] h (fun r' h' => some (.int r) = r' ∧ h9 = h') := by
  refine jx_Ct.of (own := RX10) (by decide) rfl (Nat.le_of_ble_eq_true rfl) (fun X C hq hr hL hN => ?_)
  refine jx_sub (lv' := [(0, .ref l0), (1, .int l1)]) [0, 1] rfl ?_
  have b41 : ∀ (y51 : Int32) (y52 : Int32) (h53 : jx_H), BX10_clash_41 y51 y52 h53 = some (r, h9) → jx_J X 0 0 41 [(1, .int y51), (2, .int y52)] [] h53 := by
    intro y51 y52 h53 e
    unfold BX10_clash_41 at e
    refine j_iload_n C dX10_clash_41 rfl rfl ?_
    refine j_iconst (v := (4 : Int32)) C dX10_clash_42 (by decide) ?_
    refine j_icmp_ne (tgt := 50) C dX10_clash_43 (by decide) (fun c54 => ?_) (fun c54 => ?_)
    · replace e := ifn c54 e
      refine j_iconst (v := (-1 : Int32)) C dX10_clash_50 (by decide) ?_
      cases e
      exact j_iret C hq rfl dX10_clash_51 ⟨Nat.le_of_ble_eq_true rfl, Nat.le_of_ble_eq_true rfl⟩ ⟨rfl, rfl⟩
    · replace e := ifp c54 e
      refine j_iload_n C dX10_clash_46 rfl rfl ?_
      refine j_goto (tgt := 51) C dX10_clash_47 (by decide) ?_
      cases e
      exact j_iret C hq rfl dX10_clash_51 ⟨Nat.le_of_ble_eq_true rfl, Nat.le_of_ble_eq_true rfl⟩ ⟨rfl, rfl⟩
  have b15 : ∀ (y55 : Nat) (y56 : Int32) (y57 : Nat) (y58 : Int32) (h59 : jx_H), BX10_clash_15 y55 y56 y57 y58 h59 = some (r, h9) → jx_J X 0 0 15 [(0, .ref y55), (1, .int y56)] [.int y58, .ref y57] h59 := by
    intro y55 y56 y57 y58 h59 e
    unfold BX10_clash_15 at e
    replace e := ob e
    obtain ⟨h60, eh60, e⟩ := e
    refine j_put (ci := 10) (RC := RX10) (T := TX10) (N := 38) (ty0 := tyX10) 0 C rfl klX10 tyX10_ok nmX10 (Nat.le_of_ble_eq_true rfl) kX10_91 rfl rfl rfl rfl dX10_clash_15 eh60 ?_
    refine j_aload_n C dX10_clash_18 rfl rfl ?_
    replace e := ob e
    obtain ⟨x61, ex61, e⟩ := e
    refine j_geti (ci := 10) (RC := RX10) (T := TX10) (N := 38) 0 C rfl klX10 (Nat.le_of_ble_eq_true rfl) kX10_91 rfl dX10_clash_19 ex61 ?_
    refine j_if_le (tgt := 27) C dX10_clash_22 (by decide) (fun c107 => ?_) (fun c107 => ?_)
    · replace e := ifp c107 e
      refine j_aload_n C dX10_clash_27 rfl rfl ?_
      replace e := ob e
      obtain ⟨_, eo62, e⟩ := e
      replace e := ob2 e
      obtain ⟨x63, h64, ex63, e⟩ := e
      refine j_callV (ci := 10) (RC := RX10) (T := TX10) (N := 38) (As := []) (b := y55) (na := 0) (st := []) (k1 := 0) (n1 := 0) C hr (sX10_differences ex63) rfl eo62 kX10_268 kim_X10_differences ksel_X10_differences kini_X10 kc_X10_differences (by decide) rfl ⟨(Nat.le_of_ble_eq_true rfl), (Nat.le_of_ble_eq_true rfl)⟩ (Nat.le_of_ble_eq_true rfl) ⟨rfl, rfl, (Nat.le_of_ble_eq_true rfl), (Nat.le_of_ble_eq_true rfl)⟩ dX10_clash_28 ?_
      rintro _ _ ⟨rfl, rfl⟩
      show jx_J X 0 0 31 [(0, .ref y55), (1, .int y56)] [.int x63] h64
      refine j_istore_n (lv1 := [(2, .int x63), (0, .ref y55), (1, .int y56)]) C hL dX10_clash_31 rfl (Nat.le_of_ble_eq_true rfl) rfl ?_
      refine j_iload_n C dX10_clash_32 rfl rfl ?_
      refine j_iconst (v := (4 : Int32)) C dX10_clash_33 (by decide) ?_
      refine j_icmp_eq (tgt := 41) C dX10_clash_34 (by decide) (fun c106 => ?_) (fun c106 => ?_)
      · replace e := ifp c106 e
        refine jx_sub (lv' := [(1, .int y56), (2, .int x63)]) [2, 0] rfl ?_
        exact b41 y56 x63 h64 e
      · replace e := ifn c106 e
        refine j_iload_n C dX10_clash_37 rfl rfl ?_
        refine j_if_ne (tgt := 52) C dX10_clash_38 (by decide) (fun c105 => ?_) (fun c105 => ?_)
        · replace e := ifn c105 e
          refine j_iconst (v := (0 : Int32)) C dX10_clash_52 (by decide) ?_
          refine j_istore_n (lv1 := [(3, .int (0 : Int32)), (2, .int x63), (0, .ref y55), (1, .int y56)]) C hL dX10_clash_53 rfl (Nat.le_of_ble_eq_true rfl) rfl ?_
          refine jx_sub (lv' := [(0, .ref y55), (1, .int y56), (3, .int (0 : Int32))]) [2, 3, 0] rfl ?_
          refine itr_ind (s0 := (0 : Int32)) (fun s : Int32 => jx_J X 0 0 54 [(0, .ref y55), (1, .int y56), (3, .int s)] [] h64) e ?_
          clear e
          intro s kI2 kT2 e0
          obtain ⟨z65, es⟩ : ∃ z, z = s := ⟨_, rfl⟩
          subst es
          obtain ⟨u2, e0_2⟩ := e0
          have e : LX10_clash_54 y55 y56 z65 h64 = some u2 := e0_2
          unfold LX10_clash_54 at e
          refine j_aload_n C dX10_clash_54 rfl rfl ?_
          replace e := ob e
          obtain ⟨x66, ex66, e⟩ := e
          refine j_getr (ci := 10) (RC := RX10) (T := TX10) (N := 38) 23 C rfl klX10 (Nat.le_of_ble_eq_true rfl) kX10_52 rfl dX10_clash_55 ex66 ?_
          refine j_iload_n C dX10_clash_58 rfl rfl ?_
          refine j_aload_n C dX10_clash_59 rfl rfl ?_
          replace e := ob e
          obtain ⟨_, eo67, e⟩ := e
          replace e := ob e
          obtain ⟨x68, ex68, e⟩ := e
          refine j_callV (ci := 10) (RC := RX10) (T := TX10) (N := 38) (As := []) (b := y55) (na := 0) (st := [.int z65, .ref x66]) (k1 := 0) (n1 := 0) C hr (sX10_n ex68) rfl eo67 kX10_105 kim_X10_n ksel_X10_n kini_X10 kc_X10_n (by decide) rfl ⟨(Nat.le_of_ble_eq_true rfl), (Nat.le_of_ble_eq_true rfl)⟩ (Nat.le_of_ble_eq_true rfl) ⟨rfl, rfl, (Nat.le_of_ble_eq_true rfl), (Nat.le_of_ble_eq_true rfl)⟩ dX10_clash_60 ?_
          rintro _ _ ⟨rfl, rfl⟩
          show jx_J X 0 0 63 [(0, .ref y55), (1, .int y56), (3, .int z65)] [.int x68, .int z65, .ref x66] h64
          by_cases c69 : x68 = 0
          · exact nos (ifp c69 e)
          replace e := ifn c69 e
          refine j_irem C dX10_clash_63 c69 ?_
          refine j_iload_n C dX10_clash_64 rfl rfl ?_
          refine j_aload_n C dX10_clash_65 rfl rfl ?_
          replace e := ob e
          obtain ⟨_, eo70, e⟩ := e
          replace e := ob e
          obtain ⟨x71, ex71, e⟩ := e
          refine j_callV (ci := 10) (RC := RX10) (T := TX10) (N := 38) (As := []) (b := y55) (na := 0) (st := [.int z65, .int (z65 - z65 / x68 * x68), .ref x66]) (k1 := 0) (n1 := 0) C hr (sX10_n ex71) rfl eo70 kX10_105 kim_X10_n ksel_X10_n kini_X10 kc_X10_n (by decide) rfl ⟨(Nat.le_of_ble_eq_true rfl), (Nat.le_of_ble_eq_true rfl)⟩ (Nat.le_of_ble_eq_true rfl) ⟨rfl, rfl, (Nat.le_of_ble_eq_true rfl), (Nat.le_of_ble_eq_true rfl)⟩ dX10_clash_66 ?_
          rintro _ _ ⟨rfl, rfl⟩
          show jx_J X 0 0 69 [(0, .ref y55), (1, .int y56), (3, .int z65)] [.int x71, .int z65, .int (z65 - z65 / x68 * x68), .ref x66] h64
          by_cases c72 : x71 = 0
          · exact nos (ifp c72 e)
          replace e := ifn c72 e
          refine j_idiv C dX10_clash_69 c72 ?_
          replace e := ob e
          obtain ⟨x73, ex73, e⟩ := e
          refine j_callS (As := [.int (z65 - z65 / x68 * x68), .int (z65 / x71)]) (na := 2) (st := [.ref x66]) (k1 := 0) (n1 := 0) C hr (sX10_cell ex73) kX10_254 kst_X10_cell kini_X10 kc_X10_cell (by decide) rfl ⟨(Nat.le_of_ble_eq_true rfl), (Nat.le_of_ble_eq_true rfl)⟩ (Nat.le_of_ble_eq_true rfl) ⟨rfl, rfl, (Nat.le_of_ble_eq_true rfl), (Nat.le_of_ble_eq_true rfl)⟩ dX10_clash_70 ?_
          rintro _ _ ⟨rfl, rfl⟩
          show jx_J X 0 0 73 [(0, .ref y55), (1, .int y56), (3, .int z65)] [.int x73, .ref x66] h64
          replace e := ob e
          obtain ⟨x74, ex74, e⟩ := e
          refine j_iald C dX10_clash_73 ex74 ?_
          refine j_aload_n C dX10_clash_74 rfl rfl ?_
          replace e := ob e
          obtain ⟨x75, ex75, e⟩ := e
          refine j_getr (ci := 10) (RC := RX10) (T := TX10) (N := 38) 24 C rfl klX10 (Nat.le_of_ble_eq_true rfl) kX10_55 rfl dX10_clash_75 ex75 ?_
          refine j_iload_n C dX10_clash_78 rfl rfl ?_
          refine j_aload_n C dX10_clash_79 rfl rfl ?_
          replace e := ob e
          obtain ⟨_, eo76, e⟩ := e
          replace e := ob e
          obtain ⟨x77, ex77, e⟩ := e
          refine j_callV (ci := 10) (RC := RX10) (T := TX10) (N := 38) (As := []) (b := y55) (na := 0) (st := [.int z65, .ref x75, .int x74]) (k1 := 0) (n1 := 0) C hr (sX10_n ex77) rfl eo76 kX10_105 kim_X10_n ksel_X10_n kini_X10 kc_X10_n (by decide) rfl ⟨(Nat.le_of_ble_eq_true rfl), (Nat.le_of_ble_eq_true rfl)⟩ (Nat.le_of_ble_eq_true rfl) ⟨rfl, rfl, (Nat.le_of_ble_eq_true rfl), (Nat.le_of_ble_eq_true rfl)⟩ dX10_clash_80 ?_
          rintro _ _ ⟨rfl, rfl⟩
          show jx_J X 0 0 83 [(0, .ref y55), (1, .int y56), (3, .int z65)] [.int x77, .int z65, .ref x75, .int x74] h64
          by_cases c78 : x77 = 0
          · exact nos (ifp c78 e)
          replace e := ifn c78 e
          refine j_irem C dX10_clash_83 c78 ?_
          refine j_iload_n C dX10_clash_84 rfl rfl ?_
          refine j_aload_n C dX10_clash_85 rfl rfl ?_
          replace e := ob e
          obtain ⟨_, eo79, e⟩ := e
          replace e := ob e
          obtain ⟨x80, ex80, e⟩ := e
          refine j_callV (ci := 10) (RC := RX10) (T := TX10) (N := 38) (As := []) (b := y55) (na := 0) (st := [.int z65, .int (z65 - z65 / x77 * x77), .ref x75, .int x74]) (k1 := 0) (n1 := 0) C hr (sX10_n ex80) rfl eo79 kX10_105 kim_X10_n ksel_X10_n kini_X10 kc_X10_n (by decide) rfl ⟨(Nat.le_of_ble_eq_true rfl), (Nat.le_of_ble_eq_true rfl)⟩ (Nat.le_of_ble_eq_true rfl) ⟨rfl, rfl, (Nat.le_of_ble_eq_true rfl), (Nat.le_of_ble_eq_true rfl)⟩ dX10_clash_86 ?_
          rintro _ _ ⟨rfl, rfl⟩
          show jx_J X 0 0 89 [(0, .ref y55), (1, .int y56), (3, .int z65)] [.int x80, .int z65, .int (z65 - z65 / x77 * x77), .ref x75, .int x74] h64
          by_cases c81 : x80 = 0
          · exact nos (ifp c81 e)
          replace e := ifn c81 e
          refine j_idiv C dX10_clash_89 c81 ?_
          replace e := ob e
          obtain ⟨x82, ex82, e⟩ := e
          refine j_callS (As := [.int (z65 - z65 / x77 * x77), .int (z65 / x80)]) (na := 2) (st := [.ref x75, .int x74]) (k1 := 0) (n1 := 0) C hr (sX10_cell ex82) kX10_254 kst_X10_cell kini_X10 kc_X10_cell (by decide) rfl ⟨(Nat.le_of_ble_eq_true rfl), (Nat.le_of_ble_eq_true rfl)⟩ (Nat.le_of_ble_eq_true rfl) ⟨rfl, rfl, (Nat.le_of_ble_eq_true rfl), (Nat.le_of_ble_eq_true rfl)⟩ dX10_clash_90 ?_
          rintro _ _ ⟨rfl, rfl⟩
          show jx_J X 0 0 93 [(0, .ref y55), (1, .int y56), (3, .int z65)] [.int x82, .ref x75, .int x74] h64
          replace e := ob e
          obtain ⟨x83, ex83, e⟩ := e
          refine j_iald C dX10_clash_93 ex83 ?_
          refine j_icmp_ne (tgt := 103) C dX10_clash_94 (by decide) (fun c104 => ?_) (fun c104 => ?_)
          · replace e := ifn c104 e
            obtain ⟨t_3, e_3, eu_3⟩ := exL_spec e
            obtain rfl := kT2 t_3 (e0_2.trans (congrArg some eu_3))
            replace e := e_3
            refine j_iload_n C dX10_clash_103 rfl rfl ?_
            refine j_aload_n C dX10_clash_104 rfl rfl ?_
            replace e := ob e
            obtain ⟨_, eo84, e⟩ := e
            replace e := ob e
            obtain ⟨x85, ex85, e⟩ := e
            refine j_callV (ci := 10) (RC := RX10) (T := TX10) (N := 38) (As := []) (b := y55) (na := 0) (st := [.int z65]) (k1 := 0) (n1 := 0) C hr (sX10_n ex85) rfl eo84 kX10_105 kim_X10_n ksel_X10_n kini_X10 kc_X10_n (by decide) rfl ⟨(Nat.le_of_ble_eq_true rfl), (Nat.le_of_ble_eq_true rfl)⟩ (Nat.le_of_ble_eq_true rfl) ⟨rfl, rfl, (Nat.le_of_ble_eq_true rfl), (Nat.le_of_ble_eq_true rfl)⟩ dX10_clash_105 ?_
            rintro _ _ ⟨rfl, rfl⟩
            show jx_J X 0 0 108 [(0, .ref y55), (1, .int y56), (3, .int z65)] [.int x85, .int z65] h64
            by_cases c86 : x85 = 0
            · exact nos (ifp c86 e)
            replace e := ifn c86 e
            refine j_irem C dX10_clash_108 c86 ?_
            refine j_iload_n C dX10_clash_109 rfl rfl ?_
            refine j_aload_n C dX10_clash_110 rfl rfl ?_
            replace e := ob e
            obtain ⟨_, eo87, e⟩ := e
            replace e := ob e
            obtain ⟨x88, ex88, e⟩ := e
            refine j_callV (ci := 10) (RC := RX10) (T := TX10) (N := 38) (As := []) (b := y55) (na := 0) (st := [.int z65, .int (z65 - z65 / x85 * x85)]) (k1 := 0) (n1 := 0) C hr (sX10_n ex88) rfl eo87 kX10_105 kim_X10_n ksel_X10_n kini_X10 kc_X10_n (by decide) rfl ⟨(Nat.le_of_ble_eq_true rfl), (Nat.le_of_ble_eq_true rfl)⟩ (Nat.le_of_ble_eq_true rfl) ⟨rfl, rfl, (Nat.le_of_ble_eq_true rfl), (Nat.le_of_ble_eq_true rfl)⟩ dX10_clash_111 ?_
            rintro _ _ ⟨rfl, rfl⟩
            show jx_J X 0 0 114 [(0, .ref y55), (1, .int y56), (3, .int z65)] [.int x88, .int z65, .int (z65 - z65 / x85 * x85)] h64
            by_cases c89 : x88 = 0
            · exact nos (ifp c89 e)
            replace e := ifn c89 e
            refine j_idiv C dX10_clash_114 c89 ?_
            replace e := ob e
            obtain ⟨x90, ex90, e⟩ := e
            refine j_callS (As := [.int (z65 - z65 / x85 * x85), .int (z65 / x88)]) (na := 2) (st := []) (k1 := 0) (n1 := 0) C hr (sX10_cell ex90) kX10_254 kst_X10_cell kini_X10 kc_X10_cell (by decide) rfl ⟨(Nat.le_of_ble_eq_true rfl), (Nat.le_of_ble_eq_true rfl)⟩ (Nat.le_of_ble_eq_true rfl) ⟨rfl, rfl, (Nat.le_of_ble_eq_true rfl), (Nat.le_of_ble_eq_true rfl)⟩ dX10_clash_115 ?_
            rintro _ _ ⟨rfl, rfl⟩
            show jx_J X 0 0 118 [(0, .ref y55), (1, .int y56), (3, .int z65)] [.int x90] h64
            refine j_istore (lv1 := [(4, .int x90), (0, .ref y55), (1, .int y56), (3, .int z65)]) C hL dX10_clash_118 (Nat.le_of_ble_eq_true rfl) rfl ?_
            refine j_iload_n C dX10_clash_120 rfl rfl ?_
            refine j_if_ne (tgt := 133) C dX10_clash_121 (by decide) (fun c103 => ?_) (fun c103 => ?_)
            · replace e := ifn c103 e
              refine j_iload_n C dX10_clash_133 rfl rfl ?_
              refine j_iconst (v := (1 : Int32)) C dX10_clash_134 (by decide) ?_
              refine j_icmp_ne (tgt := 147) C dX10_clash_135 (by decide) (fun c99 => ?_) (fun c99 => ?_)
              · replace e := ifn c99 e
                refine j_iload_n C dX10_clash_147 rfl rfl ?_
                refine j_iconst (v := (2 : Int32)) C dX10_clash_148 (by decide) ?_
                refine j_icmp_ne (tgt := 162) C dX10_clash_149 (by decide) (fun c95 => ?_) (fun c95 => ?_)
                · replace e := ifn c95 e
                  refine j_aload_n C dX10_clash_162 rfl rfl ?_
                  replace e := ob e
                  obtain ⟨x91, ex91, e⟩ := e
                  refine j_getr (ci := 10) (RC := RX10) (T := TX10) (N := 38) 24 C rfl klX10 (Nat.le_of_ble_eq_true rfl) kX10_55 rfl dX10_clash_163 ex91 ?_
                  refine j_iload C dX10_clash_166 rfl ?_
                  replace e := ob e
                  obtain ⟨x92, ex92, e⟩ := e
                  refine j_iald C dX10_clash_168 ex92 ?_
                  cases e
                  exact j_iret C hq rfl dX10_clash_169 ⟨Nat.le_of_ble_eq_true rfl, Nat.le_of_ble_eq_true rfl⟩ ⟨rfl, rfl⟩
                · replace e := ifp c95 e
                  refine j_aload_n C dX10_clash_152 rfl rfl ?_
                  replace e := ob e
                  obtain ⟨x93, ex93, e⟩ := e
                  refine j_getr (ci := 10) (RC := RX10) (T := TX10) (N := 38) 23 C rfl klX10 (Nat.le_of_ble_eq_true rfl) kX10_52 rfl dX10_clash_153 ex93 ?_
                  refine j_iload C dX10_clash_156 rfl ?_
                  replace e := ob e
                  obtain ⟨x94, ex94, e⟩ := e
                  refine j_iald C dX10_clash_158 ex94 ?_
                  refine j_goto (tgt := 169) C dX10_clash_159 (by decide) ?_
                  cases e
                  exact j_iret C hq rfl dX10_clash_169 ⟨Nat.le_of_ble_eq_true rfl, Nat.le_of_ble_eq_true rfl⟩ ⟨rfl, rfl⟩
              · replace e := ifp c99 e
                refine j_iload_n C dX10_clash_138 rfl rfl ?_
                refine j_aload_n C dX10_clash_139 rfl rfl ?_
                replace e := ob e
                obtain ⟨_, eo96, e⟩ := e
                replace e := ob e
                obtain ⟨x97, ex97, e⟩ := e
                refine j_callV (ci := 10) (RC := RX10) (T := TX10) (N := 38) (As := []) (b := y55) (na := 0) (st := [.int z65]) (k1 := 0) (n1 := 0) C hr (sX10_n ex97) rfl eo96 kX10_105 kim_X10_n ksel_X10_n kini_X10 kc_X10_n (by decide) rfl ⟨(Nat.le_of_ble_eq_true rfl), (Nat.le_of_ble_eq_true rfl)⟩ (Nat.le_of_ble_eq_true rfl) ⟨rfl, rfl, (Nat.le_of_ble_eq_true rfl), (Nat.le_of_ble_eq_true rfl)⟩ dX10_clash_140 ?_
                rintro _ _ ⟨rfl, rfl⟩
                show jx_J X 0 0 143 [(4, .int x90), (0, .ref y55), (1, .int y56), (3, .int z65)] [.int x97, .int z65] h64
                by_cases c98 : x97 = 0
                · exact nos (ifp c98 e)
                replace e := ifn c98 e
                refine j_irem C dX10_clash_143 c98 ?_
                refine j_goto (tgt := 169) C dX10_clash_144 (by decide) ?_
                cases e
                exact j_iret C hq rfl dX10_clash_169 ⟨Nat.le_of_ble_eq_true rfl, Nat.le_of_ble_eq_true rfl⟩ ⟨rfl, rfl⟩
            · replace e := ifp c103 e
              refine j_iload_n C dX10_clash_124 rfl rfl ?_
              refine j_aload_n C dX10_clash_125 rfl rfl ?_
              replace e := ob e
              obtain ⟨_, eo100, e⟩ := e
              replace e := ob e
              obtain ⟨x101, ex101, e⟩ := e
              refine j_callV (ci := 10) (RC := RX10) (T := TX10) (N := 38) (As := []) (b := y55) (na := 0) (st := [.int z65]) (k1 := 0) (n1 := 0) C hr (sX10_n ex101) rfl eo100 kX10_105 kim_X10_n ksel_X10_n kini_X10 kc_X10_n (by decide) rfl ⟨(Nat.le_of_ble_eq_true rfl), (Nat.le_of_ble_eq_true rfl)⟩ (Nat.le_of_ble_eq_true rfl) ⟨rfl, rfl, (Nat.le_of_ble_eq_true rfl), (Nat.le_of_ble_eq_true rfl)⟩ dX10_clash_126 ?_
              rintro _ _ ⟨rfl, rfl⟩
              show jx_J X 0 0 129 [(4, .int x90), (0, .ref y55), (1, .int y56), (3, .int z65)] [.int x101, .int z65] h64
              by_cases c102 : x101 = 0
              · exact nos (ifp c102 e)
              replace e := ifn c102 e
              refine j_idiv C dX10_clash_129 c102 ?_
              refine j_goto (tgt := 169) C dX10_clash_130 (by decide) ?_
              cases e
              exact j_iret C hq rfl dX10_clash_169 ⟨Nat.le_of_ble_eq_true rfl, Nat.le_of_ble_eq_true rfl⟩ ⟨rfl, rfl⟩
          · replace e := ifp c104 e
            refine j_iinc (v := (z65 + (1 : Int32))) (lv1 := [(3, .int (z65 + (1 : Int32))), (0, .ref y55), (1, .int y56)]) C hL dX10_clash_97 rfl rfl (Nat.le_of_ble_eq_true rfl) rfl ?_
            refine j_goto (tgt := 54) C dX10_clash_100 (by decide) ?_
            obtain rfl := Option.some.inj e
            refine jx_sub (lv' := [(0, .ref y55), (1, .int y56), (3, .int (z65 + (1 : Int32)))]) [1, 2, 0] rfl ?_
            exact kI2 (z65 + (1 : Int32)) e0_2
        · replace e := ifp c105 e
          refine jx_sub (lv' := [(1, .int y56), (2, .int x63)]) [2, 0] rfl ?_
          exact b41 y56 x63 h64 e
    · replace e := ifn c107 e
      refine j_iconst (v := (0 : Int32)) C dX10_clash_25 (by decide) ?_
      cases e
      exact j_iret C hq rfl dX10_clash_26 ⟨Nat.le_of_ble_eq_true rfl, Nat.le_of_ble_eq_true rfl⟩ ⟨rfl, rfl⟩
  unfold FX10_clash at e
  refine j_aload_n C dX10_clash_0 rfl rfl ?_
  refine j_iload_n C dX10_clash_1 rfl rfl ?_
  refine j_iconst (v := (0 : Int32)) C dX10_clash_2 (by decide) ?_
  refine j_iconst (v := (4 : Int32)) C dX10_clash_3 (by decide) ?_
  replace e := ob e
  obtain ⟨x108, ex108, e⟩ := e
  refine j_callS (As := [.int l1, .int (0 : Int32), .int (4 : Int32)]) (na := 3) (st := [.ref l0]) (k1 := 0) (n1 := 0) C hr (sX10_in ex108) kX10_101 kst_X10_in kini_X10 kc_X10_in (by decide) rfl ⟨(Nat.le_of_ble_eq_true rfl), (Nat.le_of_ble_eq_true rfl)⟩ (Nat.le_of_ble_eq_true rfl) ⟨rfl, rfl, (Nat.le_of_ble_eq_true rfl), (Nat.le_of_ble_eq_true rfl)⟩ dX10_clash_4 ?_
  rintro _ _ ⟨rfl, rfl⟩
  show jx_J X 0 0 7 [(0, .ref l0), (1, .int l1)] [.int x108, .ref l0] h
  refine j_if_eq (tgt := 14) C dX10_clash_7 (by decide) (fun c109 => ?_) (fun c109 => ?_)
  · replace e := ifp c109 e
    refine j_iconst (v := (1 : Int32)) C dX10_clash_14 (by decide) ?_
    exact b15 l0 l1 l0 (1 : Int32) h e
  · replace e := ifn c109 e
    refine j_iconst (v := (0 : Int32)) C dX10_clash_10 (by decide) ?_
    refine j_goto (tgt := 15) C dX10_clash_11 (by decide) ?_
    exact b15 l0 l1 l0 (0 : Int32) h e
