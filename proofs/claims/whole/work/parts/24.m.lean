/-! BorderBasisModel.looks(II)V -/
noncomputable def FX10_looks (l0 : Nat) (l1 : Int32) (l2 : Int32) (h : jx_H) : Option (jx_H) :=
(hgi h l0 10 13).bind fun x1 =>
if x1 = (2 : Int32) then
 (hgi h l0 10 14).bind fun x2 =>
 (FX10_in x2 l1 l2 h).bind fun x3 =>
 if x3 = 0 then
  (isO h l0 10).bind fun _ =>
  (FX10_fails l0 (2 : Int32) h).bind fun h5 =>
  some h5
 else
  some h
else
 (isO h l0 10).bind fun _ =>
 (FX10_fails l0 (1 : Int32) h).bind fun h8 =>
 some h8
def rmX10_looks : Room := { frames := 1, cells := 0, slots := 0, locals := 22 }
set_option maxRecDepth 20000 in
set_option maxHeartbeats 4000000 in
theorem sX10_looks {l0 : Nat} {l1 : Int32} {l2 : Int32} {h : jx_H} {h9 : jx_H} (e : FX10_looks l0 l1 l2 h = some h9) : jx_Ct yX10_looks cX10_looks 3 none rmX10_looks [.ref l0, .int l1, .int l2] h (fun r' h' => none = r' ∧ h9 = h') := by
  refine jx_Ct.of (own := RX10) (by decide) rfl (Nat.le_of_ble_eq_true rfl) (fun X C hq hr hL hN => ?_)
  refine jx_sub (lv' := [(0, .ref l0), (1, .int l1), (2, .int l2)]) [0, 1, 2] rfl ?_
  unfold FX10_looks at e
  refine j_aload_n C dX10_looks_0 rfl rfl ?_
  replace e := ob e
  obtain ⟨x10, ex10, e⟩ := e
  refine j_geti (ci := 10) (RC := RX10) (T := TX10) (N := 38) 13 C rfl klX10 (Nat.le_of_ble_eq_true rfl) kX10_169 rfl dX10_looks_1 ex10 ?_
  refine j_iconst (v := (2 : Int32)) C dX10_looks_4 (by decide) ?_
  refine j_icmp_eq (tgt := 16) C dX10_looks_5 (by decide) (fun c18 => ?_) (fun c18 => ?_)
  · replace e := ifp c18 e
    refine j_aload_n C dX10_looks_16 rfl rfl ?_
    replace e := ob e
    obtain ⟨x11, ex11, e⟩ := e
    refine j_geti (ci := 10) (RC := RX10) (T := TX10) (N := 38) 14 C rfl klX10 (Nat.le_of_ble_eq_true rfl) kX10_172 rfl dX10_looks_17 ex11 ?_
    refine j_iload_n C dX10_looks_20 rfl rfl ?_
    refine j_iload_n C dX10_looks_21 rfl rfl ?_
    replace e := ob e
    obtain ⟨x12, ex12, e⟩ := e
    refine j_callS (As := [.int x11, .int l1, .int l2]) (na := 3) (st := []) (k1 := 0) (n1 := 0) C hr (sX10_in ex12) kX10_101 kst_X10_in kini_X10 kc_X10_in (by decide) rfl ⟨(Nat.le_of_ble_eq_true rfl), (Nat.le_of_ble_eq_true rfl)⟩ (Nat.le_of_ble_eq_true rfl) ⟨rfl, rfl, (Nat.le_of_ble_eq_true rfl), (Nat.le_of_ble_eq_true rfl)⟩ dX10_looks_22 ?_
    rintro _ _ ⟨rfl, rfl⟩
    show jx_J X 0 0 25 [(0, .ref l0), (1, .int l1), (2, .int l2)] [.int x12] h
    refine j_if_ne (tgt := 33) C dX10_looks_25 (by decide) (fun c15 => ?_) (fun c15 => ?_)
    · replace e := ifn c15 e
      cases e
      exact j_vret C hq dX10_looks_33 ⟨Nat.le_of_ble_eq_true rfl, Nat.le_of_ble_eq_true rfl⟩ ⟨rfl, rfl⟩
    · replace e := ifp c15 e
      refine j_aload_n C dX10_looks_28 rfl rfl ?_
      refine j_iconst (v := (2 : Int32)) C dX10_looks_29 (by decide) ?_
      replace e := ob e
      obtain ⟨_, eo13, e⟩ := e
      replace e := ob e
      obtain ⟨h14, eh14, e⟩ := e
      refine j_callV (ci := 10) (RC := RX10) (T := TX10) (N := 38) (As := [.int (2 : Int32)]) (b := l0) (na := 1) (st := []) (k1 := 0) (n1 := 0) C hr (sX10_fails eh14) rfl eo13 kX10_178 kim_X10_fails ksel_X10_fails kini_X10 kc_X10_fails (by decide) rfl ⟨(Nat.le_of_ble_eq_true rfl), (Nat.le_of_ble_eq_true rfl)⟩ (Nat.le_of_ble_eq_true rfl) ⟨rfl, rfl, (Nat.le_of_ble_eq_true rfl), (Nat.le_of_ble_eq_true rfl)⟩ dX10_looks_30 ?_
      rintro _ _ ⟨rfl, rfl⟩
      show jx_J X 0 0 33 [(0, .ref l0), (1, .int l1), (2, .int l2)] [] h14
      cases e
      exact j_vret C hq dX10_looks_33 ⟨Nat.le_of_ble_eq_true rfl, Nat.le_of_ble_eq_true rfl⟩ ⟨rfl, rfl⟩
  · replace e := ifn c18 e
    refine j_aload_n C dX10_looks_8 rfl rfl ?_
    refine j_iconst (v := (1 : Int32)) C dX10_looks_9 (by decide) ?_
    replace e := ob e
    obtain ⟨_, eo16, e⟩ := e
    replace e := ob e
    obtain ⟨h17, eh17, e⟩ := e
    refine j_callV (ci := 10) (RC := RX10) (T := TX10) (N := 38) (As := [.int (1 : Int32)]) (b := l0) (na := 1) (st := []) (k1 := 0) (n1 := 0) C hr (sX10_fails eh17) rfl eo16 kX10_178 kim_X10_fails ksel_X10_fails kini_X10 kc_X10_fails (by decide) rfl ⟨(Nat.le_of_ble_eq_true rfl), (Nat.le_of_ble_eq_true rfl)⟩ (Nat.le_of_ble_eq_true rfl) ⟨rfl, rfl, (Nat.le_of_ble_eq_true rfl), (Nat.le_of_ble_eq_true rfl)⟩ dX10_looks_10 ?_
    rintro _ _ ⟨rfl, rfl⟩
    show jx_J X 0 0 13 [(0, .ref l0), (1, .int l1), (2, .int l2)] [] h17
    refine j_goto (tgt := 33) C dX10_looks_13 (by decide) ?_
    cases e
    exact j_vret C hq dX10_looks_33 ⟨Nat.le_of_ble_eq_true rfl, Nat.le_of_ble_eq_true rfl⟩ ⟨rfl, rfl⟩
/-! BorderBasisModel.reads(II)I -/
noncomputable def FX10_reads (l0 : Nat) (l1 : Int32) (l2 : Int32) (h : jx_H) : Option (Int32 × jx_H) :=
(isO h l0 10).bind fun _ =>
(FX10_looks l0 l1 l2 h).bind fun h2 =>
(hgi h2 l0 10 15).bind fun x3 =>
if x3 ≤ 0 then
 (hgi h2 l0 10 14).bind fun x4 =>
 (isO h2 l0 10).bind fun _ =>
 (FX10_goesOn l0 h2).bind fun h6 =>
 some (x4, h6)
else
 some (l1, h2)
def rmX10_reads : Room := { frames := 3, cells := 0, slots := 0, locals := 62 }
set_option maxRecDepth 20000 in
set_option maxHeartbeats 4000000 in
theorem sX10_reads {l0 : Nat} {l1 : Int32} {l2 : Int32} {h : jx_H} {r : Int32} {h9 : jx_H} (e : FX10_reads l0 l1 l2 h = some (r, h9)) : jx_Ct yX10_reads cX10_reads 4 (some .int) rmX10_reads [.ref l0, .int l1, .int l2] h (fun r' h' => some (.int r) = r' ∧ h9 = h') := by
  refine jx_Ct.of (own := RX10) (by decide) rfl (Nat.le_of_ble_eq_true rfl) (fun X C hq hr hL hN => ?_)
  refine jx_sub (lv' := [(0, .ref l0), (1, .int l1), (2, .int l2)]) [0, 1, 2] rfl ?_
  unfold FX10_reads at e
  refine j_aload_n C dX10_reads_0 rfl rfl ?_
  refine j_iload_n C dX10_reads_1 rfl rfl ?_
  refine j_iload_n C dX10_reads_2 rfl rfl ?_
  replace e := ob e
  obtain ⟨_, eo8, e⟩ := e
  replace e := ob e
  obtain ⟨h9, eh9, e⟩ := e
  refine j_callV (ci := 10) (RC := RX10) (T := TX10) (N := 38) (As := [.int l1, .int l2]) (b := l0) (na := 2) (st := []) (k1 := 0) (n1 := 0) C hr (sX10_looks eh9) rfl eo8 kX10_182 kim_X10_looks ksel_X10_looks kini_X10 kc_X10_looks (by decide) rfl ⟨(Nat.le_of_ble_eq_true rfl), (Nat.le_of_ble_eq_true rfl)⟩ (Nat.le_of_ble_eq_true rfl) ⟨rfl, rfl, (Nat.le_of_ble_eq_true rfl), (Nat.le_of_ble_eq_true rfl)⟩ dX10_reads_3 ?_
  rintro _ _ ⟨rfl, rfl⟩
  show jx_J X 0 0 6 [(0, .ref l0), (1, .int l1), (2, .int l2)] [] h9
  refine j_aload_n C dX10_reads_6 rfl rfl ?_
  replace e := ob e
  obtain ⟨x10, ex10, e⟩ := e
  refine j_geti (ci := 10) (RC := RX10) (T := TX10) (N := 38) 15 C rfl klX10 (Nat.le_of_ble_eq_true rfl) kX10_175 rfl dX10_reads_7 ex10 ?_
  refine j_if_le (tgt := 15) C dX10_reads_10 (by decide) (fun c14 => ?_) (fun c14 => ?_)
  · replace e := ifp c14 e
    refine j_aload_n C dX10_reads_15 rfl rfl ?_
    replace e := ob e
    obtain ⟨x11, ex11, e⟩ := e
    refine j_geti (ci := 10) (RC := RX10) (T := TX10) (N := 38) 14 C rfl klX10 (Nat.le_of_ble_eq_true rfl) kX10_172 rfl dX10_reads_16 ex11 ?_
    refine j_istore_n (lv1 := [(3, .int x11), (0, .ref l0), (1, .int l1), (2, .int l2)]) C hL dX10_reads_19 rfl (Nat.le_of_ble_eq_true rfl) rfl ?_
    refine j_aload_n C dX10_reads_20 rfl rfl ?_
    replace e := ob e
    obtain ⟨_, eo12, e⟩ := e
    replace e := ob e
    obtain ⟨h13, eh13, e⟩ := e
    refine j_callV (ci := 10) (RC := RX10) (T := TX10) (N := 38) (As := []) (b := l0) (na := 0) (st := []) (k1 := 0) (n1 := 0) C hr (sX10_goesOn eh13) rfl eo12 kX10_185 kim_X10_goesOn ksel_X10_goesOn kini_X10 kc_X10_goesOn (by decide) rfl ⟨(Nat.le_of_ble_eq_true rfl), (Nat.le_of_ble_eq_true rfl)⟩ (Nat.le_of_ble_eq_true rfl) ⟨rfl, rfl, (Nat.le_of_ble_eq_true rfl), (Nat.le_of_ble_eq_true rfl)⟩ dX10_reads_21 ?_
    rintro _ _ ⟨rfl, rfl⟩
    show jx_J X 0 0 24 [(3, .int x11), (0, .ref l0), (1, .int l1), (2, .int l2)] [] h13
    refine j_iload_n C dX10_reads_24 rfl rfl ?_
    cases e
    exact j_iret C hq rfl dX10_reads_25 ⟨Nat.le_of_ble_eq_true rfl, Nat.le_of_ble_eq_true rfl⟩ ⟨rfl, rfl⟩
  · replace e := ifn c14 e
    refine j_iload_n C dX10_reads_13 rfl rfl ?_
    cases e
    exact j_iret C hq rfl dX10_reads_14 ⟨Nat.le_of_ble_eq_true rfl, Nat.le_of_ble_eq_true rfl⟩ ⟨rfl, rfl⟩
/-! BorderBasisModel.must(ZI)V -/
noncomputable def FX10_must (l0 : Nat) (l1 : Int32) (l2 : Int32) (h : jx_H) : Option (jx_H) :=
if l1 = 0 then
 (isO h l0 10).bind fun _ =>
 (FX10_fails l0 l2 h).bind fun h2 =>
 some h2
else
 some h
def rmX10_must : Room := { frames := 1, cells := 0, slots := 0, locals := 21 }
set_option maxRecDepth 20000 in
set_option maxHeartbeats 4000000 in
theorem sX10_must {l0 : Nat} {l1 : Int32} {l2 : Int32} {h : jx_H} {h9 : jx_H} (e : FX10_must l0 l1 l2 h = some h9) : jx_Ct yX10_must cX10_must 3 none rmX10_must [.ref l0, .int l1, .int l2] h (fun r' h' => none = r' ∧ h9 = h') := by
  refine jx_Ct.of (own := RX10) (by decide) rfl (Nat.le_of_ble_eq_true rfl) (fun X C hq hr hL hN => ?_)
  refine jx_sub (lv' := [(0, .ref l0), (1, .int l1), (2, .int l2)]) [0, 1, 2] rfl ?_
  unfold FX10_must at e
  refine j_iload_n C dX10_must_0 rfl rfl ?_
  refine j_if_ne (tgt := 9) C dX10_must_1 (by decide) (fun c6 => ?_) (fun c6 => ?_)
  · replace e := ifn c6 e
    cases e
    exact j_vret C hq dX10_must_9 ⟨Nat.le_of_ble_eq_true rfl, Nat.le_of_ble_eq_true rfl⟩ ⟨rfl, rfl⟩
  · replace e := ifp c6 e
    refine j_aload_n C dX10_must_4 rfl rfl ?_
    refine j_iload_n C dX10_must_5 rfl rfl ?_
    replace e := ob e
    obtain ⟨_, eo4, e⟩ := e
    replace e := ob e
    obtain ⟨h5, eh5, e⟩ := e
    refine j_callV (ci := 10) (RC := RX10) (T := TX10) (N := 38) (As := [.int l2]) (b := l0) (na := 1) (st := []) (k1 := 0) (n1 := 0) C hr (sX10_fails eh5) rfl eo4 kX10_178 kim_X10_fails ksel_X10_fails kini_X10 kc_X10_fails (by decide) rfl ⟨(Nat.le_of_ble_eq_true rfl), (Nat.le_of_ble_eq_true rfl)⟩ (Nat.le_of_ble_eq_true rfl) ⟨rfl, rfl, (Nat.le_of_ble_eq_true rfl), (Nat.le_of_ble_eq_true rfl)⟩ dX10_must_6 ?_
    rintro _ _ ⟨rfl, rfl⟩
    show jx_J X 0 0 9 [(0, .ref l0), (1, .int l1), (2, .int l2)] [] h5
    cases e
    exact j_vret C hq dX10_must_9 ⟨Nat.le_of_ble_eq_true rfl, Nat.le_of_ble_eq_true rfl⟩ ⟨rfl, rfl⟩
/-! BorderBasisModel.readPrime()V -/
noncomputable def BX10_readPrime_32 (l0 : Nat) (s0 : Nat) (s1 : Int32) (h : jx_H) : Option (jx_H) :=
(isO h s0 10).bind fun _ =>
(FX10_must s0 s1 (2 : Int32) h).bind fun h2 =>
(isO h2 l0 10).bind fun _ =>
bind2 (FX10_reads l0 (13 : Int32) (97 : Int32) h2) fun x4 h5 =>
(hgi h5 l0 10 15).bind fun x6 =>
if x6 = 0 then
 (hgr h5 l0 10 1).bind fun x7 =>
 (has h5 .int x7 (0 : Int32) x4).bind fun h8 =>
 some h8
else
 some h5
noncomputable def BX10_readPrime_27 (l0 : Nat) (s0 : Nat) (h : jx_H) : Option (jx_H) :=
BX10_readPrime_32 l0 s0 (1 : Int32) h
noncomputable def FX10_readPrime (l0 : Nat) (h : jx_H) : Option (jx_H) :=
(isO h l0 10).bind fun _ =>
(FX10_looks l0 (13 : Int32) (97 : Int32) h).bind fun h11 =>
(hgi h11 l0 10 15).bind fun x12 =>
if 0 < x12 then
 BX10_readPrime_27 l0 l0 h11
else
 (hgi h11 l0 10 14).bind fun x13 =>
 (isO h11 l0 10).bind fun _ =>
 (FX10_isPrime l0 x13 h11).bind fun x15 =>
 if x15 = 0 then
  BX10_readPrime_32 l0 l0 (0 : Int32) h11
 else
  BX10_readPrime_27 l0 l0 h11
def rmX10_readPrime : Room := { frames := 4, cells := 0, slots := 0, locals := 85 }
set_option maxRecDepth 20000 in
set_option maxHeartbeats 4000000 in
theorem sX10_readPrime {l0 : Nat} {h : jx_H} {h9 : jx_H} (e : FX10_readPrime l0 h = some h9) : jx_Ct yX10_readPrime cX10_readPrime 2 none rmX10_readPrime [.ref l0] h (fun r' h' => none = r' ∧ h9 = h') := by
  refine jx_Ct.of (own := RX10) (by decide) rfl (Nat.le_of_ble_eq_true rfl) (fun X C hq hr hL hN => ?_)
  refine jx_sub (lv' := [(0, .ref l0)]) [0] rfl ?_
  have b32 : ∀ (y18 : Nat) (y19 : Nat) (y20 : Int32) (h21 : jx_H), BX10_readPrime_32 y18 y19 y20 h21 = some h9 → jx_J X 0 0 32 [(0, .ref y18)] [.int y20, .ref y19] h21 := by
    intro y18 y19 y20 h21 e
    unfold BX10_readPrime_32 at e
    refine j_iconst (v := (2 : Int32)) C dX10_readPrime_32 (by decide) ?_
    replace e := ob e
    obtain ⟨_, eo22, e⟩ := e
    replace e := ob e
    obtain ⟨h23, eh23, e⟩ := e
    refine j_callV (ci := 10) (RC := RX10) (T := TX10) (N := 38) (As := [.int y20, .int (2 : Int32)]) (b := y19) (na := 2) (st := []) (k1 := 0) (n1 := 0) C hr (sX10_must eh23) rfl eo22 kX10_192 kim_X10_must ksel_X10_must kini_X10 kc_X10_must (by decide) rfl ⟨(Nat.le_of_ble_eq_true rfl), (Nat.le_of_ble_eq_true rfl)⟩ (Nat.le_of_ble_eq_true rfl) ⟨rfl, rfl, (Nat.le_of_ble_eq_true rfl), (Nat.le_of_ble_eq_true rfl)⟩ dX10_readPrime_33 ?_
    rintro _ _ ⟨rfl, rfl⟩
    show jx_J X 0 0 36 [(0, .ref y18)] [] h23
    refine j_aload_n C dX10_readPrime_36 rfl rfl ?_
    refine j_bipush (v := (13 : Int32)) C dX10_readPrime_37 (by decide) ?_
    refine j_bipush (v := (97 : Int32)) C dX10_readPrime_39 (by decide) ?_
    replace e := ob e
    obtain ⟨_, eo24, e⟩ := e
    replace e := ob2 e
    obtain ⟨x25, h26, ex25, e⟩ := e
    refine j_callV (ci := 10) (RC := RX10) (T := TX10) (N := 38) (As := [.int (13 : Int32), .int (97 : Int32)]) (b := y18) (na := 2) (st := []) (k1 := 0) (n1 := 0) C hr (sX10_reads ex25) rfl eo24 kX10_196 kim_X10_reads ksel_X10_reads kini_X10 kc_X10_reads (by decide) rfl ⟨(Nat.le_of_ble_eq_true rfl), (Nat.le_of_ble_eq_true rfl)⟩ (Nat.le_of_ble_eq_true rfl) ⟨rfl, rfl, (Nat.le_of_ble_eq_true rfl), (Nat.le_of_ble_eq_true rfl)⟩ dX10_readPrime_41 ?_
    rintro _ _ ⟨rfl, rfl⟩
    show jx_J X 0 0 44 [(0, .ref y18)] [.int x25] h26
    refine j_istore_n (lv1 := [(1, .int x25), (0, .ref y18)]) C hL dX10_readPrime_44 rfl (Nat.le_of_ble_eq_true rfl) rfl ?_
    refine j_aload_n C dX10_readPrime_45 rfl rfl ?_
    replace e := ob e
    obtain ⟨x27, ex27, e⟩ := e
    refine j_geti (ci := 10) (RC := RX10) (T := TX10) (N := 38) 15 C rfl klX10 (Nat.le_of_ble_eq_true rfl) kX10_175 rfl dX10_readPrime_46 ex27 ?_
    refine j_if_ne (tgt := 59) C dX10_readPrime_49 (by decide) (fun c30 => ?_) (fun c30 => ?_)
    · replace e := ifn c30 e
      cases e
      exact j_vret C hq dX10_readPrime_59 ⟨Nat.le_of_ble_eq_true rfl, Nat.le_of_ble_eq_true rfl⟩ ⟨rfl, rfl⟩
    · replace e := ifp c30 e
      refine j_aload_n C dX10_readPrime_52 rfl rfl ?_
      replace e := ob e
      obtain ⟨x28, ex28, e⟩ := e
      refine j_getr (ci := 10) (RC := RX10) (T := TX10) (N := 38) 1 C rfl klX10 (Nat.le_of_ble_eq_true rfl) kX10_7 rfl dX10_readPrime_53 ex28 ?_
      refine j_iconst (v := (0 : Int32)) C dX10_readPrime_56 (by decide) ?_
      refine j_iload_n C dX10_readPrime_57 rfl rfl ?_
      replace e := ob e
      obtain ⟨h29, eh29, e⟩ := e
      refine j_iast C dX10_readPrime_58 eh29 ?_
      cases e
      exact j_vret C hq dX10_readPrime_59 ⟨Nat.le_of_ble_eq_true rfl, Nat.le_of_ble_eq_true rfl⟩ ⟨rfl, rfl⟩
  have b27 : ∀ (y31 : Nat) (y32 : Nat) (h33 : jx_H), BX10_readPrime_27 y31 y32 h33 = some h9 → jx_J X 0 0 27 [(0, .ref y31)] [.ref y32] h33 := by
    intro y31 y32 h33 e
    unfold BX10_readPrime_27 at e
    refine j_iconst (v := (1 : Int32)) C dX10_readPrime_27 (by decide) ?_
    refine j_goto (tgt := 32) C dX10_readPrime_28 (by decide) ?_
    exact b32 y31 y32 (1 : Int32) h33 e
  unfold FX10_readPrime at e
  refine j_aload_n C dX10_readPrime_0 rfl rfl ?_
  refine j_bipush (v := (13 : Int32)) C dX10_readPrime_1 (by decide) ?_
  refine j_bipush (v := (97 : Int32)) C dX10_readPrime_3 (by decide) ?_
  replace e := ob e
  obtain ⟨_, eo34, e⟩ := e
  replace e := ob e
  obtain ⟨h35, eh35, e⟩ := e
  refine j_callV (ci := 10) (RC := RX10) (T := TX10) (N := 38) (As := [.int (13 : Int32), .int (97 : Int32)]) (b := l0) (na := 2) (st := []) (k1 := 0) (n1 := 0) C hr (sX10_looks eh35) rfl eo34 kX10_182 kim_X10_looks ksel_X10_looks kini_X10 kc_X10_looks (by decide) rfl ⟨(Nat.le_of_ble_eq_true rfl), (Nat.le_of_ble_eq_true rfl)⟩ (Nat.le_of_ble_eq_true rfl) ⟨rfl, rfl, (Nat.le_of_ble_eq_true rfl), (Nat.le_of_ble_eq_true rfl)⟩ dX10_readPrime_5 ?_
  rintro _ _ ⟨rfl, rfl⟩
  show jx_J X 0 0 8 [(0, .ref l0)] [] h35
  refine j_aload_n C dX10_readPrime_8 rfl rfl ?_
  refine j_aload_n C dX10_readPrime_9 rfl rfl ?_
  replace e := ob e
  obtain ⟨x36, ex36, e⟩ := e
  refine j_geti (ci := 10) (RC := RX10) (T := TX10) (N := 38) 15 C rfl klX10 (Nat.le_of_ble_eq_true rfl) kX10_175 rfl dX10_readPrime_10 ex36 ?_
  refine j_if_gt (tgt := 27) C dX10_readPrime_13 (by decide) (fun c41 => ?_) (fun c41 => ?_)
  · replace e := ifp c41 e
    exact b27 l0 l0 h35 e
  · replace e := ifn c41 e
    refine j_aload_n C dX10_readPrime_16 rfl rfl ?_
    refine j_aload_n C dX10_readPrime_17 rfl rfl ?_
    replace e := ob e
    obtain ⟨x37, ex37, e⟩ := e
    refine j_geti (ci := 10) (RC := RX10) (T := TX10) (N := 38) 14 C rfl klX10 (Nat.le_of_ble_eq_true rfl) kX10_172 rfl dX10_readPrime_18 ex37 ?_
    replace e := ob e
    obtain ⟨_, eo38, e⟩ := e
    replace e := ob e
    obtain ⟨x39, ex39, e⟩ := e
    refine j_callV (ci := 10) (RC := RX10) (T := TX10) (N := 38) (As := [.int x37]) (b := l0) (na := 1) (st := [.ref l0]) (k1 := 0) (n1 := 0) C hr (sX10_isPrime ex39) rfl eo38 kX10_188 kim_X10_isPrime ksel_X10_isPrime kini_X10 kc_X10_isPrime (by decide) rfl ⟨(Nat.le_of_ble_eq_true rfl), (Nat.le_of_ble_eq_true rfl)⟩ (Nat.le_of_ble_eq_true rfl) ⟨rfl, rfl, (Nat.le_of_ble_eq_true rfl), (Nat.le_of_ble_eq_true rfl)⟩ dX10_readPrime_21 ?_
    rintro _ _ ⟨rfl, rfl⟩
    show jx_J X 0 0 24 [(0, .ref l0)] [.int x39, .ref l0] h35
    refine j_if_eq (tgt := 31) C dX10_readPrime_24 (by decide) (fun c40 => ?_) (fun c40 => ?_)
    · replace e := ifp c40 e
      refine j_iconst (v := (0 : Int32)) C dX10_readPrime_31 (by decide) ?_
      exact b32 l0 l0 (0 : Int32) h35 e
    · replace e := ifn c40 e
      exact b27 l0 l0 h35 e
/-! BorderBasisModel.readJoin()V -/
noncomputable def BX10_readJoin_40 (l0 : Nat) (l1 : Int32) (s0 : Nat) (s1 : Int32) (h : jx_H) : Option (jx_H) :=
(isO h s0 10).bind fun _ =>
(FX10_must s0 s1 (4 : Int32) h).bind fun h2 =>
(isO h2 l0 10).bind fun _ =>
bind2 (FX10_reads l0 (0 : Int32) (11 : Int32) h2) fun x4 h5 =>
(hgi h5 l0 10 15).bind fun x6 =>
if x6 = 0 then
 (isO h5 l0 10).bind fun _ =>
 bind2 (FX10_joins l0 l1 x4 h5) fun x8 h9 =>
 some h9
else
 some h5
noncomputable def BX10_readJoin_35 (l0 : Nat) (l1 : Int32) (s0 : Nat) (h : jx_H) : Option (jx_H) :=
BX10_readJoin_40 l0 l1 s0 (1 : Int32) h
noncomputable def FX10_readJoin (l0 : Nat) (h : jx_H) : Option (jx_H) :=
(isO h l0 10).bind fun _ =>
bind2 (FX10_reads l0 (0 : Int32) (11 : Int32) h) fun x12 h13 =>
(isO h13 l0 10).bind fun _ =>
(FX10_looks l0 (0 : Int32) (11 : Int32) h13).bind fun h15 =>
(hgi h15 l0 10 15).bind fun x16 =>
if 0 < x16 then
 BX10_readJoin_35 l0 x12 l0 h15
else
 (hgi h15 l0 10 14).bind fun x17 =>
 (isO h15 l0 10).bind fun _ =>
 (FX10_canJoin l0 x12 x17 h15).bind fun x19 =>
 if x19 = 0 then
  BX10_readJoin_40 l0 x12 l0 (0 : Int32) h15
 else
  BX10_readJoin_35 l0 x12 l0 h15
def rmX10_readJoin : Room := { frames := 7, cells := 0, slots := 0, locals := 154 }
set_option maxRecDepth 20000 in
set_option maxHeartbeats 4000000 in
theorem sX10_readJoin {l0 : Nat} {h : jx_H} {h9 : jx_H} (e : FX10_readJoin l0 h = some h9) : jx_Ct yX10_readJoin cX10_readJoin 4 none rmX10_readJoin [.ref l0] h (fun r' h' => none = r' ∧ h9 = h') := by
  refine jx_Ct.of (own := RX10) (by decide) rfl (Nat.le_of_ble_eq_true rfl) (fun X C hq hr hL hN => ?_)
  refine jx_sub (lv' := [(0, .ref l0)]) [0] rfl ?_
  have b40 : ∀ (y22 : Nat) (y23 : Int32) (y24 : Nat) (y25 : Int32) (h26 : jx_H), BX10_readJoin_40 y22 y23 y24 y25 h26 = some h9 → jx_J X 0 0 40 [(0, .ref y22), (1, .int y23)] [.int y25, .ref y24] h26 := by
    intro y22 y23 y24 y25 h26 e
    unfold BX10_readJoin_40 at e
    refine j_iconst (v := (4 : Int32)) C dX10_readJoin_40 (by decide) ?_
    replace e := ob e
    obtain ⟨_, eo27, e⟩ := e
    replace e := ob e
    obtain ⟨h28, eh28, e⟩ := e
    refine j_callV (ci := 10) (RC := RX10) (T := TX10) (N := 38) (As := [.int y25, .int (4 : Int32)]) (b := y24) (na := 2) (st := []) (k1 := 0) (n1 := 0) C hr (sX10_must eh28) rfl eo27 kX10_192 kim_X10_must ksel_X10_must kini_X10 kc_X10_must (by decide) rfl ⟨(Nat.le_of_ble_eq_true rfl), (Nat.le_of_ble_eq_true rfl)⟩ (Nat.le_of_ble_eq_true rfl) ⟨rfl, rfl, (Nat.le_of_ble_eq_true rfl), (Nat.le_of_ble_eq_true rfl)⟩ dX10_readJoin_41 ?_
    rintro _ _ ⟨rfl, rfl⟩
    show jx_J X 0 0 44 [(0, .ref y22), (1, .int y23)] [] h28
    refine j_aload_n C dX10_readJoin_44 rfl rfl ?_
    refine j_iconst (v := (0 : Int32)) C dX10_readJoin_45 (by decide) ?_
    refine j_bipush (v := (11 : Int32)) C dX10_readJoin_46 (by decide) ?_
    replace e := ob e
    obtain ⟨_, eo29, e⟩ := e
    replace e := ob2 e
    obtain ⟨x30, h31, ex30, e⟩ := e
    refine j_callV (ci := 10) (RC := RX10) (T := TX10) (N := 38) (As := [.int (0 : Int32), .int (11 : Int32)]) (b := y22) (na := 2) (st := []) (k1 := 0) (n1 := 0) C hr (sX10_reads ex30) rfl eo29 kX10_196 kim_X10_reads ksel_X10_reads kini_X10 kc_X10_reads (by decide) rfl ⟨(Nat.le_of_ble_eq_true rfl), (Nat.le_of_ble_eq_true rfl)⟩ (Nat.le_of_ble_eq_true rfl) ⟨rfl, rfl, (Nat.le_of_ble_eq_true rfl), (Nat.le_of_ble_eq_true rfl)⟩ dX10_readJoin_48 ?_
    rintro _ _ ⟨rfl, rfl⟩
    show jx_J X 0 0 51 [(0, .ref y22), (1, .int y23)] [.int x30] h31
    refine j_istore_n (lv1 := [(2, .int x30), (0, .ref y22), (1, .int y23)]) C hL dX10_readJoin_51 rfl (Nat.le_of_ble_eq_true rfl) rfl ?_
    refine j_aload_n C dX10_readJoin_52 rfl rfl ?_
    replace e := ob e
    obtain ⟨x32, ex32, e⟩ := e
    refine j_geti (ci := 10) (RC := RX10) (T := TX10) (N := 38) 15 C rfl klX10 (Nat.le_of_ble_eq_true rfl) kX10_175 rfl dX10_readJoin_53 ex32 ?_
    refine j_if_ne (tgt := 66) C dX10_readJoin_56 (by decide) (fun c36 => ?_) (fun c36 => ?_)
    · replace e := ifn c36 e
      cases e
      exact j_vret C hq dX10_readJoin_66 ⟨Nat.le_of_ble_eq_true rfl, Nat.le_of_ble_eq_true rfl⟩ ⟨rfl, rfl⟩
    · replace e := ifp c36 e
      refine j_aload_n C dX10_readJoin_59 rfl rfl ?_
      refine j_iload_n C dX10_readJoin_60 rfl rfl ?_
      refine j_iload_n C dX10_readJoin_61 rfl rfl ?_
      replace e := ob e
      obtain ⟨_, eo33, e⟩ := e
      replace e := ob2 e
      obtain ⟨x34, h35, ex34, e⟩ := e
      refine j_callV (ci := 10) (RC := RX10) (T := TX10) (N := 38) (As := [.int y23, .int x30]) (b := y22) (na := 2) (st := []) (k1 := 0) (n1 := 0) C hr (sX10_joins ex34) rfl eo33 kX10_202 kim_X10_joins ksel_X10_joins kini_X10 kc_X10_joins (by decide) rfl ⟨(Nat.le_of_ble_eq_true rfl), (Nat.le_of_ble_eq_true rfl)⟩ (Nat.le_of_ble_eq_true rfl) ⟨rfl, rfl, (Nat.le_of_ble_eq_true rfl), (Nat.le_of_ble_eq_true rfl)⟩ dX10_readJoin_62 ?_
      rintro _ _ ⟨rfl, rfl⟩
      show jx_J X 0 0 65 [(2, .int x30), (0, .ref y22), (1, .int y23)] [.int x34] h35
      refine j_istore_n (lv1 := [(3, .int x34), (2, .int x30), (0, .ref y22), (1, .int y23)]) C hL dX10_readJoin_65 rfl (Nat.le_of_ble_eq_true rfl) rfl ?_
      cases e
      exact j_vret C hq dX10_readJoin_66 ⟨Nat.le_of_ble_eq_true rfl, Nat.le_of_ble_eq_true rfl⟩ ⟨rfl, rfl⟩
  have b35 : ∀ (y37 : Nat) (y38 : Int32) (y39 : Nat) (h40 : jx_H), BX10_readJoin_35 y37 y38 y39 h40 = some h9 → jx_J X 0 0 35 [(0, .ref y37), (1, .int y38)] [.ref y39] h40 := by
    intro y37 y38 y39 h40 e
    unfold BX10_readJoin_35 at e
    refine j_iconst (v := (1 : Int32)) C dX10_readJoin_35 (by decide) ?_
    refine j_goto (tgt := 40) C dX10_readJoin_36 (by decide) ?_
    exact b40 y37 y38 y39 (1 : Int32) h40 e
  unfold FX10_readJoin at e
  refine j_aload_n C dX10_readJoin_0 rfl rfl ?_
  refine j_iconst (v := (0 : Int32)) C dX10_readJoin_1 (by decide) ?_
  refine j_bipush (v := (11 : Int32)) C dX10_readJoin_2 (by decide) ?_
  replace e := ob e
  obtain ⟨_, eo41, e⟩ := e
  replace e := ob2 e
  obtain ⟨x42, h43, ex42, e⟩ := e
  refine j_callV (ci := 10) (RC := RX10) (T := TX10) (N := 38) (As := [.int (0 : Int32), .int (11 : Int32)]) (b := l0) (na := 2) (st := []) (k1 := 0) (n1 := 0) C hr (sX10_reads ex42) rfl eo41 kX10_196 kim_X10_reads ksel_X10_reads kini_X10 kc_X10_reads (by decide) rfl ⟨(Nat.le_of_ble_eq_true rfl), (Nat.le_of_ble_eq_true rfl)⟩ (Nat.le_of_ble_eq_true rfl) ⟨rfl, rfl, (Nat.le_of_ble_eq_true rfl), (Nat.le_of_ble_eq_true rfl)⟩ dX10_readJoin_4 ?_
  rintro _ _ ⟨rfl, rfl⟩
  show jx_J X 0 0 7 [(0, .ref l0)] [.int x42] h43
  refine j_istore_n (lv1 := [(1, .int x42), (0, .ref l0)]) C hL dX10_readJoin_7 rfl (Nat.le_of_ble_eq_true rfl) rfl ?_
  refine j_aload_n C dX10_readJoin_8 rfl rfl ?_
  refine j_iconst (v := (0 : Int32)) C dX10_readJoin_9 (by decide) ?_
  refine j_bipush (v := (11 : Int32)) C dX10_readJoin_10 (by decide) ?_
  replace e := ob e
  obtain ⟨_, eo44, e⟩ := e
  replace e := ob e
  obtain ⟨h45, eh45, e⟩ := e
  refine j_callV (ci := 10) (RC := RX10) (T := TX10) (N := 38) (As := [.int (0 : Int32), .int (11 : Int32)]) (b := l0) (na := 2) (st := []) (k1 := 0) (n1 := 0) C hr (sX10_looks eh45) rfl eo44 kX10_182 kim_X10_looks ksel_X10_looks kini_X10 kc_X10_looks (by decide) rfl ⟨(Nat.le_of_ble_eq_true rfl), (Nat.le_of_ble_eq_true rfl)⟩ (Nat.le_of_ble_eq_true rfl) ⟨rfl, rfl, (Nat.le_of_ble_eq_true rfl), (Nat.le_of_ble_eq_true rfl)⟩ dX10_readJoin_12 ?_
  rintro _ _ ⟨rfl, rfl⟩
  show jx_J X 0 0 15 [(1, .int x42), (0, .ref l0)] [] h45
  refine j_aload_n C dX10_readJoin_15 rfl rfl ?_
  refine j_aload_n C dX10_readJoin_16 rfl rfl ?_
  replace e := ob e
  obtain ⟨x46, ex46, e⟩ := e
  refine j_geti (ci := 10) (RC := RX10) (T := TX10) (N := 38) 15 C rfl klX10 (Nat.le_of_ble_eq_true rfl) kX10_175 rfl dX10_readJoin_17 ex46 ?_
  refine j_if_gt (tgt := 35) C dX10_readJoin_20 (by decide) (fun c51 => ?_) (fun c51 => ?_)
  · replace e := ifp c51 e
    refine jx_sub (lv' := [(0, .ref l0), (1, .int x42)]) [1, 0] rfl ?_
    exact b35 l0 x42 l0 h45 e
  · replace e := ifn c51 e
    refine j_aload_n C dX10_readJoin_23 rfl rfl ?_
    refine j_iload_n C dX10_readJoin_24 rfl rfl ?_
    refine j_aload_n C dX10_readJoin_25 rfl rfl ?_
    replace e := ob e
    obtain ⟨x47, ex47, e⟩ := e
    refine j_geti (ci := 10) (RC := RX10) (T := TX10) (N := 38) 14 C rfl klX10 (Nat.le_of_ble_eq_true rfl) kX10_172 rfl dX10_readJoin_26 ex47 ?_
    replace e := ob e
    obtain ⟨_, eo48, e⟩ := e
    replace e := ob e
    obtain ⟨x49, ex49, e⟩ := e
    refine j_callV (ci := 10) (RC := RX10) (T := TX10) (N := 38) (As := [.int x42, .int x47]) (b := l0) (na := 2) (st := [.ref l0]) (k1 := 0) (n1 := 0) C hr (sX10_canJoin ex49) rfl eo48 kX10_199 kim_X10_canJoin ksel_X10_canJoin kini_X10 kc_X10_canJoin (by decide) rfl ⟨(Nat.le_of_ble_eq_true rfl), (Nat.le_of_ble_eq_true rfl)⟩ (Nat.le_of_ble_eq_true rfl) ⟨rfl, rfl, (Nat.le_of_ble_eq_true rfl), (Nat.le_of_ble_eq_true rfl)⟩ dX10_readJoin_29 ?_
    rintro _ _ ⟨rfl, rfl⟩
    show jx_J X 0 0 32 [(1, .int x42), (0, .ref l0)] [.int x49, .ref l0] h45
    refine j_if_eq (tgt := 39) C dX10_readJoin_32 (by decide) (fun c50 => ?_) (fun c50 => ?_)
    · replace e := ifp c50 e
      refine j_iconst (v := (0 : Int32)) C dX10_readJoin_39 (by decide) ?_
      refine jx_sub (lv' := [(0, .ref l0), (1, .int x42)]) [1, 0] rfl ?_
      exact b40 l0 x42 l0 (0 : Int32) h45 e
    · replace e := ifn c50 e
      refine jx_sub (lv' := [(0, .ref l0), (1, .int x42)]) [1, 0] rfl ?_
      exact b35 l0 x42 l0 h45 e
/-! BorderBasisModel.readTerm(I)V -/
noncomputable def BX10_readTerm_50 (l0 : Nat) (l1 : Int32) (s0 : Nat) (s1 : Nat) (s2 : Int32) (h : jx_H) : Option (jx_H) :=
(isO h s1 10).bind fun _ =>
(FX10_mod s1 s2 h).bind fun x2 =>
(hp h s0 10 18 (.int x2)).bind fun h3 =>
(isO h3 l0 10).bind fun _ =>
bind2 (FX10_reads l0 (0 : Int32) l1 h3) fun x5 h6 =>
(hp h6 l0 10 19 (.int x5)).bind fun h7 =>
(isO h7 l0 10).bind fun _ =>
(FX10_looks l0 (0 : Int32) l1 h7).bind fun h9 =>
some h9
noncomputable def BX10_readTerm_29 (l0 : Nat) (l1 : Int32) (l2 : Int32) (h : jx_H) : Option (jx_H) :=
(isO h l0 10).bind fun _ =>
bind2 (FX10_reads l0 (0 : Int32) (999 : Int32) h) fun x11 h12 =>
if l2 = 0 then
 BX10_readTerm_50 l0 l1 l0 l0 x11 h12
else
 BX10_readTerm_50 l0 l1 l0 l0 (-x11) h12
noncomputable def BX10_readTerm_20 (l0 : Nat) (l1 : Int32) (s0 : Int32) (h : jx_H) : Option (jx_H) :=
if s0 = 0 then
 BX10_readTerm_29 l0 l1 s0 h
else
 (isO h l0 10).bind fun _ =>
 (FX10_goesOn l0 h).bind fun h15 =>
 BX10_readTerm_29 l0 l1 s0 h15
noncomputable def BX10_readTerm_19 (l0 : Nat) (l1 : Int32) (h : jx_H) : Option (jx_H) :=
BX10_readTerm_20 l0 l1 (0 : Int32) h
noncomputable def FX10_readTerm (l0 : Nat) (l1 : Int32) (h : jx_H) : Option (jx_H) :=
(hgi h l0 10 15).bind fun x17 =>
if x17 = 0 then
 (hgi h l0 10 13).bind fun x18 =>
 if x18 = (5 : Int32) then
  BX10_readTerm_20 l0 l1 (1 : Int32) h
 else
  BX10_readTerm_19 l0 l1 h
else
 BX10_readTerm_19 l0 l1 h
def rmX10_readTerm : Room := { frames := 4, cells := 0, slots := 0, locals := 85 }
set_option maxRecDepth 20000 in
set_option maxHeartbeats 4000000 in
theorem sX10_readTerm {l0 : Nat} {l1 : Int32} {h : jx_H} {h9 : jx_H} (e : FX10_readTerm l0 l1 h = some h9) : jx_Ct yX10_readTerm cX10_readTerm 4 none rmX10_readTerm [.ref l0, .int l1] h (fun r' h' => none = r' ∧ h9 = h') := by
  refine jx_Ct.of (own := RX10) (by decide) rfl (Nat.le_of_ble_eq_true rfl) (fun X C hq hr hL hN => ?_)
  refine jx_sub (lv' := [(0, .ref l0), (1, .int l1)]) [0, 1] rfl ?_
  have b50 : ∀ (y21 : Nat) (y22 : Int32) (y23 : Nat) (y24 : Nat) (y25 : Int32) (h26 : jx_H), BX10_readTerm_50 y21 y22 y23 y24 y25 h26 = some h9 → jx_J X 0 0 50 [(0, .ref y21), (1, .int y22)] [.int y25, .ref y24, .ref y23] h26 := by
    intro y21 y22 y23 y24 y25 h26 e
    unfold BX10_readTerm_50 at e
    replace e := ob e
    obtain ⟨_, eo27, e⟩ := e
    replace e := ob e
    obtain ⟨x28, ex28, e⟩ := e
    refine j_callV (ci := 10) (RC := RX10) (T := TX10) (N := 38) (As := [.int y25]) (b := y24) (na := 1) (st := [.ref y23]) (k1 := 0) (n1 := 0) C hr (sX10_mod ex28) rfl eo27 kX10_205 kim_X10_mod ksel_X10_mod kini_X10 kc_X10_mod (by decide) rfl ⟨(Nat.le_of_ble_eq_true rfl), (Nat.le_of_ble_eq_true rfl)⟩ (Nat.le_of_ble_eq_true rfl) ⟨rfl, rfl, (Nat.le_of_ble_eq_true rfl), (Nat.le_of_ble_eq_true rfl)⟩ dX10_readTerm_50 ?_
    rintro _ _ ⟨rfl, rfl⟩
    show jx_J X 0 0 53 [(0, .ref y21), (1, .int y22)] [.int x28, .ref y23] h26
    replace e := ob e
    obtain ⟨h29, eh29, e⟩ := e
    refine j_put (ci := 10) (RC := RX10) (T := TX10) (N := 38) (ty0 := tyX10) 18 C rfl klX10 tyX10_ok nmX10 (Nat.le_of_ble_eq_true rfl) kX10_208 rfl rfl rfl rfl dX10_readTerm_53 eh29 ?_
    refine j_aload_n C dX10_readTerm_56 rfl rfl ?_
    refine j_aload_n C dX10_readTerm_57 rfl rfl ?_
    refine j_iconst (v := (0 : Int32)) C dX10_readTerm_58 (by decide) ?_
    refine j_iload_n C dX10_readTerm_59 rfl rfl ?_
    replace e := ob e
    obtain ⟨_, eo30, e⟩ := e
    replace e := ob2 e
    obtain ⟨x31, h32, ex31, e⟩ := e
    refine j_callV (ci := 10) (RC := RX10) (T := TX10) (N := 38) (As := [.int (0 : Int32), .int y22]) (b := y21) (na := 2) (st := [.ref y21]) (k1 := 0) (n1 := 0) C hr (sX10_reads ex31) rfl eo30 kX10_196 kim_X10_reads ksel_X10_reads kini_X10 kc_X10_reads (by decide) rfl ⟨(Nat.le_of_ble_eq_true rfl), (Nat.le_of_ble_eq_true rfl)⟩ (Nat.le_of_ble_eq_true rfl) ⟨rfl, rfl, (Nat.le_of_ble_eq_true rfl), (Nat.le_of_ble_eq_true rfl)⟩ dX10_readTerm_60 ?_
    rintro _ _ ⟨rfl, rfl⟩
    show jx_J X 0 0 63 [(0, .ref y21), (1, .int y22)] [.int x31, .ref y21] h32
    replace e := ob e
    obtain ⟨h33, eh33, e⟩ := e
    refine j_put (ci := 10) (RC := RX10) (T := TX10) (N := 38) (ty0 := tyX10) 19 C rfl klX10 tyX10_ok nmX10 (Nat.le_of_ble_eq_true rfl) kX10_211 rfl rfl rfl rfl dX10_readTerm_63 eh33 ?_
    refine j_aload_n C dX10_readTerm_66 rfl rfl ?_
    refine j_iconst (v := (0 : Int32)) C dX10_readTerm_67 (by decide) ?_
    refine j_iload_n C dX10_readTerm_68 rfl rfl ?_
    replace e := ob e
    obtain ⟨_, eo34, e⟩ := e
    replace e := ob e
    obtain ⟨h35, eh35, e⟩ := e
    refine j_callV (ci := 10) (RC := RX10) (T := TX10) (N := 38) (As := [.int (0 : Int32), .int y22]) (b := y21) (na := 2) (st := []) (k1 := 0) (n1 := 0) C hr (sX10_looks eh35) rfl eo34 kX10_182 kim_X10_looks ksel_X10_looks kini_X10 kc_X10_looks (by decide) rfl ⟨(Nat.le_of_ble_eq_true rfl), (Nat.le_of_ble_eq_true rfl)⟩ (Nat.le_of_ble_eq_true rfl) ⟨rfl, rfl, (Nat.le_of_ble_eq_true rfl), (Nat.le_of_ble_eq_true rfl)⟩ dX10_readTerm_69 ?_
    rintro _ _ ⟨rfl, rfl⟩
    show jx_J X 0 0 72 [(0, .ref y21), (1, .int y22)] [] h35
    cases e
    exact j_vret C hq dX10_readTerm_72 ⟨Nat.le_of_ble_eq_true rfl, Nat.le_of_ble_eq_true rfl⟩ ⟨rfl, rfl⟩
  have b29 : ∀ (y36 : Nat) (y37 : Int32) (y38 : Int32) (h39 : jx_H), BX10_readTerm_29 y36 y37 y38 h39 = some h9 → jx_J X 0 0 29 [(0, .ref y36), (1, .int y37), (2, .int y38)] [] h39 := by
    intro y36 y37 y38 h39 e
    unfold BX10_readTerm_29 at e
    refine j_aload_n C dX10_readTerm_29 rfl rfl ?_
    refine j_iconst (v := (0 : Int32)) C dX10_readTerm_30 (by decide) ?_
    refine j_sipush (v := (999 : Int32)) C dX10_readTerm_31 (by decide) ?_
    replace e := ob e
    obtain ⟨_, eo40, e⟩ := e
    replace e := ob2 e
    obtain ⟨x41, h42, ex41, e⟩ := e
    refine j_callV (ci := 10) (RC := RX10) (T := TX10) (N := 38) (As := [.int (0 : Int32), .int (999 : Int32)]) (b := y36) (na := 2) (st := []) (k1 := 0) (n1 := 0) C hr (sX10_reads ex41) rfl eo40 kX10_196 kim_X10_reads ksel_X10_reads kini_X10 kc_X10_reads (by decide) rfl ⟨(Nat.le_of_ble_eq_true rfl), (Nat.le_of_ble_eq_true rfl)⟩ (Nat.le_of_ble_eq_true rfl) ⟨rfl, rfl, (Nat.le_of_ble_eq_true rfl), (Nat.le_of_ble_eq_true rfl)⟩ dX10_readTerm_34 ?_
    rintro _ _ ⟨rfl, rfl⟩
    show jx_J X 0 0 37 [(0, .ref y36), (1, .int y37), (2, .int y38)] [.int x41] h42
    refine j_istore_n (lv1 := [(3, .int x41), (0, .ref y36), (1, .int y37), (2, .int y38)]) C hL dX10_readTerm_37 rfl (Nat.le_of_ble_eq_true rfl) rfl ?_
    refine j_aload_n C dX10_readTerm_38 rfl rfl ?_
    refine j_aload_n C dX10_readTerm_39 rfl rfl ?_
    refine j_iload_n C dX10_readTerm_40 rfl rfl ?_
    refine j_if_eq (tgt := 49) C dX10_readTerm_41 (by decide) (fun c43 => ?_) (fun c43 => ?_)
    · replace e := ifp c43 e
      refine j_iload_n C dX10_readTerm_49 rfl rfl ?_
      refine jx_sub (lv' := [(0, .ref y36), (1, .int y37)]) [1, 2] rfl ?_
      exact b50 y36 y37 y36 y36 x41 h42 e
    · replace e := ifn c43 e
      refine j_iload_n C dX10_readTerm_44 rfl rfl ?_
      refine j_ineg C dX10_readTerm_45 ?_
      refine j_goto (tgt := 50) C dX10_readTerm_46 (by decide) ?_
      refine jx_sub (lv' := [(0, .ref y36), (1, .int y37)]) [1, 2] rfl ?_
      exact b50 y36 y37 y36 y36 (-x41) h42 e
  have b20 : ∀ (y44 : Nat) (y45 : Int32) (y46 : Int32) (h47 : jx_H), BX10_readTerm_20 y44 y45 y46 h47 = some h9 → jx_J X 0 0 20 [(0, .ref y44), (1, .int y45)] [.int y46] h47 := by
    intro y44 y45 y46 h47 e
    unfold BX10_readTerm_20 at e
    refine j_istore_n (lv1 := [(2, .int y46), (0, .ref y44), (1, .int y45)]) C hL dX10_readTerm_20 rfl (Nat.le_of_ble_eq_true rfl) rfl ?_
    refine j_iload_n C dX10_readTerm_21 rfl rfl ?_
    refine j_if_eq (tgt := 29) C dX10_readTerm_22 (by decide) (fun c50 => ?_) (fun c50 => ?_)
    · replace e := ifp c50 e
      refine jx_sub (lv' := [(0, .ref y44), (1, .int y45), (2, .int y46)]) [1, 2, 0] rfl ?_
      exact b29 y44 y45 y46 h47 e
    · replace e := ifn c50 e
      refine j_aload_n C dX10_readTerm_25 rfl rfl ?_
      replace e := ob e
      obtain ⟨_, eo48, e⟩ := e
      replace e := ob e
      obtain ⟨h49, eh49, e⟩ := e
      refine j_callV (ci := 10) (RC := RX10) (T := TX10) (N := 38) (As := []) (b := y44) (na := 0) (st := []) (k1 := 0) (n1 := 0) C hr (sX10_goesOn eh49) rfl eo48 kX10_185 kim_X10_goesOn ksel_X10_goesOn kini_X10 kc_X10_goesOn (by decide) rfl ⟨(Nat.le_of_ble_eq_true rfl), (Nat.le_of_ble_eq_true rfl)⟩ (Nat.le_of_ble_eq_true rfl) ⟨rfl, rfl, (Nat.le_of_ble_eq_true rfl), (Nat.le_of_ble_eq_true rfl)⟩ dX10_readTerm_26 ?_
      rintro _ _ ⟨rfl, rfl⟩
      show jx_J X 0 0 29 [(2, .int y46), (0, .ref y44), (1, .int y45)] [] h49
      refine jx_sub (lv' := [(0, .ref y44), (1, .int y45), (2, .int y46)]) [1, 2, 0] rfl ?_
      exact b29 y44 y45 y46 h49 e
  have b19 : ∀ (y51 : Nat) (y52 : Int32) (h53 : jx_H), BX10_readTerm_19 y51 y52 h53 = some h9 → jx_J X 0 0 19 [(0, .ref y51), (1, .int y52)] [] h53 := by
    intro y51 y52 h53 e
    unfold BX10_readTerm_19 at e
    refine j_iconst (v := (0 : Int32)) C dX10_readTerm_19 (by decide) ?_
    exact b20 y51 y52 (0 : Int32) h53 e
  unfold FX10_readTerm at e
  refine j_aload_n C dX10_readTerm_0 rfl rfl ?_
  replace e := ob e
  obtain ⟨x54, ex54, e⟩ := e
  refine j_geti (ci := 10) (RC := RX10) (T := TX10) (N := 38) 15 C rfl klX10 (Nat.le_of_ble_eq_true rfl) kX10_175 rfl dX10_readTerm_1 ex54 ?_
  refine j_if_ne (tgt := 19) C dX10_readTerm_4 (by decide) (fun c57 => ?_) (fun c57 => ?_)
  · replace e := ifn c57 e
    exact b19 l0 l1 h e
  · replace e := ifp c57 e
    refine j_aload_n C dX10_readTerm_7 rfl rfl ?_
    replace e := ob e
    obtain ⟨x55, ex55, e⟩ := e
    refine j_geti (ci := 10) (RC := RX10) (T := TX10) (N := 38) 13 C rfl klX10 (Nat.le_of_ble_eq_true rfl) kX10_169 rfl dX10_readTerm_8 ex55 ?_
    refine j_iconst (v := (5 : Int32)) C dX10_readTerm_11 (by decide) ?_
    refine j_icmp_ne (tgt := 19) C dX10_readTerm_12 (by decide) (fun c56 => ?_) (fun c56 => ?_)
    · replace e := ifn c56 e
      exact b19 l0 l1 h e
    · replace e := ifp c56 e
      refine j_iconst (v := (1 : Int32)) C dX10_readTerm_15 (by decide) ?_
      refine j_goto (tgt := 20) C dX10_readTerm_16 (by decide) ?_
      exact b20 l0 l1 (1 : Int32) h e
/-! BorderBasisModel.isTermHere()Z -/
noncomputable def FX10_isTermHere (l0 : Nat) (h : jx_H) : Option (Int32) :=
(hgi h l0 10 15).bind fun x1 =>
if x1 = 0 then
 (hgi h l0 10 13).bind fun x2 =>
 if x2 = (2 : Int32) then
  some (1 : Int32)
 else
  (hgi h l0 10 13).bind fun x3 =>
  if x3 = (5 : Int32) then
   some (1 : Int32)
  else
   some (0 : Int32)
else
 some (0 : Int32)
def rmX10_isTermHere : Room := { frames := 0, cells := 0, slots := 0, locals := 0 }
set_option maxRecDepth 20000 in
set_option maxHeartbeats 4000000 in
theorem sX10_isTermHere {l0 : Nat} {h : jx_H} {r : Int32}  (e : FX10_isTermHere l0 h = some r) : jx_Ct yX10_isTermHere cX10_isTermHere 1 (some .boolean) rmX10_isTermHere [.ref l0] h (fun r' h' => some (.int r) = r' ∧ h = h') := by
  refine jx_Ct.of (own := RX10) (by decide) rfl (Nat.le_of_ble_eq_true rfl) (fun X C hq hr hL hN => ?_)
  refine jx_sub (lv' := [(0, .ref l0)]) [0] rfl ?_
  unfold FX10_isTermHere at e
  refine j_aload_n C dX10_isTermHere_0 rfl rfl ?_
  replace e := ob e
  obtain ⟨x7, ex7, e⟩ := e
  refine j_geti (ci := 10) (RC := RX10) (T := TX10) (N := 38) 15 C rfl klX10 (Nat.le_of_ble_eq_true rfl) kX10_175 rfl dX10_isTermHere_1 ex7 ?_
  refine j_if_ne (tgt := 27) C dX10_isTermHere_4 (by decide) (fun c12 => ?_) (fun c12 => ?_)
  · replace e := ifn c12 e
    refine j_iconst (v := (0 : Int32)) C dX10_isTermHere_27 (by decide) ?_
    cases e
    exact j_iret C hq rfl dX10_isTermHere_28 ⟨Nat.le_of_ble_eq_true rfl, Nat.le_of_ble_eq_true rfl⟩ ⟨rfl, rfl⟩
  · replace e := ifp c12 e
    refine j_aload_n C dX10_isTermHere_7 rfl rfl ?_
    replace e := ob e
    obtain ⟨x8, ex8, e⟩ := e
    refine j_geti (ci := 10) (RC := RX10) (T := TX10) (N := 38) 13 C rfl klX10 (Nat.le_of_ble_eq_true rfl) kX10_169 rfl dX10_isTermHere_8 ex8 ?_
    refine j_iconst (v := (2 : Int32)) C dX10_isTermHere_11 (by decide) ?_
    refine j_icmp_eq (tgt := 23) C dX10_isTermHere_12 (by decide) (fun c11 => ?_) (fun c11 => ?_)
    · replace e := ifp c11 e
      refine j_iconst (v := (1 : Int32)) C dX10_isTermHere_23 (by decide) ?_
      refine j_goto (tgt := 28) C dX10_isTermHere_24 (by decide) ?_
      cases e
      exact j_iret C hq rfl dX10_isTermHere_28 ⟨Nat.le_of_ble_eq_true rfl, Nat.le_of_ble_eq_true rfl⟩ ⟨rfl, rfl⟩
    · replace e := ifn c11 e
      refine j_aload_n C dX10_isTermHere_15 rfl rfl ?_
      replace e := ob e
      obtain ⟨x9, ex9, e⟩ := e
      refine j_geti (ci := 10) (RC := RX10) (T := TX10) (N := 38) 13 C rfl klX10 (Nat.le_of_ble_eq_true rfl) kX10_169 rfl dX10_isTermHere_16 ex9 ?_
      refine j_iconst (v := (5 : Int32)) C dX10_isTermHere_19 (by decide) ?_
      refine j_icmp_ne (tgt := 27) C dX10_isTermHere_20 (by decide) (fun c10 => ?_) (fun c10 => ?_)
      · replace e := ifn c10 e
        refine j_iconst (v := (0 : Int32)) C dX10_isTermHere_27 (by decide) ?_
        cases e
        exact j_iret C hq rfl dX10_isTermHere_28 ⟨Nat.le_of_ble_eq_true rfl, Nat.le_of_ble_eq_true rfl⟩ ⟨rfl, rfl⟩
      · replace e := ifp c10 e
        refine j_iconst (v := (1 : Int32)) C dX10_isTermHere_23 (by decide) ?_
        refine j_goto (tgt := 28) C dX10_isTermHere_24 (by decide) ?_
        cases e
        exact j_iret C hq rfl dX10_isTermHere_28 ⟨Nat.le_of_ble_eq_true rfl, Nat.le_of_ble_eq_true rfl⟩ ⟨rfl, rfl⟩
/-! BorderBasisModel.hasComma()Z -/
noncomputable def BX10_hasComma_20 (l0 : Nat) (s0 : Int32) (h : jx_H) : Option (Int32 × jx_H) :=
if s0 = 0 then
 if s0 = 0 ∨ s0 = 1 then some (s0, h) else none
else
 (isO h l0 10).bind fun _ =>
 (FX10_goesOn l0 h).bind fun h3 =>
 if s0 = 0 ∨ s0 = 1 then some (s0, h3) else none
noncomputable def BX10_hasComma_19 (l0 : Nat) (h : jx_H) : Option (Int32 × jx_H) :=
BX10_hasComma_20 l0 (0 : Int32) h
noncomputable def FX10_hasComma (l0 : Nat) (h : jx_H) : Option (Int32 × jx_H) :=
(hgi h l0 10 15).bind fun x6 =>
if x6 = 0 then
 (hgi h l0 10 13).bind fun x7 =>
 if x7 = (4 : Int32) then
  BX10_hasComma_20 l0 (1 : Int32) h
 else
  BX10_hasComma_19 l0 h
else
 BX10_hasComma_19 l0 h
def rmX10_hasComma : Room := { frames := 3, cells := 0, slots := 0, locals := 62 }
set_option maxRecDepth 20000 in
set_option maxHeartbeats 4000000 in
theorem sX10_hasComma {l0 : Nat} {h : jx_H} {r : Int32} {h9 : jx_H} (e : FX10_hasComma l0 h = some (r, h9)) : jx_Ct yX10_hasComma cX10_hasComma 2 (some .boolean) rmX10_hasComma [.ref l0] h (fun r' h' => some (.int r) = r' ∧ h9 = h') := by
  refine jx_Ct.of (own := RX10) (by decide) rfl (Nat.le_of_ble_eq_true rfl) (fun X C hq hr hL hN => ?_)
  refine jx_sub (lv' := [(0, .ref l0)]) [0] rfl ?_
  have b20 : ∀ (y10 : Nat) (y11 : Int32) (h12 : jx_H), BX10_hasComma_20 y10 y11 h12 = some (r, h9) → jx_J X 0 0 20 [(0, .ref y10)] [.int y11] h12 := by
    intro y10 y11 h12 e
    unfold BX10_hasComma_20 at e
    refine j_istore_n (lv1 := [(1, .int y11), (0, .ref y10)]) C hL dX10_hasComma_20 rfl (Nat.le_of_ble_eq_true rfl) rfl ?_
    refine j_iload_n C dX10_hasComma_21 rfl rfl ?_
    refine j_if_eq (tgt := 29) C dX10_hasComma_22 (by decide) (fun c17 => ?_) (fun c17 => ?_)
    · replace e := ifp c17 e
      refine j_iload_n C dX10_hasComma_29 rfl rfl ?_
      by_cases c13 : ¬ (y11 = 0 ∨ y11 = 1)
      · exact nos (ifn c13 e)
      replace c13 := Classical.not_not.mp c13
      replace e := ifp c13 e
      cases e
      exact j_iret C hq (jx_bool c13) dX10_hasComma_30 ⟨Nat.le_of_ble_eq_true rfl, Nat.le_of_ble_eq_true rfl⟩ ⟨rfl, rfl⟩
    · replace e := ifn c17 e
      refine j_aload_n C dX10_hasComma_25 rfl rfl ?_
      replace e := ob e
      obtain ⟨_, eo14, e⟩ := e
      replace e := ob e
      obtain ⟨h15, eh15, e⟩ := e
      refine j_callV (ci := 10) (RC := RX10) (T := TX10) (N := 38) (As := []) (b := y10) (na := 0) (st := []) (k1 := 0) (n1 := 0) C hr (sX10_goesOn eh15) rfl eo14 kX10_185 kim_X10_goesOn ksel_X10_goesOn kini_X10 kc_X10_goesOn (by decide) rfl ⟨(Nat.le_of_ble_eq_true rfl), (Nat.le_of_ble_eq_true rfl)⟩ (Nat.le_of_ble_eq_true rfl) ⟨rfl, rfl, (Nat.le_of_ble_eq_true rfl), (Nat.le_of_ble_eq_true rfl)⟩ dX10_hasComma_26 ?_
      rintro _ _ ⟨rfl, rfl⟩
      show jx_J X 0 0 29 [(1, .int y11), (0, .ref y10)] [] h15
      refine j_iload_n C dX10_hasComma_29 rfl rfl ?_
      by_cases c16 : ¬ (y11 = 0 ∨ y11 = 1)
      · exact nos (ifn c16 e)
      replace c16 := Classical.not_not.mp c16
      replace e := ifp c16 e
      cases e
      exact j_iret C hq (jx_bool c16) dX10_hasComma_30 ⟨Nat.le_of_ble_eq_true rfl, Nat.le_of_ble_eq_true rfl⟩ ⟨rfl, rfl⟩
  have b19 : ∀ (y18 : Nat) (h19 : jx_H), BX10_hasComma_19 y18 h19 = some (r, h9) → jx_J X 0 0 19 [(0, .ref y18)] [] h19 := by
    intro y18 h19 e
    unfold BX10_hasComma_19 at e
    refine j_iconst (v := (0 : Int32)) C dX10_hasComma_19 (by decide) ?_
    exact b20 y18 (0 : Int32) h19 e
  unfold FX10_hasComma at e
  refine j_aload_n C dX10_hasComma_0 rfl rfl ?_
  replace e := ob e
  obtain ⟨x20, ex20, e⟩ := e
  refine j_geti (ci := 10) (RC := RX10) (T := TX10) (N := 38) 15 C rfl klX10 (Nat.le_of_ble_eq_true rfl) kX10_175 rfl dX10_hasComma_1 ex20 ?_
  refine j_if_ne (tgt := 19) C dX10_hasComma_4 (by decide) (fun c23 => ?_) (fun c23 => ?_)
  · replace e := ifn c23 e
    exact b19 l0 h e
  · replace e := ifp c23 e
    refine j_aload_n C dX10_hasComma_7 rfl rfl ?_
    replace e := ob e
    obtain ⟨x21, ex21, e⟩ := e
    refine j_geti (ci := 10) (RC := RX10) (T := TX10) (N := 38) 13 C rfl klX10 (Nat.le_of_ble_eq_true rfl) kX10_169 rfl dX10_hasComma_8 ex21 ?_
    refine j_iconst (v := (4 : Int32)) C dX10_hasComma_11 (by decide) ?_
    refine j_icmp_ne (tgt := 19) C dX10_hasComma_12 (by decide) (fun c22 => ?_) (fun c22 => ?_)
    · replace e := ifn c22 e
      exact b19 l0 h e
    · replace e := ifp c22 e
      refine j_iconst (v := (1 : Int32)) C dX10_hasComma_15 (by decide) ?_
      refine j_goto (tgt := 20) C dX10_hasComma_16 (by decide) ?_
      exact b20 l0 (1 : Int32) h e
/-! BorderBasisModel.readRule()V -/
noncomputable def BX10_readRule_260 (l0 : Nat) (l2 : Int32) (l4 : Int32) (h : jx_H) : Option ((Int32 × Int32 × jx_H) ⊕ (jx_H)) :=
(isO h l0 10).bind fun _ =>
bind2 (FX10_hasComma l0 h) fun x9 h10 =>
some (.inl (l4, x9, h10))
noncomputable def BX10_readRule_216 (l0 : Nat) (l2 : Int32) (l4 : Int32) (l6 : Int32) (s0 : Nat) (s1 : Int32) (h : jx_H) : Option ((Int32 × Int32 × jx_H) ⊕ (jx_H)) :=
(isO h s0 10).bind fun _ =>
(FX10_must s0 s1 (5 : Int32) h).bind fun h12 =>
(isO h12 l0 10).bind fun _ =>
bind2 (FX10_reads l0 (0 : Int32) (11 : Int32) h12) fun x14 h15 =>
(hgi h15 l0 10 15).bind fun x16 =>
if x16 = 0 then
 (hgr h15 l0 10 1).bind fun x17 =>
 (FX10_ruleAt l2 l6 h15).bind fun x18 =>
 (hgi h15 l0 10 18).bind fun x19 =>
 (has h15 .int x17 x18 x19).bind fun h20 =>
 BX10_readRule_260 l0 l2 (l4 ||| ((1 : Int32) <<< (l6 &&& 31))) h20
else
 BX10_readRule_260 l0 l2 l4 h15
noncomputable def BX10_readRule_211 (l0 : Nat) (l2 : Int32) (l4 : Int32) (l6 : Int32) (s0 : Nat) (h : jx_H) : Option ((Int32 × Int32 × jx_H) ⊕ (jx_H)) :=
BX10_readRule_216 l0 l2 l4 l6 s0 (1 : Int32) h
noncomputable def BX10_readRule_189 (l0 : Nat) (l2 : Int32) (l4 : Int32) (l6 : Int32) (s0 : Nat) (s1 : Int32) (h : jx_H) : Option ((Int32 × Int32 × jx_H) ⊕ (jx_H)) :=
(isO h s0 10).bind fun _ =>
(FX10_must s0 s1 (4 : Int32) h).bind fun h23 =>
(hgi h23 l0 10 15).bind fun x24 =>
if 0 < x24 then
 BX10_readRule_211 l0 l2 l4 l6 l0 h23
else
 if ((l4 >>> (l6 &&& 31)) &&& (1 : Int32)) = 0 then
  BX10_readRule_211 l0 l2 l4 l6 l0 h23
 else
  BX10_readRule_216 l0 l2 l4 l6 l0 (0 : Int32) h23
noncomputable def BX10_readRule_175 (l0 : Nat) (l2 : Int32) (l4 : Int32) (s0 : Int32) (h : jx_H) : Option ((Int32 × Int32 × jx_H) ⊕ (jx_H)) :=
if s0 = (-1 : Int32) then
 BX10_readRule_189 l0 l2 l4 s0 l0 (0 : Int32) h
else
 BX10_readRule_189 l0 l2 l4 s0 l0 (1 : Int32) h
noncomputable def LX10_readRule_141 (l0 : Nat) (l2 : Int32) (l4 : Int32) (l5 : Int32) (h : jx_H) : Option ((Int32 × Int32 × jx_H) ⊕ (jx_H)) :=
if l5 = 0 then
 exL (some h)
else
 (isO h l0 10).bind fun _ =>
 (FX10_readTerm l0 (11 : Int32) h).bind fun h29 =>
 (hgi h29 l0 10 15).bind fun x30 =>
 if x30 ≤ 0 then
  (hgi h29 l0 10 19).bind fun x31 =>
  (hgi h29 l0 10 14).bind fun x32 =>
  (isO h29 l0 10).bind fun _ =>
  (FX10_monomialAt l0 x31 x32 h29).bind fun x34 =>
  BX10_readRule_175 l0 l2 l4 x34 h29
 else
  BX10_readRule_175 l0 l2 l4 (0 : Int32) h29
noncomputable def LX10_readRule_107 (l0 : Nat) (l2 : Int32) (l4 : Int32) (h : jx_H) : Option ((Int32 × jx_H) ⊕ (jx_H)) :=
if (12 : Int32) ≤ l4 then
 exL ((isO h l0 10).bind fun _ =>
 (FX10_isTermHere l0 h).bind fun x7 =>
 itr (fun s : Int32 × Int32 × jx_H => LX10_readRule_141 l0 l2 s.1 s.2.1 s.2.2) ((0 : Int32), x7, h))
else
 (hgr h l0 10 1).bind fun x37 =>
 (FX10_ruleAt l2 l4 h).bind fun x38 =>
 (has h .int x37 x38 (0 : Int32)).bind fun h39 =>
 some (.inl ((l4 + (1 : Int32)), h39))
noncomputable def BX10_readRule_88 (l0 : Nat) (l2 : Int32) (s0 : Nat) (s1 : Int32) (h : jx_H) : Option (jx_H) :=
(isO h s0 10).bind fun _ =>
(FX10_must s0 s1 (1 : Int32) h).bind fun h2 =>
(hgi h2 l0 10 15).bind fun x3 =>
if x3 ≤ 0 then
 (isO h2 l0 10).bind fun _ =>
 (FX10_goesOn l0 h2).bind fun h5 =>
 itr (fun s : Int32 × jx_H => LX10_readRule_107 l0 l2 s.1 s.2) ((0 : Int32), h5)
else
 some h2
noncomputable def BX10_readRule_65 (l0 : Nat) (s0 : Int32) (h : jx_H) : Option (jx_H) :=
(isO h l0 10).bind fun _ =>
bind2 (FX10_reads l0 (0 : Int32) (12 : Int32) h) fun x43 h44 =>
(isO h44 l0 10).bind fun _ =>
(FX10_wordHere l0 h44).bind fun x46 =>
if x46 = (3 : Int32) then
 BX10_readRule_88 l0 s0 l0 (1 : Int32) h44
else
 BX10_readRule_88 l0 s0 l0 (0 : Int32) h44
noncomputable def BX10_readRule_41 (l0 : Nat) (l1 : Int32) (s0 : Nat) (s1 : Int32) (h : jx_H) : Option (jx_H) :=
(isO h s0 10).bind fun _ =>
(FX10_must s0 s1 (4 : Int32) h).bind fun h49 =>
(hgi h49 l0 10 15).bind fun x50 =>
if x50 ≤ 0 then
 (hgi h49 l0 10 14).bind fun x51 =>
 (isO h49 l0 10).bind fun _ =>
 (FX10_borderAt l0 l1 x51 h49).bind fun x53 =>
 BX10_readRule_65 l0 x53 h49
else
 BX10_readRule_65 l0 (0 : Int32) h49
noncomputable def BX10_readRule_36 (l0 : Nat) (l1 : Int32) (s0 : Nat) (h : jx_H) : Option (jx_H) :=
BX10_readRule_41 l0 l1 s0 (1 : Int32) h
noncomputable def FX10_readRule (l0 : Nat) (h : jx_H) : Option (jx_H) :=
(isO h l0 10).bind fun _ =>
bind2 (FX10_reads l0 (0 : Int32) (12 : Int32) h) fun x56 h57 =>
(isO h57 l0 10).bind fun _ =>
(FX10_looks l0 (0 : Int32) (12 : Int32) h57).bind fun h59 =>
(hgi h59 l0 10 15).bind fun x60 =>
if 0 < x60 then
 BX10_readRule_36 l0 x56 l0 h59
else
 (hgi h59 l0 10 14).bind fun x61 =>
 (isO h59 l0 10).bind fun _ =>
 (FX10_borderAt l0 x56 x61 h59).bind fun x63 =>
 if x63 = (-1 : Int32) then
  BX10_readRule_41 l0 x56 l0 (0 : Int32) h59
 else
  BX10_readRule_36 l0 x56 l0 h59
def rmX10_readRule : Room := { frames := 5, cells := 0, slots := 0, locals := 108 }
set_option maxRecDepth 20000 in
set_option maxHeartbeats 4000000 in
theorem sX10_readRule {l0 : Nat} {h : jx_H} {h9 : jx_H} (e : FX10_readRule l0 h = some h9) : jx_Ct yX10_readRule cX10_readRule 8 none rmX10_readRule [.ref l0] h (fun r' h' => none = r' ∧ h9 = h') := by
  refine jx_Ct.of (own := RX10) (by decide) rfl (Nat.le_of_ble_eq_true rfl) (fun X C hq hr hL hN => ?_)
  refine jx_sub (lv' := [(0, .ref l0)]) [0] rfl ?_
  have b88 : ∀ (y66 : Nat) (y67 : Int32) (y68 : Nat) (y69 : Int32) (h70 : jx_H), BX10_readRule_88 y66 y67 y68 y69 h70 = some h9 → jx_J X 0 0 88 [(0, .ref y66), (2, .int y67)] [.int y69, .ref y68] h70 := by
    intro y66 y67 y68 y69 h70 e
    unfold BX10_readRule_88 at e
    refine j_iconst (v := (1 : Int32)) C dX10_readRule_88 (by decide) ?_
    replace e := ob e
    obtain ⟨_, eo71, e⟩ := e
    replace e := ob e
    obtain ⟨h72, eh72, e⟩ := e
    refine j_callV (ci := 10) (RC := RX10) (T := TX10) (N := 38) (As := [.int y69, .int (1 : Int32)]) (b := y68) (na := 2) (st := []) (k1 := 0) (n1 := 0) C hr (sX10_must eh72) rfl eo71 kX10_192 kim_X10_must ksel_X10_must kini_X10 kc_X10_must (by decide) rfl ⟨(Nat.le_of_ble_eq_true rfl), (Nat.le_of_ble_eq_true rfl)⟩ (Nat.le_of_ble_eq_true rfl) ⟨rfl, rfl, (Nat.le_of_ble_eq_true rfl), (Nat.le_of_ble_eq_true rfl)⟩ dX10_readRule_89 ?_
    rintro _ _ ⟨rfl, rfl⟩
    show jx_J X 0 0 92 [(0, .ref y66), (2, .int y67)] [] h72
    refine j_aload_n C dX10_readRule_92 rfl rfl ?_
    replace e := ob e
    obtain ⟨x73, ex73, e⟩ := e
    refine j_geti (ci := 10) (RC := RX10) (T := TX10) (N := 38) 15 C rfl klX10 (Nat.le_of_ble_eq_true rfl) kX10_175 rfl dX10_readRule_93 ex73 ?_
    refine j_if_le (tgt := 100) C dX10_readRule_96 (by decide) (fun c135 => ?_) (fun c135 => ?_)
    · replace e := ifp c135 e
      refine j_aload_n C dX10_readRule_100 rfl rfl ?_
      replace e := ob e
      obtain ⟨_, eo74, e⟩ := e
      replace e := ob e
      obtain ⟨h75, eh75, e⟩ := e
      refine j_callV (ci := 10) (RC := RX10) (T := TX10) (N := 38) (As := []) (b := y66) (na := 0) (st := []) (k1 := 0) (n1 := 0) C hr (sX10_goesOn eh75) rfl eo74 kX10_185 kim_X10_goesOn ksel_X10_goesOn kini_X10 kc_X10_goesOn (by decide) rfl ⟨(Nat.le_of_ble_eq_true rfl), (Nat.le_of_ble_eq_true rfl)⟩ (Nat.le_of_ble_eq_true rfl) ⟨rfl, rfl, (Nat.le_of_ble_eq_true rfl), (Nat.le_of_ble_eq_true rfl)⟩ dX10_readRule_101 ?_
      rintro _ _ ⟨rfl, rfl⟩
      show jx_J X 0 0 104 [(0, .ref y66), (2, .int y67)] [] h75
      refine j_iconst (v := (0 : Int32)) C dX10_readRule_104 (by decide) ?_
      refine j_istore (lv1 := [(4, .int (0 : Int32)), (0, .ref y66), (2, .int y67)]) C hL dX10_readRule_105 (Nat.le_of_ble_eq_true rfl) rfl ?_
      refine jx_sub (lv' := [(0, .ref y66), (2, .int y67), (4, .int (0 : Int32))]) [1, 2, 0] rfl ?_
      refine itr_ind (s0 := ((0 : Int32), h75)) (fun s : Int32 × jx_H => jx_J X 0 0 107 [(0, .ref y66), (2, .int y67), (4, .int s.1)] [] s.2) e ?_
      clear e
      intro s kI3 kT3 e0
      obtain ⟨z76, h77⟩ := s
      obtain ⟨u3, e0_3⟩ := e0
      have e : LX10_readRule_107 y66 y67 z76 h77 = some u3 := e0_3
      unfold LX10_readRule_107 at e
      refine j_iload C dX10_readRule_107 rfl ?_
      refine j_bipush (v := (12 : Int32)) C dX10_readRule_109 (by decide) ?_
      refine j_icmp_ge (tgt := 132) C dX10_readRule_111 (by decide) (fun c134 => ?_) (fun c134 => ?_)
      · replace e := ifp c134 e
        obtain ⟨t_6, e_6, eu_6⟩ := exL_spec e
        obtain rfl := kT3 t_6 (e0_3.trans (congrArg some eu_6))
        replace e := e_6
        refine j_iconst (v := (0 : Int32)) C dX10_readRule_132 (by decide) ?_
        refine j_istore (lv1 := [(4, .int (0 : Int32)), (0, .ref y66), (2, .int y67)]) C hL dX10_readRule_133 (Nat.le_of_ble_eq_true rfl) rfl ?_
        refine j_aload_n C dX10_readRule_135 rfl rfl ?_
        replace e := ob e
        obtain ⟨_, eo78, e⟩ := e
        replace e := ob e
        obtain ⟨x79, ex79, e⟩ := e
        refine j_callV (ci := 10) (RC := RX10) (T := TX10) (N := 38) (As := []) (b := y66) (na := 0) (st := []) (k1 := 0) (n1 := 0) C hr (sX10_isTermHere ex79) rfl eo78 kX10_217 kim_X10_isTermHere ksel_X10_isTermHere kini_X10 kc_X10_isTermHere (by decide) rfl ⟨(Nat.le_of_ble_eq_true rfl), (Nat.le_of_ble_eq_true rfl)⟩ (Nat.le_of_ble_eq_true rfl) ⟨rfl, rfl, (Nat.le_of_ble_eq_true rfl), (Nat.le_of_ble_eq_true rfl)⟩ dX10_readRule_136 ?_
        rintro _ _ ⟨rfl, rfl⟩
        show jx_J X 0 0 139 [(4, .int (0 : Int32)), (0, .ref y66), (2, .int y67)] [.int x79] h77
        refine j_istore (lv1 := [(5, .int x79), (4, .int (0 : Int32)), (0, .ref y66), (2, .int y67)]) C hL dX10_readRule_139 (Nat.le_of_ble_eq_true rfl) rfl ?_
        refine jx_sub (lv' := [(0, .ref y66), (2, .int y67), (4, .int (0 : Int32)), (5, .int x79)]) [2, 3, 1, 0] rfl ?_
        refine itr_ind (s0 := ((0 : Int32), x79, h77)) (fun s : Int32 × Int32 × jx_H => jx_J X 0 0 141 [(0, .ref y66), (2, .int y67), (4, .int s.1), (5, .int s.2.1)] [] s.2.2) e ?_
        clear e
        intro s kI4 kT4 e0
        obtain ⟨z80, z81, h82⟩ := s
        obtain ⟨u4, e0_4⟩ := e0
        have e : LX10_readRule_141 y66 y67 z80 z81 h82 = some u4 := e0_4
        have b260 : ∀ (y83 : Int32) (h84 : jx_H), BX10_readRule_260 y66 y67 y83 h84 = some u4 → jx_J X 0 0 260 [(0, .ref y66), (2, .int y67), (4, .int y83)] [] h84 := by
          intro y83 h84 e
          unfold BX10_readRule_260 at e
          refine j_aload_n C dX10_readRule_260 rfl rfl ?_
          replace e := ob e
          obtain ⟨_, eo85, e⟩ := e
          replace e := ob2 e
          obtain ⟨x86, h87, ex86, e⟩ := e
          refine j_callV (ci := 10) (RC := RX10) (T := TX10) (N := 38) (As := []) (b := y66) (na := 0) (st := []) (k1 := 0) (n1 := 0) C hr (sX10_hasComma ex86) rfl eo85 kX10_223 kim_X10_hasComma ksel_X10_hasComma kini_X10 kc_X10_hasComma (by decide) rfl ⟨(Nat.le_of_ble_eq_true rfl), (Nat.le_of_ble_eq_true rfl)⟩ (Nat.le_of_ble_eq_true rfl) ⟨rfl, rfl, (Nat.le_of_ble_eq_true rfl), (Nat.le_of_ble_eq_true rfl)⟩ dX10_readRule_261 ?_
          rintro _ _ ⟨rfl, rfl⟩
          show jx_J X 0 0 264 [(0, .ref y66), (2, .int y67), (4, .int y83)] [.int x86] h87
          refine j_istore (lv1 := [(5, .int x86), (0, .ref y66), (2, .int y67), (4, .int y83)]) C hL dX10_readRule_264 (Nat.le_of_ble_eq_true rfl) rfl ?_
          refine j_goto (tgt := 141) C dX10_readRule_266 (by decide) ?_
          obtain rfl := Option.some.inj e
          refine jx_sub (lv' := [(0, .ref y66), (2, .int y67), (4, .int y83), (5, .int x86)]) [1, 2, 3, 0] rfl ?_
          exact kI4 (y83, x86, h87) e0_4
        have b216 : ∀ (y88 : Int32) (y89 : Int32) (y90 : Nat) (y91 : Int32) (h92 : jx_H), BX10_readRule_216 y66 y67 y88 y89 y90 y91 h92 = some u4 → jx_J X 0 0 216 [(0, .ref y66), (2, .int y67), (4, .int y88), (6, .int y89)] [.int y91, .ref y90] h92 := by
          intro y88 y89 y90 y91 h92 e
          unfold BX10_readRule_216 at e
          refine j_iconst (v := (5 : Int32)) C dX10_readRule_216 (by decide) ?_
          replace e := ob e
          obtain ⟨_, eo93, e⟩ := e
          replace e := ob e
          obtain ⟨h94, eh94, e⟩ := e
          refine j_callV (ci := 10) (RC := RX10) (T := TX10) (N := 38) (As := [.int y91, .int (5 : Int32)]) (b := y90) (na := 2) (st := []) (k1 := 0) (n1 := 0) C hr (sX10_must eh94) rfl eo93 kX10_192 kim_X10_must ksel_X10_must kini_X10 kc_X10_must (by decide) rfl ⟨(Nat.le_of_ble_eq_true rfl), (Nat.le_of_ble_eq_true rfl)⟩ (Nat.le_of_ble_eq_true rfl) ⟨rfl, rfl, (Nat.le_of_ble_eq_true rfl), (Nat.le_of_ble_eq_true rfl)⟩ dX10_readRule_217 ?_
          rintro _ _ ⟨rfl, rfl⟩
          show jx_J X 0 0 220 [(0, .ref y66), (2, .int y67), (4, .int y88), (6, .int y89)] [] h94
          refine j_aload_n C dX10_readRule_220 rfl rfl ?_
          refine j_iconst (v := (0 : Int32)) C dX10_readRule_221 (by decide) ?_
          refine j_bipush (v := (11 : Int32)) C dX10_readRule_222 (by decide) ?_
          replace e := ob e
          obtain ⟨_, eo95, e⟩ := e
          replace e := ob2 e
          obtain ⟨x96, h97, ex96, e⟩ := e
          refine j_callV (ci := 10) (RC := RX10) (T := TX10) (N := 38) (As := [.int (0 : Int32), .int (11 : Int32)]) (b := y66) (na := 2) (st := []) (k1 := 0) (n1 := 0) C hr (sX10_reads ex96) rfl eo95 kX10_196 kim_X10_reads ksel_X10_reads kini_X10 kc_X10_reads (by decide) rfl ⟨(Nat.le_of_ble_eq_true rfl), (Nat.le_of_ble_eq_true rfl)⟩ (Nat.le_of_ble_eq_true rfl) ⟨rfl, rfl, (Nat.le_of_ble_eq_true rfl), (Nat.le_of_ble_eq_true rfl)⟩ dX10_readRule_224 ?_
          rintro _ _ ⟨rfl, rfl⟩
          show jx_J X 0 0 227 [(0, .ref y66), (2, .int y67), (4, .int y88), (6, .int y89)] [.int x96] h97
          refine j_istore (lv1 := [(7, .int x96), (0, .ref y66), (2, .int y67), (4, .int y88), (6, .int y89)]) C hL dX10_readRule_227 (Nat.le_of_ble_eq_true rfl) rfl ?_
          refine j_aload_n C dX10_readRule_229 rfl rfl ?_
          replace e := ob e
          obtain ⟨x98, ex98, e⟩ := e
          refine j_geti (ci := 10) (RC := RX10) (T := TX10) (N := 38) 15 C rfl klX10 (Nat.le_of_ble_eq_true rfl) kX10_175 rfl dX10_readRule_230 ex98 ?_
          refine j_if_ne (tgt := 260) C dX10_readRule_233 (by decide) (fun c103 => ?_) (fun c103 => ?_)
          · replace e := ifn c103 e
            refine jx_sub (lv' := [(0, .ref y66), (2, .int y67), (4, .int y88)]) [1, 2, 3] rfl ?_
            exact b260 y88 h97 e
          · replace e := ifp c103 e
            refine j_aload_n C dX10_readRule_236 rfl rfl ?_
            replace e := ob e
            obtain ⟨x99, ex99, e⟩ := e
            refine j_getr (ci := 10) (RC := RX10) (T := TX10) (N := 38) 1 C rfl klX10 (Nat.le_of_ble_eq_true rfl) kX10_7 rfl dX10_readRule_237 ex99 ?_
            refine j_iload_n C dX10_readRule_240 rfl rfl ?_
            refine j_iload C dX10_readRule_241 rfl ?_
            replace e := ob e
            obtain ⟨x100, ex100, e⟩ := e
            refine j_callS (As := [.int y67, .int y89]) (na := 2) (st := [.ref x99]) (k1 := 0) (n1 := 0) C hr (sX10_ruleAt ex100) kX10_130 kst_X10_ruleAt kini_X10 kc_X10_ruleAt (by decide) rfl ⟨(Nat.le_of_ble_eq_true rfl), (Nat.le_of_ble_eq_true rfl)⟩ (Nat.le_of_ble_eq_true rfl) ⟨rfl, rfl, (Nat.le_of_ble_eq_true rfl), (Nat.le_of_ble_eq_true rfl)⟩ dX10_readRule_243 ?_
            rintro _ _ ⟨rfl, rfl⟩
            show jx_J X 0 0 246 [(7, .int x96), (0, .ref y66), (2, .int y67), (4, .int y88), (6, .int y89)] [.int x100, .ref x99] h97
            refine j_aload_n C dX10_readRule_246 rfl rfl ?_
            replace e := ob e
            obtain ⟨x101, ex101, e⟩ := e
            refine j_geti (ci := 10) (RC := RX10) (T := TX10) (N := 38) 18 C rfl klX10 (Nat.le_of_ble_eq_true rfl) kX10_208 rfl dX10_readRule_247 ex101 ?_
            replace e := ob e
            obtain ⟨h102, eh102, e⟩ := e
            refine j_iast C dX10_readRule_250 eh102 ?_
            refine j_iload C dX10_readRule_251 rfl ?_
            refine j_iconst (v := (1 : Int32)) C dX10_readRule_253 (by decide) ?_
            refine j_iload C dX10_readRule_254 rfl ?_
            refine j_ishl C dX10_readRule_256 ?_
            refine j_ior C dX10_readRule_257 ?_
            refine j_istore (lv1 := [(4, .int (y88 ||| ((1 : Int32) <<< (y89 &&& 31)))), (7, .int x96), (0, .ref y66), (2, .int y67), (6, .int y89)]) C hL dX10_readRule_258 (Nat.le_of_ble_eq_true rfl) rfl ?_
            refine jx_sub (lv' := [(0, .ref y66), (2, .int y67), (4, .int (y88 ||| ((1 : Int32) <<< (y89 &&& 31))))]) [2, 3, 0] rfl ?_
            exact b260 (y88 ||| ((1 : Int32) <<< (y89 &&& 31))) h102 e
        have b211 : ∀ (y104 : Int32) (y105 : Int32) (y106 : Nat) (h107 : jx_H), BX10_readRule_211 y66 y67 y104 y105 y106 h107 = some u4 → jx_J X 0 0 211 [(0, .ref y66), (2, .int y67), (4, .int y104), (6, .int y105)] [.ref y106] h107 := by
          intro y104 y105 y106 h107 e
          unfold BX10_readRule_211 at e
          refine j_iconst (v := (1 : Int32)) C dX10_readRule_211 (by decide) ?_
          refine j_goto (tgt := 216) C dX10_readRule_212 (by decide) ?_
          exact b216 y104 y105 y106 (1 : Int32) h107 e
        have b189 : ∀ (y108 : Int32) (y109 : Int32) (y110 : Nat) (y111 : Int32) (h112 : jx_H), BX10_readRule_189 y66 y67 y108 y109 y110 y111 h112 = some u4 → jx_J X 0 0 189 [(0, .ref y66), (2, .int y67), (4, .int y108), (6, .int y109)] [.int y111, .ref y110] h112 := by
          intro y108 y109 y110 y111 h112 e
          unfold BX10_readRule_189 at e
          refine j_iconst (v := (4 : Int32)) C dX10_readRule_189 (by decide) ?_
          replace e := ob e
          obtain ⟨_, eo113, e⟩ := e
          replace e := ob e
          obtain ⟨h114, eh114, e⟩ := e
          refine j_callV (ci := 10) (RC := RX10) (T := TX10) (N := 38) (As := [.int y111, .int (4 : Int32)]) (b := y110) (na := 2) (st := []) (k1 := 0) (n1 := 0) C hr (sX10_must eh114) rfl eo113 kX10_192 kim_X10_must ksel_X10_must kini_X10 kc_X10_must (by decide) rfl ⟨(Nat.le_of_ble_eq_true rfl), (Nat.le_of_ble_eq_true rfl)⟩ (Nat.le_of_ble_eq_true rfl) ⟨rfl, rfl, (Nat.le_of_ble_eq_true rfl), (Nat.le_of_ble_eq_true rfl)⟩ dX10_readRule_190 ?_
          rintro _ _ ⟨rfl, rfl⟩
          show jx_J X 0 0 193 [(0, .ref y66), (2, .int y67), (4, .int y108), (6, .int y109)] [] h114
          refine j_aload_n C dX10_readRule_193 rfl rfl ?_
          refine j_aload_n C dX10_readRule_194 rfl rfl ?_
          replace e := ob e
          obtain ⟨x115, ex115, e⟩ := e
          refine j_geti (ci := 10) (RC := RX10) (T := TX10) (N := 38) 15 C rfl klX10 (Nat.le_of_ble_eq_true rfl) kX10_175 rfl dX10_readRule_195 ex115 ?_
          refine j_if_gt (tgt := 211) C dX10_readRule_198 (by decide) (fun c117 => ?_) (fun c117 => ?_)
          · replace e := ifp c117 e
            exact b211 y108 y109 y66 h114 e
          · replace e := ifn c117 e
            refine j_iload C dX10_readRule_201 rfl ?_
            refine j_iload C dX10_readRule_203 rfl ?_
            refine j_ishr C dX10_readRule_205 ?_
            refine j_iconst (v := (1 : Int32)) C dX10_readRule_206 (by decide) ?_
            refine j_iand C dX10_readRule_207 ?_
            refine j_if_ne (tgt := 215) C dX10_readRule_208 (by decide) (fun c116 => ?_) (fun c116 => ?_)
            · replace e := ifn c116 e
              refine j_iconst (v := (0 : Int32)) C dX10_readRule_215 (by decide) ?_
              exact b216 y108 y109 y66 (0 : Int32) h114 e
            · replace e := ifp c116 e
              exact b211 y108 y109 y66 h114 e
        have b175 : ∀ (y118 : Int32) (y119 : Int32) (h120 : jx_H), BX10_readRule_175 y66 y67 y118 y119 h120 = some u4 → jx_J X 0 0 175 [(0, .ref y66), (2, .int y67), (4, .int y118)] [.int y119] h120 := by
          intro y118 y119 h120 e
          unfold BX10_readRule_175 at e
          refine j_istore (lv1 := [(6, .int y119), (0, .ref y66), (2, .int y67), (4, .int y118)]) C hL dX10_readRule_175 (Nat.le_of_ble_eq_true rfl) rfl ?_
          refine j_aload_n C dX10_readRule_177 rfl rfl ?_
          refine j_iload C dX10_readRule_178 rfl ?_
          refine j_iconst (v := (-1 : Int32)) C dX10_readRule_180 (by decide) ?_
          refine j_icmp_eq (tgt := 188) C dX10_readRule_181 (by decide) (fun c121 => ?_) (fun c121 => ?_)
          · replace e := ifp c121 e
            refine j_iconst (v := (0 : Int32)) C dX10_readRule_188 (by decide) ?_
            refine jx_sub (lv' := [(0, .ref y66), (2, .int y67), (4, .int y118), (6, .int y119)]) [1, 2, 3, 0] rfl ?_
            exact b189 y118 y119 y66 (0 : Int32) h120 e
          · replace e := ifn c121 e
            refine j_iconst (v := (1 : Int32)) C dX10_readRule_184 (by decide) ?_
            refine j_goto (tgt := 189) C dX10_readRule_185 (by decide) ?_
            refine jx_sub (lv' := [(0, .ref y66), (2, .int y67), (4, .int y118), (6, .int y119)]) [1, 2, 3, 0] rfl ?_
            exact b189 y118 y119 y66 (1 : Int32) h120 e
        unfold LX10_readRule_141 at e
        refine j_iload C dX10_readRule_141 rfl ?_
        refine j_if_eq (tgt := 269) C dX10_readRule_143 (by decide) (fun c130 => ?_) (fun c130 => ?_)
        · replace e := ifp c130 e
          obtain ⟨t_5, e_5, eu_5⟩ := exL_spec e
          obtain rfl := kT4 t_5 (e0_4.trans (congrArg some eu_5))
          replace e := e_5
          cases e
          exact j_vret C hq dX10_readRule_269 ⟨Nat.le_of_ble_eq_true rfl, Nat.le_of_ble_eq_true rfl⟩ ⟨rfl, rfl⟩
        · replace e := ifn c130 e
          refine j_aload_n C dX10_readRule_146 rfl rfl ?_
          refine j_bipush (v := (11 : Int32)) C dX10_readRule_147 (by decide) ?_
          replace e := ob e
          obtain ⟨_, eo122, e⟩ := e
          replace e := ob e
          obtain ⟨h123, eh123, e⟩ := e
          refine j_callV (ci := 10) (RC := RX10) (T := TX10) (N := 38) (As := [.int (11 : Int32)]) (b := y66) (na := 1) (st := []) (k1 := 0) (n1 := 0) C hr (sX10_readTerm eh123) rfl eo122 kX10_220 kim_X10_readTerm ksel_X10_readTerm kini_X10 kc_X10_readTerm (by decide) rfl ⟨(Nat.le_of_ble_eq_true rfl), (Nat.le_of_ble_eq_true rfl)⟩ (Nat.le_of_ble_eq_true rfl) ⟨rfl, rfl, (Nat.le_of_ble_eq_true rfl), (Nat.le_of_ble_eq_true rfl)⟩ dX10_readRule_149 ?_
          rintro _ _ ⟨rfl, rfl⟩
          show jx_J X 0 0 152 [(0, .ref y66), (2, .int y67), (4, .int z80), (5, .int z81)] [] h123
          refine j_aload_n C dX10_readRule_152 rfl rfl ?_
          replace e := ob e
          obtain ⟨x124, ex124, e⟩ := e
          refine j_geti (ci := 10) (RC := RX10) (T := TX10) (N := 38) 15 C rfl klX10 (Nat.le_of_ble_eq_true rfl) kX10_175 rfl dX10_readRule_153 ex124 ?_
          refine j_if_le (tgt := 163) C dX10_readRule_156 (by decide) (fun c129 => ?_) (fun c129 => ?_)
          · replace e := ifp c129 e
            refine j_aload_n C dX10_readRule_163 rfl rfl ?_
            refine j_aload_n C dX10_readRule_164 rfl rfl ?_
            replace e := ob e
            obtain ⟨x125, ex125, e⟩ := e
            refine j_geti (ci := 10) (RC := RX10) (T := TX10) (N := 38) 19 C rfl klX10 (Nat.le_of_ble_eq_true rfl) kX10_211 rfl dX10_readRule_165 ex125 ?_
            refine j_aload_n C dX10_readRule_168 rfl rfl ?_
            replace e := ob e
            obtain ⟨x126, ex126, e⟩ := e
            refine j_geti (ci := 10) (RC := RX10) (T := TX10) (N := 38) 14 C rfl klX10 (Nat.le_of_ble_eq_true rfl) kX10_172 rfl dX10_readRule_169 ex126 ?_
            replace e := ob e
            obtain ⟨_, eo127, e⟩ := e
            replace e := ob e
            obtain ⟨x128, ex128, e⟩ := e
            refine j_callV (ci := 10) (RC := RX10) (T := TX10) (N := 38) (As := [.int x125, .int x126]) (b := y66) (na := 2) (st := []) (k1 := 0) (n1 := 0) C hr (sX10_monomialAt ex128) rfl eo127 kX10_108 kim_X10_monomialAt ksel_X10_monomialAt kini_X10 kc_X10_monomialAt (by decide) rfl ⟨(Nat.le_of_ble_eq_true rfl), (Nat.le_of_ble_eq_true rfl)⟩ (Nat.le_of_ble_eq_true rfl) ⟨rfl, rfl, (Nat.le_of_ble_eq_true rfl), (Nat.le_of_ble_eq_true rfl)⟩ dX10_readRule_172 ?_
            rintro _ _ ⟨rfl, rfl⟩
            show jx_J X 0 0 175 [(0, .ref y66), (2, .int y67), (4, .int z80), (5, .int z81)] [.int x128] h123
            refine jx_sub (lv' := [(0, .ref y66), (2, .int y67), (4, .int z80)]) [0, 1, 2] rfl ?_
            exact b175 z80 x128 h123 e
          · replace e := ifn c129 e
            refine j_iconst (v := (0 : Int32)) C dX10_readRule_159 (by decide) ?_
            refine j_goto (tgt := 175) C dX10_readRule_160 (by decide) ?_
            refine jx_sub (lv' := [(0, .ref y66), (2, .int y67), (4, .int z80)]) [0, 1, 2] rfl ?_
            exact b175 z80 (0 : Int32) h123 e
      · replace e := ifn c134 e
        refine j_aload_n C dX10_readRule_114 rfl rfl ?_
        replace e := ob e
        obtain ⟨x131, ex131, e⟩ := e
        refine j_getr (ci := 10) (RC := RX10) (T := TX10) (N := 38) 1 C rfl klX10 (Nat.le_of_ble_eq_true rfl) kX10_7 rfl dX10_readRule_115 ex131 ?_
        refine j_iload_n C dX10_readRule_118 rfl rfl ?_
        refine j_iload C dX10_readRule_119 rfl ?_
        replace e := ob e
        obtain ⟨x132, ex132, e⟩ := e
        refine j_callS (As := [.int y67, .int z76]) (na := 2) (st := [.ref x131]) (k1 := 0) (n1 := 0) C hr (sX10_ruleAt ex132) kX10_130 kst_X10_ruleAt kini_X10 kc_X10_ruleAt (by decide) rfl ⟨(Nat.le_of_ble_eq_true rfl), (Nat.le_of_ble_eq_true rfl)⟩ (Nat.le_of_ble_eq_true rfl) ⟨rfl, rfl, (Nat.le_of_ble_eq_true rfl), (Nat.le_of_ble_eq_true rfl)⟩ dX10_readRule_121 ?_
        rintro _ _ ⟨rfl, rfl⟩
        show jx_J X 0 0 124 [(0, .ref y66), (2, .int y67), (4, .int z76)] [.int x132, .ref x131] h77
        refine j_iconst (v := (0 : Int32)) C dX10_readRule_124 (by decide) ?_
        replace e := ob e
        obtain ⟨h133, eh133, e⟩ := e
        refine j_iast C dX10_readRule_125 eh133 ?_
        refine j_iinc (v := (z76 + (1 : Int32))) (lv1 := [(4, .int (z76 + (1 : Int32))), (0, .ref y66), (2, .int y67)]) C hL dX10_readRule_126 rfl rfl (Nat.le_of_ble_eq_true rfl) rfl ?_
        refine j_goto (tgt := 107) C dX10_readRule_129 (by decide) ?_
        obtain rfl := Option.some.inj e
        refine jx_sub (lv' := [(0, .ref y66), (2, .int y67), (4, .int (z76 + (1 : Int32)))]) [1, 2, 0] rfl ?_
        exact kI3 ((z76 + (1 : Int32)), h133) e0_3
    · replace e := ifn c135 e
      cases e
      exact j_vret C hq dX10_readRule_99 ⟨Nat.le_of_ble_eq_true rfl, Nat.le_of_ble_eq_true rfl⟩ ⟨rfl, rfl⟩
  have b65 : ∀ (y136 : Nat) (y137 : Int32) (h138 : jx_H), BX10_readRule_65 y136 y137 h138 = some h9 → jx_J X 0 0 65 [(0, .ref y136)] [.int y137] h138 := by
    intro y136 y137 h138 e
    unfold BX10_readRule_65 at e
    refine j_istore_n (lv1 := [(2, .int y137), (0, .ref y136)]) C hL dX10_readRule_65 rfl (Nat.le_of_ble_eq_true rfl) rfl ?_
    refine j_aload_n C dX10_readRule_66 rfl rfl ?_
    refine j_iconst (v := (0 : Int32)) C dX10_readRule_67 (by decide) ?_
    refine j_bipush (v := (12 : Int32)) C dX10_readRule_68 (by decide) ?_
    replace e := ob e
    obtain ⟨_, eo139, e⟩ := e
    replace e := ob2 e
    obtain ⟨x140, h141, ex140, e⟩ := e
    refine j_callV (ci := 10) (RC := RX10) (T := TX10) (N := 38) (As := [.int (0 : Int32), .int (12 : Int32)]) (b := y136) (na := 2) (st := []) (k1 := 0) (n1 := 0) C hr (sX10_reads ex140) rfl eo139 kX10_196 kim_X10_reads ksel_X10_reads kini_X10 kc_X10_reads (by decide) rfl ⟨(Nat.le_of_ble_eq_true rfl), (Nat.le_of_ble_eq_true rfl)⟩ (Nat.le_of_ble_eq_true rfl) ⟨rfl, rfl, (Nat.le_of_ble_eq_true rfl), (Nat.le_of_ble_eq_true rfl)⟩ dX10_readRule_70 ?_
    rintro _ _ ⟨rfl, rfl⟩
    show jx_J X 0 0 73 [(2, .int y137), (0, .ref y136)] [.int x140] h141
    refine j_istore_n (lv1 := [(3, .int x140), (2, .int y137), (0, .ref y136)]) C hL dX10_readRule_73 rfl (Nat.le_of_ble_eq_true rfl) rfl ?_
    refine j_aload_n C dX10_readRule_74 rfl rfl ?_
    refine j_aload_n C dX10_readRule_75 rfl rfl ?_
    replace e := ob e
    obtain ⟨_, eo142, e⟩ := e
    replace e := ob e
    obtain ⟨x143, ex143, e⟩ := e
    refine j_callV (ci := 10) (RC := RX10) (T := TX10) (N := 38) (As := []) (b := y136) (na := 0) (st := [.ref y136]) (k1 := 0) (n1 := 0) C hr (sX10_wordHere ex143) rfl eo142 kX10_214 kim_X10_wordHere ksel_X10_wordHere kini_X10 kc_X10_wordHere (by decide) rfl ⟨(Nat.le_of_ble_eq_true rfl), (Nat.le_of_ble_eq_true rfl)⟩ (Nat.le_of_ble_eq_true rfl) ⟨rfl, rfl, (Nat.le_of_ble_eq_true rfl), (Nat.le_of_ble_eq_true rfl)⟩ dX10_readRule_76 ?_
    rintro _ _ ⟨rfl, rfl⟩
    show jx_J X 0 0 79 [(3, .int x140), (2, .int y137), (0, .ref y136)] [.int x143, .ref y136] h141
    refine j_iconst (v := (3 : Int32)) C dX10_readRule_79 (by decide) ?_
    refine j_icmp_ne (tgt := 87) C dX10_readRule_80 (by decide) (fun c144 => ?_) (fun c144 => ?_)
    · replace e := ifn c144 e
      refine j_iconst (v := (0 : Int32)) C dX10_readRule_87 (by decide) ?_
      refine jx_sub (lv' := [(0, .ref y136), (2, .int y137)]) [2, 1] rfl ?_
      exact b88 y136 y137 y136 (0 : Int32) h141 e
    · replace e := ifp c144 e
      refine j_iconst (v := (1 : Int32)) C dX10_readRule_83 (by decide) ?_
      refine j_goto (tgt := 88) C dX10_readRule_84 (by decide) ?_
      refine jx_sub (lv' := [(0, .ref y136), (2, .int y137)]) [2, 1] rfl ?_
      exact b88 y136 y137 y136 (1 : Int32) h141 e
  have b41 : ∀ (y145 : Nat) (y146 : Int32) (y147 : Nat) (y148 : Int32) (h149 : jx_H), BX10_readRule_41 y145 y146 y147 y148 h149 = some h9 → jx_J X 0 0 41 [(0, .ref y145), (1, .int y146)] [.int y148, .ref y147] h149 := by
    intro y145 y146 y147 y148 h149 e
    unfold BX10_readRule_41 at e
    refine j_iconst (v := (4 : Int32)) C dX10_readRule_41 (by decide) ?_
    replace e := ob e
    obtain ⟨_, eo150, e⟩ := e
    replace e := ob e
    obtain ⟨h151, eh151, e⟩ := e
    refine j_callV (ci := 10) (RC := RX10) (T := TX10) (N := 38) (As := [.int y148, .int (4 : Int32)]) (b := y147) (na := 2) (st := []) (k1 := 0) (n1 := 0) C hr (sX10_must eh151) rfl eo150 kX10_192 kim_X10_must ksel_X10_must kini_X10 kc_X10_must (by decide) rfl ⟨(Nat.le_of_ble_eq_true rfl), (Nat.le_of_ble_eq_true rfl)⟩ (Nat.le_of_ble_eq_true rfl) ⟨rfl, rfl, (Nat.le_of_ble_eq_true rfl), (Nat.le_of_ble_eq_true rfl)⟩ dX10_readRule_42 ?_
    rintro _ _ ⟨rfl, rfl⟩
    show jx_J X 0 0 45 [(0, .ref y145), (1, .int y146)] [] h151
    refine j_aload_n C dX10_readRule_45 rfl rfl ?_
    replace e := ob e
    obtain ⟨x152, ex152, e⟩ := e
    refine j_geti (ci := 10) (RC := RX10) (T := TX10) (N := 38) 15 C rfl klX10 (Nat.le_of_ble_eq_true rfl) kX10_175 rfl dX10_readRule_46 ex152 ?_
    refine j_if_le (tgt := 56) C dX10_readRule_49 (by decide) (fun c156 => ?_) (fun c156 => ?_)
    · replace e := ifp c156 e
      refine j_aload_n C dX10_readRule_56 rfl rfl ?_
      refine j_iload_n C dX10_readRule_57 rfl rfl ?_
      refine j_aload_n C dX10_readRule_58 rfl rfl ?_
      replace e := ob e
      obtain ⟨x153, ex153, e⟩ := e
      refine j_geti (ci := 10) (RC := RX10) (T := TX10) (N := 38) 14 C rfl klX10 (Nat.le_of_ble_eq_true rfl) kX10_172 rfl dX10_readRule_59 ex153 ?_
      replace e := ob e
      obtain ⟨_, eo154, e⟩ := e
      replace e := ob e
      obtain ⟨x155, ex155, e⟩ := e
      refine j_callV (ci := 10) (RC := RX10) (T := TX10) (N := 38) (As := [.int y146, .int x153]) (b := y145) (na := 2) (st := []) (k1 := 0) (n1 := 0) C hr (sX10_borderAt ex155) rfl eo154 kX10_119 kim_X10_borderAt ksel_X10_borderAt kini_X10 kc_X10_borderAt (by decide) rfl ⟨(Nat.le_of_ble_eq_true rfl), (Nat.le_of_ble_eq_true rfl)⟩ (Nat.le_of_ble_eq_true rfl) ⟨rfl, rfl, (Nat.le_of_ble_eq_true rfl), (Nat.le_of_ble_eq_true rfl)⟩ dX10_readRule_62 ?_
      rintro _ _ ⟨rfl, rfl⟩
      show jx_J X 0 0 65 [(0, .ref y145), (1, .int y146)] [.int x155] h151
      refine jx_sub (lv' := [(0, .ref y145)]) [0] rfl ?_
      exact b65 y145 x155 h151 e
    · replace e := ifn c156 e
      refine j_iconst (v := (0 : Int32)) C dX10_readRule_52 (by decide) ?_
      refine j_goto (tgt := 65) C dX10_readRule_53 (by decide) ?_
      refine jx_sub (lv' := [(0, .ref y145)]) [0] rfl ?_
      exact b65 y145 (0 : Int32) h151 e
  have b36 : ∀ (y157 : Nat) (y158 : Int32) (y159 : Nat) (h160 : jx_H), BX10_readRule_36 y157 y158 y159 h160 = some h9 → jx_J X 0 0 36 [(0, .ref y157), (1, .int y158)] [.ref y159] h160 := by
    intro y157 y158 y159 h160 e
    unfold BX10_readRule_36 at e
    refine j_iconst (v := (1 : Int32)) C dX10_readRule_36 (by decide) ?_
    refine j_goto (tgt := 41) C dX10_readRule_37 (by decide) ?_
    exact b41 y157 y158 y159 (1 : Int32) h160 e
  unfold FX10_readRule at e
  refine j_aload_n C dX10_readRule_0 rfl rfl ?_
  refine j_iconst (v := (0 : Int32)) C dX10_readRule_1 (by decide) ?_
  refine j_bipush (v := (12 : Int32)) C dX10_readRule_2 (by decide) ?_
  replace e := ob e
  obtain ⟨_, eo161, e⟩ := e
  replace e := ob2 e
  obtain ⟨x162, h163, ex162, e⟩ := e
  refine j_callV (ci := 10) (RC := RX10) (T := TX10) (N := 38) (As := [.int (0 : Int32), .int (12 : Int32)]) (b := l0) (na := 2) (st := []) (k1 := 0) (n1 := 0) C hr (sX10_reads ex162) rfl eo161 kX10_196 kim_X10_reads ksel_X10_reads kini_X10 kc_X10_reads (by decide) rfl ⟨(Nat.le_of_ble_eq_true rfl), (Nat.le_of_ble_eq_true rfl)⟩ (Nat.le_of_ble_eq_true rfl) ⟨rfl, rfl, (Nat.le_of_ble_eq_true rfl), (Nat.le_of_ble_eq_true rfl)⟩ dX10_readRule_4 ?_
  rintro _ _ ⟨rfl, rfl⟩
  show jx_J X 0 0 7 [(0, .ref l0)] [.int x162] h163
  refine j_istore_n (lv1 := [(1, .int x162), (0, .ref l0)]) C hL dX10_readRule_7 rfl (Nat.le_of_ble_eq_true rfl) rfl ?_
  refine j_aload_n C dX10_readRule_8 rfl rfl ?_
  refine j_iconst (v := (0 : Int32)) C dX10_readRule_9 (by decide) ?_
  refine j_bipush (v := (12 : Int32)) C dX10_readRule_10 (by decide) ?_
  replace e := ob e
  obtain ⟨_, eo164, e⟩ := e
  replace e := ob e
  obtain ⟨h165, eh165, e⟩ := e
  refine j_callV (ci := 10) (RC := RX10) (T := TX10) (N := 38) (As := [.int (0 : Int32), .int (12 : Int32)]) (b := l0) (na := 2) (st := []) (k1 := 0) (n1 := 0) C hr (sX10_looks eh165) rfl eo164 kX10_182 kim_X10_looks ksel_X10_looks kini_X10 kc_X10_looks (by decide) rfl ⟨(Nat.le_of_ble_eq_true rfl), (Nat.le_of_ble_eq_true rfl)⟩ (Nat.le_of_ble_eq_true rfl) ⟨rfl, rfl, (Nat.le_of_ble_eq_true rfl), (Nat.le_of_ble_eq_true rfl)⟩ dX10_readRule_12 ?_
  rintro _ _ ⟨rfl, rfl⟩
  show jx_J X 0 0 15 [(1, .int x162), (0, .ref l0)] [] h165
  refine j_aload_n C dX10_readRule_15 rfl rfl ?_
  refine j_aload_n C dX10_readRule_16 rfl rfl ?_
  replace e := ob e
  obtain ⟨x166, ex166, e⟩ := e
  refine j_geti (ci := 10) (RC := RX10) (T := TX10) (N := 38) 15 C rfl klX10 (Nat.le_of_ble_eq_true rfl) kX10_175 rfl dX10_readRule_17 ex166 ?_
  refine j_if_gt (tgt := 36) C dX10_readRule_20 (by decide) (fun c171 => ?_) (fun c171 => ?_)
  · replace e := ifp c171 e
    refine jx_sub (lv' := [(0, .ref l0), (1, .int x162)]) [1, 0] rfl ?_
    exact b36 l0 x162 l0 h165 e
  · replace e := ifn c171 e
    refine j_aload_n C dX10_readRule_23 rfl rfl ?_
    refine j_iload_n C dX10_readRule_24 rfl rfl ?_
    refine j_aload_n C dX10_readRule_25 rfl rfl ?_
    replace e := ob e
    obtain ⟨x167, ex167, e⟩ := e
    refine j_geti (ci := 10) (RC := RX10) (T := TX10) (N := 38) 14 C rfl klX10 (Nat.le_of_ble_eq_true rfl) kX10_172 rfl dX10_readRule_26 ex167 ?_
    replace e := ob e
    obtain ⟨_, eo168, e⟩ := e
    replace e := ob e
    obtain ⟨x169, ex169, e⟩ := e
    refine j_callV (ci := 10) (RC := RX10) (T := TX10) (N := 38) (As := [.int x162, .int x167]) (b := l0) (na := 2) (st := [.ref l0]) (k1 := 0) (n1 := 0) C hr (sX10_borderAt ex169) rfl eo168 kX10_119 kim_X10_borderAt ksel_X10_borderAt kini_X10 kc_X10_borderAt (by decide) rfl ⟨(Nat.le_of_ble_eq_true rfl), (Nat.le_of_ble_eq_true rfl)⟩ (Nat.le_of_ble_eq_true rfl) ⟨rfl, rfl, (Nat.le_of_ble_eq_true rfl), (Nat.le_of_ble_eq_true rfl)⟩ dX10_readRule_29 ?_
    rintro _ _ ⟨rfl, rfl⟩
    show jx_J X 0 0 32 [(1, .int x162), (0, .ref l0)] [.int x169, .ref l0] h165
    refine j_iconst (v := (-1 : Int32)) C dX10_readRule_32 (by decide) ?_
    refine j_icmp_eq (tgt := 40) C dX10_readRule_33 (by decide) (fun c170 => ?_) (fun c170 => ?_)
    · replace e := ifp c170 e
      refine j_iconst (v := (0 : Int32)) C dX10_readRule_40 (by decide) ?_
      refine jx_sub (lv' := [(0, .ref l0), (1, .int x162)]) [1, 0] rfl ?_
      exact b41 l0 x162 l0 (0 : Int32) h165 e
    · replace e := ifn c170 e
      refine jx_sub (lv' := [(0, .ref l0), (1, .int x162)]) [1, 0] rfl ?_
      exact b36 l0 x162 l0 h165 e
/-! BorderBasisModel.pointAt(II)I -/
noncomputable def BX10_pointAt_42 (l0 : Nat) (l1 : Int32) (l2 : Int32) (l3 : Int32) (h : jx_H) : Option ((Int32) ⊕ (Int32)) :=
some (.inl (l3 + (1 : Int32)))
noncomputable def LX10_pointAt_2 (l0 : Nat) (l1 : Int32) (l2 : Int32) (l3 : Int32) (h : jx_H) : Option ((Int32) ⊕ (Int32)) :=
(hgr h l0 10 1).bind fun x1 =>
(hal h .int x1 (3 : Int32)).bind fun x2 =>
if x2 ≤ l3 then
 exL (some (-1 : Int32))
else
 (hgr h l0 10 1).bind fun x3 =>
 (hal h .int x3 ((224 : Int32) + l3)).bind fun x4 =>
 if x4 = l1 then
  (hgr h l0 10 1).bind fun x5 =>
  (hal h .int x5 ((236 : Int32) + l3)).bind fun x6 =>
  if x6 = l2 then
   exL (some l3)
  else
   BX10_pointAt_42 l0 l1 l2 l3 h
 else
  BX10_pointAt_42 l0 l1 l2 l3 h
noncomputable def FX10_pointAt (l0 : Nat) (l1 : Int32) (l2 : Int32) (h : jx_H) : Option (Int32) :=
itr (fun s : Int32 => LX10_pointAt_2 l0 l1 l2 s h) (0 : Int32)
def rmX10_pointAt : Room := { frames := 0, cells := 0, slots := 0, locals := 0 }
set_option maxRecDepth 20000 in
set_option maxHeartbeats 4000000 in
theorem sX10_pointAt {l0 : Nat} {l1 : Int32} {l2 : Int32} {h : jx_H} {r : Int32}  (e : FX10_pointAt l0 l1 l2 h = some r) : jx_Ct yX10_pointAt cX10_pointAt 4 (some .int) rmX10_pointAt [.ref l0, .int l1, .int l2] h (fun r' h' => some (.int r) = r' ∧ h = h') := by
  refine jx_Ct.of (own := RX10) (by decide) rfl (Nat.le_of_ble_eq_true rfl) (fun X C hq hr hL hN => ?_)
  refine jx_sub (lv' := [(0, .ref l0), (1, .int l1), (2, .int l2)]) [0, 1, 2] rfl ?_
  unfold FX10_pointAt at e
  refine j_iconst (v := (0 : Int32)) C dX10_pointAt_0 (by decide) ?_
  refine j_istore_n (lv1 := [(3, .int (0 : Int32)), (0, .ref l0), (1, .int l1), (2, .int l2)]) C hL dX10_pointAt_1 rfl (Nat.le_of_ble_eq_true rfl) rfl ?_
  refine jx_sub (lv' := [(0, .ref l0), (1, .int l1), (2, .int l2), (3, .int (0 : Int32))]) [1, 2, 3, 0] rfl ?_
  refine itr_ind (s0 := (0 : Int32)) (fun s : Int32 => jx_J X 0 0 2 [(0, .ref l0), (1, .int l1), (2, .int l2), (3, .int s)] [] h) e ?_
  clear e
  intro s kI3 kT3 e0
  obtain ⟨z10, es⟩ : ∃ z, z = s := ⟨_, rfl⟩
  subst es
  obtain ⟨u3, e0_3⟩ := e0
  have e : LX10_pointAt_2 l0 l1 l2 z10 h = some u3 := e0_3
  have b42 : ∀ (y11 : Int32), BX10_pointAt_42 l0 l1 l2 y11 h = some u3 → jx_J X 0 0 42 [(0, .ref l0), (1, .int l1), (2, .int l2), (3, .int y11)] [] h := by
    intro y11 e
    unfold BX10_pointAt_42 at e
    refine j_iinc (v := (y11 + (1 : Int32))) (lv1 := [(3, .int (y11 + (1 : Int32))), (0, .ref l0), (1, .int l1), (2, .int l2)]) C hL dX10_pointAt_42 rfl rfl (Nat.le_of_ble_eq_true rfl) rfl ?_
    refine j_goto (tgt := 2) C dX10_pointAt_45 (by decide) ?_
    obtain rfl := Option.some.inj e
    refine jx_sub (lv' := [(0, .ref l0), (1, .int l1), (2, .int l2), (3, .int (y11 + (1 : Int32)))]) [1, 2, 3, 0] rfl ?_
    exact kI3 (y11 + (1 : Int32)) e0_3
  unfold LX10_pointAt_2 at e
  refine j_iload_n C dX10_pointAt_2 rfl rfl ?_
  refine j_aload_n C dX10_pointAt_3 rfl rfl ?_
  replace e := ob e
  obtain ⟨x12, ex12, e⟩ := e
  refine j_getr (ci := 10) (RC := RX10) (T := TX10) (N := 38) 1 C rfl klX10 (Nat.le_of_ble_eq_true rfl) kX10_7 rfl dX10_pointAt_4 ex12 ?_
  refine j_iconst (v := (3 : Int32)) C dX10_pointAt_7 (by decide) ?_
  replace e := ob e
  obtain ⟨x13, ex13, e⟩ := e
  refine j_iald C dX10_pointAt_8 ex13 ?_
  refine j_icmp_ge (tgt := 48) C dX10_pointAt_9 (by decide) (fun c20 => ?_) (fun c20 => ?_)
  · replace e := ifp c20 e
    obtain ⟨t_4, e_4, eu_4⟩ := exL_spec e
    obtain rfl := kT3 t_4 (e0_3.trans (congrArg some eu_4))
    replace e := e_4
    refine j_iconst (v := (-1 : Int32)) C dX10_pointAt_48 (by decide) ?_
    cases e
    exact j_iret C hq rfl dX10_pointAt_49 ⟨Nat.le_of_ble_eq_true rfl, Nat.le_of_ble_eq_true rfl⟩ ⟨rfl, rfl⟩
  · replace e := ifn c20 e
    refine j_aload_n C dX10_pointAt_12 rfl rfl ?_
    replace e := ob e
    obtain ⟨x14, ex14, e⟩ := e
    refine j_getr (ci := 10) (RC := RX10) (T := TX10) (N := 38) 1 C rfl klX10 (Nat.le_of_ble_eq_true rfl) kX10_7 rfl dX10_pointAt_13 ex14 ?_
    refine j_sipush (v := (224 : Int32)) C dX10_pointAt_16 (by decide) ?_
    refine j_iload_n C dX10_pointAt_19 rfl rfl ?_
    refine j_iadd C dX10_pointAt_20 ?_
    replace e := ob e
    obtain ⟨x15, ex15, e⟩ := e
    refine j_iald C dX10_pointAt_21 ex15 ?_
    refine j_iload_n C dX10_pointAt_22 rfl rfl ?_
    refine j_icmp_ne (tgt := 42) C dX10_pointAt_23 (by decide) (fun c19 => ?_) (fun c19 => ?_)
    · replace e := ifn c19 e
      exact b42 z10 e
    · replace e := ifp c19 e
      refine j_aload_n C dX10_pointAt_26 rfl rfl ?_
      replace e := ob e
      obtain ⟨x16, ex16, e⟩ := e
      refine j_getr (ci := 10) (RC := RX10) (T := TX10) (N := 38) 1 C rfl klX10 (Nat.le_of_ble_eq_true rfl) kX10_7 rfl dX10_pointAt_27 ex16 ?_
      refine j_sipush (v := (236 : Int32)) C dX10_pointAt_30 (by decide) ?_
      refine j_iload_n C dX10_pointAt_33 rfl rfl ?_
      refine j_iadd C dX10_pointAt_34 ?_
      replace e := ob e
      obtain ⟨x17, ex17, e⟩ := e
      refine j_iald C dX10_pointAt_35 ex17 ?_
      refine j_iload_n C dX10_pointAt_36 rfl rfl ?_
      refine j_icmp_ne (tgt := 42) C dX10_pointAt_37 (by decide) (fun c18 => ?_) (fun c18 => ?_)
      · replace e := ifn c18 e
        exact b42 z10 e
      · replace e := ifp c18 e
        obtain ⟨t_5, e_5, eu_5⟩ := exL_spec e
        obtain rfl := kT3 t_5 (e0_3.trans (congrArg some eu_5))
        replace e := e_5
        refine j_iload_n C dX10_pointAt_40 rfl rfl ?_
        cases e
        exact j_iret C hq rfl dX10_pointAt_41 ⟨Nat.le_of_ble_eq_true rfl, Nat.le_of_ble_eq_true rfl⟩ ⟨rfl, rfl⟩
/-! BorderBasisModel.putsPoint(II)I -/
noncomputable def FX10_putsPoint (l0 : Nat) (l1 : Int32) (l2 : Int32) (h : jx_H) : Option (Int32 × jx_H) :=
(hgr h l0 10 1).bind fun x1 =>
(hal h .int x1 (3 : Int32)).bind fun x2 =>
(hgr h l0 10 1).bind fun x3 =>
(has h .int x3 ((224 : Int32) + x2) l1).bind fun h4 =>
(hgr h4 l0 10 1).bind fun x5 =>
(has h4 .int x5 ((236 : Int32) + x2) l2).bind fun h6 =>
(hgr h6 l0 10 1).bind fun x7 =>
(hal h6 .int x7 (3 : Int32)).bind fun x8 =>
(has h6 .int x7 (3 : Int32) (x8 + (1 : Int32))).bind fun h9 =>
some (x2, h9)
def rmX10_putsPoint : Room := { frames := 0, cells := 0, slots := 0, locals := 0 }
set_option maxRecDepth 20000 in
set_option maxHeartbeats 4000000 in
theorem sX10_putsPoint {l0 : Nat} {l1 : Int32} {l2 : Int32} {h : jx_H} {r : Int32} {h9 : jx_H} (e : FX10_putsPoint l0 l1 l2 h = some (r, h9)) : jx_Ct yX10_putsPoint cX10_putsPoint 4 (some .int) rmX10_putsPoint [.ref l0, .int l1, .int l2] h (fun r' h' => some (.int r) = r' ∧ h9 = h') := by
  refine jx_Ct.of (own := RX10) (by decide) rfl (Nat.le_of_ble_eq_true rfl) (fun X C hq hr hL hN => ?_)
  refine jx_sub (lv' := [(0, .ref l0), (1, .int l1), (2, .int l2)]) [0, 1, 2] rfl ?_
  unfold FX10_putsPoint at e
  refine j_aload_n C dX10_putsPoint_0 rfl rfl ?_
  replace e := ob e
  obtain ⟨x10, ex10, e⟩ := e
  refine j_getr (ci := 10) (RC := RX10) (T := TX10) (N := 38) 1 C rfl klX10 (Nat.le_of_ble_eq_true rfl) kX10_7 rfl dX10_putsPoint_1 ex10 ?_
  refine j_iconst (v := (3 : Int32)) C dX10_putsPoint_4 (by decide) ?_
  replace e := ob e
  obtain ⟨x11, ex11, e⟩ := e
  refine j_iald C dX10_putsPoint_5 ex11 ?_
  refine j_istore_n (lv1 := [(3, .int x11), (0, .ref l0), (1, .int l1), (2, .int l2)]) C hL dX10_putsPoint_6 rfl (Nat.le_of_ble_eq_true rfl) rfl ?_
  refine j_aload_n C dX10_putsPoint_7 rfl rfl ?_
  replace e := ob e
  obtain ⟨x12, ex12, e⟩ := e
  refine j_getr (ci := 10) (RC := RX10) (T := TX10) (N := 38) 1 C rfl klX10 (Nat.le_of_ble_eq_true rfl) kX10_7 rfl dX10_putsPoint_8 ex12 ?_
  refine j_sipush (v := (224 : Int32)) C dX10_putsPoint_11 (by decide) ?_
  refine j_iload_n C dX10_putsPoint_14 rfl rfl ?_
  refine j_iadd C dX10_putsPoint_15 ?_
  refine j_iload_n C dX10_putsPoint_16 rfl rfl ?_
  replace e := ob e
  obtain ⟨h13, eh13, e⟩ := e
  refine j_iast C dX10_putsPoint_17 eh13 ?_
  refine j_aload_n C dX10_putsPoint_18 rfl rfl ?_
  replace e := ob e
  obtain ⟨x14, ex14, e⟩ := e
  refine j_getr (ci := 10) (RC := RX10) (T := TX10) (N := 38) 1 C rfl klX10 (Nat.le_of_ble_eq_true rfl) kX10_7 rfl dX10_putsPoint_19 ex14 ?_
  refine j_sipush (v := (236 : Int32)) C dX10_putsPoint_22 (by decide) ?_
  refine j_iload_n C dX10_putsPoint_25 rfl rfl ?_
  refine j_iadd C dX10_putsPoint_26 ?_
  refine j_iload_n C dX10_putsPoint_27 rfl rfl ?_
  replace e := ob e
  obtain ⟨h15, eh15, e⟩ := e
  refine j_iast C dX10_putsPoint_28 eh15 ?_
  refine j_aload_n C dX10_putsPoint_29 rfl rfl ?_
  replace e := ob e
  obtain ⟨x16, ex16, e⟩ := e
  refine j_getr (ci := 10) (RC := RX10) (T := TX10) (N := 38) 1 C rfl klX10 (Nat.le_of_ble_eq_true rfl) kX10_7 rfl dX10_putsPoint_30 ex16 ?_
  refine j_iconst (v := (3 : Int32)) C dX10_putsPoint_33 (by decide) ?_
  refine j_dup2 C dX10_putsPoint_34 rfl rfl ?_
  replace e := ob e
  obtain ⟨x17, ex17, e⟩ := e
  refine j_iald C dX10_putsPoint_35 ex17 ?_
  refine j_iconst (v := (1 : Int32)) C dX10_putsPoint_36 (by decide) ?_
  refine j_iadd C dX10_putsPoint_37 ?_
  replace e := ob e
  obtain ⟨h18, eh18, e⟩ := e
  refine j_iast C dX10_putsPoint_38 eh18 ?_
  refine j_iload_n C dX10_putsPoint_39 rfl rfl ?_
  cases e
  exact j_iret C hq rfl dX10_putsPoint_40 ⟨Nat.le_of_ble_eq_true rfl, Nat.le_of_ble_eq_true rfl⟩ ⟨rfl, rfl⟩
/-! BorderBasisModel.readPoint()V -/
noncomputable def BX10_readPoint_49 (l0 : Nat) (l1 : Int32) (s0 : Nat) (s1 : Int32) (h : jx_H) : Option (jx_H) :=
(isO h s0 10).bind fun _ =>
(FX10_must s0 s1 (5 : Int32) h).bind fun h2 =>
(isO h2 l0 10).bind fun _ =>
(FX10_p l0 h2).bind fun x4 =>
(isO h2 l0 10).bind fun _ =>
bind2 (FX10_reads l0 (0 : Int32) (x4 - (1 : Int32)) h2) fun x6 h7 =>
(hgi h7 l0 10 15).bind fun x8 =>
if x8 = 0 then
 (isO h7 l0 10).bind fun _ =>
 bind2 (FX10_putsPoint l0 l1 x6 h7) fun x10 h11 =>
 some h11
else
 some h7
noncomputable def BX10_readPoint_44 (l0 : Nat) (l1 : Int32) (s0 : Nat) (h : jx_H) : Option (jx_H) :=
BX10_readPoint_49 l0 l1 s0 (1 : Int32) h
noncomputable def FX10_readPoint (l0 : Nat) (h : jx_H) : Option (jx_H) :=
(isO h l0 10).bind fun _ =>
(FX10_p l0 h).bind fun x14 =>
(isO h l0 10).bind fun _ =>
bind2 (FX10_reads l0 (0 : Int32) (x14 - (1 : Int32)) h) fun x16 h17 =>
(isO h17 l0 10).bind fun _ =>
(FX10_p l0 h17).bind fun x19 =>
(isO h17 l0 10).bind fun _ =>
(FX10_looks l0 (0 : Int32) (x19 - (1 : Int32)) h17).bind fun h21 =>
(hgi h21 l0 10 15).bind fun x22 =>
if 0 < x22 then
 BX10_readPoint_44 l0 x16 l0 h21
else
 (hgi h21 l0 10 14).bind fun x23 =>
 (isO h21 l0 10).bind fun _ =>
 (FX10_pointAt l0 x16 x23 h21).bind fun x25 =>
 if x25 = (-1 : Int32) then
  BX10_readPoint_44 l0 x16 l0 h21
 else
  BX10_readPoint_49 l0 x16 l0 (0 : Int32) h21
def rmX10_readPoint : Room := { frames := 4, cells := 0, slots := 0, locals := 85 }
set_option maxRecDepth 20000 in
set_option maxHeartbeats 4000000 in
theorem sX10_readPoint {l0 : Nat} {h : jx_H} {h9 : jx_H} (e : FX10_readPoint l0 h = some h9) : jx_Ct yX10_readPoint cX10_readPoint 4 none rmX10_readPoint [.ref l0] h (fun r' h' => none = r' ∧ h9 = h') := by
  refine jx_Ct.of (own := RX10) (by decide) rfl (Nat.le_of_ble_eq_true rfl) (fun X C hq hr hL hN => ?_)
  refine jx_sub (lv' := [(0, .ref l0)]) [0] rfl ?_
  have b49 : ∀ (y28 : Nat) (y29 : Int32) (y30 : Nat) (y31 : Int32) (h32 : jx_H), BX10_readPoint_49 y28 y29 y30 y31 h32 = some h9 → jx_J X 0 0 49 [(0, .ref y28), (1, .int y29)] [.int y31, .ref y30] h32 := by
    intro y28 y29 y30 y31 h32 e
    unfold BX10_readPoint_49 at e
    refine j_iconst (v := (5 : Int32)) C dX10_readPoint_49 (by decide) ?_
    replace e := ob e
    obtain ⟨_, eo33, e⟩ := e
    replace e := ob e
    obtain ⟨h34, eh34, e⟩ := e
    refine j_callV (ci := 10) (RC := RX10) (T := TX10) (N := 38) (As := [.int y31, .int (5 : Int32)]) (b := y30) (na := 2) (st := []) (k1 := 0) (n1 := 0) C hr (sX10_must eh34) rfl eo33 kX10_192 kim_X10_must ksel_X10_must kini_X10 kc_X10_must (by decide) rfl ⟨(Nat.le_of_ble_eq_true rfl), (Nat.le_of_ble_eq_true rfl)⟩ (Nat.le_of_ble_eq_true rfl) ⟨rfl, rfl, (Nat.le_of_ble_eq_true rfl), (Nat.le_of_ble_eq_true rfl)⟩ dX10_readPoint_50 ?_
    rintro _ _ ⟨rfl, rfl⟩
    show jx_J X 0 0 53 [(0, .ref y28), (1, .int y29)] [] h34
    refine j_aload_n C dX10_readPoint_53 rfl rfl ?_
    refine j_iconst (v := (0 : Int32)) C dX10_readPoint_54 (by decide) ?_
    refine j_aload_n C dX10_readPoint_55 rfl rfl ?_
    replace e := ob e
    obtain ⟨_, eo35, e⟩ := e
    replace e := ob e
    obtain ⟨x36, ex36, e⟩ := e
    refine j_callV (ci := 10) (RC := RX10) (T := TX10) (N := 38) (As := []) (b := y28) (na := 0) (st := [.int (0 : Int32), .ref y28]) (k1 := 0) (n1 := 0) C hr (sX10_p ex36) rfl eo35 kX10_97 kim_X10_p ksel_X10_p kini_X10 kc_X10_p (by decide) rfl ⟨(Nat.le_of_ble_eq_true rfl), (Nat.le_of_ble_eq_true rfl)⟩ (Nat.le_of_ble_eq_true rfl) ⟨rfl, rfl, (Nat.le_of_ble_eq_true rfl), (Nat.le_of_ble_eq_true rfl)⟩ dX10_readPoint_56 ?_
    rintro _ _ ⟨rfl, rfl⟩
    show jx_J X 0 0 59 [(0, .ref y28), (1, .int y29)] [.int x36, .int (0 : Int32), .ref y28] h34
    refine j_iconst (v := (1 : Int32)) C dX10_readPoint_59 (by decide) ?_
    refine j_isub C dX10_readPoint_60 ?_
    replace e := ob e
    obtain ⟨_, eo37, e⟩ := e
    replace e := ob2 e
    obtain ⟨x38, h39, ex38, e⟩ := e
    refine j_callV (ci := 10) (RC := RX10) (T := TX10) (N := 38) (As := [.int (0 : Int32), .int (x36 - (1 : Int32))]) (b := y28) (na := 2) (st := []) (k1 := 0) (n1 := 0) C hr (sX10_reads ex38) rfl eo37 kX10_196 kim_X10_reads ksel_X10_reads kini_X10 kc_X10_reads (by decide) rfl ⟨(Nat.le_of_ble_eq_true rfl), (Nat.le_of_ble_eq_true rfl)⟩ (Nat.le_of_ble_eq_true rfl) ⟨rfl, rfl, (Nat.le_of_ble_eq_true rfl), (Nat.le_of_ble_eq_true rfl)⟩ dX10_readPoint_61 ?_
    rintro _ _ ⟨rfl, rfl⟩
    show jx_J X 0 0 64 [(0, .ref y28), (1, .int y29)] [.int x38] h39
    refine j_istore_n (lv1 := [(2, .int x38), (0, .ref y28), (1, .int y29)]) C hL dX10_readPoint_64 rfl (Nat.le_of_ble_eq_true rfl) rfl ?_
    refine j_aload_n C dX10_readPoint_65 rfl rfl ?_
    replace e := ob e
    obtain ⟨x40, ex40, e⟩ := e
    refine j_geti (ci := 10) (RC := RX10) (T := TX10) (N := 38) 15 C rfl klX10 (Nat.le_of_ble_eq_true rfl) kX10_175 rfl dX10_readPoint_66 ex40 ?_
    refine j_if_ne (tgt := 79) C dX10_readPoint_69 (by decide) (fun c44 => ?_) (fun c44 => ?_)
    · replace e := ifn c44 e
      cases e
      exact j_vret C hq dX10_readPoint_79 ⟨Nat.le_of_ble_eq_true rfl, Nat.le_of_ble_eq_true rfl⟩ ⟨rfl, rfl⟩
    · replace e := ifp c44 e
      refine j_aload_n C dX10_readPoint_72 rfl rfl ?_
      refine j_iload_n C dX10_readPoint_73 rfl rfl ?_
      refine j_iload_n C dX10_readPoint_74 rfl rfl ?_
      replace e := ob e
      obtain ⟨_, eo41, e⟩ := e
      replace e := ob2 e
      obtain ⟨x42, h43, ex42, e⟩ := e
      refine j_callV (ci := 10) (RC := RX10) (T := TX10) (N := 38) (As := [.int y29, .int x38]) (b := y28) (na := 2) (st := []) (k1 := 0) (n1 := 0) C hr (sX10_putsPoint ex42) rfl eo41 kX10_229 kim_X10_putsPoint ksel_X10_putsPoint kini_X10 kc_X10_putsPoint (by decide) rfl ⟨(Nat.le_of_ble_eq_true rfl), (Nat.le_of_ble_eq_true rfl)⟩ (Nat.le_of_ble_eq_true rfl) ⟨rfl, rfl, (Nat.le_of_ble_eq_true rfl), (Nat.le_of_ble_eq_true rfl)⟩ dX10_readPoint_75 ?_
      rintro _ _ ⟨rfl, rfl⟩
      show jx_J X 0 0 78 [(2, .int x38), (0, .ref y28), (1, .int y29)] [.int x42] h43
      refine j_istore_n (lv1 := [(3, .int x42), (2, .int x38), (0, .ref y28), (1, .int y29)]) C hL dX10_readPoint_78 rfl (Nat.le_of_ble_eq_true rfl) rfl ?_
      cases e
      exact j_vret C hq dX10_readPoint_79 ⟨Nat.le_of_ble_eq_true rfl, Nat.le_of_ble_eq_true rfl⟩ ⟨rfl, rfl⟩
  have b44 : ∀ (y45 : Nat) (y46 : Int32) (y47 : Nat) (h48 : jx_H), BX10_readPoint_44 y45 y46 y47 h48 = some h9 → jx_J X 0 0 44 [(0, .ref y45), (1, .int y46)] [.ref y47] h48 := by
    intro y45 y46 y47 h48 e
    unfold BX10_readPoint_44 at e
    refine j_iconst (v := (1 : Int32)) C dX10_readPoint_44 (by decide) ?_
    refine j_goto (tgt := 49) C dX10_readPoint_45 (by decide) ?_
    exact b49 y45 y46 y47 (1 : Int32) h48 e
  unfold FX10_readPoint at e
  refine j_aload_n C dX10_readPoint_0 rfl rfl ?_
  refine j_iconst (v := (0 : Int32)) C dX10_readPoint_1 (by decide) ?_
  refine j_aload_n C dX10_readPoint_2 rfl rfl ?_
  replace e := ob e
  obtain ⟨_, eo49, e⟩ := e
  replace e := ob e
  obtain ⟨x50, ex50, e⟩ := e
  refine j_callV (ci := 10) (RC := RX10) (T := TX10) (N := 38) (As := []) (b := l0) (na := 0) (st := [.int (0 : Int32), .ref l0]) (k1 := 0) (n1 := 0) C hr (sX10_p ex50) rfl eo49 kX10_97 kim_X10_p ksel_X10_p kini_X10 kc_X10_p (by decide) rfl ⟨(Nat.le_of_ble_eq_true rfl), (Nat.le_of_ble_eq_true rfl)⟩ (Nat.le_of_ble_eq_true rfl) ⟨rfl, rfl, (Nat.le_of_ble_eq_true rfl), (Nat.le_of_ble_eq_true rfl)⟩ dX10_readPoint_3 ?_
  rintro _ _ ⟨rfl, rfl⟩
  show jx_J X 0 0 6 [(0, .ref l0)] [.int x50, .int (0 : Int32), .ref l0] h
  refine j_iconst (v := (1 : Int32)) C dX10_readPoint_6 (by decide) ?_
  refine j_isub C dX10_readPoint_7 ?_
  replace e := ob e
  obtain ⟨_, eo51, e⟩ := e
  replace e := ob2 e
  obtain ⟨x52, h53, ex52, e⟩ := e
  refine j_callV (ci := 10) (RC := RX10) (T := TX10) (N := 38) (As := [.int (0 : Int32), .int (x50 - (1 : Int32))]) (b := l0) (na := 2) (st := []) (k1 := 0) (n1 := 0) C hr (sX10_reads ex52) rfl eo51 kX10_196 kim_X10_reads ksel_X10_reads kini_X10 kc_X10_reads (by decide) rfl ⟨(Nat.le_of_ble_eq_true rfl), (Nat.le_of_ble_eq_true rfl)⟩ (Nat.le_of_ble_eq_true rfl) ⟨rfl, rfl, (Nat.le_of_ble_eq_true rfl), (Nat.le_of_ble_eq_true rfl)⟩ dX10_readPoint_8 ?_
  rintro _ _ ⟨rfl, rfl⟩
  show jx_J X 0 0 11 [(0, .ref l0)] [.int x52] h53
  refine j_istore_n (lv1 := [(1, .int x52), (0, .ref l0)]) C hL dX10_readPoint_11 rfl (Nat.le_of_ble_eq_true rfl) rfl ?_
  refine j_aload_n C dX10_readPoint_12 rfl rfl ?_
  refine j_iconst (v := (0 : Int32)) C dX10_readPoint_13 (by decide) ?_
  refine j_aload_n C dX10_readPoint_14 rfl rfl ?_
  replace e := ob e
  obtain ⟨_, eo54, e⟩ := e
  replace e := ob e
  obtain ⟨x55, ex55, e⟩ := e
  refine j_callV (ci := 10) (RC := RX10) (T := TX10) (N := 38) (As := []) (b := l0) (na := 0) (st := [.int (0 : Int32), .ref l0]) (k1 := 0) (n1 := 0) C hr (sX10_p ex55) rfl eo54 kX10_97 kim_X10_p ksel_X10_p kini_X10 kc_X10_p (by decide) rfl ⟨(Nat.le_of_ble_eq_true rfl), (Nat.le_of_ble_eq_true rfl)⟩ (Nat.le_of_ble_eq_true rfl) ⟨rfl, rfl, (Nat.le_of_ble_eq_true rfl), (Nat.le_of_ble_eq_true rfl)⟩ dX10_readPoint_15 ?_
  rintro _ _ ⟨rfl, rfl⟩
  show jx_J X 0 0 18 [(1, .int x52), (0, .ref l0)] [.int x55, .int (0 : Int32), .ref l0] h53
  refine j_iconst (v := (1 : Int32)) C dX10_readPoint_18 (by decide) ?_
  refine j_isub C dX10_readPoint_19 ?_
  replace e := ob e
  obtain ⟨_, eo56, e⟩ := e
  replace e := ob e
  obtain ⟨h57, eh57, e⟩ := e
  refine j_callV (ci := 10) (RC := RX10) (T := TX10) (N := 38) (As := [.int (0 : Int32), .int (x55 - (1 : Int32))]) (b := l0) (na := 2) (st := []) (k1 := 0) (n1 := 0) C hr (sX10_looks eh57) rfl eo56 kX10_182 kim_X10_looks ksel_X10_looks kini_X10 kc_X10_looks (by decide) rfl ⟨(Nat.le_of_ble_eq_true rfl), (Nat.le_of_ble_eq_true rfl)⟩ (Nat.le_of_ble_eq_true rfl) ⟨rfl, rfl, (Nat.le_of_ble_eq_true rfl), (Nat.le_of_ble_eq_true rfl)⟩ dX10_readPoint_20 ?_
  rintro _ _ ⟨rfl, rfl⟩
  show jx_J X 0 0 23 [(1, .int x52), (0, .ref l0)] [] h57
  refine j_aload_n C dX10_readPoint_23 rfl rfl ?_
  refine j_aload_n C dX10_readPoint_24 rfl rfl ?_
  replace e := ob e
  obtain ⟨x58, ex58, e⟩ := e
  refine j_geti (ci := 10) (RC := RX10) (T := TX10) (N := 38) 15 C rfl klX10 (Nat.le_of_ble_eq_true rfl) kX10_175 rfl dX10_readPoint_25 ex58 ?_
  refine j_if_gt (tgt := 44) C dX10_readPoint_28 (by decide) (fun c63 => ?_) (fun c63 => ?_)
  · replace e := ifp c63 e
    refine jx_sub (lv' := [(0, .ref l0), (1, .int x52)]) [1, 0] rfl ?_
    exact b44 l0 x52 l0 h57 e
  · replace e := ifn c63 e
    refine j_aload_n C dX10_readPoint_31 rfl rfl ?_
    refine j_iload_n C dX10_readPoint_32 rfl rfl ?_
    refine j_aload_n C dX10_readPoint_33 rfl rfl ?_
    replace e := ob e
    obtain ⟨x59, ex59, e⟩ := e
    refine j_geti (ci := 10) (RC := RX10) (T := TX10) (N := 38) 14 C rfl klX10 (Nat.le_of_ble_eq_true rfl) kX10_172 rfl dX10_readPoint_34 ex59 ?_
    replace e := ob e
    obtain ⟨_, eo60, e⟩ := e
    replace e := ob e
    obtain ⟨x61, ex61, e⟩ := e
    refine j_callV (ci := 10) (RC := RX10) (T := TX10) (N := 38) (As := [.int x52, .int x59]) (b := l0) (na := 2) (st := [.ref l0]) (k1 := 0) (n1 := 0) C hr (sX10_pointAt ex61) rfl eo60 kX10_226 kim_X10_pointAt ksel_X10_pointAt kini_X10 kc_X10_pointAt (by decide) rfl ⟨(Nat.le_of_ble_eq_true rfl), (Nat.le_of_ble_eq_true rfl)⟩ (Nat.le_of_ble_eq_true rfl) ⟨rfl, rfl, (Nat.le_of_ble_eq_true rfl), (Nat.le_of_ble_eq_true rfl)⟩ dX10_readPoint_37 ?_
    rintro _ _ ⟨rfl, rfl⟩
    show jx_J X 0 0 40 [(1, .int x52), (0, .ref l0)] [.int x61, .ref l0] h57
    refine j_iconst (v := (-1 : Int32)) C dX10_readPoint_40 (by decide) ?_
    refine j_icmp_ne (tgt := 48) C dX10_readPoint_41 (by decide) (fun c62 => ?_) (fun c62 => ?_)
    · replace e := ifn c62 e
      refine j_iconst (v := (0 : Int32)) C dX10_readPoint_48 (by decide) ?_
      refine jx_sub (lv' := [(0, .ref l0), (1, .int x52)]) [1, 0] rfl ?_
      exact b49 l0 x52 l0 (0 : Int32) h57 e
    · replace e := ifp c62 e
      refine jx_sub (lv' := [(0, .ref l0), (1, .int x52)]) [1, 0] rfl ?_
      exact b44 l0 x52 l0 h57 e
/-! BorderBasisModel.readStatement(Z)V -/
noncomputable def BX10_readStatement_163 (l0 : Nat) (s0 : Nat) (s1 : Int32) (h : jx_H) : Option (jx_H) :=
(isO h s0 10).bind fun _ =>
(FX10_must s0 s1 (1 : Int32) h).bind fun h2 =>
(hgi h2 l0 10 15).bind fun x3 =>
if x3 = 0 then
 (isO h2 l0 10).bind fun _ =>
 (FX10_goesOn l0 h2).bind fun h5 =>
 some h5
else
 some h2
noncomputable def BX10_readStatement_149 (l0 : Nat) (h : jx_H) : Option (jx_H) :=
(hgi h l0 10 13).bind fun x7 =>
if x7 = (3 : Int32) then
 BX10_readStatement_163 l0 l0 (1 : Int32) h
else
 BX10_readStatement_163 l0 l0 (0 : Int32) h
noncomputable def BX10_readStatement_79 (l0 : Nat) (l2 : Int32) (s0 : Nat) (s1 : Int32) (h : jx_H) : Option (jx_H) :=
(isO h s0 10).bind fun _ =>
(FX10_must s0 s1 (3 : Int32) h).bind fun h10 =>
(hgi h10 l0 10 15).bind fun x11 =>
if x11 ≤ 0 then
 (isO h10 l0 10).bind fun _ =>
 (FX10_goesOn l0 h10).bind fun h13 =>
 if l2 = 0 then
  (isO h13 l0 10).bind fun _ =>
  (FX10_readPrime l0 h13).bind fun h16 =>
  BX10_readStatement_149 l0 h16
 else
 if l2 = 1 then
  (isO h13 l0 10).bind fun _ =>
  (FX10_readJoin l0 h13).bind fun h19 =>
  BX10_readStatement_149 l0 h19
 else
 if l2 = 2 then
  (isO h13 l0 10).bind fun _ =>
  (FX10_readRule l0 h13).bind fun h22 =>
  BX10_readStatement_149 l0 h22
 else
 (isO h13 l0 10).bind fun _ =>
 (FX10_readPoint l0 h13).bind fun h24 =>
 BX10_readStatement_149 l0 h24
else
 some h10
noncomputable def BX10_readStatement_74 (l0 : Nat) (l2 : Int32) (s0 : Nat) (h : jx_H) : Option (jx_H) :=
BX10_readStatement_79 l0 l2 s0 (1 : Int32) h
noncomputable def BX10_readStatement_53 (l0 : Nat) (l2 : Int32) (s0 : Nat) (s1 : Int32) (h : jx_H) : Option (jx_H) :=
(isO h s0 10).bind fun _ =>
(FX10_must s0 s1 (3 : Int32) h).bind fun h27 =>
if l2 = (4 : Int32) then
 (hgr h27 l0 10 1).bind fun x28 =>
 (hal h27 .int x28 (3 : Int32)).bind fun x29 =>
 if (12 : Int32) ≤ x29 then
  BX10_readStatement_79 l0 l2 l0 (0 : Int32) h27
 else
  BX10_readStatement_74 l0 l2 l0 h27
else
 BX10_readStatement_74 l0 l2 l0 h27
noncomputable def BX10_readStatement_48 (l0 : Nat) (l2 : Int32) (s0 : Nat) (h : jx_H) : Option (jx_H) :=
BX10_readStatement_53 l0 l2 s0 (1 : Int32) h
noncomputable def BX10_readStatement_29 (l0 : Nat) (l2 : Int32) (s0 : Nat) (s1 : Int32) (h : jx_H) : Option (jx_H) :=
(isO h s0 10).bind fun _ =>
(FX10_must s0 s1 (1 : Int32) h).bind fun h33 =>
if l2 = (1 : Int32) then
 (isO h33 l0 10).bind fun _ =>
 (FX10_n l0 h33).bind fun x35 =>
 if (12 : Int32) ≤ x35 then
  BX10_readStatement_53 l0 l2 l0 (0 : Int32) h33
 else
  BX10_readStatement_48 l0 l2 l0 h33
else
 BX10_readStatement_48 l0 l2 l0 h33
noncomputable def BX10_readStatement_28 (l0 : Nat) (l2 : Int32) (s0 : Nat) (h : jx_H) : Option (jx_H) :=
BX10_readStatement_29 l0 l2 s0 (0 : Int32) h
noncomputable def BX10_readStatement_24 (l0 : Nat) (l2 : Int32) (s0 : Nat) (h : jx_H) : Option (jx_H) :=
BX10_readStatement_29 l0 l2 s0 (1 : Int32) h
noncomputable def FX10_readStatement (l0 : Nat) (l1 : Int32) (h : jx_H) : Option (jx_H) :=
(isO h l0 10).bind fun _ =>
(FX10_wordHere l0 h).bind fun x39 =>
if x39 = (-1 : Int32) then
 BX10_readStatement_28 l0 x39 l0 h
else
 if x39 = (3 : Int32) then
  BX10_readStatement_28 l0 x39 l0 h
 else
  if x39 = 0 then
   if l1 = 0 then
    BX10_readStatement_28 l0 x39 l0 h
   else
    BX10_readStatement_24 l0 x39 l0 h
  else
   BX10_readStatement_24 l0 x39 l0 h
def rmX10_readStatement : Room := { frames := 8, cells := 0, slots := 0, locals := 177 }
set_option maxRecDepth 20000 in
set_option maxHeartbeats 4000000 in
theorem sX10_readStatement {l0 : Nat} {l1 : Int32} {h : jx_H} {h9 : jx_H} (e : FX10_readStatement l0 l1 h = some h9) : jx_Ct yX10_readStatement cX10_readStatement 3 none rmX10_readStatement [.ref l0, .int l1] h (fun r' h' => none = r' ∧ h9 = h') := by
  refine jx_Ct.of (own := RX10) (by decide) rfl (Nat.le_of_ble_eq_true rfl) (fun X C hq hr hL hN => ?_)
  refine jx_sub (lv' := [(0, .ref l0), (1, .int l1)]) [0, 1] rfl ?_
  have b163 : ∀ (y44 : Nat) (y45 : Nat) (y46 : Int32) (h47 : jx_H), BX10_readStatement_163 y44 y45 y46 h47 = some h9 → jx_J X 0 0 163 [(0, .ref y44)] [.int y46, .ref y45] h47 := by
    intro y44 y45 y46 h47 e
    unfold BX10_readStatement_163 at e
    refine j_iconst (v := (1 : Int32)) C dX10_readStatement_163 (by decide) ?_
    replace e := ob e
    obtain ⟨_, eo48, e⟩ := e
    replace e := ob e
    obtain ⟨h49, eh49, e⟩ := e
    refine j_callV (ci := 10) (RC := RX10) (T := TX10) (N := 38) (As := [.int y46, .int (1 : Int32)]) (b := y45) (na := 2) (st := []) (k1 := 0) (n1 := 0) C hr (sX10_must eh49) rfl eo48 kX10_192 kim_X10_must ksel_X10_must kini_X10 kc_X10_must (by decide) rfl ⟨(Nat.le_of_ble_eq_true rfl), (Nat.le_of_ble_eq_true rfl)⟩ (Nat.le_of_ble_eq_true rfl) ⟨rfl, rfl, (Nat.le_of_ble_eq_true rfl), (Nat.le_of_ble_eq_true rfl)⟩ dX10_readStatement_164 ?_
    rintro _ _ ⟨rfl, rfl⟩
    show jx_J X 0 0 167 [(0, .ref y44)] [] h49
    refine j_aload_n C dX10_readStatement_167 rfl rfl ?_
    replace e := ob e
    obtain ⟨x50, ex50, e⟩ := e
    refine j_geti (ci := 10) (RC := RX10) (T := TX10) (N := 38) 15 C rfl klX10 (Nat.le_of_ble_eq_true rfl) kX10_175 rfl dX10_readStatement_168 ex50 ?_
    refine j_if_ne (tgt := 178) C dX10_readStatement_171 (by decide) (fun c53 => ?_) (fun c53 => ?_)
    · replace e := ifn c53 e
      cases e
      exact j_vret C hq dX10_readStatement_178 ⟨Nat.le_of_ble_eq_true rfl, Nat.le_of_ble_eq_true rfl⟩ ⟨rfl, rfl⟩
    · replace e := ifp c53 e
      refine j_aload_n C dX10_readStatement_174 rfl rfl ?_
      replace e := ob e
      obtain ⟨_, eo51, e⟩ := e
      replace e := ob e
      obtain ⟨h52, eh52, e⟩ := e
      refine j_callV (ci := 10) (RC := RX10) (T := TX10) (N := 38) (As := []) (b := y44) (na := 0) (st := []) (k1 := 0) (n1 := 0) C hr (sX10_goesOn eh52) rfl eo51 kX10_185 kim_X10_goesOn ksel_X10_goesOn kini_X10 kc_X10_goesOn (by decide) rfl ⟨(Nat.le_of_ble_eq_true rfl), (Nat.le_of_ble_eq_true rfl)⟩ (Nat.le_of_ble_eq_true rfl) ⟨rfl, rfl, (Nat.le_of_ble_eq_true rfl), (Nat.le_of_ble_eq_true rfl)⟩ dX10_readStatement_175 ?_
      rintro _ _ ⟨rfl, rfl⟩
      show jx_J X 0 0 178 [(0, .ref y44)] [] h52
      cases e
      exact j_vret C hq dX10_readStatement_178 ⟨Nat.le_of_ble_eq_true rfl, Nat.le_of_ble_eq_true rfl⟩ ⟨rfl, rfl⟩
  have b149 : ∀ (y54 : Nat) (h55 : jx_H), BX10_readStatement_149 y54 h55 = some h9 → jx_J X 0 0 149 [(0, .ref y54)] [] h55 := by
    intro y54 h55 e
    unfold BX10_readStatement_149 at e
    refine j_aload_n C dX10_readStatement_149 rfl rfl ?_
    refine j_aload_n C dX10_readStatement_150 rfl rfl ?_
    replace e := ob e
    obtain ⟨x56, ex56, e⟩ := e
    refine j_geti (ci := 10) (RC := RX10) (T := TX10) (N := 38) 13 C rfl klX10 (Nat.le_of_ble_eq_true rfl) kX10_169 rfl dX10_readStatement_151 ex56 ?_
    refine j_iconst (v := (3 : Int32)) C dX10_readStatement_154 (by decide) ?_
    refine j_icmp_ne (tgt := 162) C dX10_readStatement_155 (by decide) (fun c57 => ?_) (fun c57 => ?_)
    · replace e := ifn c57 e
      refine j_iconst (v := (0 : Int32)) C dX10_readStatement_162 (by decide) ?_
      exact b163 y54 y54 (0 : Int32) h55 e
    · replace e := ifp c57 e
      refine j_iconst (v := (1 : Int32)) C dX10_readStatement_158 (by decide) ?_
      refine j_goto (tgt := 163) C dX10_readStatement_159 (by decide) ?_
      exact b163 y54 y54 (1 : Int32) h55 e
  have b79 : ∀ (y58 : Nat) (y59 : Int32) (y60 : Nat) (y61 : Int32) (h62 : jx_H), BX10_readStatement_79 y58 y59 y60 y61 h62 = some h9 → jx_J X 0 0 79 [(0, .ref y58), (2, .int y59)] [.int y61, .ref y60] h62 := by
    intro y58 y59 y60 y61 h62 e
    unfold BX10_readStatement_79 at e
    refine j_iconst (v := (3 : Int32)) C dX10_readStatement_79 (by decide) ?_
    replace e := ob e
    obtain ⟨_, eo63, e⟩ := e
    replace e := ob e
    obtain ⟨h64, eh64, e⟩ := e
    refine j_callV (ci := 10) (RC := RX10) (T := TX10) (N := 38) (As := [.int y61, .int (3 : Int32)]) (b := y60) (na := 2) (st := []) (k1 := 0) (n1 := 0) C hr (sX10_must eh64) rfl eo63 kX10_192 kim_X10_must ksel_X10_must kini_X10 kc_X10_must (by decide) rfl ⟨(Nat.le_of_ble_eq_true rfl), (Nat.le_of_ble_eq_true rfl)⟩ (Nat.le_of_ble_eq_true rfl) ⟨rfl, rfl, (Nat.le_of_ble_eq_true rfl), (Nat.le_of_ble_eq_true rfl)⟩ dX10_readStatement_80 ?_
    rintro _ _ ⟨rfl, rfl⟩
    show jx_J X 0 0 83 [(0, .ref y58), (2, .int y59)] [] h64
    refine j_aload_n C dX10_readStatement_83 rfl rfl ?_
    replace e := ob e
    obtain ⟨x65, ex65, e⟩ := e
    refine j_geti (ci := 10) (RC := RX10) (T := TX10) (N := 38) 15 C rfl klX10 (Nat.le_of_ble_eq_true rfl) kX10_175 rfl dX10_readStatement_84 ex65 ?_
    refine j_if_le (tgt := 91) C dX10_readStatement_87 (by decide) (fun c79 => ?_) (fun c79 => ?_)
    · replace e := ifp c79 e
      refine j_aload_n C dX10_readStatement_91 rfl rfl ?_
      replace e := ob e
      obtain ⟨_, eo66, e⟩ := e
      replace e := ob e
      obtain ⟨h67, eh67, e⟩ := e
      refine j_callV (ci := 10) (RC := RX10) (T := TX10) (N := 38) (As := []) (b := y58) (na := 0) (st := []) (k1 := 0) (n1 := 0) C hr (sX10_goesOn eh67) rfl eo66 kX10_185 kim_X10_goesOn ksel_X10_goesOn kini_X10 kc_X10_goesOn (by decide) rfl ⟨(Nat.le_of_ble_eq_true rfl), (Nat.le_of_ble_eq_true rfl)⟩ (Nat.le_of_ble_eq_true rfl) ⟨rfl, rfl, (Nat.le_of_ble_eq_true rfl), (Nat.le_of_ble_eq_true rfl)⟩ dX10_readStatement_92 ?_
      rintro _ _ ⟨rfl, rfl⟩
      show jx_J X 0 0 95 [(0, .ref y58), (2, .int y59)] [] h67
      refine j_iload_n C dX10_readStatement_95 rfl rfl ?_
      by_cases c68 : y59 = 0
      · replace e := ifp c68 e
        refine j_tsw (tgt := 124) C (0 : Int32) dX10_readStatement_96 c68 (by decide) (by decide) rfl (by decide) ?_
        refine j_aload_n C dX10_readStatement_124 rfl rfl ?_
        replace e := ob e
        obtain ⟨_, eo69, e⟩ := e
        replace e := ob e
        obtain ⟨h70, eh70, e⟩ := e
        refine j_callV (ci := 10) (RC := RX10) (T := TX10) (N := 38) (As := []) (b := y58) (na := 0) (st := []) (k1 := 0) (n1 := 0) C hr (sX10_readPrime eh70) rfl eo69 kX10_232 kim_X10_readPrime ksel_X10_readPrime kini_X10 kc_X10_readPrime (by decide) rfl ⟨(Nat.le_of_ble_eq_true rfl), (Nat.le_of_ble_eq_true rfl)⟩ (Nat.le_of_ble_eq_true rfl) ⟨rfl, rfl, (Nat.le_of_ble_eq_true rfl), (Nat.le_of_ble_eq_true rfl)⟩ dX10_readStatement_125 ?_
        rintro _ _ ⟨rfl, rfl⟩
        show jx_J X 0 0 128 [(0, .ref y58), (2, .int y59)] [] h70
        refine j_goto (tgt := 149) C dX10_readStatement_128 (by decide) ?_
        refine jx_sub (lv' := [(0, .ref y58)]) [0] rfl ?_
        exact b149 y58 h70 e
      replace e := ifn c68 e
      by_cases c71 : y59 = 1
      · replace e := ifp c71 e
        refine j_tsw (tgt := 131) C (1 : Int32) dX10_readStatement_96 c71 (by decide) (by decide) rfl (by decide) ?_
        refine j_aload_n C dX10_readStatement_131 rfl rfl ?_
        replace e := ob e
        obtain ⟨_, eo72, e⟩ := e
        replace e := ob e
        obtain ⟨h73, eh73, e⟩ := e
        refine j_callV (ci := 10) (RC := RX10) (T := TX10) (N := 38) (As := []) (b := y58) (na := 0) (st := []) (k1 := 0) (n1 := 0) C hr (sX10_readJoin eh73) rfl eo72 kX10_235 kim_X10_readJoin ksel_X10_readJoin kini_X10 kc_X10_readJoin (by decide) rfl ⟨(Nat.le_of_ble_eq_true rfl), (Nat.le_of_ble_eq_true rfl)⟩ (Nat.le_of_ble_eq_true rfl) ⟨rfl, rfl, (Nat.le_of_ble_eq_true rfl), (Nat.le_of_ble_eq_true rfl)⟩ dX10_readStatement_132 ?_
        rintro _ _ ⟨rfl, rfl⟩
        show jx_J X 0 0 135 [(0, .ref y58), (2, .int y59)] [] h73
        refine j_goto (tgt := 149) C dX10_readStatement_135 (by decide) ?_
        refine jx_sub (lv' := [(0, .ref y58)]) [0] rfl ?_
        exact b149 y58 h73 e
      replace e := ifn c71 e
      by_cases c74 : y59 = 2
      · replace e := ifp c74 e
        refine j_tsw (tgt := 138) C (2 : Int32) dX10_readStatement_96 c74 (by decide) (by decide) rfl (by decide) ?_
        refine j_aload_n C dX10_readStatement_138 rfl rfl ?_
        replace e := ob e
        obtain ⟨_, eo75, e⟩ := e
        replace e := ob e
        obtain ⟨h76, eh76, e⟩ := e
        refine j_callV (ci := 10) (RC := RX10) (T := TX10) (N := 38) (As := []) (b := y58) (na := 0) (st := []) (k1 := 0) (n1 := 0) C hr (sX10_readRule eh76) rfl eo75 kX10_238 kim_X10_readRule ksel_X10_readRule kini_X10 kc_X10_readRule (by decide) rfl ⟨(Nat.le_of_ble_eq_true rfl), (Nat.le_of_ble_eq_true rfl)⟩ (Nat.le_of_ble_eq_true rfl) ⟨rfl, rfl, (Nat.le_of_ble_eq_true rfl), (Nat.le_of_ble_eq_true rfl)⟩ dX10_readStatement_139 ?_
        rintro _ _ ⟨rfl, rfl⟩
        show jx_J X 0 0 142 [(0, .ref y58), (2, .int y59)] [] h76
        refine j_goto (tgt := 149) C dX10_readStatement_142 (by decide) ?_
        refine jx_sub (lv' := [(0, .ref y58)]) [0] rfl ?_
        exact b149 y58 h76 e
      replace e := ifn c74 e
      refine j_tswOut (tgt := 145) C dX10_readStatement_96 (by have gc68 := jx_sw (j := 0) (by decide) c68; have gc71 := jx_sw (j := 1) (by decide) c71; have gc74 := jx_sw (j := 2) (by decide) c74; omega) (by decide) ?_
      refine j_aload_n C dX10_readStatement_145 rfl rfl ?_
      replace e := ob e
      obtain ⟨_, eo77, e⟩ := e
      replace e := ob e
      obtain ⟨h78, eh78, e⟩ := e
      refine j_callV (ci := 10) (RC := RX10) (T := TX10) (N := 38) (As := []) (b := y58) (na := 0) (st := []) (k1 := 0) (n1 := 0) C hr (sX10_readPoint eh78) rfl eo77 kX10_241 kim_X10_readPoint ksel_X10_readPoint kini_X10 kc_X10_readPoint (by decide) rfl ⟨(Nat.le_of_ble_eq_true rfl), (Nat.le_of_ble_eq_true rfl)⟩ (Nat.le_of_ble_eq_true rfl) ⟨rfl, rfl, (Nat.le_of_ble_eq_true rfl), (Nat.le_of_ble_eq_true rfl)⟩ dX10_readStatement_146 ?_
      rintro _ _ ⟨rfl, rfl⟩
      show jx_J X 0 0 149 [(0, .ref y58), (2, .int y59)] [] h78
      refine jx_sub (lv' := [(0, .ref y58)]) [0] rfl ?_
      exact b149 y58 h78 e
    · replace e := ifn c79 e
      cases e
      exact j_vret C hq dX10_readStatement_90 ⟨Nat.le_of_ble_eq_true rfl, Nat.le_of_ble_eq_true rfl⟩ ⟨rfl, rfl⟩
  have b74 : ∀ (y80 : Nat) (y81 : Int32) (y82 : Nat) (h83 : jx_H), BX10_readStatement_74 y80 y81 y82 h83 = some h9 → jx_J X 0 0 74 [(0, .ref y80), (2, .int y81)] [.ref y82] h83 := by
    intro y80 y81 y82 h83 e
    unfold BX10_readStatement_74 at e
    refine j_iconst (v := (1 : Int32)) C dX10_readStatement_74 (by decide) ?_
    refine j_goto (tgt := 79) C dX10_readStatement_75 (by decide) ?_
    exact b79 y80 y81 y82 (1 : Int32) h83 e
  have b53 : ∀ (y84 : Nat) (y85 : Int32) (y86 : Nat) (y87 : Int32) (h88 : jx_H), BX10_readStatement_53 y84 y85 y86 y87 h88 = some h9 → jx_J X 0 0 53 [(0, .ref y84), (2, .int y85)] [.int y87, .ref y86] h88 := by
    intro y84 y85 y86 y87 h88 e
    unfold BX10_readStatement_53 at e
    refine j_iconst (v := (3 : Int32)) C dX10_readStatement_53 (by decide) ?_
    replace e := ob e
    obtain ⟨_, eo89, e⟩ := e
    replace e := ob e
    obtain ⟨h90, eh90, e⟩ := e
    refine j_callV (ci := 10) (RC := RX10) (T := TX10) (N := 38) (As := [.int y87, .int (3 : Int32)]) (b := y86) (na := 2) (st := []) (k1 := 0) (n1 := 0) C hr (sX10_must eh90) rfl eo89 kX10_192 kim_X10_must ksel_X10_must kini_X10 kc_X10_must (by decide) rfl ⟨(Nat.le_of_ble_eq_true rfl), (Nat.le_of_ble_eq_true rfl)⟩ (Nat.le_of_ble_eq_true rfl) ⟨rfl, rfl, (Nat.le_of_ble_eq_true rfl), (Nat.le_of_ble_eq_true rfl)⟩ dX10_readStatement_54 ?_
    rintro _ _ ⟨rfl, rfl⟩
    show jx_J X 0 0 57 [(0, .ref y84), (2, .int y85)] [] h90
    refine j_aload_n C dX10_readStatement_57 rfl rfl ?_
    refine j_iload_n C dX10_readStatement_58 rfl rfl ?_
    refine j_iconst (v := (4 : Int32)) C dX10_readStatement_59 (by decide) ?_
    refine j_icmp_ne (tgt := 74) C dX10_readStatement_60 (by decide) (fun c94 => ?_) (fun c94 => ?_)
    · replace e := ifn c94 e
      exact b74 y84 y85 y84 h90 e
    · replace e := ifp c94 e
      refine j_aload_n C dX10_readStatement_63 rfl rfl ?_
      replace e := ob e
      obtain ⟨x91, ex91, e⟩ := e
      refine j_getr (ci := 10) (RC := RX10) (T := TX10) (N := 38) 1 C rfl klX10 (Nat.le_of_ble_eq_true rfl) kX10_7 rfl dX10_readStatement_64 ex91 ?_
      refine j_iconst (v := (3 : Int32)) C dX10_readStatement_67 (by decide) ?_
      replace e := ob e
      obtain ⟨x92, ex92, e⟩ := e
      refine j_iald C dX10_readStatement_68 ex92 ?_
      refine j_bipush (v := (12 : Int32)) C dX10_readStatement_69 (by decide) ?_
      refine j_icmp_ge (tgt := 78) C dX10_readStatement_71 (by decide) (fun c93 => ?_) (fun c93 => ?_)
      · replace e := ifp c93 e
        refine j_iconst (v := (0 : Int32)) C dX10_readStatement_78 (by decide) ?_
        exact b79 y84 y85 y84 (0 : Int32) h90 e
      · replace e := ifn c93 e
        exact b74 y84 y85 y84 h90 e
  have b48 : ∀ (y95 : Nat) (y96 : Int32) (y97 : Nat) (h98 : jx_H), BX10_readStatement_48 y95 y96 y97 h98 = some h9 → jx_J X 0 0 48 [(0, .ref y95), (2, .int y96)] [.ref y97] h98 := by
    intro y95 y96 y97 h98 e
    unfold BX10_readStatement_48 at e
    refine j_iconst (v := (1 : Int32)) C dX10_readStatement_48 (by decide) ?_
    refine j_goto (tgt := 53) C dX10_readStatement_49 (by decide) ?_
    exact b53 y95 y96 y97 (1 : Int32) h98 e
  have b29 : ∀ (y99 : Nat) (y100 : Int32) (y101 : Nat) (y102 : Int32) (h103 : jx_H), BX10_readStatement_29 y99 y100 y101 y102 h103 = some h9 → jx_J X 0 0 29 [(0, .ref y99), (2, .int y100)] [.int y102, .ref y101] h103 := by
    intro y99 y100 y101 y102 h103 e
    unfold BX10_readStatement_29 at e
    refine j_iconst (v := (1 : Int32)) C dX10_readStatement_29 (by decide) ?_
    replace e := ob e
    obtain ⟨_, eo104, e⟩ := e
    replace e := ob e
    obtain ⟨h105, eh105, e⟩ := e
    refine j_callV (ci := 10) (RC := RX10) (T := TX10) (N := 38) (As := [.int y102, .int (1 : Int32)]) (b := y101) (na := 2) (st := []) (k1 := 0) (n1 := 0) C hr (sX10_must eh105) rfl eo104 kX10_192 kim_X10_must ksel_X10_must kini_X10 kc_X10_must (by decide) rfl ⟨(Nat.le_of_ble_eq_true rfl), (Nat.le_of_ble_eq_true rfl)⟩ (Nat.le_of_ble_eq_true rfl) ⟨rfl, rfl, (Nat.le_of_ble_eq_true rfl), (Nat.le_of_ble_eq_true rfl)⟩ dX10_readStatement_30 ?_
    rintro _ _ ⟨rfl, rfl⟩
    show jx_J X 0 0 33 [(0, .ref y99), (2, .int y100)] [] h105
    refine j_aload_n C dX10_readStatement_33 rfl rfl ?_
    refine j_iload_n C dX10_readStatement_34 rfl rfl ?_
    refine j_iconst (v := (1 : Int32)) C dX10_readStatement_35 (by decide) ?_
    refine j_icmp_ne (tgt := 48) C dX10_readStatement_36 (by decide) (fun c109 => ?_) (fun c109 => ?_)
    · replace e := ifn c109 e
      exact b48 y99 y100 y99 h105 e
    · replace e := ifp c109 e
      refine j_aload_n C dX10_readStatement_39 rfl rfl ?_
      replace e := ob e
      obtain ⟨_, eo106, e⟩ := e
      replace e := ob e
      obtain ⟨x107, ex107, e⟩ := e
      refine j_callV (ci := 10) (RC := RX10) (T := TX10) (N := 38) (As := []) (b := y99) (na := 0) (st := [.ref y99]) (k1 := 0) (n1 := 0) C hr (sX10_n ex107) rfl eo106 kX10_105 kim_X10_n ksel_X10_n kini_X10 kc_X10_n (by decide) rfl ⟨(Nat.le_of_ble_eq_true rfl), (Nat.le_of_ble_eq_true rfl)⟩ (Nat.le_of_ble_eq_true rfl) ⟨rfl, rfl, (Nat.le_of_ble_eq_true rfl), (Nat.le_of_ble_eq_true rfl)⟩ dX10_readStatement_40 ?_
      rintro _ _ ⟨rfl, rfl⟩
      show jx_J X 0 0 43 [(0, .ref y99), (2, .int y100)] [.int x107, .ref y99] h105
      refine j_bipush (v := (12 : Int32)) C dX10_readStatement_43 (by decide) ?_
      refine j_icmp_ge (tgt := 52) C dX10_readStatement_45 (by decide) (fun c108 => ?_) (fun c108 => ?_)
      · replace e := ifp c108 e
        refine j_iconst (v := (0 : Int32)) C dX10_readStatement_52 (by decide) ?_
        exact b53 y99 y100 y99 (0 : Int32) h105 e
      · replace e := ifn c108 e
        exact b48 y99 y100 y99 h105 e
  have b28 : ∀ (y110 : Nat) (y111 : Int32) (y112 : Nat) (h113 : jx_H), BX10_readStatement_28 y110 y111 y112 h113 = some h9 → jx_J X 0 0 28 [(0, .ref y110), (2, .int y111)] [.ref y112] h113 := by
    intro y110 y111 y112 h113 e
    unfold BX10_readStatement_28 at e
    refine j_iconst (v := (0 : Int32)) C dX10_readStatement_28 (by decide) ?_
    exact b29 y110 y111 y112 (0 : Int32) h113 e
  have b24 : ∀ (y114 : Nat) (y115 : Int32) (y116 : Nat) (h117 : jx_H), BX10_readStatement_24 y114 y115 y116 h117 = some h9 → jx_J X 0 0 24 [(0, .ref y114), (2, .int y115)] [.ref y116] h117 := by
    intro y114 y115 y116 h117 e
    unfold BX10_readStatement_24 at e
    refine j_iconst (v := (1 : Int32)) C dX10_readStatement_24 (by decide) ?_
    refine j_goto (tgt := 29) C dX10_readStatement_25 (by decide) ?_
    exact b29 y114 y115 y116 (1 : Int32) h117 e
  unfold FX10_readStatement at e
  refine j_aload_n C dX10_readStatement_0 rfl rfl ?_
  replace e := ob e
  obtain ⟨_, eo118, e⟩ := e
  replace e := ob e
  obtain ⟨x119, ex119, e⟩ := e
  refine j_callV (ci := 10) (RC := RX10) (T := TX10) (N := 38) (As := []) (b := l0) (na := 0) (st := []) (k1 := 0) (n1 := 0) C hr (sX10_wordHere ex119) rfl eo118 kX10_214 kim_X10_wordHere ksel_X10_wordHere kini_X10 kc_X10_wordHere (by decide) rfl ⟨(Nat.le_of_ble_eq_true rfl), (Nat.le_of_ble_eq_true rfl)⟩ (Nat.le_of_ble_eq_true rfl) ⟨rfl, rfl, (Nat.le_of_ble_eq_true rfl), (Nat.le_of_ble_eq_true rfl)⟩ dX10_readStatement_1 ?_
  rintro _ _ ⟨rfl, rfl⟩
  show jx_J X 0 0 4 [(0, .ref l0), (1, .int l1)] [.int x119] h
  refine j_istore_n (lv1 := [(2, .int x119), (0, .ref l0), (1, .int l1)]) C hL dX10_readStatement_4 rfl (Nat.le_of_ble_eq_true rfl) rfl ?_
  refine j_aload_n C dX10_readStatement_5 rfl rfl ?_
  refine j_iload_n C dX10_readStatement_6 rfl rfl ?_
  refine j_iconst (v := (-1 : Int32)) C dX10_readStatement_7 (by decide) ?_
  refine j_icmp_eq (tgt := 28) C dX10_readStatement_8 (by decide) (fun c123 => ?_) (fun c123 => ?_)
  · replace e := ifp c123 e
    refine jx_sub (lv' := [(0, .ref l0), (2, .int x119)]) [1, 0] rfl ?_
    exact b28 l0 x119 l0 h e
  · replace e := ifn c123 e
    refine j_iload_n C dX10_readStatement_11 rfl rfl ?_
    refine j_iconst (v := (3 : Int32)) C dX10_readStatement_12 (by decide) ?_
    refine j_icmp_eq (tgt := 28) C dX10_readStatement_13 (by decide) (fun c122 => ?_) (fun c122 => ?_)
    · replace e := ifp c122 e
      refine jx_sub (lv' := [(0, .ref l0), (2, .int x119)]) [1, 0] rfl ?_
      exact b28 l0 x119 l0 h e
    · replace e := ifn c122 e
      refine j_iload_n C dX10_readStatement_16 rfl rfl ?_
      refine j_if_ne (tgt := 24) C dX10_readStatement_17 (by decide) (fun c121 => ?_) (fun c121 => ?_)
      · replace e := ifn c121 e
        refine jx_sub (lv' := [(0, .ref l0), (2, .int x119)]) [1, 0] rfl ?_
        exact b24 l0 x119 l0 h e
      · replace e := ifp c121 e
        refine j_iload_n C dX10_readStatement_20 rfl rfl ?_
        refine j_if_eq (tgt := 28) C dX10_readStatement_21 (by decide) (fun c120 => ?_) (fun c120 => ?_)
        · replace e := ifp c120 e
          refine jx_sub (lv' := [(0, .ref l0), (2, .int x119)]) [1, 0] rfl ?_
          exact b28 l0 x119 l0 h e
        · replace e := ifn c120 e
          refine jx_sub (lv' := [(0, .ref l0), (2, .int x119)]) [1, 0] rfl ?_
          exact b24 l0 x119 l0 h e
/-! BorderBasisModel.opensText()V -/
noncomputable def FX10_opensText (l0 : Nat) (h : jx_H) : Option (jx_H) :=
(hp h l0 10 11 (.int (0 : Int32))).bind fun h1 =>
(hp h1 l0 10 15 (.int (0 : Int32))).bind fun h2 =>
(hp h2 l0 10 16 (.int (-1 : Int32))).bind fun h3 =>
(isO h3 l0 10).bind fun _ =>
(FX10_goesOn l0 h3).bind fun h5 =>
some h5
def rmX10_opensText : Room := { frames := 3, cells := 0, slots := 0, locals := 62 }
set_option maxRecDepth 20000 in
set_option maxHeartbeats 4000000 in
theorem sX10_opensText {l0 : Nat} {h : jx_H} {h9 : jx_H} (e : FX10_opensText l0 h = some h9) : jx_Ct yX10_opensText cX10_opensText 1 none rmX10_opensText [.ref l0] h (fun r' h' => none = r' ∧ h9 = h') := by
  refine jx_Ct.of (own := RX10) (by decide) rfl (Nat.le_of_ble_eq_true rfl) (fun X C hq hr hL hN => ?_)
  refine jx_sub (lv' := [(0, .ref l0)]) [0] rfl ?_
  unfold FX10_opensText at e
  refine j_aload_n C dX10_opensText_0 rfl rfl ?_
  refine j_iconst (v := (0 : Int32)) C dX10_opensText_1 (by decide) ?_
  replace e := ob e
  obtain ⟨h6, eh6, e⟩ := e
  refine j_put (ci := 10) (RC := RX10) (T := TX10) (N := 38) (ty0 := tyX10) 11 C rfl klX10 tyX10_ok nmX10 (Nat.le_of_ble_eq_true rfl) kX10_149 rfl rfl rfl rfl dX10_opensText_2 eh6 ?_
  refine j_aload_n C dX10_opensText_5 rfl rfl ?_
  refine j_iconst (v := (0 : Int32)) C dX10_opensText_6 (by decide) ?_
  replace e := ob e
  obtain ⟨h7, eh7, e⟩ := e
  refine j_put (ci := 10) (RC := RX10) (T := TX10) (N := 38) (ty0 := tyX10) 15 C rfl klX10 tyX10_ok nmX10 (Nat.le_of_ble_eq_true rfl) kX10_175 rfl rfl rfl rfl dX10_opensText_7 eh7 ?_
  refine j_aload_n C dX10_opensText_10 rfl rfl ?_
  refine j_iconst (v := (-1 : Int32)) C dX10_opensText_11 (by decide) ?_
  replace e := ob e
  obtain ⟨h8, eh8, e⟩ := e
  refine j_put (ci := 10) (RC := RX10) (T := TX10) (N := 38) (ty0 := tyX10) 16 C rfl klX10 tyX10_ok nmX10 (Nat.le_of_ble_eq_true rfl) kX10_36 rfl rfl rfl rfl dX10_opensText_12 eh8 ?_
  refine j_aload_n C dX10_opensText_15 rfl rfl ?_
  replace e := ob e
  obtain ⟨_, eo9, e⟩ := e
  replace e := ob e
  obtain ⟨h10, eh10, e⟩ := e
  refine j_callV (ci := 10) (RC := RX10) (T := TX10) (N := 38) (As := []) (b := l0) (na := 0) (st := []) (k1 := 0) (n1 := 0) C hr (sX10_goesOn eh10) rfl eo9 kX10_185 kim_X10_goesOn ksel_X10_goesOn kini_X10 kc_X10_goesOn (by decide) rfl ⟨(Nat.le_of_ble_eq_true rfl), (Nat.le_of_ble_eq_true rfl)⟩ (Nat.le_of_ble_eq_true rfl) ⟨rfl, rfl, (Nat.le_of_ble_eq_true rfl), (Nat.le_of_ble_eq_true rfl)⟩ dX10_opensText_16 ?_
  rintro _ _ ⟨rfl, rfl⟩
  show jx_J X 0 0 19 [(0, .ref l0)] [] h10
  cases e
  exact j_vret C hq dX10_opensText_19 ⟨Nat.le_of_ble_eq_true rfl, Nat.le_of_ble_eq_true rfl⟩ ⟨rfl, rfl⟩
/-! BorderBasisModel.load()I -/
noncomputable def LX10_load_86 (l0 : Nat) (l2 : Int32) (h : jx_H) : Option ((Int32 × jx_H) ⊕ (Int32 × jx_H)) :=
if (6 : Int32) ≤ l2 then
 exL ((isO h l0 10).bind fun _ =>
 (FX10_n l0 h).bind fun x6 =>
 some (x6, h))
else
 (hgr h l0 10 8).bind fun x7 =>
 (has h .int x7 l2 (0 : Int32)).bind fun h8 =>
 some (.inl ((l2 + (1 : Int32)), h8))
noncomputable def BX10_load_47 (l0 : Nat) (h : jx_H) : Option (Int32 × jx_H) :=
(hp h l0 10 10 (.int (0 : Int32))).bind fun h1 =>
(hp h1 l0 10 0 (.int (0 : Int32))).bind fun h2 =>
(hgi h2 l0 10 15).bind fun x3 =>
if x3 ≤ 0 then
 (hp h2 l0 10 5 (.int (0 : Int32))).bind fun h4 =>
 itr (fun s : Int32 × jx_H => LX10_load_86 l0 s.1 s.2) ((0 : Int32), h4)
else
 (hgr h2 l0 10 2).bind fun x10 =>
 (hgr h2 l0 10 1).bind fun x11 =>
 (FX10_copies x10 (0 : Int32) x11 (0 : Int32) h2).bind fun h12 =>
 some ((-1 : Int32), h12)
noncomputable def LX10_load_23 (l0 : Nat) (l1 : Int32) (h : jx_H) : Option ((Int32 × jx_H) ⊕ (Int32 × jx_H)) :=
(hgi h l0 10 15).bind fun x21 =>
if x21 = 0 then
 (hgi h l0 10 13).bind fun x22 =>
 if x22 = 0 then
  exL (BX10_load_47 l0 h)
 else
  (isO h l0 10).bind fun _ =>
  (FX10_readStatement l0 l1 h).bind fun h24 =>
  some (.inl ((0 : Int32), h24))
else
 exL (BX10_load_47 l0 h)
noncomputable def FX10_load (l0 : Nat) (h : jx_H) : Option (Int32 × jx_H) :=
(hgr h l0 10 1).bind fun x14 =>
(hgr h l0 10 2).bind fun x15 =>
(FX10_copies x14 (0 : Int32) x15 (0 : Int32) h).bind fun h16 =>
(isO h16 l0 10).bind fun _ =>
(FX10_begins l0 h16).bind fun h18 =>
(isO h18 l0 10).bind fun _ =>
(FX10_opensText l0 h18).bind fun h20 =>
itr (fun s : Int32 × jx_H => LX10_load_23 l0 s.1 s.2) ((1 : Int32), h20)
def rmX10_load : Room := { frames := 9, cells := 0, slots := 0, locals := 199 }
set_option maxRecDepth 20000 in
set_option maxHeartbeats 4000000 in
theorem sX10_load {l0 : Nat} {h : jx_H} {r : Int32} {h9 : jx_H} (e : FX10_load l0 h = some (r, h9)) : jx_Ct yX10_load cX10_load 3 (some .int) rmX10_load [.ref l0] h (fun r' h' => some (.int r) = r' ∧ h9 = h') := by
  refine jx_Ct.of (own := RX10) (by decide) rfl (Nat.le_of_ble_eq_true rfl) (fun X C hq hr hL hN => ?_)
  refine jx_sub (lv' := [(0, .ref l0)]) [0] rfl ?_
  have b47 : ∀ (y27 : Nat) (h28 : jx_H), BX10_load_47 y27 h28 = some (r, h9) → jx_J X 0 0 47 [(0, .ref y27)] [] h28 := by
    intro y27 h28 e
    unfold BX10_load_47 at e
    refine j_aload_n C dX10_load_47 rfl rfl ?_
    refine j_iconst (v := (0 : Int32)) C dX10_load_48 (by decide) ?_
    replace e := ob e
    obtain ⟨h29, eh29, e⟩ := e
    refine j_put (ci := 10) (RC := RX10) (T := TX10) (N := 38) (ty0 := tyX10) 10 C rfl klX10 tyX10_ok nmX10 (Nat.le_of_ble_eq_true rfl) kX10_146 rfl rfl rfl rfl dX10_load_49 eh29 ?_
    refine j_aload_n C dX10_load_52 rfl rfl ?_
    refine j_iconst (v := (0 : Int32)) C dX10_load_53 (by decide) ?_
    replace e := ob e
    obtain ⟨h30, eh30, e⟩ := e
    refine j_put (ci := 10) (RC := RX10) (T := TX10) (N := 38) (ty0 := tyX10) 0 C rfl klX10 tyX10_ok nmX10 (Nat.le_of_ble_eq_true rfl) kX10_91 rfl rfl rfl rfl dX10_load_54 eh30 ?_
    refine j_aload_n C dX10_load_57 rfl rfl ?_
    replace e := ob e
    obtain ⟨x31, ex31, e⟩ := e
    refine j_geti (ci := 10) (RC := RX10) (T := TX10) (N := 38) 15 C rfl klX10 (Nat.le_of_ble_eq_true rfl) kX10_175 rfl dX10_load_58 ex31 ?_
    refine j_if_le (tgt := 79) C dX10_load_61 (by decide) (fun c43 => ?_) (fun c43 => ?_)
    · replace e := ifp c43 e
      refine j_aload_n C dX10_load_79 rfl rfl ?_
      refine j_iconst (v := (0 : Int32)) C dX10_load_80 (by decide) ?_
      replace e := ob e
      obtain ⟨h32, eh32, e⟩ := e
      refine j_put (ci := 10) (RC := RX10) (T := TX10) (N := 38) (ty0 := tyX10) 5 C rfl klX10 tyX10_ok nmX10 (Nat.le_of_ble_eq_true rfl) kX10_251 rfl rfl rfl rfl dX10_load_81 eh32 ?_
      refine j_iconst (v := (0 : Int32)) C dX10_load_84 (by decide) ?_
      refine j_istore_n (lv1 := [(2, .int (0 : Int32)), (0, .ref y27)]) C hL dX10_load_85 rfl (Nat.le_of_ble_eq_true rfl) rfl ?_
      refine jx_sub (lv' := [(0, .ref y27), (2, .int (0 : Int32))]) [1, 0] rfl ?_
      refine itr_ind (s0 := ((0 : Int32), h32)) (fun s : Int32 × jx_H => jx_J X 0 0 86 [(0, .ref y27), (2, .int s.1)] [] s.2) e ?_
      clear e
      intro s kI4 kT4 e0
      obtain ⟨z33, h34⟩ := s
      obtain ⟨u4, e0_4⟩ := e0
      have e : LX10_load_86 y27 z33 h34 = some u4 := e0_4
      unfold LX10_load_86 at e
      refine j_iload_n C dX10_load_86 rfl rfl ?_
      refine j_bipush (v := (6 : Int32)) C dX10_load_87 (by decide) ?_
      refine j_icmp_ge (tgt := 105) C dX10_load_89 (by decide) (fun c39 => ?_) (fun c39 => ?_)
      · replace e := ifp c39 e
        obtain ⟨t_5, e_5, eu_5⟩ := exL_spec e
        obtain rfl := kT4 t_5 (e0_4.trans (congrArg some eu_5))
        replace e := e_5
        refine j_aload_n C dX10_load_105 rfl rfl ?_
        replace e := ob e
        obtain ⟨_, eo35, e⟩ := e
        replace e := ob e
        obtain ⟨x36, ex36, e⟩ := e
        refine j_callV (ci := 10) (RC := RX10) (T := TX10) (N := 38) (As := []) (b := y27) (na := 0) (st := []) (k1 := 0) (n1 := 0) C hr (sX10_n ex36) rfl eo35 kX10_105 kim_X10_n ksel_X10_n kini_X10 kc_X10_n (by decide) rfl ⟨(Nat.le_of_ble_eq_true rfl), (Nat.le_of_ble_eq_true rfl)⟩ (Nat.le_of_ble_eq_true rfl) ⟨rfl, rfl, (Nat.le_of_ble_eq_true rfl), (Nat.le_of_ble_eq_true rfl)⟩ dX10_load_106 ?_
        rintro _ _ ⟨rfl, rfl⟩
        show jx_J X 0 0 109 [(0, .ref y27), (2, .int z33)] [.int x36] h34
        cases e
        exact j_iret C hq rfl dX10_load_109 ⟨Nat.le_of_ble_eq_true rfl, Nat.le_of_ble_eq_true rfl⟩ ⟨rfl, rfl⟩
      · replace e := ifn c39 e
        refine j_aload_n C dX10_load_92 rfl rfl ?_
        replace e := ob e
        obtain ⟨x37, ex37, e⟩ := e
        refine j_getr (ci := 10) (RC := RX10) (T := TX10) (N := 38) 8 C rfl klX10 (Nat.le_of_ble_eq_true rfl) kX10_29 rfl dX10_load_93 ex37 ?_
        refine j_iload_n C dX10_load_96 rfl rfl ?_
        refine j_iconst (v := (0 : Int32)) C dX10_load_97 (by decide) ?_
        replace e := ob e
        obtain ⟨h38, eh38, e⟩ := e
        refine j_iast C dX10_load_98 eh38 ?_
        refine j_iinc (v := (z33 + (1 : Int32))) (lv1 := [(2, .int (z33 + (1 : Int32))), (0, .ref y27)]) C hL dX10_load_99 rfl rfl (Nat.le_of_ble_eq_true rfl) rfl ?_
        refine j_goto (tgt := 86) C dX10_load_102 (by decide) ?_
        obtain rfl := Option.some.inj e
        refine jx_sub (lv' := [(0, .ref y27), (2, .int (z33 + (1 : Int32)))]) [1, 0] rfl ?_
        exact kI4 ((z33 + (1 : Int32)), h38) e0_4
    · replace e := ifn c43 e
      refine j_aload_n C dX10_load_64 rfl rfl ?_
      replace e := ob e
      obtain ⟨x40, ex40, e⟩ := e
      refine j_getr (ci := 10) (RC := RX10) (T := TX10) (N := 38) 2 C rfl klX10 (Nat.le_of_ble_eq_true rfl) kX10_13 rfl dX10_load_65 ex40 ?_
      refine j_iconst (v := (0 : Int32)) C dX10_load_68 (by decide) ?_
      refine j_aload_n C dX10_load_69 rfl rfl ?_
      replace e := ob e
      obtain ⟨x41, ex41, e⟩ := e
      refine j_getr (ci := 10) (RC := RX10) (T := TX10) (N := 38) 1 C rfl klX10 (Nat.le_of_ble_eq_true rfl) kX10_7 rfl dX10_load_70 ex41 ?_
      refine j_iconst (v := (0 : Int32)) C dX10_load_73 (by decide) ?_
      replace e := ob e
      obtain ⟨h42, eh42, e⟩ := e
      refine j_callS (As := [.ref x40, .int (0 : Int32), .ref x41, .int (0 : Int32)]) (na := 4) (st := []) (k1 := 0) (n1 := 0) C hr (sX10_copies eh42) kX10_136 kst_X10_copies kini_X10 kc_X10_copies (by decide) rfl ⟨(Nat.le_of_ble_eq_true rfl), (Nat.le_of_ble_eq_true rfl)⟩ (Nat.le_of_ble_eq_true rfl) ⟨rfl, rfl, (Nat.le_of_ble_eq_true rfl), (Nat.le_of_ble_eq_true rfl)⟩ dX10_load_74 ?_
      rintro _ _ ⟨rfl, rfl⟩
      show jx_J X 0 0 77 [(0, .ref y27)] [] h42
      refine j_iconst (v := (-1 : Int32)) C dX10_load_77 (by decide) ?_
      cases e
      exact j_iret C hq rfl dX10_load_78 ⟨Nat.le_of_ble_eq_true rfl, Nat.le_of_ble_eq_true rfl⟩ ⟨rfl, rfl⟩
  unfold FX10_load at e
  refine j_aload_n C dX10_load_0 rfl rfl ?_
  replace e := ob e
  obtain ⟨x44, ex44, e⟩ := e
  refine j_getr (ci := 10) (RC := RX10) (T := TX10) (N := 38) 1 C rfl klX10 (Nat.le_of_ble_eq_true rfl) kX10_7 rfl dX10_load_1 ex44 ?_
  refine j_iconst (v := (0 : Int32)) C dX10_load_4 (by decide) ?_
  refine j_aload_n C dX10_load_5 rfl rfl ?_
  replace e := ob e
  obtain ⟨x45, ex45, e⟩ := e
  refine j_getr (ci := 10) (RC := RX10) (T := TX10) (N := 38) 2 C rfl klX10 (Nat.le_of_ble_eq_true rfl) kX10_13 rfl dX10_load_6 ex45 ?_
  refine j_iconst (v := (0 : Int32)) C dX10_load_9 (by decide) ?_
  replace e := ob e
  obtain ⟨h46, eh46, e⟩ := e
  refine j_callS (As := [.ref x44, .int (0 : Int32), .ref x45, .int (0 : Int32)]) (na := 4) (st := []) (k1 := 0) (n1 := 0) C hr (sX10_copies eh46) kX10_136 kst_X10_copies kini_X10 kc_X10_copies (by decide) rfl ⟨(Nat.le_of_ble_eq_true rfl), (Nat.le_of_ble_eq_true rfl)⟩ (Nat.le_of_ble_eq_true rfl) ⟨rfl, rfl, (Nat.le_of_ble_eq_true rfl), (Nat.le_of_ble_eq_true rfl)⟩ dX10_load_10 ?_
  rintro _ _ ⟨rfl, rfl⟩
  show jx_J X 0 0 13 [(0, .ref l0)] [] h46
  refine j_aload_n C dX10_load_13 rfl rfl ?_
  replace e := ob e
  obtain ⟨_, eo47, e⟩ := e
  replace e := ob e
  obtain ⟨h48, eh48, e⟩ := e
  refine j_callV (ci := 10) (RC := RX10) (T := TX10) (N := 38) (As := []) (b := l0) (na := 0) (st := []) (k1 := 0) (n1 := 0) C hr (sX10_begins eh48) rfl eo47 kX10_88 kim_X10_begins ksel_X10_begins kini_X10 kc_X10_begins (by decide) rfl ⟨(Nat.le_of_ble_eq_true rfl), (Nat.le_of_ble_eq_true rfl)⟩ (Nat.le_of_ble_eq_true rfl) ⟨rfl, rfl, (Nat.le_of_ble_eq_true rfl), (Nat.le_of_ble_eq_true rfl)⟩ dX10_load_14 ?_
  rintro _ _ ⟨rfl, rfl⟩
  show jx_J X 0 0 17 [(0, .ref l0)] [] h48
  refine j_aload_n C dX10_load_17 rfl rfl ?_
  replace e := ob e
  obtain ⟨_, eo49, e⟩ := e
  replace e := ob e
  obtain ⟨h50, eh50, e⟩ := e
  refine j_callV (ci := 10) (RC := RX10) (T := TX10) (N := 38) (As := []) (b := l0) (na := 0) (st := []) (k1 := 0) (n1 := 0) C hr (sX10_opensText eh50) rfl eo49 kX10_244 kim_X10_opensText ksel_X10_opensText kini_X10 kc_X10_opensText (by decide) rfl ⟨(Nat.le_of_ble_eq_true rfl), (Nat.le_of_ble_eq_true rfl)⟩ (Nat.le_of_ble_eq_true rfl) ⟨rfl, rfl, (Nat.le_of_ble_eq_true rfl), (Nat.le_of_ble_eq_true rfl)⟩ dX10_load_18 ?_
  rintro _ _ ⟨rfl, rfl⟩
  show jx_J X 0 0 21 [(0, .ref l0)] [] h50
  refine j_iconst (v := (1 : Int32)) C dX10_load_21 (by decide) ?_
  refine j_istore_n (lv1 := [(1, .int (1 : Int32)), (0, .ref l0)]) C hL dX10_load_22 rfl (Nat.le_of_ble_eq_true rfl) rfl ?_
  refine jx_sub (lv' := [(0, .ref l0), (1, .int (1 : Int32))]) [1, 0] rfl ?_
  refine itr_ind (s0 := ((1 : Int32), h50)) (fun s : Int32 × jx_H => jx_J X 0 0 23 [(0, .ref l0), (1, .int s.1)] [] s.2) e ?_
  clear e
  intro s kI6 kT6 e0
  obtain ⟨z51, h52⟩ := s
  obtain ⟨u6, e0_6⟩ := e0
  have e : LX10_load_23 l0 z51 h52 = some u6 := e0_6
  unfold LX10_load_23 at e
  refine j_aload_n C dX10_load_23 rfl rfl ?_
  replace e := ob e
  obtain ⟨x53, ex53, e⟩ := e
  refine j_geti (ci := 10) (RC := RX10) (T := TX10) (N := 38) 15 C rfl klX10 (Nat.le_of_ble_eq_true rfl) kX10_175 rfl dX10_load_24 ex53 ?_
  refine j_if_ne (tgt := 47) C dX10_load_27 (by decide) (fun c58 => ?_) (fun c58 => ?_)
  · replace e := ifn c58 e
    obtain ⟨t_7, e_7, eu_7⟩ := exL_spec e
    obtain rfl := kT6 t_7 (e0_6.trans (congrArg some eu_7))
    replace e := e_7
    refine jx_sub (lv' := [(0, .ref l0)]) [0] rfl ?_
    exact b47 l0 h52 e
  · replace e := ifp c58 e
    refine j_aload_n C dX10_load_30 rfl rfl ?_
    replace e := ob e
    obtain ⟨x54, ex54, e⟩ := e
    refine j_geti (ci := 10) (RC := RX10) (T := TX10) (N := 38) 13 C rfl klX10 (Nat.le_of_ble_eq_true rfl) kX10_169 rfl dX10_load_31 ex54 ?_
    refine j_if_eq (tgt := 47) C dX10_load_34 (by decide) (fun c57 => ?_) (fun c57 => ?_)
    · replace e := ifp c57 e
      obtain ⟨t_8, e_8, eu_8⟩ := exL_spec e
      obtain rfl := kT6 t_8 (e0_6.trans (congrArg some eu_8))
      replace e := e_8
      refine jx_sub (lv' := [(0, .ref l0)]) [0] rfl ?_
      exact b47 l0 h52 e
    · replace e := ifn c57 e
      refine j_aload_n C dX10_load_37 rfl rfl ?_
      refine j_iload_n C dX10_load_38 rfl rfl ?_
      replace e := ob e
      obtain ⟨_, eo55, e⟩ := e
      replace e := ob e
      obtain ⟨h56, eh56, e⟩ := e
      refine j_callV (ci := 10) (RC := RX10) (T := TX10) (N := 38) (As := [.int z51]) (b := l0) (na := 1) (st := []) (k1 := 0) (n1 := 0) C hr (sX10_readStatement eh56) rfl eo55 kX10_247 kim_X10_readStatement ksel_X10_readStatement kini_X10 kc_X10_readStatement (by decide) rfl ⟨(Nat.le_of_ble_eq_true rfl), (Nat.le_of_ble_eq_true rfl)⟩ (Nat.le_of_ble_eq_true rfl) ⟨rfl, rfl, (Nat.le_of_ble_eq_true rfl), (Nat.le_of_ble_eq_true rfl)⟩ dX10_load_39 ?_
      rintro _ _ ⟨rfl, rfl⟩
      show jx_J X 0 0 42 [(0, .ref l0), (1, .int z51)] [] h56
      refine j_iconst (v := (0 : Int32)) C dX10_load_42 (by decide) ?_
      refine j_istore_n (lv1 := [(1, .int (0 : Int32)), (0, .ref l0)]) C hL dX10_load_43 rfl (Nat.le_of_ble_eq_true rfl) rfl ?_
      refine j_goto (tgt := 23) C dX10_load_44 (by decide) ?_
      obtain rfl := Option.some.inj e
      refine jx_sub (lv' := [(0, .ref l0), (1, .int (0 : Int32))]) [1, 0] rfl ?_
      exact kI6 ((0 : Int32), h56) e0_6
/-! BorderBasisModel.errorCode()I -/
noncomputable def FX10_errorCode (l0 : Nat) (h : jx_H) : Option (Int32 × jx_H) :=
(hp h l0 10 0 (.int (0 : Int32))).bind fun h1 =>
(hgi h1 l0 10 15).bind fun x2 =>
some (x2, h1)
def rmX10_errorCode : Room := { frames := 0, cells := 0, slots := 0, locals := 0 }
set_option maxRecDepth 20000 in
set_option maxHeartbeats 4000000 in
theorem sX10_errorCode {l0 : Nat} {h : jx_H} {r : Int32} {h9 : jx_H} (e : FX10_errorCode l0 h = some (r, h9)) : jx_Ct yX10_errorCode cX10_errorCode 1 (some .int) rmX10_errorCode [.ref l0] h (fun r' h' => some (.int r) = r' ∧ h9 = h') := by
  refine jx_Ct.of (own := RX10) (by decide) rfl (Nat.le_of_ble_eq_true rfl) (fun X C hq hr hL hN => ?_)
  refine jx_sub (lv' := [(0, .ref l0)]) [0] rfl ?_
  unfold FX10_errorCode at e
  refine j_aload_n C dX10_errorCode_0 rfl rfl ?_
  refine j_iconst (v := (0 : Int32)) C dX10_errorCode_1 (by decide) ?_
  replace e := ob e
  obtain ⟨h3, eh3, e⟩ := e
  refine j_put (ci := 10) (RC := RX10) (T := TX10) (N := 38) (ty0 := tyX10) 0 C rfl klX10 tyX10_ok nmX10 (Nat.le_of_ble_eq_true rfl) kX10_91 rfl rfl rfl rfl dX10_errorCode_2 eh3 ?_
  refine j_aload_n C dX10_errorCode_5 rfl rfl ?_
  replace e := ob e
  obtain ⟨x4, ex4, e⟩ := e
  refine j_geti (ci := 10) (RC := RX10) (T := TX10) (N := 38) 15 C rfl klX10 (Nat.le_of_ble_eq_true rfl) kX10_175 rfl dX10_errorCode_6 ex4 ?_
  cases e
  exact j_iret C hq rfl dX10_errorCode_9 ⟨Nat.le_of_ble_eq_true rfl, Nat.le_of_ble_eq_true rfl⟩ ⟨rfl, rfl⟩
/-! BorderBasisModel.errorPosition()I -/
noncomputable def FX10_errorPosition (l0 : Nat) (h : jx_H) : Option (Int32 × jx_H) :=
(hp h l0 10 0 (.int (0 : Int32))).bind fun h1 =>
(hgi h1 l0 10 16).bind fun x2 =>
some (x2, h1)
def rmX10_errorPosition : Room := { frames := 0, cells := 0, slots := 0, locals := 0 }
set_option maxRecDepth 20000 in
set_option maxHeartbeats 4000000 in
theorem sX10_errorPosition {l0 : Nat} {h : jx_H} {r : Int32} {h9 : jx_H} (e : FX10_errorPosition l0 h = some (r, h9)) : jx_Ct yX10_errorPosition cX10_errorPosition 1 (some .int) rmX10_errorPosition [.ref l0] h (fun r' h' => some (.int r) = r' ∧ h9 = h') := by
  refine jx_Ct.of (own := RX10) (by decide) rfl (Nat.le_of_ble_eq_true rfl) (fun X C hq hr hL hN => ?_)
  refine jx_sub (lv' := [(0, .ref l0)]) [0] rfl ?_
  unfold FX10_errorPosition at e
  refine j_aload_n C dX10_errorPosition_0 rfl rfl ?_
  refine j_iconst (v := (0 : Int32)) C dX10_errorPosition_1 (by decide) ?_
  replace e := ob e
  obtain ⟨h3, eh3, e⟩ := e
  refine j_put (ci := 10) (RC := RX10) (T := TX10) (N := 38) (ty0 := tyX10) 0 C rfl klX10 tyX10_ok nmX10 (Nat.le_of_ble_eq_true rfl) kX10_91 rfl rfl rfl rfl dX10_errorPosition_2 eh3 ?_
  refine j_aload_n C dX10_errorPosition_5 rfl rfl ?_
  replace e := ob e
  obtain ⟨x4, ex4, e⟩ := e
  refine j_geti (ci := 10) (RC := RX10) (T := TX10) (N := 38) 16 C rfl klX10 (Nat.le_of_ble_eq_true rfl) kX10_36 rfl dX10_errorPosition_6 ex4 ?_
  cases e
  exact j_iret C hq rfl dX10_errorPosition_9 ⟨Nat.le_of_ble_eq_true rfl, Nat.le_of_ble_eq_true rfl⟩ ⟨rfl, rfl⟩
/-! BorderBasisModel.cell(II)I -/
noncomputable def FX10_cell (l0 : Int32) (l1 : Int32) (h : jx_H) : Option (Int32) :=
some (((12 : Int32) * l0) + l1)
def rmX10_cell : Room := { frames := 0, cells := 0, slots := 0, locals := 0 }
set_option maxRecDepth 20000 in
set_option maxHeartbeats 4000000 in
theorem sX10_cell {l0 : Int32} {l1 : Int32} {h : jx_H} {r : Int32}  (e : FX10_cell l0 l1 h = some r) : jx_Ct yX10_cell cX10_cell 2 (some .int) rmX10_cell [.int l0, .int l1] h (fun r' h' => some (.int r) = r' ∧ h = h') := by
  refine jx_Ct.of (own := RX10) (by decide) rfl (Nat.le_of_ble_eq_true rfl) (fun X C hq hr hL hN => ?_)
  refine jx_sub (lv' := [(0, .int l0), (1, .int l1)]) [0, 1] rfl ?_
  unfold FX10_cell at e
  refine j_bipush (v := (12 : Int32)) C dX10_cell_0 (by decide) ?_
  refine j_iload_n C dX10_cell_2 rfl rfl ?_
  refine j_imul C dX10_cell_3 ?_
  refine j_iload_n C dX10_cell_4 rfl rfl ?_
  refine j_iadd C dX10_cell_5 ?_
  cases e
  exact j_iret C hq rfl dX10_cell_6 ⟨Nat.le_of_ble_eq_true rfl, Nat.le_of_ble_eq_true rfl⟩ ⟨rfl, rfl⟩
/-! BorderBasisModel.laysTable([III)V -/
noncomputable def BX10_laysTable_108 (l0 : Nat) (l1 : Nat) (l2 : Int32) (l3 : Int32) (l4 : Int32) (l5 : Int32) (l6 : Int32) (l7 : Int32) (l8 : Int32) (s0 : Nat) (s1 : Int32) (s2 : Int32) (h : jx_H) : Option ((Int32 × jx_H) ⊕ ((Int32 × jx_H) ⊕ (jx_H))) :=
(has h .int s0 s1 s2).bind fun h9 =>
some (.inl ((l8 + (1 : Int32)), h9))
noncomputable def LX10_laysTable_52 (l0 : Nat) (l1 : Nat) (l2 : Int32) (l3 : Int32) (l4 : Int32) (l5 : Int32) (l6 : Int32) (l7 : Int32) (l8 : Int32) (h : jx_H) : Option ((Int32 × jx_H) ⊕ ((Int32 × jx_H) ⊕ (jx_H))) :=
(isO h l0 10).bind fun _ =>
(FX10_n l0 h).bind fun x11 =>
if x11 ≤ l8 then
 exL (some (.inl ((l4 + (1 : Int32)), h)))
else
 (FX10_cell l8 l4 h).bind fun x12 =>
 if l7 = (-1 : Int32) then
  (hgr h l0 10 1).bind fun x13 =>
  (isO h l0 10).bind fun _ =>
  (FX10_borderAt l0 l5 l6 h).bind fun x15 =>
  (FX10_ruleAt x15 l8 h).bind fun x16 =>
  (hal h .int x13 x16).bind fun x17 =>
  BX10_laysTable_108 l0 l1 l2 l3 l4 l5 l6 l7 l8 l1 x12 x17 h
 else
  if l8 = l7 then
   BX10_laysTable_108 l0 l1 l2 l3 l4 l5 l6 l7 l8 l1 x12 (1 : Int32) h
  else
   BX10_laysTable_108 l0 l1 l2 l3 l4 l5 l6 l7 l8 l1 x12 (0 : Int32) h
noncomputable def LX10_laysTable_3 (l0 : Nat) (l1 : Nat) (l2 : Int32) (l3 : Int32) (l4 : Int32) (h : jx_H) : Option ((Int32 × jx_H) ⊕ (jx_H)) :=
(isO h l0 10).bind fun _ =>
(FX10_n l0 h).bind fun x2 =>
if x2 ≤ l4 then
 exL (some h)
else
 (hgr h l0 10 1).bind fun x3 =>
 (hal h .int x3 ((4 : Int32) + l4)).bind fun x4 =>
 (hgr h l0 10 1).bind fun x5 =>
 (hal h .int x5 ((16 : Int32) + l4)).bind fun x6 =>
 (isO h l0 10).bind fun _ =>
 (FX10_monomialAt l0 (x4 + l2) (x6 + l3) h).bind fun x8 =>
 itr (fun s : Int32 × jx_H => LX10_laysTable_52 l0 l1 l2 l3 l4 (x4 + l2) (x6 + l3) x8 s.1 s.2) ((0 : Int32), h)
noncomputable def FX10_laysTable (l0 : Nat) (l1 : Nat) (l2 : Int32) (l3 : Int32) (h : jx_H) : Option (jx_H) :=
itr (fun s : Int32 × jx_H => LX10_laysTable_3 l0 l1 l2 l3 s.1 s.2) ((0 : Int32), h)
def rmX10_laysTable : Room := { frames := 2, cells := 0, slots := 0, locals := 43 }
set_option maxRecDepth 20000 in
set_option maxHeartbeats 4000000 in
theorem sX10_laysTable {l0 : Nat} {l1 : Nat} {l2 : Int32} {l3 : Int32} {h : jx_H} {h9 : jx_H} (e : FX10_laysTable l0 l1 l2 l3 h = some h9) : jx_Ct yX10_laysTable cX10_laysTable 9 none rmX10_laysTable [.ref l0, .ref l1, .int l2, .int l3] h (fun r' h' => none = r' ∧ h9 = h') := by
  refine jx_Ct.of (own := RX10) (by decide) rfl (Nat.le_of_ble_eq_true rfl) (fun X C hq hr hL hN => ?_)
  refine jx_sub (lv' := [(0, .ref l0), (1, .ref l1), (2, .int l2), (3, .int l3)]) [0, 1, 2, 3] rfl ?_
  unfold FX10_laysTable at e
  refine j_iconst (v := (0 : Int32)) C dX10_laysTable_0 (by decide) ?_
  refine j_istore (lv1 := [(4, .int (0 : Int32)), (0, .ref l0), (1, .ref l1), (2, .int l2), (3, .int l3)]) C hL dX10_laysTable_1 (Nat.le_of_ble_eq_true rfl) rfl ?_
  refine jx_sub (lv' := [(0, .ref l0), (1, .ref l1), (2, .int l2), (3, .int l3), (4, .int (0 : Int32))]) [1, 2, 3, 4, 0] rfl ?_
  refine itr_ind (s0 := ((0 : Int32), h)) (fun s : Int32 × jx_H => jx_J X 0 0 3 [(0, .ref l0), (1, .ref l1), (2, .int l2), (3, .int l3), (4, .int s.1)] [] s.2) e ?_
  clear e
  intro s kI3 kT3 e0
  obtain ⟨z22, h23⟩ := s
  obtain ⟨u3, e0_3⟩ := e0
  have e : LX10_laysTable_3 l0 l1 l2 l3 z22 h23 = some u3 := e0_3
  unfold LX10_laysTable_3 at e
  refine j_iload C dX10_laysTable_3 rfl ?_
  refine j_aload_n C dX10_laysTable_5 rfl rfl ?_
  replace e := ob e
  obtain ⟨_, eo24, e⟩ := e
  replace e := ob e
  obtain ⟨x25, ex25, e⟩ := e
  refine j_callV (ci := 10) (RC := RX10) (T := TX10) (N := 38) (As := []) (b := l0) (na := 0) (st := [.int z22]) (k1 := 0) (n1 := 0) C hr (sX10_n ex25) rfl eo24 kX10_105 kim_X10_n ksel_X10_n kini_X10 kc_X10_n (by decide) rfl ⟨(Nat.le_of_ble_eq_true rfl), (Nat.le_of_ble_eq_true rfl)⟩ (Nat.le_of_ble_eq_true rfl) ⟨rfl, rfl, (Nat.le_of_ble_eq_true rfl), (Nat.le_of_ble_eq_true rfl)⟩ dX10_laysTable_6 ?_
  rintro _ _ ⟨rfl, rfl⟩
  show jx_J X 0 0 9 [(0, .ref l0), (1, .ref l1), (2, .int l2), (3, .int l3), (4, .int z22)] [.int x25, .int z22] h23
  refine j_icmp_ge (tgt := 121) C dX10_laysTable_9 (by decide) (fun c51 => ?_) (fun c51 => ?_)
  · replace e := ifp c51 e
    obtain ⟨t_4, e_4, eu_4⟩ := exL_spec e
    obtain rfl := kT3 t_4 (e0_3.trans (congrArg some eu_4))
    replace e := e_4
    cases e
    exact j_vret C hq dX10_laysTable_121 ⟨Nat.le_of_ble_eq_true rfl, Nat.le_of_ble_eq_true rfl⟩ ⟨rfl, rfl⟩
  · replace e := ifn c51 e
    refine j_aload_n C dX10_laysTable_12 rfl rfl ?_
    replace e := ob e
    obtain ⟨x26, ex26, e⟩ := e
    refine j_getr (ci := 10) (RC := RX10) (T := TX10) (N := 38) 1 C rfl klX10 (Nat.le_of_ble_eq_true rfl) kX10_7 rfl dX10_laysTable_13 ex26 ?_
    refine j_iconst (v := (4 : Int32)) C dX10_laysTable_16 (by decide) ?_
    refine j_iload C dX10_laysTable_17 rfl ?_
    refine j_iadd C dX10_laysTable_19 ?_
    replace e := ob e
    obtain ⟨x27, ex27, e⟩ := e
    refine j_iald C dX10_laysTable_20 ex27 ?_
    refine j_iload_n C dX10_laysTable_21 rfl rfl ?_
    refine j_iadd C dX10_laysTable_22 ?_
    refine j_istore (lv1 := [(5, .int (x27 + l2)), (0, .ref l0), (1, .ref l1), (2, .int l2), (3, .int l3), (4, .int z22)]) C hL dX10_laysTable_23 (Nat.le_of_ble_eq_true rfl) rfl ?_
    refine j_aload_n C dX10_laysTable_25 rfl rfl ?_
    replace e := ob e
    obtain ⟨x28, ex28, e⟩ := e
    refine j_getr (ci := 10) (RC := RX10) (T := TX10) (N := 38) 1 C rfl klX10 (Nat.le_of_ble_eq_true rfl) kX10_7 rfl dX10_laysTable_26 ex28 ?_
    refine j_bipush (v := (16 : Int32)) C dX10_laysTable_29 (by decide) ?_
    refine j_iload C dX10_laysTable_31 rfl ?_
    refine j_iadd C dX10_laysTable_33 ?_
    replace e := ob e
    obtain ⟨x29, ex29, e⟩ := e
    refine j_iald C dX10_laysTable_34 ex29 ?_
    refine j_iload_n C dX10_laysTable_35 rfl rfl ?_
    refine j_iadd C dX10_laysTable_36 ?_
    refine j_istore (lv1 := [(6, .int (x29 + l3)), (5, .int (x27 + l2)), (0, .ref l0), (1, .ref l1), (2, .int l2), (3, .int l3), (4, .int z22)]) C hL dX10_laysTable_37 (Nat.le_of_ble_eq_true rfl) rfl ?_
    refine j_aload_n C dX10_laysTable_39 rfl rfl ?_
    refine j_iload C dX10_laysTable_40 rfl ?_
    refine j_iload C dX10_laysTable_42 rfl ?_
    replace e := ob e
    obtain ⟨_, eo30, e⟩ := e
    replace e := ob e
    obtain ⟨x31, ex31, e⟩ := e
    refine j_callV (ci := 10) (RC := RX10) (T := TX10) (N := 38) (As := [.int (x27 + l2), .int (x29 + l3)]) (b := l0) (na := 2) (st := []) (k1 := 0) (n1 := 0) C hr (sX10_monomialAt ex31) rfl eo30 kX10_108 kim_X10_monomialAt ksel_X10_monomialAt kini_X10 kc_X10_monomialAt (by decide) rfl ⟨(Nat.le_of_ble_eq_true rfl), (Nat.le_of_ble_eq_true rfl)⟩ (Nat.le_of_ble_eq_true rfl) ⟨rfl, rfl, (Nat.le_of_ble_eq_true rfl), (Nat.le_of_ble_eq_true rfl)⟩ dX10_laysTable_44 ?_
    rintro _ _ ⟨rfl, rfl⟩
    show jx_J X 0 0 47 [(6, .int (x29 + l3)), (5, .int (x27 + l2)), (0, .ref l0), (1, .ref l1), (2, .int l2), (3, .int l3), (4, .int z22)] [.int x31] h23
    refine j_istore (lv1 := [(7, .int x31), (6, .int (x29 + l3)), (5, .int (x27 + l2)), (0, .ref l0), (1, .ref l1), (2, .int l2), (3, .int l3), (4, .int z22)]) C hL dX10_laysTable_47 (Nat.le_of_ble_eq_true rfl) rfl ?_
    refine j_iconst (v := (0 : Int32)) C dX10_laysTable_49 (by decide) ?_
    refine j_istore (lv1 := [(8, .int (0 : Int32)), (7, .int x31), (6, .int (x29 + l3)), (5, .int (x27 + l2)), (0, .ref l0), (1, .ref l1), (2, .int l2), (3, .int l3), (4, .int z22)]) C hL dX10_laysTable_50 (Nat.le_of_ble_eq_true rfl) rfl ?_
    refine jx_sub (lv' := [(0, .ref l0), (1, .ref l1), (2, .int l2), (3, .int l3), (4, .int z22), (5, .int (x27 + l2)), (6, .int (x29 + l3)), (7, .int x31), (8, .int (0 : Int32))]) [4, 5, 6, 7, 8, 3, 2, 1, 0] rfl ?_
    refine itr_ind (s0 := ((0 : Int32), h23)) (fun s : Int32 × jx_H => jx_J X 0 0 52 [(0, .ref l0), (1, .ref l1), (2, .int l2), (3, .int l3), (4, .int z22), (5, .int (x27 + l2)), (6, .int (x29 + l3)), (7, .int x31), (8, .int s.1)] [] s.2) e ?_
    clear e
    intro s kI5 kT5 e0
    obtain ⟨z32, h33⟩ := s
    obtain ⟨u5, e0_5⟩ := e0
    have e : LX10_laysTable_52 l0 l1 l2 l3 z22 (x27 + l2) (x29 + l3) x31 z32 h33 = some u5 := e0_5
    have b108 : ∀ (y34 : Int32) (y35 : Nat) (y36 : Int32) (y37 : Int32) (h38 : jx_H), BX10_laysTable_108 l0 l1 l2 l3 z22 (x27 + l2) (x29 + l3) x31 y34 y35 y36 y37 h38 = some u5 → jx_J X 0 0 108 [(0, .ref l0), (1, .ref l1), (2, .int l2), (3, .int l3), (4, .int z22), (5, .int (x27 + l2)), (6, .int (x29 + l3)), (7, .int x31), (8, .int y34)] [.int y37, .int y36, .ref y35] h38 := by
      intro y34 y35 y36 y37 h38 e
      unfold BX10_laysTable_108 at e
      replace e := ob e
      obtain ⟨h39, eh39, e⟩ := e
      refine j_iast C dX10_laysTable_108 eh39 ?_
      refine j_iinc (v := (y34 + (1 : Int32))) (lv1 := [(8, .int (y34 + (1 : Int32))), (0, .ref l0), (1, .ref l1), (2, .int l2), (3, .int l3), (4, .int z22), (5, .int (x27 + l2)), (6, .int (x29 + l3)), (7, .int x31)]) C hL dX10_laysTable_109 rfl rfl (Nat.le_of_ble_eq_true rfl) rfl ?_
      refine j_goto (tgt := 52) C dX10_laysTable_112 (by decide) ?_
      obtain rfl := Option.some.inj e
      refine jx_sub (lv' := [(0, .ref l0), (1, .ref l1), (2, .int l2), (3, .int l3), (4, .int z22), (5, .int (x27 + l2)), (6, .int (x29 + l3)), (7, .int x31), (8, .int (y34 + (1 : Int32)))]) [1, 2, 3, 4, 5, 6, 7, 8, 0] rfl ?_
      exact kI5 ((y34 + (1 : Int32)), h39) e0_5
    unfold LX10_laysTable_52 at e
    refine j_iload C dX10_laysTable_52 rfl ?_
    refine j_aload_n C dX10_laysTable_54 rfl rfl ?_
    replace e := ob e
    obtain ⟨_, eo40, e⟩ := e
    replace e := ob e
    obtain ⟨x41, ex41, e⟩ := e
    refine j_callV (ci := 10) (RC := RX10) (T := TX10) (N := 38) (As := []) (b := l0) (na := 0) (st := [.int z32]) (k1 := 0) (n1 := 0) C hr (sX10_n ex41) rfl eo40 kX10_105 kim_X10_n ksel_X10_n kini_X10 kc_X10_n (by decide) rfl ⟨(Nat.le_of_ble_eq_true rfl), (Nat.le_of_ble_eq_true rfl)⟩ (Nat.le_of_ble_eq_true rfl) ⟨rfl, rfl, (Nat.le_of_ble_eq_true rfl), (Nat.le_of_ble_eq_true rfl)⟩ dX10_laysTable_55 ?_
    rintro _ _ ⟨rfl, rfl⟩
    show jx_J X 0 0 58 [(0, .ref l0), (1, .ref l1), (2, .int l2), (3, .int l3), (4, .int z22), (5, .int (x27 + l2)), (6, .int (x29 + l3)), (7, .int x31), (8, .int z32)] [.int x41, .int z32] h33
    refine j_icmp_ge (tgt := 115) C dX10_laysTable_58 (by decide) (fun c50 => ?_) (fun c50 => ?_)
    · replace e := ifp c50 e
      obtain ⟨t_6, e_6, eu_6⟩ := exL_spec e
      obtain rfl := kT5 t_6 (e0_5.trans (congrArg some eu_6))
      replace e := e_6
      refine j_iinc (v := (z22 + (1 : Int32))) (lv1 := [(4, .int (z22 + (1 : Int32))), (0, .ref l0), (1, .ref l1), (2, .int l2), (3, .int l3), (5, .int (x27 + l2)), (6, .int (x29 + l3)), (7, .int x31), (8, .int z32)]) C hL dX10_laysTable_115 rfl rfl (Nat.le_of_ble_eq_true rfl) rfl ?_
      refine j_goto (tgt := 3) C dX10_laysTable_118 (by decide) ?_
      obtain rfl := Option.some.inj e
      refine jx_sub (lv' := [(0, .ref l0), (1, .ref l1), (2, .int l2), (3, .int l3), (4, .int (z22 + (1 : Int32)))]) [1, 2, 3, 4, 0] rfl ?_
      exact kI3 ((z22 + (1 : Int32)), h33) e0_3
    · replace e := ifn c50 e
      refine j_aload_n C dX10_laysTable_61 rfl rfl ?_
      refine j_iload C dX10_laysTable_62 rfl ?_
      refine j_iload C dX10_laysTable_64 rfl ?_
      replace e := ob e
      obtain ⟨x42, ex42, e⟩ := e
      refine j_callS (As := [.int z32, .int z22]) (na := 2) (st := [.ref l1]) (k1 := 0) (n1 := 0) C hr (sX10_cell ex42) kX10_254 kst_X10_cell kini_X10 kc_X10_cell (by decide) rfl ⟨(Nat.le_of_ble_eq_true rfl), (Nat.le_of_ble_eq_true rfl)⟩ (Nat.le_of_ble_eq_true rfl) ⟨rfl, rfl, (Nat.le_of_ble_eq_true rfl), (Nat.le_of_ble_eq_true rfl)⟩ dX10_laysTable_66 ?_
      rintro _ _ ⟨rfl, rfl⟩
      show jx_J X 0 0 69 [(0, .ref l0), (1, .ref l1), (2, .int l2), (3, .int l3), (4, .int z22), (5, .int (x27 + l2)), (6, .int (x29 + l3)), (7, .int x31), (8, .int z32)] [.int x42, .ref l1] h33
      refine j_iload C dX10_laysTable_69 rfl ?_
      refine j_iconst (v := (-1 : Int32)) C dX10_laysTable_71 (by decide) ?_
      refine j_icmp_eq (tgt := 90) C dX10_laysTable_72 (by decide) (fun c49 => ?_) (fun c49 => ?_)
      · replace e := ifp c49 e
        refine j_aload_n C dX10_laysTable_90 rfl rfl ?_
        replace e := ob e
        obtain ⟨x43, ex43, e⟩ := e
        refine j_getr (ci := 10) (RC := RX10) (T := TX10) (N := 38) 1 C rfl klX10 (Nat.le_of_ble_eq_true rfl) kX10_7 rfl dX10_laysTable_91 ex43 ?_
        refine j_aload_n C dX10_laysTable_94 rfl rfl ?_
        refine j_iload C dX10_laysTable_95 rfl ?_
        refine j_iload C dX10_laysTable_97 rfl ?_
        replace e := ob e
        obtain ⟨_, eo44, e⟩ := e
        replace e := ob e
        obtain ⟨x45, ex45, e⟩ := e
        refine j_callV (ci := 10) (RC := RX10) (T := TX10) (N := 38) (As := [.int (x27 + l2), .int (x29 + l3)]) (b := l0) (na := 2) (st := [.ref x43, .int x42, .ref l1]) (k1 := 0) (n1 := 0) C hr (sX10_borderAt ex45) rfl eo44 kX10_119 kim_X10_borderAt ksel_X10_borderAt kini_X10 kc_X10_borderAt (by decide) rfl ⟨(Nat.le_of_ble_eq_true rfl), (Nat.le_of_ble_eq_true rfl)⟩ (Nat.le_of_ble_eq_true rfl) ⟨rfl, rfl, (Nat.le_of_ble_eq_true rfl), (Nat.le_of_ble_eq_true rfl)⟩ dX10_laysTable_99 ?_
        rintro _ _ ⟨rfl, rfl⟩
        show jx_J X 0 0 102 [(0, .ref l0), (1, .ref l1), (2, .int l2), (3, .int l3), (4, .int z22), (5, .int (x27 + l2)), (6, .int (x29 + l3)), (7, .int x31), (8, .int z32)] [.int x45, .ref x43, .int x42, .ref l1] h33
        refine j_iload C dX10_laysTable_102 rfl ?_
        replace e := ob e
        obtain ⟨x46, ex46, e⟩ := e
        refine j_callS (As := [.int x45, .int z32]) (na := 2) (st := [.ref x43, .int x42, .ref l1]) (k1 := 0) (n1 := 0) C hr (sX10_ruleAt ex46) kX10_130 kst_X10_ruleAt kini_X10 kc_X10_ruleAt (by decide) rfl ⟨(Nat.le_of_ble_eq_true rfl), (Nat.le_of_ble_eq_true rfl)⟩ (Nat.le_of_ble_eq_true rfl) ⟨rfl, rfl, (Nat.le_of_ble_eq_true rfl), (Nat.le_of_ble_eq_true rfl)⟩ dX10_laysTable_104 ?_
        rintro _ _ ⟨rfl, rfl⟩
        show jx_J X 0 0 107 [(0, .ref l0), (1, .ref l1), (2, .int l2), (3, .int l3), (4, .int z22), (5, .int (x27 + l2)), (6, .int (x29 + l3)), (7, .int x31), (8, .int z32)] [.int x46, .ref x43, .int x42, .ref l1] h33
        replace e := ob e
        obtain ⟨x47, ex47, e⟩ := e
        refine j_iald C dX10_laysTable_107 ex47 ?_
        exact b108 z32 l1 x42 x47 h33 e
      · replace e := ifn c49 e
        refine j_iload C dX10_laysTable_75 rfl ?_
        refine j_iload C dX10_laysTable_77 rfl ?_
        refine j_icmp_ne (tgt := 86) C dX10_laysTable_79 (by decide) (fun c48 => ?_) (fun c48 => ?_)
        · replace e := ifn c48 e
          refine j_iconst (v := (0 : Int32)) C dX10_laysTable_86 (by decide) ?_
          refine j_goto (tgt := 108) C dX10_laysTable_87 (by decide) ?_
          exact b108 z32 l1 x42 (0 : Int32) h33 e
        · replace e := ifp c48 e
          refine j_iconst (v := (1 : Int32)) C dX10_laysTable_82 (by decide) ?_
          refine j_goto (tgt := 108) C dX10_laysTable_83 (by decide) ?_
          exact b108 z32 l1 x42 (1 : Int32) h33 e
/-! BorderBasisModel.laysTables()V -/
noncomputable def FX10_laysTables (l0 : Nat) (h : jx_H) : Option (jx_H) :=
(hgr h l0 10 20).bind fun x1 =>
(isO h l0 10).bind fun _ =>
(FX10_laysTable l0 x1 (1 : Int32) (0 : Int32) h).bind fun h3 =>
(hgr h3 l0 10 21).bind fun x4 =>
(isO h3 l0 10).bind fun _ =>
(FX10_laysTable l0 x4 (0 : Int32) (1 : Int32) h3).bind fun h6 =>
some h6
def rmX10_laysTables : Room := { frames := 3, cells := 0, slots := 0, locals := 71 }
set_option maxRecDepth 20000 in
set_option maxHeartbeats 4000000 in
theorem sX10_laysTables {l0 : Nat} {h : jx_H} {h9 : jx_H} (e : FX10_laysTables l0 h = some h9) : jx_Ct yX10_laysTables cX10_laysTables 1 none rmX10_laysTables [.ref l0] h (fun r' h' => none = r' ∧ h9 = h') := by
  refine jx_Ct.of (own := RX10) (by decide) rfl (Nat.le_of_ble_eq_true rfl) (fun X C hq hr hL hN => ?_)
  refine jx_sub (lv' := [(0, .ref l0)]) [0] rfl ?_
  unfold FX10_laysTables at e
  refine j_aload_n C dX10_laysTables_0 rfl rfl ?_
  refine j_aload_n C dX10_laysTables_1 rfl rfl ?_
  replace e := ob e
  obtain ⟨x7, ex7, e⟩ := e
  refine j_getr (ci := 10) (RC := RX10) (T := TX10) (N := 38) 20 C rfl klX10 (Nat.le_of_ble_eq_true rfl) kX10_43 rfl dX10_laysTables_2 ex7 ?_
  refine j_iconst (v := (1 : Int32)) C dX10_laysTables_5 (by decide) ?_
  refine j_iconst (v := (0 : Int32)) C dX10_laysTables_6 (by decide) ?_
  replace e := ob e
  obtain ⟨_, eo8, e⟩ := e
  replace e := ob e
  obtain ⟨h9, eh9, e⟩ := e
  refine j_callV (ci := 10) (RC := RX10) (T := TX10) (N := 38) (As := [.ref x7, .int (1 : Int32), .int (0 : Int32)]) (b := l0) (na := 3) (st := []) (k1 := 0) (n1 := 0) C hr (sX10_laysTable eh9) rfl eo8 kX10_257 kim_X10_laysTable ksel_X10_laysTable kini_X10 kc_X10_laysTable (by decide) rfl ⟨(Nat.le_of_ble_eq_true rfl), (Nat.le_of_ble_eq_true rfl)⟩ (Nat.le_of_ble_eq_true rfl) ⟨rfl, rfl, (Nat.le_of_ble_eq_true rfl), (Nat.le_of_ble_eq_true rfl)⟩ dX10_laysTables_7 ?_
  rintro _ _ ⟨rfl, rfl⟩
  show jx_J X 0 0 10 [(0, .ref l0)] [] h9
  refine j_aload_n C dX10_laysTables_10 rfl rfl ?_
  refine j_aload_n C dX10_laysTables_11 rfl rfl ?_
  replace e := ob e
  obtain ⟨x10, ex10, e⟩ := e
  refine j_getr (ci := 10) (RC := RX10) (T := TX10) (N := 38) 21 C rfl klX10 (Nat.le_of_ble_eq_true rfl) kX10_46 rfl dX10_laysTables_12 ex10 ?_
  refine j_iconst (v := (0 : Int32)) C dX10_laysTables_15 (by decide) ?_
  refine j_iconst (v := (1 : Int32)) C dX10_laysTables_16 (by decide) ?_
  replace e := ob e
  obtain ⟨_, eo11, e⟩ := e
  replace e := ob e
  obtain ⟨h12, eh12, e⟩ := e
  refine j_callV (ci := 10) (RC := RX10) (T := TX10) (N := 38) (As := [.ref x10, .int (0 : Int32), .int (1 : Int32)]) (b := l0) (na := 3) (st := []) (k1 := 0) (n1 := 0) C hr (sX10_laysTable eh12) rfl eo11 kX10_257 kim_X10_laysTable ksel_X10_laysTable kini_X10 kc_X10_laysTable (by decide) rfl ⟨(Nat.le_of_ble_eq_true rfl), (Nat.le_of_ble_eq_true rfl)⟩ (Nat.le_of_ble_eq_true rfl) ⟨rfl, rfl, (Nat.le_of_ble_eq_true rfl), (Nat.le_of_ble_eq_true rfl)⟩ dX10_laysTables_17 ?_
  rintro _ _ ⟨rfl, rfl⟩
  show jx_J X 0 0 20 [(0, .ref l0)] [] h12
  cases e
  exact j_vret C hq dX10_laysTables_20 ⟨Nat.le_of_ble_eq_true rfl, Nat.le_of_ble_eq_true rfl⟩ ⟨rfl, rfl⟩
/-! BorderBasisModel.multiplies([I[I[I)V -/
noncomputable def LX10_multiplies_30 (l0 : Nat) (l1 : Nat) (l2 : Nat) (l3 : Nat) (l4 : Int32) (l5 : Int32) (l6 : Int32) (l7 : Int32) (h : jx_H) : Option ((Int32 × Int32) ⊕ ((Int32 × jx_H) ⊕ ((Int32 × jx_H) ⊕ (jx_H)))) :=
(isO h l0 10).bind fun _ =>
(FX10_n l0 h).bind fun x6 =>
if x6 ≤ l7 then
 exL ((FX10_cell l4 l5 h).bind fun x7 =>
 (isO h l0 10).bind fun _ =>
 (FX10_p l0 h).bind fun x9 =>
 if x9 = 0 then none else
 (has h .int l3 x7 (l6 - l6 / x9 * x9)).bind fun h11 =>
 some (.inl ((l5 + (1 : Int32)), h11)))
else
 (FX10_cell l4 l7 h).bind fun x12 =>
 (hal h .int l1 x12).bind fun x13 =>
 (FX10_cell l7 l5 h).bind fun x14 =>
 (hal h .int l2 x14).bind fun x15 =>
 some (.inl ((l6 + (x13 * x15)), (l7 + (1 : Int32))))
noncomputable def LX10_multiplies_15 (l0 : Nat) (l1 : Nat) (l2 : Nat) (l3 : Nat) (l4 : Int32) (l5 : Int32) (h : jx_H) : Option ((Int32 × jx_H) ⊕ ((Int32 × jx_H) ⊕ (jx_H))) :=
(isO h l0 10).bind fun _ =>
(FX10_n l0 h).bind fun x4 =>
if x4 ≤ l5 then
 exL (some (.inl ((l4 + (1 : Int32)), h)))
else
 itr (fun s : Int32 × Int32 => LX10_multiplies_30 l0 l1 l2 l3 l4 l5 s.1 s.2 h) ((0 : Int32), (0 : Int32))
noncomputable def LX10_multiplies_3 (l0 : Nat) (l1 : Nat) (l2 : Nat) (l3 : Nat) (l4 : Int32) (h : jx_H) : Option ((Int32 × jx_H) ⊕ (jx_H)) :=
(isO h l0 10).bind fun _ =>
(FX10_n l0 h).bind fun x2 =>
if x2 ≤ l4 then
 exL (some h)
else
 itr (fun s : Int32 × jx_H => LX10_multiplies_15 l0 l1 l2 l3 l4 s.1 s.2) ((0 : Int32), h)
noncomputable def FX10_multiplies (l0 : Nat) (l1 : Nat) (l2 : Nat) (l3 : Nat) (h : jx_H) : Option (jx_H) :=
itr (fun s : Int32 × jx_H => LX10_multiplies_3 l0 l1 l2 l3 s.1 s.2) ((0 : Int32), h)
def rmX10_multiplies : Room := { frames := 1, cells := 0, slots := 0, locals := 21 }
set_option maxRecDepth 20000 in
set_option maxHeartbeats 4000000 in
theorem sX10_multiplies {l0 : Nat} {l1 : Nat} {l2 : Nat} {l3 : Nat} {h : jx_H} {h9 : jx_H} (e : FX10_multiplies l0 l1 l2 l3 h = some h9) : jx_Ct yX10_multiplies cX10_multiplies 8 none rmX10_multiplies [.ref l0, .ref l1, .ref l2, .ref l3] h (fun r' h' => none = r' ∧ h9 = h') := by
  refine jx_Ct.of (own := RX10) (by decide) rfl (Nat.le_of_ble_eq_true rfl) (fun X C hq hr hL hN => ?_)
  refine jx_sub (lv' := [(0, .ref l0), (1, .ref l1), (2, .ref l2), (3, .ref l3)]) [0, 1, 2, 3] rfl ?_
  unfold FX10_multiplies at e
  refine j_iconst (v := (0 : Int32)) C dX10_multiplies_0 (by decide) ?_
  refine j_istore (lv1 := [(4, .int (0 : Int32)), (0, .ref l0), (1, .ref l1), (2, .ref l2), (3, .ref l3)]) C hL dX10_multiplies_1 (Nat.le_of_ble_eq_true rfl) rfl ?_
  refine jx_sub (lv' := [(0, .ref l0), (1, .ref l1), (2, .ref l2), (3, .ref l3), (4, .int (0 : Int32))]) [1, 2, 3, 4, 0] rfl ?_
  refine itr_ind (s0 := ((0 : Int32), h)) (fun s : Int32 × jx_H => jx_J X 0 0 3 [(0, .ref l0), (1, .ref l1), (2, .ref l2), (3, .ref l3), (4, .int s.1)] [] s.2) e ?_
  clear e
  intro s kI4 kT4 e0
  obtain ⟨z19, h20⟩ := s
  obtain ⟨u4, e0_4⟩ := e0
  have e : LX10_multiplies_3 l0 l1 l2 l3 z19 h20 = some u4 := e0_4
  unfold LX10_multiplies_3 at e
  refine j_iload C dX10_multiplies_3 rfl ?_
  refine j_aload_n C dX10_multiplies_5 rfl rfl ?_
  replace e := ob e
  obtain ⟨_, eo21, e⟩ := e
  replace e := ob e
  obtain ⟨x22, ex22, e⟩ := e
  refine j_callV (ci := 10) (RC := RX10) (T := TX10) (N := 38) (As := []) (b := l0) (na := 0) (st := [.int z19]) (k1 := 0) (n1 := 0) C hr (sX10_n ex22) rfl eo21 kX10_105 kim_X10_n ksel_X10_n kini_X10 kc_X10_n (by decide) rfl ⟨(Nat.le_of_ble_eq_true rfl), (Nat.le_of_ble_eq_true rfl)⟩ (Nat.le_of_ble_eq_true rfl) ⟨rfl, rfl, (Nat.le_of_ble_eq_true rfl), (Nat.le_of_ble_eq_true rfl)⟩ dX10_multiplies_6 ?_
  rintro _ _ ⟨rfl, rfl⟩
  show jx_J X 0 0 9 [(0, .ref l0), (1, .ref l1), (2, .ref l2), (3, .ref l3), (4, .int z19)] [.int x22, .int z19] h20
  refine j_icmp_ge (tgt := 97) C dX10_multiplies_9 (by decide) (fun c42 => ?_) (fun c42 => ?_)
  · replace e := ifp c42 e
    obtain ⟨t_5, e_5, eu_5⟩ := exL_spec e
    obtain rfl := kT4 t_5 (e0_4.trans (congrArg some eu_5))
    replace e := e_5
    cases e
    exact j_vret C hq dX10_multiplies_97 ⟨Nat.le_of_ble_eq_true rfl, Nat.le_of_ble_eq_true rfl⟩ ⟨rfl, rfl⟩
  · replace e := ifn c42 e
    refine j_iconst (v := (0 : Int32)) C dX10_multiplies_12 (by decide) ?_
    refine j_istore (lv1 := [(5, .int (0 : Int32)), (0, .ref l0), (1, .ref l1), (2, .ref l2), (3, .ref l3), (4, .int z19)]) C hL dX10_multiplies_13 (Nat.le_of_ble_eq_true rfl) rfl ?_
    refine jx_sub (lv' := [(0, .ref l0), (1, .ref l1), (2, .ref l2), (3, .ref l3), (4, .int z19), (5, .int (0 : Int32))]) [1, 2, 3, 4, 5, 0] rfl ?_
    refine itr_ind (s0 := ((0 : Int32), h20)) (fun s : Int32 × jx_H => jx_J X 0 0 15 [(0, .ref l0), (1, .ref l1), (2, .ref l2), (3, .ref l3), (4, .int z19), (5, .int s.1)] [] s.2) e ?_
    clear e
    intro s kI6 kT6 e0
    obtain ⟨z23, h24⟩ := s
    obtain ⟨u6, e0_6⟩ := e0
    have e : LX10_multiplies_15 l0 l1 l2 l3 z19 z23 h24 = some u6 := e0_6
    unfold LX10_multiplies_15 at e
    refine j_iload C dX10_multiplies_15 rfl ?_
    refine j_aload_n C dX10_multiplies_17 rfl rfl ?_
    replace e := ob e
    obtain ⟨_, eo25, e⟩ := e
    replace e := ob e
    obtain ⟨x26, ex26, e⟩ := e
    refine j_callV (ci := 10) (RC := RX10) (T := TX10) (N := 38) (As := []) (b := l0) (na := 0) (st := [.int z23]) (k1 := 0) (n1 := 0) C hr (sX10_n ex26) rfl eo25 kX10_105 kim_X10_n ksel_X10_n kini_X10 kc_X10_n (by decide) rfl ⟨(Nat.le_of_ble_eq_true rfl), (Nat.le_of_ble_eq_true rfl)⟩ (Nat.le_of_ble_eq_true rfl) ⟨rfl, rfl, (Nat.le_of_ble_eq_true rfl), (Nat.le_of_ble_eq_true rfl)⟩ dX10_multiplies_18 ?_
    rintro _ _ ⟨rfl, rfl⟩
    show jx_J X 0 0 21 [(0, .ref l0), (1, .ref l1), (2, .ref l2), (3, .ref l3), (4, .int z19), (5, .int z23)] [.int x26, .int z23] h24
    refine j_icmp_ge (tgt := 91) C dX10_multiplies_21 (by decide) (fun c41 => ?_) (fun c41 => ?_)
    · replace e := ifp c41 e
      obtain ⟨t_7, e_7, eu_7⟩ := exL_spec e
      obtain rfl := kT6 t_7 (e0_6.trans (congrArg some eu_7))
      replace e := e_7
      refine j_iinc (v := (z19 + (1 : Int32))) (lv1 := [(4, .int (z19 + (1 : Int32))), (0, .ref l0), (1, .ref l1), (2, .ref l2), (3, .ref l3), (5, .int z23)]) C hL dX10_multiplies_91 rfl rfl (Nat.le_of_ble_eq_true rfl) rfl ?_
      refine j_goto (tgt := 3) C dX10_multiplies_94 (by decide) ?_
      obtain rfl := Option.some.inj e
      refine jx_sub (lv' := [(0, .ref l0), (1, .ref l1), (2, .ref l2), (3, .ref l3), (4, .int (z19 + (1 : Int32)))]) [1, 2, 3, 4, 0] rfl ?_
      exact kI4 ((z19 + (1 : Int32)), h24) e0_4
    · replace e := ifn c41 e
      refine j_iconst (v := (0 : Int32)) C dX10_multiplies_24 (by decide) ?_
      refine j_istore (lv1 := [(6, .int (0 : Int32)), (0, .ref l0), (1, .ref l1), (2, .ref l2), (3, .ref l3), (4, .int z19), (5, .int z23)]) C hL dX10_multiplies_25 (Nat.le_of_ble_eq_true rfl) rfl ?_
      refine j_iconst (v := (0 : Int32)) C dX10_multiplies_27 (by decide) ?_
      refine j_istore (lv1 := [(7, .int (0 : Int32)), (6, .int (0 : Int32)), (0, .ref l0), (1, .ref l1), (2, .ref l2), (3, .ref l3), (4, .int z19), (5, .int z23)]) C hL dX10_multiplies_28 (Nat.le_of_ble_eq_true rfl) rfl ?_
      refine jx_sub (lv' := [(0, .ref l0), (1, .ref l1), (2, .ref l2), (3, .ref l3), (4, .int z19), (5, .int z23), (6, .int (0 : Int32)), (7, .int (0 : Int32))]) [2, 3, 4, 5, 6, 7, 1, 0] rfl ?_
      refine itr_ind (s0 := ((0 : Int32), (0 : Int32))) (fun s : Int32 × Int32 => jx_J X 0 0 30 [(0, .ref l0), (1, .ref l1), (2, .ref l2), (3, .ref l3), (4, .int z19), (5, .int z23), (6, .int s.1), (7, .int s.2)] [] h24) e ?_
      clear e
      intro s kI8 kT8 e0
      obtain ⟨z27, z28⟩ := s
      obtain ⟨u8, e0_8⟩ := e0
      have e : LX10_multiplies_30 l0 l1 l2 l3 z19 z23 z27 z28 h24 = some u8 := e0_8
      unfold LX10_multiplies_30 at e
      refine j_iload C dX10_multiplies_30 rfl ?_
      refine j_aload_n C dX10_multiplies_32 rfl rfl ?_
      replace e := ob e
      obtain ⟨_, eo29, e⟩ := e
      replace e := ob e
      obtain ⟨x30, ex30, e⟩ := e
      refine j_callV (ci := 10) (RC := RX10) (T := TX10) (N := 38) (As := []) (b := l0) (na := 0) (st := [.int z28]) (k1 := 0) (n1 := 0) C hr (sX10_n ex30) rfl eo29 kX10_105 kim_X10_n ksel_X10_n kini_X10 kc_X10_n (by decide) rfl ⟨(Nat.le_of_ble_eq_true rfl), (Nat.le_of_ble_eq_true rfl)⟩ (Nat.le_of_ble_eq_true rfl) ⟨rfl, rfl, (Nat.le_of_ble_eq_true rfl), (Nat.le_of_ble_eq_true rfl)⟩ dX10_multiplies_33 ?_
      rintro _ _ ⟨rfl, rfl⟩
      show jx_J X 0 0 36 [(0, .ref l0), (1, .ref l1), (2, .ref l2), (3, .ref l3), (4, .int z19), (5, .int z23), (6, .int z27), (7, .int z28)] [.int x30, .int z28] h24
      refine j_icmp_ge (tgt := 69) C dX10_multiplies_36 (by decide) (fun c40 => ?_) (fun c40 => ?_)
      · replace e := ifp c40 e
        obtain ⟨t_9, e_9, eu_9⟩ := exL_spec e
        obtain rfl := kT8 t_9 (e0_8.trans (congrArg some eu_9))
        replace e := e_9
        refine j_aload_n C dX10_multiplies_69 rfl rfl ?_
        refine j_iload C dX10_multiplies_70 rfl ?_
        refine j_iload C dX10_multiplies_72 rfl ?_
        replace e := ob e
        obtain ⟨x31, ex31, e⟩ := e
        refine j_callS (As := [.int z19, .int z23]) (na := 2) (st := [.ref l3]) (k1 := 0) (n1 := 0) C hr (sX10_cell ex31) kX10_254 kst_X10_cell kini_X10 kc_X10_cell (by decide) rfl ⟨(Nat.le_of_ble_eq_true rfl), (Nat.le_of_ble_eq_true rfl)⟩ (Nat.le_of_ble_eq_true rfl) ⟨rfl, rfl, (Nat.le_of_ble_eq_true rfl), (Nat.le_of_ble_eq_true rfl)⟩ dX10_multiplies_74 ?_
        rintro _ _ ⟨rfl, rfl⟩
        show jx_J X 0 0 77 [(0, .ref l0), (1, .ref l1), (2, .ref l2), (3, .ref l3), (4, .int z19), (5, .int z23), (6, .int z27), (7, .int z28)] [.int x31, .ref l3] h24
        refine j_iload C dX10_multiplies_77 rfl ?_
        refine j_aload_n C dX10_multiplies_79 rfl rfl ?_
        replace e := ob e
        obtain ⟨_, eo32, e⟩ := e
        replace e := ob e
        obtain ⟨x33, ex33, e⟩ := e
        refine j_callV (ci := 10) (RC := RX10) (T := TX10) (N := 38) (As := []) (b := l0) (na := 0) (st := [.int z27, .int x31, .ref l3]) (k1 := 0) (n1 := 0) C hr (sX10_p ex33) rfl eo32 kX10_97 kim_X10_p ksel_X10_p kini_X10 kc_X10_p (by decide) rfl ⟨(Nat.le_of_ble_eq_true rfl), (Nat.le_of_ble_eq_true rfl)⟩ (Nat.le_of_ble_eq_true rfl) ⟨rfl, rfl, (Nat.le_of_ble_eq_true rfl), (Nat.le_of_ble_eq_true rfl)⟩ dX10_multiplies_80 ?_
        rintro _ _ ⟨rfl, rfl⟩
        show jx_J X 0 0 83 [(0, .ref l0), (1, .ref l1), (2, .ref l2), (3, .ref l3), (4, .int z19), (5, .int z23), (6, .int z27), (7, .int z28)] [.int x33, .int z27, .int x31, .ref l3] h24
        by_cases c34 : x33 = 0
        · exact nos (ifp c34 e)
        replace e := ifn c34 e
        refine j_irem C dX10_multiplies_83 c34 ?_
        replace e := ob e
        obtain ⟨h35, eh35, e⟩ := e
        refine j_iast C dX10_multiplies_84 eh35 ?_
        refine j_iinc (v := (z23 + (1 : Int32))) (lv1 := [(5, .int (z23 + (1 : Int32))), (0, .ref l0), (1, .ref l1), (2, .ref l2), (3, .ref l3), (4, .int z19), (6, .int z27), (7, .int z28)]) C hL dX10_multiplies_85 rfl rfl (Nat.le_of_ble_eq_true rfl) rfl ?_
        refine j_goto (tgt := 15) C dX10_multiplies_88 (by decide) ?_
        obtain rfl := Option.some.inj e
        refine jx_sub (lv' := [(0, .ref l0), (1, .ref l1), (2, .ref l2), (3, .ref l3), (4, .int z19), (5, .int (z23 + (1 : Int32)))]) [1, 2, 3, 4, 5, 0] rfl ?_
        exact kI6 ((z23 + (1 : Int32)), h35) e0_6
      · replace e := ifn c40 e
        refine j_iload C dX10_multiplies_39 rfl ?_
        refine j_aload_n C dX10_multiplies_41 rfl rfl ?_
        refine j_iload C dX10_multiplies_42 rfl ?_
        refine j_iload C dX10_multiplies_44 rfl ?_
        replace e := ob e
        obtain ⟨x36, ex36, e⟩ := e
        refine j_callS (As := [.int z19, .int z28]) (na := 2) (st := [.ref l1, .int z27]) (k1 := 0) (n1 := 0) C hr (sX10_cell ex36) kX10_254 kst_X10_cell kini_X10 kc_X10_cell (by decide) rfl ⟨(Nat.le_of_ble_eq_true rfl), (Nat.le_of_ble_eq_true rfl)⟩ (Nat.le_of_ble_eq_true rfl) ⟨rfl, rfl, (Nat.le_of_ble_eq_true rfl), (Nat.le_of_ble_eq_true rfl)⟩ dX10_multiplies_46 ?_
        rintro _ _ ⟨rfl, rfl⟩
        show jx_J X 0 0 49 [(0, .ref l0), (1, .ref l1), (2, .ref l2), (3, .ref l3), (4, .int z19), (5, .int z23), (6, .int z27), (7, .int z28)] [.int x36, .ref l1, .int z27] h24
        replace e := ob e
        obtain ⟨x37, ex37, e⟩ := e
        refine j_iald C dX10_multiplies_49 ex37 ?_
        refine j_aload_n C dX10_multiplies_50 rfl rfl ?_
        refine j_iload C dX10_multiplies_51 rfl ?_
        refine j_iload C dX10_multiplies_53 rfl ?_
        replace e := ob e
        obtain ⟨x38, ex38, e⟩ := e
        refine j_callS (As := [.int z28, .int z23]) (na := 2) (st := [.ref l2, .int x37, .int z27]) (k1 := 0) (n1 := 0) C hr (sX10_cell ex38) kX10_254 kst_X10_cell kini_X10 kc_X10_cell (by decide) rfl ⟨(Nat.le_of_ble_eq_true rfl), (Nat.le_of_ble_eq_true rfl)⟩ (Nat.le_of_ble_eq_true rfl) ⟨rfl, rfl, (Nat.le_of_ble_eq_true rfl), (Nat.le_of_ble_eq_true rfl)⟩ dX10_multiplies_55 ?_
        rintro _ _ ⟨rfl, rfl⟩
        show jx_J X 0 0 58 [(0, .ref l0), (1, .ref l1), (2, .ref l2), (3, .ref l3), (4, .int z19), (5, .int z23), (6, .int z27), (7, .int z28)] [.int x38, .ref l2, .int x37, .int z27] h24
        replace e := ob e
        obtain ⟨x39, ex39, e⟩ := e
        refine j_iald C dX10_multiplies_58 ex39 ?_
        refine j_imul C dX10_multiplies_59 ?_
        refine j_iadd C dX10_multiplies_60 ?_
        refine j_istore (lv1 := [(6, .int (z27 + (x37 * x39))), (0, .ref l0), (1, .ref l1), (2, .ref l2), (3, .ref l3), (4, .int z19), (5, .int z23), (7, .int z28)]) C hL dX10_multiplies_61 (Nat.le_of_ble_eq_true rfl) rfl ?_
        refine j_iinc (v := (z28 + (1 : Int32))) (lv1 := [(7, .int (z28 + (1 : Int32))), (6, .int (z27 + (x37 * x39))), (0, .ref l0), (1, .ref l1), (2, .ref l2), (3, .ref l3), (4, .int z19), (5, .int z23)]) C hL dX10_multiplies_63 rfl rfl (Nat.le_of_ble_eq_true rfl) rfl ?_
        refine j_goto (tgt := 30) C dX10_multiplies_66 (by decide) ?_
        obtain rfl := Option.some.inj e
        refine jx_sub (lv' := [(0, .ref l0), (1, .ref l1), (2, .ref l2), (3, .ref l3), (4, .int z19), (5, .int z23), (6, .int (z27 + (x37 * x39))), (7, .int (z28 + (1 : Int32)))]) [2, 3, 4, 5, 6, 7, 1, 0] rfl ?_
        exact kI8 ((z27 + (x37 * x39)), (z28 + (1 : Int32))) e0_8
/-! BorderBasisModel.copiesCells([I[I)V -/
noncomputable def LX10_copiesCells_2 (l1 : Nat) (l2 : Nat) (l3 : Int32) (h : jx_H) : Option ((Int32 × jx_H) ⊕ (jx_H)) :=
if (144 : Int32) ≤ l3 then
 exL (some h)
else
 (hal h .int l1 l3).bind fun x1 =>
 (has h .int l2 l3 x1).bind fun h2 =>
 some (.inl ((l3 + (1 : Int32)), h2))
noncomputable def FX10_copiesCells (l0 : Nat) (l1 : Nat) (l2 : Nat) (h : jx_H) : Option (jx_H) :=
itr (fun s : Int32 × jx_H => LX10_copiesCells_2 l1 l2 s.1 s.2) ((0 : Int32), h)
def rmX10_copiesCells : Room := { frames := 0, cells := 0, slots := 0, locals := 0 }
set_option maxRecDepth 20000 in
set_option maxHeartbeats 4000000 in
theorem sX10_copiesCells {l0 : Nat} {l1 : Nat} {l2 : Nat} {h : jx_H} {h9 : jx_H} (e : FX10_copiesCells l0 l1 l2 h = some h9) : jx_Ct yX10_copiesCells cX10_copiesCells 4 none rmX10_copiesCells [.ref l0, .ref l1, .ref l2] h (fun r' h' => none = r' ∧ h9 = h') := by
  refine jx_Ct.of (own := RX10) (by decide) rfl (Nat.le_of_ble_eq_true rfl) (fun X C hq hr hL hN => ?_)
  refine jx_sub (lv' := [(0, .ref l0), (1, .ref l1), (2, .ref l2)]) [0, 1, 2] rfl ?_
  unfold FX10_copiesCells at e
  refine j_iconst (v := (0 : Int32)) C dX10_copiesCells_0 (by decide) ?_
  refine j_istore_n (lv1 := [(3, .int (0 : Int32)), (0, .ref l0), (1, .ref l1), (2, .ref l2)]) C hL dX10_copiesCells_1 rfl (Nat.le_of_ble_eq_true rfl) rfl ?_
  refine jx_sub (lv' := [(1, .ref l1), (2, .ref l2), (3, .int (0 : Int32))]) [2, 3, 0] rfl ?_
  refine itr_ind (s0 := ((0 : Int32), h)) (fun s : Int32 × jx_H => jx_J X 0 0 2 [(1, .ref l1), (2, .ref l2), (3, .int s.1)] [] s.2) e ?_
  clear e
  intro s kI2 kT2 e0
  obtain ⟨z4, h5⟩ := s
  obtain ⟨u2, e0_2⟩ := e0
  have e : LX10_copiesCells_2 l1 l2 z4 h5 = some u2 := e0_2
  unfold LX10_copiesCells_2 at e
  refine j_iload_n C dX10_copiesCells_2 rfl rfl ?_
  refine j_sipush (v := (144 : Int32)) C dX10_copiesCells_3 (by decide) ?_
  refine j_icmp_ge (tgt := 21) C dX10_copiesCells_6 (by decide) (fun c8 => ?_) (fun c8 => ?_)
  · replace e := ifp c8 e
    obtain ⟨t_3, e_3, eu_3⟩ := exL_spec e
    obtain rfl := kT2 t_3 (e0_2.trans (congrArg some eu_3))
    replace e := e_3
    cases e
    exact j_vret C hq dX10_copiesCells_21 ⟨Nat.le_of_ble_eq_true rfl, Nat.le_of_ble_eq_true rfl⟩ ⟨rfl, rfl⟩
  · replace e := ifn c8 e
    refine j_aload_n C dX10_copiesCells_9 rfl rfl ?_
    refine j_iload_n C dX10_copiesCells_10 rfl rfl ?_
    refine j_aload_n C dX10_copiesCells_11 rfl rfl ?_
    refine j_iload_n C dX10_copiesCells_12 rfl rfl ?_
    replace e := ob e
    obtain ⟨x6, ex6, e⟩ := e
    refine j_iald C dX10_copiesCells_13 ex6 ?_
    replace e := ob e
    obtain ⟨h7, eh7, e⟩ := e
    refine j_iast C dX10_copiesCells_14 eh7 ?_
    refine j_iinc (v := (z4 + (1 : Int32))) (lv1 := [(3, .int (z4 + (1 : Int32))), (1, .ref l1), (2, .ref l2)]) C hL dX10_copiesCells_15 rfl rfl (Nat.le_of_ble_eq_true rfl) rfl ?_
    refine j_goto (tgt := 2) C dX10_copiesCells_18 (by decide) ?_
    obtain rfl := Option.some.inj e
    refine jx_sub (lv' := [(1, .ref l1), (2, .ref l2), (3, .int (z4 + (1 : Int32)))]) [1, 2, 0] rfl ?_
    exact kI2 ((z4 + (1 : Int32)), h7) e0_2
/-! BorderBasisModel.laysOne([I)V -/
noncomputable def BX10_laysOne_23 (l1 : Nat) (l2 : Int32) (s0 : Nat) (s1 : Int32) (s2 : Int32) (h : jx_H) : Option ((Int32 × jx_H) ⊕ (jx_H)) :=
(has h .int s0 s1 s2).bind fun h1 =>
some (.inl ((l2 + (1 : Int32)), h1))
noncomputable def LX10_laysOne_2 (l1 : Nat) (l2 : Int32) (h : jx_H) : Option ((Int32 × jx_H) ⊕ (jx_H)) :=
if (144 : Int32) ≤ l2 then
 exL (some h)
else
 if (l2 - l2 / (13 : Int32) * (13 : Int32)) = 0 then
  BX10_laysOne_23 l1 l2 l1 l2 (1 : Int32) h
 else
  BX10_laysOne_23 l1 l2 l1 l2 (0 : Int32) h
noncomputable def FX10_laysOne (l0 : Nat) (l1 : Nat) (h : jx_H) : Option (jx_H) :=
itr (fun s : Int32 × jx_H => LX10_laysOne_2 l1 s.1 s.2) ((0 : Int32), h)
def rmX10_laysOne : Room := { frames := 0, cells := 0, slots := 0, locals := 0 }
set_option maxRecDepth 20000 in
set_option maxHeartbeats 4000000 in
theorem sX10_laysOne {l0 : Nat} {l1 : Nat} {h : jx_H} {h9 : jx_H} (e : FX10_laysOne l0 l1 h = some h9) : jx_Ct yX10_laysOne cX10_laysOne 3 none rmX10_laysOne [.ref l0, .ref l1] h (fun r' h' => none = r' ∧ h9 = h') := by
  refine jx_Ct.of (own := RX10) (by decide) rfl (Nat.le_of_ble_eq_true rfl) (fun X C hq hr hL hN => ?_)
  refine jx_sub (lv' := [(0, .ref l0), (1, .ref l1)]) [0, 1] rfl ?_
  unfold FX10_laysOne at e
  refine j_iconst (v := (0 : Int32)) C dX10_laysOne_0 (by decide) ?_
  refine j_istore_n (lv1 := [(2, .int (0 : Int32)), (0, .ref l0), (1, .ref l1)]) C hL dX10_laysOne_1 rfl (Nat.le_of_ble_eq_true rfl) rfl ?_
  refine jx_sub (lv' := [(1, .ref l1), (2, .int (0 : Int32))]) [2, 0] rfl ?_
  refine itr_ind (s0 := ((0 : Int32), h)) (fun s : Int32 × jx_H => jx_J X 0 0 2 [(1, .ref l1), (2, .int s.1)] [] s.2) e ?_
  clear e
  intro s kI2 kT2 e0
  obtain ⟨z4, h5⟩ := s
  obtain ⟨u2, e0_2⟩ := e0
  have e : LX10_laysOne_2 l1 z4 h5 = some u2 := e0_2
  have b23 : ∀ (y6 : Int32) (y7 : Nat) (y8 : Int32) (y9 : Int32) (h10 : jx_H), BX10_laysOne_23 l1 y6 y7 y8 y9 h10 = some u2 → jx_J X 0 0 23 [(1, .ref l1), (2, .int y6)] [.int y9, .int y8, .ref y7] h10 := by
    intro y6 y7 y8 y9 h10 e
    unfold BX10_laysOne_23 at e
    replace e := ob e
    obtain ⟨h11, eh11, e⟩ := e
    refine j_iast C dX10_laysOne_23 eh11 ?_
    refine j_iinc (v := (y6 + (1 : Int32))) (lv1 := [(2, .int (y6 + (1 : Int32))), (1, .ref l1)]) C hL dX10_laysOne_24 rfl rfl (Nat.le_of_ble_eq_true rfl) rfl ?_
    refine j_goto (tgt := 2) C dX10_laysOne_27 (by decide) ?_
    obtain rfl := Option.some.inj e
    refine jx_sub (lv' := [(1, .ref l1), (2, .int (y6 + (1 : Int32)))]) [1, 0] rfl ?_
    exact kI2 ((y6 + (1 : Int32)), h11) e0_2
  unfold LX10_laysOne_2 at e
  refine j_iload_n C dX10_laysOne_2 rfl rfl ?_
  refine j_sipush (v := (144 : Int32)) C dX10_laysOne_3 (by decide) ?_
  refine j_icmp_ge (tgt := 30) C dX10_laysOne_6 (by decide) (fun c13 => ?_) (fun c13 => ?_)
  · replace e := ifp c13 e
    obtain ⟨t_3, e_3, eu_3⟩ := exL_spec e
    obtain rfl := kT2 t_3 (e0_2.trans (congrArg some eu_3))
    replace e := e_3
    cases e
    exact j_vret C hq dX10_laysOne_30 ⟨Nat.le_of_ble_eq_true rfl, Nat.le_of_ble_eq_true rfl⟩ ⟨rfl, rfl⟩
  · replace e := ifn c13 e
    refine j_aload_n C dX10_laysOne_9 rfl rfl ?_
    refine j_iload_n C dX10_laysOne_10 rfl rfl ?_
    refine j_iload_n C dX10_laysOne_11 rfl rfl ?_
    refine j_bipush (v := (13 : Int32)) C dX10_laysOne_12 (by decide) ?_
    refine j_irem C dX10_laysOne_14 (by decide) ?_
    refine j_if_ne (tgt := 22) C dX10_laysOne_15 (by decide) (fun c12 => ?_) (fun c12 => ?_)
    · replace e := ifn c12 e
      refine j_iconst (v := (0 : Int32)) C dX10_laysOne_22 (by decide) ?_
      exact b23 z4 l1 z4 (0 : Int32) h5 e
    · replace e := ifp c12 e
      refine j_iconst (v := (1 : Int32)) C dX10_laysOne_18 (by decide) ?_
      refine j_goto (tgt := 23) C dX10_laysOne_19 (by decide) ?_
      exact b23 z4 l1 z4 (1 : Int32) h5 e
/-! BorderBasisModel.differences()I -/
noncomputable def BX10_differences_87 (l0 : Nat) (l2 : Int32) (l3 : Int32) (s0 : Int32) (s1 : Int32) (h : jx_H) : Option ((Int32 × Int32) ⊕ ((Int32 × Int32) ⊕ (Int32 × jx_H))) :=
some (.inl ((s0 + s1), (l3 + (1 : Int32))))
noncomputable def LX10_differences_50 (l0 : Nat) (l2 : Int32) (l1 : Int32) (l3 : Int32) (h : jx_H) : Option ((Int32 × Int32) ⊕ ((Int32 × Int32) ⊕ (Int32 × jx_H))) :=
(isO h l0 10).bind fun _ =>
(FX10_n l0 h).bind fun x16 =>
if x16 ≤ l3 then
 exL (some (.inl (l1, (l2 + (1 : Int32)))))
else
 (hgr h l0 10 23).bind fun x17 =>
 (FX10_cell l2 l3 h).bind fun x18 =>
 (hal h .int x17 x18).bind fun x19 =>
 (hgr h l0 10 24).bind fun x20 =>
 (FX10_cell l2 l3 h).bind fun x21 =>
 (hal h .int x20 x21).bind fun x22 =>
 if x19 = x22 then
  BX10_differences_87 l0 l2 l3 l1 (0 : Int32) h
 else
  BX10_differences_87 l0 l2 l3 l1 (1 : Int32) h
noncomputable def LX10_differences_40 (l0 : Nat) (l1 : Int32) (l2 : Int32) (h : jx_H) : Option ((Int32 × Int32) ⊕ (Int32 × jx_H)) :=
(isO h l0 10).bind fun _ =>
(FX10_n l0 h).bind fun x14 =>
if x14 ≤ l2 then
 exL (some (l1, h))
else
 itr (fun s : Int32 × Int32 => LX10_differences_50 l0 l2 s.1 s.2 h) (l1, (0 : Int32))
noncomputable def FX10_differences (l0 : Nat) (h : jx_H) : Option (Int32 × jx_H) :=
(isO h l0 10).bind fun _ =>
(FX10_laysTables l0 h).bind fun h2 =>
(hgr h2 l0 10 20).bind fun x3 =>
(hgr h2 l0 10 21).bind fun x4 =>
(hgr h2 l0 10 23).bind fun x5 =>
(isO h2 l0 10).bind fun _ =>
(FX10_multiplies l0 x3 x4 x5 h2).bind fun h7 =>
(hgr h7 l0 10 21).bind fun x8 =>
(hgr h7 l0 10 20).bind fun x9 =>
(hgr h7 l0 10 24).bind fun x10 =>
(isO h7 l0 10).bind fun _ =>
(FX10_multiplies l0 x8 x9 x10 h7).bind fun h12 =>
itr (fun s : Int32 × Int32 => LX10_differences_40 l0 s.1 s.2 h12) ((0 : Int32), (0 : Int32))
def rmX10_differences : Room := { frames := 4, cells := 0, slots := 0, locals := 91 }
set_option maxRecDepth 20000 in
set_option maxHeartbeats 4000000 in
theorem sX10_differences {l0 : Nat} {h : jx_H} {r : Int32} {h9 : jx_H} (e : FX10_differences l0 h = some (r, h9)) : jx_Ct yX10_differences cX10_differences 4 (some .int) rmX10_differences [.ref l0] h (fun r' h' => some (.int r) = r' ∧ h9 = h') := by
  refine jx_Ct.of (own := RX10) (by decide) rfl (Nat.le_of_ble_eq_true rfl) (fun X C hq hr hL hN => ?_)
  refine jx_sub (lv' := [(0, .ref l0)]) [0] rfl ?_
  unfold FX10_differences at e
  refine j_aload_n C dX10_differences_0 rfl rfl ?_
  replace e := ob e
  obtain ⟨_, eo26, e⟩ := e
  replace e := ob e
  obtain ⟨h27, eh27, e⟩ := e
  refine j_callV (ci := 10) (RC := RX10) (T := TX10) (N := 38) (As := []) (b := l0) (na := 0) (st := []) (k1 := 0) (n1 := 0) C hr (sX10_laysTables eh27) rfl eo26 kX10_261 kim_X10_laysTables ksel_X10_laysTables kini_X10 kc_X10_laysTables (by decide) rfl ⟨(Nat.le_of_ble_eq_true rfl), (Nat.le_of_ble_eq_true rfl)⟩ (Nat.le_of_ble_eq_true rfl) ⟨rfl, rfl, (Nat.le_of_ble_eq_true rfl), (Nat.le_of_ble_eq_true rfl)⟩ dX10_differences_1 ?_
  rintro _ _ ⟨rfl, rfl⟩
  show jx_J X 0 0 4 [(0, .ref l0)] [] h27
  refine j_aload_n C dX10_differences_4 rfl rfl ?_
  refine j_aload_n C dX10_differences_5 rfl rfl ?_
  replace e := ob e
  obtain ⟨x28, ex28, e⟩ := e
  refine j_getr (ci := 10) (RC := RX10) (T := TX10) (N := 38) 20 C rfl klX10 (Nat.le_of_ble_eq_true rfl) kX10_43 rfl dX10_differences_6 ex28 ?_
  refine j_aload_n C dX10_differences_9 rfl rfl ?_
  replace e := ob e
  obtain ⟨x29, ex29, e⟩ := e
  refine j_getr (ci := 10) (RC := RX10) (T := TX10) (N := 38) 21 C rfl klX10 (Nat.le_of_ble_eq_true rfl) kX10_46 rfl dX10_differences_10 ex29 ?_
  refine j_aload_n C dX10_differences_13 rfl rfl ?_
  replace e := ob e
  obtain ⟨x30, ex30, e⟩ := e
  refine j_getr (ci := 10) (RC := RX10) (T := TX10) (N := 38) 23 C rfl klX10 (Nat.le_of_ble_eq_true rfl) kX10_52 rfl dX10_differences_14 ex30 ?_
  replace e := ob e
  obtain ⟨_, eo31, e⟩ := e
  replace e := ob e
  obtain ⟨h32, eh32, e⟩ := e
  refine j_callV (ci := 10) (RC := RX10) (T := TX10) (N := 38) (As := [.ref x28, .ref x29, .ref x30]) (b := l0) (na := 3) (st := []) (k1 := 0) (n1 := 0) C hr (sX10_multiplies eh32) rfl eo31 kX10_264 kim_X10_multiplies ksel_X10_multiplies kini_X10 kc_X10_multiplies (by decide) rfl ⟨(Nat.le_of_ble_eq_true rfl), (Nat.le_of_ble_eq_true rfl)⟩ (Nat.le_of_ble_eq_true rfl) ⟨rfl, rfl, (Nat.le_of_ble_eq_true rfl), (Nat.le_of_ble_eq_true rfl)⟩ dX10_differences_17 ?_
  rintro _ _ ⟨rfl, rfl⟩
  show jx_J X 0 0 20 [(0, .ref l0)] [] h32
  refine j_aload_n C dX10_differences_20 rfl rfl ?_
  refine j_aload_n C dX10_differences_21 rfl rfl ?_
  replace e := ob e
  obtain ⟨x33, ex33, e⟩ := e
  refine j_getr (ci := 10) (RC := RX10) (T := TX10) (N := 38) 21 C rfl klX10 (Nat.le_of_ble_eq_true rfl) kX10_46 rfl dX10_differences_22 ex33 ?_
  refine j_aload_n C dX10_differences_25 rfl rfl ?_
  replace e := ob e
  obtain ⟨x34, ex34, e⟩ := e
  refine j_getr (ci := 10) (RC := RX10) (T := TX10) (N := 38) 20 C rfl klX10 (Nat.le_of_ble_eq_true rfl) kX10_43 rfl dX10_differences_26 ex34 ?_
  refine j_aload_n C dX10_differences_29 rfl rfl ?_
  replace e := ob e
  obtain ⟨x35, ex35, e⟩ := e
  refine j_getr (ci := 10) (RC := RX10) (T := TX10) (N := 38) 24 C rfl klX10 (Nat.le_of_ble_eq_true rfl) kX10_55 rfl dX10_differences_30 ex35 ?_
  replace e := ob e
  obtain ⟨_, eo36, e⟩ := e
  replace e := ob e
  obtain ⟨h37, eh37, e⟩ := e
  refine j_callV (ci := 10) (RC := RX10) (T := TX10) (N := 38) (As := [.ref x33, .ref x34, .ref x35]) (b := l0) (na := 3) (st := []) (k1 := 0) (n1 := 0) C hr (sX10_multiplies eh37) rfl eo36 kX10_264 kim_X10_multiplies ksel_X10_multiplies kini_X10 kc_X10_multiplies (by decide) rfl ⟨(Nat.le_of_ble_eq_true rfl), (Nat.le_of_ble_eq_true rfl)⟩ (Nat.le_of_ble_eq_true rfl) ⟨rfl, rfl, (Nat.le_of_ble_eq_true rfl), (Nat.le_of_ble_eq_true rfl)⟩ dX10_differences_33 ?_
  rintro _ _ ⟨rfl, rfl⟩
  show jx_J X 0 0 36 [(0, .ref l0)] [] h37
  refine j_iconst (v := (0 : Int32)) C dX10_differences_36 (by decide) ?_
  refine j_istore_n (lv1 := [(1, .int (0 : Int32)), (0, .ref l0)]) C hL dX10_differences_37 rfl (Nat.le_of_ble_eq_true rfl) rfl ?_
  refine j_iconst (v := (0 : Int32)) C dX10_differences_38 (by decide) ?_
  refine j_istore_n (lv1 := [(2, .int (0 : Int32)), (1, .int (0 : Int32)), (0, .ref l0)]) C hL dX10_differences_39 rfl (Nat.le_of_ble_eq_true rfl) rfl ?_
  refine jx_sub (lv' := [(0, .ref l0), (1, .int (0 : Int32)), (2, .int (0 : Int32))]) [2, 1, 0] rfl ?_
  refine itr_ind (s0 := ((0 : Int32), (0 : Int32))) (fun s : Int32 × Int32 => jx_J X 0 0 40 [(0, .ref l0), (1, .int s.1), (2, .int s.2)] [] h37) e ?_
  clear e
  intro s kI3 kT3 e0
  obtain ⟨z38, z39⟩ := s
  obtain ⟨u3, e0_3⟩ := e0
  have e : LX10_differences_40 l0 z38 z39 h37 = some u3 := e0_3
  unfold LX10_differences_40 at e
  refine j_iload_n C dX10_differences_40 rfl rfl ?_
  refine j_aload_n C dX10_differences_41 rfl rfl ?_
  replace e := ob e
  obtain ⟨_, eo40, e⟩ := e
  replace e := ob e
  obtain ⟨x41, ex41, e⟩ := e
  refine j_callV (ci := 10) (RC := RX10) (T := TX10) (N := 38) (As := []) (b := l0) (na := 0) (st := [.int z39]) (k1 := 0) (n1 := 0) C hr (sX10_n ex41) rfl eo40 kX10_105 kim_X10_n ksel_X10_n kini_X10 kc_X10_n (by decide) rfl ⟨(Nat.le_of_ble_eq_true rfl), (Nat.le_of_ble_eq_true rfl)⟩ (Nat.le_of_ble_eq_true rfl) ⟨rfl, rfl, (Nat.le_of_ble_eq_true rfl), (Nat.le_of_ble_eq_true rfl)⟩ dX10_differences_42 ?_
  rintro _ _ ⟨rfl, rfl⟩
  show jx_J X 0 0 45 [(0, .ref l0), (1, .int z38), (2, .int z39)] [.int x41, .int z39] h37
  refine j_icmp_ge (tgt := 101) C dX10_differences_45 (by decide) (fun c57 => ?_) (fun c57 => ?_)
  · replace e := ifp c57 e
    obtain ⟨t_4, e_4, eu_4⟩ := exL_spec e
    obtain rfl := kT3 t_4 (e0_3.trans (congrArg some eu_4))
    replace e := e_4
    refine j_iload_n C dX10_differences_101 rfl rfl ?_
    cases e
    exact j_iret C hq rfl dX10_differences_102 ⟨Nat.le_of_ble_eq_true rfl, Nat.le_of_ble_eq_true rfl⟩ ⟨rfl, rfl⟩
  · replace e := ifn c57 e
    refine j_iconst (v := (0 : Int32)) C dX10_differences_48 (by decide) ?_
    refine j_istore_n (lv1 := [(3, .int (0 : Int32)), (0, .ref l0), (1, .int z38), (2, .int z39)]) C hL dX10_differences_49 rfl (Nat.le_of_ble_eq_true rfl) rfl ?_
    refine jx_sub (lv' := [(0, .ref l0), (1, .int z38), (2, .int z39), (3, .int (0 : Int32))]) [1, 2, 3, 0] rfl ?_
    refine itr_ind (s0 := (z38, (0 : Int32))) (fun s : Int32 × Int32 => jx_J X 0 0 50 [(0, .ref l0), (1, .int s.1), (2, .int z39), (3, .int s.2)] [] h37) e ?_
    clear e
    intro s kI5 kT5 e0
    obtain ⟨z42, z43⟩ := s
    obtain ⟨u5, e0_5⟩ := e0
    have e : LX10_differences_50 l0 z39 z42 z43 h37 = some u5 := e0_5
    have b87 : ∀ (y44 : Int32) (y45 : Int32) (y46 : Int32), BX10_differences_87 l0 z39 y44 y45 y46 h37 = some u5 → jx_J X 0 0 87 [(0, .ref l0), (2, .int z39), (3, .int y44)] [.int y46, .int y45] h37 := by
      intro y44 y45 y46 e
      unfold BX10_differences_87 at e
      refine j_iadd C dX10_differences_87 ?_
      refine j_istore_n (lv1 := [(1, .int (y45 + y46)), (0, .ref l0), (2, .int z39), (3, .int y44)]) C hL dX10_differences_88 rfl (Nat.le_of_ble_eq_true rfl) rfl ?_
      refine j_iinc (v := (y44 + (1 : Int32))) (lv1 := [(3, .int (y44 + (1 : Int32))), (1, .int (y45 + y46)), (0, .ref l0), (2, .int z39)]) C hL dX10_differences_89 rfl rfl (Nat.le_of_ble_eq_true rfl) rfl ?_
      refine j_goto (tgt := 50) C dX10_differences_92 (by decide) ?_
      obtain rfl := Option.some.inj e
      refine jx_sub (lv' := [(0, .ref l0), (1, .int (y45 + y46)), (2, .int z39), (3, .int (y44 + (1 : Int32)))]) [2, 1, 3, 0] rfl ?_
      exact kI5 ((y45 + y46), (y44 + (1 : Int32))) e0_5
    unfold LX10_differences_50 at e
    refine j_iload_n C dX10_differences_50 rfl rfl ?_
    refine j_aload_n C dX10_differences_51 rfl rfl ?_
    replace e := ob e
    obtain ⟨_, eo47, e⟩ := e
    replace e := ob e
    obtain ⟨x48, ex48, e⟩ := e
    refine j_callV (ci := 10) (RC := RX10) (T := TX10) (N := 38) (As := []) (b := l0) (na := 0) (st := [.int z43]) (k1 := 0) (n1 := 0) C hr (sX10_n ex48) rfl eo47 kX10_105 kim_X10_n ksel_X10_n kini_X10 kc_X10_n (by decide) rfl ⟨(Nat.le_of_ble_eq_true rfl), (Nat.le_of_ble_eq_true rfl)⟩ (Nat.le_of_ble_eq_true rfl) ⟨rfl, rfl, (Nat.le_of_ble_eq_true rfl), (Nat.le_of_ble_eq_true rfl)⟩ dX10_differences_52 ?_
    rintro _ _ ⟨rfl, rfl⟩
    show jx_J X 0 0 55 [(0, .ref l0), (1, .int z42), (2, .int z39), (3, .int z43)] [.int x48, .int z43] h37
    refine j_icmp_ge (tgt := 95) C dX10_differences_55 (by decide) (fun c56 => ?_) (fun c56 => ?_)
    · replace e := ifp c56 e
      obtain ⟨t_6, e_6, eu_6⟩ := exL_spec e
      obtain rfl := kT5 t_6 (e0_5.trans (congrArg some eu_6))
      replace e := e_6
      refine j_iinc (v := (z39 + (1 : Int32))) (lv1 := [(2, .int (z39 + (1 : Int32))), (0, .ref l0), (1, .int z42), (3, .int z43)]) C hL dX10_differences_95 rfl rfl (Nat.le_of_ble_eq_true rfl) rfl ?_
      refine j_goto (tgt := 40) C dX10_differences_98 (by decide) ?_
      obtain rfl := Option.some.inj e
      refine jx_sub (lv' := [(0, .ref l0), (1, .int z42), (2, .int (z39 + (1 : Int32)))]) [1, 2, 0] rfl ?_
      exact kI3 (z42, (z39 + (1 : Int32))) e0_3
    · replace e := ifn c56 e
      refine j_iload_n C dX10_differences_58 rfl rfl ?_
      refine j_aload_n C dX10_differences_59 rfl rfl ?_
      replace e := ob e
      obtain ⟨x49, ex49, e⟩ := e
      refine j_getr (ci := 10) (RC := RX10) (T := TX10) (N := 38) 23 C rfl klX10 (Nat.le_of_ble_eq_true rfl) kX10_52 rfl dX10_differences_60 ex49 ?_
      refine j_iload_n C dX10_differences_63 rfl rfl ?_
      refine j_iload_n C dX10_differences_64 rfl rfl ?_
      replace e := ob e
      obtain ⟨x50, ex50, e⟩ := e
      refine j_callS (As := [.int z39, .int z43]) (na := 2) (st := [.ref x49, .int z42]) (k1 := 0) (n1 := 0) C hr (sX10_cell ex50) kX10_254 kst_X10_cell kini_X10 kc_X10_cell (by decide) rfl ⟨(Nat.le_of_ble_eq_true rfl), (Nat.le_of_ble_eq_true rfl)⟩ (Nat.le_of_ble_eq_true rfl) ⟨rfl, rfl, (Nat.le_of_ble_eq_true rfl), (Nat.le_of_ble_eq_true rfl)⟩ dX10_differences_65 ?_
      rintro _ _ ⟨rfl, rfl⟩
      show jx_J X 0 0 68 [(0, .ref l0), (1, .int z42), (2, .int z39), (3, .int z43)] [.int x50, .ref x49, .int z42] h37
      replace e := ob e
      obtain ⟨x51, ex51, e⟩ := e
      refine j_iald C dX10_differences_68 ex51 ?_
      refine j_aload_n C dX10_differences_69 rfl rfl ?_
      replace e := ob e
      obtain ⟨x52, ex52, e⟩ := e
      refine j_getr (ci := 10) (RC := RX10) (T := TX10) (N := 38) 24 C rfl klX10 (Nat.le_of_ble_eq_true rfl) kX10_55 rfl dX10_differences_70 ex52 ?_
      refine j_iload_n C dX10_differences_73 rfl rfl ?_
      refine j_iload_n C dX10_differences_74 rfl rfl ?_
      replace e := ob e
      obtain ⟨x53, ex53, e⟩ := e
      refine j_callS (As := [.int z39, .int z43]) (na := 2) (st := [.ref x52, .int x51, .int z42]) (k1 := 0) (n1 := 0) C hr (sX10_cell ex53) kX10_254 kst_X10_cell kini_X10 kc_X10_cell (by decide) rfl ⟨(Nat.le_of_ble_eq_true rfl), (Nat.le_of_ble_eq_true rfl)⟩ (Nat.le_of_ble_eq_true rfl) ⟨rfl, rfl, (Nat.le_of_ble_eq_true rfl), (Nat.le_of_ble_eq_true rfl)⟩ dX10_differences_75 ?_
      rintro _ _ ⟨rfl, rfl⟩
      show jx_J X 0 0 78 [(0, .ref l0), (1, .int z42), (2, .int z39), (3, .int z43)] [.int x53, .ref x52, .int x51, .int z42] h37
      replace e := ob e
      obtain ⟨x54, ex54, e⟩ := e
      refine j_iald C dX10_differences_78 ex54 ?_
      refine j_icmp_ne (tgt := 86) C dX10_differences_79 (by decide) (fun c55 => ?_) (fun c55 => ?_)
      · replace e := ifn c55 e
        refine j_iconst (v := (1 : Int32)) C dX10_differences_86 (by decide) ?_
        refine jx_sub (lv' := [(0, .ref l0), (2, .int z39), (3, .int z43)]) [0, 2, 3] rfl ?_
        exact b87 z43 z42 (1 : Int32) e
      · replace e := ifp c55 e
        refine j_iconst (v := (0 : Int32)) C dX10_differences_82 (by decide) ?_
        refine j_goto (tgt := 87) C dX10_differences_83 (by decide) ?_
        refine jx_sub (lv' := [(0, .ref l0), (2, .int z39), (3, .int z43)]) [0, 2, 3] rfl ?_
        exact b87 z43 z42 (0 : Int32) e
/-! BorderBasisModel.areFriends()Z -/
noncomputable def FX10_areFriends (l0 : Nat) (h : jx_H) : Option (Int32 × jx_H) :=
(isO h l0 10).bind fun _ =>
bind2 (FX10_differences l0 h) fun x2 h3 =>
if x2 = 0 then
 some ((1 : Int32), h3)
else
 some ((0 : Int32), h3)
def rmX10_areFriends : Room := { frames := 5, cells := 0, slots := 0, locals := 114 }
set_option maxRecDepth 20000 in
set_option maxHeartbeats 4000000 in
theorem sX10_areFriends {l0 : Nat} {h : jx_H} {r : Int32} {h9 : jx_H} (e : FX10_areFriends l0 h = some (r, h9)) : jx_Ct yX10_areFriends cX10_areFriends 1 (some .boolean) rmX10_areFriends [.ref l0] h (fun r' h' => some (.int r) = r' ∧ h9 = h') := by
  refine jx_Ct.of (own := RX10) (by decide) rfl (Nat.le_of_ble_eq_true rfl) (fun X C hq hr hL hN => ?_)
  refine jx_sub (lv' := [(0, .ref l0)]) [0] rfl ?_
  unfold FX10_areFriends at e
  refine j_aload_n C dX10_areFriends_0 rfl rfl ?_
  replace e := ob e
  obtain ⟨_, eo5, e⟩ := e
  replace e := ob2 e
  obtain ⟨x6, h7, ex6, e⟩ := e
  refine j_callV (ci := 10) (RC := RX10) (T := TX10) (N := 38) (As := []) (b := l0) (na := 0) (st := []) (k1 := 0) (n1 := 0) C hr (sX10_differences ex6) rfl eo5 kX10_268 kim_X10_differences ksel_X10_differences kini_X10 kc_X10_differences (by decide) rfl ⟨(Nat.le_of_ble_eq_true rfl), (Nat.le_of_ble_eq_true rfl)⟩ (Nat.le_of_ble_eq_true rfl) ⟨rfl, rfl, (Nat.le_of_ble_eq_true rfl), (Nat.le_of_ble_eq_true rfl)⟩ dX10_areFriends_1 ?_
  rintro _ _ ⟨rfl, rfl⟩
  show jx_J X 0 0 4 [(0, .ref l0)] [.int x6] h7
  refine j_if_ne (tgt := 11) C dX10_areFriends_4 (by decide) (fun c8 => ?_) (fun c8 => ?_)
  · replace e := ifn c8 e
    refine j_iconst (v := (0 : Int32)) C dX10_areFriends_11 (by decide) ?_
    cases e
    exact j_iret C hq rfl dX10_areFriends_12 ⟨Nat.le_of_ble_eq_true rfl, Nat.le_of_ble_eq_true rfl⟩ ⟨rfl, rfl⟩
  · replace e := ifp c8 e
    refine j_iconst (v := (1 : Int32)) C dX10_areFriends_7 (by decide) ?_
    refine j_goto (tgt := 12) C dX10_areFriends_8 (by decide) ?_
    cases e
    exact j_iret C hq rfl dX10_areFriends_12 ⟨Nat.le_of_ble_eq_true rfl, Nat.le_of_ble_eq_true rfl⟩ ⟨rfl, rfl⟩
/-! BorderBasisModel.raises([II)V -/
noncomputable def LX10_raises_10 (l0 : Nat) (l1 : Nat) (l2 : Int32) (l3 : Int32) (h : jx_H) : Option ((Int32 × jx_H) ⊕ (jx_H)) :=
if l2 ≤ l3 then
 exL (some h)
else
 (hgr h l0 10 22).bind fun x4 =>
 (hgr h l0 10 24).bind fun x5 =>
 (isO h l0 10).bind fun _ =>
 (FX10_multiplies l0 l1 x4 x5 h).bind fun h7 =>
 (hgr h7 l0 10 24).bind fun x8 =>
 (hgr h7 l0 10 22).bind fun x9 =>
 (isO h7 l0 10).bind fun _ =>
 (FX10_copiesCells l0 x8 x9 h7).bind fun h11 =>
 some (.inl ((l3 + (1 : Int32)), h11))
noncomputable def FX10_raises (l0 : Nat) (l1 : Nat) (l2 : Int32) (h : jx_H) : Option (jx_H) :=
(hgr h l0 10 22).bind fun x1 =>
(isO h l0 10).bind fun _ =>
(FX10_laysOne l0 x1 h).bind fun h3 =>
itr (fun s : Int32 × jx_H => LX10_raises_10 l0 l1 l2 s.1 s.2) ((0 : Int32), h3)
def rmX10_raises : Room := { frames := 2, cells := 0, slots := 0, locals := 48 }
set_option maxRecDepth 20000 in
set_option maxHeartbeats 4000000 in
theorem sX10_raises {l0 : Nat} {l1 : Nat} {l2 : Int32} {h : jx_H} {h9 : jx_H} (e : FX10_raises l0 l1 l2 h = some h9) : jx_Ct yX10_raises cX10_raises 4 none rmX10_raises [.ref l0, .ref l1, .int l2] h (fun r' h' => none = r' ∧ h9 = h') := by
  refine jx_Ct.of (own := RX10) (by decide) rfl (Nat.le_of_ble_eq_true rfl) (fun X C hq hr hL hN => ?_)
  refine jx_sub (lv' := [(0, .ref l0), (1, .ref l1), (2, .int l2)]) [0, 1, 2] rfl ?_
  unfold FX10_raises at e
  refine j_aload_n C dX10_raises_0 rfl rfl ?_
  refine j_aload_n C dX10_raises_1 rfl rfl ?_
  replace e := ob e
  obtain ⟨x13, ex13, e⟩ := e
  refine j_getr (ci := 10) (RC := RX10) (T := TX10) (N := 38) 22 C rfl klX10 (Nat.le_of_ble_eq_true rfl) kX10_49 rfl dX10_raises_2 ex13 ?_
  replace e := ob e
  obtain ⟨_, eo14, e⟩ := e
  replace e := ob e
  obtain ⟨h15, eh15, e⟩ := e
  refine j_callV (ci := 10) (RC := RX10) (T := TX10) (N := 38) (As := [.ref x13]) (b := l0) (na := 1) (st := []) (k1 := 0) (n1 := 0) C hr (sX10_laysOne eh15) rfl eo14 kX10_271 kim_X10_laysOne ksel_X10_laysOne kini_X10 kc_X10_laysOne (by decide) rfl ⟨(Nat.le_of_ble_eq_true rfl), (Nat.le_of_ble_eq_true rfl)⟩ (Nat.le_of_ble_eq_true rfl) ⟨rfl, rfl, (Nat.le_of_ble_eq_true rfl), (Nat.le_of_ble_eq_true rfl)⟩ dX10_raises_5 ?_
  rintro _ _ ⟨rfl, rfl⟩
  show jx_J X 0 0 8 [(0, .ref l0), (1, .ref l1), (2, .int l2)] [] h15
  refine j_iconst (v := (0 : Int32)) C dX10_raises_8 (by decide) ?_
  refine j_istore_n (lv1 := [(3, .int (0 : Int32)), (0, .ref l0), (1, .ref l1), (2, .int l2)]) C hL dX10_raises_9 rfl (Nat.le_of_ble_eq_true rfl) rfl ?_
  refine jx_sub (lv' := [(0, .ref l0), (1, .ref l1), (2, .int l2), (3, .int (0 : Int32))]) [1, 2, 3, 0] rfl ?_
  refine itr_ind (s0 := ((0 : Int32), h15)) (fun s : Int32 × jx_H => jx_J X 0 0 10 [(0, .ref l0), (1, .ref l1), (2, .int l2), (3, .int s.1)] [] s.2) e ?_
  clear e
  intro s kI2 kT2 e0
  obtain ⟨z16, h17⟩ := s
  obtain ⟨u2, e0_2⟩ := e0
  have e : LX10_raises_10 l0 l1 l2 z16 h17 = some u2 := e0_2
  unfold LX10_raises_10 at e
  refine j_iload_n C dX10_raises_10 rfl rfl ?_
  refine j_iload_n C dX10_raises_11 rfl rfl ?_
  refine j_icmp_ge (tgt := 46) C dX10_raises_12 (by decide) (fun c26 => ?_) (fun c26 => ?_)
  · replace e := ifp c26 e
    obtain ⟨t_3, e_3, eu_3⟩ := exL_spec e
    obtain rfl := kT2 t_3 (e0_2.trans (congrArg some eu_3))
    replace e := e_3
    cases e
    exact j_vret C hq dX10_raises_46 ⟨Nat.le_of_ble_eq_true rfl, Nat.le_of_ble_eq_true rfl⟩ ⟨rfl, rfl⟩
  · replace e := ifn c26 e
    refine j_aload_n C dX10_raises_15 rfl rfl ?_
    refine j_aload_n C dX10_raises_16 rfl rfl ?_
    refine j_aload_n C dX10_raises_17 rfl rfl ?_
    replace e := ob e
    obtain ⟨x18, ex18, e⟩ := e
    refine j_getr (ci := 10) (RC := RX10) (T := TX10) (N := 38) 22 C rfl klX10 (Nat.le_of_ble_eq_true rfl) kX10_49 rfl dX10_raises_18 ex18 ?_
    refine j_aload_n C dX10_raises_21 rfl rfl ?_
    replace e := ob e
    obtain ⟨x19, ex19, e⟩ := e
    refine j_getr (ci := 10) (RC := RX10) (T := TX10) (N := 38) 24 C rfl klX10 (Nat.le_of_ble_eq_true rfl) kX10_55 rfl dX10_raises_22 ex19 ?_
    replace e := ob e
    obtain ⟨_, eo20, e⟩ := e
    replace e := ob e
    obtain ⟨h21, eh21, e⟩ := e
    refine j_callV (ci := 10) (RC := RX10) (T := TX10) (N := 38) (As := [.ref l1, .ref x18, .ref x19]) (b := l0) (na := 3) (st := []) (k1 := 0) (n1 := 0) C hr (sX10_multiplies eh21) rfl eo20 kX10_264 kim_X10_multiplies ksel_X10_multiplies kini_X10 kc_X10_multiplies (by decide) rfl ⟨(Nat.le_of_ble_eq_true rfl), (Nat.le_of_ble_eq_true rfl)⟩ (Nat.le_of_ble_eq_true rfl) ⟨rfl, rfl, (Nat.le_of_ble_eq_true rfl), (Nat.le_of_ble_eq_true rfl)⟩ dX10_raises_25 ?_
    rintro _ _ ⟨rfl, rfl⟩
    show jx_J X 0 0 28 [(0, .ref l0), (1, .ref l1), (2, .int l2), (3, .int z16)] [] h21
    refine j_aload_n C dX10_raises_28 rfl rfl ?_
    refine j_aload_n C dX10_raises_29 rfl rfl ?_
    replace e := ob e
    obtain ⟨x22, ex22, e⟩ := e
    refine j_getr (ci := 10) (RC := RX10) (T := TX10) (N := 38) 24 C rfl klX10 (Nat.le_of_ble_eq_true rfl) kX10_55 rfl dX10_raises_30 ex22 ?_
    refine j_aload_n C dX10_raises_33 rfl rfl ?_
    replace e := ob e
    obtain ⟨x23, ex23, e⟩ := e
    refine j_getr (ci := 10) (RC := RX10) (T := TX10) (N := 38) 22 C rfl klX10 (Nat.le_of_ble_eq_true rfl) kX10_49 rfl dX10_raises_34 ex23 ?_
    replace e := ob e
    obtain ⟨_, eo24, e⟩ := e
    replace e := ob e
    obtain ⟨h25, eh25, e⟩ := e
    refine j_callV (ci := 10) (RC := RX10) (T := TX10) (N := 38) (As := [.ref x22, .ref x23]) (b := l0) (na := 2) (st := []) (k1 := 0) (n1 := 0) C hr (sX10_copiesCells eh25) rfl eo24 kX10_275 kim_X10_copiesCells ksel_X10_copiesCells kini_X10 kc_X10_copiesCells (by decide) rfl ⟨(Nat.le_of_ble_eq_true rfl), (Nat.le_of_ble_eq_true rfl)⟩ (Nat.le_of_ble_eq_true rfl) ⟨rfl, rfl, (Nat.le_of_ble_eq_true rfl), (Nat.le_of_ble_eq_true rfl)⟩ dX10_raises_37 ?_
    rintro _ _ ⟨rfl, rfl⟩
    show jx_J X 0 0 40 [(0, .ref l0), (1, .ref l1), (2, .int l2), (3, .int z16)] [] h25
    refine j_iinc (v := (z16 + (1 : Int32))) (lv1 := [(3, .int (z16 + (1 : Int32))), (0, .ref l0), (1, .ref l1), (2, .int l2)]) C hL dX10_raises_40 rfl rfl (Nat.le_of_ble_eq_true rfl) rfl ?_
    refine j_goto (tgt := 10) C dX10_raises_43 (by decide) ?_
    obtain rfl := Option.some.inj e
    refine jx_sub (lv' := [(0, .ref l0), (1, .ref l1), (2, .int l2), (3, .int (z16 + (1 : Int32)))]) [1, 2, 3, 0] rfl ?_
    exact kI2 ((z16 + (1 : Int32)), h25) e0_2
/-! BorderBasisModel.traceOf(II)I -/
noncomputable def LX10_traceOf_55 (l0 : Nat) (l3 : Int32) (l4 : Int32) (h : jx_H) : Option ((Int32 × Int32) ⊕ (Int32 × jx_H)) :=
(isO h l0 10).bind fun _ =>
(FX10_n l0 h).bind fun x5 =>
if x5 ≤ l4 then
 exL ((isO h l0 10).bind fun _ =>
 (FX10_p l0 h).bind fun x7 =>
 if x7 = 0 then none else
 some ((l3 - l3 / x7 * x7), h))
else
 (hgr h l0 10 22).bind fun x9 =>
 (FX10_cell l4 l4 h).bind fun x10 =>
 (hal h .int x9 x10).bind fun x11 =>
 some (.inl ((l3 + x11), (l4 + (1 : Int32))))
noncomputable def LX10_traceOf_11 (l0 : Nat) (l1 : Int32) (l3 : Int32) (h : jx_H) : Option ((Int32 × jx_H) ⊕ (Int32 × jx_H)) :=
if l1 ≤ l3 then
 exL (itr (fun s : Int32 × Int32 => LX10_traceOf_55 l0 s.1 s.2 h) ((0 : Int32), (0 : Int32)))
else
 (hgr h l0 10 20).bind fun x13 =>
 (hgr h l0 10 22).bind fun x14 =>
 (hgr h l0 10 24).bind fun x15 =>
 (isO h l0 10).bind fun _ =>
 (FX10_multiplies l0 x13 x14 x15 h).bind fun h17 =>
 (hgr h17 l0 10 24).bind fun x18 =>
 (hgr h17 l0 10 22).bind fun x19 =>
 (isO h17 l0 10).bind fun _ =>
 (FX10_copiesCells l0 x18 x19 h17).bind fun h21 =>
 some (.inl ((l3 + (1 : Int32)), h21))
noncomputable def FX10_traceOf (l0 : Nat) (l1 : Int32) (l2 : Int32) (h : jx_H) : Option (Int32 × jx_H) :=
(hgr h l0 10 21).bind fun x1 =>
(isO h l0 10).bind fun _ =>
(FX10_raises l0 x1 l2 h).bind fun h3 =>
itr (fun s : Int32 × jx_H => LX10_traceOf_11 l0 l1 s.1 s.2) ((0 : Int32), h3)
def rmX10_traceOf : Room := { frames := 3, cells := 0, slots := 0, locals := 71 }
set_option maxRecDepth 20000 in
set_option maxHeartbeats 4000000 in
theorem sX10_traceOf {l0 : Nat} {l1 : Int32} {l2 : Int32} {h : jx_H} {r : Int32} {h9 : jx_H} (e : FX10_traceOf l0 l1 l2 h = some (r, h9)) : jx_Ct yX10_traceOf cX10_traceOf 5 (some .int) rmX10_traceOf [.ref l0, .int l1, .int l2] h (fun r' h' => some (.int r) = r' ∧ h9 = h') := by
  refine jx_Ct.of (own := RX10) (by decide) rfl (Nat.le_of_ble_eq_true rfl) (fun X C hq hr hL hN => ?_)
  refine jx_sub (lv' := [(0, .ref l0), (1, .int l1), (2, .int l2)]) [0, 1, 2] rfl ?_
  unfold FX10_traceOf at e
  refine j_aload_n C dX10_traceOf_0 rfl rfl ?_
  refine j_aload_n C dX10_traceOf_1 rfl rfl ?_
  replace e := ob e
  obtain ⟨x23, ex23, e⟩ := e
  refine j_getr (ci := 10) (RC := RX10) (T := TX10) (N := 38) 21 C rfl klX10 (Nat.le_of_ble_eq_true rfl) kX10_46 rfl dX10_traceOf_2 ex23 ?_
  refine j_iload_n C dX10_traceOf_5 rfl rfl ?_
  replace e := ob e
  obtain ⟨_, eo24, e⟩ := e
  replace e := ob e
  obtain ⟨h25, eh25, e⟩ := e
  refine j_callV (ci := 10) (RC := RX10) (T := TX10) (N := 38) (As := [.ref x23, .int l2]) (b := l0) (na := 2) (st := []) (k1 := 0) (n1 := 0) C hr (sX10_raises eh25) rfl eo24 kX10_279 kim_X10_raises ksel_X10_raises kini_X10 kc_X10_raises (by decide) rfl ⟨(Nat.le_of_ble_eq_true rfl), (Nat.le_of_ble_eq_true rfl)⟩ (Nat.le_of_ble_eq_true rfl) ⟨rfl, rfl, (Nat.le_of_ble_eq_true rfl), (Nat.le_of_ble_eq_true rfl)⟩ dX10_traceOf_6 ?_
  rintro _ _ ⟨rfl, rfl⟩
  show jx_J X 0 0 9 [(0, .ref l0), (1, .int l1), (2, .int l2)] [] h25
  refine j_iconst (v := (0 : Int32)) C dX10_traceOf_9 (by decide) ?_
  refine j_istore_n (lv1 := [(3, .int (0 : Int32)), (0, .ref l0), (1, .int l1), (2, .int l2)]) C hL dX10_traceOf_10 rfl (Nat.le_of_ble_eq_true rfl) rfl ?_
  refine jx_sub (lv' := [(0, .ref l0), (1, .int l1), (3, .int (0 : Int32))]) [1, 2, 0] rfl ?_
  refine itr_ind (s0 := ((0 : Int32), h25)) (fun s : Int32 × jx_H => jx_J X 0 0 11 [(0, .ref l0), (1, .int l1), (3, .int s.1)] [] s.2) e ?_
  clear e
  intro s kI3 kT3 e0
  obtain ⟨z26, h27⟩ := s
  obtain ⟨u3, e0_3⟩ := e0
  have e : LX10_traceOf_11 l0 l1 z26 h27 = some u3 := e0_3
  unfold LX10_traceOf_11 at e
  refine j_iload_n C dX10_traceOf_11 rfl rfl ?_
  refine j_iload_n C dX10_traceOf_12 rfl rfl ?_
  refine j_icmp_ge (tgt := 50) C dX10_traceOf_13 (by decide) (fun c48 => ?_) (fun c48 => ?_)
  · replace e := ifp c48 e
    obtain ⟨t_6, e_6, eu_6⟩ := exL_spec e
    obtain rfl := kT3 t_6 (e0_3.trans (congrArg some eu_6))
    replace e := e_6
    refine j_iconst (v := (0 : Int32)) C dX10_traceOf_50 (by decide) ?_
    refine j_istore_n (lv1 := [(3, .int (0 : Int32)), (0, .ref l0), (1, .int l1)]) C hL dX10_traceOf_51 rfl (Nat.le_of_ble_eq_true rfl) rfl ?_
    refine j_iconst (v := (0 : Int32)) C dX10_traceOf_52 (by decide) ?_
    refine j_istore (lv1 := [(4, .int (0 : Int32)), (3, .int (0 : Int32)), (0, .ref l0), (1, .int l1)]) C hL dX10_traceOf_53 (Nat.le_of_ble_eq_true rfl) rfl ?_
    refine jx_sub (lv' := [(0, .ref l0), (3, .int (0 : Int32)), (4, .int (0 : Int32))]) [2, 1, 0] rfl ?_
    refine itr_ind (s0 := ((0 : Int32), (0 : Int32))) (fun s : Int32 × Int32 => jx_J X 0 0 55 [(0, .ref l0), (3, .int s.1), (4, .int s.2)] [] h27) e ?_
    clear e
    intro s kI4 kT4 e0
    obtain ⟨z28, z29⟩ := s
    obtain ⟨u4, e0_4⟩ := e0
    have e : LX10_traceOf_55 l0 z28 z29 h27 = some u4 := e0_4
    unfold LX10_traceOf_55 at e
    refine j_iload C dX10_traceOf_55 rfl ?_
    refine j_aload_n C dX10_traceOf_57 rfl rfl ?_
    replace e := ob e
    obtain ⟨_, eo30, e⟩ := e
    replace e := ob e
    obtain ⟨x31, ex31, e⟩ := e
    refine j_callV (ci := 10) (RC := RX10) (T := TX10) (N := 38) (As := []) (b := l0) (na := 0) (st := [.int z29]) (k1 := 0) (n1 := 0) C hr (sX10_n ex31) rfl eo30 kX10_105 kim_X10_n ksel_X10_n kini_X10 kc_X10_n (by decide) rfl ⟨(Nat.le_of_ble_eq_true rfl), (Nat.le_of_ble_eq_true rfl)⟩ (Nat.le_of_ble_eq_true rfl) ⟨rfl, rfl, (Nat.le_of_ble_eq_true rfl), (Nat.le_of_ble_eq_true rfl)⟩ dX10_traceOf_58 ?_
    rintro _ _ ⟨rfl, rfl⟩
    show jx_J X 0 0 61 [(0, .ref l0), (3, .int z28), (4, .int z29)] [.int x31, .int z29] h27
    refine j_icmp_ge (tgt := 85) C dX10_traceOf_61 (by decide) (fun c38 => ?_) (fun c38 => ?_)
    · replace e := ifp c38 e
      obtain ⟨t_5, e_5, eu_5⟩ := exL_spec e
      obtain rfl := kT4 t_5 (e0_4.trans (congrArg some eu_5))
      replace e := e_5
      refine j_iload_n C dX10_traceOf_85 rfl rfl ?_
      refine j_aload_n C dX10_traceOf_86 rfl rfl ?_
      replace e := ob e
      obtain ⟨_, eo32, e⟩ := e
      replace e := ob e
      obtain ⟨x33, ex33, e⟩ := e
      refine j_callV (ci := 10) (RC := RX10) (T := TX10) (N := 38) (As := []) (b := l0) (na := 0) (st := [.int z28]) (k1 := 0) (n1 := 0) C hr (sX10_p ex33) rfl eo32 kX10_97 kim_X10_p ksel_X10_p kini_X10 kc_X10_p (by decide) rfl ⟨(Nat.le_of_ble_eq_true rfl), (Nat.le_of_ble_eq_true rfl)⟩ (Nat.le_of_ble_eq_true rfl) ⟨rfl, rfl, (Nat.le_of_ble_eq_true rfl), (Nat.le_of_ble_eq_true rfl)⟩ dX10_traceOf_87 ?_
      rintro _ _ ⟨rfl, rfl⟩
      show jx_J X 0 0 90 [(0, .ref l0), (3, .int z28), (4, .int z29)] [.int x33, .int z28] h27
      by_cases c34 : x33 = 0
      · exact nos (ifp c34 e)
      replace e := ifn c34 e
      refine j_irem C dX10_traceOf_90 c34 ?_
      cases e
      exact j_iret C hq rfl dX10_traceOf_91 ⟨Nat.le_of_ble_eq_true rfl, Nat.le_of_ble_eq_true rfl⟩ ⟨rfl, rfl⟩
    · replace e := ifn c38 e
      refine j_iload_n C dX10_traceOf_64 rfl rfl ?_
      refine j_aload_n C dX10_traceOf_65 rfl rfl ?_
      replace e := ob e
      obtain ⟨x35, ex35, e⟩ := e
      refine j_getr (ci := 10) (RC := RX10) (T := TX10) (N := 38) 22 C rfl klX10 (Nat.le_of_ble_eq_true rfl) kX10_49 rfl dX10_traceOf_66 ex35 ?_
      refine j_iload C dX10_traceOf_69 rfl ?_
      refine j_iload C dX10_traceOf_71 rfl ?_
      replace e := ob e
      obtain ⟨x36, ex36, e⟩ := e
      refine j_callS (As := [.int z29, .int z29]) (na := 2) (st := [.ref x35, .int z28]) (k1 := 0) (n1 := 0) C hr (sX10_cell ex36) kX10_254 kst_X10_cell kini_X10 kc_X10_cell (by decide) rfl ⟨(Nat.le_of_ble_eq_true rfl), (Nat.le_of_ble_eq_true rfl)⟩ (Nat.le_of_ble_eq_true rfl) ⟨rfl, rfl, (Nat.le_of_ble_eq_true rfl), (Nat.le_of_ble_eq_true rfl)⟩ dX10_traceOf_73 ?_
      rintro _ _ ⟨rfl, rfl⟩
      show jx_J X 0 0 76 [(0, .ref l0), (3, .int z28), (4, .int z29)] [.int x36, .ref x35, .int z28] h27
      replace e := ob e
      obtain ⟨x37, ex37, e⟩ := e
      refine j_iald C dX10_traceOf_76 ex37 ?_
      refine j_iadd C dX10_traceOf_77 ?_
      refine j_istore_n (lv1 := [(3, .int (z28 + x37)), (0, .ref l0), (4, .int z29)]) C hL dX10_traceOf_78 rfl (Nat.le_of_ble_eq_true rfl) rfl ?_
      refine j_iinc (v := (z29 + (1 : Int32))) (lv1 := [(4, .int (z29 + (1 : Int32))), (3, .int (z28 + x37)), (0, .ref l0)]) C hL dX10_traceOf_79 rfl rfl (Nat.le_of_ble_eq_true rfl) rfl ?_
      refine j_goto (tgt := 55) C dX10_traceOf_82 (by decide) ?_
      obtain rfl := Option.some.inj e
      refine jx_sub (lv' := [(0, .ref l0), (3, .int (z28 + x37)), (4, .int (z29 + (1 : Int32)))]) [2, 1, 0] rfl ?_
      exact kI4 ((z28 + x37), (z29 + (1 : Int32))) e0_4
  · replace e := ifn c48 e
    refine j_aload_n C dX10_traceOf_16 rfl rfl ?_
    refine j_aload_n C dX10_traceOf_17 rfl rfl ?_
    replace e := ob e
    obtain ⟨x39, ex39, e⟩ := e
    refine j_getr (ci := 10) (RC := RX10) (T := TX10) (N := 38) 20 C rfl klX10 (Nat.le_of_ble_eq_true rfl) kX10_43 rfl dX10_traceOf_18 ex39 ?_
    refine j_aload_n C dX10_traceOf_21 rfl rfl ?_
    replace e := ob e
    obtain ⟨x40, ex40, e⟩ := e
    refine j_getr (ci := 10) (RC := RX10) (T := TX10) (N := 38) 22 C rfl klX10 (Nat.le_of_ble_eq_true rfl) kX10_49 rfl dX10_traceOf_22 ex40 ?_
    refine j_aload_n C dX10_traceOf_25 rfl rfl ?_
    replace e := ob e
    obtain ⟨x41, ex41, e⟩ := e
    refine j_getr (ci := 10) (RC := RX10) (T := TX10) (N := 38) 24 C rfl klX10 (Nat.le_of_ble_eq_true rfl) kX10_55 rfl dX10_traceOf_26 ex41 ?_
    replace e := ob e
    obtain ⟨_, eo42, e⟩ := e
    replace e := ob e
    obtain ⟨h43, eh43, e⟩ := e
    refine j_callV (ci := 10) (RC := RX10) (T := TX10) (N := 38) (As := [.ref x39, .ref x40, .ref x41]) (b := l0) (na := 3) (st := []) (k1 := 0) (n1 := 0) C hr (sX10_multiplies eh43) rfl eo42 kX10_264 kim_X10_multiplies ksel_X10_multiplies kini_X10 kc_X10_multiplies (by decide) rfl ⟨(Nat.le_of_ble_eq_true rfl), (Nat.le_of_ble_eq_true rfl)⟩ (Nat.le_of_ble_eq_true rfl) ⟨rfl, rfl, (Nat.le_of_ble_eq_true rfl), (Nat.le_of_ble_eq_true rfl)⟩ dX10_traceOf_29 ?_
    rintro _ _ ⟨rfl, rfl⟩
    show jx_J X 0 0 32 [(0, .ref l0), (1, .int l1), (3, .int z26)] [] h43
    refine j_aload_n C dX10_traceOf_32 rfl rfl ?_
    refine j_aload_n C dX10_traceOf_33 rfl rfl ?_
    replace e := ob e
    obtain ⟨x44, ex44, e⟩ := e
    refine j_getr (ci := 10) (RC := RX10) (T := TX10) (N := 38) 24 C rfl klX10 (Nat.le_of_ble_eq_true rfl) kX10_55 rfl dX10_traceOf_34 ex44 ?_
    refine j_aload_n C dX10_traceOf_37 rfl rfl ?_
    replace e := ob e
    obtain ⟨x45, ex45, e⟩ := e
    refine j_getr (ci := 10) (RC := RX10) (T := TX10) (N := 38) 22 C rfl klX10 (Nat.le_of_ble_eq_true rfl) kX10_49 rfl dX10_traceOf_38 ex45 ?_
    replace e := ob e
    obtain ⟨_, eo46, e⟩ := e
    replace e := ob e
    obtain ⟨h47, eh47, e⟩ := e
    refine j_callV (ci := 10) (RC := RX10) (T := TX10) (N := 38) (As := [.ref x44, .ref x45]) (b := l0) (na := 2) (st := []) (k1 := 0) (n1 := 0) C hr (sX10_copiesCells eh47) rfl eo46 kX10_275 kim_X10_copiesCells ksel_X10_copiesCells kini_X10 kc_X10_copiesCells (by decide) rfl ⟨(Nat.le_of_ble_eq_true rfl), (Nat.le_of_ble_eq_true rfl)⟩ (Nat.le_of_ble_eq_true rfl) ⟨rfl, rfl, (Nat.le_of_ble_eq_true rfl), (Nat.le_of_ble_eq_true rfl)⟩ dX10_traceOf_41 ?_
    rintro _ _ ⟨rfl, rfl⟩
    show jx_J X 0 0 44 [(0, .ref l0), (1, .int l1), (3, .int z26)] [] h47
    refine j_iinc (v := (z26 + (1 : Int32))) (lv1 := [(3, .int (z26 + (1 : Int32))), (0, .ref l0), (1, .int l1)]) C hL dX10_traceOf_44 rfl rfl (Nat.le_of_ble_eq_true rfl) rfl ?_
    refine j_goto (tgt := 11) C dX10_traceOf_47 (by decide) ?_
    obtain rfl := Option.some.inj e
    refine jx_sub (lv' := [(0, .ref l0), (1, .int l1), (3, .int (z26 + (1 : Int32)))]) [1, 2, 0] rfl ?_
    exact kI3 ((z26 + (1 : Int32)), h47) e0_3
/-! BorderBasisModel.swapsRows(II)V -/
noncomputable def LX10_swapsRows_2 (l0 : Nat) (l1 : Int32) (l2 : Int32) (l3 : Int32) (h : jx_H) : Option ((Int32 × jx_H) ⊕ (jx_H)) :=
if (12 : Int32) ≤ l3 then
 exL (some h)
else
 (hgr h l0 10 25).bind fun x1 =>
 (FX10_cell l1 l3 h).bind fun x2 =>
 (hal h .int x1 x2).bind fun x3 =>
 (hgr h l0 10 25).bind fun x4 =>
 (FX10_cell l1 l3 h).bind fun x5 =>
 (hgr h l0 10 25).bind fun x6 =>
 (FX10_cell l2 l3 h).bind fun x7 =>
 (hal h .int x6 x7).bind fun x8 =>
 (has h .int x4 x5 x8).bind fun h9 =>
 (hgr h9 l0 10 25).bind fun x10 =>
 (FX10_cell l2 l3 h9).bind fun x11 =>
 (has h9 .int x10 x11 x3).bind fun h12 =>
 some (.inl ((l3 + (1 : Int32)), h12))
noncomputable def FX10_swapsRows (l0 : Nat) (l1 : Int32) (l2 : Int32) (h : jx_H) : Option (jx_H) :=
itr (fun s : Int32 × jx_H => LX10_swapsRows_2 l0 l1 l2 s.1 s.2) ((0 : Int32), h)
def rmX10_swapsRows : Room := { frames := 1, cells := 0, slots := 0, locals := 21 }
set_option maxRecDepth 20000 in
set_option maxHeartbeats 4000000 in
theorem sX10_swapsRows {l0 : Nat} {l1 : Int32} {l2 : Int32} {h : jx_H} {h9 : jx_H} (e : FX10_swapsRows l0 l1 l2 h = some h9) : jx_Ct yX10_swapsRows cX10_swapsRows 5 none rmX10_swapsRows [.ref l0, .int l1, .int l2] h (fun r' h' => none = r' ∧ h9 = h') := by
  refine jx_Ct.of (own := RX10) (by decide) rfl (Nat.le_of_ble_eq_true rfl) (fun X C hq hr hL hN => ?_)
  refine jx_sub (lv' := [(0, .ref l0), (1, .int l1), (2, .int l2)]) [0, 1, 2] rfl ?_
  unfold FX10_swapsRows at e
  refine j_iconst (v := (0 : Int32)) C dX10_swapsRows_0 (by decide) ?_
  refine j_istore_n (lv1 := [(3, .int (0 : Int32)), (0, .ref l0), (1, .int l1), (2, .int l2)]) C hL dX10_swapsRows_1 rfl (Nat.le_of_ble_eq_true rfl) rfl ?_
  refine jx_sub (lv' := [(0, .ref l0), (1, .int l1), (2, .int l2), (3, .int (0 : Int32))]) [1, 2, 3, 0] rfl ?_
  refine itr_ind (s0 := ((0 : Int32), h)) (fun s : Int32 × jx_H => jx_J X 0 0 2 [(0, .ref l0), (1, .int l1), (2, .int l2), (3, .int s.1)] [] s.2) e ?_
  clear e
  intro s kI2 kT2 e0
  obtain ⟨z14, h15⟩ := s
  obtain ⟨u2, e0_2⟩ := e0
  have e : LX10_swapsRows_2 l0 l1 l2 z14 h15 = some u2 := e0_2
  unfold LX10_swapsRows_2 at e
  refine j_iload_n C dX10_swapsRows_2 rfl rfl ?_
  refine j_bipush (v := (12 : Int32)) C dX10_swapsRows_3 (by decide) ?_
  refine j_icmp_ge (tgt := 58) C dX10_swapsRows_5 (by decide) (fun c28 => ?_) (fun c28 => ?_)
  · replace e := ifp c28 e
    obtain ⟨t_3, e_3, eu_3⟩ := exL_spec e
    obtain rfl := kT2 t_3 (e0_2.trans (congrArg some eu_3))
    replace e := e_3
    cases e
    exact j_vret C hq dX10_swapsRows_58 ⟨Nat.le_of_ble_eq_true rfl, Nat.le_of_ble_eq_true rfl⟩ ⟨rfl, rfl⟩
  · replace e := ifn c28 e
    refine j_aload_n C dX10_swapsRows_8 rfl rfl ?_
    replace e := ob e
    obtain ⟨x16, ex16, e⟩ := e
    refine j_getr (ci := 10) (RC := RX10) (T := TX10) (N := 38) 25 C rfl klX10 (Nat.le_of_ble_eq_true rfl) kX10_58 rfl dX10_swapsRows_9 ex16 ?_
    refine j_iload_n C dX10_swapsRows_12 rfl rfl ?_
    refine j_iload_n C dX10_swapsRows_13 rfl rfl ?_
    replace e := ob e
    obtain ⟨x17, ex17, e⟩ := e
    refine j_callS (As := [.int l1, .int z14]) (na := 2) (st := [.ref x16]) (k1 := 0) (n1 := 0) C hr (sX10_cell ex17) kX10_254 kst_X10_cell kini_X10 kc_X10_cell (by decide) rfl ⟨(Nat.le_of_ble_eq_true rfl), (Nat.le_of_ble_eq_true rfl)⟩ (Nat.le_of_ble_eq_true rfl) ⟨rfl, rfl, (Nat.le_of_ble_eq_true rfl), (Nat.le_of_ble_eq_true rfl)⟩ dX10_swapsRows_14 ?_
    rintro _ _ ⟨rfl, rfl⟩
    show jx_J X 0 0 17 [(0, .ref l0), (1, .int l1), (2, .int l2), (3, .int z14)] [.int x17, .ref x16] h15
    replace e := ob e
    obtain ⟨x18, ex18, e⟩ := e
    refine j_iald C dX10_swapsRows_17 ex18 ?_
    refine j_istore (lv1 := [(4, .int x18), (0, .ref l0), (1, .int l1), (2, .int l2), (3, .int z14)]) C hL dX10_swapsRows_18 (Nat.le_of_ble_eq_true rfl) rfl ?_
    refine j_aload_n C dX10_swapsRows_20 rfl rfl ?_
    replace e := ob e
    obtain ⟨x19, ex19, e⟩ := e
    refine j_getr (ci := 10) (RC := RX10) (T := TX10) (N := 38) 25 C rfl klX10 (Nat.le_of_ble_eq_true rfl) kX10_58 rfl dX10_swapsRows_21 ex19 ?_
    refine j_iload_n C dX10_swapsRows_24 rfl rfl ?_
    refine j_iload_n C dX10_swapsRows_25 rfl rfl ?_
    replace e := ob e
    obtain ⟨x20, ex20, e⟩ := e
    refine j_callS (As := [.int l1, .int z14]) (na := 2) (st := [.ref x19]) (k1 := 0) (n1 := 0) C hr (sX10_cell ex20) kX10_254 kst_X10_cell kini_X10 kc_X10_cell (by decide) rfl ⟨(Nat.le_of_ble_eq_true rfl), (Nat.le_of_ble_eq_true rfl)⟩ (Nat.le_of_ble_eq_true rfl) ⟨rfl, rfl, (Nat.le_of_ble_eq_true rfl), (Nat.le_of_ble_eq_true rfl)⟩ dX10_swapsRows_26 ?_
    rintro _ _ ⟨rfl, rfl⟩
    show jx_J X 0 0 29 [(4, .int x18), (0, .ref l0), (1, .int l1), (2, .int l2), (3, .int z14)] [.int x20, .ref x19] h15
    refine j_aload_n C dX10_swapsRows_29 rfl rfl ?_
    replace e := ob e
    obtain ⟨x21, ex21, e⟩ := e
    refine j_getr (ci := 10) (RC := RX10) (T := TX10) (N := 38) 25 C rfl klX10 (Nat.le_of_ble_eq_true rfl) kX10_58 rfl dX10_swapsRows_30 ex21 ?_
    refine j_iload_n C dX10_swapsRows_33 rfl rfl ?_
    refine j_iload_n C dX10_swapsRows_34 rfl rfl ?_
    replace e := ob e
    obtain ⟨x22, ex22, e⟩ := e
    refine j_callS (As := [.int l2, .int z14]) (na := 2) (st := [.ref x21, .int x20, .ref x19]) (k1 := 0) (n1 := 0) C hr (sX10_cell ex22) kX10_254 kst_X10_cell kini_X10 kc_X10_cell (by decide) rfl ⟨(Nat.le_of_ble_eq_true rfl), (Nat.le_of_ble_eq_true rfl)⟩ (Nat.le_of_ble_eq_true rfl) ⟨rfl, rfl, (Nat.le_of_ble_eq_true rfl), (Nat.le_of_ble_eq_true rfl)⟩ dX10_swapsRows_35 ?_
    rintro _ _ ⟨rfl, rfl⟩
    show jx_J X 0 0 38 [(4, .int x18), (0, .ref l0), (1, .int l1), (2, .int l2), (3, .int z14)] [.int x22, .ref x21, .int x20, .ref x19] h15
    replace e := ob e
    obtain ⟨x23, ex23, e⟩ := e
    refine j_iald C dX10_swapsRows_38 ex23 ?_
    replace e := ob e
    obtain ⟨h24, eh24, e⟩ := e
    refine j_iast C dX10_swapsRows_39 eh24 ?_
    refine j_aload_n C dX10_swapsRows_40 rfl rfl ?_
    replace e := ob e
    obtain ⟨x25, ex25, e⟩ := e
    refine j_getr (ci := 10) (RC := RX10) (T := TX10) (N := 38) 25 C rfl klX10 (Nat.le_of_ble_eq_true rfl) kX10_58 rfl dX10_swapsRows_41 ex25 ?_
    refine j_iload_n C dX10_swapsRows_44 rfl rfl ?_
    refine j_iload_n C dX10_swapsRows_45 rfl rfl ?_
    replace e := ob e
    obtain ⟨x26, ex26, e⟩ := e
    refine j_callS (As := [.int l2, .int z14]) (na := 2) (st := [.ref x25]) (k1 := 0) (n1 := 0) C hr (sX10_cell ex26) kX10_254 kst_X10_cell kini_X10 kc_X10_cell (by decide) rfl ⟨(Nat.le_of_ble_eq_true rfl), (Nat.le_of_ble_eq_true rfl)⟩ (Nat.le_of_ble_eq_true rfl) ⟨rfl, rfl, (Nat.le_of_ble_eq_true rfl), (Nat.le_of_ble_eq_true rfl)⟩ dX10_swapsRows_46 ?_
    rintro _ _ ⟨rfl, rfl⟩
    show jx_J X 0 0 49 [(4, .int x18), (0, .ref l0), (1, .int l1), (2, .int l2), (3, .int z14)] [.int x26, .ref x25] h24
    refine j_iload C dX10_swapsRows_49 rfl ?_
    replace e := ob e
    obtain ⟨h27, eh27, e⟩ := e
    refine j_iast C dX10_swapsRows_51 eh27 ?_
    refine j_iinc (v := (z14 + (1 : Int32))) (lv1 := [(3, .int (z14 + (1 : Int32))), (4, .int x18), (0, .ref l0), (1, .int l1), (2, .int l2)]) C hL dX10_swapsRows_52 rfl rfl (Nat.le_of_ble_eq_true rfl) rfl ?_
    refine j_goto (tgt := 2) C dX10_swapsRows_55 (by decide) ?_
    obtain rfl := Option.some.inj e
    refine jx_sub (lv' := [(0, .ref l0), (1, .int l1), (2, .int l2), (3, .int (z14 + (1 : Int32)))]) [2, 3, 4, 0] rfl ?_
    exact kI2 ((z14 + (1 : Int32)), h27) e0_2
/-! BorderBasisModel.reduces(I)V -/
noncomputable def BX10_reduces_258 (l0 : Nat) (l1 : Int32) (l2 : Int32) (h : jx_H) : Option ((Int32 × jx_H) ⊕ (jx_H)) :=
some (.inl ((l2 + (1 : Int32)), h))
noncomputable def BX10_reduces_242 (l0 : Nat) (l1 : Int32) (l2 : Int32) (l4 : Int32) (l5 : Int32) (h : jx_H) : Option ((Int32 × jx_H) ⊕ ((Int32 × jx_H) ⊕ (jx_H))) :=
some (.inl ((l5 + (1 : Int32)), h))
noncomputable def LX10_reduces_176 (l0 : Nat) (l1 : Int32) (l2 : Int32) (l4 : Int32) (l5 : Int32) (l6 : Int32) (l7 : Int32) (h : jx_H) : Option ((Int32 × jx_H) ⊕ ((Int32 × jx_H) ⊕ ((Int32 × jx_H) ⊕ (jx_H)))) :=
(isO h l0 10).bind fun _ =>
(FX10_n l0 h).bind fun x28 =>
if x28 ≤ l7 then
 exL (BX10_reduces_242 l0 l1 l2 l4 l5 h)
else
 if l6 ≤ 0 then
  exL (BX10_reduces_242 l0 l1 l2 l4 l5 h)
 else
  (hgr h l0 10 25).bind fun x29 =>
  (FX10_cell l5 l7 h).bind fun x30 =>
  (hgr h l0 10 25).bind fun x31 =>
  (FX10_cell l5 l7 h).bind fun x32 =>
  (hal h .int x31 x32).bind fun x33 =>
  (hgr h l0 10 25).bind fun x34 =>
  (hgi h l0 10 28).bind fun x35 =>
  (FX10_cell x35 l7 h).bind fun x36 =>
  (hal h .int x34 x36).bind fun x37 =>
  (isO h l0 10).bind fun _ =>
  (FX10_mod l0 (x33 - (l6 * x37)) h).bind fun x39 =>
  (has h .int x29 x30 x39).bind fun h40 =>
  some (.inl ((l7 + (1 : Int32)), h40))
noncomputable def LX10_reduces_146 (l0 : Nat) (l1 : Int32) (l2 : Int32) (l4 : Int32) (l5 : Int32) (h : jx_H) : Option ((Int32 × jx_H) ⊕ ((Int32 × jx_H) ⊕ (jx_H))) :=
if l1 ≤ l5 then
 exL ((hgi h l0 10 28).bind fun x19 =>
 (hp h l0 10 28 (.int (x19 + (1 : Int32)))).bind fun h20 =>
 BX10_reduces_258 l0 l1 l2 h20)
else
 (hgr h l0 10 25).bind fun x21 =>
 (FX10_cell l5 l2 h).bind fun x22 =>
 (hal h .int x21 x22).bind fun x23 =>
 (isO h l0 10).bind fun _ =>
 (FX10_p l0 h).bind fun x25 =>
 if x25 = 0 then none else
 itr (fun s : Int32 × jx_H => LX10_reduces_176 l0 l1 l2 l4 l5 ((x23 * l4) - (x23 * l4) / x25 * x25) s.1 s.2) (l2, h)
noncomputable def BX10_reduces_92 (l0 : Nat) (l1 : Int32) (l2 : Int32) (h : jx_H) : Option ((Int32 × jx_H) ⊕ (jx_H)) :=
(hgi h l0 10 29).bind fun x3 =>
(hgr h l0 10 25).bind fun x4 =>
(hgi h l0 10 28).bind fun x5 =>
(FX10_cell x5 l2 h).bind fun x6 =>
(hal h .int x4 x6).bind fun x7 =>
(isO h l0 10).bind fun _ =>
(FX10_p l0 h).bind fun x9 =>
if x9 = 0 then none else
(hp h l0 10 29 (.int ((x3 * x7) - (x3 * x7) / x9 * x9))).bind fun h11 =>
(hgr h11 l0 10 25).bind fun x12 =>
(hgi h11 l0 10 28).bind fun x13 =>
(FX10_cell x13 l2 h11).bind fun x14 =>
(hal h11 .int x12 x14).bind fun x15 =>
(isO h11 l0 10).bind fun _ =>
(FX10_inverse l0 x15 h11).bind fun x17 =>
(hgi h11 l0 10 28).bind fun x18 =>
itr (fun s : Int32 × jx_H => LX10_reduces_146 l0 l1 l2 x17 s.1 s.2) ((x18 + (1 : Int32)), h11)
noncomputable def BX10_reduces_49 (l0 : Nat) (l1 : Int32) (l2 : Int32) (l3 : Int32) (h : jx_H) : Option ((Int32 × jx_H) ⊕ (jx_H)) :=
if l3 = l1 then
 (hp h l0 10 29 (.int (0 : Int32))).bind fun h53 =>
 BX10_reduces_258 l0 l1 l2 h53
else
 (hgi h l0 10 28).bind fun x44 =>
 if l3 = x44 then
  BX10_reduces_92 l0 l1 l2 h
 else
  (hgi h l0 10 28).bind fun x45 =>
  (isO h l0 10).bind fun _ =>
  (FX10_swapsRows l0 l3 x45 h).bind fun h47 =>
  (hgi h47 l0 10 29).bind fun x48 =>
  (isO h47 l0 10).bind fun _ =>
  (FX10_mod l0 (-x48) h47).bind fun x50 =>
  (hp h47 l0 10 29 (.int x50)).bind fun h51 =>
  BX10_reduces_92 l0 l1 l2 h51
noncomputable def LX10_reduces_25 (l0 : Nat) (l1 : Int32) (l2 : Int32) (l3 : Int32) (h : jx_H) : Option ((Int32) ⊕ ((Int32 × jx_H) ⊕ (jx_H))) :=
if l1 ≤ l3 then
 exL (BX10_reduces_49 l0 l1 l2 l3 h)
else
 (hgr h l0 10 25).bind fun x58 =>
 (FX10_cell l3 l2 h).bind fun x59 =>
 (hal h .int x58 x59).bind fun x60 =>
 if x60 = 0 then
  some (.inl (l3 + (1 : Int32)))
 else
  exL (BX10_reduces_49 l0 l1 l2 l3 h)
noncomputable def LX10_reduces_12 (l0 : Nat) (l1 : Int32) (l2 : Int32) (h : jx_H) : Option ((Int32 × jx_H) ⊕ (jx_H)) :=
(isO h l0 10).bind fun _ =>
(FX10_n l0 h).bind fun x56 =>
if x56 ≤ l2 then
 exL (some h)
else
 (hgi h l0 10 28).bind fun x57 =>
 itr (fun s : Int32 => LX10_reduces_25 l0 l1 l2 s h) x57
noncomputable def FX10_reduces (l0 : Nat) (l1 : Int32) (h : jx_H) : Option (jx_H) :=
(hp h l0 10 28 (.int (0 : Int32))).bind fun h1 =>
(hp h1 l0 10 29 (.int (1 : Int32))).bind fun h2 =>
itr (fun s : Int32 × jx_H => LX10_reduces_12 l0 l1 s.1 s.2) ((0 : Int32), h2)
def rmX10_reduces : Room := { frames := 2, cells := 0, slots := 0, locals := 45 }
set_option maxRecDepth 20000 in
set_option maxHeartbeats 4000000 in
theorem sX10_reduces {l0 : Nat} {l1 : Int32} {h : jx_H} {h9 : jx_H} (e : FX10_reduces l0 l1 h = some h9) : jx_Ct yX10_reduces cX10_reduces 8 none rmX10_reduces [.ref l0, .int l1] h (fun r' h' => none = r' ∧ h9 = h') := by
  refine jx_Ct.of (own := RX10) (by decide) rfl (Nat.le_of_ble_eq_true rfl) (fun X C hq hr hL hN => ?_)
  refine jx_sub (lv' := [(0, .ref l0), (1, .int l1)]) [0, 1] rfl ?_
  unfold FX10_reduces at e
  refine j_aload_n C dX10_reduces_0 rfl rfl ?_
  refine j_iconst (v := (0 : Int32)) C dX10_reduces_1 (by decide) ?_
  replace e := ob e
  obtain ⟨h64, eh64, e⟩ := e
  refine j_put (ci := 10) (RC := RX10) (T := TX10) (N := 38) (ty0 := tyX10) 28 C rfl klX10 tyX10_ok nmX10 (Nat.le_of_ble_eq_true rfl) kX10_283 rfl rfl rfl rfl dX10_reduces_2 eh64 ?_
  refine j_aload_n C dX10_reduces_5 rfl rfl ?_
  refine j_iconst (v := (1 : Int32)) C dX10_reduces_6 (by decide) ?_
  replace e := ob e
  obtain ⟨h65, eh65, e⟩ := e
  refine j_put (ci := 10) (RC := RX10) (T := TX10) (N := 38) (ty0 := tyX10) 29 C rfl klX10 tyX10_ok nmX10 (Nat.le_of_ble_eq_true rfl) kX10_286 rfl rfl rfl rfl dX10_reduces_7 eh65 ?_
  refine j_iconst (v := (0 : Int32)) C dX10_reduces_10 (by decide) ?_
  refine j_istore_n (lv1 := [(2, .int (0 : Int32)), (0, .ref l0), (1, .int l1)]) C hL dX10_reduces_11 rfl (Nat.le_of_ble_eq_true rfl) rfl ?_
  refine jx_sub (lv' := [(0, .ref l0), (1, .int l1), (2, .int (0 : Int32))]) [1, 2, 0] rfl ?_
  refine itr_ind (s0 := ((0 : Int32), h65)) (fun s : Int32 × jx_H => jx_J X 0 0 12 [(0, .ref l0), (1, .int l1), (2, .int s.1)] [] s.2) e ?_
  clear e
  intro s kI7 kT7 e0
  obtain ⟨z66, h67⟩ := s
  obtain ⟨u7, e0_7⟩ := e0
  have e : LX10_reduces_12 l0 l1 z66 h67 = some u7 := e0_7
  have b258 : ∀ (y68 : Int32) (h69 : jx_H), BX10_reduces_258 l0 l1 y68 h69 = some u7 → jx_J X 0 0 258 [(0, .ref l0), (1, .int l1), (2, .int y68)] [] h69 := by
    intro y68 h69 e
    unfold BX10_reduces_258 at e
    refine j_iinc (v := (y68 + (1 : Int32))) (lv1 := [(2, .int (y68 + (1 : Int32))), (0, .ref l0), (1, .int l1)]) C hL dX10_reduces_258 rfl rfl (Nat.le_of_ble_eq_true rfl) rfl ?_
    refine j_goto (tgt := 12) C dX10_reduces_261 (by decide) ?_
    obtain rfl := Option.some.inj e
    refine jx_sub (lv' := [(0, .ref l0), (1, .int l1), (2, .int (y68 + (1 : Int32)))]) [1, 2, 0] rfl ?_
    exact kI7 ((y68 + (1 : Int32)), h69) e0_7
  have b92 : ∀ (y70 : Int32) (h71 : jx_H), BX10_reduces_92 l0 l1 y70 h71 = some u7 → jx_J X 0 0 92 [(0, .ref l0), (1, .int l1), (2, .int y70)] [] h71 := by
    intro y70 h71 e
    unfold BX10_reduces_92 at e
    refine j_aload_n C dX10_reduces_92 rfl rfl ?_
    refine j_aload_n C dX10_reduces_93 rfl rfl ?_
    replace e := ob e
    obtain ⟨x72, ex72, e⟩ := e
    refine j_geti (ci := 10) (RC := RX10) (T := TX10) (N := 38) 29 C rfl klX10 (Nat.le_of_ble_eq_true rfl) kX10_286 rfl dX10_reduces_94 ex72 ?_
    refine j_aload_n C dX10_reduces_97 rfl rfl ?_
    replace e := ob e
    obtain ⟨x73, ex73, e⟩ := e
    refine j_getr (ci := 10) (RC := RX10) (T := TX10) (N := 38) 25 C rfl klX10 (Nat.le_of_ble_eq_true rfl) kX10_58 rfl dX10_reduces_98 ex73 ?_
    refine j_aload_n C dX10_reduces_101 rfl rfl ?_
    replace e := ob e
    obtain ⟨x74, ex74, e⟩ := e
    refine j_geti (ci := 10) (RC := RX10) (T := TX10) (N := 38) 28 C rfl klX10 (Nat.le_of_ble_eq_true rfl) kX10_283 rfl dX10_reduces_102 ex74 ?_
    refine j_iload_n C dX10_reduces_105 rfl rfl ?_
    replace e := ob e
    obtain ⟨x75, ex75, e⟩ := e
    refine j_callS (As := [.int x74, .int y70]) (na := 2) (st := [.ref x73, .int x72, .ref l0]) (k1 := 0) (n1 := 0) C hr (sX10_cell ex75) kX10_254 kst_X10_cell kini_X10 kc_X10_cell (by decide) rfl ⟨(Nat.le_of_ble_eq_true rfl), (Nat.le_of_ble_eq_true rfl)⟩ (Nat.le_of_ble_eq_true rfl) ⟨rfl, rfl, (Nat.le_of_ble_eq_true rfl), (Nat.le_of_ble_eq_true rfl)⟩ dX10_reduces_106 ?_
    rintro _ _ ⟨rfl, rfl⟩
    show jx_J X 0 0 109 [(0, .ref l0), (1, .int l1), (2, .int y70)] [.int x75, .ref x73, .int x72, .ref l0] h71
    replace e := ob e
    obtain ⟨x76, ex76, e⟩ := e
    refine j_iald C dX10_reduces_109 ex76 ?_
    refine j_imul C dX10_reduces_110 ?_
    refine j_aload_n C dX10_reduces_111 rfl rfl ?_
    replace e := ob e
    obtain ⟨_, eo77, e⟩ := e
    replace e := ob e
    obtain ⟨x78, ex78, e⟩ := e
    refine j_callV (ci := 10) (RC := RX10) (T := TX10) (N := 38) (As := []) (b := l0) (na := 0) (st := [.int (x72 * x76), .ref l0]) (k1 := 0) (n1 := 0) C hr (sX10_p ex78) rfl eo77 kX10_97 kim_X10_p ksel_X10_p kini_X10 kc_X10_p (by decide) rfl ⟨(Nat.le_of_ble_eq_true rfl), (Nat.le_of_ble_eq_true rfl)⟩ (Nat.le_of_ble_eq_true rfl) ⟨rfl, rfl, (Nat.le_of_ble_eq_true rfl), (Nat.le_of_ble_eq_true rfl)⟩ dX10_reduces_112 ?_
    rintro _ _ ⟨rfl, rfl⟩
    show jx_J X 0 0 115 [(0, .ref l0), (1, .int l1), (2, .int y70)] [.int x78, .int (x72 * x76), .ref l0] h71
    by_cases c79 : x78 = 0
    · exact nos (ifp c79 e)
    replace e := ifn c79 e
    refine j_irem C dX10_reduces_115 c79 ?_
    replace e := ob e
    obtain ⟨h80, eh80, e⟩ := e
    refine j_put (ci := 10) (RC := RX10) (T := TX10) (N := 38) (ty0 := tyX10) 29 C rfl klX10 tyX10_ok nmX10 (Nat.le_of_ble_eq_true rfl) kX10_286 rfl rfl rfl rfl dX10_reduces_116 eh80 ?_
    refine j_aload_n C dX10_reduces_119 rfl rfl ?_
    refine j_aload_n C dX10_reduces_120 rfl rfl ?_
    replace e := ob e
    obtain ⟨x81, ex81, e⟩ := e
    refine j_getr (ci := 10) (RC := RX10) (T := TX10) (N := 38) 25 C rfl klX10 (Nat.le_of_ble_eq_true rfl) kX10_58 rfl dX10_reduces_121 ex81 ?_
    refine j_aload_n C dX10_reduces_124 rfl rfl ?_
    replace e := ob e
    obtain ⟨x82, ex82, e⟩ := e
    refine j_geti (ci := 10) (RC := RX10) (T := TX10) (N := 38) 28 C rfl klX10 (Nat.le_of_ble_eq_true rfl) kX10_283 rfl dX10_reduces_125 ex82 ?_
    refine j_iload_n C dX10_reduces_128 rfl rfl ?_
    replace e := ob e
    obtain ⟨x83, ex83, e⟩ := e
    refine j_callS (As := [.int x82, .int y70]) (na := 2) (st := [.ref x81, .ref l0]) (k1 := 0) (n1 := 0) C hr (sX10_cell ex83) kX10_254 kst_X10_cell kini_X10 kc_X10_cell (by decide) rfl ⟨(Nat.le_of_ble_eq_true rfl), (Nat.le_of_ble_eq_true rfl)⟩ (Nat.le_of_ble_eq_true rfl) ⟨rfl, rfl, (Nat.le_of_ble_eq_true rfl), (Nat.le_of_ble_eq_true rfl)⟩ dX10_reduces_129 ?_
    rintro _ _ ⟨rfl, rfl⟩
    show jx_J X 0 0 132 [(0, .ref l0), (1, .int l1), (2, .int y70)] [.int x83, .ref x81, .ref l0] h80
    replace e := ob e
    obtain ⟨x84, ex84, e⟩ := e
    refine j_iald C dX10_reduces_132 ex84 ?_
    replace e := ob e
    obtain ⟨_, eo85, e⟩ := e
    replace e := ob e
    obtain ⟨x86, ex86, e⟩ := e
    refine j_callV (ci := 10) (RC := RX10) (T := TX10) (N := 38) (As := [.int x84]) (b := l0) (na := 1) (st := []) (k1 := 0) (n1 := 0) C hr (sX10_inverse ex86) rfl eo85 kX10_292 kim_X10_inverse ksel_X10_inverse kini_X10 kc_X10_inverse (by decide) rfl ⟨(Nat.le_of_ble_eq_true rfl), (Nat.le_of_ble_eq_true rfl)⟩ (Nat.le_of_ble_eq_true rfl) ⟨rfl, rfl, (Nat.le_of_ble_eq_true rfl), (Nat.le_of_ble_eq_true rfl)⟩ dX10_reduces_133 ?_
    rintro _ _ ⟨rfl, rfl⟩
    show jx_J X 0 0 136 [(0, .ref l0), (1, .int l1), (2, .int y70)] [.int x86] h80
    refine j_istore (lv1 := [(4, .int x86), (0, .ref l0), (1, .int l1), (2, .int y70)]) C hL dX10_reduces_136 (Nat.le_of_ble_eq_true rfl) rfl ?_
    refine j_aload_n C dX10_reduces_138 rfl rfl ?_
    replace e := ob e
    obtain ⟨x87, ex87, e⟩ := e
    refine j_geti (ci := 10) (RC := RX10) (T := TX10) (N := 38) 28 C rfl klX10 (Nat.le_of_ble_eq_true rfl) kX10_283 rfl dX10_reduces_139 ex87 ?_
    refine j_iconst (v := (1 : Int32)) C dX10_reduces_142 (by decide) ?_
    refine j_iadd C dX10_reduces_143 ?_
    refine j_istore (lv1 := [(5, .int (x87 + (1 : Int32))), (4, .int x86), (0, .ref l0), (1, .int l1), (2, .int y70)]) C hL dX10_reduces_144 (Nat.le_of_ble_eq_true rfl) rfl ?_
    refine jx_sub (lv' := [(0, .ref l0), (1, .int l1), (2, .int y70), (4, .int x86), (5, .int (x87 + (1 : Int32)))]) [2, 3, 4, 1, 0] rfl ?_
    refine itr_ind (s0 := ((x87 + (1 : Int32)), h80)) (fun s : Int32 × jx_H => jx_J X 0 0 146 [(0, .ref l0), (1, .int l1), (2, .int y70), (4, .int x86), (5, .int s.1)] [] s.2) e ?_
    clear e
    intro s kI8 kT8 e0
    obtain ⟨z88, h89⟩ := s
    obtain ⟨u8, e0_8⟩ := e0
    have e : LX10_reduces_146 l0 l1 y70 x86 z88 h89 = some u8 := e0_8
    have b242 : ∀ (y90 : Int32) (h91 : jx_H), BX10_reduces_242 l0 l1 y70 x86 y90 h91 = some u8 → jx_J X 0 0 242 [(0, .ref l0), (1, .int l1), (2, .int y70), (4, .int x86), (5, .int y90)] [] h91 := by
      intro y90 h91 e
      unfold BX10_reduces_242 at e
      refine j_iinc (v := (y90 + (1 : Int32))) (lv1 := [(5, .int (y90 + (1 : Int32))), (0, .ref l0), (1, .int l1), (2, .int y70), (4, .int x86)]) C hL dX10_reduces_242 rfl rfl (Nat.le_of_ble_eq_true rfl) rfl ?_
      refine j_goto (tgt := 146) C dX10_reduces_245 (by decide) ?_
      obtain rfl := Option.some.inj e
      refine jx_sub (lv' := [(0, .ref l0), (1, .int l1), (2, .int y70), (4, .int x86), (5, .int (y90 + (1 : Int32)))]) [1, 2, 3, 4, 0] rfl ?_
      exact kI8 ((y90 + (1 : Int32)), h91) e0_8
    unfold LX10_reduces_146 at e
    refine j_iload C dX10_reduces_146 rfl ?_
    refine j_iload_n C dX10_reduces_148 rfl rfl ?_
    refine j_icmp_ge (tgt := 248) C dX10_reduces_149 (by decide) (fun c118 => ?_) (fun c118 => ?_)
    · replace e := ifp c118 e
      obtain ⟨t_9, e_9, eu_9⟩ := exL_spec e
      obtain rfl := kT8 t_9 (e0_8.trans (congrArg some eu_9))
      replace e := e_9
      refine j_aload_n C dX10_reduces_248 rfl rfl ?_
      refine j_dup C dX10_reduces_249 rfl ?_
      replace e := ob e
      obtain ⟨x92, ex92, e⟩ := e
      refine j_geti (ci := 10) (RC := RX10) (T := TX10) (N := 38) 28 C rfl klX10 (Nat.le_of_ble_eq_true rfl) kX10_283 rfl dX10_reduces_250 ex92 ?_
      refine j_iconst (v := (1 : Int32)) C dX10_reduces_253 (by decide) ?_
      refine j_iadd C dX10_reduces_254 ?_
      replace e := ob e
      obtain ⟨h93, eh93, e⟩ := e
      refine j_put (ci := 10) (RC := RX10) (T := TX10) (N := 38) (ty0 := tyX10) 28 C rfl klX10 tyX10_ok nmX10 (Nat.le_of_ble_eq_true rfl) kX10_283 rfl rfl rfl rfl dX10_reduces_255 eh93 ?_
      refine jx_sub (lv' := [(0, .ref l0), (1, .int l1), (2, .int y70)]) [0, 1, 2] rfl ?_
      exact b258 y70 h93 e
    · replace e := ifn c118 e
      refine j_aload_n C dX10_reduces_152 rfl rfl ?_
      replace e := ob e
      obtain ⟨x94, ex94, e⟩ := e
      refine j_getr (ci := 10) (RC := RX10) (T := TX10) (N := 38) 25 C rfl klX10 (Nat.le_of_ble_eq_true rfl) kX10_58 rfl dX10_reduces_153 ex94 ?_
      refine j_iload C dX10_reduces_156 rfl ?_
      refine j_iload_n C dX10_reduces_158 rfl rfl ?_
      replace e := ob e
      obtain ⟨x95, ex95, e⟩ := e
      refine j_callS (As := [.int z88, .int y70]) (na := 2) (st := [.ref x94]) (k1 := 0) (n1 := 0) C hr (sX10_cell ex95) kX10_254 kst_X10_cell kini_X10 kc_X10_cell (by decide) rfl ⟨(Nat.le_of_ble_eq_true rfl), (Nat.le_of_ble_eq_true rfl)⟩ (Nat.le_of_ble_eq_true rfl) ⟨rfl, rfl, (Nat.le_of_ble_eq_true rfl), (Nat.le_of_ble_eq_true rfl)⟩ dX10_reduces_159 ?_
      rintro _ _ ⟨rfl, rfl⟩
      show jx_J X 0 0 162 [(0, .ref l0), (1, .int l1), (2, .int y70), (4, .int x86), (5, .int z88)] [.int x95, .ref x94] h89
      replace e := ob e
      obtain ⟨x96, ex96, e⟩ := e
      refine j_iald C dX10_reduces_162 ex96 ?_
      refine j_iload C dX10_reduces_163 rfl ?_
      refine j_imul C dX10_reduces_165 ?_
      refine j_aload_n C dX10_reduces_166 rfl rfl ?_
      replace e := ob e
      obtain ⟨_, eo97, e⟩ := e
      replace e := ob e
      obtain ⟨x98, ex98, e⟩ := e
      refine j_callV (ci := 10) (RC := RX10) (T := TX10) (N := 38) (As := []) (b := l0) (na := 0) (st := [.int (x96 * x86)]) (k1 := 0) (n1 := 0) C hr (sX10_p ex98) rfl eo97 kX10_97 kim_X10_p ksel_X10_p kini_X10 kc_X10_p (by decide) rfl ⟨(Nat.le_of_ble_eq_true rfl), (Nat.le_of_ble_eq_true rfl)⟩ (Nat.le_of_ble_eq_true rfl) ⟨rfl, rfl, (Nat.le_of_ble_eq_true rfl), (Nat.le_of_ble_eq_true rfl)⟩ dX10_reduces_167 ?_
      rintro _ _ ⟨rfl, rfl⟩
      show jx_J X 0 0 170 [(0, .ref l0), (1, .int l1), (2, .int y70), (4, .int x86), (5, .int z88)] [.int x98, .int (x96 * x86)] h89
      by_cases c99 : x98 = 0
      · exact nos (ifp c99 e)
      replace e := ifn c99 e
      refine j_irem C dX10_reduces_170 c99 ?_
      refine j_istore (lv1 := [(6, .int ((x96 * x86) - (x96 * x86) / x98 * x98)), (0, .ref l0), (1, .int l1), (2, .int y70), (4, .int x86), (5, .int z88)]) C hL dX10_reduces_171 (Nat.le_of_ble_eq_true rfl) rfl ?_
      refine j_iload_n C dX10_reduces_173 rfl rfl ?_
      refine j_istore (lv1 := [(7, .int y70), (6, .int ((x96 * x86) - (x96 * x86) / x98 * x98)), (0, .ref l0), (1, .int l1), (2, .int y70), (4, .int x86), (5, .int z88)]) C hL dX10_reduces_174 (Nat.le_of_ble_eq_true rfl) rfl ?_
      refine jx_sub (lv' := [(0, .ref l0), (1, .int l1), (2, .int y70), (4, .int x86), (5, .int z88), (6, .int ((x96 * x86) - (x96 * x86) / x98 * x98)), (7, .int y70)]) [2, 3, 4, 5, 6, 1, 0] rfl ?_
      refine itr_ind (s0 := (y70, h89)) (fun s : Int32 × jx_H => jx_J X 0 0 176 [(0, .ref l0), (1, .int l1), (2, .int y70), (4, .int x86), (5, .int z88), (6, .int ((x96 * x86) - (x96 * x86) / x98 * x98)), (7, .int s.1)] [] s.2) e ?_
      clear e
      intro s kI10 kT10 e0
      obtain ⟨z100, h101⟩ := s
      obtain ⟨u10, e0_10⟩ := e0
      have e : LX10_reduces_176 l0 l1 y70 x86 z88 ((x96 * x86) - (x96 * x86) / x98 * x98) z100 h101 = some u10 := e0_10
      unfold LX10_reduces_176 at e
      refine j_iload C dX10_reduces_176 rfl ?_
      refine j_aload_n C dX10_reduces_178 rfl rfl ?_
      replace e := ob e
      obtain ⟨_, eo102, e⟩ := e
      replace e := ob e
      obtain ⟨x103, ex103, e⟩ := e
      refine j_callV (ci := 10) (RC := RX10) (T := TX10) (N := 38) (As := []) (b := l0) (na := 0) (st := [.int z100]) (k1 := 0) (n1 := 0) C hr (sX10_n ex103) rfl eo102 kX10_105 kim_X10_n ksel_X10_n kini_X10 kc_X10_n (by decide) rfl ⟨(Nat.le_of_ble_eq_true rfl), (Nat.le_of_ble_eq_true rfl)⟩ (Nat.le_of_ble_eq_true rfl) ⟨rfl, rfl, (Nat.le_of_ble_eq_true rfl), (Nat.le_of_ble_eq_true rfl)⟩ dX10_reduces_179 ?_
      rintro _ _ ⟨rfl, rfl⟩
      show jx_J X 0 0 182 [(0, .ref l0), (1, .int l1), (2, .int y70), (4, .int x86), (5, .int z88), (6, .int ((x96 * x86) - (x96 * x86) / x98 * x98)), (7, .int z100)] [.int x103, .int z100] h101
      refine j_icmp_ge (tgt := 242) C dX10_reduces_182 (by decide) (fun c117 => ?_) (fun c117 => ?_)
      · replace e := ifp c117 e
        obtain ⟨t_11, e_11, eu_11⟩ := exL_spec e
        obtain rfl := kT10 t_11 (e0_10.trans (congrArg some eu_11))
        replace e := e_11
        refine jx_sub (lv' := [(0, .ref l0), (1, .int l1), (2, .int y70), (4, .int x86), (5, .int z88)]) [0, 1, 2, 3, 4] rfl ?_
        exact b242 z88 h101 e
      · replace e := ifn c117 e
        refine j_iload C dX10_reduces_185 rfl ?_
        refine j_if_le (tgt := 242) C dX10_reduces_187 (by decide) (fun c116 => ?_) (fun c116 => ?_)
        · replace e := ifp c116 e
          obtain ⟨t_12, e_12, eu_12⟩ := exL_spec e
          obtain rfl := kT10 t_12 (e0_10.trans (congrArg some eu_12))
          replace e := e_12
          refine jx_sub (lv' := [(0, .ref l0), (1, .int l1), (2, .int y70), (4, .int x86), (5, .int z88)]) [0, 1, 2, 3, 4] rfl ?_
          exact b242 z88 h101 e
        · replace e := ifn c116 e
          refine j_aload_n C dX10_reduces_190 rfl rfl ?_
          replace e := ob e
          obtain ⟨x104, ex104, e⟩ := e
          refine j_getr (ci := 10) (RC := RX10) (T := TX10) (N := 38) 25 C rfl klX10 (Nat.le_of_ble_eq_true rfl) kX10_58 rfl dX10_reduces_191 ex104 ?_
          refine j_iload C dX10_reduces_194 rfl ?_
          refine j_iload C dX10_reduces_196 rfl ?_
          replace e := ob e
          obtain ⟨x105, ex105, e⟩ := e
          refine j_callS (As := [.int z88, .int z100]) (na := 2) (st := [.ref x104]) (k1 := 0) (n1 := 0) C hr (sX10_cell ex105) kX10_254 kst_X10_cell kini_X10 kc_X10_cell (by decide) rfl ⟨(Nat.le_of_ble_eq_true rfl), (Nat.le_of_ble_eq_true rfl)⟩ (Nat.le_of_ble_eq_true rfl) ⟨rfl, rfl, (Nat.le_of_ble_eq_true rfl), (Nat.le_of_ble_eq_true rfl)⟩ dX10_reduces_198 ?_
          rintro _ _ ⟨rfl, rfl⟩
          show jx_J X 0 0 201 [(0, .ref l0), (1, .int l1), (2, .int y70), (4, .int x86), (5, .int z88), (6, .int ((x96 * x86) - (x96 * x86) / x98 * x98)), (7, .int z100)] [.int x105, .ref x104] h101
          refine j_aload_n C dX10_reduces_201 rfl rfl ?_
          refine j_aload_n C dX10_reduces_202 rfl rfl ?_
          replace e := ob e
          obtain ⟨x106, ex106, e⟩ := e
          refine j_getr (ci := 10) (RC := RX10) (T := TX10) (N := 38) 25 C rfl klX10 (Nat.le_of_ble_eq_true rfl) kX10_58 rfl dX10_reduces_203 ex106 ?_
          refine j_iload C dX10_reduces_206 rfl ?_
          refine j_iload C dX10_reduces_208 rfl ?_
          replace e := ob e
          obtain ⟨x107, ex107, e⟩ := e
          refine j_callS (As := [.int z88, .int z100]) (na := 2) (st := [.ref x106, .ref l0, .int x105, .ref x104]) (k1 := 0) (n1 := 0) C hr (sX10_cell ex107) kX10_254 kst_X10_cell kini_X10 kc_X10_cell (by decide) rfl ⟨(Nat.le_of_ble_eq_true rfl), (Nat.le_of_ble_eq_true rfl)⟩ (Nat.le_of_ble_eq_true rfl) ⟨rfl, rfl, (Nat.le_of_ble_eq_true rfl), (Nat.le_of_ble_eq_true rfl)⟩ dX10_reduces_210 ?_
          rintro _ _ ⟨rfl, rfl⟩
          show jx_J X 0 0 213 [(0, .ref l0), (1, .int l1), (2, .int y70), (4, .int x86), (5, .int z88), (6, .int ((x96 * x86) - (x96 * x86) / x98 * x98)), (7, .int z100)] [.int x107, .ref x106, .ref l0, .int x105, .ref x104] h101
          replace e := ob e
          obtain ⟨x108, ex108, e⟩ := e
          refine j_iald C dX10_reduces_213 ex108 ?_
          refine j_iload C dX10_reduces_214 rfl ?_
          refine j_aload_n C dX10_reduces_216 rfl rfl ?_
          replace e := ob e
          obtain ⟨x109, ex109, e⟩ := e
          refine j_getr (ci := 10) (RC := RX10) (T := TX10) (N := 38) 25 C rfl klX10 (Nat.le_of_ble_eq_true rfl) kX10_58 rfl dX10_reduces_217 ex109 ?_
          refine j_aload_n C dX10_reduces_220 rfl rfl ?_
          replace e := ob e
          obtain ⟨x110, ex110, e⟩ := e
          refine j_geti (ci := 10) (RC := RX10) (T := TX10) (N := 38) 28 C rfl klX10 (Nat.le_of_ble_eq_true rfl) kX10_283 rfl dX10_reduces_221 ex110 ?_
          refine j_iload C dX10_reduces_224 rfl ?_
          replace e := ob e
          obtain ⟨x111, ex111, e⟩ := e
          refine j_callS (As := [.int x110, .int z100]) (na := 2) (st := [.ref x109, .int ((x96 * x86) - (x96 * x86) / x98 * x98), .int x108, .ref l0, .int x105, .ref x104]) (k1 := 0) (n1 := 0) C hr (sX10_cell ex111) kX10_254 kst_X10_cell kini_X10 kc_X10_cell (by decide) rfl ⟨(Nat.le_of_ble_eq_true rfl), (Nat.le_of_ble_eq_true rfl)⟩ (Nat.le_of_ble_eq_true rfl) ⟨rfl, rfl, (Nat.le_of_ble_eq_true rfl), (Nat.le_of_ble_eq_true rfl)⟩ dX10_reduces_226 ?_
          rintro _ _ ⟨rfl, rfl⟩
          show jx_J X 0 0 229 [(0, .ref l0), (1, .int l1), (2, .int y70), (4, .int x86), (5, .int z88), (6, .int ((x96 * x86) - (x96 * x86) / x98 * x98)), (7, .int z100)] [.int x111, .ref x109, .int ((x96 * x86) - (x96 * x86) / x98 * x98), .int x108, .ref l0, .int x105, .ref x104] h101
          replace e := ob e
          obtain ⟨x112, ex112, e⟩ := e
          refine j_iald C dX10_reduces_229 ex112 ?_
          refine j_imul C dX10_reduces_230 ?_
          refine j_isub C dX10_reduces_231 ?_
          replace e := ob e
          obtain ⟨_, eo113, e⟩ := e
          replace e := ob e
          obtain ⟨x114, ex114, e⟩ := e
          refine j_callV (ci := 10) (RC := RX10) (T := TX10) (N := 38) (As := [.int (x108 - (((x96 * x86) - (x96 * x86) / x98 * x98) * x112))]) (b := l0) (na := 1) (st := [.int x105, .ref x104]) (k1 := 0) (n1 := 0) C hr (sX10_mod ex114) rfl eo113 kX10_205 kim_X10_mod ksel_X10_mod kini_X10 kc_X10_mod (by decide) rfl ⟨(Nat.le_of_ble_eq_true rfl), (Nat.le_of_ble_eq_true rfl)⟩ (Nat.le_of_ble_eq_true rfl) ⟨rfl, rfl, (Nat.le_of_ble_eq_true rfl), (Nat.le_of_ble_eq_true rfl)⟩ dX10_reduces_232 ?_
          rintro _ _ ⟨rfl, rfl⟩
          show jx_J X 0 0 235 [(0, .ref l0), (1, .int l1), (2, .int y70), (4, .int x86), (5, .int z88), (6, .int ((x96 * x86) - (x96 * x86) / x98 * x98)), (7, .int z100)] [.int x114, .int x105, .ref x104] h101
          replace e := ob e
          obtain ⟨h115, eh115, e⟩ := e
          refine j_iast C dX10_reduces_235 eh115 ?_
          refine j_iinc (v := (z100 + (1 : Int32))) (lv1 := [(7, .int (z100 + (1 : Int32))), (0, .ref l0), (1, .int l1), (2, .int y70), (4, .int x86), (5, .int z88), (6, .int ((x96 * x86) - (x96 * x86) / x98 * x98))]) C hL dX10_reduces_236 rfl rfl (Nat.le_of_ble_eq_true rfl) rfl ?_
          refine j_goto (tgt := 176) C dX10_reduces_239 (by decide) ?_
          obtain rfl := Option.some.inj e
          refine jx_sub (lv' := [(0, .ref l0), (1, .int l1), (2, .int y70), (4, .int x86), (5, .int z88), (6, .int ((x96 * x86) - (x96 * x86) / x98 * x98)), (7, .int (z100 + (1 : Int32)))]) [1, 2, 3, 4, 5, 6, 0] rfl ?_
          exact kI10 ((z100 + (1 : Int32)), h115) e0_10
  have b49 : ∀ (y119 : Int32) (y120 : Int32) (h121 : jx_H), BX10_reduces_49 l0 l1 y119 y120 h121 = some u7 → jx_J X 0 0 49 [(0, .ref l0), (1, .int l1), (2, .int y119), (3, .int y120)] [] h121 := by
    intro y119 y120 h121 e
    unfold BX10_reduces_49 at e
    refine j_iload_n C dX10_reduces_49 rfl rfl ?_
    refine j_iload_n C dX10_reduces_50 rfl rfl ?_
    refine j_icmp_ne (tgt := 62) C dX10_reduces_51 (by decide) (fun c132 => ?_) (fun c132 => ?_)
    · replace e := ifn c132 e
      refine j_iload_n C dX10_reduces_62 rfl rfl ?_
      refine j_aload_n C dX10_reduces_63 rfl rfl ?_
      replace e := ob e
      obtain ⟨x122, ex122, e⟩ := e
      refine j_geti (ci := 10) (RC := RX10) (T := TX10) (N := 38) 28 C rfl klX10 (Nat.le_of_ble_eq_true rfl) kX10_283 rfl dX10_reduces_64 ex122 ?_
      refine j_icmp_eq (tgt := 92) C dX10_reduces_67 (by decide) (fun c130 => ?_) (fun c130 => ?_)
      · replace e := ifp c130 e
        refine jx_sub (lv' := [(0, .ref l0), (1, .int l1), (2, .int y119)]) [0, 1, 2] rfl ?_
        exact b92 y119 h121 e
      · replace e := ifn c130 e
        refine j_aload_n C dX10_reduces_70 rfl rfl ?_
        refine j_iload_n C dX10_reduces_71 rfl rfl ?_
        refine j_aload_n C dX10_reduces_72 rfl rfl ?_
        replace e := ob e
        obtain ⟨x123, ex123, e⟩ := e
        refine j_geti (ci := 10) (RC := RX10) (T := TX10) (N := 38) 28 C rfl klX10 (Nat.le_of_ble_eq_true rfl) kX10_283 rfl dX10_reduces_73 ex123 ?_
        replace e := ob e
        obtain ⟨_, eo124, e⟩ := e
        replace e := ob e
        obtain ⟨h125, eh125, e⟩ := e
        refine j_callV (ci := 10) (RC := RX10) (T := TX10) (N := 38) (As := [.int y120, .int x123]) (b := l0) (na := 2) (st := []) (k1 := 0) (n1 := 0) C hr (sX10_swapsRows eh125) rfl eo124 kX10_289 kim_X10_swapsRows ksel_X10_swapsRows kini_X10 kc_X10_swapsRows (by decide) rfl ⟨(Nat.le_of_ble_eq_true rfl), (Nat.le_of_ble_eq_true rfl)⟩ (Nat.le_of_ble_eq_true rfl) ⟨rfl, rfl, (Nat.le_of_ble_eq_true rfl), (Nat.le_of_ble_eq_true rfl)⟩ dX10_reduces_76 ?_
        rintro _ _ ⟨rfl, rfl⟩
        show jx_J X 0 0 79 [(0, .ref l0), (1, .int l1), (2, .int y119), (3, .int y120)] [] h125
        refine j_aload_n C dX10_reduces_79 rfl rfl ?_
        refine j_aload_n C dX10_reduces_80 rfl rfl ?_
        refine j_aload_n C dX10_reduces_81 rfl rfl ?_
        replace e := ob e
        obtain ⟨x126, ex126, e⟩ := e
        refine j_geti (ci := 10) (RC := RX10) (T := TX10) (N := 38) 29 C rfl klX10 (Nat.le_of_ble_eq_true rfl) kX10_286 rfl dX10_reduces_82 ex126 ?_
        refine j_ineg C dX10_reduces_85 ?_
        replace e := ob e
        obtain ⟨_, eo127, e⟩ := e
        replace e := ob e
        obtain ⟨x128, ex128, e⟩ := e
        refine j_callV (ci := 10) (RC := RX10) (T := TX10) (N := 38) (As := [.int (-x126)]) (b := l0) (na := 1) (st := [.ref l0]) (k1 := 0) (n1 := 0) C hr (sX10_mod ex128) rfl eo127 kX10_205 kim_X10_mod ksel_X10_mod kini_X10 kc_X10_mod (by decide) rfl ⟨(Nat.le_of_ble_eq_true rfl), (Nat.le_of_ble_eq_true rfl)⟩ (Nat.le_of_ble_eq_true rfl) ⟨rfl, rfl, (Nat.le_of_ble_eq_true rfl), (Nat.le_of_ble_eq_true rfl)⟩ dX10_reduces_86 ?_
        rintro _ _ ⟨rfl, rfl⟩
        show jx_J X 0 0 89 [(0, .ref l0), (1, .int l1), (2, .int y119), (3, .int y120)] [.int x128, .ref l0] h125
        replace e := ob e
        obtain ⟨h129, eh129, e⟩ := e
        refine j_put (ci := 10) (RC := RX10) (T := TX10) (N := 38) (ty0 := tyX10) 29 C rfl klX10 tyX10_ok nmX10 (Nat.le_of_ble_eq_true rfl) kX10_286 rfl rfl rfl rfl dX10_reduces_89 eh129 ?_
        refine jx_sub (lv' := [(0, .ref l0), (1, .int l1), (2, .int y119)]) [0, 1, 2] rfl ?_
        exact b92 y119 h129 e
    · replace e := ifp c132 e
      refine j_aload_n C dX10_reduces_54 rfl rfl ?_
      refine j_iconst (v := (0 : Int32)) C dX10_reduces_55 (by decide) ?_
      replace e := ob e
      obtain ⟨h131, eh131, e⟩ := e
      refine j_put (ci := 10) (RC := RX10) (T := TX10) (N := 38) (ty0 := tyX10) 29 C rfl klX10 tyX10_ok nmX10 (Nat.le_of_ble_eq_true rfl) kX10_286 rfl rfl rfl rfl dX10_reduces_56 eh131 ?_
      refine j_goto (tgt := 258) C dX10_reduces_59 (by decide) ?_
      refine jx_sub (lv' := [(0, .ref l0), (1, .int l1), (2, .int y119)]) [0, 1, 2] rfl ?_
      exact b258 y119 h131 e
  unfold LX10_reduces_12 at e
  refine j_iload_n C dX10_reduces_12 rfl rfl ?_
  refine j_aload_n C dX10_reduces_13 rfl rfl ?_
  replace e := ob e
  obtain ⟨_, eo133, e⟩ := e
  replace e := ob e
  obtain ⟨x134, ex134, e⟩ := e
  refine j_callV (ci := 10) (RC := RX10) (T := TX10) (N := 38) (As := []) (b := l0) (na := 0) (st := [.int z66]) (k1 := 0) (n1 := 0) C hr (sX10_n ex134) rfl eo133 kX10_105 kim_X10_n ksel_X10_n kini_X10 kc_X10_n (by decide) rfl ⟨(Nat.le_of_ble_eq_true rfl), (Nat.le_of_ble_eq_true rfl)⟩ (Nat.le_of_ble_eq_true rfl) ⟨rfl, rfl, (Nat.le_of_ble_eq_true rfl), (Nat.le_of_ble_eq_true rfl)⟩ dX10_reduces_14 ?_
  rintro _ _ ⟨rfl, rfl⟩
  show jx_J X 0 0 17 [(0, .ref l0), (1, .int l1), (2, .int z66)] [.int x134, .int z66] h67
  refine j_icmp_ge (tgt := 264) C dX10_reduces_17 (by decide) (fun c142 => ?_) (fun c142 => ?_)
  · replace e := ifp c142 e
    obtain ⟨t_13, e_13, eu_13⟩ := exL_spec e
    obtain rfl := kT7 t_13 (e0_7.trans (congrArg some eu_13))
    replace e := e_13
    cases e
    exact j_vret C hq dX10_reduces_264 ⟨Nat.le_of_ble_eq_true rfl, Nat.le_of_ble_eq_true rfl⟩ ⟨rfl, rfl⟩
  · replace e := ifn c142 e
    refine j_aload_n C dX10_reduces_20 rfl rfl ?_
    replace e := ob e
    obtain ⟨x135, ex135, e⟩ := e
    refine j_geti (ci := 10) (RC := RX10) (T := TX10) (N := 38) 28 C rfl klX10 (Nat.le_of_ble_eq_true rfl) kX10_283 rfl dX10_reduces_21 ex135 ?_
    refine j_istore_n (lv1 := [(3, .int x135), (0, .ref l0), (1, .int l1), (2, .int z66)]) C hL dX10_reduces_24 rfl (Nat.le_of_ble_eq_true rfl) rfl ?_
    refine jx_sub (lv' := [(0, .ref l0), (1, .int l1), (2, .int z66), (3, .int x135)]) [1, 2, 3, 0] rfl ?_
    refine itr_ind (s0 := x135) (fun s : Int32 => jx_J X 0 0 25 [(0, .ref l0), (1, .int l1), (2, .int z66), (3, .int s)] [] h67) e ?_
    clear e
    intro s kI14 kT14 e0
    obtain ⟨z136, es⟩ : ∃ z, z = s := ⟨_, rfl⟩
    subst es
    obtain ⟨u14, e0_14⟩ := e0
    have e : LX10_reduces_25 l0 l1 z66 z136 h67 = some u14 := e0_14
    unfold LX10_reduces_25 at e
    refine j_iload_n C dX10_reduces_25 rfl rfl ?_
    refine j_iload_n C dX10_reduces_26 rfl rfl ?_
    refine j_icmp_ge (tgt := 49) C dX10_reduces_27 (by decide) (fun c141 => ?_) (fun c141 => ?_)
    · replace e := ifp c141 e
      obtain ⟨t_15, e_15, eu_15⟩ := exL_spec e
      obtain rfl := kT14 t_15 (e0_14.trans (congrArg some eu_15))
      replace e := e_15
      exact b49 z66 z136 h67 e
    · replace e := ifn c141 e
      refine j_aload_n C dX10_reduces_30 rfl rfl ?_
      replace e := ob e
      obtain ⟨x137, ex137, e⟩ := e
      refine j_getr (ci := 10) (RC := RX10) (T := TX10) (N := 38) 25 C rfl klX10 (Nat.le_of_ble_eq_true rfl) kX10_58 rfl dX10_reduces_31 ex137 ?_
      refine j_iload_n C dX10_reduces_34 rfl rfl ?_
      refine j_iload_n C dX10_reduces_35 rfl rfl ?_
      replace e := ob e
      obtain ⟨x138, ex138, e⟩ := e
      refine j_callS (As := [.int z136, .int z66]) (na := 2) (st := [.ref x137]) (k1 := 0) (n1 := 0) C hr (sX10_cell ex138) kX10_254 kst_X10_cell kini_X10 kc_X10_cell (by decide) rfl ⟨(Nat.le_of_ble_eq_true rfl), (Nat.le_of_ble_eq_true rfl)⟩ (Nat.le_of_ble_eq_true rfl) ⟨rfl, rfl, (Nat.le_of_ble_eq_true rfl), (Nat.le_of_ble_eq_true rfl)⟩ dX10_reduces_36 ?_
      rintro _ _ ⟨rfl, rfl⟩
      show jx_J X 0 0 39 [(0, .ref l0), (1, .int l1), (2, .int z66), (3, .int z136)] [.int x138, .ref x137] h67
      replace e := ob e
      obtain ⟨x139, ex139, e⟩ := e
      refine j_iald C dX10_reduces_39 ex139 ?_
      refine j_if_ne (tgt := 49) C dX10_reduces_40 (by decide) (fun c140 => ?_) (fun c140 => ?_)
      · replace e := ifn c140 e
        obtain ⟨t_16, e_16, eu_16⟩ := exL_spec e
        obtain rfl := kT14 t_16 (e0_14.trans (congrArg some eu_16))
        replace e := e_16
        exact b49 z66 z136 h67 e
      · replace e := ifp c140 e
        refine j_iinc (v := (z136 + (1 : Int32))) (lv1 := [(3, .int (z136 + (1 : Int32))), (0, .ref l0), (1, .int l1), (2, .int z66)]) C hL dX10_reduces_43 rfl rfl (Nat.le_of_ble_eq_true rfl) rfl ?_
        refine j_goto (tgt := 25) C dX10_reduces_46 (by decide) ?_
        obtain rfl := Option.some.inj e
        refine jx_sub (lv' := [(0, .ref l0), (1, .int l1), (2, .int z66), (3, .int (z136 + (1 : Int32)))]) [1, 2, 3, 0] rfl ?_
        exact kI14 (z136 + (1 : Int32)) e0_14
/-! BorderBasisModel.lessens([II)V -/
noncomputable def LX10_lessens_2 (l0 : Nat) (l1 : Nat) (l2 : Int32) (l3 : Int32) (h : jx_H) : Option ((Int32 × jx_H) ⊕ (jx_H)) :=
(isO h l0 10).bind fun _ =>
(FX10_n l0 h).bind fun x2 =>
if x2 ≤ l3 then
 exL (some h)
else
 (FX10_cell l3 l3 h).bind fun x3 =>
 (FX10_cell l3 l3 h).bind fun x4 =>
 (hal h .int l1 x4).bind fun x5 =>
 (isO h l0 10).bind fun _ =>
 (FX10_mod l0 (x5 - l2) h).bind fun x7 =>
 (has h .int l1 x3 x7).bind fun h8 =>
 some (.inl ((l3 + (1 : Int32)), h8))
noncomputable def FX10_lessens (l0 : Nat) (l1 : Nat) (l2 : Int32) (h : jx_H) : Option (jx_H) :=
itr (fun s : Int32 × jx_H => LX10_lessens_2 l0 l1 l2 s.1 s.2) ((0 : Int32), h)
def rmX10_lessens : Room := { frames := 2, cells := 0, slots := 0, locals := 42 }
set_option maxRecDepth 20000 in
set_option maxHeartbeats 4000000 in
theorem sX10_lessens {l0 : Nat} {l1 : Nat} {l2 : Int32} {h : jx_H} {h9 : jx_H} (e : FX10_lessens l0 l1 l2 h = some h9) : jx_Ct yX10_lessens cX10_lessens 4 none rmX10_lessens [.ref l0, .ref l1, .int l2] h (fun r' h' => none = r' ∧ h9 = h') := by
  refine jx_Ct.of (own := RX10) (by decide) rfl (Nat.le_of_ble_eq_true rfl) (fun X C hq hr hL hN => ?_)
  refine jx_sub (lv' := [(0, .ref l0), (1, .ref l1), (2, .int l2)]) [0, 1, 2] rfl ?_
  unfold FX10_lessens at e
  refine j_iconst (v := (0 : Int32)) C dX10_lessens_0 (by decide) ?_
  refine j_istore_n (lv1 := [(3, .int (0 : Int32)), (0, .ref l0), (1, .ref l1), (2, .int l2)]) C hL dX10_lessens_1 rfl (Nat.le_of_ble_eq_true rfl) rfl ?_
  refine jx_sub (lv' := [(0, .ref l0), (1, .ref l1), (2, .int l2), (3, .int (0 : Int32))]) [1, 2, 3, 0] rfl ?_
  refine itr_ind (s0 := ((0 : Int32), h)) (fun s : Int32 × jx_H => jx_J X 0 0 2 [(0, .ref l0), (1, .ref l1), (2, .int l2), (3, .int s.1)] [] s.2) e ?_
  clear e
  intro s kI2 kT2 e0
  obtain ⟨z10, h11⟩ := s
  obtain ⟨u2, e0_2⟩ := e0
  have e : LX10_lessens_2 l0 l1 l2 z10 h11 = some u2 := e0_2
  unfold LX10_lessens_2 at e
  refine j_iload_n C dX10_lessens_2 rfl rfl ?_
  refine j_aload_n C dX10_lessens_3 rfl rfl ?_
  replace e := ob e
  obtain ⟨_, eo12, e⟩ := e
  replace e := ob e
  obtain ⟨x13, ex13, e⟩ := e
  refine j_callV (ci := 10) (RC := RX10) (T := TX10) (N := 38) (As := []) (b := l0) (na := 0) (st := [.int z10]) (k1 := 0) (n1 := 0) C hr (sX10_n ex13) rfl eo12 kX10_105 kim_X10_n ksel_X10_n kini_X10 kc_X10_n (by decide) rfl ⟨(Nat.le_of_ble_eq_true rfl), (Nat.le_of_ble_eq_true rfl)⟩ (Nat.le_of_ble_eq_true rfl) ⟨rfl, rfl, (Nat.le_of_ble_eq_true rfl), (Nat.le_of_ble_eq_true rfl)⟩ dX10_lessens_4 ?_
  rintro _ _ ⟨rfl, rfl⟩
  show jx_J X 0 0 7 [(0, .ref l0), (1, .ref l1), (2, .int l2), (3, .int z10)] [.int x13, .int z10] h11
  refine j_icmp_ge (tgt := 36) C dX10_lessens_7 (by decide) (fun c20 => ?_) (fun c20 => ?_)
  · replace e := ifp c20 e
    obtain ⟨t_3, e_3, eu_3⟩ := exL_spec e
    obtain rfl := kT2 t_3 (e0_2.trans (congrArg some eu_3))
    replace e := e_3
    cases e
    exact j_vret C hq dX10_lessens_36 ⟨Nat.le_of_ble_eq_true rfl, Nat.le_of_ble_eq_true rfl⟩ ⟨rfl, rfl⟩
  · replace e := ifn c20 e
    refine j_aload_n C dX10_lessens_10 rfl rfl ?_
    refine j_iload_n C dX10_lessens_11 rfl rfl ?_
    refine j_iload_n C dX10_lessens_12 rfl rfl ?_
    replace e := ob e
    obtain ⟨x14, ex14, e⟩ := e
    refine j_callS (As := [.int z10, .int z10]) (na := 2) (st := [.ref l1]) (k1 := 0) (n1 := 0) C hr (sX10_cell ex14) kX10_254 kst_X10_cell kini_X10 kc_X10_cell (by decide) rfl ⟨(Nat.le_of_ble_eq_true rfl), (Nat.le_of_ble_eq_true rfl)⟩ (Nat.le_of_ble_eq_true rfl) ⟨rfl, rfl, (Nat.le_of_ble_eq_true rfl), (Nat.le_of_ble_eq_true rfl)⟩ dX10_lessens_13 ?_
    rintro _ _ ⟨rfl, rfl⟩
    show jx_J X 0 0 16 [(0, .ref l0), (1, .ref l1), (2, .int l2), (3, .int z10)] [.int x14, .ref l1] h11
    refine j_aload_n C dX10_lessens_16 rfl rfl ?_
    refine j_aload_n C dX10_lessens_17 rfl rfl ?_
    refine j_iload_n C dX10_lessens_18 rfl rfl ?_
    refine j_iload_n C dX10_lessens_19 rfl rfl ?_
    replace e := ob e
    obtain ⟨x15, ex15, e⟩ := e
    refine j_callS (As := [.int z10, .int z10]) (na := 2) (st := [.ref l1, .ref l0, .int x14, .ref l1]) (k1 := 0) (n1 := 0) C hr (sX10_cell ex15) kX10_254 kst_X10_cell kini_X10 kc_X10_cell (by decide) rfl ⟨(Nat.le_of_ble_eq_true rfl), (Nat.le_of_ble_eq_true rfl)⟩ (Nat.le_of_ble_eq_true rfl) ⟨rfl, rfl, (Nat.le_of_ble_eq_true rfl), (Nat.le_of_ble_eq_true rfl)⟩ dX10_lessens_20 ?_
    rintro _ _ ⟨rfl, rfl⟩
    show jx_J X 0 0 23 [(0, .ref l0), (1, .ref l1), (2, .int l2), (3, .int z10)] [.int x15, .ref l1, .ref l0, .int x14, .ref l1] h11
    replace e := ob e
    obtain ⟨x16, ex16, e⟩ := e
    refine j_iald C dX10_lessens_23 ex16 ?_
    refine j_iload_n C dX10_lessens_24 rfl rfl ?_
    refine j_isub C dX10_lessens_25 ?_
    replace e := ob e
    obtain ⟨_, eo17, e⟩ := e
    replace e := ob e
    obtain ⟨x18, ex18, e⟩ := e
    refine j_callV (ci := 10) (RC := RX10) (T := TX10) (N := 38) (As := [.int (x16 - l2)]) (b := l0) (na := 1) (st := [.int x14, .ref l1]) (k1 := 0) (n1 := 0) C hr (sX10_mod ex18) rfl eo17 kX10_205 kim_X10_mod ksel_X10_mod kini_X10 kc_X10_mod (by decide) rfl ⟨(Nat.le_of_ble_eq_true rfl), (Nat.le_of_ble_eq_true rfl)⟩ (Nat.le_of_ble_eq_true rfl) ⟨rfl, rfl, (Nat.le_of_ble_eq_true rfl), (Nat.le_of_ble_eq_true rfl)⟩ dX10_lessens_26 ?_
    rintro _ _ ⟨rfl, rfl⟩
    show jx_J X 0 0 29 [(0, .ref l0), (1, .ref l1), (2, .int l2), (3, .int z10)] [.int x18, .int x14, .ref l1] h11
    replace e := ob e
    obtain ⟨h19, eh19, e⟩ := e
    refine j_iast C dX10_lessens_29 eh19 ?_
    refine j_iinc (v := (z10 + (1 : Int32))) (lv1 := [(3, .int (z10 + (1 : Int32))), (0, .ref l0), (1, .ref l1), (2, .int l2)]) C hL dX10_lessens_30 rfl rfl (Nat.le_of_ble_eq_true rfl) rfl ?_
    refine j_goto (tgt := 2) C dX10_lessens_33 (by decide) ?_
    obtain rfl := Option.some.inj e
    refine jx_sub (lv' := [(0, .ref l0), (1, .ref l1), (2, .int l2), (3, .int (z10 + (1 : Int32)))]) [1, 2, 3, 0] rfl ?_
    exact kI2 ((z10 + (1 : Int32)), h19) e0_2
