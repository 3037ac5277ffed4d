/-! BorderBasis.residue(II)I -/
noncomputable def FX9_residue (l0 : Int32) (l1 : Int32) (h : jx_H) : Option (Int32) :=
if 0 < l1 then
 if l1 = 0 then none else
 if 0 ≤ (l0 - l0 / l1 * l1) then
  some (l0 - l0 / l1 * l1)
 else
  some ((l0 - l0 / l1 * l1) + l1)
else
 some (0 : Int32)
def rmX9_residue : Room := { frames := 0, cells := 0, slots := 0, locals := 0 }
set_option maxRecDepth 20000 in
set_option maxHeartbeats 4000000 in
theorem sX9_residue {l0 : Int32} {l1 : Int32} {h : jx_H} {r : Int32}  (e : FX9_residue l0 l1 h = some r) : jx_Ct yX9_residue cX9_residue 3 (some .int) rmX9_residue [.int l0, .int l1] h (fun r' h' => some (.int r) = r' ∧ h = h') := by
  refine jx_Ct.of (own := RX9) (by decide) rfl (Nat.le_of_ble_eq_true rfl) (fun X C hq hr hL hN => ?_)
  refine jx_sub (lv' := [(0, .int l0), (1, .int l1)]) [0, 1] rfl ?_
  unfold FX9_residue at e
  refine j_iload_n C dX9_residue_0 rfl rfl ?_
  refine j_if_gt (tgt := 6) C dX9_residue_1 (by decide) (fun c6 => ?_) (fun c6 => ?_)
  · replace e := ifp c6 e
    refine j_iload_n C dX9_residue_6 rfl rfl ?_
    refine j_iload_n C dX9_residue_7 rfl rfl ?_
    by_cases c4 : l1 = 0
    · exact nos (ifp c4 e)
    replace e := ifn c4 e
    refine j_irem C dX9_residue_8 c4 ?_
    refine j_istore_n (lv1 := [(2, .int (l0 - l0 / l1 * l1)), (0, .int l0), (1, .int l1)]) C hL dX9_residue_9 rfl (Nat.le_of_ble_eq_true rfl) rfl ?_
    refine j_iload_n C dX9_residue_10 rfl rfl ?_
    refine j_if_ge (tgt := 20) C dX9_residue_11 (by decide) (fun c5 => ?_) (fun c5 => ?_)
    · replace e := ifp c5 e
      refine j_iload_n C dX9_residue_20 rfl rfl ?_
      cases e
      exact j_iret C hq rfl dX9_residue_21 ⟨Nat.le_of_ble_eq_true rfl, Nat.le_of_ble_eq_true rfl⟩ ⟨rfl, rfl⟩
    · replace e := ifn c5 e
      refine j_iload_n C dX9_residue_14 rfl rfl ?_
      refine j_iload_n C dX9_residue_15 rfl rfl ?_
      refine j_iadd C dX9_residue_16 ?_
      refine j_goto (tgt := 21) C dX9_residue_17 (by decide) ?_
      cases e
      exact j_iret C hq rfl dX9_residue_21 ⟨Nat.le_of_ble_eq_true rfl, Nat.le_of_ble_eq_true rfl⟩ ⟨rfl, rfl⟩
  · replace e := ifn c6 e
    refine j_iconst (v := (0 : Int32)) C dX9_residue_4 (by decide) ?_
    cases e
    exact j_iret C hq rfl dX9_residue_5 ⟨Nat.le_of_ble_eq_true rfl, Nat.le_of_ble_eq_true rfl⟩ ⟨rfl, rfl⟩
/-! BorderBasis.isOutside(II)Z -/
noncomputable def FX9_isOutside (l0 : Int32) (l1 : Int32) (h : jx_H) : Option (Int32) :=
if l0 < 0 then
 some (1 : Int32)
else
 if l0 ≤ l1 then
  some (0 : Int32)
 else
  some (1 : Int32)
def rmX9_isOutside : Room := { frames := 0, cells := 0, slots := 0, locals := 0 }
set_option maxRecDepth 20000 in
set_option maxHeartbeats 4000000 in
theorem sX9_isOutside {l0 : Int32} {l1 : Int32} {h : jx_H} {r : Int32}  (e : FX9_isOutside l0 l1 h = some r) : jx_Ct yX9_isOutside cX9_isOutside 2 (some .boolean) rmX9_isOutside [.int l0, .int l1] h (fun r' h' => some (.int r) = r' ∧ h = h') := by
  refine jx_Ct.of (own := RX9) (by decide) rfl (Nat.le_of_ble_eq_true rfl) (fun X C hq hr hL hN => ?_)
  refine jx_sub (lv' := [(0, .int l0), (1, .int l1)]) [0, 1] rfl ?_
  unfold FX9_isOutside at e
  refine j_iload_n C dX9_isOutside_0 rfl rfl ?_
  refine j_if_lt (tgt := 9) C dX9_isOutside_1 (by decide) (fun c4 => ?_) (fun c4 => ?_)
  · replace e := ifp c4 e
    refine j_iconst (v := (1 : Int32)) C dX9_isOutside_9 (by decide) ?_
    refine j_goto (tgt := 14) C dX9_isOutside_10 (by decide) ?_
    cases e
    exact j_iret C hq rfl dX9_isOutside_14 ⟨Nat.le_of_ble_eq_true rfl, Nat.le_of_ble_eq_true rfl⟩ ⟨rfl, rfl⟩
  · replace e := ifn c4 e
    refine j_iload_n C dX9_isOutside_4 rfl rfl ?_
    refine j_iload_n C dX9_isOutside_5 rfl rfl ?_
    refine j_icmp_le (tgt := 13) C dX9_isOutside_6 (by decide) (fun c3 => ?_) (fun c3 => ?_)
    · replace e := ifp c3 e
      refine j_iconst (v := (0 : Int32)) C dX9_isOutside_13 (by decide) ?_
      cases e
      exact j_iret C hq rfl dX9_isOutside_14 ⟨Nat.le_of_ble_eq_true rfl, Nat.le_of_ble_eq_true rfl⟩ ⟨rfl, rfl⟩
    · replace e := ifn c3 e
      refine j_iconst (v := (1 : Int32)) C dX9_isOutside_9 (by decide) ?_
      refine j_goto (tgt := 14) C dX9_isOutside_10 (by decide) ?_
      cases e
      exact j_iret C hq rfl dX9_isOutside_14 ⟨Nat.le_of_ble_eq_true rfl, Nat.le_of_ble_eq_true rfl⟩ ⟨rfl, rfl⟩
/-! BorderBasis$Matrix.has(II)Z -/
noncomputable def FX2_has (l0 : Nat) (l1 : Int32) (l2 : Int32) (h : jx_H) : Option (Int32) :=
if l1 < 0 then
 some (0 : Int32)
else
 (hgi h l0 2 4).bind fun x1 =>
 if x1 ≤ l1 then
  some (0 : Int32)
 else
  if l2 < 0 then
   some (0 : Int32)
  else
   (hgi h l0 2 5).bind fun x2 =>
   if x2 ≤ l2 then
    some (0 : Int32)
   else
    some (1 : Int32)
def rmX2_has : Room := { frames := 0, cells := 0, slots := 0, locals := 0 }
set_option maxRecDepth 20000 in
set_option maxHeartbeats 4000000 in
theorem sX2_has {l0 : Nat} {l1 : Int32} {l2 : Int32} {h : jx_H} {r : Int32}  (e : FX2_has l0 l1 l2 h = some r) : jx_Ct yX2_has cX2_has 3 (some .boolean) rmX2_has [.ref l0, .int l1, .int l2] h (fun r' h' => some (.int r) = r' ∧ h = h') := by
  refine jx_Ct.of (own := RX2) (by decide) rfl (Nat.le_of_ble_eq_true rfl) (fun X C hq hr hL hN => ?_)
  refine jx_sub (lv' := [(0, .ref l0), (1, .int l1), (2, .int l2)]) [0, 1, 2] rfl ?_
  unfold FX2_has at e
  refine j_iload_n C dX2_has_0 rfl rfl ?_
  refine j_if_lt (tgt := 28) C dX2_has_1 (by decide) (fun c12 => ?_) (fun c12 => ?_)
  · replace e := ifp c12 e
    refine j_iconst (v := (0 : Int32)) C dX2_has_28 (by decide) ?_
    cases e
    exact j_iret C hq rfl dX2_has_29 ⟨Nat.le_of_ble_eq_true rfl, Nat.le_of_ble_eq_true rfl⟩ ⟨rfl, rfl⟩
  · replace e := ifn c12 e
    refine j_iload_n C dX2_has_4 rfl rfl ?_
    refine j_aload_n C dX2_has_5 rfl rfl ?_
    replace e := ob e
    obtain ⟨x7, ex7, e⟩ := e
    refine j_geti (ci := 2) (RC := RX2) (T := TX2) (N := 7) 4 C rfl klX2 (Nat.le_of_ble_eq_true rfl) kX2_31 rfl dX2_has_6 ex7 ?_
    refine j_icmp_ge (tgt := 28) C dX2_has_9 (by decide) (fun c11 => ?_) (fun c11 => ?_)
    · replace e := ifp c11 e
      refine j_iconst (v := (0 : Int32)) C dX2_has_28 (by decide) ?_
      cases e
      exact j_iret C hq rfl dX2_has_29 ⟨Nat.le_of_ble_eq_true rfl, Nat.le_of_ble_eq_true rfl⟩ ⟨rfl, rfl⟩
    · replace e := ifn c11 e
      refine j_iload_n C dX2_has_12 rfl rfl ?_
      refine j_if_lt (tgt := 28) C dX2_has_13 (by decide) (fun c10 => ?_) (fun c10 => ?_)
      · replace e := ifp c10 e
        refine j_iconst (v := (0 : Int32)) C dX2_has_28 (by decide) ?_
        cases e
        exact j_iret C hq rfl dX2_has_29 ⟨Nat.le_of_ble_eq_true rfl, Nat.le_of_ble_eq_true rfl⟩ ⟨rfl, rfl⟩
      · replace e := ifn c10 e
        refine j_iload_n C dX2_has_16 rfl rfl ?_
        refine j_aload_n C dX2_has_17 rfl rfl ?_
        replace e := ob e
        obtain ⟨x8, ex8, e⟩ := e
        refine j_geti (ci := 2) (RC := RX2) (T := TX2) (N := 7) 5 C rfl klX2 (Nat.le_of_ble_eq_true rfl) kX2_34 rfl dX2_has_18 ex8 ?_
        refine j_icmp_ge (tgt := 28) C dX2_has_21 (by decide) (fun c9 => ?_) (fun c9 => ?_)
        · replace e := ifp c9 e
          refine j_iconst (v := (0 : Int32)) C dX2_has_28 (by decide) ?_
          cases e
          exact j_iret C hq rfl dX2_has_29 ⟨Nat.le_of_ble_eq_true rfl, Nat.le_of_ble_eq_true rfl⟩ ⟨rfl, rfl⟩
        · replace e := ifn c9 e
          refine j_iconst (v := (1 : Int32)) C dX2_has_24 (by decide) ?_
          refine j_goto (tgt := 29) C dX2_has_25 (by decide) ?_
          cases e
          exact j_iret C hq rfl dX2_has_29 ⟨Nat.le_of_ble_eq_true rfl, Nat.le_of_ble_eq_true rfl⟩ ⟨rfl, rfl⟩
/-! BorderBasis$Matrix.at(II)I -/
noncomputable def FX2_at (l0 : Nat) (l1 : Int32) (l2 : Int32) (h : jx_H) : Option (Int32) :=
(isO h l0 2).bind fun _ =>
(FX2_has l0 l1 l2 h).bind fun x2 =>
if x2 = 0 then
 some (0 : Int32)
else
 (hgr h l0 2 2).bind fun x3 =>
 (hgi h l0 2 1).bind fun x4 =>
 (hal h .int x3 ((l1 * x4) + l2)).bind fun x5 =>
 some x5
def rmX2_at : Room := { frames := 1, cells := 0, slots := 0, locals := 22 }
set_option maxRecDepth 20000 in
set_option maxHeartbeats 4000000 in
theorem sX2_at {l0 : Nat} {l1 : Int32} {l2 : Int32} {h : jx_H} {r : Int32}  (e : FX2_at l0 l1 l2 h = some r) : jx_Ct yX2_at cX2_at 3 (some .int) rmX2_at [.ref l0, .int l1, .int l2] h (fun r' h' => some (.int r) = r' ∧ h = h') := by
  refine jx_Ct.of (own := RX2) (by decide) rfl (Nat.le_of_ble_eq_true rfl) (fun X C hq hr hL hN => ?_)
  refine jx_sub (lv' := [(0, .ref l0), (1, .int l1), (2, .int l2)]) [0, 1, 2] rfl ?_
  unfold FX2_at at e
  refine j_aload_n C dX2_at_0 rfl rfl ?_
  refine j_iload_n C dX2_at_1 rfl rfl ?_
  refine j_iload_n C dX2_at_2 rfl rfl ?_
  replace e := ob e
  obtain ⟨_, eo7, e⟩ := e
  replace e := ob e
  obtain ⟨x8, ex8, e⟩ := e
  refine j_callV (ci := 2) (RC := RX2) (T := TX2) (N := 7) (As := [.int l1, .int l2]) (b := l0) (na := 2) (st := []) (k1 := 0) (n1 := 0) C hr (sX2_has ex8) rfl eo7 kX2_43 kim_X2_has ksel_X2_has kini_X2 kc_X2_has (by decide) rfl ⟨(Nat.le_of_ble_eq_true rfl), (Nat.le_of_ble_eq_true rfl)⟩ (Nat.le_of_ble_eq_true rfl) ⟨rfl, rfl, (Nat.le_of_ble_eq_true rfl), (Nat.le_of_ble_eq_true rfl)⟩ dX2_at_3 ?_
  rintro _ _ ⟨rfl, rfl⟩
  show jx_J X 0 0 6 [(0, .ref l0), (1, .int l1), (2, .int l2)] [.int x8] h
  refine j_if_eq (tgt := 25) C dX2_at_6 (by decide) (fun c12 => ?_) (fun c12 => ?_)
  · replace e := ifp c12 e
    refine j_iconst (v := (0 : Int32)) C dX2_at_25 (by decide) ?_
    cases e
    exact j_iret C hq rfl dX2_at_26 ⟨Nat.le_of_ble_eq_true rfl, Nat.le_of_ble_eq_true rfl⟩ ⟨rfl, rfl⟩
  · replace e := ifn c12 e
    refine j_aload_n C dX2_at_9 rfl rfl ?_
    replace e := ob e
    obtain ⟨x9, ex9, e⟩ := e
    refine j_getr (ci := 2) (RC := RX2) (T := TX2) (N := 7) 2 C rfl klX2 (Nat.le_of_ble_eq_true rfl) kX2_18 rfl dX2_at_10 ex9 ?_
    refine j_iload_n C dX2_at_13 rfl rfl ?_
    refine j_aload_n C dX2_at_14 rfl rfl ?_
    replace e := ob e
    obtain ⟨x10, ex10, e⟩ := e
    refine j_geti (ci := 2) (RC := RX2) (T := TX2) (N := 7) 1 C rfl klX2 (Nat.le_of_ble_eq_true rfl) kX2_15 rfl dX2_at_15 ex10 ?_
    refine j_imul C dX2_at_18 ?_
    refine j_iload_n C dX2_at_19 rfl rfl ?_
    refine j_iadd C dX2_at_20 ?_
    replace e := ob e
    obtain ⟨x11, ex11, e⟩ := e
    refine j_iald C dX2_at_21 ex11 ?_
    refine j_goto (tgt := 26) C dX2_at_22 (by decide) ?_
    cases e
    exact j_iret C hq rfl dX2_at_26 ⟨Nat.le_of_ble_eq_true rfl, Nat.le_of_ble_eq_true rfl⟩ ⟨rfl, rfl⟩
/-! BorderBasis$Matrix.put(III)V -/
noncomputable def FX2_put (l0 : Nat) (l1 : Int32) (l2 : Int32) (l3 : Int32) (h : jx_H) : Option (jx_H) :=
(isO h l0 2).bind fun _ =>
(FX2_has l0 l1 l2 h).bind fun x2 =>
if x2 = 0 then
 some h
else
 (hgr h l0 2 2).bind fun x3 =>
 (hgi h l0 2 1).bind fun x4 =>
 (has h .int x3 ((l1 * x4) + l2) l3).bind fun h5 =>
 some h5
def rmX2_put : Room := { frames := 1, cells := 0, slots := 0, locals := 22 }
set_option maxRecDepth 20000 in
set_option maxHeartbeats 4000000 in
theorem sX2_put {l0 : Nat} {l1 : Int32} {l2 : Int32} {l3 : Int32} {h : jx_H} {h9 : jx_H} (e : FX2_put l0 l1 l2 l3 h = some h9) : jx_Ct yX2_put cX2_put 4 none rmX2_put [.ref l0, .int l1, .int l2, .int l3] h (fun r' h' => none = r' ∧ h9 = h') := by
  refine jx_Ct.of (own := RX2) (by decide) rfl (Nat.le_of_ble_eq_true rfl) (fun X C hq hr hL hN => ?_)
  refine jx_sub (lv' := [(0, .ref l0), (1, .int l1), (2, .int l2), (3, .int l3)]) [0, 1, 2, 3] rfl ?_
  unfold FX2_put at e
  refine j_aload_n C dX2_put_0 rfl rfl ?_
  refine j_iload_n C dX2_put_1 rfl rfl ?_
  refine j_iload_n C dX2_put_2 rfl rfl ?_
  replace e := ob e
  obtain ⟨_, eo7, e⟩ := e
  replace e := ob e
  obtain ⟨x8, ex8, e⟩ := e
  refine j_callV (ci := 2) (RC := RX2) (T := TX2) (N := 7) (As := [.int l1, .int l2]) (b := l0) (na := 2) (st := []) (k1 := 0) (n1 := 0) C hr (sX2_has ex8) rfl eo7 kX2_43 kim_X2_has ksel_X2_has kini_X2 kc_X2_has (by decide) rfl ⟨(Nat.le_of_ble_eq_true rfl), (Nat.le_of_ble_eq_true rfl)⟩ (Nat.le_of_ble_eq_true rfl) ⟨rfl, rfl, (Nat.le_of_ble_eq_true rfl), (Nat.le_of_ble_eq_true rfl)⟩ dX2_put_3 ?_
  rintro _ _ ⟨rfl, rfl⟩
  show jx_J X 0 0 6 [(0, .ref l0), (1, .int l1), (2, .int l2), (3, .int l3)] [.int x8] h
  refine j_if_eq (tgt := 23) C dX2_put_6 (by decide) (fun c12 => ?_) (fun c12 => ?_)
  · replace e := ifp c12 e
    cases e
    exact j_vret C hq dX2_put_23 ⟨Nat.le_of_ble_eq_true rfl, Nat.le_of_ble_eq_true rfl⟩ ⟨rfl, rfl⟩
  · replace e := ifn c12 e
    refine j_aload_n C dX2_put_9 rfl rfl ?_
    replace e := ob e
    obtain ⟨x9, ex9, e⟩ := e
    refine j_getr (ci := 2) (RC := RX2) (T := TX2) (N := 7) 2 C rfl klX2 (Nat.le_of_ble_eq_true rfl) kX2_18 rfl dX2_put_10 ex9 ?_
    refine j_iload_n C dX2_put_13 rfl rfl ?_
    refine j_aload_n C dX2_put_14 rfl rfl ?_
    replace e := ob e
    obtain ⟨x10, ex10, e⟩ := e
    refine j_geti (ci := 2) (RC := RX2) (T := TX2) (N := 7) 1 C rfl klX2 (Nat.le_of_ble_eq_true rfl) kX2_15 rfl dX2_put_15 ex10 ?_
    refine j_imul C dX2_put_18 ?_
    refine j_iload_n C dX2_put_19 rfl rfl ?_
    refine j_iadd C dX2_put_20 ?_
    refine j_iload_n C dX2_put_21 rfl rfl ?_
    replace e := ob e
    obtain ⟨h11, eh11, e⟩ := e
    refine j_iast C dX2_put_22 eh11 ?_
    cases e
    exact j_vret C hq dX2_put_23 ⟨Nat.le_of_ble_eq_true rfl, Nat.le_of_ble_eq_true rfl⟩ ⟨rfl, rfl⟩
/-! BorderBasis.inverse(II)I -/
noncomputable def BX9_inverse_30 (l1 : Int32) (l2 : Int32) (l3 : Int32) (l4 : Int32) (h : jx_H) : Option ((Int32 × Int32 × Int32) ⊕ (Int32)) :=
(FX9_residue (l3 * l3) l1 h).bind fun x1 =>
some (.inl (l2, x1, (l4 >>> ((1 : Int32) &&& 31))))
noncomputable def LX9_inverse_9 (l1 : Int32) (l2 : Int32) (l3 : Int32) (l4 : Int32) (h : jx_H) : Option ((Int32 × Int32 × Int32) ⊕ (Int32)) :=
if l4 ≤ 0 then
 exL (some l2)
else
 if (l4 &&& (1 : Int32)) = (1 : Int32) then
  (FX9_residue (l2 * l3) l1 h).bind fun x2 =>
  BX9_inverse_30 l1 x2 l3 l4 h
 else
  BX9_inverse_30 l1 l2 l3 l4 h
noncomputable def FX9_inverse (l0 : Int32) (l1 : Int32) (h : jx_H) : Option (Int32) :=
itr (fun s : Int32 × Int32 × Int32 => LX9_inverse_9 l1 s.1 s.2.1 s.2.2 h) ((1 : Int32), l0, (l1 - (2 : Int32)))
def rmX9_inverse : Room := { frames := 1, cells := 0, slots := 0, locals := 22 }
set_option maxRecDepth 20000 in
set_option maxHeartbeats 4000000 in
theorem sX9_inverse {l0 : Int32} {l1 : Int32} {h : jx_H} {r : Int32}  (e : FX9_inverse l0 l1 h = some r) : jx_Ct yX9_inverse cX9_inverse 5 (some .int) rmX9_inverse [.int l0, .int l1] h (fun r' h' => some (.int r) = r' ∧ h = h') := by
  refine jx_Ct.of (own := RX9) (by decide) rfl (Nat.le_of_ble_eq_true rfl) (fun X C hq hr hL hN => ?_)
  refine jx_sub (lv' := [(0, .int l0), (1, .int l1)]) [0, 1] rfl ?_
  unfold FX9_inverse at e
  refine j_iconst (v := (1 : Int32)) C dX9_inverse_0 (by decide) ?_
  refine j_istore_n (lv1 := [(2, .int (1 : Int32)), (0, .int l0), (1, .int l1)]) C hL dX9_inverse_1 rfl (Nat.le_of_ble_eq_true rfl) rfl ?_
  refine j_iload_n C dX9_inverse_2 rfl rfl ?_
  refine j_istore_n (lv1 := [(3, .int l0), (2, .int (1 : Int32)), (0, .int l0), (1, .int l1)]) C hL dX9_inverse_3 rfl (Nat.le_of_ble_eq_true rfl) rfl ?_
  refine j_iload_n C dX9_inverse_4 rfl rfl ?_
  refine j_iconst (v := (2 : Int32)) C dX9_inverse_5 (by decide) ?_
  refine j_isub C dX9_inverse_6 ?_
  refine j_istore (lv1 := [(4, .int (l1 - (2 : Int32))), (3, .int l0), (2, .int (1 : Int32)), (0, .int l0), (1, .int l1)]) C hL dX9_inverse_7 (Nat.le_of_ble_eq_true rfl) rfl ?_
  refine jx_sub (lv' := [(1, .int l1), (2, .int (1 : Int32)), (3, .int l0), (4, .int (l1 - (2 : Int32)))]) [4, 2, 1, 0] rfl ?_
  refine itr_ind (s0 := ((1 : Int32), l0, (l1 - (2 : Int32)))) (fun s : Int32 × Int32 × Int32 => jx_J X 0 0 9 [(1, .int l1), (2, .int s.1), (3, .int s.2.1), (4, .int s.2.2)] [] h) e ?_
  clear e
  intro s kI1 kT1 e0
  obtain ⟨z5, z6, z7⟩ := s
  obtain ⟨u1, e0_1⟩ := e0
  have e : LX9_inverse_9 l1 z5 z6 z7 h = some u1 := e0_1
  have b30 : ∀ (y8 : Int32) (y9 : Int32) (y10 : Int32), BX9_inverse_30 l1 y8 y9 y10 h = some u1 → jx_J X 0 0 30 [(1, .int l1), (2, .int y8), (3, .int y9), (4, .int y10)] [] h := by
    intro y8 y9 y10 e
    unfold BX9_inverse_30 at e
    refine j_iload_n C dX9_inverse_30 rfl rfl ?_
    refine j_iload_n C dX9_inverse_31 rfl rfl ?_
    refine j_imul C dX9_inverse_32 ?_
    refine j_iload_n C dX9_inverse_33 rfl rfl ?_
    replace e := ob e
    obtain ⟨x11, ex11, e⟩ := e
    refine j_callS (As := [.int (y9 * y9), .int l1]) (na := 2) (st := []) (k1 := 0) (n1 := 0) C hr (sX9_residue ex11) kX9_319 kst_X9_residue kini_X9 kc_X9_residue (by decide) rfl ⟨(Nat.le_of_ble_eq_true rfl), (Nat.le_of_ble_eq_true rfl)⟩ (Nat.le_of_ble_eq_true rfl) ⟨rfl, rfl, (Nat.le_of_ble_eq_true rfl), (Nat.le_of_ble_eq_true rfl)⟩ dX9_inverse_34 ?_
    rintro _ _ ⟨rfl, rfl⟩
    show jx_J X 0 0 37 [(1, .int l1), (2, .int y8), (3, .int y9), (4, .int y10)] [.int x11] h
    refine j_istore_n (lv1 := [(3, .int x11), (1, .int l1), (2, .int y8), (4, .int y10)]) C hL dX9_inverse_37 rfl (Nat.le_of_ble_eq_true rfl) rfl ?_
    refine j_iload C dX9_inverse_38 rfl ?_
    refine j_iconst (v := (1 : Int32)) C dX9_inverse_40 (by decide) ?_
    refine j_ishr C dX9_inverse_41 ?_
    refine j_istore (lv1 := [(4, .int (y10 >>> ((1 : Int32) &&& 31))), (3, .int x11), (1, .int l1), (2, .int y8)]) C hL dX9_inverse_42 (Nat.le_of_ble_eq_true rfl) rfl ?_
    refine j_goto (tgt := 9) C dX9_inverse_44 (by decide) ?_
    obtain rfl := Option.some.inj e
    refine jx_sub (lv' := [(1, .int l1), (2, .int y8), (3, .int x11), (4, .int (y10 >>> ((1 : Int32) &&& 31)))]) [2, 3, 1, 0] rfl ?_
    exact kI1 (y8, x11, (y10 >>> ((1 : Int32) &&& 31))) e0_1
  unfold LX9_inverse_9 at e
  refine j_iload C dX9_inverse_9 rfl ?_
  refine j_if_le (tgt := 47) C dX9_inverse_11 (by decide) (fun c14 => ?_) (fun c14 => ?_)
  · replace e := ifp c14 e
    obtain ⟨t1, e1, eu⟩ := exL_spec e
    obtain rfl := kT1 t1 (e0_1.trans (congrArg some eu))
    replace e := e1
    refine j_iload_n C dX9_inverse_47 rfl rfl ?_
    cases e
    exact j_iret C hq rfl dX9_inverse_48 ⟨Nat.le_of_ble_eq_true rfl, Nat.le_of_ble_eq_true rfl⟩ ⟨rfl, rfl⟩
  · replace e := ifn c14 e
    refine j_iload C dX9_inverse_14 rfl ?_
    refine j_iconst (v := (1 : Int32)) C dX9_inverse_16 (by decide) ?_
    refine j_iand C dX9_inverse_17 ?_
    refine j_iconst (v := (1 : Int32)) C dX9_inverse_18 (by decide) ?_
    refine j_icmp_ne (tgt := 30) C dX9_inverse_19 (by decide) (fun c13 => ?_) (fun c13 => ?_)
    · replace e := ifn c13 e
      exact b30 z5 z6 z7 e
    · replace e := ifp c13 e
      refine j_iload_n C dX9_inverse_22 rfl rfl ?_
      refine j_iload_n C dX9_inverse_23 rfl rfl ?_
      refine j_imul C dX9_inverse_24 ?_
      refine j_iload_n C dX9_inverse_25 rfl rfl ?_
      replace e := ob e
      obtain ⟨x12, ex12, e⟩ := e
      refine j_callS (As := [.int (z5 * z6), .int l1]) (na := 2) (st := []) (k1 := 0) (n1 := 0) C hr (sX9_residue ex12) kX9_319 kst_X9_residue kini_X9 kc_X9_residue (by decide) rfl ⟨(Nat.le_of_ble_eq_true rfl), (Nat.le_of_ble_eq_true rfl)⟩ (Nat.le_of_ble_eq_true rfl) ⟨rfl, rfl, (Nat.le_of_ble_eq_true rfl), (Nat.le_of_ble_eq_true rfl)⟩ dX9_inverse_26 ?_
      rintro _ _ ⟨rfl, rfl⟩
      show jx_J X 0 0 29 [(1, .int l1), (2, .int z5), (3, .int z6), (4, .int z7)] [.int x12] h
      refine j_istore_n (lv1 := [(2, .int x12), (1, .int l1), (3, .int z6), (4, .int z7)]) C hL dX9_inverse_29 rfl (Nat.le_of_ble_eq_true rfl) rfl ?_
      refine jx_sub (lv' := [(1, .int l1), (2, .int x12), (3, .int z6), (4, .int z7)]) [1, 0, 2, 3] rfl ?_
      exact b30 x12 z6 z7 e
/-! BorderBasis$Matrix.pivotRow(II)I -/
noncomputable def LX2_pivotRow_2 (l0 : Nat) (l2 : Int32) (l3 : Int32) (h : jx_H) : Option ((Int32) ⊕ (Int32)) :=
(hgi h l0 2 4).bind fun x1 =>
if x1 ≤ l3 then
 exL (some (-1 : Int32))
else
 (isO h l0 2).bind fun _ =>
 (FX2_at l0 l3 l2 h).bind fun x3 =>
 if x3 = 0 then
  some (.inl (l3 + (1 : Int32)))
 else
  exL (some l3)
noncomputable def FX2_pivotRow (l0 : Nat) (l1 : Int32) (l2 : Int32) (h : jx_H) : Option (Int32) :=
itr (fun s : Int32 => LX2_pivotRow_2 l0 l2 s h) l1
def rmX2_pivotRow : Room := { frames := 2, cells := 0, slots := 0, locals := 44 }
set_option maxRecDepth 20000 in
set_option maxHeartbeats 4000000 in
theorem sX2_pivotRow {l0 : Nat} {l1 : Int32} {l2 : Int32} {h : jx_H} {r : Int32}  (e : FX2_pivotRow l0 l1 l2 h = some r) : jx_Ct yX2_pivotRow cX2_pivotRow 4 (some .int) rmX2_pivotRow [.ref l0, .int l1, .int l2] h (fun r' h' => some (.int r) = r' ∧ h = h') := by
  refine jx_Ct.of (own := RX2) (by decide) rfl (Nat.le_of_ble_eq_true rfl) (fun X C hq hr hL hN => ?_)
  refine jx_sub (lv' := [(0, .ref l0), (1, .int l1), (2, .int l2)]) [0, 1, 2] rfl ?_
  unfold FX2_pivotRow at e
  refine j_iload_n C dX2_pivotRow_0 rfl rfl ?_
  refine j_istore_n (lv1 := [(3, .int l1), (0, .ref l0), (1, .int l1), (2, .int l2)]) C hL dX2_pivotRow_1 rfl (Nat.le_of_ble_eq_true rfl) rfl ?_
  refine jx_sub (lv' := [(0, .ref l0), (2, .int l2), (3, .int l1)]) [1, 3, 0] rfl ?_
  refine itr_ind (s0 := l1) (fun s : Int32 => jx_J X 0 0 2 [(0, .ref l0), (2, .int l2), (3, .int s)] [] h) e ?_
  clear e
  intro s kI1 kT1 e0
  obtain ⟨z6, es⟩ : ∃ z, z = s := ⟨_, rfl⟩
  subst es
  obtain ⟨u1, e0_1⟩ := e0
  have e : LX2_pivotRow_2 l0 l2 z6 h = some u1 := e0_1
  unfold LX2_pivotRow_2 at e
  refine j_iload_n C dX2_pivotRow_2 rfl rfl ?_
  refine j_aload_n C dX2_pivotRow_3 rfl rfl ?_
  replace e := ob e
  obtain ⟨x7, ex7, e⟩ := e
  refine j_geti (ci := 2) (RC := RX2) (T := TX2) (N := 7) 4 C rfl klX2 (Nat.le_of_ble_eq_true rfl) kX2_31 rfl dX2_pivotRow_4 ex7 ?_
  refine j_icmp_ge (tgt := 27) C dX2_pivotRow_7 (by decide) (fun c11 => ?_) (fun c11 => ?_)
  · replace e := ifp c11 e
    obtain ⟨t1, e1, eu⟩ := exL_spec e
    obtain rfl := kT1 t1 (e0_1.trans (congrArg some eu))
    replace e := e1
    refine j_iconst (v := (-1 : Int32)) C dX2_pivotRow_27 (by decide) ?_
    cases e
    exact j_iret C hq rfl dX2_pivotRow_28 ⟨Nat.le_of_ble_eq_true rfl, Nat.le_of_ble_eq_true rfl⟩ ⟨rfl, rfl⟩
  · replace e := ifn c11 e
    refine j_aload_n C dX2_pivotRow_10 rfl rfl ?_
    refine j_iload_n C dX2_pivotRow_11 rfl rfl ?_
    refine j_iload_n C dX2_pivotRow_12 rfl rfl ?_
    replace e := ob e
    obtain ⟨_, eo8, e⟩ := e
    replace e := ob e
    obtain ⟨x9, ex9, e⟩ := e
    refine j_callV (ci := 2) (RC := RX2) (T := TX2) (N := 7) (As := [.int z6, .int l2]) (b := l0) (na := 2) (st := []) (k1 := 0) (n1 := 0) C hr (sX2_at ex9) rfl eo8 kX2_59 kim_X2_at ksel_X2_at kini_X2 kc_X2_at (by decide) rfl ⟨(Nat.le_of_ble_eq_true rfl), (Nat.le_of_ble_eq_true rfl)⟩ (Nat.le_of_ble_eq_true rfl) ⟨rfl, rfl, (Nat.le_of_ble_eq_true rfl), (Nat.le_of_ble_eq_true rfl)⟩ dX2_pivotRow_13 ?_
    rintro _ _ ⟨rfl, rfl⟩
    show jx_J X 0 0 16 [(0, .ref l0), (2, .int l2), (3, .int z6)] [.int x9] h
    refine j_if_eq (tgt := 21) C dX2_pivotRow_16 (by decide) (fun c10 => ?_) (fun c10 => ?_)
    · replace e := ifp c10 e
      refine j_iinc (v := (z6 + (1 : Int32))) (lv1 := [(3, .int (z6 + (1 : Int32))), (0, .ref l0), (2, .int l2)]) C hL dX2_pivotRow_21 rfl rfl (Nat.le_of_ble_eq_true rfl) rfl ?_
      refine j_goto (tgt := 2) C dX2_pivotRow_24 (by decide) ?_
      obtain rfl := Option.some.inj e
      refine jx_sub (lv' := [(0, .ref l0), (2, .int l2), (3, .int (z6 + (1 : Int32)))]) [1, 2, 0] rfl ?_
      exact kI1 (z6 + (1 : Int32)) e0_1
    · replace e := ifn c10 e
      obtain ⟨t1, e1, eu⟩ := exL_spec e
      obtain rfl := kT1 t1 (e0_1.trans (congrArg some eu))
      replace e := e1
      refine j_iload_n C dX2_pivotRow_19 rfl rfl ?_
      cases e
      exact j_iret C hq rfl dX2_pivotRow_20 ⟨Nat.le_of_ble_eq_true rfl, Nat.le_of_ble_eq_true rfl⟩ ⟨rfl, rfl⟩
/-! BorderBasis$Matrix.swapRows(II)V -/
noncomputable def LX2_swapRows_2 (l0 : Nat) (l1 : Int32) (l2 : Int32) (l3 : Int32) (h : jx_H) : Option ((Int32 × jx_H) ⊕ (jx_H)) :=
(hgi h l0 2 5).bind fun x1 =>
if x1 ≤ l3 then
 exL (some h)
else
 (isO h l0 2).bind fun _ =>
 (FX2_at l0 l1 l3 h).bind fun x3 =>
 (isO h l0 2).bind fun _ =>
 (FX2_at l0 l2 l3 h).bind fun x5 =>
 (isO h l0 2).bind fun _ =>
 (FX2_put l0 l1 l3 x5 h).bind fun h7 =>
 (isO h7 l0 2).bind fun _ =>
 (FX2_put l0 l2 l3 x3 h7).bind fun h9 =>
 some (.inl ((l3 + (1 : Int32)), h9))
noncomputable def FX2_swapRows (l0 : Nat) (l1 : Int32) (l2 : Int32) (h : jx_H) : Option (jx_H) :=
itr (fun s : Int32 × jx_H => LX2_swapRows_2 l0 l1 l2 s.1 s.2) ((0 : Int32), h)
def rmX2_swapRows : Room := { frames := 2, cells := 0, slots := 0, locals := 45 }
set_option maxRecDepth 20000 in
set_option maxHeartbeats 4000000 in
theorem sX2_swapRows {l0 : Nat} {l1 : Int32} {l2 : Int32} {h : jx_H} {h9 : jx_H} (e : FX2_swapRows l0 l1 l2 h = some h9) : jx_Ct yX2_swapRows cX2_swapRows 5 none rmX2_swapRows [.ref l0, .int l1, .int l2] h (fun r' h' => none = r' ∧ h9 = h') := by
  refine jx_Ct.of (own := RX2) (by decide) rfl (Nat.le_of_ble_eq_true rfl) (fun X C hq hr hL hN => ?_)
  refine jx_sub (lv' := [(0, .ref l0), (1, .int l1), (2, .int l2)]) [0, 1, 2] rfl ?_
  unfold FX2_swapRows at e
  refine j_iconst (v := (0 : Int32)) C dX2_swapRows_0 (by decide) ?_
  refine j_istore_n (lv1 := [(3, .int (0 : Int32)), (0, .ref l0), (1, .int l1), (2, .int l2)]) C hL dX2_swapRows_1 rfl (Nat.le_of_ble_eq_true rfl) rfl ?_
  refine jx_sub (lv' := [(0, .ref l0), (1, .int l1), (2, .int l2), (3, .int (0 : Int32))]) [1, 2, 3, 0] rfl ?_
  refine itr_ind (s0 := ((0 : Int32), h)) (fun s : Int32 × jx_H => jx_J X 0 0 2 [(0, .ref l0), (1, .int l1), (2, .int l2), (3, .int s.1)] [] s.2) e ?_
  clear e
  intro s kI1 kT1 e0
  obtain ⟨z11, h12⟩ := s
  obtain ⟨u1, e0_1⟩ := e0
  have e : LX2_swapRows_2 l0 l1 l2 z11 h12 = some u1 := e0_1
  unfold LX2_swapRows_2 at e
  refine j_iload_n C dX2_swapRows_2 rfl rfl ?_
  refine j_aload_n C dX2_swapRows_3 rfl rfl ?_
  replace e := ob e
  obtain ⟨x13, ex13, e⟩ := e
  refine j_geti (ci := 2) (RC := RX2) (T := TX2) (N := 7) 5 C rfl klX2 (Nat.le_of_ble_eq_true rfl) kX2_34 rfl dX2_swapRows_4 ex13 ?_
  refine j_icmp_ge (tgt := 44) C dX2_swapRows_7 (by decide) (fun c22 => ?_) (fun c22 => ?_)
  · replace e := ifp c22 e
    obtain ⟨t1, e1, eu⟩ := exL_spec e
    obtain rfl := kT1 t1 (e0_1.trans (congrArg some eu))
    replace e := e1
    cases e
    exact j_vret C hq dX2_swapRows_44 ⟨Nat.le_of_ble_eq_true rfl, Nat.le_of_ble_eq_true rfl⟩ ⟨rfl, rfl⟩
  · replace e := ifn c22 e
    refine j_aload_n C dX2_swapRows_10 rfl rfl ?_
    refine j_iload_n C dX2_swapRows_11 rfl rfl ?_
    refine j_iload_n C dX2_swapRows_12 rfl rfl ?_
    replace e := ob e
    obtain ⟨_, eo14, e⟩ := e
    replace e := ob e
    obtain ⟨x15, ex15, e⟩ := e
    refine j_callV (ci := 2) (RC := RX2) (T := TX2) (N := 7) (As := [.int l1, .int z11]) (b := l0) (na := 2) (st := []) (k1 := 0) (n1 := 0) C hr (sX2_at ex15) rfl eo14 kX2_59 kim_X2_at ksel_X2_at kini_X2 kc_X2_at (by decide) rfl ⟨(Nat.le_of_ble_eq_true rfl), (Nat.le_of_ble_eq_true rfl)⟩ (Nat.le_of_ble_eq_true rfl) ⟨rfl, rfl, (Nat.le_of_ble_eq_true rfl), (Nat.le_of_ble_eq_true rfl)⟩ dX2_swapRows_13 ?_
    rintro _ _ ⟨rfl, rfl⟩
    show jx_J X 0 0 16 [(0, .ref l0), (1, .int l1), (2, .int l2), (3, .int z11)] [.int x15] h12
    refine j_istore (lv1 := [(4, .int x15), (0, .ref l0), (1, .int l1), (2, .int l2), (3, .int z11)]) C hL dX2_swapRows_16 (Nat.le_of_ble_eq_true rfl) rfl ?_
    refine j_aload_n C dX2_swapRows_18 rfl rfl ?_
    refine j_iload_n C dX2_swapRows_19 rfl rfl ?_
    refine j_iload_n C dX2_swapRows_20 rfl rfl ?_
    refine j_aload_n C dX2_swapRows_21 rfl rfl ?_
    refine j_iload_n C dX2_swapRows_22 rfl rfl ?_
    refine j_iload_n C dX2_swapRows_23 rfl rfl ?_
    replace e := ob e
    obtain ⟨_, eo16, e⟩ := e
    replace e := ob e
    obtain ⟨x17, ex17, e⟩ := e
    refine j_callV (ci := 2) (RC := RX2) (T := TX2) (N := 7) (As := [.int l2, .int z11]) (b := l0) (na := 2) (st := [.int z11, .int l1, .ref l0]) (k1 := 0) (n1 := 0) C hr (sX2_at ex17) rfl eo16 kX2_59 kim_X2_at ksel_X2_at kini_X2 kc_X2_at (by decide) rfl ⟨(Nat.le_of_ble_eq_true rfl), (Nat.le_of_ble_eq_true rfl)⟩ (Nat.le_of_ble_eq_true rfl) ⟨rfl, rfl, (Nat.le_of_ble_eq_true rfl), (Nat.le_of_ble_eq_true rfl)⟩ dX2_swapRows_24 ?_
    rintro _ _ ⟨rfl, rfl⟩
    show jx_J X 0 0 27 [(4, .int x15), (0, .ref l0), (1, .int l1), (2, .int l2), (3, .int z11)] [.int x17, .int z11, .int l1, .ref l0] h12
    replace e := ob e
    obtain ⟨_, eo18, e⟩ := e
    replace e := ob e
    obtain ⟨h19, eh19, e⟩ := e
    refine j_callV (ci := 2) (RC := RX2) (T := TX2) (N := 7) (As := [.int l1, .int z11, .int x17]) (b := l0) (na := 3) (st := []) (k1 := 0) (n1 := 0) C hr (sX2_put eh19) rfl eo18 kX2_51 kim_X2_put ksel_X2_put kini_X2 kc_X2_put (by decide) rfl ⟨(Nat.le_of_ble_eq_true rfl), (Nat.le_of_ble_eq_true rfl)⟩ (Nat.le_of_ble_eq_true rfl) ⟨rfl, rfl, (Nat.le_of_ble_eq_true rfl), (Nat.le_of_ble_eq_true rfl)⟩ dX2_swapRows_27 ?_
    rintro _ _ ⟨rfl, rfl⟩
    show jx_J X 0 0 30 [(4, .int x15), (0, .ref l0), (1, .int l1), (2, .int l2), (3, .int z11)] [] h19
    refine j_aload_n C dX2_swapRows_30 rfl rfl ?_
    refine j_iload_n C dX2_swapRows_31 rfl rfl ?_
    refine j_iload_n C dX2_swapRows_32 rfl rfl ?_
    refine j_iload C dX2_swapRows_33 rfl ?_
    replace e := ob e
    obtain ⟨_, eo20, e⟩ := e
    replace e := ob e
    obtain ⟨h21, eh21, e⟩ := e
    refine j_callV (ci := 2) (RC := RX2) (T := TX2) (N := 7) (As := [.int l2, .int z11, .int x15]) (b := l0) (na := 3) (st := []) (k1 := 0) (n1 := 0) C hr (sX2_put eh21) rfl eo20 kX2_51 kim_X2_put ksel_X2_put kini_X2 kc_X2_put (by decide) rfl ⟨(Nat.le_of_ble_eq_true rfl), (Nat.le_of_ble_eq_true rfl)⟩ (Nat.le_of_ble_eq_true rfl) ⟨rfl, rfl, (Nat.le_of_ble_eq_true rfl), (Nat.le_of_ble_eq_true rfl)⟩ dX2_swapRows_35 ?_
    rintro _ _ ⟨rfl, rfl⟩
    show jx_J X 0 0 38 [(4, .int x15), (0, .ref l0), (1, .int l1), (2, .int l2), (3, .int z11)] [] h21
    refine j_iinc (v := (z11 + (1 : Int32))) (lv1 := [(3, .int (z11 + (1 : Int32))), (4, .int x15), (0, .ref l0), (1, .int l1), (2, .int l2)]) C hL dX2_swapRows_38 rfl rfl (Nat.le_of_ble_eq_true rfl) rfl ?_
    refine j_goto (tgt := 2) C dX2_swapRows_41 (by decide) ?_
    obtain rfl := Option.some.inj e
    refine jx_sub (lv' := [(0, .ref l0), (1, .int l1), (2, .int l2), (3, .int (z11 + (1 : Int32)))]) [2, 3, 4, 0] rfl ?_
    exact kI1 ((z11 + (1 : Int32)), h21) e0_1
/-! BorderBasis$Matrix.scaleRow(III)V -/
noncomputable def LX2_scaleRow_3 (l0 : Nat) (l1 : Int32) (l2 : Int32) (l3 : Int32) (l4 : Int32) (h : jx_H) : Option ((Int32 × jx_H) ⊕ (jx_H)) :=
(hgi h l0 2 5).bind fun x1 =>
if x1 ≤ l4 then
 exL (some h)
else
 (isO h l0 2).bind fun _ =>
 (FX2_at l0 l1 l4 h).bind fun x3 =>
 (FX9_residue (x3 * l2) l3 h).bind fun x4 =>
 (isO h l0 2).bind fun _ =>
 (FX2_put l0 l1 l4 x4 h).bind fun h6 =>
 some (.inl ((l4 + (1 : Int32)), h6))
noncomputable def FX2_scaleRow (l0 : Nat) (l1 : Int32) (l2 : Int32) (l3 : Int32) (h : jx_H) : Option (jx_H) :=
itr (fun s : Int32 × jx_H => LX2_scaleRow_3 l0 l1 l2 l3 s.1 s.2) ((0 : Int32), h)
def rmX2_scaleRow : Room := { frames := 2, cells := 0, slots := 0, locals := 45 }
set_option maxRecDepth 20000 in
set_option maxHeartbeats 4000000 in
theorem sX2_scaleRow {l0 : Nat} {l1 : Int32} {l2 : Int32} {l3 : Int32} {h : jx_H} {h9 : jx_H} (e : FX2_scaleRow l0 l1 l2 l3 h = some h9) : jx_Ct yX2_scaleRow cX2_scaleRow 5 none rmX2_scaleRow [.ref l0, .int l1, .int l2, .int l3] h (fun r' h' => none = r' ∧ h9 = h') := by
  refine jx_Ct.of (own := RX2) (by decide) rfl (Nat.le_of_ble_eq_true rfl) (fun X C hq hr hL hN => ?_)
  refine jx_sub (lv' := [(0, .ref l0), (1, .int l1), (2, .int l2), (3, .int l3)]) [0, 1, 2, 3] rfl ?_
  unfold FX2_scaleRow at e
  refine j_iconst (v := (0 : Int32)) C dX2_scaleRow_0 (by decide) ?_
  refine j_istore (lv1 := [(4, .int (0 : Int32)), (0, .ref l0), (1, .int l1), (2, .int l2), (3, .int l3)]) C hL dX2_scaleRow_1 (Nat.le_of_ble_eq_true rfl) rfl ?_
  refine jx_sub (lv' := [(0, .ref l0), (1, .int l1), (2, .int l2), (3, .int l3), (4, .int (0 : Int32))]) [1, 2, 3, 4, 0] rfl ?_
  refine itr_ind (s0 := ((0 : Int32), h)) (fun s : Int32 × jx_H => jx_J X 0 0 3 [(0, .ref l0), (1, .int l1), (2, .int l2), (3, .int l3), (4, .int s.1)] [] s.2) e ?_
  clear e
  intro s kI1 kT1 e0
  obtain ⟨z8, h9⟩ := s
  obtain ⟨u1, e0_1⟩ := e0
  have e : LX2_scaleRow_3 l0 l1 l2 l3 z8 h9 = some u1 := e0_1
  unfold LX2_scaleRow_3 at e
  refine j_iload C dX2_scaleRow_3 rfl ?_
  refine j_aload_n C dX2_scaleRow_5 rfl rfl ?_
  replace e := ob e
  obtain ⟨x10, ex10, e⟩ := e
  refine j_geti (ci := 2) (RC := RX2) (T := TX2) (N := 7) 5 C rfl klX2 (Nat.le_of_ble_eq_true rfl) kX2_34 rfl dX2_scaleRow_6 ex10 ?_
  refine j_icmp_ge (tgt := 38) C dX2_scaleRow_9 (by decide) (fun c16 => ?_) (fun c16 => ?_)
  · replace e := ifp c16 e
    obtain ⟨t1, e1, eu⟩ := exL_spec e
    obtain rfl := kT1 t1 (e0_1.trans (congrArg some eu))
    replace e := e1
    cases e
    exact j_vret C hq dX2_scaleRow_38 ⟨Nat.le_of_ble_eq_true rfl, Nat.le_of_ble_eq_true rfl⟩ ⟨rfl, rfl⟩
  · replace e := ifn c16 e
    refine j_aload_n C dX2_scaleRow_12 rfl rfl ?_
    refine j_iload_n C dX2_scaleRow_13 rfl rfl ?_
    refine j_iload C dX2_scaleRow_14 rfl ?_
    refine j_aload_n C dX2_scaleRow_16 rfl rfl ?_
    refine j_iload_n C dX2_scaleRow_17 rfl rfl ?_
    refine j_iload C dX2_scaleRow_18 rfl ?_
    replace e := ob e
    obtain ⟨_, eo11, e⟩ := e
    replace e := ob e
    obtain ⟨x12, ex12, e⟩ := e
    refine j_callV (ci := 2) (RC := RX2) (T := TX2) (N := 7) (As := [.int l1, .int z8]) (b := l0) (na := 2) (st := [.int z8, .int l1, .ref l0]) (k1 := 0) (n1 := 0) C hr (sX2_at ex12) rfl eo11 kX2_59 kim_X2_at ksel_X2_at kini_X2 kc_X2_at (by decide) rfl ⟨(Nat.le_of_ble_eq_true rfl), (Nat.le_of_ble_eq_true rfl)⟩ (Nat.le_of_ble_eq_true rfl) ⟨rfl, rfl, (Nat.le_of_ble_eq_true rfl), (Nat.le_of_ble_eq_true rfl)⟩ dX2_scaleRow_20 ?_
    rintro _ _ ⟨rfl, rfl⟩
    show jx_J X 0 0 23 [(0, .ref l0), (1, .int l1), (2, .int l2), (3, .int l3), (4, .int z8)] [.int x12, .int z8, .int l1, .ref l0] h9
    refine j_iload_n C dX2_scaleRow_23 rfl rfl ?_
    refine j_imul C dX2_scaleRow_24 ?_
    refine j_iload_n C dX2_scaleRow_25 rfl rfl ?_
    replace e := ob e
    obtain ⟨x13, ex13, e⟩ := e
    refine j_callSN (As := [.int (x12 * l2), .int l3]) (na := 2) (st := [.int z8, .int l1, .ref l0]) (k1 := 0) (n1 := 0) C hr (sX9_residue ex13) kX2_62 kst_X9_residue kini_X9 kc_X9_residue (by decide) rfl ⟨(Nat.le_of_ble_eq_true rfl), (Nat.le_of_ble_eq_true rfl)⟩ (Nat.le_of_ble_eq_true rfl) ⟨rfl, rfl, (Nat.le_of_ble_eq_true rfl), (Nat.le_of_ble_eq_true rfl)⟩ dX2_scaleRow_26 ?_
    rintro _ _ ⟨rfl, rfl⟩
    show jx_J X 0 0 29 [(0, .ref l0), (1, .int l1), (2, .int l2), (3, .int l3), (4, .int z8)] [.int x13, .int z8, .int l1, .ref l0] h9
    replace e := ob e
    obtain ⟨_, eo14, e⟩ := e
    replace e := ob e
    obtain ⟨h15, eh15, e⟩ := e
    refine j_callV (ci := 2) (RC := RX2) (T := TX2) (N := 7) (As := [.int l1, .int z8, .int x13]) (b := l0) (na := 3) (st := []) (k1 := 0) (n1 := 0) C hr (sX2_put eh15) rfl eo14 kX2_51 kim_X2_put ksel_X2_put kini_X2 kc_X2_put (by decide) rfl ⟨(Nat.le_of_ble_eq_true rfl), (Nat.le_of_ble_eq_true rfl)⟩ (Nat.le_of_ble_eq_true rfl) ⟨rfl, rfl, (Nat.le_of_ble_eq_true rfl), (Nat.le_of_ble_eq_true rfl)⟩ dX2_scaleRow_29 ?_
    rintro _ _ ⟨rfl, rfl⟩
    show jx_J X 0 0 32 [(0, .ref l0), (1, .int l1), (2, .int l2), (3, .int l3), (4, .int z8)] [] h15
    refine j_iinc (v := (z8 + (1 : Int32))) (lv1 := [(4, .int (z8 + (1 : Int32))), (0, .ref l0), (1, .int l1), (2, .int l2), (3, .int l3)]) C hL dX2_scaleRow_32 rfl rfl (Nat.le_of_ble_eq_true rfl) rfl ?_
    refine j_goto (tgt := 3) C dX2_scaleRow_35 (by decide) ?_
    obtain rfl := Option.some.inj e
    refine jx_sub (lv' := [(0, .ref l0), (1, .int l1), (2, .int l2), (3, .int l3), (4, .int (z8 + (1 : Int32)))]) [1, 2, 3, 4, 0] rfl ?_
    exact kI1 ((z8 + (1 : Int32)), h15) e0_1
/-! BorderBasis$Matrix.clearColumn(III)V -/
noncomputable def BX2_clearColumn_42 (l0 : Nat) (l1 : Int32) (l2 : Int32) (l3 : Int32) (l4 : Int32) (h : jx_H) : Option ((Int32 × jx_H) ⊕ (jx_H)) :=
some (.inl ((l4 + (1 : Int32)), h))
noncomputable def LX2_clearColumn_3 (l0 : Nat) (l1 : Int32) (l2 : Int32) (l3 : Int32) (l4 : Int32) (h : jx_H) : Option ((Int32 × jx_H) ⊕ (jx_H)) :=
(hgi h l0 2 4).bind fun x1 =>
if x1 ≤ l4 then
 exL (some h)
else
 (isO h l0 2).bind fun _ =>
 (FX2_at l0 l4 l2 h).bind fun x3 =>
 if l4 = l1 then
  BX2_clearColumn_42 l0 l1 l2 l3 l4 h
 else
  if x3 = 0 then
   BX2_clearColumn_42 l0 l1 l2 l3 l4 h
  else
   (isO h l0 2).bind fun _ =>
   (FX2_subtractRow l0 l4 l1 x3 l3 h).bind fun h5 =>
   BX2_clearColumn_42 l0 l1 l2 l3 l4 h5
noncomputable def FX2_clearColumn (l0 : Nat) (l1 : Int32) (l2 : Int32) (l3 : Int32) (h : jx_H) : Option (jx_H) :=
itr (fun s : Int32 × jx_H => LX2_clearColumn_3 l0 l1 l2 l3 s.1 s.2) ((0 : Int32), h)
def rmX2_clearColumn : Room := { frames := 2, cells := 0, slots := 0, locals := 49 }
set_option maxRecDepth 20000 in
set_option maxHeartbeats 4000000 in
theorem sX2_clearColumn {l0 : Nat} {l1 : Int32} {l2 : Int32} {l3 : Int32} {h : jx_H} {h9 : jx_H} (e : FX2_clearColumn l0 l1 l2 l3 h = some h9) : jx_Ct yX2_clearColumn cX2_clearColumn 6 none rmX2_clearColumn [.ref l0, .int l1, .int l2, .int l3] h (fun r' h' => none = r' ∧ h9 = h') := by
  refine jx_Ct.of (own := RX2) (by decide) rfl (Nat.le_of_ble_eq_true rfl) (fun X C hq hr hL hN => ?_)
  refine jx_sub (lv' := [(0, .ref l0), (1, .int l1), (2, .int l2), (3, .int l3)]) [0, 1, 2, 3] rfl ?_
  unfold FX2_clearColumn at e
  refine j_iconst (v := (0 : Int32)) C dX2_clearColumn_0 (by decide) ?_
  refine j_istore (lv1 := [(4, .int (0 : Int32)), (0, .ref l0), (1, .int l1), (2, .int l2), (3, .int l3)]) C hL dX2_clearColumn_1 (Nat.le_of_ble_eq_true rfl) rfl ?_
  refine jx_sub (lv' := [(0, .ref l0), (1, .int l1), (2, .int l2), (3, .int l3), (4, .int (0 : Int32))]) [1, 2, 3, 4, 0] rfl ?_
  refine itr_ind (s0 := ((0 : Int32), h)) (fun s : Int32 × jx_H => jx_J X 0 0 3 [(0, .ref l0), (1, .int l1), (2, .int l2), (3, .int l3), (4, .int s.1)] [] s.2) e ?_
  clear e
  intro s kI1 kT1 e0
  obtain ⟨z9, h10⟩ := s
  obtain ⟨u1, e0_1⟩ := e0
  have e : LX2_clearColumn_3 l0 l1 l2 l3 z9 h10 = some u1 := e0_1
  have b42 : ∀ (y11 : Int32) (h12 : jx_H), BX2_clearColumn_42 l0 l1 l2 l3 y11 h12 = some u1 → jx_J X 0 0 42 [(0, .ref l0), (1, .int l1), (2, .int l2), (3, .int l3), (4, .int y11)] [] h12 := by
    intro y11 h12 e
    unfold BX2_clearColumn_42 at e
    refine j_iinc (v := (y11 + (1 : Int32))) (lv1 := [(4, .int (y11 + (1 : Int32))), (0, .ref l0), (1, .int l1), (2, .int l2), (3, .int l3)]) C hL dX2_clearColumn_42 rfl rfl (Nat.le_of_ble_eq_true rfl) rfl ?_
    refine j_goto (tgt := 3) C dX2_clearColumn_45 (by decide) ?_
    obtain rfl := Option.some.inj e
    refine jx_sub (lv' := [(0, .ref l0), (1, .int l1), (2, .int l2), (3, .int l3), (4, .int (y11 + (1 : Int32)))]) [1, 2, 3, 4, 0] rfl ?_
    exact kI1 ((y11 + (1 : Int32)), h12) e0_1
  unfold LX2_clearColumn_3 at e
  refine j_iload C dX2_clearColumn_3 rfl ?_
  refine j_aload_n C dX2_clearColumn_5 rfl rfl ?_
  replace e := ob e
  obtain ⟨x13, ex13, e⟩ := e
  refine j_geti (ci := 2) (RC := RX2) (T := TX2) (N := 7) 4 C rfl klX2 (Nat.le_of_ble_eq_true rfl) kX2_31 rfl dX2_clearColumn_6 ex13 ?_
  refine j_icmp_ge (tgt := 48) C dX2_clearColumn_9 (by decide) (fun c20 => ?_) (fun c20 => ?_)
  · replace e := ifp c20 e
    obtain ⟨t1, e1, eu⟩ := exL_spec e
    obtain rfl := kT1 t1 (e0_1.trans (congrArg some eu))
    replace e := e1
    cases e
    exact j_vret C hq dX2_clearColumn_48 ⟨Nat.le_of_ble_eq_true rfl, Nat.le_of_ble_eq_true rfl⟩ ⟨rfl, rfl⟩
  · replace e := ifn c20 e
    refine j_aload_n C dX2_clearColumn_12 rfl rfl ?_
    refine j_iload C dX2_clearColumn_13 rfl ?_
    refine j_iload_n C dX2_clearColumn_15 rfl rfl ?_
    replace e := ob e
    obtain ⟨_, eo14, e⟩ := e
    replace e := ob e
    obtain ⟨x15, ex15, e⟩ := e
    refine j_callV (ci := 2) (RC := RX2) (T := TX2) (N := 7) (As := [.int z9, .int l2]) (b := l0) (na := 2) (st := []) (k1 := 0) (n1 := 0) C hr (sX2_at ex15) rfl eo14 kX2_59 kim_X2_at ksel_X2_at kini_X2 kc_X2_at (by decide) rfl ⟨(Nat.le_of_ble_eq_true rfl), (Nat.le_of_ble_eq_true rfl)⟩ (Nat.le_of_ble_eq_true rfl) ⟨rfl, rfl, (Nat.le_of_ble_eq_true rfl), (Nat.le_of_ble_eq_true rfl)⟩ dX2_clearColumn_16 ?_
    rintro _ _ ⟨rfl, rfl⟩
    show jx_J X 0 0 19 [(0, .ref l0), (1, .int l1), (2, .int l2), (3, .int l3), (4, .int z9)] [.int x15] h10
    refine j_istore (lv1 := [(5, .int x15), (0, .ref l0), (1, .int l1), (2, .int l2), (3, .int l3), (4, .int z9)]) C hL dX2_clearColumn_19 (Nat.le_of_ble_eq_true rfl) rfl ?_
    refine j_iload C dX2_clearColumn_21 rfl ?_
    refine j_iload_n C dX2_clearColumn_23 rfl rfl ?_
    refine j_icmp_eq (tgt := 42) C dX2_clearColumn_24 (by decide) (fun c19 => ?_) (fun c19 => ?_)
    · replace e := ifp c19 e
      refine jx_sub (lv' := [(0, .ref l0), (1, .int l1), (2, .int l2), (3, .int l3), (4, .int z9)]) [1, 2, 3, 4, 5] rfl ?_
      exact b42 z9 h10 e
    · replace e := ifn c19 e
      refine j_iload C dX2_clearColumn_27 rfl ?_
      refine j_if_eq (tgt := 42) C dX2_clearColumn_29 (by decide) (fun c18 => ?_) (fun c18 => ?_)
      · replace e := ifp c18 e
        refine jx_sub (lv' := [(0, .ref l0), (1, .int l1), (2, .int l2), (3, .int l3), (4, .int z9)]) [1, 2, 3, 4, 5] rfl ?_
        exact b42 z9 h10 e
      · replace e := ifn c18 e
        refine j_aload_n C dX2_clearColumn_32 rfl rfl ?_
        refine j_iload C dX2_clearColumn_33 rfl ?_
        refine j_iload_n C dX2_clearColumn_35 rfl rfl ?_
        refine j_iload C dX2_clearColumn_36 rfl ?_
        refine j_iload_n C dX2_clearColumn_38 rfl rfl ?_
        replace e := ob e
        obtain ⟨_, eo16, e⟩ := e
        replace e := ob e
        obtain ⟨h17, eh17, e⟩ := e
        refine j_callV (ci := 2) (RC := RX2) (T := TX2) (N := 7) (As := [.int z9, .int l1, .int x15, .int l3]) (b := l0) (na := 4) (st := []) (k1 := 0) (n1 := 0) C hr (sX2_subtractRow eh17) rfl eo16 kX2_97 kim_X2_subtractRow ksel_X2_subtractRow kini_X2 kc_X2_subtractRow (by decide) rfl ⟨(Nat.le_of_ble_eq_true rfl), (Nat.le_of_ble_eq_true rfl)⟩ (Nat.le_of_ble_eq_true rfl) ⟨rfl, rfl, (Nat.le_of_ble_eq_true rfl), (Nat.le_of_ble_eq_true rfl)⟩ dX2_clearColumn_39 ?_
        rintro _ _ ⟨rfl, rfl⟩
        show jx_J X 0 0 42 [(5, .int x15), (0, .ref l0), (1, .int l1), (2, .int l2), (3, .int l3), (4, .int z9)] [] h17
        refine jx_sub (lv' := [(0, .ref l0), (1, .int l1), (2, .int l2), (3, .int l3), (4, .int z9)]) [1, 2, 3, 4, 5] rfl ?_
        exact b42 z9 h17 e
/-! BorderBasis$Matrix.subtractRow(IIII)V -/
noncomputable def LX2_subtractRow_46 (l0 : Nat) (l3 : Int32) (l4 : Int32) (l5 : Int32) (l6 : Int32) (l7 : Int32) (h : jx_H) : Option ((Int32 × jx_H) ⊕ (jx_H)) :=
(hgi h l0 2 5).bind fun x7 =>
if x7 ≤ l7 then
 exL (some h)
else
 (hgr h l0 2 2).bind fun x8 =>
 (hgr h l0 2 2).bind fun x9 =>
 (hal h .int x9 (l6 + l7)).bind fun x10 =>
 (hgr h l0 2 2).bind fun x11 =>
 (hal h .int x11 (l5 + l7)).bind fun x12 =>
 (FX9_residue (x10 - (l3 * x12)) l4 h).bind fun x13 =>
 (has h .int x8 (l6 + l7) x13).bind fun h14 =>
 some (.inl ((l7 + (1 : Int32)), h14))
noncomputable def FX2_subtractRow (l0 : Nat) (l1 : Int32) (l2 : Int32) (l3 : Int32) (l4 : Int32) (h : jx_H) : Option (jx_H) :=
(hgi h l0 2 1).bind fun x1 =>
(hgi h l0 2 1).bind fun x2 =>
(hgi h l0 2 4).bind fun x3 =>
(FX9_isOutside l1 (x3 - (1 : Int32)) h).bind fun x4 =>
if x4 = 0 then
 (hgi h l0 2 4).bind fun x5 =>
 (FX9_isOutside l2 (x5 - (1 : Int32)) h).bind fun x6 =>
 if x6 = 0 then
  itr (fun s : Int32 × jx_H => LX2_subtractRow_46 l0 l3 l4 (l2 * x1) (l1 * x2) s.1 s.2) ((0 : Int32), h)
 else
  some h
else
 some h
def rmX2_subtractRow : Room := { frames := 1, cells := 0, slots := 0, locals := 22 }
set_option maxRecDepth 20000 in
set_option maxHeartbeats 4000000 in
theorem sX2_subtractRow {l0 : Nat} {l1 : Int32} {l2 : Int32} {l3 : Int32} {l4 : Int32} {h : jx_H} {h9 : jx_H} (e : FX2_subtractRow l0 l1 l2 l3 l4 h = some h9) : jx_Ct yX2_subtractRow cX2_subtractRow 8 none rmX2_subtractRow [.ref l0, .int l1, .int l2, .int l3, .int l4] h (fun r' h' => none = r' ∧ h9 = h') := by
  refine jx_Ct.of (own := RX2) (by decide) rfl (Nat.le_of_ble_eq_true rfl) (fun X C hq hr hL hN => ?_)
  refine jx_sub (lv' := [(0, .ref l0), (1, .int l1), (2, .int l2), (3, .int l3), (4, .int l4)]) [0, 1, 2, 3, 4] rfl ?_
  unfold FX2_subtractRow at e
  refine j_iload_n C dX2_subtractRow_0 rfl rfl ?_
  refine j_aload_n C dX2_subtractRow_1 rfl rfl ?_
  replace e := ob e
  obtain ⟨x18, ex18, e⟩ := e
  refine j_geti (ci := 2) (RC := RX2) (T := TX2) (N := 7) 1 C rfl klX2 (Nat.le_of_ble_eq_true rfl) kX2_15 rfl dX2_subtractRow_2 ex18 ?_
  refine j_imul C dX2_subtractRow_5 ?_
  refine j_istore (lv1 := [(5, .int (l2 * x18)), (0, .ref l0), (1, .int l1), (2, .int l2), (3, .int l3), (4, .int l4)]) C hL dX2_subtractRow_6 (Nat.le_of_ble_eq_true rfl) rfl ?_
  refine j_iload_n C dX2_subtractRow_8 rfl rfl ?_
  refine j_aload_n C dX2_subtractRow_9 rfl rfl ?_
  replace e := ob e
  obtain ⟨x19, ex19, e⟩ := e
  refine j_geti (ci := 2) (RC := RX2) (T := TX2) (N := 7) 1 C rfl klX2 (Nat.le_of_ble_eq_true rfl) kX2_15 rfl dX2_subtractRow_10 ex19 ?_
  refine j_imul C dX2_subtractRow_13 ?_
  refine j_istore (lv1 := [(6, .int (l1 * x19)), (5, .int (l2 * x18)), (0, .ref l0), (1, .int l1), (2, .int l2), (3, .int l3), (4, .int l4)]) C hL dX2_subtractRow_14 (Nat.le_of_ble_eq_true rfl) rfl ?_
  refine j_iload_n C dX2_subtractRow_16 rfl rfl ?_
  refine j_aload_n C dX2_subtractRow_17 rfl rfl ?_
  replace e := ob e
  obtain ⟨x20, ex20, e⟩ := e
  refine j_geti (ci := 2) (RC := RX2) (T := TX2) (N := 7) 4 C rfl klX2 (Nat.le_of_ble_eq_true rfl) kX2_31 rfl dX2_subtractRow_18 ex20 ?_
  refine j_iconst (v := (1 : Int32)) C dX2_subtractRow_21 (by decide) ?_
  refine j_isub C dX2_subtractRow_22 ?_
  replace e := ob e
  obtain ⟨x21, ex21, e⟩ := e
  refine j_callSN (As := [.int l1, .int (x20 - (1 : Int32))]) (na := 2) (st := []) (k1 := 0) (n1 := 0) C hr (sX9_isOutside ex21) kX2_101 kst_X9_isOutside kini_X9 kc_X9_isOutside (by decide) rfl ⟨(Nat.le_of_ble_eq_true rfl), (Nat.le_of_ble_eq_true rfl)⟩ (Nat.le_of_ble_eq_true rfl) ⟨rfl, rfl, (Nat.le_of_ble_eq_true rfl), (Nat.le_of_ble_eq_true rfl)⟩ dX2_subtractRow_23 ?_
  rintro _ _ ⟨rfl, rfl⟩
  show jx_J X 0 0 26 [(6, .int (l1 * x19)), (5, .int (l2 * x18)), (0, .ref l0), (1, .int l1), (2, .int l2), (3, .int l3), (4, .int l4)] [.int x21] h
  refine j_if_ne (tgt := 42) C dX2_subtractRow_26 (by decide) (fun c36 => ?_) (fun c36 => ?_)
  · replace e := ifn c36 e
    cases e
    exact j_vret C hq dX2_subtractRow_42 ⟨Nat.le_of_ble_eq_true rfl, Nat.le_of_ble_eq_true rfl⟩ ⟨rfl, rfl⟩
  · replace e := ifp c36 e
    refine j_iload_n C dX2_subtractRow_29 rfl rfl ?_
    refine j_aload_n C dX2_subtractRow_30 rfl rfl ?_
    replace e := ob e
    obtain ⟨x22, ex22, e⟩ := e
    refine j_geti (ci := 2) (RC := RX2) (T := TX2) (N := 7) 4 C rfl klX2 (Nat.le_of_ble_eq_true rfl) kX2_31 rfl dX2_subtractRow_31 ex22 ?_
    refine j_iconst (v := (1 : Int32)) C dX2_subtractRow_34 (by decide) ?_
    refine j_isub C dX2_subtractRow_35 ?_
    replace e := ob e
    obtain ⟨x23, ex23, e⟩ := e
    refine j_callSN (As := [.int l2, .int (x22 - (1 : Int32))]) (na := 2) (st := []) (k1 := 0) (n1 := 0) C hr (sX9_isOutside ex23) kX2_101 kst_X9_isOutside kini_X9 kc_X9_isOutside (by decide) rfl ⟨(Nat.le_of_ble_eq_true rfl), (Nat.le_of_ble_eq_true rfl)⟩ (Nat.le_of_ble_eq_true rfl) ⟨rfl, rfl, (Nat.le_of_ble_eq_true rfl), (Nat.le_of_ble_eq_true rfl)⟩ dX2_subtractRow_36 ?_
    rintro _ _ ⟨rfl, rfl⟩
    show jx_J X 0 0 39 [(6, .int (l1 * x19)), (5, .int (l2 * x18)), (0, .ref l0), (1, .int l1), (2, .int l2), (3, .int l3), (4, .int l4)] [.int x23] h
    refine j_if_eq (tgt := 43) C dX2_subtractRow_39 (by decide) (fun c35 => ?_) (fun c35 => ?_)
    · replace e := ifp c35 e
      refine j_iconst (v := (0 : Int32)) C dX2_subtractRow_43 (by decide) ?_
      refine j_istore (lv1 := [(7, .int (0 : Int32)), (6, .int (l1 * x19)), (5, .int (l2 * x18)), (0, .ref l0), (1, .int l1), (2, .int l2), (3, .int l3), (4, .int l4)]) C hL dX2_subtractRow_44 (Nat.le_of_ble_eq_true rfl) rfl ?_
      refine jx_sub (lv' := [(0, .ref l0), (3, .int l3), (4, .int l4), (5, .int (l2 * x18)), (6, .int (l1 * x19)), (7, .int (0 : Int32))]) [3, 6, 7, 2, 1, 0] rfl ?_
      refine itr_ind (s0 := ((0 : Int32), h)) (fun s : Int32 × jx_H => jx_J X 0 0 46 [(0, .ref l0), (3, .int l3), (4, .int l4), (5, .int (l2 * x18)), (6, .int (l1 * x19)), (7, .int s.1)] [] s.2) e ?_
      clear e
      intro s kI1 kT1 e0
      obtain ⟨z24, h25⟩ := s
      obtain ⟨u1, e0_1⟩ := e0
      have e : LX2_subtractRow_46 l0 l3 l4 (l2 * x18) (l1 * x19) z24 h25 = some u1 := e0_1
      unfold LX2_subtractRow_46 at e
      refine j_iload C dX2_subtractRow_46 rfl ?_
      refine j_aload_n C dX2_subtractRow_48 rfl rfl ?_
      replace e := ob e
      obtain ⟨x26, ex26, e⟩ := e
      refine j_geti (ci := 2) (RC := RX2) (T := TX2) (N := 7) 5 C rfl klX2 (Nat.le_of_ble_eq_true rfl) kX2_34 rfl dX2_subtractRow_49 ex26 ?_
      refine j_icmp_ge (tgt := 99) C dX2_subtractRow_52 (by decide) (fun c34 => ?_) (fun c34 => ?_)
      · replace e := ifp c34 e
        obtain ⟨t1, e1, eu⟩ := exL_spec e
        obtain rfl := kT1 t1 (e0_1.trans (congrArg some eu))
        replace e := e1
        cases e
        exact j_vret C hq dX2_subtractRow_99 ⟨Nat.le_of_ble_eq_true rfl, Nat.le_of_ble_eq_true rfl⟩ ⟨rfl, rfl⟩
      · replace e := ifn c34 e
        refine j_aload_n C dX2_subtractRow_55 rfl rfl ?_
        replace e := ob e
        obtain ⟨x27, ex27, e⟩ := e
        refine j_getr (ci := 2) (RC := RX2) (T := TX2) (N := 7) 2 C rfl klX2 (Nat.le_of_ble_eq_true rfl) kX2_18 rfl dX2_subtractRow_56 ex27 ?_
        refine j_iload C dX2_subtractRow_59 rfl ?_
        refine j_iload C dX2_subtractRow_61 rfl ?_
        refine j_iadd C dX2_subtractRow_63 ?_
        refine j_aload_n C dX2_subtractRow_64 rfl rfl ?_
        replace e := ob e
        obtain ⟨x28, ex28, e⟩ := e
        refine j_getr (ci := 2) (RC := RX2) (T := TX2) (N := 7) 2 C rfl klX2 (Nat.le_of_ble_eq_true rfl) kX2_18 rfl dX2_subtractRow_65 ex28 ?_
        refine j_iload C dX2_subtractRow_68 rfl ?_
        refine j_iload C dX2_subtractRow_70 rfl ?_
        refine j_iadd C dX2_subtractRow_72 ?_
        replace e := ob e
        obtain ⟨x29, ex29, e⟩ := e
        refine j_iald C dX2_subtractRow_73 ex29 ?_
        refine j_iload_n C dX2_subtractRow_74 rfl rfl ?_
        refine j_aload_n C dX2_subtractRow_75 rfl rfl ?_
        replace e := ob e
        obtain ⟨x30, ex30, e⟩ := e
        refine j_getr (ci := 2) (RC := RX2) (T := TX2) (N := 7) 2 C rfl klX2 (Nat.le_of_ble_eq_true rfl) kX2_18 rfl dX2_subtractRow_76 ex30 ?_
        refine j_iload C dX2_subtractRow_79 rfl ?_
        refine j_iload C dX2_subtractRow_81 rfl ?_
        refine j_iadd C dX2_subtractRow_83 ?_
        replace e := ob e
        obtain ⟨x31, ex31, e⟩ := e
        refine j_iald C dX2_subtractRow_84 ex31 ?_
        refine j_imul C dX2_subtractRow_85 ?_
        refine j_isub C dX2_subtractRow_86 ?_
        refine j_iload C dX2_subtractRow_87 rfl ?_
        replace e := ob e
        obtain ⟨x32, ex32, e⟩ := e
        refine j_callSN (As := [.int (x29 - (l3 * x31)), .int l4]) (na := 2) (st := [.int ((l1 * x19) + z24), .ref x27]) (k1 := 0) (n1 := 0) C hr (sX9_residue ex32) kX2_62 kst_X9_residue kini_X9 kc_X9_residue (by decide) rfl ⟨(Nat.le_of_ble_eq_true rfl), (Nat.le_of_ble_eq_true rfl)⟩ (Nat.le_of_ble_eq_true rfl) ⟨rfl, rfl, (Nat.le_of_ble_eq_true rfl), (Nat.le_of_ble_eq_true rfl)⟩ dX2_subtractRow_89 ?_
        rintro _ _ ⟨rfl, rfl⟩
        show jx_J X 0 0 92 [(0, .ref l0), (3, .int l3), (4, .int l4), (5, .int (l2 * x18)), (6, .int (l1 * x19)), (7, .int z24)] [.int x32, .int ((l1 * x19) + z24), .ref x27] h25
        replace e := ob e
        obtain ⟨h33, eh33, e⟩ := e
        refine j_iast C dX2_subtractRow_92 eh33 ?_
        refine j_iinc (v := (z24 + (1 : Int32))) (lv1 := [(7, .int (z24 + (1 : Int32))), (0, .ref l0), (3, .int l3), (4, .int l4), (5, .int (l2 * x18)), (6, .int (l1 * x19))]) C hL dX2_subtractRow_93 rfl rfl (Nat.le_of_ble_eq_true rfl) rfl ?_
        refine j_goto (tgt := 46) C dX2_subtractRow_96 (by decide) ?_
        obtain rfl := Option.some.inj e
        refine jx_sub (lv' := [(0, .ref l0), (3, .int l3), (4, .int l4), (5, .int (l2 * x18)), (6, .int (l1 * x19)), (7, .int (z24 + (1 : Int32)))]) [1, 2, 3, 4, 5, 0] rfl ?_
        exact kI1 ((z24 + (1 : Int32)), h33) e0_1
    · replace e := ifn c35 e
      cases e
      exact j_vret C hq dX2_subtractRow_42 ⟨Nat.le_of_ble_eq_true rfl, Nat.le_of_ble_eq_true rfl⟩ ⟨rfl, rfl⟩
/-! BorderBasis$Matrix.reduceRows(I)I -/
noncomputable def BX2_reduceRows_125 (l0 : Nat) (l1 : Int32) (l2 : Int32) (l3 : Int32) (h : jx_H) : Option ((Int32 × Int32 × jx_H) ⊕ (Int32 × jx_H)) :=
some (.inl (l2, (l3 + (1 : Int32)), h))
noncomputable def BX2_reduceRows_73 (l0 : Nat) (l1 : Int32) (l2 : Int32) (l3 : Int32) (h : jx_H) : Option ((Int32 × Int32 × jx_H) ⊕ (Int32 × jx_H)) :=
(hgi h l0 2 6).bind fun x2 =>
(isO h l0 2).bind fun _ =>
(FX2_at l0 l2 l3 h).bind fun x4 =>
(FX9_residue (x2 * x4) l1 h).bind fun x5 =>
(hp h l0 2 6 (.int x5)).bind fun h6 =>
(isO h6 l0 2).bind fun _ =>
(FX2_at l0 l2 l3 h6).bind fun x8 =>
(FX9_inverse x8 l1 h6).bind fun x9 =>
(isO h6 l0 2).bind fun _ =>
(FX2_scaleRow l0 l2 x9 l1 h6).bind fun h11 =>
(isO h11 l0 2).bind fun _ =>
(FX2_clearColumn l0 l2 l3 l1 h11).bind fun h13 =>
(hgr h13 l0 2 3).bind fun x14 =>
(has h13 .int x14 l2 l3).bind fun h15 =>
BX2_reduceRows_125 l0 l1 (l2 + (1 : Int32)) l3 h15
noncomputable def LX2_reduceRows_9 (l0 : Nat) (l1 : Int32) (l2 : Int32) (l3 : Int32) (h : jx_H) : Option ((Int32 × Int32 × jx_H) ⊕ (Int32 × jx_H)) :=
(hgi h l0 2 5).bind fun x16 =>
if x16 ≤ l3 then
 exL (some (l2, h))
else
 (hgi h l0 2 4).bind fun x17 =>
 if x17 ≤ l2 then
  exL (some (l2, h))
 else
  (isO h l0 2).bind fun _ =>
  (FX2_pivotRow l0 l2 l3 h).bind fun x19 =>
  if x19 = (-1 : Int32) then
   (hp h l0 2 6 (.int (0 : Int32))).bind fun h26 =>
   BX2_reduceRows_125 l0 l1 l2 l3 h26
  else
   if x19 = l2 then
    BX2_reduceRows_73 l0 l1 l2 l3 h
   else
    (isO h l0 2).bind fun _ =>
    (FX2_swapRows l0 x19 l2 h).bind fun h21 =>
    (hgi h21 l0 2 6).bind fun x22 =>
    (FX9_residue (-x22) l1 h21).bind fun x23 =>
    (hp h21 l0 2 6 (.int x23)).bind fun h24 =>
    BX2_reduceRows_73 l0 l1 l2 l3 h24
noncomputable def FX2_reduceRows (l0 : Nat) (l1 : Int32) (h : jx_H) : Option (Int32 × jx_H) :=
(hp h l0 2 6 (.int (1 : Int32))).bind fun h1 =>
itr (fun s : Int32 × Int32 × jx_H => LX2_reduceRows_9 l0 l1 s.1 s.2.1 s.2.2) ((0 : Int32), (0 : Int32), h1)
def rmX2_reduceRows : Room := { frames := 3, cells := 0, slots := 0, locals := 74 }
set_option maxRecDepth 20000 in
set_option maxHeartbeats 4000000 in
theorem sX2_reduceRows {l0 : Nat} {l1 : Int32} {h : jx_H} {r : Int32} {h9 : jx_H} (e : FX2_reduceRows l0 l1 h = some (r, h9)) : jx_Ct yX2_reduceRows cX2_reduceRows 5 (some .int) rmX2_reduceRows [.ref l0, .int l1] h (fun r' h' => some (.int r) = r' ∧ h9 = h') := by
  refine jx_Ct.of (own := RX2) (by decide) rfl (Nat.le_of_ble_eq_true rfl) (fun X C hq hr hL hN => ?_)
  refine jx_sub (lv' := [(0, .ref l0), (1, .int l1)]) [0, 1] rfl ?_
  unfold FX2_reduceRows at e
  refine j_aload_n C dX2_reduceRows_0 rfl rfl ?_
  refine j_iconst (v := (1 : Int32)) C dX2_reduceRows_1 (by decide) ?_
  replace e := ob e
  obtain ⟨h30, eh30, e⟩ := e
  refine j_put (ci := 2) (RC := RX2) (T := TX2) (N := 7) (ty0 := tyX2) 6 C rfl klX2 tyX2_ok nmX2 (Nat.le_of_ble_eq_true rfl) kX2_79 rfl rfl rfl rfl dX2_reduceRows_2 eh30 ?_
  refine j_iconst (v := (0 : Int32)) C dX2_reduceRows_5 (by decide) ?_
  refine j_istore_n (lv1 := [(2, .int (0 : Int32)), (0, .ref l0), (1, .int l1)]) C hL dX2_reduceRows_6 rfl (Nat.le_of_ble_eq_true rfl) rfl ?_
  refine j_iconst (v := (0 : Int32)) C dX2_reduceRows_7 (by decide) ?_
  refine j_istore_n (lv1 := [(3, .int (0 : Int32)), (2, .int (0 : Int32)), (0, .ref l0), (1, .int l1)]) C hL dX2_reduceRows_8 rfl (Nat.le_of_ble_eq_true rfl) rfl ?_
  refine jx_sub (lv' := [(0, .ref l0), (1, .int l1), (2, .int (0 : Int32)), (3, .int (0 : Int32))]) [2, 3, 1, 0] rfl ?_
  refine itr_ind (s0 := ((0 : Int32), (0 : Int32), h30)) (fun s : Int32 × Int32 × jx_H => jx_J X 0 0 9 [(0, .ref l0), (1, .int l1), (2, .int s.1), (3, .int s.2.1)] [] s.2.2) e ?_
  clear e
  intro s kI1 kT1 e0
  obtain ⟨z31, z32, h33⟩ := s
  obtain ⟨u1, e0_1⟩ := e0
  have e : LX2_reduceRows_9 l0 l1 z31 z32 h33 = some u1 := e0_1
  have b125 : ∀ (y34 : Int32) (y35 : Int32) (h36 : jx_H), BX2_reduceRows_125 l0 l1 y34 y35 h36 = some u1 → jx_J X 0 0 125 [(0, .ref l0), (1, .int l1), (2, .int y34), (3, .int y35)] [] h36 := by
    intro y34 y35 h36 e
    unfold BX2_reduceRows_125 at e
    refine j_iinc (v := (y35 + (1 : Int32))) (lv1 := [(3, .int (y35 + (1 : Int32))), (0, .ref l0), (1, .int l1), (2, .int y34)]) C hL dX2_reduceRows_125 rfl rfl (Nat.le_of_ble_eq_true rfl) rfl ?_
    refine j_goto (tgt := 9) C dX2_reduceRows_128 (by decide) ?_
    obtain rfl := Option.some.inj e
    refine jx_sub (lv' := [(0, .ref l0), (1, .int l1), (2, .int y34), (3, .int (y35 + (1 : Int32)))]) [1, 2, 3, 0] rfl ?_
    exact kI1 (y34, (y35 + (1 : Int32)), h36) e0_1
  have b73 : ∀ (y37 : Int32) (y38 : Int32) (h39 : jx_H), BX2_reduceRows_73 l0 l1 y37 y38 h39 = some u1 → jx_J X 0 0 73 [(0, .ref l0), (1, .int l1), (2, .int y37), (3, .int y38)] [] h39 := by
    intro y37 y38 h39 e
    unfold BX2_reduceRows_73 at e
    refine j_aload_n C dX2_reduceRows_73 rfl rfl ?_
    refine j_aload_n C dX2_reduceRows_74 rfl rfl ?_
    replace e := ob e
    obtain ⟨x40, ex40, e⟩ := e
    refine j_geti (ci := 2) (RC := RX2) (T := TX2) (N := 7) 6 C rfl klX2 (Nat.le_of_ble_eq_true rfl) kX2_79 rfl dX2_reduceRows_75 ex40 ?_
    refine j_aload_n C dX2_reduceRows_78 rfl rfl ?_
    refine j_iload_n C dX2_reduceRows_79 rfl rfl ?_
    refine j_iload_n C dX2_reduceRows_80 rfl rfl ?_
    replace e := ob e
    obtain ⟨_, eo41, e⟩ := e
    replace e := ob e
    obtain ⟨x42, ex42, e⟩ := e
    refine j_callV (ci := 2) (RC := RX2) (T := TX2) (N := 7) (As := [.int y37, .int y38]) (b := l0) (na := 2) (st := [.int x40, .ref l0]) (k1 := 0) (n1 := 0) C hr (sX2_at ex42) rfl eo41 kX2_59 kim_X2_at ksel_X2_at kini_X2 kc_X2_at (by decide) rfl ⟨(Nat.le_of_ble_eq_true rfl), (Nat.le_of_ble_eq_true rfl)⟩ (Nat.le_of_ble_eq_true rfl) ⟨rfl, rfl, (Nat.le_of_ble_eq_true rfl), (Nat.le_of_ble_eq_true rfl)⟩ dX2_reduceRows_81 ?_
    rintro _ _ ⟨rfl, rfl⟩
    show jx_J X 0 0 84 [(0, .ref l0), (1, .int l1), (2, .int y37), (3, .int y38)] [.int x42, .int x40, .ref l0] h39
    refine j_imul C dX2_reduceRows_84 ?_
    refine j_iload_n C dX2_reduceRows_85 rfl rfl ?_
    replace e := ob e
    obtain ⟨x43, ex43, e⟩ := e
    refine j_callSN (As := [.int (x40 * x42), .int l1]) (na := 2) (st := [.ref l0]) (k1 := 0) (n1 := 0) C hr (sX9_residue ex43) kX2_62 kst_X9_residue kini_X9 kc_X9_residue (by decide) rfl ⟨(Nat.le_of_ble_eq_true rfl), (Nat.le_of_ble_eq_true rfl)⟩ (Nat.le_of_ble_eq_true rfl) ⟨rfl, rfl, (Nat.le_of_ble_eq_true rfl), (Nat.le_of_ble_eq_true rfl)⟩ dX2_reduceRows_86 ?_
    rintro _ _ ⟨rfl, rfl⟩
    show jx_J X 0 0 89 [(0, .ref l0), (1, .int l1), (2, .int y37), (3, .int y38)] [.int x43, .ref l0] h39
    replace e := ob e
    obtain ⟨h44, eh44, e⟩ := e
    refine j_put (ci := 2) (RC := RX2) (T := TX2) (N := 7) (ty0 := tyX2) 6 C rfl klX2 tyX2_ok nmX2 (Nat.le_of_ble_eq_true rfl) kX2_79 rfl rfl rfl rfl dX2_reduceRows_89 eh44 ?_
    refine j_aload_n C dX2_reduceRows_92 rfl rfl ?_
    refine j_iload_n C dX2_reduceRows_93 rfl rfl ?_
    refine j_aload_n C dX2_reduceRows_94 rfl rfl ?_
    refine j_iload_n C dX2_reduceRows_95 rfl rfl ?_
    refine j_iload_n C dX2_reduceRows_96 rfl rfl ?_
    replace e := ob e
    obtain ⟨_, eo45, e⟩ := e
    replace e := ob e
    obtain ⟨x46, ex46, e⟩ := e
    refine j_callV (ci := 2) (RC := RX2) (T := TX2) (N := 7) (As := [.int y37, .int y38]) (b := l0) (na := 2) (st := [.int y37, .ref l0]) (k1 := 0) (n1 := 0) C hr (sX2_at ex46) rfl eo45 kX2_59 kim_X2_at ksel_X2_at kini_X2 kc_X2_at (by decide) rfl ⟨(Nat.le_of_ble_eq_true rfl), (Nat.le_of_ble_eq_true rfl)⟩ (Nat.le_of_ble_eq_true rfl) ⟨rfl, rfl, (Nat.le_of_ble_eq_true rfl), (Nat.le_of_ble_eq_true rfl)⟩ dX2_reduceRows_97 ?_
    rintro _ _ ⟨rfl, rfl⟩
    show jx_J X 0 0 100 [(0, .ref l0), (1, .int l1), (2, .int y37), (3, .int y38)] [.int x46, .int y37, .ref l0] h44
    refine j_iload_n C dX2_reduceRows_100 rfl rfl ?_
    replace e := ob e
    obtain ⟨x47, ex47, e⟩ := e
    refine j_callSN (As := [.int x46, .int l1]) (na := 2) (st := [.int y37, .ref l0]) (k1 := 0) (n1 := 0) C hr (sX9_inverse ex47) kX2_88 kst_X9_inverse kini_X9 kc_X9_inverse (by decide) rfl ⟨(Nat.le_of_ble_eq_true rfl), (Nat.le_of_ble_eq_true rfl)⟩ (Nat.le_of_ble_eq_true rfl) ⟨rfl, rfl, (Nat.le_of_ble_eq_true rfl), (Nat.le_of_ble_eq_true rfl)⟩ dX2_reduceRows_101 ?_
    rintro _ _ ⟨rfl, rfl⟩
    show jx_J X 0 0 104 [(0, .ref l0), (1, .int l1), (2, .int y37), (3, .int y38)] [.int x47, .int y37, .ref l0] h44
    refine j_iload_n C dX2_reduceRows_104 rfl rfl ?_
    replace e := ob e
    obtain ⟨_, eo48, e⟩ := e
    replace e := ob e
    obtain ⟨h49, eh49, e⟩ := e
    refine j_callV (ci := 2) (RC := RX2) (T := TX2) (N := 7) (As := [.int y37, .int x47, .int l1]) (b := l0) (na := 3) (st := []) (k1 := 0) (n1 := 0) C hr (sX2_scaleRow eh49) rfl eo48 kX2_91 kim_X2_scaleRow ksel_X2_scaleRow kini_X2 kc_X2_scaleRow (by decide) rfl ⟨(Nat.le_of_ble_eq_true rfl), (Nat.le_of_ble_eq_true rfl)⟩ (Nat.le_of_ble_eq_true rfl) ⟨rfl, rfl, (Nat.le_of_ble_eq_true rfl), (Nat.le_of_ble_eq_true rfl)⟩ dX2_reduceRows_105 ?_
    rintro _ _ ⟨rfl, rfl⟩
    show jx_J X 0 0 108 [(0, .ref l0), (1, .int l1), (2, .int y37), (3, .int y38)] [] h49
    refine j_aload_n C dX2_reduceRows_108 rfl rfl ?_
    refine j_iload_n C dX2_reduceRows_109 rfl rfl ?_
    refine j_iload_n C dX2_reduceRows_110 rfl rfl ?_
    refine j_iload_n C dX2_reduceRows_111 rfl rfl ?_
    replace e := ob e
    obtain ⟨_, eo50, e⟩ := e
    replace e := ob e
    obtain ⟨h51, eh51, e⟩ := e
    refine j_callV (ci := 2) (RC := RX2) (T := TX2) (N := 7) (As := [.int y37, .int y38, .int l1]) (b := l0) (na := 3) (st := []) (k1 := 0) (n1 := 0) C hr (sX2_clearColumn eh51) rfl eo50 kX2_94 kim_X2_clearColumn ksel_X2_clearColumn kini_X2 kc_X2_clearColumn (by decide) rfl ⟨(Nat.le_of_ble_eq_true rfl), (Nat.le_of_ble_eq_true rfl)⟩ (Nat.le_of_ble_eq_true rfl) ⟨rfl, rfl, (Nat.le_of_ble_eq_true rfl), (Nat.le_of_ble_eq_true rfl)⟩ dX2_reduceRows_112 ?_
    rintro _ _ ⟨rfl, rfl⟩
    show jx_J X 0 0 115 [(0, .ref l0), (1, .int l1), (2, .int y37), (3, .int y38)] [] h51
    refine j_aload_n C dX2_reduceRows_115 rfl rfl ?_
    replace e := ob e
    obtain ⟨x52, ex52, e⟩ := e
    refine j_getr (ci := 2) (RC := RX2) (T := TX2) (N := 7) 3 C rfl klX2 (Nat.le_of_ble_eq_true rfl) kX2_22 rfl dX2_reduceRows_116 ex52 ?_
    refine j_iload_n C dX2_reduceRows_119 rfl rfl ?_
    refine j_iload_n C dX2_reduceRows_120 rfl rfl ?_
    replace e := ob e
    obtain ⟨h53, eh53, e⟩ := e
    refine j_iast C dX2_reduceRows_121 eh53 ?_
    refine j_iinc (v := (y37 + (1 : Int32))) (lv1 := [(2, .int (y37 + (1 : Int32))), (0, .ref l0), (1, .int l1), (3, .int y38)]) C hL dX2_reduceRows_122 rfl rfl (Nat.le_of_ble_eq_true rfl) rfl ?_
    refine jx_sub (lv' := [(0, .ref l0), (1, .int l1), (2, .int (y37 + (1 : Int32))), (3, .int y38)]) [1, 2, 0, 3] rfl ?_
    exact b125 (y37 + (1 : Int32)) y38 h53 e
  unfold LX2_reduceRows_9 at e
  refine j_iload_n C dX2_reduceRows_9 rfl rfl ?_
  refine j_aload_n C dX2_reduceRows_10 rfl rfl ?_
  replace e := ob e
  obtain ⟨x54, ex54, e⟩ := e
  refine j_geti (ci := 2) (RC := RX2) (T := TX2) (N := 7) 5 C rfl klX2 (Nat.le_of_ble_eq_true rfl) kX2_34 rfl dX2_reduceRows_11 ex54 ?_
  refine j_icmp_ge (tgt := 131) C dX2_reduceRows_14 (by decide) (fun c67 => ?_) (fun c67 => ?_)
  · replace e := ifp c67 e
    obtain ⟨t1, e1, eu⟩ := exL_spec e
    obtain rfl := kT1 t1 (e0_1.trans (congrArg some eu))
    replace e := e1
    refine j_iload_n C dX2_reduceRows_131 rfl rfl ?_
    cases e
    exact j_iret C hq rfl dX2_reduceRows_132 ⟨Nat.le_of_ble_eq_true rfl, Nat.le_of_ble_eq_true rfl⟩ ⟨rfl, rfl⟩
  · replace e := ifn c67 e
    refine j_iload_n C dX2_reduceRows_17 rfl rfl ?_
    refine j_aload_n C dX2_reduceRows_18 rfl rfl ?_
    replace e := ob e
    obtain ⟨x55, ex55, e⟩ := e
    refine j_geti (ci := 2) (RC := RX2) (T := TX2) (N := 7) 4 C rfl klX2 (Nat.le_of_ble_eq_true rfl) kX2_31 rfl dX2_reduceRows_19 ex55 ?_
    refine j_icmp_ge (tgt := 131) C dX2_reduceRows_22 (by decide) (fun c66 => ?_) (fun c66 => ?_)
    · replace e := ifp c66 e
      obtain ⟨t1, e1, eu⟩ := exL_spec e
      obtain rfl := kT1 t1 (e0_1.trans (congrArg some eu))
      replace e := e1
      refine j_iload_n C dX2_reduceRows_131 rfl rfl ?_
      cases e
      exact j_iret C hq rfl dX2_reduceRows_132 ⟨Nat.le_of_ble_eq_true rfl, Nat.le_of_ble_eq_true rfl⟩ ⟨rfl, rfl⟩
    · replace e := ifn c66 e
      refine j_aload_n C dX2_reduceRows_25 rfl rfl ?_
      refine j_iload_n C dX2_reduceRows_26 rfl rfl ?_
      refine j_iload_n C dX2_reduceRows_27 rfl rfl ?_
      replace e := ob e
      obtain ⟨_, eo56, e⟩ := e
      replace e := ob e
      obtain ⟨x57, ex57, e⟩ := e
      refine j_callV (ci := 2) (RC := RX2) (T := TX2) (N := 7) (As := [.int z31, .int z32]) (b := l0) (na := 2) (st := []) (k1 := 0) (n1 := 0) C hr (sX2_pivotRow ex57) rfl eo56 kX2_82 kim_X2_pivotRow ksel_X2_pivotRow kini_X2 kc_X2_pivotRow (by decide) rfl ⟨(Nat.le_of_ble_eq_true rfl), (Nat.le_of_ble_eq_true rfl)⟩ (Nat.le_of_ble_eq_true rfl) ⟨rfl, rfl, (Nat.le_of_ble_eq_true rfl), (Nat.le_of_ble_eq_true rfl)⟩ dX2_reduceRows_28 ?_
      rintro _ _ ⟨rfl, rfl⟩
      show jx_J X 0 0 31 [(0, .ref l0), (1, .int l1), (2, .int z31), (3, .int z32)] [.int x57] h33
      refine j_istore (lv1 := [(4, .int x57), (0, .ref l0), (1, .int l1), (2, .int z31), (3, .int z32)]) C hL dX2_reduceRows_31 (Nat.le_of_ble_eq_true rfl) rfl ?_
      refine j_iload C dX2_reduceRows_33 rfl ?_
      refine j_iconst (v := (-1 : Int32)) C dX2_reduceRows_35 (by decide) ?_
      refine j_icmp_ne (tgt := 47) C dX2_reduceRows_36 (by decide) (fun c65 => ?_) (fun c65 => ?_)
      · replace e := ifn c65 e
        refine j_iload C dX2_reduceRows_47 rfl ?_
        refine j_iload_n C dX2_reduceRows_49 rfl rfl ?_
        refine j_icmp_eq (tgt := 73) C dX2_reduceRows_50 (by decide) (fun c63 => ?_) (fun c63 => ?_)
        · replace e := ifp c63 e
          refine jx_sub (lv' := [(0, .ref l0), (1, .int l1), (2, .int z31), (3, .int z32)]) [1, 2, 3, 4] rfl ?_
          exact b73 z31 z32 h33 e
        · replace e := ifn c63 e
          refine j_aload_n C dX2_reduceRows_53 rfl rfl ?_
          refine j_iload C dX2_reduceRows_54 rfl ?_
          refine j_iload_n C dX2_reduceRows_56 rfl rfl ?_
          replace e := ob e
          obtain ⟨_, eo58, e⟩ := e
          replace e := ob e
          obtain ⟨h59, eh59, e⟩ := e
          refine j_callV (ci := 2) (RC := RX2) (T := TX2) (N := 7) (As := [.int x57, .int z31]) (b := l0) (na := 2) (st := []) (k1 := 0) (n1 := 0) C hr (sX2_swapRows eh59) rfl eo58 kX2_85 kim_X2_swapRows ksel_X2_swapRows kini_X2 kc_X2_swapRows (by decide) rfl ⟨(Nat.le_of_ble_eq_true rfl), (Nat.le_of_ble_eq_true rfl)⟩ (Nat.le_of_ble_eq_true rfl) ⟨rfl, rfl, (Nat.le_of_ble_eq_true rfl), (Nat.le_of_ble_eq_true rfl)⟩ dX2_reduceRows_57 ?_
          rintro _ _ ⟨rfl, rfl⟩
          show jx_J X 0 0 60 [(4, .int x57), (0, .ref l0), (1, .int l1), (2, .int z31), (3, .int z32)] [] h59
          refine j_aload_n C dX2_reduceRows_60 rfl rfl ?_
          refine j_aload_n C dX2_reduceRows_61 rfl rfl ?_
          replace e := ob e
          obtain ⟨x60, ex60, e⟩ := e
          refine j_geti (ci := 2) (RC := RX2) (T := TX2) (N := 7) 6 C rfl klX2 (Nat.le_of_ble_eq_true rfl) kX2_79 rfl dX2_reduceRows_62 ex60 ?_
          refine j_ineg C dX2_reduceRows_65 ?_
          refine j_iload_n C dX2_reduceRows_66 rfl rfl ?_
          replace e := ob e
          obtain ⟨x61, ex61, e⟩ := e
          refine j_callSN (As := [.int (-x60), .int l1]) (na := 2) (st := [.ref l0]) (k1 := 0) (n1 := 0) C hr (sX9_residue ex61) kX2_62 kst_X9_residue kini_X9 kc_X9_residue (by decide) rfl ⟨(Nat.le_of_ble_eq_true rfl), (Nat.le_of_ble_eq_true rfl)⟩ (Nat.le_of_ble_eq_true rfl) ⟨rfl, rfl, (Nat.le_of_ble_eq_true rfl), (Nat.le_of_ble_eq_true rfl)⟩ dX2_reduceRows_67 ?_
          rintro _ _ ⟨rfl, rfl⟩
          show jx_J X 0 0 70 [(4, .int x57), (0, .ref l0), (1, .int l1), (2, .int z31), (3, .int z32)] [.int x61, .ref l0] h59
          replace e := ob e
          obtain ⟨h62, eh62, e⟩ := e
          refine j_put (ci := 2) (RC := RX2) (T := TX2) (N := 7) (ty0 := tyX2) 6 C rfl klX2 tyX2_ok nmX2 (Nat.le_of_ble_eq_true rfl) kX2_79 rfl rfl rfl rfl dX2_reduceRows_70 eh62 ?_
          refine jx_sub (lv' := [(0, .ref l0), (1, .int l1), (2, .int z31), (3, .int z32)]) [1, 2, 3, 4] rfl ?_
          exact b73 z31 z32 h62 e
      · replace e := ifp c65 e
        refine j_aload_n C dX2_reduceRows_39 rfl rfl ?_
        refine j_iconst (v := (0 : Int32)) C dX2_reduceRows_40 (by decide) ?_
        replace e := ob e
        obtain ⟨h64, eh64, e⟩ := e
        refine j_put (ci := 2) (RC := RX2) (T := TX2) (N := 7) (ty0 := tyX2) 6 C rfl klX2 tyX2_ok nmX2 (Nat.le_of_ble_eq_true rfl) kX2_79 rfl rfl rfl rfl dX2_reduceRows_41 eh64 ?_
        refine j_goto (tgt := 125) C dX2_reduceRows_44 (by decide) ?_
        refine jx_sub (lv' := [(0, .ref l0), (1, .int l1), (2, .int z31), (3, .int z32)]) [1, 2, 3, 4] rfl ?_
        exact b125 z31 z32 h64 e
