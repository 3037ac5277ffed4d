/-! BorderBasis.appendText(I)I -/
noncomputable def LX9_appendText_24 (l0 : Nat) (l1 : Int32) (l2 : Int32) (h : jx_H) : Option ((Int32 × jx_H) ⊕ ((Int32 × jx_H) ⊕ (String × jx_H))) :=
if l2 < 0 then
 exL ((hgr h l0 9 10).bind fun x3 =>
 (hgi h x3 7 1).bind fun x4 =>
 some (.inl (x4, h)))
else
 (hgr h l0 9 10).bind fun x5 =>
 (isO h x5 7).bind fun _ =>
 (FX7_append x5 ((l1 >>> (l2 &&& 31)).toInt8.toInt32) h).bind fun h7 =>
 some (.inl ((l2 + (-8 : Int32)), h7))
noncomputable def FX9_appendText (l0 : Nat) (l1 : Int32) (h : jx_H) : Option ((Int32 × jx_H) ⊕ (String × jx_H)) :=
(hgr h l0 9 10).bind fun x1 =>
(hgi h x1 7 1).bind fun x2 =>
if x2 ≤ (896 : Int32) then
 itr (fun s : Int32 × jx_H => LX9_appendText_24 l0 l1 s.1 s.2) ((24 : Int32), h)
else
 some (.inr ("java/lang/IllegalStateException", h))
def rmX9_appendText : Room := { frames := 6, cells := 1, slots := 6, locals := 89 }
set_option maxRecDepth 20000 in
set_option maxHeartbeats 4000000 in
theorem sX9_appendText {l0 : Nat} {l1 : Int32} {h : jx_H} {r : (Int32 × jx_H) ⊕ (String × jx_H)}  (e : FX9_appendText l0 l1 h = some r) : jx_Cx yX9_appendText cX9_appendText 3 (some .int) rmX9_appendText [.ref l0, .int l1] h (fun r' h' => ∃ (v : Int32) (h9 : jx_H), r = .inl (v, h9) ∧ some (.int v) = r' ∧ h9 = h') (fun E h' => ∃ (h9 : jx_H) (sz : Nat), r = .inr (E, h9) ∧ h9.1 ≤ sz ∧ h' = (sz, h9.2)) := by
  refine jx_Cx.of (own := RX9) (by decide) rfl (Nat.le_of_ble_eq_true rfl) (fun X C hq hr hL hN => ?_)
  refine jx_sub (lv' := [(0, .ref l0), (1, .int l1)]) [0, 1] rfl ?_
  unfold FX9_appendText at e
  refine j_aload_n C dX9_appendText_0 rfl rfl ?_
  replace e := ob e
  obtain ⟨x10, ex10, e⟩ := e
  refine j_getr (ci := 9) (RC := RX9) (T := TX9) (N := 14) 10 C rfl klX9 (Nat.le_of_ble_eq_true rfl) kX9_74 rfl dX9_appendText_1 ex10 ?_
  replace e := ob e
  obtain ⟨x11, ex11, e⟩ := e
  refine j_geti (ci := 7) (RC := RX7) (T := TX7) (N := 6) 1 C rfl klX7 (Nat.le_of_ble_eq_true rfl) kX9_93 rfl dX9_appendText_4 ex11 ?_
  refine j_sipush (v := (896 : Int32)) C dX9_appendText_7 (by decide) ?_
  refine j_icmp_le (tgt := 21) C dX9_appendText_10 (by decide) (fun c20 => ?_) (fun c20 => ?_)
  · replace e := ifp c20 e
    refine j_bipush (v := (24 : Int32)) C dX9_appendText_21 (by decide) ?_
    refine j_istore_n (lv1 := [(2, .int (24 : Int32)), (0, .ref l0), (1, .int l1)]) C hL dX9_appendText_23 rfl (Nat.le_of_ble_eq_true rfl) rfl ?_
    refine jx_sub (lv' := [(0, .ref l0), (1, .int l1), (2, .int (24 : Int32))]) [1, 2, 0] rfl ?_
    refine itr_ind (s0 := ((24 : Int32), h)) (fun s : Int32 × jx_H => jx_J X 0 0 24 [(0, .ref l0), (1, .int l1), (2, .int s.1)] [] s.2) e ?_
    clear e
    intro s kI2 kT2 e0
    obtain ⟨z12, h13⟩ := s
    obtain ⟨u2, e0_2⟩ := e0
    have e : LX9_appendText_24 l0 l1 z12 h13 = some u2 := e0_2
    unfold LX9_appendText_24 at e
    refine j_iload_n C dX9_appendText_24 rfl rfl ?_
    refine j_if_lt (tgt := 45) C dX9_appendText_25 (by decide) (fun c19 => ?_) (fun c19 => ?_)
    · replace e := ifp c19 e
      obtain ⟨t_3, e_3, eu_3⟩ := exL_spec e
      obtain rfl := kT2 t_3 (e0_2.trans (congrArg some eu_3))
      replace e := e_3
      refine j_aload_n C dX9_appendText_45 rfl rfl ?_
      replace e := ob e
      obtain ⟨x14, ex14, e⟩ := e
      refine j_getr (ci := 9) (RC := RX9) (T := TX9) (N := 14) 10 C rfl klX9 (Nat.le_of_ble_eq_true rfl) kX9_74 rfl dX9_appendText_46 ex14 ?_
      replace e := ob e
      obtain ⟨x15, ex15, e⟩ := e
      refine j_geti (ci := 7) (RC := RX7) (T := TX7) (N := 6) 1 C rfl klX7 (Nat.le_of_ble_eq_true rfl) kX9_93 rfl dX9_appendText_49 ex15 ?_
      cases e
      exact j_iretX C hq rfl dX9_appendText_52 ⟨Nat.le_of_ble_eq_true rfl, Nat.le_of_ble_eq_true rfl⟩ ⟨_, _, rfl, rfl, rfl⟩
    · replace e := ifn c19 e
      refine j_aload_n C dX9_appendText_28 rfl rfl ?_
      replace e := ob e
      obtain ⟨x16, ex16, e⟩ := e
      refine j_getr (ci := 9) (RC := RX9) (T := TX9) (N := 14) 10 C rfl klX9 (Nat.le_of_ble_eq_true rfl) kX9_74 rfl dX9_appendText_29 ex16 ?_
      refine j_iload_n C dX9_appendText_32 rfl rfl ?_
      refine j_iload_n C dX9_appendText_33 rfl rfl ?_
      refine j_ishr C dX9_appendText_34 ?_
      refine j_i2b C dX9_appendText_35 ?_
      replace e := ob e
      obtain ⟨_, eo17, e⟩ := e
      replace e := ob e
      obtain ⟨h18, eh18, e⟩ := e
      refine j_callV (ci := 7) (RC := RX7) (T := TX7) (N := 6) (As := [.int ((l1 >>> (z12 &&& 31)).toInt8.toInt32)]) (b := x16) (na := 1) (st := []) (k1 := 0) (n1 := 0) C hr (sX7_append eh18) rfl eo17 kX9_100 kim_X7_append ksel_X7_append kini_X7 kc_X7_append (by decide) rfl ⟨(Nat.le_of_ble_eq_true rfl), (Nat.le_of_ble_eq_true rfl)⟩ (Nat.le_of_ble_eq_true rfl) ⟨rfl, rfl, (Nat.le_of_ble_eq_true rfl), (Nat.le_of_ble_eq_true rfl)⟩ dX9_appendText_36 ?_
      rintro _ _ ⟨rfl, rfl⟩
      show jx_J X 0 0 39 [(0, .ref l0), (1, .int l1), (2, .int z12)] [] h18
      refine j_iinc (v := (z12 + (-8 : Int32))) (lv1 := [(2, .int (z12 + (-8 : Int32))), (0, .ref l0), (1, .int l1)]) C hL dX9_appendText_39 rfl rfl (Nat.le_of_ble_eq_true rfl) rfl ?_
      refine j_goto (tgt := 24) C dX9_appendText_42 (by decide) ?_
      obtain rfl := Option.some.inj e
      refine jx_sub (lv' := [(0, .ref l0), (1, .int l1), (2, .int (z12 + (-8 : Int32)))]) [1, 2, 0] rfl ?_
      exact kI2 ((z12 + (-8 : Int32)), h18) e0_2
  · replace e := ifn c20 e
    cases e
    exact j_throw0 (names := jx_names) (ik := 97) (ic := 99) C hr hq jx_fits.2.1 jx_fits.1 kX9_97 kini_IllegalStateException jx_thISE ⟨rfl, rfl⟩ dX9_appendText_13 dX9_appendText_16 dX9_appendText_17 dX9_appendText_20 (Nat.le_of_ble_eq_true rfl) (Nat.le_of_ble_eq_true rfl) ⟨Nat.le_of_ble_eq_true rfl, Nat.le_of_ble_eq_true rfl, Nat.le_of_ble_eq_true rfl, Nat.le_of_ble_eq_true rfl⟩ (fun sz hsz => ⟨_, sz, rfl, hsz, rfl⟩)
/-! BorderBasis.truncateText(I)I -/
noncomputable def BX9_truncateText_15  (h : jx_H) : Option ((Int32 × jx_H) ⊕ (String × jx_H)) :=
some (.inr ("java/lang/IllegalArgumentException", h))
noncomputable def FX9_truncateText (l0 : Nat) (l1 : Int32) (h : jx_H) : Option ((Int32 × jx_H) ⊕ (String × jx_H)) :=
if l1 < 0 then
 BX9_truncateText_15  h
else
 (hgr h l0 9 10).bind fun x1 =>
 (hgi h x1 7 1).bind fun x2 =>
 if l1 ≤ x2 then
  (hgr h l0 9 10).bind fun x3 =>
  (hp h x3 7 1 (.int l1)).bind fun h4 =>
  some (.inl (l1, h4))
 else
  BX9_truncateText_15  h
def rmX9_truncateText : Room := { frames := 6, cells := 1, slots := 6, locals := 89 }
set_option maxRecDepth 20000 in
set_option maxHeartbeats 4000000 in
theorem sX9_truncateText {l0 : Nat} {l1 : Int32} {h : jx_H} {r : (Int32 × jx_H) ⊕ (String × jx_H)}  (e : FX9_truncateText l0 l1 h = some r) : jx_Cx yX9_truncateText cX9_truncateText 2 (some .int) rmX9_truncateText [.ref l0, .int l1] h (fun r' h' => ∃ (v : Int32) (h9 : jx_H), r = .inl (v, h9) ∧ some (.int v) = r' ∧ h9 = h') (fun E h' => ∃ (h9 : jx_H) (sz : Nat), r = .inr (E, h9) ∧ h9.1 ≤ sz ∧ h' = (sz, h9.2)) := by
  refine jx_Cx.of (own := RX9) (by decide) rfl (Nat.le_of_ble_eq_true rfl) (fun X C hq hr hL hN => ?_)
  refine jx_sub (lv' := [(0, .ref l0), (1, .int l1)]) [0, 1] rfl ?_
  have b15 : ∀ (h7 : jx_H), BX9_truncateText_15 h7 = some r → jx_J X 0 0 15 [] [] h7 := by
    intro h7 e
    unfold BX9_truncateText_15 at e
    cases e
    exact j_throw0 (names := jx_names) (ik := 104) (ic := 106) C hr hq jx_fits.2.2.1 jx_fits.1 kX9_104 kini_IllegalArgumentException jx_thIAE ⟨rfl, rfl⟩ dX9_truncateText_15 dX9_truncateText_18 dX9_truncateText_19 dX9_truncateText_22 (Nat.le_of_ble_eq_true rfl) (Nat.le_of_ble_eq_true rfl) ⟨Nat.le_of_ble_eq_true rfl, Nat.le_of_ble_eq_true rfl, Nat.le_of_ble_eq_true rfl, Nat.le_of_ble_eq_true rfl⟩ (fun sz hsz => ⟨_, sz, rfl, hsz, rfl⟩)
  unfold FX9_truncateText at e
  refine j_iload_n C dX9_truncateText_0 rfl rfl ?_
  refine j_if_lt (tgt := 15) C dX9_truncateText_1 (by decide) (fun c13 => ?_) (fun c13 => ?_)
  · replace e := ifp c13 e
    refine jx_sub (lv' := []) [] rfl ?_
    exact b15 h e
  · replace e := ifn c13 e
    refine j_iload_n C dX9_truncateText_4 rfl rfl ?_
    refine j_aload_n C dX9_truncateText_5 rfl rfl ?_
    replace e := ob e
    obtain ⟨x8, ex8, e⟩ := e
    refine j_getr (ci := 9) (RC := RX9) (T := TX9) (N := 14) 10 C rfl klX9 (Nat.le_of_ble_eq_true rfl) kX9_74 rfl dX9_truncateText_6 ex8 ?_
    replace e := ob e
    obtain ⟨x9, ex9, e⟩ := e
    refine j_geti (ci := 7) (RC := RX7) (T := TX7) (N := 6) 1 C rfl klX7 (Nat.le_of_ble_eq_true rfl) kX9_93 rfl dX9_truncateText_9 ex9 ?_
    refine j_icmp_le (tgt := 23) C dX9_truncateText_12 (by decide) (fun c12 => ?_) (fun c12 => ?_)
    · replace e := ifp c12 e
      refine j_aload_n C dX9_truncateText_23 rfl rfl ?_
      replace e := ob e
      obtain ⟨x10, ex10, e⟩ := e
      refine j_getr (ci := 9) (RC := RX9) (T := TX9) (N := 14) 10 C rfl klX9 (Nat.le_of_ble_eq_true rfl) kX9_74 rfl dX9_truncateText_24 ex10 ?_
      refine j_iload_n C dX9_truncateText_27 rfl rfl ?_
      replace e := ob e
      obtain ⟨h11, eh11, e⟩ := e
      refine j_put (ci := 7) (RC := RX7) (T := TX7) (N := 6) (ty0 := tyX7) 1 C rfl klX7 tyX7_ok nmX7 (Nat.le_of_ble_eq_true rfl) kX9_93 rfl rfl rfl rfl dX9_truncateText_28 eh11 ?_
      refine j_iload_n C dX9_truncateText_31 rfl rfl ?_
      cases e
      exact j_iretX C hq rfl dX9_truncateText_32 ⟨Nat.le_of_ble_eq_true rfl, Nat.le_of_ble_eq_true rfl⟩ ⟨_, _, rfl, rfl, rfl⟩
    · replace e := ifn c12 e
      refine jx_sub (lv' := []) [] rfl ?_
      exact b15 h e
/-! BorderBasis.result(I)I -/
noncomputable def BX9_result_10  (h : jx_H) : Option ((Int32 × jx_H) ⊕ (String × jx_H)) :=
some (.inr ("java/lang/IndexOutOfBoundsException", h))
noncomputable def FX9_result (l0 : Nat) (l1 : Int32) (h : jx_H) : Option ((Int32 × jx_H) ⊕ (String × jx_H)) :=
if l1 < 0 then
 BX9_result_10  h
else
 if l1 < (12 : Int32) then
  (hgr h l0 9 12).bind fun x1 =>
  (hal h .int x1 l1).bind fun x2 =>
  some (.inl (x2, h))
 else
  BX9_result_10  h
def rmX9_result : Room := { frames := 6, cells := 1, slots := 6, locals := 89 }
set_option maxRecDepth 20000 in
set_option maxHeartbeats 4000000 in
theorem sX9_result {l0 : Nat} {l1 : Int32} {h : jx_H} {r : (Int32 × jx_H) ⊕ (String × jx_H)}  (e : FX9_result l0 l1 h = some r) : jx_Cx yX9_result cX9_result 2 (some .int) rmX9_result [.ref l0, .int l1] h (fun r' h' => ∃ (v : Int32) (h9 : jx_H), r = .inl (v, h9) ∧ some (.int v) = r' ∧ h9 = h') (fun E h' => ∃ (h9 : jx_H) (sz : Nat), r = .inr (E, h9) ∧ h9.1 ≤ sz ∧ h' = (sz, h9.2)) := by
  refine jx_Cx.of (own := RX9) (by decide) rfl (Nat.le_of_ble_eq_true rfl) (fun X C hq hr hL hN => ?_)
  refine jx_sub (lv' := [(0, .ref l0), (1, .int l1)]) [0, 1] rfl ?_
  have b10 : ∀ (h5 : jx_H), BX9_result_10 h5 = some r → jx_J X 0 0 10 [] [] h5 := by
    intro h5 e
    unfold BX9_result_10 at e
    cases e
    exact j_throw0 (names := jx_names) (ik := 152) (ic := 154) C hr hq jx_fits.2.2.2 jx_fits.1 kX9_152 kini_IndexOutOfBoundsException jx_thIOB ⟨rfl, rfl⟩ dX9_result_10 dX9_result_13 dX9_result_14 dX9_result_17 (Nat.le_of_ble_eq_true rfl) (Nat.le_of_ble_eq_true rfl) ⟨Nat.le_of_ble_eq_true rfl, Nat.le_of_ble_eq_true rfl, Nat.le_of_ble_eq_true rfl, Nat.le_of_ble_eq_true rfl⟩ (fun sz hsz => ⟨_, sz, rfl, hsz, rfl⟩)
  unfold FX9_result at e
  refine j_iload_n C dX9_result_0 rfl rfl ?_
  refine j_if_lt (tgt := 10) C dX9_result_1 (by decide) (fun c9 => ?_) (fun c9 => ?_)
  · replace e := ifp c9 e
    refine jx_sub (lv' := []) [] rfl ?_
    exact b10 h e
  · replace e := ifn c9 e
    refine j_iload_n C dX9_result_4 rfl rfl ?_
    refine j_bipush (v := (12 : Int32)) C dX9_result_5 (by decide) ?_
    refine j_icmp_lt (tgt := 18) C dX9_result_7 (by decide) (fun c8 => ?_) (fun c8 => ?_)
    · replace e := ifp c8 e
      refine j_aload_n C dX9_result_18 rfl rfl ?_
      replace e := ob e
      obtain ⟨x6, ex6, e⟩ := e
      refine j_getr (ci := 9) (RC := RX9) (T := TX9) (N := 14) 12 C rfl klX9 (Nat.le_of_ble_eq_true rfl) kX9_87 rfl dX9_result_19 ex6 ?_
      refine j_iload_n C dX9_result_22 rfl rfl ?_
      replace e := ob e
      obtain ⟨x7, ex7, e⟩ := e
      refine j_iald C dX9_result_23 ex7 ?_
      cases e
      exact j_iretX C hq rfl dX9_result_24 ⟨Nat.le_of_ble_eq_true rfl, Nat.le_of_ble_eq_true rfl⟩ ⟨_, _, rfl, rfl, rfl⟩
    · replace e := ifn c8 e
      refine jx_sub (lv' := []) [] rfl ?_
      exact b10 h e
/-! BorderBasis.count(I)I -/
noncomputable def FX9_count (l0 : Nat) (l1 : Int32) (h : jx_H) : Option ((Int32 × jx_H) ⊕ (String × jx_H)) :=
if l1 = 0 then
 (hgr h l0 9 0).bind fun x2 =>
 (hgi h x2 5 0).bind fun x3 =>
 some (.inl (x3, h))
else
if l1 = 1 then
 (hgr h l0 9 0).bind fun x5 =>
 (hgi h x5 5 2).bind fun x6 =>
 some (.inl (x6, h))
else
if l1 = 2 then
 (hgr h l0 9 0).bind fun x8 =>
 (hgi h x8 5 5).bind fun x9 =>
 some (.inl (x9, h))
else
if l1 = 3 then
 (hgr h l0 9 0).bind fun x11 =>
 (isO h x11 5).bind fun _ =>
 (FX5_coefficientsNotZero x11 h).bind fun x13 =>
 some (.inl (x13, h))
else
if l1 = 4 then
 (hgr h l0 9 0).bind fun x15 =>
 (hgi h x15 5 9).bind fun x16 =>
 some (.inl (x16, h))
else
if l1 = 5 then
 (hgr h l0 9 4).bind fun x18 =>
 (hgi h x18 1 2).bind fun x19 =>
 some (.inl (x19, h))
else
if l1 = 6 then
 (hgr h l0 9 0).bind fun x21 =>
 (isO h x21 5).bind fun _ =>
 (FX5_candidates x21 h).bind fun x23 =>
 some (.inl (x23, h))
else
if l1 = 7 then
 (hgr h l0 9 0).bind fun x25 =>
 (isO h x25 5).bind fun _ =>
 (FX5_corners x25 h).bind fun x27 =>
 some (.inl (x27, h))
else
some (.inr ("java/lang/IllegalArgumentException", h))
def rmX9_count : Room := { frames := 6, cells := 1, slots := 6, locals := 89 }
set_option maxRecDepth 20000 in
set_option maxHeartbeats 4000000 in
theorem sX9_count {l0 : Nat} {l1 : Int32} {h : jx_H} {r : (Int32 × jx_H) ⊕ (String × jx_H)}  (e : FX9_count l0 l1 h = some r) : jx_Cx yX9_count cX9_count 2 (some .int) rmX9_count [.ref l0, .int l1] h (fun r' h' => ∃ (v : Int32) (h9 : jx_H), r = .inl (v, h9) ∧ some (.int v) = r' ∧ h9 = h') (fun E h' => ∃ (h9 : jx_H) (sz : Nat), r = .inr (E, h9) ∧ h9.1 ≤ sz ∧ h' = (sz, h9.2)) := by
  refine jx_Cx.of (own := RX9) (by decide) rfl (Nat.le_of_ble_eq_true rfl) (fun X C hq hr hL hN => ?_)
  refine jx_sub (lv' := [(0, .ref l0), (1, .int l1)]) [0, 1] rfl ?_
  unfold FX9_count at e
  refine j_iload_n C dX9_count_0 rfl rfl ?_
  by_cases c28 : l1 = 0
  · replace e := ifp c28 e
    refine j_tsw (tgt := 48) C (0 : Int32) dX9_count_1 c28 (by decide) (by decide) rfl (by decide) ?_
    refine j_aload_n C dX9_count_48 rfl rfl ?_
    replace e := ob e
    obtain ⟨x29, ex29, e⟩ := e
    refine j_getr (ci := 9) (RC := RX9) (T := TX9) (N := 14) 0 C rfl klX9 (Nat.le_of_ble_eq_true rfl) kX9_12 rfl dX9_count_49 ex29 ?_
    replace e := ob e
    obtain ⟨x30, ex30, e⟩ := e
    refine j_geti (ci := 5) (RC := RX5) (T := TX5) (N := 12) 0 C rfl klX5 (Nat.le_of_ble_eq_true rfl) kX9_132 rfl dX9_count_52 ex30 ?_
    cases e
    exact j_iretX C hq rfl dX9_count_55 ⟨Nat.le_of_ble_eq_true rfl, Nat.le_of_ble_eq_true rfl⟩ ⟨_, _, rfl, rfl, rfl⟩
  replace e := ifn c28 e
  by_cases c31 : l1 = 1
  · replace e := ifp c31 e
    refine j_tsw (tgt := 56) C (1 : Int32) dX9_count_1 c31 (by decide) (by decide) rfl (by decide) ?_
    refine j_aload_n C dX9_count_56 rfl rfl ?_
    replace e := ob e
    obtain ⟨x32, ex32, e⟩ := e
    refine j_getr (ci := 9) (RC := RX9) (T := TX9) (N := 14) 0 C rfl klX9 (Nat.le_of_ble_eq_true rfl) kX9_12 rfl dX9_count_57 ex32 ?_
    replace e := ob e
    obtain ⟨x33, ex33, e⟩ := e
    refine j_geti (ci := 5) (RC := RX5) (T := TX5) (N := 12) 2 C rfl klX5 (Nat.le_of_ble_eq_true rfl) kX9_129 rfl dX9_count_60 ex33 ?_
    cases e
    exact j_iretX C hq rfl dX9_count_63 ⟨Nat.le_of_ble_eq_true rfl, Nat.le_of_ble_eq_true rfl⟩ ⟨_, _, rfl, rfl, rfl⟩
  replace e := ifn c31 e
  by_cases c34 : l1 = 2
  · replace e := ifp c34 e
    refine j_tsw (tgt := 64) C (2 : Int32) dX9_count_1 c34 (by decide) (by decide) rfl (by decide) ?_
    refine j_aload_n C dX9_count_64 rfl rfl ?_
    replace e := ob e
    obtain ⟨x35, ex35, e⟩ := e
    refine j_getr (ci := 9) (RC := RX9) (T := TX9) (N := 14) 0 C rfl klX9 (Nat.le_of_ble_eq_true rfl) kX9_12 rfl dX9_count_65 ex35 ?_
    replace e := ob e
    obtain ⟨x36, ex36, e⟩ := e
    refine j_geti (ci := 5) (RC := RX5) (T := TX5) (N := 12) 5 C rfl klX5 (Nat.le_of_ble_eq_true rfl) kX9_155 rfl dX9_count_68 ex36 ?_
    cases e
    exact j_iretX C hq rfl dX9_count_71 ⟨Nat.le_of_ble_eq_true rfl, Nat.le_of_ble_eq_true rfl⟩ ⟨_, _, rfl, rfl, rfl⟩
  replace e := ifn c34 e
  by_cases c37 : l1 = 3
  · replace e := ifp c37 e
    refine j_tsw (tgt := 72) C (3 : Int32) dX9_count_1 c37 (by decide) (by decide) rfl (by decide) ?_
    refine j_aload_n C dX9_count_72 rfl rfl ?_
    replace e := ob e
    obtain ⟨x38, ex38, e⟩ := e
    refine j_getr (ci := 9) (RC := RX9) (T := TX9) (N := 14) 0 C rfl klX9 (Nat.le_of_ble_eq_true rfl) kX9_12 rfl dX9_count_73 ex38 ?_
    replace e := ob e
    obtain ⟨_, eo39, e⟩ := e
    replace e := ob e
    obtain ⟨x40, ex40, e⟩ := e
    refine j_callV (ci := 5) (RC := RX5) (T := TX5) (N := 12) (As := []) (b := x38) (na := 0) (st := []) (k1 := 0) (n1 := 0) C hr (sX5_coefficientsNotZero ex40) rfl eo39 kX9_158 kim_X5_coefficientsNotZero ksel_X5_coefficientsNotZero kini_X5 kc_X5_coefficientsNotZero (by decide) rfl ⟨(Nat.le_of_ble_eq_true rfl), (Nat.le_of_ble_eq_true rfl)⟩ (Nat.le_of_ble_eq_true rfl) ⟨rfl, rfl, (Nat.le_of_ble_eq_true rfl), (Nat.le_of_ble_eq_true rfl)⟩ dX9_count_76 ?_
    rintro _ _ ⟨rfl, rfl⟩
    show jx_J X 0 0 79 [(0, .ref l0), (1, .int l1)] [.int x40] h
    cases e
    exact j_iretX C hq rfl dX9_count_79 ⟨Nat.le_of_ble_eq_true rfl, Nat.le_of_ble_eq_true rfl⟩ ⟨_, _, rfl, rfl, rfl⟩
  replace e := ifn c37 e
  by_cases c41 : l1 = 4
  · replace e := ifp c41 e
    refine j_tsw (tgt := 80) C (4 : Int32) dX9_count_1 c41 (by decide) (by decide) rfl (by decide) ?_
    refine j_aload_n C dX9_count_80 rfl rfl ?_
    replace e := ob e
    obtain ⟨x42, ex42, e⟩ := e
    refine j_getr (ci := 9) (RC := RX9) (T := TX9) (N := 14) 0 C rfl klX9 (Nat.le_of_ble_eq_true rfl) kX9_12 rfl dX9_count_81 ex42 ?_
    replace e := ob e
    obtain ⟨x43, ex43, e⟩ := e
    refine j_geti (ci := 5) (RC := RX5) (T := TX5) (N := 12) 9 C rfl klX5 (Nat.le_of_ble_eq_true rfl) kX9_162 rfl dX9_count_84 ex43 ?_
    cases e
    exact j_iretX C hq rfl dX9_count_87 ⟨Nat.le_of_ble_eq_true rfl, Nat.le_of_ble_eq_true rfl⟩ ⟨_, _, rfl, rfl, rfl⟩
  replace e := ifn c41 e
  by_cases c44 : l1 = 5
  · replace e := ifp c44 e
    refine j_tsw (tgt := 88) C (5 : Int32) dX9_count_1 c44 (by decide) (by decide) rfl (by decide) ?_
    refine j_aload_n C dX9_count_88 rfl rfl ?_
    replace e := ob e
    obtain ⟨x45, ex45, e⟩ := e
    refine j_getr (ci := 9) (RC := RX9) (T := TX9) (N := 14) 4 C rfl klX9 (Nat.le_of_ble_eq_true rfl) kX9_29 rfl dX9_count_89 ex45 ?_
    replace e := ob e
    obtain ⟨x46, ex46, e⟩ := e
    refine j_geti (ci := 1) (RC := RX1) (T := TX1) (N := 3) 2 C rfl klX1 (Nat.le_of_ble_eq_true rfl) kX9_117 rfl dX9_count_92 ex46 ?_
    cases e
    exact j_iretX C hq rfl dX9_count_95 ⟨Nat.le_of_ble_eq_true rfl, Nat.le_of_ble_eq_true rfl⟩ ⟨_, _, rfl, rfl, rfl⟩
  replace e := ifn c44 e
  by_cases c47 : l1 = 6
  · replace e := ifp c47 e
    refine j_tsw (tgt := 96) C (6 : Int32) dX9_count_1 c47 (by decide) (by decide) rfl (by decide) ?_
    refine j_aload_n C dX9_count_96 rfl rfl ?_
    replace e := ob e
    obtain ⟨x48, ex48, e⟩ := e
    refine j_getr (ci := 9) (RC := RX9) (T := TX9) (N := 14) 0 C rfl klX9 (Nat.le_of_ble_eq_true rfl) kX9_12 rfl dX9_count_97 ex48 ?_
    replace e := ob e
    obtain ⟨_, eo49, e⟩ := e
    replace e := ob e
    obtain ⟨x50, ex50, e⟩ := e
    refine j_callV (ci := 5) (RC := RX5) (T := TX5) (N := 12) (As := []) (b := x48) (na := 0) (st := []) (k1 := 0) (n1 := 0) C hr (sX5_candidates ex50) rfl eo49 kX9_165 kim_X5_candidates ksel_X5_candidates kini_X5 kc_X5_candidates (by decide) rfl ⟨(Nat.le_of_ble_eq_true rfl), (Nat.le_of_ble_eq_true rfl)⟩ (Nat.le_of_ble_eq_true rfl) ⟨rfl, rfl, (Nat.le_of_ble_eq_true rfl), (Nat.le_of_ble_eq_true rfl)⟩ dX9_count_100 ?_
    rintro _ _ ⟨rfl, rfl⟩
    show jx_J X 0 0 103 [(0, .ref l0), (1, .int l1)] [.int x50] h
    cases e
    exact j_iretX C hq rfl dX9_count_103 ⟨Nat.le_of_ble_eq_true rfl, Nat.le_of_ble_eq_true rfl⟩ ⟨_, _, rfl, rfl, rfl⟩
  replace e := ifn c47 e
  by_cases c51 : l1 = 7
  · replace e := ifp c51 e
    refine j_tsw (tgt := 104) C (7 : Int32) dX9_count_1 c51 (by decide) (by decide) rfl (by decide) ?_
    refine j_aload_n C dX9_count_104 rfl rfl ?_
    replace e := ob e
    obtain ⟨x52, ex52, e⟩ := e
    refine j_getr (ci := 9) (RC := RX9) (T := TX9) (N := 14) 0 C rfl klX9 (Nat.le_of_ble_eq_true rfl) kX9_12 rfl dX9_count_105 ex52 ?_
    replace e := ob e
    obtain ⟨_, eo53, e⟩ := e
    replace e := ob e
    obtain ⟨x54, ex54, e⟩ := e
    refine j_callV (ci := 5) (RC := RX5) (T := TX5) (N := 12) (As := []) (b := x52) (na := 0) (st := []) (k1 := 0) (n1 := 0) C hr (sX5_corners ex54) rfl eo53 kX9_168 kim_X5_corners ksel_X5_corners kini_X5 kc_X5_corners (by decide) rfl ⟨(Nat.le_of_ble_eq_true rfl), (Nat.le_of_ble_eq_true rfl)⟩ (Nat.le_of_ble_eq_true rfl) ⟨rfl, rfl, (Nat.le_of_ble_eq_true rfl), (Nat.le_of_ble_eq_true rfl)⟩ dX9_count_108 ?_
    rintro _ _ ⟨rfl, rfl⟩
    show jx_J X 0 0 111 [(0, .ref l0), (1, .int l1)] [.int x54] h
    cases e
    exact j_iretX C hq rfl dX9_count_111 ⟨Nat.le_of_ble_eq_true rfl, Nat.le_of_ble_eq_true rfl⟩ ⟨_, _, rfl, rfl, rfl⟩
  replace e := ifn c51 e
  refine j_tswOut (tgt := 112) C dX9_count_1 (by have gc28 := jx_sw (j := 0) (by decide) c28; have gc31 := jx_sw (j := 1) (by decide) c31; have gc34 := jx_sw (j := 2) (by decide) c34; have gc37 := jx_sw (j := 3) (by decide) c37; have gc41 := jx_sw (j := 4) (by decide) c41; have gc44 := jx_sw (j := 5) (by decide) c44; have gc47 := jx_sw (j := 6) (by decide) c47; have gc51 := jx_sw (j := 7) (by decide) c51; omega) (by decide) ?_
  cases e
  exact j_throw0 (names := jx_names) (ik := 104) (ic := 106) C hr hq jx_fits.2.2.1 jx_fits.1 kX9_104 kini_IllegalArgumentException jx_thIAE ⟨rfl, rfl⟩ dX9_count_112 dX9_count_115 dX9_count_116 dX9_count_119 (Nat.le_of_ble_eq_true rfl) (Nat.le_of_ble_eq_true rfl) ⟨Nat.le_of_ble_eq_true rfl, Nat.le_of_ble_eq_true rfl, Nat.le_of_ble_eq_true rfl, Nat.le_of_ble_eq_true rfl⟩ (fun sz hsz => ⟨_, sz, rfl, hsz, rfl⟩)
/-! BorderBasis.changes(I)I -/
noncomputable def BX9_changes_10  (h : jx_H) : Option ((Int32 × jx_H) ⊕ (String × jx_H)) :=
some (.inr ("java/lang/IllegalArgumentException", h))
noncomputable def FX9_changes (l0 : Nat) (l1 : Int32) (h : jx_H) : Option ((Int32 × jx_H) ⊕ (String × jx_H)) :=
if l1 < 0 then
 BX9_changes_10  h
else
 if l1 < (6 : Int32) then
  (hgr h l0 9 5).bind fun x1 =>
  (hal h .int x1 l1).bind fun x2 =>
  some (.inl (x2, h))
 else
  BX9_changes_10  h
def rmX9_changes : Room := { frames := 6, cells := 1, slots := 6, locals := 89 }
set_option maxRecDepth 20000 in
set_option maxHeartbeats 4000000 in
theorem sX9_changes {l0 : Nat} {l1 : Int32} {h : jx_H} {r : (Int32 × jx_H) ⊕ (String × jx_H)}  (e : FX9_changes l0 l1 h = some r) : jx_Cx yX9_changes cX9_changes 2 (some .int) rmX9_changes [.ref l0, .int l1] h (fun r' h' => ∃ (v : Int32) (h9 : jx_H), r = .inl (v, h9) ∧ some (.int v) = r' ∧ h9 = h') (fun E h' => ∃ (h9 : jx_H) (sz : Nat), r = .inr (E, h9) ∧ h9.1 ≤ sz ∧ h' = (sz, h9.2)) := by
  refine jx_Cx.of (own := RX9) (by decide) rfl (Nat.le_of_ble_eq_true rfl) (fun X C hq hr hL hN => ?_)
  refine jx_sub (lv' := [(0, .ref l0), (1, .int l1)]) [0, 1] rfl ?_
  have b10 : ∀ (h5 : jx_H), BX9_changes_10 h5 = some r → jx_J X 0 0 10 [] [] h5 := by
    intro h5 e
    unfold BX9_changes_10 at e
    cases e
    exact j_throw0 (names := jx_names) (ik := 104) (ic := 106) C hr hq jx_fits.2.2.1 jx_fits.1 kX9_104 kini_IllegalArgumentException jx_thIAE ⟨rfl, rfl⟩ dX9_changes_10 dX9_changes_13 dX9_changes_14 dX9_changes_17 (Nat.le_of_ble_eq_true rfl) (Nat.le_of_ble_eq_true rfl) ⟨Nat.le_of_ble_eq_true rfl, Nat.le_of_ble_eq_true rfl, Nat.le_of_ble_eq_true rfl, Nat.le_of_ble_eq_true rfl⟩ (fun sz hsz => ⟨_, sz, rfl, hsz, rfl⟩)
  unfold FX9_changes at e
  refine j_iload_n C dX9_changes_0 rfl rfl ?_
  refine j_if_lt (tgt := 10) C dX9_changes_1 (by decide) (fun c9 => ?_) (fun c9 => ?_)
  · replace e := ifp c9 e
    refine jx_sub (lv' := []) [] rfl ?_
    exact b10 h e
  · replace e := ifn c9 e
    refine j_iload_n C dX9_changes_4 rfl rfl ?_
    refine j_bipush (v := (6 : Int32)) C dX9_changes_5 (by decide) ?_
    refine j_icmp_lt (tgt := 18) C dX9_changes_7 (by decide) (fun c8 => ?_) (fun c8 => ?_)
    · replace e := ifp c8 e
      refine j_aload_n C dX9_changes_18 rfl rfl ?_
      replace e := ob e
      obtain ⟨x6, ex6, e⟩ := e
      refine j_getr (ci := 9) (RC := RX9) (T := TX9) (N := 14) 5 C rfl klX9 (Nat.le_of_ble_eq_true rfl) kX9_33 rfl dX9_changes_19 ex6 ?_
      refine j_iload_n C dX9_changes_22 rfl rfl ?_
      replace e := ob e
      obtain ⟨x7, ex7, e⟩ := e
      refine j_iald C dX9_changes_23 ex7 ?_
      cases e
      exact j_iretX C hq rfl dX9_changes_24 ⟨Nat.le_of_ble_eq_true rfl, Nat.le_of_ble_eq_true rfl⟩ ⟨_, _, rfl, rfl, rfl⟩
    · replace e := ifn c8 e
      refine jx_sub (lv' := []) [] rfl ?_
      exact b10 h e
/-! BorderBasis.refusal(II)I -/
noncomputable def BX9_refusal_18  (h : jx_H) : Option ((Int32 × jx_H) ⊕ (String × jx_H)) :=
some (.inr ("java/lang/IllegalArgumentException", h))
noncomputable def FX9_refusal (l0 : Nat) (l1 : Int32) (l2 : Int32) (h : jx_H) : Option ((Int32 × jx_H) ⊕ (String × jx_H)) :=
(FX9_isOutside l1 (11 : Int32) h).bind fun x1 =>
if x1 = 0 then
 (FX9_isOutside l2 (11 : Int32) h).bind fun x2 =>
 if x2 = 0 then
  (hgr h l0 9 0).bind fun x3 =>
  (isO h x3 5).bind fun _ =>
  (FX5_obstacle x3 l1 l2 h).bind fun x5 =>
  some (.inl (x5, h))
 else
  BX9_refusal_18  h
else
 BX9_refusal_18  h
def rmX9_refusal : Room := { frames := 6, cells := 1, slots := 6, locals := 89 }
set_option maxRecDepth 20000 in
set_option maxHeartbeats 4000000 in
theorem sX9_refusal {l0 : Nat} {l1 : Int32} {l2 : Int32} {h : jx_H} {r : (Int32 × jx_H) ⊕ (String × jx_H)}  (e : FX9_refusal l0 l1 l2 h = some r) : jx_Cx yX9_refusal cX9_refusal 3 (some .int) rmX9_refusal [.ref l0, .int l1, .int l2] h (fun r' h' => ∃ (v : Int32) (h9 : jx_H), r = .inl (v, h9) ∧ some (.int v) = r' ∧ h9 = h') (fun E h' => ∃ (h9 : jx_H) (sz : Nat), r = .inr (E, h9) ∧ h9.1 ≤ sz ∧ h' = (sz, h9.2)) := by
  refine jx_Cx.of (own := RX9) (by decide) rfl (Nat.le_of_ble_eq_true rfl) (fun X C hq hr hL hN => ?_)
  refine jx_sub (lv' := [(0, .ref l0), (1, .int l1), (2, .int l2)]) [0, 1, 2] rfl ?_
  have b18 : ∀ (h8 : jx_H), BX9_refusal_18 h8 = some r → jx_J X 0 0 18 [] [] h8 := by
    intro h8 e
    unfold BX9_refusal_18 at e
    cases e
    exact j_throw0 (names := jx_names) (ik := 104) (ic := 106) C hr hq jx_fits.2.2.1 jx_fits.1 kX9_104 kini_IllegalArgumentException jx_thIAE ⟨rfl, rfl⟩ dX9_refusal_18 dX9_refusal_21 dX9_refusal_22 dX9_refusal_25 (Nat.le_of_ble_eq_true rfl) (Nat.le_of_ble_eq_true rfl) ⟨Nat.le_of_ble_eq_true rfl, Nat.le_of_ble_eq_true rfl, Nat.le_of_ble_eq_true rfl, Nat.le_of_ble_eq_true rfl⟩ (fun sz hsz => ⟨_, sz, rfl, hsz, rfl⟩)
  unfold FX9_refusal at e
  refine j_iload_n C dX9_refusal_0 rfl rfl ?_
  refine j_bipush (v := (11 : Int32)) C dX9_refusal_1 (by decide) ?_
  replace e := ob e
  obtain ⟨x9, ex9, e⟩ := e
  refine j_callS (As := [.int l1, .int (11 : Int32)]) (na := 2) (st := []) (k1 := 0) (n1 := 0) C hr (sX9_isOutside ex9) kX9_171 kst_X9_isOutside kini_X9 kc_X9_isOutside (by decide) rfl ⟨(Nat.le_of_ble_eq_true rfl), (Nat.le_of_ble_eq_true rfl)⟩ (Nat.le_of_ble_eq_true rfl) ⟨rfl, rfl, (Nat.le_of_ble_eq_true rfl), (Nat.le_of_ble_eq_true rfl)⟩ dX9_refusal_3 ?_
  rintro _ _ ⟨rfl, rfl⟩
  show jx_J X 0 0 6 [(0, .ref l0), (1, .int l1), (2, .int l2)] [.int x9] h
  refine j_if_ne (tgt := 18) C dX9_refusal_6 (by decide) (fun c15 => ?_) (fun c15 => ?_)
  · replace e := ifn c15 e
    refine jx_sub (lv' := []) [] rfl ?_
    exact b18 h e
  · replace e := ifp c15 e
    refine j_iload_n C dX9_refusal_9 rfl rfl ?_
    refine j_bipush (v := (11 : Int32)) C dX9_refusal_10 (by decide) ?_
    replace e := ob e
    obtain ⟨x10, ex10, e⟩ := e
    refine j_callS (As := [.int l2, .int (11 : Int32)]) (na := 2) (st := []) (k1 := 0) (n1 := 0) C hr (sX9_isOutside ex10) kX9_171 kst_X9_isOutside kini_X9 kc_X9_isOutside (by decide) rfl ⟨(Nat.le_of_ble_eq_true rfl), (Nat.le_of_ble_eq_true rfl)⟩ (Nat.le_of_ble_eq_true rfl) ⟨rfl, rfl, (Nat.le_of_ble_eq_true rfl), (Nat.le_of_ble_eq_true rfl)⟩ dX9_refusal_12 ?_
    rintro _ _ ⟨rfl, rfl⟩
    show jx_J X 0 0 15 [(0, .ref l0), (1, .int l1), (2, .int l2)] [.int x10] h
    refine j_if_eq (tgt := 26) C dX9_refusal_15 (by decide) (fun c14 => ?_) (fun c14 => ?_)
    · replace e := ifp c14 e
      refine j_aload_n C dX9_refusal_26 rfl rfl ?_
      replace e := ob e
      obtain ⟨x11, ex11, e⟩ := e
      refine j_getr (ci := 9) (RC := RX9) (T := TX9) (N := 14) 0 C rfl klX9 (Nat.le_of_ble_eq_true rfl) kX9_12 rfl dX9_refusal_27 ex11 ?_
      refine j_iload_n C dX9_refusal_30 rfl rfl ?_
      refine j_iload_n C dX9_refusal_31 rfl rfl ?_
      replace e := ob e
      obtain ⟨_, eo12, e⟩ := e
      replace e := ob e
      obtain ⟨x13, ex13, e⟩ := e
      refine j_callV (ci := 5) (RC := RX5) (T := TX5) (N := 12) (As := [.int l1, .int l2]) (b := x11) (na := 2) (st := []) (k1 := 0) (n1 := 0) C hr (sX5_obstacle ex13) rfl eo12 kX9_175 kim_X5_obstacle ksel_X5_obstacle kini_X5 kc_X5_obstacle (by decide) rfl ⟨(Nat.le_of_ble_eq_true rfl), (Nat.le_of_ble_eq_true rfl)⟩ (Nat.le_of_ble_eq_true rfl) ⟨rfl, rfl, (Nat.le_of_ble_eq_true rfl), (Nat.le_of_ble_eq_true rfl)⟩ dX9_refusal_32 ?_
      rintro _ _ ⟨rfl, rfl⟩
      show jx_J X 0 0 35 [(0, .ref l0), (1, .int l1), (2, .int l2)] [.int x13] h
      cases e
      exact j_iretX C hq rfl dX9_refusal_35 ⟨Nat.le_of_ble_eq_true rfl, Nat.le_of_ble_eq_true rfl⟩ ⟨_, _, rfl, rfl, rfl⟩
    · replace e := ifn c14 e
      refine jx_sub (lv' := []) [] rfl ?_
      exact b18 h e
/-! BorderBasis.join(II)I -/
noncomputable def BX9_join_18  (h : jx_H) : Option ((Int32 × jx_H) ⊕ (String × jx_H)) :=
some (.inr ("java/lang/IllegalArgumentException", h))
noncomputable def FX9_join (l0 : Nat) (l1 : Int32) (l2 : Int32) (h : jx_H) : Option ((Int32 × jx_H) ⊕ (String × jx_H)) :=
(FX9_isOutside l1 (11 : Int32) h).bind fun x1 =>
if x1 = 0 then
 (FX9_isOutside l2 (11 : Int32) h).bind fun x2 =>
 if x2 = 0 then
  (hgr h l0 9 0).bind fun x3 =>
  (isO h x3 5).bind fun _ =>
  (FX5_obstacle x3 l1 l2 h).bind fun x5 =>
  if x5 = 0 then
   (isO h l0 9).bind fun _ =>
   (FX9_beginChange l0 (0 : Int32) h).bind fun h7 =>
   (hgr h7 l0 9 0).bind fun x8 =>
   (hgr h7 l0 9 1).bind fun x9 =>
   (isO h7 x8 5).bind fun _ =>
   (FX5_changeHeight x8 l1 (1 : Int32) x9 h7).bind fun h11 =>
   (hgr h11 l0 9 0).bind fun x12 =>
   (isO h11 x12 5).bind fun _ =>
   (FX5_numberOf x12 l1 l2 h11).bind fun x14 =>
   some (.inl (x14, h11))
  else
   some (.inr ("java/lang/IllegalStateException", h))
 else
  BX9_join_18  h
else
 BX9_join_18  h
def rmX9_join : Room := { frames := 7, cells := 9, slots := 255, locals := 148 }
set_option maxRecDepth 20000 in
set_option maxHeartbeats 4000000 in
theorem sX9_join {l0 : Nat} {l1 : Int32} {l2 : Int32} {h : jx_H} {r : (Int32 × jx_H) ⊕ (String × jx_H)}  (e : FX9_join l0 l1 l2 h = some r) : jx_Cx yX9_join cX9_join 3 (some .int) rmX9_join [.ref l0, .int l1, .int l2] h (fun r' h' => ∃ (v : Int32) (h9 : jx_H), r = .inl (v, h9) ∧ some (.int v) = r' ∧ h9 = h') (fun E h' => ∃ (h9 : jx_H) (sz : Nat), r = .inr (E, h9) ∧ h9.1 ≤ sz ∧ h' = (sz, h9.2)) := by
  refine jx_Cx.of (own := RX9) (by decide) rfl (Nat.le_of_ble_eq_true rfl) (fun X C hq hr hL hN => ?_)
  refine jx_sub (lv' := [(0, .ref l0), (1, .int l1), (2, .int l2)]) [0, 1, 2] rfl ?_
  have b18 : ∀ (h18 : jx_H), BX9_join_18 h18 = some r → jx_J X 0 0 18 [] [] h18 := by
    intro h18 e
    unfold BX9_join_18 at e
    cases e
    exact j_throw0 (names := jx_names) (ik := 104) (ic := 106) C hr hq jx_fits.2.2.1 jx_fits.1 kX9_104 kini_IllegalArgumentException jx_thIAE ⟨rfl, rfl⟩ dX9_join_18 dX9_join_21 dX9_join_22 dX9_join_25 (Nat.le_of_ble_eq_true rfl) (Nat.le_of_ble_eq_true rfl) ⟨Nat.le_of_ble_eq_true rfl, Nat.le_of_ble_eq_true rfl, Nat.le_of_ble_eq_true rfl, Nat.le_of_ble_eq_true rfl⟩ (fun sz hsz => ⟨_, sz, rfl, hsz, rfl⟩)
  unfold FX9_join at e
  refine j_iload_n C dX9_join_0 rfl rfl ?_
  refine j_bipush (v := (11 : Int32)) C dX9_join_1 (by decide) ?_
  replace e := ob e
  obtain ⟨x19, ex19, e⟩ := e
  refine j_callS (As := [.int l1, .int (11 : Int32)]) (na := 2) (st := []) (k1 := 0) (n1 := 0) C hr (sX9_isOutside ex19) kX9_171 kst_X9_isOutside kini_X9 kc_X9_isOutside (by decide) rfl ⟨(Nat.le_of_ble_eq_true rfl), (Nat.le_of_ble_eq_true rfl)⟩ (Nat.le_of_ble_eq_true rfl) ⟨rfl, rfl, (Nat.le_of_ble_eq_true rfl), (Nat.le_of_ble_eq_true rfl)⟩ dX9_join_3 ?_
  rintro _ _ ⟨rfl, rfl⟩
  show jx_J X 0 0 6 [(0, .ref l0), (1, .int l1), (2, .int l2)] [.int x19] h
  refine j_if_ne (tgt := 18) C dX9_join_6 (by decide) (fun c35 => ?_) (fun c35 => ?_)
  · replace e := ifn c35 e
    refine jx_sub (lv' := []) [] rfl ?_
    exact b18 h e
  · replace e := ifp c35 e
    refine j_iload_n C dX9_join_9 rfl rfl ?_
    refine j_bipush (v := (11 : Int32)) C dX9_join_10 (by decide) ?_
    replace e := ob e
    obtain ⟨x20, ex20, e⟩ := e
    refine j_callS (As := [.int l2, .int (11 : Int32)]) (na := 2) (st := []) (k1 := 0) (n1 := 0) C hr (sX9_isOutside ex20) kX9_171 kst_X9_isOutside kini_X9 kc_X9_isOutside (by decide) rfl ⟨(Nat.le_of_ble_eq_true rfl), (Nat.le_of_ble_eq_true rfl)⟩ (Nat.le_of_ble_eq_true rfl) ⟨rfl, rfl, (Nat.le_of_ble_eq_true rfl), (Nat.le_of_ble_eq_true rfl)⟩ dX9_join_12 ?_
    rintro _ _ ⟨rfl, rfl⟩
    show jx_J X 0 0 15 [(0, .ref l0), (1, .int l1), (2, .int l2)] [.int x20] h
    refine j_if_eq (tgt := 26) C dX9_join_15 (by decide) (fun c34 => ?_) (fun c34 => ?_)
    · replace e := ifp c34 e
      refine j_aload_n C dX9_join_26 rfl rfl ?_
      replace e := ob e
      obtain ⟨x21, ex21, e⟩ := e
      refine j_getr (ci := 9) (RC := RX9) (T := TX9) (N := 14) 0 C rfl klX9 (Nat.le_of_ble_eq_true rfl) kX9_12 rfl dX9_join_27 ex21 ?_
      refine j_iload_n C dX9_join_30 rfl rfl ?_
      refine j_iload_n C dX9_join_31 rfl rfl ?_
      replace e := ob e
      obtain ⟨_, eo22, e⟩ := e
      replace e := ob e
      obtain ⟨x23, ex23, e⟩ := e
      refine j_callV (ci := 5) (RC := RX5) (T := TX5) (N := 12) (As := [.int l1, .int l2]) (b := x21) (na := 2) (st := []) (k1 := 0) (n1 := 0) C hr (sX5_obstacle ex23) rfl eo22 kX9_175 kim_X5_obstacle ksel_X5_obstacle kini_X5 kc_X5_obstacle (by decide) rfl ⟨(Nat.le_of_ble_eq_true rfl), (Nat.le_of_ble_eq_true rfl)⟩ (Nat.le_of_ble_eq_true rfl) ⟨rfl, rfl, (Nat.le_of_ble_eq_true rfl), (Nat.le_of_ble_eq_true rfl)⟩ dX9_join_32 ?_
      rintro _ _ ⟨rfl, rfl⟩
      show jx_J X 0 0 35 [(0, .ref l0), (1, .int l1), (2, .int l2)] [.int x23] h
      refine j_if_eq (tgt := 46) C dX9_join_35 (by decide) (fun c33 => ?_) (fun c33 => ?_)
      · replace e := ifp c33 e
        refine j_aload_n C dX9_join_46 rfl rfl ?_
        refine j_iconst (v := (0 : Int32)) C dX9_join_47 (by decide) ?_
        replace e := ob e
        obtain ⟨_, eo24, e⟩ := e
        replace e := ob e
        obtain ⟨h25, eh25, e⟩ := e
        refine j_callV (ci := 9) (RC := RX9) (T := TX9) (N := 14) (As := [.int (0 : Int32)]) (b := l0) (na := 1) (st := []) (k1 := 9) (n1 := 255) C hr (sX9_beginChange eh25) rfl eo24 kX9_179 kim_X9_beginChange ksel_X9_beginChange kini_X9 kc_X9_beginChange (by decide) rfl ⟨(Nat.le_of_ble_eq_true rfl), (Nat.le_of_ble_eq_true rfl)⟩ (Nat.le_of_ble_eq_true rfl) ⟨rfl, rfl, (Nat.le_of_ble_eq_true rfl), (Nat.le_of_ble_eq_true rfl)⟩ dX9_join_48 ?_
        rintro _ _ ⟨rfl, rfl⟩
        show jx_J X 9 255 51 [(0, .ref l0), (1, .int l1), (2, .int l2)] [] h25
        refine j_aload_n C dX9_join_51 rfl rfl ?_
        replace e := ob e
        obtain ⟨x26, ex26, e⟩ := e
        refine j_getr (ci := 9) (RC := RX9) (T := TX9) (N := 14) 0 C rfl klX9 (Nat.le_of_ble_eq_true rfl) kX9_12 rfl dX9_join_52 ex26 ?_
        refine j_iload_n C dX9_join_55 rfl rfl ?_
        refine j_iconst (v := (1 : Int32)) C dX9_join_56 (by decide) ?_
        refine j_aload_n C dX9_join_57 rfl rfl ?_
        replace e := ob e
        obtain ⟨x27, ex27, e⟩ := e
        refine j_getr (ci := 9) (RC := RX9) (T := TX9) (N := 14) 1 C rfl klX9 (Nat.le_of_ble_eq_true rfl) kX9_16 rfl dX9_join_58 ex27 ?_
        replace e := ob e
        obtain ⟨_, eo28, e⟩ := e
        replace e := ob e
        obtain ⟨h29, eh29, e⟩ := e
        refine j_callV (ci := 5) (RC := RX5) (T := TX5) (N := 12) (As := [.int l1, .int (1 : Int32), .ref x27]) (b := x26) (na := 3) (st := []) (k1 := 9) (n1 := 255) C hr (sX5_changeHeight eh29) rfl eo28 kX9_183 kim_X5_changeHeight ksel_X5_changeHeight kini_X5 kc_X5_changeHeight (by decide) rfl ⟨(Nat.le_of_ble_eq_true rfl), (Nat.le_of_ble_eq_true rfl)⟩ (Nat.le_of_ble_eq_true rfl) ⟨rfl, rfl, (Nat.le_of_ble_eq_true rfl), (Nat.le_of_ble_eq_true rfl)⟩ dX9_join_61 ?_
        rintro _ _ ⟨rfl, rfl⟩
        show jx_J X 9 255 64 [(0, .ref l0), (1, .int l1), (2, .int l2)] [] h29
        refine j_aload_n C dX9_join_64 rfl rfl ?_
        replace e := ob e
        obtain ⟨x30, ex30, e⟩ := e
        refine j_getr (ci := 9) (RC := RX9) (T := TX9) (N := 14) 0 C rfl klX9 (Nat.le_of_ble_eq_true rfl) kX9_12 rfl dX9_join_65 ex30 ?_
        refine j_iload_n C dX9_join_68 rfl rfl ?_
        refine j_iload_n C dX9_join_69 rfl rfl ?_
        replace e := ob e
        obtain ⟨_, eo31, e⟩ := e
        replace e := ob e
        obtain ⟨x32, ex32, e⟩ := e
        refine j_callV (ci := 5) (RC := RX5) (T := TX5) (N := 12) (As := [.int l1, .int l2]) (b := x30) (na := 2) (st := []) (k1 := 9) (n1 := 255) C hr (sX5_numberOf ex32) rfl eo31 kX9_187 kim_X5_numberOf ksel_X5_numberOf kini_X5 kc_X5_numberOf (by decide) rfl ⟨(Nat.le_of_ble_eq_true rfl), (Nat.le_of_ble_eq_true rfl)⟩ (Nat.le_of_ble_eq_true rfl) ⟨rfl, rfl, (Nat.le_of_ble_eq_true rfl), (Nat.le_of_ble_eq_true rfl)⟩ dX9_join_70 ?_
        rintro _ _ ⟨rfl, rfl⟩
        show jx_J X 9 255 73 [(0, .ref l0), (1, .int l1), (2, .int l2)] [.int x32] h29
        cases e
        exact j_iretX C hq rfl dX9_join_73 ⟨Nat.le_of_ble_eq_true rfl, Nat.le_of_ble_eq_true rfl⟩ ⟨_, _, rfl, rfl, rfl⟩
      · replace e := ifn c33 e
        cases e
        exact j_throw0 (names := jx_names) (ik := 97) (ic := 99) C hr hq jx_fits.2.1 jx_fits.1 kX9_97 kini_IllegalStateException jx_thISE ⟨rfl, rfl⟩ dX9_join_38 dX9_join_41 dX9_join_42 dX9_join_45 (Nat.le_of_ble_eq_true rfl) (Nat.le_of_ble_eq_true rfl) ⟨Nat.le_of_ble_eq_true rfl, Nat.le_of_ble_eq_true rfl, Nat.le_of_ble_eq_true rfl, Nat.le_of_ble_eq_true rfl⟩ (fun sz hsz => ⟨_, sz, rfl, hsz, rfl⟩)
    · replace e := ifn c34 e
      refine jx_sub (lv' := []) [] rfl ?_
      exact b18 h e
/-! BorderBasis.leave(II)I -/
noncomputable def BX9_leave_18  (h : jx_H) : Option ((Int32 × jx_H) ⊕ (String × jx_H)) :=
some (.inr ("java/lang/IllegalArgumentException", h))
noncomputable def FX9_leave (l0 : Nat) (l1 : Int32) (l2 : Int32) (h : jx_H) : Option ((Int32 × jx_H) ⊕ (String × jx_H)) :=
(FX9_isOutside l1 (11 : Int32) h).bind fun x1 =>
if x1 = 0 then
 (FX9_isOutside l2 (11 : Int32) h).bind fun x2 =>
 if x2 = 0 then
  (hgr h l0 9 0).bind fun x3 =>
  (isO h x3 5).bind fun _ =>
  (FX5_isCorner x3 l1 l2 h).bind fun x5 =>
  if x5 = 0 then
   some (.inr ("java/lang/IllegalStateException", h))
  else
   (hgr h l0 9 0).bind fun x6 =>
   (isO h x6 5).bind fun _ =>
   (FX5_numberOf x6 l1 l2 h).bind fun x8 =>
   (isO h l0 9).bind fun _ =>
   (FX9_beginChange l0 (1 : Int32) h).bind fun h10 =>
   (hgr h10 l0 9 0).bind fun x11 =>
   (hgr h10 l0 9 1).bind fun x12 =>
   (isO h10 x11 5).bind fun _ =>
   (FX5_changeHeight x11 l1 (-1 : Int32) x12 h10).bind fun h14 =>
   some (.inl (x8, h14))
 else
  BX9_leave_18  h
else
 BX9_leave_18  h
def rmX9_leave : Room := { frames := 7, cells := 9, slots := 255, locals := 148 }
set_option maxRecDepth 20000 in
set_option maxHeartbeats 4000000 in
theorem sX9_leave {l0 : Nat} {l1 : Int32} {l2 : Int32} {h : jx_H} {r : (Int32 × jx_H) ⊕ (String × jx_H)}  (e : FX9_leave l0 l1 l2 h = some r) : jx_Cx yX9_leave cX9_leave 4 (some .int) rmX9_leave [.ref l0, .int l1, .int l2] h (fun r' h' => ∃ (v : Int32) (h9 : jx_H), r = .inl (v, h9) ∧ some (.int v) = r' ∧ h9 = h') (fun E h' => ∃ (h9 : jx_H) (sz : Nat), r = .inr (E, h9) ∧ h9.1 ≤ sz ∧ h' = (sz, h9.2)) := by
  refine jx_Cx.of (own := RX9) (by decide) rfl (Nat.le_of_ble_eq_true rfl) (fun X C hq hr hL hN => ?_)
  refine jx_sub (lv' := [(0, .ref l0), (1, .int l1), (2, .int l2)]) [0, 1, 2] rfl ?_
  have b18 : ∀ (h18 : jx_H), BX9_leave_18 h18 = some r → jx_J X 0 0 18 [] [] h18 := by
    intro h18 e
    unfold BX9_leave_18 at e
    cases e
    exact j_throw0 (names := jx_names) (ik := 104) (ic := 106) C hr hq jx_fits.2.2.1 jx_fits.1 kX9_104 kini_IllegalArgumentException jx_thIAE ⟨rfl, rfl⟩ dX9_leave_18 dX9_leave_21 dX9_leave_22 dX9_leave_25 (Nat.le_of_ble_eq_true rfl) (Nat.le_of_ble_eq_true rfl) ⟨Nat.le_of_ble_eq_true rfl, Nat.le_of_ble_eq_true rfl, Nat.le_of_ble_eq_true rfl, Nat.le_of_ble_eq_true rfl⟩ (fun sz hsz => ⟨_, sz, rfl, hsz, rfl⟩)
  unfold FX9_leave at e
  refine j_iload_n C dX9_leave_0 rfl rfl ?_
  refine j_bipush (v := (11 : Int32)) C dX9_leave_1 (by decide) ?_
  replace e := ob e
  obtain ⟨x19, ex19, e⟩ := e
  refine j_callS (As := [.int l1, .int (11 : Int32)]) (na := 2) (st := []) (k1 := 0) (n1 := 0) C hr (sX9_isOutside ex19) kX9_171 kst_X9_isOutside kini_X9 kc_X9_isOutside (by decide) rfl ⟨(Nat.le_of_ble_eq_true rfl), (Nat.le_of_ble_eq_true rfl)⟩ (Nat.le_of_ble_eq_true rfl) ⟨rfl, rfl, (Nat.le_of_ble_eq_true rfl), (Nat.le_of_ble_eq_true rfl)⟩ dX9_leave_3 ?_
  rintro _ _ ⟨rfl, rfl⟩
  show jx_J X 0 0 6 [(0, .ref l0), (1, .int l1), (2, .int l2)] [.int x19] h
  refine j_if_ne (tgt := 18) C dX9_leave_6 (by decide) (fun c35 => ?_) (fun c35 => ?_)
  · replace e := ifn c35 e
    refine jx_sub (lv' := []) [] rfl ?_
    exact b18 h e
  · replace e := ifp c35 e
    refine j_iload_n C dX9_leave_9 rfl rfl ?_
    refine j_bipush (v := (11 : Int32)) C dX9_leave_10 (by decide) ?_
    replace e := ob e
    obtain ⟨x20, ex20, e⟩ := e
    refine j_callS (As := [.int l2, .int (11 : Int32)]) (na := 2) (st := []) (k1 := 0) (n1 := 0) C hr (sX9_isOutside ex20) kX9_171 kst_X9_isOutside kini_X9 kc_X9_isOutside (by decide) rfl ⟨(Nat.le_of_ble_eq_true rfl), (Nat.le_of_ble_eq_true rfl)⟩ (Nat.le_of_ble_eq_true rfl) ⟨rfl, rfl, (Nat.le_of_ble_eq_true rfl), (Nat.le_of_ble_eq_true rfl)⟩ dX9_leave_12 ?_
    rintro _ _ ⟨rfl, rfl⟩
    show jx_J X 0 0 15 [(0, .ref l0), (1, .int l1), (2, .int l2)] [.int x20] h
    refine j_if_eq (tgt := 26) C dX9_leave_15 (by decide) (fun c34 => ?_) (fun c34 => ?_)
    · replace e := ifp c34 e
      refine j_aload_n C dX9_leave_26 rfl rfl ?_
      replace e := ob e
      obtain ⟨x21, ex21, e⟩ := e
      refine j_getr (ci := 9) (RC := RX9) (T := TX9) (N := 14) 0 C rfl klX9 (Nat.le_of_ble_eq_true rfl) kX9_12 rfl dX9_leave_27 ex21 ?_
      refine j_iload_n C dX9_leave_30 rfl rfl ?_
      refine j_iload_n C dX9_leave_31 rfl rfl ?_
      replace e := ob e
      obtain ⟨_, eo22, e⟩ := e
      replace e := ob e
      obtain ⟨x23, ex23, e⟩ := e
      refine j_callV (ci := 5) (RC := RX5) (T := TX5) (N := 12) (As := [.int l1, .int l2]) (b := x21) (na := 2) (st := []) (k1 := 0) (n1 := 0) C hr (sX5_isCorner ex23) rfl eo22 kX9_190 kim_X5_isCorner ksel_X5_isCorner kini_X5 kc_X5_isCorner (by decide) rfl ⟨(Nat.le_of_ble_eq_true rfl), (Nat.le_of_ble_eq_true rfl)⟩ (Nat.le_of_ble_eq_true rfl) ⟨rfl, rfl, (Nat.le_of_ble_eq_true rfl), (Nat.le_of_ble_eq_true rfl)⟩ dX9_leave_32 ?_
      rintro _ _ ⟨rfl, rfl⟩
      show jx_J X 0 0 35 [(0, .ref l0), (1, .int l1), (2, .int l2)] [.int x23] h
      refine j_if_ne (tgt := 46) C dX9_leave_35 (by decide) (fun c33 => ?_) (fun c33 => ?_)
      · replace e := ifn c33 e
        refine j_aload_n C dX9_leave_46 rfl rfl ?_
        replace e := ob e
        obtain ⟨x24, ex24, e⟩ := e
        refine j_getr (ci := 9) (RC := RX9) (T := TX9) (N := 14) 0 C rfl klX9 (Nat.le_of_ble_eq_true rfl) kX9_12 rfl dX9_leave_47 ex24 ?_
        refine j_iload_n C dX9_leave_50 rfl rfl ?_
        refine j_iload_n C dX9_leave_51 rfl rfl ?_
        replace e := ob e
        obtain ⟨_, eo25, e⟩ := e
        replace e := ob e
        obtain ⟨x26, ex26, e⟩ := e
        refine j_callV (ci := 5) (RC := RX5) (T := TX5) (N := 12) (As := [.int l1, .int l2]) (b := x24) (na := 2) (st := []) (k1 := 0) (n1 := 0) C hr (sX5_numberOf ex26) rfl eo25 kX9_187 kim_X5_numberOf ksel_X5_numberOf kini_X5 kc_X5_numberOf (by decide) rfl ⟨(Nat.le_of_ble_eq_true rfl), (Nat.le_of_ble_eq_true rfl)⟩ (Nat.le_of_ble_eq_true rfl) ⟨rfl, rfl, (Nat.le_of_ble_eq_true rfl), (Nat.le_of_ble_eq_true rfl)⟩ dX9_leave_52 ?_
        rintro _ _ ⟨rfl, rfl⟩
        show jx_J X 0 0 55 [(0, .ref l0), (1, .int l1), (2, .int l2)] [.int x26] h
        refine j_istore_n (lv1 := [(3, .int x26), (0, .ref l0), (1, .int l1), (2, .int l2)]) C hL dX9_leave_55 rfl (Nat.le_of_ble_eq_true rfl) rfl ?_
        refine j_aload_n C dX9_leave_56 rfl rfl ?_
        refine j_iconst (v := (1 : Int32)) C dX9_leave_57 (by decide) ?_
        replace e := ob e
        obtain ⟨_, eo27, e⟩ := e
        replace e := ob e
        obtain ⟨h28, eh28, e⟩ := e
        refine j_callV (ci := 9) (RC := RX9) (T := TX9) (N := 14) (As := [.int (1 : Int32)]) (b := l0) (na := 1) (st := []) (k1 := 9) (n1 := 255) C hr (sX9_beginChange eh28) rfl eo27 kX9_179 kim_X9_beginChange ksel_X9_beginChange kini_X9 kc_X9_beginChange (by decide) rfl ⟨(Nat.le_of_ble_eq_true rfl), (Nat.le_of_ble_eq_true rfl)⟩ (Nat.le_of_ble_eq_true rfl) ⟨rfl, rfl, (Nat.le_of_ble_eq_true rfl), (Nat.le_of_ble_eq_true rfl)⟩ dX9_leave_58 ?_
        rintro _ _ ⟨rfl, rfl⟩
        show jx_J X 9 255 61 [(3, .int x26), (0, .ref l0), (1, .int l1), (2, .int l2)] [] h28
        refine j_aload_n C dX9_leave_61 rfl rfl ?_
        replace e := ob e
        obtain ⟨x29, ex29, e⟩ := e
        refine j_getr (ci := 9) (RC := RX9) (T := TX9) (N := 14) 0 C rfl klX9 (Nat.le_of_ble_eq_true rfl) kX9_12 rfl dX9_leave_62 ex29 ?_
        refine j_iload_n C dX9_leave_65 rfl rfl ?_
        refine j_iconst (v := (-1 : Int32)) C dX9_leave_66 (by decide) ?_
        refine j_aload_n C dX9_leave_67 rfl rfl ?_
        replace e := ob e
        obtain ⟨x30, ex30, e⟩ := e
        refine j_getr (ci := 9) (RC := RX9) (T := TX9) (N := 14) 1 C rfl klX9 (Nat.le_of_ble_eq_true rfl) kX9_16 rfl dX9_leave_68 ex30 ?_
        replace e := ob e
        obtain ⟨_, eo31, e⟩ := e
        replace e := ob e
        obtain ⟨h32, eh32, e⟩ := e
        refine j_callV (ci := 5) (RC := RX5) (T := TX5) (N := 12) (As := [.int l1, .int (-1 : Int32), .ref x30]) (b := x29) (na := 3) (st := []) (k1 := 9) (n1 := 255) C hr (sX5_changeHeight eh32) rfl eo31 kX9_183 kim_X5_changeHeight ksel_X5_changeHeight kini_X5 kc_X5_changeHeight (by decide) rfl ⟨(Nat.le_of_ble_eq_true rfl), (Nat.le_of_ble_eq_true rfl)⟩ (Nat.le_of_ble_eq_true rfl) ⟨rfl, rfl, (Nat.le_of_ble_eq_true rfl), (Nat.le_of_ble_eq_true rfl)⟩ dX9_leave_71 ?_
        rintro _ _ ⟨rfl, rfl⟩
        show jx_J X 9 255 74 [(3, .int x26), (0, .ref l0), (1, .int l1), (2, .int l2)] [] h32
        refine j_iload_n C dX9_leave_74 rfl rfl ?_
        cases e
        exact j_iretX C hq rfl dX9_leave_75 ⟨Nat.le_of_ble_eq_true rfl, Nat.le_of_ble_eq_true rfl⟩ ⟨_, _, rfl, rfl, rfl⟩
      · replace e := ifp c33 e
        cases e
        exact j_throw0 (names := jx_names) (ik := 97) (ic := 99) C hr hq jx_fits.2.1 jx_fits.1 kX9_97 kini_IllegalStateException jx_thISE ⟨rfl, rfl⟩ dX9_leave_38 dX9_leave_41 dX9_leave_42 dX9_leave_45 (Nat.le_of_ble_eq_true rfl) (Nat.le_of_ble_eq_true rfl) ⟨Nat.le_of_ble_eq_true rfl, Nat.le_of_ble_eq_true rfl, Nat.le_of_ble_eq_true rfl, Nat.le_of_ble_eq_true rfl⟩ (fun sz hsz => ⟨_, sz, rfl, hsz, rfl⟩)
    · replace e := ifn c34 e
      refine jx_sub (lv' := []) [] rfl ?_
      exact b18 h e
/-! BorderBasis.monomial(II)I -/
noncomputable def BX9_monomial_15  (h : jx_H) : Option ((Int32 × jx_H) ⊕ (String × jx_H)) :=
some (.inr ("java/lang/IndexOutOfBoundsException", h))
noncomputable def FX9_monomial (l0 : Nat) (l1 : Int32) (l2 : Int32) (h : jx_H) : Option ((Int32 × jx_H) ⊕ (String × jx_H)) :=
if l1 < 0 then
 BX9_monomial_15  h
else
 (hgr h l0 9 0).bind fun x1 =>
 (hgi h x1 5 2).bind fun x2 =>
 if l1 < x2 then
  (FX9_isOutside l2 (1 : Int32) h).bind fun x3 =>
  if x3 = 0 then
   if l2 = 0 then
    (hgr h l0 9 0).bind fun x7 =>
    (hgr h x7 5 3).bind fun x8 =>
    (hal h .int x8 l1).bind fun x9 =>
    some (.inl (x9, h))
   else
    (hgr h l0 9 0).bind fun x4 =>
    (hgr h x4 5 4).bind fun x5 =>
    (hal h .int x5 l1).bind fun x6 =>
    some (.inl (x6, h))
  else
   some (.inr ("java/lang/IllegalArgumentException", h))
 else
  BX9_monomial_15  h
def rmX9_monomial : Room := { frames := 6, cells := 1, slots := 6, locals := 89 }
set_option maxRecDepth 20000 in
set_option maxHeartbeats 4000000 in
theorem sX9_monomial {l0 : Nat} {l1 : Int32} {l2 : Int32} {h : jx_H} {r : (Int32 × jx_H) ⊕ (String × jx_H)}  (e : FX9_monomial l0 l1 l2 h = some r) : jx_Cx yX9_monomial cX9_monomial 3 (some .int) rmX9_monomial [.ref l0, .int l1, .int l2] h (fun r' h' => ∃ (v : Int32) (h9 : jx_H), r = .inl (v, h9) ∧ some (.int v) = r' ∧ h9 = h') (fun E h' => ∃ (h9 : jx_H) (sz : Nat), r = .inr (E, h9) ∧ h9.1 ≤ sz ∧ h' = (sz, h9.2)) := by
  refine jx_Cx.of (own := RX9) (by decide) rfl (Nat.le_of_ble_eq_true rfl) (fun X C hq hr hL hN => ?_)
  refine jx_sub (lv' := [(0, .ref l0), (1, .int l1), (2, .int l2)]) [0, 1, 2] rfl ?_
  have b15 : ∀ (h14 : jx_H), BX9_monomial_15 h14 = some r → jx_J X 0 0 15 [] [] h14 := by
    intro h14 e
    unfold BX9_monomial_15 at e
    cases e
    exact j_throw0 (names := jx_names) (ik := 152) (ic := 154) C hr hq jx_fits.2.2.2 jx_fits.1 kX9_152 kini_IndexOutOfBoundsException jx_thIOB ⟨rfl, rfl⟩ dX9_monomial_15 dX9_monomial_18 dX9_monomial_19 dX9_monomial_22 (Nat.le_of_ble_eq_true rfl) (Nat.le_of_ble_eq_true rfl) ⟨Nat.le_of_ble_eq_true rfl, Nat.le_of_ble_eq_true rfl, Nat.le_of_ble_eq_true rfl, Nat.le_of_ble_eq_true rfl⟩ (fun sz hsz => ⟨_, sz, rfl, hsz, rfl⟩)
  unfold FX9_monomial at e
  refine j_iload_n C dX9_monomial_0 rfl rfl ?_
  refine j_if_lt (tgt := 15) C dX9_monomial_1 (by decide) (fun c27 => ?_) (fun c27 => ?_)
  · replace e := ifp c27 e
    refine jx_sub (lv' := []) [] rfl ?_
    exact b15 h e
  · replace e := ifn c27 e
    refine j_iload_n C dX9_monomial_4 rfl rfl ?_
    refine j_aload_n C dX9_monomial_5 rfl rfl ?_
    replace e := ob e
    obtain ⟨x15, ex15, e⟩ := e
    refine j_getr (ci := 9) (RC := RX9) (T := TX9) (N := 14) 0 C rfl klX9 (Nat.le_of_ble_eq_true rfl) kX9_12 rfl dX9_monomial_6 ex15 ?_
    replace e := ob e
    obtain ⟨x16, ex16, e⟩ := e
    refine j_geti (ci := 5) (RC := RX5) (T := TX5) (N := 12) 2 C rfl klX5 (Nat.le_of_ble_eq_true rfl) kX9_129 rfl dX9_monomial_9 ex16 ?_
    refine j_icmp_lt (tgt := 23) C dX9_monomial_12 (by decide) (fun c26 => ?_) (fun c26 => ?_)
    · replace e := ifp c26 e
      refine j_iload_n C dX9_monomial_23 rfl rfl ?_
      refine j_iconst (v := (1 : Int32)) C dX9_monomial_24 (by decide) ?_
      replace e := ob e
      obtain ⟨x17, ex17, e⟩ := e
      refine j_callS (As := [.int l2, .int (1 : Int32)]) (na := 2) (st := []) (k1 := 0) (n1 := 0) C hr (sX9_isOutside ex17) kX9_171 kst_X9_isOutside kini_X9 kc_X9_isOutside (by decide) rfl ⟨(Nat.le_of_ble_eq_true rfl), (Nat.le_of_ble_eq_true rfl)⟩ (Nat.le_of_ble_eq_true rfl) ⟨rfl, rfl, (Nat.le_of_ble_eq_true rfl), (Nat.le_of_ble_eq_true rfl)⟩ dX9_monomial_25 ?_
      rintro _ _ ⟨rfl, rfl⟩
      show jx_J X 0 0 28 [(0, .ref l0), (1, .int l1), (2, .int l2)] [.int x17] h
      refine j_if_eq (tgt := 39) C dX9_monomial_28 (by decide) (fun c25 => ?_) (fun c25 => ?_)
      · replace e := ifp c25 e
        refine j_iload_n C dX9_monomial_39 rfl rfl ?_
        refine j_if_ne (tgt := 55) C dX9_monomial_40 (by decide) (fun c24 => ?_) (fun c24 => ?_)
        · replace e := ifn c24 e
          refine j_aload_n C dX9_monomial_55 rfl rfl ?_
          replace e := ob e
          obtain ⟨x18, ex18, e⟩ := e
          refine j_getr (ci := 9) (RC := RX9) (T := TX9) (N := 14) 0 C rfl klX9 (Nat.le_of_ble_eq_true rfl) kX9_12 rfl dX9_monomial_56 ex18 ?_
          replace e := ob e
          obtain ⟨x19, ex19, e⟩ := e
          refine j_getr (ci := 5) (RC := RX5) (T := TX5) (N := 12) 4 C rfl klX5 (Nat.le_of_ble_eq_true rfl) kX9_196 rfl dX9_monomial_59 ex19 ?_
          refine j_iload_n C dX9_monomial_62 rfl rfl ?_
          replace e := ob e
          obtain ⟨x20, ex20, e⟩ := e
          refine j_iald C dX9_monomial_63 ex20 ?_
          cases e
          exact j_iretX C hq rfl dX9_monomial_64 ⟨Nat.le_of_ble_eq_true rfl, Nat.le_of_ble_eq_true rfl⟩ ⟨_, _, rfl, rfl, rfl⟩
        · replace e := ifp c24 e
          refine j_aload_n C dX9_monomial_43 rfl rfl ?_
          replace e := ob e
          obtain ⟨x21, ex21, e⟩ := e
          refine j_getr (ci := 9) (RC := RX9) (T := TX9) (N := 14) 0 C rfl klX9 (Nat.le_of_ble_eq_true rfl) kX9_12 rfl dX9_monomial_44 ex21 ?_
          replace e := ob e
          obtain ⟨x22, ex22, e⟩ := e
          refine j_getr (ci := 5) (RC := RX5) (T := TX5) (N := 12) 3 C rfl klX5 (Nat.le_of_ble_eq_true rfl) kX9_193 rfl dX9_monomial_47 ex22 ?_
          refine j_iload_n C dX9_monomial_50 rfl rfl ?_
          replace e := ob e
          obtain ⟨x23, ex23, e⟩ := e
          refine j_iald C dX9_monomial_51 ex23 ?_
          refine j_goto (tgt := 64) C dX9_monomial_52 (by decide) ?_
          cases e
          exact j_iretX C hq rfl dX9_monomial_64 ⟨Nat.le_of_ble_eq_true rfl, Nat.le_of_ble_eq_true rfl⟩ ⟨_, _, rfl, rfl, rfl⟩
      · replace e := ifn c25 e
        cases e
        exact j_throw0 (names := jx_names) (ik := 104) (ic := 106) C hr hq jx_fits.2.2.1 jx_fits.1 kX9_104 kini_IllegalArgumentException jx_thIAE ⟨rfl, rfl⟩ dX9_monomial_31 dX9_monomial_34 dX9_monomial_35 dX9_monomial_38 (Nat.le_of_ble_eq_true rfl) (Nat.le_of_ble_eq_true rfl) ⟨Nat.le_of_ble_eq_true rfl, Nat.le_of_ble_eq_true rfl, Nat.le_of_ble_eq_true rfl, Nat.le_of_ble_eq_true rfl⟩ (fun sz hsz => ⟨_, sz, rfl, hsz, rfl⟩)
    · replace e := ifn c26 e
      refine jx_sub (lv' := []) [] rfl ?_
      exact b15 h e
/-! BorderBasis.border(II)I -/
noncomputable def BX9_border_15  (h : jx_H) : Option ((Int32 × jx_H) ⊕ (String × jx_H)) :=
some (.inr ("java/lang/IndexOutOfBoundsException", h))
noncomputable def FX9_border (l0 : Nat) (l1 : Int32) (l2 : Int32) (h : jx_H) : Option ((Int32 × jx_H) ⊕ (String × jx_H)) :=
if l1 < 0 then
 BX9_border_15  h
else
 (hgr h l0 9 0).bind fun x1 =>
 (hgi h x1 5 5).bind fun x2 =>
 if l1 < x2 then
  (FX9_isOutside l2 (1 : Int32) h).bind fun x3 =>
  if x3 = 0 then
   if l2 = 0 then
    (hgr h l0 9 0).bind fun x7 =>
    (hgr h x7 5 6).bind fun x8 =>
    (hal h .int x8 l1).bind fun x9 =>
    some (.inl (x9, h))
   else
    (hgr h l0 9 0).bind fun x4 =>
    (hgr h x4 5 7).bind fun x5 =>
    (hal h .int x5 l1).bind fun x6 =>
    some (.inl (x6, h))
  else
   some (.inr ("java/lang/IllegalArgumentException", h))
 else
  BX9_border_15  h
def rmX9_border : Room := { frames := 6, cells := 1, slots := 6, locals := 89 }
set_option maxRecDepth 20000 in
set_option maxHeartbeats 4000000 in
theorem sX9_border {l0 : Nat} {l1 : Int32} {l2 : Int32} {h : jx_H} {r : (Int32 × jx_H) ⊕ (String × jx_H)}  (e : FX9_border l0 l1 l2 h = some r) : jx_Cx yX9_border cX9_border 3 (some .int) rmX9_border [.ref l0, .int l1, .int l2] h (fun r' h' => ∃ (v : Int32) (h9 : jx_H), r = .inl (v, h9) ∧ some (.int v) = r' ∧ h9 = h') (fun E h' => ∃ (h9 : jx_H) (sz : Nat), r = .inr (E, h9) ∧ h9.1 ≤ sz ∧ h' = (sz, h9.2)) := by
  refine jx_Cx.of (own := RX9) (by decide) rfl (Nat.le_of_ble_eq_true rfl) (fun X C hq hr hL hN => ?_)
  refine jx_sub (lv' := [(0, .ref l0), (1, .int l1), (2, .int l2)]) [0, 1, 2] rfl ?_
  have b15 : ∀ (h14 : jx_H), BX9_border_15 h14 = some r → jx_J X 0 0 15 [] [] h14 := by
    intro h14 e
    unfold BX9_border_15 at e
    cases e
    exact j_throw0 (names := jx_names) (ik := 152) (ic := 154) C hr hq jx_fits.2.2.2 jx_fits.1 kX9_152 kini_IndexOutOfBoundsException jx_thIOB ⟨rfl, rfl⟩ dX9_border_15 dX9_border_18 dX9_border_19 dX9_border_22 (Nat.le_of_ble_eq_true rfl) (Nat.le_of_ble_eq_true rfl) ⟨Nat.le_of_ble_eq_true rfl, Nat.le_of_ble_eq_true rfl, Nat.le_of_ble_eq_true rfl, Nat.le_of_ble_eq_true rfl⟩ (fun sz hsz => ⟨_, sz, rfl, hsz, rfl⟩)
  unfold FX9_border at e
  refine j_iload_n C dX9_border_0 rfl rfl ?_
  refine j_if_lt (tgt := 15) C dX9_border_1 (by decide) (fun c27 => ?_) (fun c27 => ?_)
  · replace e := ifp c27 e
    refine jx_sub (lv' := []) [] rfl ?_
    exact b15 h e
  · replace e := ifn c27 e
    refine j_iload_n C dX9_border_4 rfl rfl ?_
    refine j_aload_n C dX9_border_5 rfl rfl ?_
    replace e := ob e
    obtain ⟨x15, ex15, e⟩ := e
    refine j_getr (ci := 9) (RC := RX9) (T := TX9) (N := 14) 0 C rfl klX9 (Nat.le_of_ble_eq_true rfl) kX9_12 rfl dX9_border_6 ex15 ?_
    replace e := ob e
    obtain ⟨x16, ex16, e⟩ := e
    refine j_geti (ci := 5) (RC := RX5) (T := TX5) (N := 12) 5 C rfl klX5 (Nat.le_of_ble_eq_true rfl) kX9_155 rfl dX9_border_9 ex16 ?_
    refine j_icmp_lt (tgt := 23) C dX9_border_12 (by decide) (fun c26 => ?_) (fun c26 => ?_)
    · replace e := ifp c26 e
      refine j_iload_n C dX9_border_23 rfl rfl ?_
      refine j_iconst (v := (1 : Int32)) C dX9_border_24 (by decide) ?_
      replace e := ob e
      obtain ⟨x17, ex17, e⟩ := e
      refine j_callS (As := [.int l2, .int (1 : Int32)]) (na := 2) (st := []) (k1 := 0) (n1 := 0) C hr (sX9_isOutside ex17) kX9_171 kst_X9_isOutside kini_X9 kc_X9_isOutside (by decide) rfl ⟨(Nat.le_of_ble_eq_true rfl), (Nat.le_of_ble_eq_true rfl)⟩ (Nat.le_of_ble_eq_true rfl) ⟨rfl, rfl, (Nat.le_of_ble_eq_true rfl), (Nat.le_of_ble_eq_true rfl)⟩ dX9_border_25 ?_
      rintro _ _ ⟨rfl, rfl⟩
      show jx_J X 0 0 28 [(0, .ref l0), (1, .int l1), (2, .int l2)] [.int x17] h
      refine j_if_eq (tgt := 39) C dX9_border_28 (by decide) (fun c25 => ?_) (fun c25 => ?_)
      · replace e := ifp c25 e
        refine j_iload_n C dX9_border_39 rfl rfl ?_
        refine j_if_ne (tgt := 55) C dX9_border_40 (by decide) (fun c24 => ?_) (fun c24 => ?_)
        · replace e := ifn c24 e
          refine j_aload_n C dX9_border_55 rfl rfl ?_
          replace e := ob e
          obtain ⟨x18, ex18, e⟩ := e
          refine j_getr (ci := 9) (RC := RX9) (T := TX9) (N := 14) 0 C rfl klX9 (Nat.le_of_ble_eq_true rfl) kX9_12 rfl dX9_border_56 ex18 ?_
          replace e := ob e
          obtain ⟨x19, ex19, e⟩ := e
          refine j_getr (ci := 5) (RC := RX5) (T := TX5) (N := 12) 7 C rfl klX5 (Nat.le_of_ble_eq_true rfl) kX9_202 rfl dX9_border_59 ex19 ?_
          refine j_iload_n C dX9_border_62 rfl rfl ?_
          replace e := ob e
          obtain ⟨x20, ex20, e⟩ := e
          refine j_iald C dX9_border_63 ex20 ?_
          cases e
          exact j_iretX C hq rfl dX9_border_64 ⟨Nat.le_of_ble_eq_true rfl, Nat.le_of_ble_eq_true rfl⟩ ⟨_, _, rfl, rfl, rfl⟩
        · replace e := ifp c24 e
          refine j_aload_n C dX9_border_43 rfl rfl ?_
          replace e := ob e
          obtain ⟨x21, ex21, e⟩ := e
          refine j_getr (ci := 9) (RC := RX9) (T := TX9) (N := 14) 0 C rfl klX9 (Nat.le_of_ble_eq_true rfl) kX9_12 rfl dX9_border_44 ex21 ?_
          replace e := ob e
          obtain ⟨x22, ex22, e⟩ := e
          refine j_getr (ci := 5) (RC := RX5) (T := TX5) (N := 12) 6 C rfl klX5 (Nat.le_of_ble_eq_true rfl) kX9_199 rfl dX9_border_47 ex22 ?_
          refine j_iload_n C dX9_border_50 rfl rfl ?_
          replace e := ob e
          obtain ⟨x23, ex23, e⟩ := e
          refine j_iald C dX9_border_51 ex23 ?_
          refine j_goto (tgt := 64) C dX9_border_52 (by decide) ?_
          cases e
          exact j_iretX C hq rfl dX9_border_64 ⟨Nat.le_of_ble_eq_true rfl, Nat.le_of_ble_eq_true rfl⟩ ⟨_, _, rfl, rfl, rfl⟩
      · replace e := ifn c25 e
        cases e
        exact j_throw0 (names := jx_names) (ik := 104) (ic := 106) C hr hq jx_fits.2.2.1 jx_fits.1 kX9_104 kini_IllegalArgumentException jx_thIAE ⟨rfl, rfl⟩ dX9_border_31 dX9_border_34 dX9_border_35 dX9_border_38 (Nat.le_of_ble_eq_true rfl) (Nat.le_of_ble_eq_true rfl) ⟨Nat.le_of_ble_eq_true rfl, Nat.le_of_ble_eq_true rfl, Nat.le_of_ble_eq_true rfl, Nat.le_of_ble_eq_true rfl⟩ (fun sz hsz => ⟨_, sz, rfl, hsz, rfl⟩)
    · replace e := ifn c26 e
      refine jx_sub (lv' := []) [] rfl ?_
      exact b15 h e
/-! BorderBasis.setRule(III)I -/
noncomputable def FX9_setRule (l0 : Nat) (l1 : Int32) (l2 : Int32) (l3 : Int32) (h : jx_H) : Option ((Int32 × jx_H) ⊕ (String × jx_H)) :=
(hgr h l0 9 0).bind fun x1 =>
(isO h x1 5).bind fun _ =>
(FX5_hasCoefficient x1 l1 l2 h).bind fun x3 =>
if x3 = 0 then
 some (.inr ("java/lang/IndexOutOfBoundsException", h))
else
 (hgr h l0 9 0).bind fun x4 =>
 (hgi h x4 5 0).bind fun x5 =>
 (FX9_isOutside l3 (x5 - (1 : Int32)) h).bind fun x6 =>
 if x6 = 0 then
  (hgr h l0 9 0).bind fun x7 =>
  (isO h x7 5).bind fun _ =>
  (FX5_coefficient x7 l1 l2 h).bind fun x9 =>
  (isO h l0 9).bind fun _ =>
  (FX9_beginChange l0 (2 : Int32) h).bind fun h11 =>
  (hgr h11 l0 9 0).bind fun x12 =>
  (isO h11 x12 5).bind fun _ =>
  (FX5_setCoefficient x12 l1 l2 l3 h11).bind fun h14 =>
  some (.inl (x9, h14))
 else
  some (.inr ("java/lang/IllegalArgumentException", h))
def rmX9_setRule : Room := { frames := 7, cells := 9, slots := 255, locals := 148 }
set_option maxRecDepth 20000 in
set_option maxHeartbeats 4000000 in
theorem sX9_setRule {l0 : Nat} {l1 : Int32} {l2 : Int32} {l3 : Int32} {h : jx_H} {r : (Int32 × jx_H) ⊕ (String × jx_H)}  (e : FX9_setRule l0 l1 l2 l3 h = some r) : jx_Cx yX9_setRule cX9_setRule 5 (some .int) rmX9_setRule [.ref l0, .int l1, .int l2, .int l3] h (fun r' h' => ∃ (v : Int32) (h9 : jx_H), r = .inl (v, h9) ∧ some (.int v) = r' ∧ h9 = h') (fun E h' => ∃ (h9 : jx_H) (sz : Nat), r = .inr (E, h9) ∧ h9.1 ≤ sz ∧ h' = (sz, h9.2)) := by
  refine jx_Cx.of (own := RX9) (by decide) rfl (Nat.le_of_ble_eq_true rfl) (fun X C hq hr hL hN => ?_)
  refine jx_sub (lv' := [(0, .ref l0), (1, .int l1), (2, .int l2), (3, .int l3)]) [0, 1, 2, 3] rfl ?_
  unfold FX9_setRule at e
  refine j_aload_n C dX9_setRule_0 rfl rfl ?_
  replace e := ob e
  obtain ⟨x17, ex17, e⟩ := e
  refine j_getr (ci := 9) (RC := RX9) (T := TX9) (N := 14) 0 C rfl klX9 (Nat.le_of_ble_eq_true rfl) kX9_12 rfl dX9_setRule_1 ex17 ?_
  refine j_iload_n C dX9_setRule_4 rfl rfl ?_
  refine j_iload_n C dX9_setRule_5 rfl rfl ?_
  replace e := ob e
  obtain ⟨_, eo18, e⟩ := e
  replace e := ob e
  obtain ⟨x19, ex19, e⟩ := e
  refine j_callV (ci := 5) (RC := RX5) (T := TX5) (N := 12) (As := [.int l1, .int l2]) (b := x17) (na := 2) (st := []) (k1 := 0) (n1 := 0) C hr (sX5_hasCoefficient ex19) rfl eo18 kX9_208 kim_X5_hasCoefficient ksel_X5_hasCoefficient kini_X5 kc_X5_hasCoefficient (by decide) rfl ⟨(Nat.le_of_ble_eq_true rfl), (Nat.le_of_ble_eq_true rfl)⟩ (Nat.le_of_ble_eq_true rfl) ⟨rfl, rfl, (Nat.le_of_ble_eq_true rfl), (Nat.le_of_ble_eq_true rfl)⟩ dX9_setRule_6 ?_
  rintro _ _ ⟨rfl, rfl⟩
  show jx_J X 0 0 9 [(0, .ref l0), (1, .int l1), (2, .int l2), (3, .int l3)] [.int x19] h
  refine j_if_ne (tgt := 20) C dX9_setRule_9 (by decide) (fun c32 => ?_) (fun c32 => ?_)
  · replace e := ifn c32 e
    refine j_iload_n C dX9_setRule_20 rfl rfl ?_
    refine j_aload_n C dX9_setRule_21 rfl rfl ?_
    replace e := ob e
    obtain ⟨x20, ex20, e⟩ := e
    refine j_getr (ci := 9) (RC := RX9) (T := TX9) (N := 14) 0 C rfl klX9 (Nat.le_of_ble_eq_true rfl) kX9_12 rfl dX9_setRule_22 ex20 ?_
    replace e := ob e
    obtain ⟨x21, ex21, e⟩ := e
    refine j_geti (ci := 5) (RC := RX5) (T := TX5) (N := 12) 0 C rfl klX5 (Nat.le_of_ble_eq_true rfl) kX9_132 rfl dX9_setRule_25 ex21 ?_
    refine j_iconst (v := (1 : Int32)) C dX9_setRule_28 (by decide) ?_
    refine j_isub C dX9_setRule_29 ?_
    replace e := ob e
    obtain ⟨x22, ex22, e⟩ := e
    refine j_callS (As := [.int l3, .int (x21 - (1 : Int32))]) (na := 2) (st := []) (k1 := 0) (n1 := 0) C hr (sX9_isOutside ex22) kX9_171 kst_X9_isOutside kini_X9 kc_X9_isOutside (by decide) rfl ⟨(Nat.le_of_ble_eq_true rfl), (Nat.le_of_ble_eq_true rfl)⟩ (Nat.le_of_ble_eq_true rfl) ⟨rfl, rfl, (Nat.le_of_ble_eq_true rfl), (Nat.le_of_ble_eq_true rfl)⟩ dX9_setRule_30 ?_
    rintro _ _ ⟨rfl, rfl⟩
    show jx_J X 0 0 33 [(0, .ref l0), (1, .int l1), (2, .int l2), (3, .int l3)] [.int x22] h
    refine j_if_eq (tgt := 44) C dX9_setRule_33 (by decide) (fun c31 => ?_) (fun c31 => ?_)
    · replace e := ifp c31 e
      refine j_aload_n C dX9_setRule_44 rfl rfl ?_
      replace e := ob e
      obtain ⟨x23, ex23, e⟩ := e
      refine j_getr (ci := 9) (RC := RX9) (T := TX9) (N := 14) 0 C rfl klX9 (Nat.le_of_ble_eq_true rfl) kX9_12 rfl dX9_setRule_45 ex23 ?_
      refine j_iload_n C dX9_setRule_48 rfl rfl ?_
      refine j_iload_n C dX9_setRule_49 rfl rfl ?_
      replace e := ob e
      obtain ⟨_, eo24, e⟩ := e
      replace e := ob e
      obtain ⟨x25, ex25, e⟩ := e
      refine j_callV (ci := 5) (RC := RX5) (T := TX5) (N := 12) (As := [.int l1, .int l2]) (b := x23) (na := 2) (st := []) (k1 := 0) (n1 := 0) C hr (sX5_coefficient ex25) rfl eo24 kX9_211 kim_X5_coefficient ksel_X5_coefficient kini_X5 kc_X5_coefficient (by decide) rfl ⟨(Nat.le_of_ble_eq_true rfl), (Nat.le_of_ble_eq_true rfl)⟩ (Nat.le_of_ble_eq_true rfl) ⟨rfl, rfl, (Nat.le_of_ble_eq_true rfl), (Nat.le_of_ble_eq_true rfl)⟩ dX9_setRule_50 ?_
      rintro _ _ ⟨rfl, rfl⟩
      show jx_J X 0 0 53 [(0, .ref l0), (1, .int l1), (2, .int l2), (3, .int l3)] [.int x25] h
      refine j_istore (lv1 := [(4, .int x25), (0, .ref l0), (1, .int l1), (2, .int l2), (3, .int l3)]) C hL dX9_setRule_53 (Nat.le_of_ble_eq_true rfl) rfl ?_
      refine j_aload_n C dX9_setRule_55 rfl rfl ?_
      refine j_iconst (v := (2 : Int32)) C dX9_setRule_56 (by decide) ?_
      replace e := ob e
      obtain ⟨_, eo26, e⟩ := e
      replace e := ob e
      obtain ⟨h27, eh27, e⟩ := e
      refine j_callV (ci := 9) (RC := RX9) (T := TX9) (N := 14) (As := [.int (2 : Int32)]) (b := l0) (na := 1) (st := []) (k1 := 9) (n1 := 255) C hr (sX9_beginChange eh27) rfl eo26 kX9_179 kim_X9_beginChange ksel_X9_beginChange kini_X9 kc_X9_beginChange (by decide) rfl ⟨(Nat.le_of_ble_eq_true rfl), (Nat.le_of_ble_eq_true rfl)⟩ (Nat.le_of_ble_eq_true rfl) ⟨rfl, rfl, (Nat.le_of_ble_eq_true rfl), (Nat.le_of_ble_eq_true rfl)⟩ dX9_setRule_57 ?_
      rintro _ _ ⟨rfl, rfl⟩
      show jx_J X 9 255 60 [(4, .int x25), (0, .ref l0), (1, .int l1), (2, .int l2), (3, .int l3)] [] h27
      refine j_aload_n C dX9_setRule_60 rfl rfl ?_
      replace e := ob e
      obtain ⟨x28, ex28, e⟩ := e
      refine j_getr (ci := 9) (RC := RX9) (T := TX9) (N := 14) 0 C rfl klX9 (Nat.le_of_ble_eq_true rfl) kX9_12 rfl dX9_setRule_61 ex28 ?_
      refine j_iload_n C dX9_setRule_64 rfl rfl ?_
      refine j_iload_n C dX9_setRule_65 rfl rfl ?_
      refine j_iload_n C dX9_setRule_66 rfl rfl ?_
      replace e := ob e
      obtain ⟨_, eo29, e⟩ := e
      replace e := ob e
      obtain ⟨h30, eh30, e⟩ := e
      refine j_callV (ci := 5) (RC := RX5) (T := TX5) (N := 12) (As := [.int l1, .int l2, .int l3]) (b := x28) (na := 3) (st := []) (k1 := 9) (n1 := 255) C hr (sX5_setCoefficient eh30) rfl eo29 kX9_214 kim_X5_setCoefficient ksel_X5_setCoefficient kini_X5 kc_X5_setCoefficient (by decide) rfl ⟨(Nat.le_of_ble_eq_true rfl), (Nat.le_of_ble_eq_true rfl)⟩ (Nat.le_of_ble_eq_true rfl) ⟨rfl, rfl, (Nat.le_of_ble_eq_true rfl), (Nat.le_of_ble_eq_true rfl)⟩ dX9_setRule_67 ?_
      rintro _ _ ⟨rfl, rfl⟩
      show jx_J X 9 255 70 [(4, .int x25), (0, .ref l0), (1, .int l1), (2, .int l2), (3, .int l3)] [] h30
      refine j_iload C dX9_setRule_70 rfl ?_
      cases e
      exact j_iretX C hq rfl dX9_setRule_72 ⟨Nat.le_of_ble_eq_true rfl, Nat.le_of_ble_eq_true rfl⟩ ⟨_, _, rfl, rfl, rfl⟩
    · replace e := ifn c31 e
      cases e
      exact j_throw0 (names := jx_names) (ik := 104) (ic := 106) C hr hq jx_fits.2.2.1 jx_fits.1 kX9_104 kini_IllegalArgumentException jx_thIAE ⟨rfl, rfl⟩ dX9_setRule_36 dX9_setRule_39 dX9_setRule_40 dX9_setRule_43 (Nat.le_of_ble_eq_true rfl) (Nat.le_of_ble_eq_true rfl) ⟨Nat.le_of_ble_eq_true rfl, Nat.le_of_ble_eq_true rfl, Nat.le_of_ble_eq_true rfl, Nat.le_of_ble_eq_true rfl⟩ (fun sz hsz => ⟨_, sz, rfl, hsz, rfl⟩)
  · replace e := ifp c32 e
    cases e
    exact j_throw0 (names := jx_names) (ik := 152) (ic := 154) C hr hq jx_fits.2.2.2 jx_fits.1 kX9_152 kini_IndexOutOfBoundsException jx_thIOB ⟨rfl, rfl⟩ dX9_setRule_12 dX9_setRule_15 dX9_setRule_16 dX9_setRule_19 (Nat.le_of_ble_eq_true rfl) (Nat.le_of_ble_eq_true rfl) ⟨Nat.le_of_ble_eq_true rfl, Nat.le_of_ble_eq_true rfl, Nat.le_of_ble_eq_true rfl, Nat.le_of_ble_eq_true rfl⟩ (fun sz hsz => ⟨_, sz, rfl, hsz, rfl⟩)
/-! BorderBasis.rule(II)I -/
noncomputable def FX9_rule (l0 : Nat) (l1 : Int32) (l2 : Int32) (h : jx_H) : Option ((Int32 × jx_H) ⊕ (String × jx_H)) :=
(hgr h l0 9 0).bind fun x1 =>
(isO h x1 5).bind fun _ =>
(FX5_hasCoefficient x1 l1 l2 h).bind fun x3 =>
if x3 = 0 then
 some (.inr ("java/lang/IndexOutOfBoundsException", h))
else
 (hgr h l0 9 0).bind fun x4 =>
 (isO h x4 5).bind fun _ =>
 (FX5_coefficient x4 l1 l2 h).bind fun x6 =>
 some (.inl (x6, h))
def rmX9_rule : Room := { frames := 6, cells := 1, slots := 6, locals := 89 }
set_option maxRecDepth 20000 in
set_option maxHeartbeats 4000000 in
theorem sX9_rule {l0 : Nat} {l1 : Int32} {l2 : Int32} {h : jx_H} {r : (Int32 × jx_H) ⊕ (String × jx_H)}  (e : FX9_rule l0 l1 l2 h = some r) : jx_Cx yX9_rule cX9_rule 3 (some .int) rmX9_rule [.ref l0, .int l1, .int l2] h (fun r' h' => ∃ (v : Int32) (h9 : jx_H), r = .inl (v, h9) ∧ some (.int v) = r' ∧ h9 = h') (fun E h' => ∃ (h9 : jx_H) (sz : Nat), r = .inr (E, h9) ∧ h9.1 ≤ sz ∧ h' = (sz, h9.2)) := by
  refine jx_Cx.of (own := RX9) (by decide) rfl (Nat.le_of_ble_eq_true rfl) (fun X C hq hr hL hN => ?_)
  refine jx_sub (lv' := [(0, .ref l0), (1, .int l1), (2, .int l2)]) [0, 1, 2] rfl ?_
  unfold FX9_rule at e
  refine j_aload_n C dX9_rule_0 rfl rfl ?_
  replace e := ob e
  obtain ⟨x8, ex8, e⟩ := e
  refine j_getr (ci := 9) (RC := RX9) (T := TX9) (N := 14) 0 C rfl klX9 (Nat.le_of_ble_eq_true rfl) kX9_12 rfl dX9_rule_1 ex8 ?_
  refine j_iload_n C dX9_rule_4 rfl rfl ?_
  refine j_iload_n C dX9_rule_5 rfl rfl ?_
  replace e := ob e
  obtain ⟨_, eo9, e⟩ := e
  replace e := ob e
  obtain ⟨x10, ex10, e⟩ := e
  refine j_callV (ci := 5) (RC := RX5) (T := TX5) (N := 12) (As := [.int l1, .int l2]) (b := x8) (na := 2) (st := []) (k1 := 0) (n1 := 0) C hr (sX5_hasCoefficient ex10) rfl eo9 kX9_208 kim_X5_hasCoefficient ksel_X5_hasCoefficient kini_X5 kc_X5_hasCoefficient (by decide) rfl ⟨(Nat.le_of_ble_eq_true rfl), (Nat.le_of_ble_eq_true rfl)⟩ (Nat.le_of_ble_eq_true rfl) ⟨rfl, rfl, (Nat.le_of_ble_eq_true rfl), (Nat.le_of_ble_eq_true rfl)⟩ dX9_rule_6 ?_
  rintro _ _ ⟨rfl, rfl⟩
  show jx_J X 0 0 9 [(0, .ref l0), (1, .int l1), (2, .int l2)] [.int x10] h
  refine j_if_ne (tgt := 20) C dX9_rule_9 (by decide) (fun c14 => ?_) (fun c14 => ?_)
  · replace e := ifn c14 e
    refine j_aload_n C dX9_rule_20 rfl rfl ?_
    replace e := ob e
    obtain ⟨x11, ex11, e⟩ := e
    refine j_getr (ci := 9) (RC := RX9) (T := TX9) (N := 14) 0 C rfl klX9 (Nat.le_of_ble_eq_true rfl) kX9_12 rfl dX9_rule_21 ex11 ?_
    refine j_iload_n C dX9_rule_24 rfl rfl ?_
    refine j_iload_n C dX9_rule_25 rfl rfl ?_
    replace e := ob e
    obtain ⟨_, eo12, e⟩ := e
    replace e := ob e
    obtain ⟨x13, ex13, e⟩ := e
    refine j_callV (ci := 5) (RC := RX5) (T := TX5) (N := 12) (As := [.int l1, .int l2]) (b := x11) (na := 2) (st := []) (k1 := 0) (n1 := 0) C hr (sX5_coefficient ex13) rfl eo12 kX9_211 kim_X5_coefficient ksel_X5_coefficient kini_X5 kc_X5_coefficient (by decide) rfl ⟨(Nat.le_of_ble_eq_true rfl), (Nat.le_of_ble_eq_true rfl)⟩ (Nat.le_of_ble_eq_true rfl) ⟨rfl, rfl, (Nat.le_of_ble_eq_true rfl), (Nat.le_of_ble_eq_true rfl)⟩ dX9_rule_26 ?_
    rintro _ _ ⟨rfl, rfl⟩
    show jx_J X 0 0 29 [(0, .ref l0), (1, .int l1), (2, .int l2)] [.int x13] h
    cases e
    exact j_iretX C hq rfl dX9_rule_29 ⟨Nat.le_of_ble_eq_true rfl, Nat.le_of_ble_eq_true rfl⟩ ⟨_, _, rfl, rfl, rfl⟩
  · replace e := ifp c14 e
    cases e
    exact j_throw0 (names := jx_names) (ik := 152) (ic := 154) C hr hq jx_fits.2.2.2 jx_fits.1 kX9_152 kini_IndexOutOfBoundsException jx_thIOB ⟨rfl, rfl⟩ dX9_rule_12 dX9_rule_15 dX9_rule_16 dX9_rule_19 (Nat.le_of_ble_eq_true rfl) (Nat.le_of_ble_eq_true rfl) ⟨Nat.le_of_ble_eq_true rfl, Nat.le_of_ble_eq_true rfl, Nat.le_of_ble_eq_true rfl, Nat.le_of_ble_eq_true rfl⟩ (fun sz hsz => ⟨_, sz, rfl, hsz, rfl⟩)
/-! BorderBasis.value(III)I -/
noncomputable def BX9_value_15  (h : jx_H) : Option ((Int32 × jx_H) ⊕ (String × jx_H)) :=
some (.inr ("java/lang/IndexOutOfBoundsException", h))
noncomputable def BX9_value_55  (h : jx_H) : Option ((Int32 × jx_H) ⊕ (String × jx_H)) :=
some (.inr ("java/lang/IllegalArgumentException", h))
noncomputable def FX9_value (l0 : Nat) (l1 : Int32) (l2 : Int32) (l3 : Int32) (h : jx_H) : Option ((Int32 × jx_H) ⊕ (String × jx_H)) :=
if l1 < 0 then
 BX9_value_15  h
else
 (hgr h l0 9 0).bind fun x1 =>
 (hgi h x1 5 5).bind fun x2 =>
 if l1 < x2 then
  (hgr h l0 9 0).bind fun x3 =>
  (hgi h x3 5 0).bind fun x4 =>
  (FX9_isOutside l2 (x4 - (1 : Int32)) h).bind fun x5 =>
  if x5 = 0 then
   (hgr h l0 9 0).bind fun x6 =>
   (hgi h x6 5 0).bind fun x7 =>
   (FX9_isOutside l3 (x7 - (1 : Int32)) h).bind fun x8 =>
   if x8 = 0 then
    (hgr h l0 9 6).bind fun x9 =>
    (hgr h l0 9 0).bind fun x10 =>
    (hgi h x10 5 0).bind fun x11 =>
    (isO h x9 4).bind fun _ =>
    (FX4_moveTo x9 l2 l3 x11 h).bind fun h13 =>
    (hgr h13 l0 9 6).bind fun x14 =>
    (hgr h13 l0 9 0).bind fun x15 =>
    (isO h13 x14 4).bind fun _ =>
    (FX4_valueOfRule x14 x15 l1 h13).bind fun x17 =>
    some (.inl (x17, h13))
   else
    BX9_value_55  h
  else
   BX9_value_55  h
 else
  BX9_value_15  h
def rmX9_value : Room := { frames := 6, cells := 1, slots := 6, locals := 89 }
set_option maxRecDepth 20000 in
set_option maxHeartbeats 4000000 in
theorem sX9_value {l0 : Nat} {l1 : Int32} {l2 : Int32} {l3 : Int32} {h : jx_H} {r : (Int32 × jx_H) ⊕ (String × jx_H)}  (e : FX9_value l0 l1 l2 l3 h = some r) : jx_Cx yX9_value cX9_value 4 (some .int) rmX9_value [.ref l0, .int l1, .int l2, .int l3] h (fun r' h' => ∃ (v : Int32) (h9 : jx_H), r = .inl (v, h9) ∧ some (.int v) = r' ∧ h9 = h') (fun E h' => ∃ (h9 : jx_H) (sz : Nat), r = .inr (E, h9) ∧ h9.1 ≤ sz ∧ h' = (sz, h9.2)) := by
  refine jx_Cx.of (own := RX9) (by decide) rfl (Nat.le_of_ble_eq_true rfl) (fun X C hq hr hL hN => ?_)
  refine jx_sub (lv' := [(0, .ref l0), (1, .int l1), (2, .int l2), (3, .int l3)]) [0, 1, 2, 3] rfl ?_
  have b15 : ∀ (h22 : jx_H), BX9_value_15 h22 = some r → jx_J X 0 0 15 [] [] h22 := by
    intro h22 e
    unfold BX9_value_15 at e
    cases e
    exact j_throw0 (names := jx_names) (ik := 152) (ic := 154) C hr hq jx_fits.2.2.2 jx_fits.1 kX9_152 kini_IndexOutOfBoundsException jx_thIOB ⟨rfl, rfl⟩ dX9_value_15 dX9_value_18 dX9_value_19 dX9_value_22 (Nat.le_of_ble_eq_true rfl) (Nat.le_of_ble_eq_true rfl) ⟨Nat.le_of_ble_eq_true rfl, Nat.le_of_ble_eq_true rfl, Nat.le_of_ble_eq_true rfl, Nat.le_of_ble_eq_true rfl⟩ (fun sz hsz => ⟨_, sz, rfl, hsz, rfl⟩)
  have b55 : ∀ (h23 : jx_H), BX9_value_55 h23 = some r → jx_J X 0 0 55 [] [] h23 := by
    intro h23 e
    unfold BX9_value_55 at e
    cases e
    exact j_throw0 (names := jx_names) (ik := 104) (ic := 106) C hr hq jx_fits.2.2.1 jx_fits.1 kX9_104 kini_IllegalArgumentException jx_thIAE ⟨rfl, rfl⟩ dX9_value_55 dX9_value_58 dX9_value_59 dX9_value_62 (Nat.le_of_ble_eq_true rfl) (Nat.le_of_ble_eq_true rfl) ⟨Nat.le_of_ble_eq_true rfl, Nat.le_of_ble_eq_true rfl, Nat.le_of_ble_eq_true rfl, Nat.le_of_ble_eq_true rfl⟩ (fun sz hsz => ⟨_, sz, rfl, hsz, rfl⟩)
  unfold FX9_value at e
  refine j_iload_n C dX9_value_0 rfl rfl ?_
  refine j_if_lt (tgt := 15) C dX9_value_1 (by decide) (fun c44 => ?_) (fun c44 => ?_)
  · replace e := ifp c44 e
    refine jx_sub (lv' := []) [] rfl ?_
    exact b15 h e
  · replace e := ifn c44 e
    refine j_iload_n C dX9_value_4 rfl rfl ?_
    refine j_aload_n C dX9_value_5 rfl rfl ?_
    replace e := ob e
    obtain ⟨x24, ex24, e⟩ := e
    refine j_getr (ci := 9) (RC := RX9) (T := TX9) (N := 14) 0 C rfl klX9 (Nat.le_of_ble_eq_true rfl) kX9_12 rfl dX9_value_6 ex24 ?_
    replace e := ob e
    obtain ⟨x25, ex25, e⟩ := e
    refine j_geti (ci := 5) (RC := RX5) (T := TX5) (N := 12) 5 C rfl klX5 (Nat.le_of_ble_eq_true rfl) kX9_155 rfl dX9_value_9 ex25 ?_
    refine j_icmp_lt (tgt := 23) C dX9_value_12 (by decide) (fun c43 => ?_) (fun c43 => ?_)
    · replace e := ifp c43 e
      refine j_iload_n C dX9_value_23 rfl rfl ?_
      refine j_aload_n C dX9_value_24 rfl rfl ?_
      replace e := ob e
      obtain ⟨x26, ex26, e⟩ := e
      refine j_getr (ci := 9) (RC := RX9) (T := TX9) (N := 14) 0 C rfl klX9 (Nat.le_of_ble_eq_true rfl) kX9_12 rfl dX9_value_25 ex26 ?_
      replace e := ob e
      obtain ⟨x27, ex27, e⟩ := e
      refine j_geti (ci := 5) (RC := RX5) (T := TX5) (N := 12) 0 C rfl klX5 (Nat.le_of_ble_eq_true rfl) kX9_132 rfl dX9_value_28 ex27 ?_
      refine j_iconst (v := (1 : Int32)) C dX9_value_31 (by decide) ?_
      refine j_isub C dX9_value_32 ?_
      replace e := ob e
      obtain ⟨x28, ex28, e⟩ := e
      refine j_callS (As := [.int l2, .int (x27 - (1 : Int32))]) (na := 2) (st := []) (k1 := 0) (n1 := 0) C hr (sX9_isOutside ex28) kX9_171 kst_X9_isOutside kini_X9 kc_X9_isOutside (by decide) rfl ⟨(Nat.le_of_ble_eq_true rfl), (Nat.le_of_ble_eq_true rfl)⟩ (Nat.le_of_ble_eq_true rfl) ⟨rfl, rfl, (Nat.le_of_ble_eq_true rfl), (Nat.le_of_ble_eq_true rfl)⟩ dX9_value_33 ?_
      rintro _ _ ⟨rfl, rfl⟩
      show jx_J X 0 0 36 [(0, .ref l0), (1, .int l1), (2, .int l2), (3, .int l3)] [.int x28] h
      refine j_if_ne (tgt := 55) C dX9_value_36 (by decide) (fun c42 => ?_) (fun c42 => ?_)
      · replace e := ifn c42 e
        refine jx_sub (lv' := []) [] rfl ?_
        exact b55 h e
      · replace e := ifp c42 e
        refine j_iload_n C dX9_value_39 rfl rfl ?_
        refine j_aload_n C dX9_value_40 rfl rfl ?_
        replace e := ob e
        obtain ⟨x29, ex29, e⟩ := e
        refine j_getr (ci := 9) (RC := RX9) (T := TX9) (N := 14) 0 C rfl klX9 (Nat.le_of_ble_eq_true rfl) kX9_12 rfl dX9_value_41 ex29 ?_
        replace e := ob e
        obtain ⟨x30, ex30, e⟩ := e
        refine j_geti (ci := 5) (RC := RX5) (T := TX5) (N := 12) 0 C rfl klX5 (Nat.le_of_ble_eq_true rfl) kX9_132 rfl dX9_value_44 ex30 ?_
        refine j_iconst (v := (1 : Int32)) C dX9_value_47 (by decide) ?_
        refine j_isub C dX9_value_48 ?_
        replace e := ob e
        obtain ⟨x31, ex31, e⟩ := e
        refine j_callS (As := [.int l3, .int (x30 - (1 : Int32))]) (na := 2) (st := []) (k1 := 0) (n1 := 0) C hr (sX9_isOutside ex31) kX9_171 kst_X9_isOutside kini_X9 kc_X9_isOutside (by decide) rfl ⟨(Nat.le_of_ble_eq_true rfl), (Nat.le_of_ble_eq_true rfl)⟩ (Nat.le_of_ble_eq_true rfl) ⟨rfl, rfl, (Nat.le_of_ble_eq_true rfl), (Nat.le_of_ble_eq_true rfl)⟩ dX9_value_49 ?_
        rintro _ _ ⟨rfl, rfl⟩
        show jx_J X 0 0 52 [(0, .ref l0), (1, .int l1), (2, .int l2), (3, .int l3)] [.int x31] h
        refine j_if_eq (tgt := 63) C dX9_value_52 (by decide) (fun c41 => ?_) (fun c41 => ?_)
        · replace e := ifp c41 e
          refine j_aload_n C dX9_value_63 rfl rfl ?_
          replace e := ob e
          obtain ⟨x32, ex32, e⟩ := e
          refine j_getr (ci := 9) (RC := RX9) (T := TX9) (N := 14) 6 C rfl klX9 (Nat.le_of_ble_eq_true rfl) kX9_40 rfl dX9_value_64 ex32 ?_
          refine j_iload_n C dX9_value_67 rfl rfl ?_
          refine j_iload_n C dX9_value_68 rfl rfl ?_
          refine j_aload_n C dX9_value_69 rfl rfl ?_
          replace e := ob e
          obtain ⟨x33, ex33, e⟩ := e
          refine j_getr (ci := 9) (RC := RX9) (T := TX9) (N := 14) 0 C rfl klX9 (Nat.le_of_ble_eq_true rfl) kX9_12 rfl dX9_value_70 ex33 ?_
          replace e := ob e
          obtain ⟨x34, ex34, e⟩ := e
          refine j_geti (ci := 5) (RC := RX5) (T := TX5) (N := 12) 0 C rfl klX5 (Nat.le_of_ble_eq_true rfl) kX9_132 rfl dX9_value_73 ex34 ?_
          replace e := ob e
          obtain ⟨_, eo35, e⟩ := e
          replace e := ob e
          obtain ⟨h36, eh36, e⟩ := e
          refine j_callV (ci := 4) (RC := RX4) (T := TX4) (N := 3) (As := [.int l2, .int l3, .int x34]) (b := x32) (na := 3) (st := []) (k1 := 0) (n1 := 0) C hr (sX4_moveTo eh36) rfl eo35 kX9_218 kim_X4_moveTo ksel_X4_moveTo kini_X4 kc_X4_moveTo (by decide) rfl ⟨(Nat.le_of_ble_eq_true rfl), (Nat.le_of_ble_eq_true rfl)⟩ (Nat.le_of_ble_eq_true rfl) ⟨rfl, rfl, (Nat.le_of_ble_eq_true rfl), (Nat.le_of_ble_eq_true rfl)⟩ dX9_value_76 ?_
          rintro _ _ ⟨rfl, rfl⟩
          show jx_J X 0 0 79 [(0, .ref l0), (1, .int l1), (2, .int l2), (3, .int l3)] [] h36
          refine j_aload_n C dX9_value_79 rfl rfl ?_
          replace e := ob e
          obtain ⟨x37, ex37, e⟩ := e
          refine j_getr (ci := 9) (RC := RX9) (T := TX9) (N := 14) 6 C rfl klX9 (Nat.le_of_ble_eq_true rfl) kX9_40 rfl dX9_value_80 ex37 ?_
          refine j_aload_n C dX9_value_83 rfl rfl ?_
          replace e := ob e
          obtain ⟨x38, ex38, e⟩ := e
          refine j_getr (ci := 9) (RC := RX9) (T := TX9) (N := 14) 0 C rfl klX9 (Nat.le_of_ble_eq_true rfl) kX9_12 rfl dX9_value_84 ex38 ?_
          refine j_iload_n C dX9_value_87 rfl rfl ?_
          replace e := ob e
          obtain ⟨_, eo39, e⟩ := e
          replace e := ob e
          obtain ⟨x40, ex40, e⟩ := e
          refine j_callV (ci := 4) (RC := RX4) (T := TX4) (N := 3) (As := [.ref x38, .int l1]) (b := x37) (na := 2) (st := []) (k1 := 0) (n1 := 0) C hr (sX4_valueOfRule ex40) rfl eo39 kX9_221 kim_X4_valueOfRule ksel_X4_valueOfRule kini_X4 kc_X4_valueOfRule (by decide) rfl ⟨(Nat.le_of_ble_eq_true rfl), (Nat.le_of_ble_eq_true rfl)⟩ (Nat.le_of_ble_eq_true rfl) ⟨rfl, rfl, (Nat.le_of_ble_eq_true rfl), (Nat.le_of_ble_eq_true rfl)⟩ dX9_value_88 ?_
          rintro _ _ ⟨rfl, rfl⟩
          show jx_J X 0 0 91 [(0, .ref l0), (1, .int l1), (2, .int l2), (3, .int l3)] [.int x40] h36
          cases e
          exact j_iretX C hq rfl dX9_value_91 ⟨Nat.le_of_ble_eq_true rfl, Nat.le_of_ble_eq_true rfl⟩ ⟨_, _, rfl, rfl, rfl⟩
        · replace e := ifn c41 e
          refine jx_sub (lv' := []) [] rfl ?_
          exact b55 h e
    · replace e := ifn c43 e
      refine jx_sub (lv' := []) [] rfl ?_
      exact b15 h e
/-! BorderBasis.table(III)I -/
noncomputable def BX9_table_32  (h : jx_H) : Option ((Int32 × jx_H) ⊕ (String × jx_H)) :=
some (.inr ("java/lang/IndexOutOfBoundsException", h))
noncomputable def FX9_table (l0 : Nat) (l1 : Int32) (l2 : Int32) (l3 : Int32) (h : jx_H) : Option ((Int32 × jx_H) ⊕ (String × jx_H)) :=
(hgr h l0 9 0).bind fun x1 =>
(hgi h x1 5 2).bind fun x2 =>
(FX9_isOutside l2 (x2 - (1 : Int32)) h).bind fun x3 =>
if x3 = 0 then
 (hgr h l0 9 0).bind fun x4 =>
 (hgi h x4 5 2).bind fun x5 =>
 (FX9_isOutside l3 (x5 - (1 : Int32)) h).bind fun x6 =>
 if x6 = 0 then
  (FX9_isOutside l1 (1 : Int32) h).bind fun x7 =>
  if x7 = 0 then
   (hgr h l0 9 7).bind fun x8 =>
   (isO h x8 6).bind fun _ =>
   bind2 (FX6_cell x8 l1 l2 l3 h) fun x10 h11 =>
   some (.inl (x10, h11))
  else
   some (.inr ("java/lang/IllegalArgumentException", h))
 else
  BX9_table_32  h
else
 BX9_table_32  h
def rmX9_table : Room := { frames := 6, cells := 1, slots := 6, locals := 117 }
set_option maxRecDepth 20000 in
set_option maxHeartbeats 4000000 in
theorem sX9_table {l0 : Nat} {l1 : Int32} {l2 : Int32} {l3 : Int32} {h : jx_H} {r : (Int32 × jx_H) ⊕ (String × jx_H)}  (e : FX9_table l0 l1 l2 l3 h = some r) : jx_Cx yX9_table cX9_table 4 (some .int) rmX9_table [.ref l0, .int l1, .int l2, .int l3] h (fun r' h' => ∃ (v : Int32) (h9 : jx_H), r = .inl (v, h9) ∧ some (.int v) = r' ∧ h9 = h') (fun E h' => ∃ (h9 : jx_H) (sz : Nat), r = .inr (E, h9) ∧ h9.1 ≤ sz ∧ h' = (sz, h9.2)) := by
  refine jx_Cx.of (own := RX9) (by decide) rfl (Nat.le_of_ble_eq_true rfl) (fun X C hq hr hL hN => ?_)
  refine jx_sub (lv' := [(0, .ref l0), (1, .int l1), (2, .int l2), (3, .int l3)]) [0, 1, 2, 3] rfl ?_
  have b32 : ∀ (h15 : jx_H), BX9_table_32 h15 = some r → jx_J X 0 0 32 [] [] h15 := by
    intro h15 e
    unfold BX9_table_32 at e
    cases e
    exact j_throw0 (names := jx_names) (ik := 152) (ic := 154) C hr hq jx_fits.2.2.2 jx_fits.1 kX9_152 kini_IndexOutOfBoundsException jx_thIOB ⟨rfl, rfl⟩ dX9_table_32 dX9_table_35 dX9_table_36 dX9_table_39 (Nat.le_of_ble_eq_true rfl) (Nat.le_of_ble_eq_true rfl) ⟨Nat.le_of_ble_eq_true rfl, Nat.le_of_ble_eq_true rfl, Nat.le_of_ble_eq_true rfl, Nat.le_of_ble_eq_true rfl⟩ (fun sz hsz => ⟨_, sz, rfl, hsz, rfl⟩)
  unfold FX9_table at e
  refine j_iload_n C dX9_table_0 rfl rfl ?_
  refine j_aload_n C dX9_table_1 rfl rfl ?_
  replace e := ob e
  obtain ⟨x16, ex16, e⟩ := e
  refine j_getr (ci := 9) (RC := RX9) (T := TX9) (N := 14) 0 C rfl klX9 (Nat.le_of_ble_eq_true rfl) kX9_12 rfl dX9_table_2 ex16 ?_
  replace e := ob e
  obtain ⟨x17, ex17, e⟩ := e
  refine j_geti (ci := 5) (RC := RX5) (T := TX5) (N := 12) 2 C rfl klX5 (Nat.le_of_ble_eq_true rfl) kX9_129 rfl dX9_table_5 ex17 ?_
  refine j_iconst (v := (1 : Int32)) C dX9_table_8 (by decide) ?_
  refine j_isub C dX9_table_9 ?_
  replace e := ob e
  obtain ⟨x18, ex18, e⟩ := e
  refine j_callS (As := [.int l2, .int (x17 - (1 : Int32))]) (na := 2) (st := []) (k1 := 0) (n1 := 0) C hr (sX9_isOutside ex18) kX9_171 kst_X9_isOutside kini_X9 kc_X9_isOutside (by decide) rfl ⟨(Nat.le_of_ble_eq_true rfl), (Nat.le_of_ble_eq_true rfl)⟩ (Nat.le_of_ble_eq_true rfl) ⟨rfl, rfl, (Nat.le_of_ble_eq_true rfl), (Nat.le_of_ble_eq_true rfl)⟩ dX9_table_10 ?_
  rintro _ _ ⟨rfl, rfl⟩
  show jx_J X 0 0 13 [(0, .ref l0), (1, .int l1), (2, .int l2), (3, .int l3)] [.int x18] h
  refine j_if_ne (tgt := 32) C dX9_table_13 (by decide) (fun c29 => ?_) (fun c29 => ?_)
  · replace e := ifn c29 e
    refine jx_sub (lv' := []) [] rfl ?_
    exact b32 h e
  · replace e := ifp c29 e
    refine j_iload_n C dX9_table_16 rfl rfl ?_
    refine j_aload_n C dX9_table_17 rfl rfl ?_
    replace e := ob e
    obtain ⟨x19, ex19, e⟩ := e
    refine j_getr (ci := 9) (RC := RX9) (T := TX9) (N := 14) 0 C rfl klX9 (Nat.le_of_ble_eq_true rfl) kX9_12 rfl dX9_table_18 ex19 ?_
    replace e := ob e
    obtain ⟨x20, ex20, e⟩ := e
    refine j_geti (ci := 5) (RC := RX5) (T := TX5) (N := 12) 2 C rfl klX5 (Nat.le_of_ble_eq_true rfl) kX9_129 rfl dX9_table_21 ex20 ?_
    refine j_iconst (v := (1 : Int32)) C dX9_table_24 (by decide) ?_
    refine j_isub C dX9_table_25 ?_
    replace e := ob e
    obtain ⟨x21, ex21, e⟩ := e
    refine j_callS (As := [.int l3, .int (x20 - (1 : Int32))]) (na := 2) (st := []) (k1 := 0) (n1 := 0) C hr (sX9_isOutside ex21) kX9_171 kst_X9_isOutside kini_X9 kc_X9_isOutside (by decide) rfl ⟨(Nat.le_of_ble_eq_true rfl), (Nat.le_of_ble_eq_true rfl)⟩ (Nat.le_of_ble_eq_true rfl) ⟨rfl, rfl, (Nat.le_of_ble_eq_true rfl), (Nat.le_of_ble_eq_true rfl)⟩ dX9_table_26 ?_
    rintro _ _ ⟨rfl, rfl⟩
    show jx_J X 0 0 29 [(0, .ref l0), (1, .int l1), (2, .int l2), (3, .int l3)] [.int x21] h
    refine j_if_eq (tgt := 40) C dX9_table_29 (by decide) (fun c28 => ?_) (fun c28 => ?_)
    · replace e := ifp c28 e
      refine j_iload_n C dX9_table_40 rfl rfl ?_
      refine j_iconst (v := (1 : Int32)) C dX9_table_41 (by decide) ?_
      replace e := ob e
      obtain ⟨x22, ex22, e⟩ := e
      refine j_callS (As := [.int l1, .int (1 : Int32)]) (na := 2) (st := []) (k1 := 0) (n1 := 0) C hr (sX9_isOutside ex22) kX9_171 kst_X9_isOutside kini_X9 kc_X9_isOutside (by decide) rfl ⟨(Nat.le_of_ble_eq_true rfl), (Nat.le_of_ble_eq_true rfl)⟩ (Nat.le_of_ble_eq_true rfl) ⟨rfl, rfl, (Nat.le_of_ble_eq_true rfl), (Nat.le_of_ble_eq_true rfl)⟩ dX9_table_42 ?_
      rintro _ _ ⟨rfl, rfl⟩
      show jx_J X 0 0 45 [(0, .ref l0), (1, .int l1), (2, .int l2), (3, .int l3)] [.int x22] h
      refine j_if_eq (tgt := 56) C dX9_table_45 (by decide) (fun c27 => ?_) (fun c27 => ?_)
      · replace e := ifp c27 e
        refine j_aload_n C dX9_table_56 rfl rfl ?_
        replace e := ob e
        obtain ⟨x23, ex23, e⟩ := e
        refine j_getr (ci := 9) (RC := RX9) (T := TX9) (N := 14) 7 C rfl klX9 (Nat.le_of_ble_eq_true rfl) kX9_49 rfl dX9_table_57 ex23 ?_
        refine j_iload_n C dX9_table_60 rfl rfl ?_
        refine j_iload_n C dX9_table_61 rfl rfl ?_
        refine j_iload_n C dX9_table_62 rfl rfl ?_
        replace e := ob e
        obtain ⟨_, eo24, e⟩ := e
        replace e := ob2 e
        obtain ⟨x25, h26, ex25, e⟩ := e
        refine j_callV (ci := 6) (RC := RX6) (T := TX6) (N := 17) (As := [.int l1, .int l2, .int l3]) (b := x23) (na := 3) (st := []) (k1 := 0) (n1 := 0) C hr (sX6_cell ex25) rfl eo24 kX9_225 kim_X6_cell ksel_X6_cell kini_X6 kc_X6_cell (by decide) rfl ⟨(Nat.le_of_ble_eq_true rfl), (Nat.le_of_ble_eq_true rfl)⟩ (Nat.le_of_ble_eq_true rfl) ⟨rfl, rfl, (Nat.le_of_ble_eq_true rfl), (Nat.le_of_ble_eq_true rfl)⟩ dX9_table_63 ?_
        rintro _ _ ⟨rfl, rfl⟩
        show jx_J X 0 0 66 [(0, .ref l0), (1, .int l1), (2, .int l2), (3, .int l3)] [.int x25] h26
        cases e
        exact j_iretX C hq rfl dX9_table_66 ⟨Nat.le_of_ble_eq_true rfl, Nat.le_of_ble_eq_true rfl⟩ ⟨_, _, rfl, rfl, rfl⟩
      · replace e := ifn c27 e
        cases e
        exact j_throw0 (names := jx_names) (ik := 104) (ic := 106) C hr hq jx_fits.2.2.1 jx_fits.1 kX9_104 kini_IllegalArgumentException jx_thIAE ⟨rfl, rfl⟩ dX9_table_48 dX9_table_51 dX9_table_52 dX9_table_55 (Nat.le_of_ble_eq_true rfl) (Nat.le_of_ble_eq_true rfl) ⟨Nat.le_of_ble_eq_true rfl, Nat.le_of_ble_eq_true rfl, Nat.le_of_ble_eq_true rfl, Nat.le_of_ble_eq_true rfl⟩ (fun sz hsz => ⟨_, sz, rfl, hsz, rfl⟩)
    · replace e := ifn c28 e
      refine jx_sub (lv' := []) [] rfl ?_
      exact b32 h e
/-! BorderBasis.clash(I)I -/
noncomputable def FX9_clash (l0 : Nat) (l1 : Int32) (h : jx_H) : Option ((Int32 × jx_H) ⊕ (String × jx_H)) :=
(FX9_isOutside l1 (4 : Int32) h).bind fun x1 =>
if x1 = 0 then
 (hgr h l0 9 7).bind fun x2 =>
 (isO h x2 6).bind fun _ =>
 bind2 (FX6_differences x2 h) fun x4 h5 =>
 if l1 = (4 : Int32) then
  some (.inl (x4, h5))
 else
  if x4 = 0 then
   some (.inl ((-1 : Int32), h5))
  else
   (hgr h5 l0 9 7).bind fun x6 =>
   (isO h5 x6 6).bind fun _ =>
   bind2 (FX6_firstDifference x6 l1 h5) fun x8 h9 =>
   some (.inl (x8, h9))
else
 some (.inr ("java/lang/IllegalArgumentException", h))
def rmX9_clash : Room := { frames := 6, cells := 1, slots := 6, locals := 115 }
set_option maxRecDepth 20000 in
set_option maxHeartbeats 4000000 in
theorem sX9_clash {l0 : Nat} {l1 : Int32} {h : jx_H} {r : (Int32 × jx_H) ⊕ (String × jx_H)}  (e : FX9_clash l0 l1 h = some r) : jx_Cx yX9_clash cX9_clash 3 (some .int) rmX9_clash [.ref l0, .int l1] h (fun r' h' => ∃ (v : Int32) (h9 : jx_H), r = .inl (v, h9) ∧ some (.int v) = r' ∧ h9 = h') (fun E h' => ∃ (h9 : jx_H) (sz : Nat), r = .inr (E, h9) ∧ h9.1 ≤ sz ∧ h' = (sz, h9.2)) := by
  refine jx_Cx.of (own := RX9) (by decide) rfl (Nat.le_of_ble_eq_true rfl) (fun X C hq hr hL hN => ?_)
  refine jx_sub (lv' := [(0, .ref l0), (1, .int l1)]) [0, 1] rfl ?_
  unfold FX9_clash at e
  refine j_iload_n C dX9_clash_0 rfl rfl ?_
  refine j_iconst (v := (4 : Int32)) C dX9_clash_1 (by decide) ?_
  replace e := ob e
  obtain ⟨x13, ex13, e⟩ := e
  refine j_callS (As := [.int l1, .int (4 : Int32)]) (na := 2) (st := []) (k1 := 0) (n1 := 0) C hr (sX9_isOutside ex13) kX9_171 kst_X9_isOutside kini_X9 kc_X9_isOutside (by decide) rfl ⟨(Nat.le_of_ble_eq_true rfl), (Nat.le_of_ble_eq_true rfl)⟩ (Nat.le_of_ble_eq_true rfl) ⟨rfl, rfl, (Nat.le_of_ble_eq_true rfl), (Nat.le_of_ble_eq_true rfl)⟩ dX9_clash_2 ?_
  rintro _ _ ⟨rfl, rfl⟩
  show jx_J X 0 0 5 [(0, .ref l0), (1, .int l1)] [.int x13] h
  refine j_if_eq (tgt := 16) C dX9_clash_5 (by decide) (fun c24 => ?_) (fun c24 => ?_)
  · replace e := ifp c24 e
    refine j_aload_n C dX9_clash_16 rfl rfl ?_
    replace e := ob e
    obtain ⟨x14, ex14, e⟩ := e
    refine j_getr (ci := 9) (RC := RX9) (T := TX9) (N := 14) 7 C rfl klX9 (Nat.le_of_ble_eq_true rfl) kX9_49 rfl dX9_clash_17 ex14 ?_
    replace e := ob e
    obtain ⟨_, eo15, e⟩ := e
    replace e := ob2 e
    obtain ⟨x16, h17, ex16, e⟩ := e
    refine j_callV (ci := 6) (RC := RX6) (T := TX6) (N := 17) (As := []) (b := x14) (na := 0) (st := []) (k1 := 0) (n1 := 0) C hr (sX6_differences ex16) rfl eo15 kX9_229 kim_X6_differences ksel_X6_differences kini_X6 kc_X6_differences (by decide) rfl ⟨(Nat.le_of_ble_eq_true rfl), (Nat.le_of_ble_eq_true rfl)⟩ (Nat.le_of_ble_eq_true rfl) ⟨rfl, rfl, (Nat.le_of_ble_eq_true rfl), (Nat.le_of_ble_eq_true rfl)⟩ dX9_clash_20 ?_
    rintro _ _ ⟨rfl, rfl⟩
    show jx_J X 0 0 23 [(0, .ref l0), (1, .int l1)] [.int x16] h17
    refine j_istore_n (lv1 := [(2, .int x16), (0, .ref l0), (1, .int l1)]) C hL dX9_clash_23 rfl (Nat.le_of_ble_eq_true rfl) rfl ?_
    refine j_iload_n C dX9_clash_24 rfl rfl ?_
    refine j_iconst (v := (4 : Int32)) C dX9_clash_25 (by decide) ?_
    refine j_icmp_ne (tgt := 31) C dX9_clash_26 (by decide) (fun c23 => ?_) (fun c23 => ?_)
    · replace e := ifn c23 e
      refine j_iload_n C dX9_clash_31 rfl rfl ?_
      refine j_if_ne (tgt := 39) C dX9_clash_32 (by decide) (fun c22 => ?_) (fun c22 => ?_)
      · replace e := ifn c22 e
        refine j_aload_n C dX9_clash_39 rfl rfl ?_
        replace e := ob e
        obtain ⟨x18, ex18, e⟩ := e
        refine j_getr (ci := 9) (RC := RX9) (T := TX9) (N := 14) 7 C rfl klX9 (Nat.le_of_ble_eq_true rfl) kX9_49 rfl dX9_clash_40 ex18 ?_
        refine j_iload_n C dX9_clash_43 rfl rfl ?_
        replace e := ob e
        obtain ⟨_, eo19, e⟩ := e
        replace e := ob2 e
        obtain ⟨x20, h21, ex20, e⟩ := e
        refine j_callV (ci := 6) (RC := RX6) (T := TX6) (N := 17) (As := [.int l1]) (b := x18) (na := 1) (st := []) (k1 := 0) (n1 := 0) C hr (sX6_firstDifference ex20) rfl eo19 kX9_232 kim_X6_firstDifference ksel_X6_firstDifference kini_X6 kc_X6_firstDifference (by decide) rfl ⟨(Nat.le_of_ble_eq_true rfl), (Nat.le_of_ble_eq_true rfl)⟩ (Nat.le_of_ble_eq_true rfl) ⟨rfl, rfl, (Nat.le_of_ble_eq_true rfl), (Nat.le_of_ble_eq_true rfl)⟩ dX9_clash_44 ?_
        rintro _ _ ⟨rfl, rfl⟩
        show jx_J X 0 0 47 [(2, .int x16), (0, .ref l0), (1, .int l1)] [.int x20] h21
        cases e
        exact j_iretX C hq rfl dX9_clash_47 ⟨Nat.le_of_ble_eq_true rfl, Nat.le_of_ble_eq_true rfl⟩ ⟨_, _, rfl, rfl, rfl⟩
      · replace e := ifp c22 e
        refine j_iconst (v := (-1 : Int32)) C dX9_clash_35 (by decide) ?_
        refine j_goto (tgt := 47) C dX9_clash_36 (by decide) ?_
        cases e
        exact j_iretX C hq rfl dX9_clash_47 ⟨Nat.le_of_ble_eq_true rfl, Nat.le_of_ble_eq_true rfl⟩ ⟨_, _, rfl, rfl, rfl⟩
    · replace e := ifp c23 e
      refine j_iload_n C dX9_clash_29 rfl rfl ?_
      cases e
      exact j_iretX C hq rfl dX9_clash_30 ⟨Nat.le_of_ble_eq_true rfl, Nat.le_of_ble_eq_true rfl⟩ ⟨_, _, rfl, rfl, rfl⟩
  · replace e := ifn c24 e
    cases e
    exact j_throw0 (names := jx_names) (ik := 104) (ic := 106) C hr hq jx_fits.2.2.1 jx_fits.1 kX9_104 kini_IllegalArgumentException jx_thIAE ⟨rfl, rfl⟩ dX9_clash_8 dX9_clash_11 dX9_clash_12 dX9_clash_15 (Nat.le_of_ble_eq_true rfl) (Nat.le_of_ble_eq_true rfl) ⟨Nat.le_of_ble_eq_true rfl, Nat.le_of_ble_eq_true rfl, Nat.le_of_ble_eq_true rfl, Nat.le_of_ble_eq_true rfl⟩ (fun sz hsz => ⟨_, sz, rfl, hsz, rfl⟩)
/-! BorderBasis.trace(II)I -/
noncomputable def BX9_trace_18  (h : jx_H) : Option ((Int32 × jx_H) ⊕ (String × jx_H)) :=
some (.inr ("java/lang/IllegalArgumentException", h))
noncomputable def FX9_trace (l0 : Nat) (l1 : Int32) (l2 : Int32) (h : jx_H) : Option ((Int32 × jx_H) ⊕ (String × jx_H)) :=
(FX9_isOutside l1 (22 : Int32) h).bind fun x1 =>
if x1 = 0 then
 (FX9_isOutside l2 (22 : Int32) h).bind fun x2 =>
 if x2 = 0 then
  (hgr h l0 9 7).bind fun x3 =>
  (isO h x3 6).bind fun _ =>
  bind2 (FX6_traceOfPowers x3 l1 l2 h) fun x5 h6 =>
  some (.inl (x5, h6))
 else
  BX9_trace_18  h
else
 BX9_trace_18  h
def rmX9_trace : Room := { frames := 6, cells := 1, slots := 6, locals := 144 }
set_option maxRecDepth 20000 in
set_option maxHeartbeats 4000000 in
theorem sX9_trace {l0 : Nat} {l1 : Int32} {l2 : Int32} {h : jx_H} {r : (Int32 × jx_H) ⊕ (String × jx_H)}  (e : FX9_trace l0 l1 l2 h = some r) : jx_Cx yX9_trace cX9_trace 3 (some .int) rmX9_trace [.ref l0, .int l1, .int l2] h (fun r' h' => ∃ (v : Int32) (h9 : jx_H), r = .inl (v, h9) ∧ some (.int v) = r' ∧ h9 = h') (fun E h' => ∃ (h9 : jx_H) (sz : Nat), r = .inr (E, h9) ∧ h9.1 ≤ sz ∧ h' = (sz, h9.2)) := by
  refine jx_Cx.of (own := RX9) (by decide) rfl (Nat.le_of_ble_eq_true rfl) (fun X C hq hr hL hN => ?_)
  refine jx_sub (lv' := [(0, .ref l0), (1, .int l1), (2, .int l2)]) [0, 1, 2] rfl ?_
  have b18 : ∀ (h9 : jx_H), BX9_trace_18 h9 = some r → jx_J X 0 0 18 [] [] h9 := by
    intro h9 e
    unfold BX9_trace_18 at e
    cases e
    exact j_throw0 (names := jx_names) (ik := 104) (ic := 106) C hr hq jx_fits.2.2.1 jx_fits.1 kX9_104 kini_IllegalArgumentException jx_thIAE ⟨rfl, rfl⟩ dX9_trace_18 dX9_trace_21 dX9_trace_22 dX9_trace_25 (Nat.le_of_ble_eq_true rfl) (Nat.le_of_ble_eq_true rfl) ⟨Nat.le_of_ble_eq_true rfl, Nat.le_of_ble_eq_true rfl, Nat.le_of_ble_eq_true rfl, Nat.le_of_ble_eq_true rfl⟩ (fun sz hsz => ⟨_, sz, rfl, hsz, rfl⟩)
  unfold FX9_trace at e
  refine j_iload_n C dX9_trace_0 rfl rfl ?_
  refine j_bipush (v := (22 : Int32)) C dX9_trace_1 (by decide) ?_
  replace e := ob e
  obtain ⟨x10, ex10, e⟩ := e
  refine j_callS (As := [.int l1, .int (22 : Int32)]) (na := 2) (st := []) (k1 := 0) (n1 := 0) C hr (sX9_isOutside ex10) kX9_171 kst_X9_isOutside kini_X9 kc_X9_isOutside (by decide) rfl ⟨(Nat.le_of_ble_eq_true rfl), (Nat.le_of_ble_eq_true rfl)⟩ (Nat.le_of_ble_eq_true rfl) ⟨rfl, rfl, (Nat.le_of_ble_eq_true rfl), (Nat.le_of_ble_eq_true rfl)⟩ dX9_trace_3 ?_
  rintro _ _ ⟨rfl, rfl⟩
  show jx_J X 0 0 6 [(0, .ref l0), (1, .int l1), (2, .int l2)] [.int x10] h
  refine j_if_ne (tgt := 18) C dX9_trace_6 (by decide) (fun c17 => ?_) (fun c17 => ?_)
  · replace e := ifn c17 e
    refine jx_sub (lv' := []) [] rfl ?_
    exact b18 h e
  · replace e := ifp c17 e
    refine j_iload_n C dX9_trace_9 rfl rfl ?_
    refine j_bipush (v := (22 : Int32)) C dX9_trace_10 (by decide) ?_
    replace e := ob e
    obtain ⟨x11, ex11, e⟩ := e
    refine j_callS (As := [.int l2, .int (22 : Int32)]) (na := 2) (st := []) (k1 := 0) (n1 := 0) C hr (sX9_isOutside ex11) kX9_171 kst_X9_isOutside kini_X9 kc_X9_isOutside (by decide) rfl ⟨(Nat.le_of_ble_eq_true rfl), (Nat.le_of_ble_eq_true rfl)⟩ (Nat.le_of_ble_eq_true rfl) ⟨rfl, rfl, (Nat.le_of_ble_eq_true rfl), (Nat.le_of_ble_eq_true rfl)⟩ dX9_trace_12 ?_
    rintro _ _ ⟨rfl, rfl⟩
    show jx_J X 0 0 15 [(0, .ref l0), (1, .int l1), (2, .int l2)] [.int x11] h
    refine j_if_eq (tgt := 26) C dX9_trace_15 (by decide) (fun c16 => ?_) (fun c16 => ?_)
    · replace e := ifp c16 e
      refine j_aload_n C dX9_trace_26 rfl rfl ?_
      replace e := ob e
      obtain ⟨x12, ex12, e⟩ := e
      refine j_getr (ci := 9) (RC := RX9) (T := TX9) (N := 14) 7 C rfl klX9 (Nat.le_of_ble_eq_true rfl) kX9_49 rfl dX9_trace_27 ex12 ?_
      refine j_iload_n C dX9_trace_30 rfl rfl ?_
      refine j_iload_n C dX9_trace_31 rfl rfl ?_
      replace e := ob e
      obtain ⟨_, eo13, e⟩ := e
      replace e := ob2 e
      obtain ⟨x14, h15, ex14, e⟩ := e
      refine j_callV (ci := 6) (RC := RX6) (T := TX6) (N := 17) (As := [.int l1, .int l2]) (b := x12) (na := 2) (st := []) (k1 := 0) (n1 := 0) C hr (sX6_traceOfPowers ex14) rfl eo13 kX9_236 kim_X6_traceOfPowers ksel_X6_traceOfPowers kini_X6 kc_X6_traceOfPowers (by decide) rfl ⟨(Nat.le_of_ble_eq_true rfl), (Nat.le_of_ble_eq_true rfl)⟩ (Nat.le_of_ble_eq_true rfl) ⟨rfl, rfl, (Nat.le_of_ble_eq_true rfl), (Nat.le_of_ble_eq_true rfl)⟩ dX9_trace_32 ?_
      rintro _ _ ⟨rfl, rfl⟩
      show jx_J X 0 0 35 [(0, .ref l0), (1, .int l1), (2, .int l2)] [.int x14] h15
      cases e
      exact j_iretX C hq rfl dX9_trace_35 ⟨Nat.le_of_ble_eq_true rfl, Nat.le_of_ble_eq_true rfl⟩ ⟨_, _, rfl, rfl, rfl⟩
    · replace e := ifn c16 e
      refine jx_sub (lv' := []) [] rfl ?_
      exact b18 h e
/-! BorderBasis.normal(III)I -/
noncomputable def BX9_normal_15  (h : jx_H) : Option ((Int32 × jx_H) ⊕ (String × jx_H)) :=
some (.inr ("java/lang/IndexOutOfBoundsException", h))
noncomputable def BX9_normal_41  (h : jx_H) : Option ((Int32 × jx_H) ⊕ (String × jx_H)) :=
some (.inr ("java/lang/IllegalArgumentException", h))
noncomputable def FX9_normal (l0 : Nat) (l1 : Int32) (l2 : Int32) (l3 : Int32) (h : jx_H) : Option ((Int32 × jx_H) ⊕ (String × jx_H)) :=
if l3 < 0 then
 BX9_normal_15  h
else
 (hgr h l0 9 0).bind fun x1 =>
 (hgi h x1 5 2).bind fun x2 =>
 if l3 < x2 then
  (FX9_isOutside l1 (22 : Int32) h).bind fun x3 =>
  if x3 = 0 then
   (FX9_isOutside l2 (22 : Int32) h).bind fun x4 =>
   if x4 = 0 then
    (hgr h l0 9 7).bind fun x5 =>
    (isO h x5 6).bind fun _ =>
    (FX6_prepare x5 h).bind fun h7 =>
    (hgr h7 l0 9 7).bind fun x8 =>
    (hgr h7 l0 9 13).bind fun x9 =>
    (isO h7 x8 6).bind fun _ =>
    (FX6_normalFormOfMonomial x8 l1 l2 x9 h7).bind fun h11 =>
    (hgr h11 l0 9 13).bind fun x12 =>
    (hal h11 .int x12 l3).bind fun x13 =>
    some (.inl (x13, h11))
   else
    BX9_normal_41  h
  else
   BX9_normal_41  h
 else
  BX9_normal_15  h
def rmX9_normal : Room := { frames := 6, cells := 1, slots := 6, locals := 94 }
set_option maxRecDepth 20000 in
set_option maxHeartbeats 4000000 in
theorem sX9_normal {l0 : Nat} {l1 : Int32} {l2 : Int32} {l3 : Int32} {h : jx_H} {r : (Int32 × jx_H) ⊕ (String × jx_H)}  (e : FX9_normal l0 l1 l2 l3 h = some r) : jx_Cx yX9_normal cX9_normal 4 (some .int) rmX9_normal [.ref l0, .int l1, .int l2, .int l3] h (fun r' h' => ∃ (v : Int32) (h9 : jx_H), r = .inl (v, h9) ∧ some (.int v) = r' ∧ h9 = h') (fun E h' => ∃ (h9 : jx_H) (sz : Nat), r = .inr (E, h9) ∧ h9.1 ≤ sz ∧ h' = (sz, h9.2)) := by
  refine jx_Cx.of (own := RX9) (by decide) rfl (Nat.le_of_ble_eq_true rfl) (fun X C hq hr hL hN => ?_)
  refine jx_sub (lv' := [(0, .ref l0), (1, .int l1), (2, .int l2), (3, .int l3)]) [0, 1, 2, 3] rfl ?_
  have b15 : ∀ (h18 : jx_H), BX9_normal_15 h18 = some r → jx_J X 0 0 15 [] [] h18 := by
    intro h18 e
    unfold BX9_normal_15 at e
    cases e
    exact j_throw0 (names := jx_names) (ik := 152) (ic := 154) C hr hq jx_fits.2.2.2 jx_fits.1 kX9_152 kini_IndexOutOfBoundsException jx_thIOB ⟨rfl, rfl⟩ dX9_normal_15 dX9_normal_18 dX9_normal_19 dX9_normal_22 (Nat.le_of_ble_eq_true rfl) (Nat.le_of_ble_eq_true rfl) ⟨Nat.le_of_ble_eq_true rfl, Nat.le_of_ble_eq_true rfl, Nat.le_of_ble_eq_true rfl, Nat.le_of_ble_eq_true rfl⟩ (fun sz hsz => ⟨_, sz, rfl, hsz, rfl⟩)
  have b41 : ∀ (h19 : jx_H), BX9_normal_41 h19 = some r → jx_J X 0 0 41 [] [] h19 := by
    intro h19 e
    unfold BX9_normal_41 at e
    cases e
    exact j_throw0 (names := jx_names) (ik := 104) (ic := 106) C hr hq jx_fits.2.2.1 jx_fits.1 kX9_104 kini_IllegalArgumentException jx_thIAE ⟨rfl, rfl⟩ dX9_normal_41 dX9_normal_44 dX9_normal_45 dX9_normal_48 (Nat.le_of_ble_eq_true rfl) (Nat.le_of_ble_eq_true rfl) ⟨Nat.le_of_ble_eq_true rfl, Nat.le_of_ble_eq_true rfl, Nat.le_of_ble_eq_true rfl, Nat.le_of_ble_eq_true rfl⟩ (fun sz hsz => ⟨_, sz, rfl, hsz, rfl⟩)
  unfold FX9_normal at e
  refine j_iload_n C dX9_normal_0 rfl rfl ?_
  refine j_if_lt (tgt := 15) C dX9_normal_1 (by decide) (fun c36 => ?_) (fun c36 => ?_)
  · replace e := ifp c36 e
    refine jx_sub (lv' := []) [] rfl ?_
    exact b15 h e
  · replace e := ifn c36 e
    refine j_iload_n C dX9_normal_4 rfl rfl ?_
    refine j_aload_n C dX9_normal_5 rfl rfl ?_
    replace e := ob e
    obtain ⟨x20, ex20, e⟩ := e
    refine j_getr (ci := 9) (RC := RX9) (T := TX9) (N := 14) 0 C rfl klX9 (Nat.le_of_ble_eq_true rfl) kX9_12 rfl dX9_normal_6 ex20 ?_
    replace e := ob e
    obtain ⟨x21, ex21, e⟩ := e
    refine j_geti (ci := 5) (RC := RX5) (T := TX5) (N := 12) 2 C rfl klX5 (Nat.le_of_ble_eq_true rfl) kX9_129 rfl dX9_normal_9 ex21 ?_
    refine j_icmp_lt (tgt := 23) C dX9_normal_12 (by decide) (fun c35 => ?_) (fun c35 => ?_)
    · replace e := ifp c35 e
      refine j_iload_n C dX9_normal_23 rfl rfl ?_
      refine j_bipush (v := (22 : Int32)) C dX9_normal_24 (by decide) ?_
      replace e := ob e
      obtain ⟨x22, ex22, e⟩ := e
      refine j_callS (As := [.int l1, .int (22 : Int32)]) (na := 2) (st := []) (k1 := 0) (n1 := 0) C hr (sX9_isOutside ex22) kX9_171 kst_X9_isOutside kini_X9 kc_X9_isOutside (by decide) rfl ⟨(Nat.le_of_ble_eq_true rfl), (Nat.le_of_ble_eq_true rfl)⟩ (Nat.le_of_ble_eq_true rfl) ⟨rfl, rfl, (Nat.le_of_ble_eq_true rfl), (Nat.le_of_ble_eq_true rfl)⟩ dX9_normal_26 ?_
      rintro _ _ ⟨rfl, rfl⟩
      show jx_J X 0 0 29 [(0, .ref l0), (1, .int l1), (2, .int l2), (3, .int l3)] [.int x22] h
      refine j_if_ne (tgt := 41) C dX9_normal_29 (by decide) (fun c34 => ?_) (fun c34 => ?_)
      · replace e := ifn c34 e
        refine jx_sub (lv' := []) [] rfl ?_
        exact b41 h e
      · replace e := ifp c34 e
        refine j_iload_n C dX9_normal_32 rfl rfl ?_
        refine j_bipush (v := (22 : Int32)) C dX9_normal_33 (by decide) ?_
        replace e := ob e
        obtain ⟨x23, ex23, e⟩ := e
        refine j_callS (As := [.int l2, .int (22 : Int32)]) (na := 2) (st := []) (k1 := 0) (n1 := 0) C hr (sX9_isOutside ex23) kX9_171 kst_X9_isOutside kini_X9 kc_X9_isOutside (by decide) rfl ⟨(Nat.le_of_ble_eq_true rfl), (Nat.le_of_ble_eq_true rfl)⟩ (Nat.le_of_ble_eq_true rfl) ⟨rfl, rfl, (Nat.le_of_ble_eq_true rfl), (Nat.le_of_ble_eq_true rfl)⟩ dX9_normal_35 ?_
        rintro _ _ ⟨rfl, rfl⟩
        show jx_J X 0 0 38 [(0, .ref l0), (1, .int l1), (2, .int l2), (3, .int l3)] [.int x23] h
        refine j_if_eq (tgt := 49) C dX9_normal_38 (by decide) (fun c33 => ?_) (fun c33 => ?_)
        · replace e := ifp c33 e
          refine j_aload_n C dX9_normal_49 rfl rfl ?_
          replace e := ob e
          obtain ⟨x24, ex24, e⟩ := e
          refine j_getr (ci := 9) (RC := RX9) (T := TX9) (N := 14) 7 C rfl klX9 (Nat.le_of_ble_eq_true rfl) kX9_49 rfl dX9_normal_50 ex24 ?_
          replace e := ob e
          obtain ⟨_, eo25, e⟩ := e
          replace e := ob e
          obtain ⟨h26, eh26, e⟩ := e
          refine j_callV (ci := 6) (RC := RX6) (T := TX6) (N := 17) (As := []) (b := x24) (na := 0) (st := []) (k1 := 0) (n1 := 0) C hr (sX6_prepare eh26) rfl eo25 kX9_239 kim_X6_prepare ksel_X6_prepare kini_X6 kc_X6_prepare (by decide) rfl ⟨(Nat.le_of_ble_eq_true rfl), (Nat.le_of_ble_eq_true rfl)⟩ (Nat.le_of_ble_eq_true rfl) ⟨rfl, rfl, (Nat.le_of_ble_eq_true rfl), (Nat.le_of_ble_eq_true rfl)⟩ dX9_normal_53 ?_
          rintro _ _ ⟨rfl, rfl⟩
          show jx_J X 0 0 56 [(0, .ref l0), (1, .int l1), (2, .int l2), (3, .int l3)] [] h26
          refine j_aload_n C dX9_normal_56 rfl rfl ?_
          replace e := ob e
          obtain ⟨x27, ex27, e⟩ := e
          refine j_getr (ci := 9) (RC := RX9) (T := TX9) (N := 14) 7 C rfl klX9 (Nat.le_of_ble_eq_true rfl) kX9_49 rfl dX9_normal_57 ex27 ?_
          refine j_iload_n C dX9_normal_60 rfl rfl ?_
          refine j_iload_n C dX9_normal_61 rfl rfl ?_
          refine j_aload_n C dX9_normal_62 rfl rfl ?_
          replace e := ob e
          obtain ⟨x28, ex28, e⟩ := e
          refine j_getr (ci := 9) (RC := RX9) (T := TX9) (N := 14) 13 C rfl klX9 (Nat.le_of_ble_eq_true rfl) kX9_90 rfl dX9_normal_63 ex28 ?_
          replace e := ob e
          obtain ⟨_, eo29, e⟩ := e
          replace e := ob e
          obtain ⟨h30, eh30, e⟩ := e
          refine j_callV (ci := 6) (RC := RX6) (T := TX6) (N := 17) (As := [.int l1, .int l2, .ref x28]) (b := x27) (na := 3) (st := []) (k1 := 0) (n1 := 0) C hr (sX6_normalFormOfMonomial eh30) rfl eo29 kX9_242 kim_X6_normalFormOfMonomial ksel_X6_normalFormOfMonomial kini_X6 kc_X6_normalFormOfMonomial (by decide) rfl ⟨(Nat.le_of_ble_eq_true rfl), (Nat.le_of_ble_eq_true rfl)⟩ (Nat.le_of_ble_eq_true rfl) ⟨rfl, rfl, (Nat.le_of_ble_eq_true rfl), (Nat.le_of_ble_eq_true rfl)⟩ dX9_normal_66 ?_
          rintro _ _ ⟨rfl, rfl⟩
          show jx_J X 0 0 69 [(0, .ref l0), (1, .int l1), (2, .int l2), (3, .int l3)] [] h30
          refine j_aload_n C dX9_normal_69 rfl rfl ?_
          replace e := ob e
          obtain ⟨x31, ex31, e⟩ := e
          refine j_getr (ci := 9) (RC := RX9) (T := TX9) (N := 14) 13 C rfl klX9 (Nat.le_of_ble_eq_true rfl) kX9_90 rfl dX9_normal_70 ex31 ?_
          refine j_iload_n C dX9_normal_73 rfl rfl ?_
          replace e := ob e
          obtain ⟨x32, ex32, e⟩ := e
          refine j_iald C dX9_normal_74 ex32 ?_
          cases e
          exact j_iretX C hq rfl dX9_normal_75 ⟨Nat.le_of_ble_eq_true rfl, Nat.le_of_ble_eq_true rfl⟩ ⟨_, _, rfl, rfl, rfl⟩
        · replace e := ifn c33 e
          refine jx_sub (lv' := []) [] rfl ?_
          exact b41 h e
    · replace e := ifn c35 e
      refine jx_sub (lv' := []) [] rfl ?_
      exact b15 h e
/-! BorderBasis.determinant(I)I -/
noncomputable def FX9_determinant (l0 : Nat) (l1 : Int32) (h : jx_H) : Option ((Int32 × jx_H) ⊕ (String × jx_H)) :=
(FX9_isOutside l1 (1 : Int32) h).bind fun x1 =>
if x1 = 0 then
 (hgr h l0 9 7).bind fun x2 =>
 (isO h x2 6).bind fun _ =>
 bind2 (FX6_determinantOf x2 l1 h) fun x4 h5 =>
 some (.inl (x4, h5))
else
 some (.inr ("java/lang/IllegalArgumentException", h))
def rmX9_determinant : Room := { frames := 6, cells := 1, slots := 6, locals := 119 }
set_option maxRecDepth 20000 in
set_option maxHeartbeats 4000000 in
theorem sX9_determinant {l0 : Nat} {l1 : Int32} {h : jx_H} {r : (Int32 × jx_H) ⊕ (String × jx_H)}  (e : FX9_determinant l0 l1 h = some r) : jx_Cx yX9_determinant cX9_determinant 2 (some .int) rmX9_determinant [.ref l0, .int l1] h (fun r' h' => ∃ (v : Int32) (h9 : jx_H), r = .inl (v, h9) ∧ some (.int v) = r' ∧ h9 = h') (fun E h' => ∃ (h9 : jx_H) (sz : Nat), r = .inr (E, h9) ∧ h9.1 ≤ sz ∧ h' = (sz, h9.2)) := by
  refine jx_Cx.of (own := RX9) (by decide) rfl (Nat.le_of_ble_eq_true rfl) (fun X C hq hr hL hN => ?_)
  refine jx_sub (lv' := [(0, .ref l0), (1, .int l1)]) [0, 1] rfl ?_
  unfold FX9_determinant at e
  refine j_iload_n C dX9_determinant_0 rfl rfl ?_
  refine j_iconst (v := (1 : Int32)) C dX9_determinant_1 (by decide) ?_
  replace e := ob e
  obtain ⟨x7, ex7, e⟩ := e
  refine j_callS (As := [.int l1, .int (1 : Int32)]) (na := 2) (st := []) (k1 := 0) (n1 := 0) C hr (sX9_isOutside ex7) kX9_171 kst_X9_isOutside kini_X9 kc_X9_isOutside (by decide) rfl ⟨(Nat.le_of_ble_eq_true rfl), (Nat.le_of_ble_eq_true rfl)⟩ (Nat.le_of_ble_eq_true rfl) ⟨rfl, rfl, (Nat.le_of_ble_eq_true rfl), (Nat.le_of_ble_eq_true rfl)⟩ dX9_determinant_2 ?_
  rintro _ _ ⟨rfl, rfl⟩
  show jx_J X 0 0 5 [(0, .ref l0), (1, .int l1)] [.int x7] h
  refine j_if_eq (tgt := 16) C dX9_determinant_5 (by decide) (fun c12 => ?_) (fun c12 => ?_)
  · replace e := ifp c12 e
    refine j_aload_n C dX9_determinant_16 rfl rfl ?_
    replace e := ob e
    obtain ⟨x8, ex8, e⟩ := e
    refine j_getr (ci := 9) (RC := RX9) (T := TX9) (N := 14) 7 C rfl klX9 (Nat.le_of_ble_eq_true rfl) kX9_49 rfl dX9_determinant_17 ex8 ?_
    refine j_iload_n C dX9_determinant_20 rfl rfl ?_
    replace e := ob e
    obtain ⟨_, eo9, e⟩ := e
    replace e := ob2 e
    obtain ⟨x10, h11, ex10, e⟩ := e
    refine j_callV (ci := 6) (RC := RX6) (T := TX6) (N := 17) (As := [.int l1]) (b := x8) (na := 1) (st := []) (k1 := 0) (n1 := 0) C hr (sX6_determinantOf ex10) rfl eo9 kX9_246 kim_X6_determinantOf ksel_X6_determinantOf kini_X6 kc_X6_determinantOf (by decide) rfl ⟨(Nat.le_of_ble_eq_true rfl), (Nat.le_of_ble_eq_true rfl)⟩ (Nat.le_of_ble_eq_true rfl) ⟨rfl, rfl, (Nat.le_of_ble_eq_true rfl), (Nat.le_of_ble_eq_true rfl)⟩ dX9_determinant_21 ?_
    rintro _ _ ⟨rfl, rfl⟩
    show jx_J X 0 0 24 [(0, .ref l0), (1, .int l1)] [.int x10] h11
    cases e
    exact j_iretX C hq rfl dX9_determinant_24 ⟨Nat.le_of_ble_eq_true rfl, Nat.le_of_ble_eq_true rfl⟩ ⟨_, _, rfl, rfl, rfl⟩
  · replace e := ifn c12 e
    cases e
    exact j_throw0 (names := jx_names) (ik := 104) (ic := 106) C hr hq jx_fits.2.2.1 jx_fits.1 kX9_104 kini_IllegalArgumentException jx_thIAE ⟨rfl, rfl⟩ dX9_determinant_8 dX9_determinant_11 dX9_determinant_12 dX9_determinant_15 (Nat.le_of_ble_eq_true rfl) (Nat.le_of_ble_eq_true rfl) ⟨Nat.le_of_ble_eq_true rfl, Nat.le_of_ble_eq_true rfl, Nat.le_of_ble_eq_true rfl, Nat.le_of_ble_eq_true rfl⟩ (fun sz hsz => ⟨_, sz, rfl, hsz, rfl⟩)
/-! BorderBasis.kernel(II)I -/
noncomputable def BX9_kernel_24  (h : jx_H) : Option ((Int32 × jx_H) ⊕ (String × jx_H)) :=
some (.inr ("java/lang/IllegalArgumentException", h))
noncomputable def FX9_kernel (l0 : Nat) (l1 : Int32) (l2 : Int32) (h : jx_H) : Option ((Int32 × jx_H) ⊕ (String × jx_H)) :=
(FX9_isOutside l1 (1 : Int32) h).bind fun x1 =>
if x1 = 0 then
 (hgr h l0 9 0).bind fun x2 =>
 (hgi h x2 5 0).bind fun x3 =>
 (FX9_isOutside l2 (x3 - (1 : Int32)) h).bind fun x4 =>
 if x4 = 0 then
  (hgr h l0 9 7).bind fun x5 =>
  (isO h x5 6).bind fun _ =>
  bind2 (FX6_nullityOf x5 l1 l2 h) fun x7 h8 =>
  some (.inl (x7, h8))
 else
  BX9_kernel_24  h
else
 BX9_kernel_24  h
def rmX9_kernel : Room := { frames := 6, cells := 1, slots := 6, locals := 120 }
set_option maxRecDepth 20000 in
set_option maxHeartbeats 4000000 in
theorem sX9_kernel {l0 : Nat} {l1 : Int32} {l2 : Int32} {h : jx_H} {r : (Int32 × jx_H) ⊕ (String × jx_H)}  (e : FX9_kernel l0 l1 l2 h = some r) : jx_Cx yX9_kernel cX9_kernel 3 (some .int) rmX9_kernel [.ref l0, .int l1, .int l2] h (fun r' h' => ∃ (v : Int32) (h9 : jx_H), r = .inl (v, h9) ∧ some (.int v) = r' ∧ h9 = h') (fun E h' => ∃ (h9 : jx_H) (sz : Nat), r = .inr (E, h9) ∧ h9.1 ≤ sz ∧ h' = (sz, h9.2)) := by
  refine jx_Cx.of (own := RX9) (by decide) rfl (Nat.le_of_ble_eq_true rfl) (fun X C hq hr hL hN => ?_)
  refine jx_sub (lv' := [(0, .ref l0), (1, .int l1), (2, .int l2)]) [0, 1, 2] rfl ?_
  have b24 : ∀ (h11 : jx_H), BX9_kernel_24 h11 = some r → jx_J X 0 0 24 [] [] h11 := by
    intro h11 e
    unfold BX9_kernel_24 at e
    cases e
    exact j_throw0 (names := jx_names) (ik := 104) (ic := 106) C hr hq jx_fits.2.2.1 jx_fits.1 kX9_104 kini_IllegalArgumentException jx_thIAE ⟨rfl, rfl⟩ dX9_kernel_24 dX9_kernel_27 dX9_kernel_28 dX9_kernel_31 (Nat.le_of_ble_eq_true rfl) (Nat.le_of_ble_eq_true rfl) ⟨Nat.le_of_ble_eq_true rfl, Nat.le_of_ble_eq_true rfl, Nat.le_of_ble_eq_true rfl, Nat.le_of_ble_eq_true rfl⟩ (fun sz hsz => ⟨_, sz, rfl, hsz, rfl⟩)
  unfold FX9_kernel at e
  refine j_iload_n C dX9_kernel_0 rfl rfl ?_
  refine j_iconst (v := (1 : Int32)) C dX9_kernel_1 (by decide) ?_
  replace e := ob e
  obtain ⟨x12, ex12, e⟩ := e
  refine j_callS (As := [.int l1, .int (1 : Int32)]) (na := 2) (st := []) (k1 := 0) (n1 := 0) C hr (sX9_isOutside ex12) kX9_171 kst_X9_isOutside kini_X9 kc_X9_isOutside (by decide) rfl ⟨(Nat.le_of_ble_eq_true rfl), (Nat.le_of_ble_eq_true rfl)⟩ (Nat.le_of_ble_eq_true rfl) ⟨rfl, rfl, (Nat.le_of_ble_eq_true rfl), (Nat.le_of_ble_eq_true rfl)⟩ dX9_kernel_2 ?_
  rintro _ _ ⟨rfl, rfl⟩
  show jx_J X 0 0 5 [(0, .ref l0), (1, .int l1), (2, .int l2)] [.int x12] h
  refine j_if_ne (tgt := 24) C dX9_kernel_5 (by decide) (fun c21 => ?_) (fun c21 => ?_)
  · replace e := ifn c21 e
    refine jx_sub (lv' := []) [] rfl ?_
    exact b24 h e
  · replace e := ifp c21 e
    refine j_iload_n C dX9_kernel_8 rfl rfl ?_
    refine j_aload_n C dX9_kernel_9 rfl rfl ?_
    replace e := ob e
    obtain ⟨x13, ex13, e⟩ := e
    refine j_getr (ci := 9) (RC := RX9) (T := TX9) (N := 14) 0 C rfl klX9 (Nat.le_of_ble_eq_true rfl) kX9_12 rfl dX9_kernel_10 ex13 ?_
    replace e := ob e
    obtain ⟨x14, ex14, e⟩ := e
    refine j_geti (ci := 5) (RC := RX5) (T := TX5) (N := 12) 0 C rfl klX5 (Nat.le_of_ble_eq_true rfl) kX9_132 rfl dX9_kernel_13 ex14 ?_
    refine j_iconst (v := (1 : Int32)) C dX9_kernel_16 (by decide) ?_
    refine j_isub C dX9_kernel_17 ?_
    replace e := ob e
    obtain ⟨x15, ex15, e⟩ := e
    refine j_callS (As := [.int l2, .int (x14 - (1 : Int32))]) (na := 2) (st := []) (k1 := 0) (n1 := 0) C hr (sX9_isOutside ex15) kX9_171 kst_X9_isOutside kini_X9 kc_X9_isOutside (by decide) rfl ⟨(Nat.le_of_ble_eq_true rfl), (Nat.le_of_ble_eq_true rfl)⟩ (Nat.le_of_ble_eq_true rfl) ⟨rfl, rfl, (Nat.le_of_ble_eq_true rfl), (Nat.le_of_ble_eq_true rfl)⟩ dX9_kernel_18 ?_
    rintro _ _ ⟨rfl, rfl⟩
    show jx_J X 0 0 21 [(0, .ref l0), (1, .int l1), (2, .int l2)] [.int x15] h
    refine j_if_eq (tgt := 32) C dX9_kernel_21 (by decide) (fun c20 => ?_) (fun c20 => ?_)
    · replace e := ifp c20 e
      refine j_aload_n C dX9_kernel_32 rfl rfl ?_
      replace e := ob e
      obtain ⟨x16, ex16, e⟩ := e
      refine j_getr (ci := 9) (RC := RX9) (T := TX9) (N := 14) 7 C rfl klX9 (Nat.le_of_ble_eq_true rfl) kX9_49 rfl dX9_kernel_33 ex16 ?_
      refine j_iload_n C dX9_kernel_36 rfl rfl ?_
      refine j_iload_n C dX9_kernel_37 rfl rfl ?_
      replace e := ob e
      obtain ⟨_, eo17, e⟩ := e
      replace e := ob2 e
      obtain ⟨x18, h19, ex18, e⟩ := e
      refine j_callV (ci := 6) (RC := RX6) (T := TX6) (N := 17) (As := [.int l1, .int l2]) (b := x16) (na := 2) (st := []) (k1 := 0) (n1 := 0) C hr (sX6_nullityOf ex18) rfl eo17 kX9_249 kim_X6_nullityOf ksel_X6_nullityOf kini_X6 kc_X6_nullityOf (by decide) rfl ⟨(Nat.le_of_ble_eq_true rfl), (Nat.le_of_ble_eq_true rfl)⟩ (Nat.le_of_ble_eq_true rfl) ⟨rfl, rfl, (Nat.le_of_ble_eq_true rfl), (Nat.le_of_ble_eq_true rfl)⟩ dX9_kernel_38 ?_
      rintro _ _ ⟨rfl, rfl⟩
      show jx_J X 0 0 41 [(0, .ref l0), (1, .int l1), (2, .int l2)] [.int x18] h19
      cases e
      exact j_iretX C hq rfl dX9_kernel_41 ⟨Nat.le_of_ble_eq_true rfl, Nat.le_of_ble_eq_true rfl⟩ ⟨_, _, rfl, rfl, rfl⟩
    · replace e := ifn c20 e
      refine jx_sub (lv' := []) [] rfl ?_
      exact b24 h e
/-! BorderBasis.zeros(I)I -/
noncomputable def FX9_zeros (l0 : Nat) (l1 : Int32) (h : jx_H) : Option ((Int32 × jx_H) ⊕ (String × jx_H)) :=
(FX9_isOutside l1 (2 : Int32) h).bind fun x1 =>
if x1 = 0 then
 if l1 = 0 then
  (hgr h l0 9 8).bind fun x16 =>
  (isO h x16 8).bind fun _ =>
  bind2 (FX8_number x16 h) fun x18 h19 =>
  some (.inl (x18, h19))
 else
  (hgr h l0 9 7).bind fun x2 =>
  (isO h x2 6).bind fun _ =>
  bind2 (FX6_differences x2 h) fun x4 h5 =>
  if x4 = 0 then
   if l1 = (1 : Int32) then
    (hgr h5 l0 9 8).bind fun x10 =>
    (isO h5 x10 8).bind fun _ =>
    bind2 (FX8_distinctEverywhere x10 h5) fun x12 h13 =>
    some (.inl (x12, h13))
   else
    (hgr h5 l0 9 8).bind fun x6 =>
    (isO h5 x6 8).bind fun _ =>
    bind2 (FX8_allMultiplicities x6 h5) fun x8 h9 =>
    some (.inl (x8, h9))
  else
   some (.inl ((-1 : Int32), h5))
else
 some (.inr ("java/lang/IllegalArgumentException", h))
def rmX9_zeros : Room := { frames := 7, cells := 36, slots := 1956, locals := 167 }
set_option maxRecDepth 20000 in
set_option maxHeartbeats 4000000 in
theorem sX9_zeros {l0 : Nat} {l1 : Int32} {h : jx_H} {r : (Int32 × jx_H) ⊕ (String × jx_H)}  (e : FX9_zeros l0 l1 h = some r) : jx_Cx yX9_zeros cX9_zeros 2 (some .int) rmX9_zeros [.ref l0, .int l1] h (fun r' h' => ∃ (v : Int32) (h9 : jx_H), r = .inl (v, h9) ∧ some (.int v) = r' ∧ h9 = h') (fun E h' => ∃ (h9 : jx_H) (sz : Nat), r = .inr (E, h9) ∧ h9.1 ≤ sz ∧ h' = (sz, h9.2)) := by
  refine jx_Cx.of (own := RX9) (by decide) rfl (Nat.le_of_ble_eq_true rfl) (fun X C hq hr hL hN => ?_)
  refine jx_sub (lv' := [(0, .ref l0), (1, .int l1)]) [0, 1] rfl ?_
  unfold FX9_zeros at e
  refine j_iload_n C dX9_zeros_0 rfl rfl ?_
  refine j_iconst (v := (2 : Int32)) C dX9_zeros_1 (by decide) ?_
  replace e := ob e
  obtain ⟨x22, ex22, e⟩ := e
  refine j_callS (As := [.int l1, .int (2 : Int32)]) (na := 2) (st := []) (k1 := 0) (n1 := 0) C hr (sX9_isOutside ex22) kX9_171 kst_X9_isOutside kini_X9 kc_X9_isOutside (by decide) rfl ⟨(Nat.le_of_ble_eq_true rfl), (Nat.le_of_ble_eq_true rfl)⟩ (Nat.le_of_ble_eq_true rfl) ⟨rfl, rfl, (Nat.le_of_ble_eq_true rfl), (Nat.le_of_ble_eq_true rfl)⟩ dX9_zeros_2 ?_
  rintro _ _ ⟨rfl, rfl⟩
  show jx_J X 0 0 5 [(0, .ref l0), (1, .int l1)] [.int x22] h
  refine j_if_eq (tgt := 16) C dX9_zeros_5 (by decide) (fun c42 => ?_) (fun c42 => ?_)
  · replace e := ifp c42 e
    refine j_iload_n C dX9_zeros_16 rfl rfl ?_
    refine j_if_ne (tgt := 28) C dX9_zeros_17 (by decide) (fun c41 => ?_) (fun c41 => ?_)
    · replace e := ifn c41 e
      refine j_aload_n C dX9_zeros_28 rfl rfl ?_
      replace e := ob e
      obtain ⟨x23, ex23, e⟩ := e
      refine j_getr (ci := 9) (RC := RX9) (T := TX9) (N := 14) 7 C rfl klX9 (Nat.le_of_ble_eq_true rfl) kX9_49 rfl dX9_zeros_29 ex23 ?_
      replace e := ob e
      obtain ⟨_, eo24, e⟩ := e
      replace e := ob2 e
      obtain ⟨x25, h26, ex25, e⟩ := e
      refine j_callV (ci := 6) (RC := RX6) (T := TX6) (N := 17) (As := []) (b := x23) (na := 0) (st := []) (k1 := 0) (n1 := 0) C hr (sX6_differences ex25) rfl eo24 kX9_229 kim_X6_differences ksel_X6_differences kini_X6 kc_X6_differences (by decide) rfl ⟨(Nat.le_of_ble_eq_true rfl), (Nat.le_of_ble_eq_true rfl)⟩ (Nat.le_of_ble_eq_true rfl) ⟨rfl, rfl, (Nat.le_of_ble_eq_true rfl), (Nat.le_of_ble_eq_true rfl)⟩ dX9_zeros_32 ?_
      rintro _ _ ⟨rfl, rfl⟩
      show jx_J X 0 0 35 [(0, .ref l0), (1, .int l1)] [.int x25] h26
      refine j_if_eq (tgt := 40) C dX9_zeros_35 (by decide) (fun c36 => ?_) (fun c36 => ?_)
      · replace e := ifp c36 e
        refine j_iload_n C dX9_zeros_40 rfl rfl ?_
        refine j_iconst (v := (1 : Int32)) C dX9_zeros_41 (by decide) ?_
        refine j_icmp_ne (tgt := 55) C dX9_zeros_42 (by decide) (fun c35 => ?_) (fun c35 => ?_)
        · replace e := ifn c35 e
          refine j_aload_n C dX9_zeros_55 rfl rfl ?_
          replace e := ob e
          obtain ⟨x27, ex27, e⟩ := e
          refine j_getr (ci := 9) (RC := RX9) (T := TX9) (N := 14) 8 C rfl klX9 (Nat.le_of_ble_eq_true rfl) kX9_58 rfl dX9_zeros_56 ex27 ?_
          replace e := ob e
          obtain ⟨_, eo28, e⟩ := e
          replace e := ob2 e
          obtain ⟨x29, h30, ex29, e⟩ := e
          refine j_callV (ci := 8) (RC := RX8) (T := TX8) (N := 15) (As := []) (b := x27) (na := 0) (st := []) (k1 := 0) (n1 := 0) C hr (sX8_allMultiplicities ex29) rfl eo28 kX9_258 kim_X8_allMultiplicities ksel_X8_allMultiplicities kini_X8 kc_X8_allMultiplicities (by decide) rfl ⟨(Nat.le_of_ble_eq_true rfl), (Nat.le_of_ble_eq_true rfl)⟩ (Nat.le_of_ble_eq_true rfl) ⟨rfl, rfl, (Nat.le_of_ble_eq_true rfl), (Nat.le_of_ble_eq_true rfl)⟩ dX9_zeros_59 ?_
          rintro _ _ ⟨rfl, rfl⟩
          show jx_J X 0 0 62 [(0, .ref l0), (1, .int l1)] [.int x29] h30
          cases e
          exact j_iretX C hq rfl dX9_zeros_62 ⟨Nat.le_of_ble_eq_true rfl, Nat.le_of_ble_eq_true rfl⟩ ⟨_, _, rfl, rfl, rfl⟩
        · replace e := ifp c35 e
          refine j_aload_n C dX9_zeros_45 rfl rfl ?_
          replace e := ob e
          obtain ⟨x31, ex31, e⟩ := e
          refine j_getr (ci := 9) (RC := RX9) (T := TX9) (N := 14) 8 C rfl klX9 (Nat.le_of_ble_eq_true rfl) kX9_58 rfl dX9_zeros_46 ex31 ?_
          replace e := ob e
          obtain ⟨_, eo32, e⟩ := e
          replace e := ob2 e
          obtain ⟨x33, h34, ex33, e⟩ := e
          refine j_callV (ci := 8) (RC := RX8) (T := TX8) (N := 15) (As := []) (b := x31) (na := 0) (st := []) (k1 := 36) (n1 := 1956) C hr (sX8_distinctEverywhere ex33) rfl eo32 kX9_255 kim_X8_distinctEverywhere ksel_X8_distinctEverywhere kini_X8 kc_X8_distinctEverywhere (by decide) rfl ⟨(Nat.le_of_ble_eq_true rfl), (Nat.le_of_ble_eq_true rfl)⟩ (Nat.le_of_ble_eq_true rfl) ⟨rfl, rfl, (Nat.le_of_ble_eq_true rfl), (Nat.le_of_ble_eq_true rfl)⟩ dX9_zeros_49 ?_
          rintro _ _ ⟨rfl, rfl⟩
          show jx_J X 36 1956 52 [(0, .ref l0), (1, .int l1)] [.int x33] h34
          refine j_goto (tgt := 62) C dX9_zeros_52 (by decide) ?_
          cases e
          exact j_iretX C hq rfl dX9_zeros_62 ⟨Nat.le_of_ble_eq_true rfl, Nat.le_of_ble_eq_true rfl⟩ ⟨_, _, rfl, rfl, rfl⟩
      · replace e := ifn c36 e
        refine j_iconst (v := (-1 : Int32)) C dX9_zeros_38 (by decide) ?_
        cases e
        exact j_iretX C hq rfl dX9_zeros_39 ⟨Nat.le_of_ble_eq_true rfl, Nat.le_of_ble_eq_true rfl⟩ ⟨_, _, rfl, rfl, rfl⟩
    · replace e := ifp c41 e
      refine j_aload_n C dX9_zeros_20 rfl rfl ?_
      replace e := ob e
      obtain ⟨x37, ex37, e⟩ := e
      refine j_getr (ci := 9) (RC := RX9) (T := TX9) (N := 14) 8 C rfl klX9 (Nat.le_of_ble_eq_true rfl) kX9_58 rfl dX9_zeros_21 ex37 ?_
      replace e := ob e
      obtain ⟨_, eo38, e⟩ := e
      replace e := ob2 e
      obtain ⟨x39, h40, ex39, e⟩ := e
      refine j_callV (ci := 8) (RC := RX8) (T := TX8) (N := 15) (As := []) (b := x37) (na := 0) (st := []) (k1 := 0) (n1 := 0) C hr (sX8_number ex39) rfl eo38 kX9_252 kim_X8_number ksel_X8_number kini_X8 kc_X8_number (by decide) rfl ⟨(Nat.le_of_ble_eq_true rfl), (Nat.le_of_ble_eq_true rfl)⟩ (Nat.le_of_ble_eq_true rfl) ⟨rfl, rfl, (Nat.le_of_ble_eq_true rfl), (Nat.le_of_ble_eq_true rfl)⟩ dX9_zeros_24 ?_
      rintro _ _ ⟨rfl, rfl⟩
      show jx_J X 0 0 27 [(0, .ref l0), (1, .int l1)] [.int x39] h40
      cases e
      exact j_iretX C hq rfl dX9_zeros_27 ⟨Nat.le_of_ble_eq_true rfl, Nat.le_of_ble_eq_true rfl⟩ ⟨_, _, rfl, rfl, rfl⟩
  · replace e := ifn c42 e
    cases e
    exact j_throw0 (names := jx_names) (ik := 104) (ic := 106) C hr hq jx_fits.2.2.1 jx_fits.1 kX9_104 kini_IllegalArgumentException jx_thIAE ⟨rfl, rfl⟩ dX9_zeros_8 dX9_zeros_11 dX9_zeros_12 dX9_zeros_15 (Nat.le_of_ble_eq_true rfl) (Nat.le_of_ble_eq_true rfl) ⟨Nat.le_of_ble_eq_true rfl, Nat.le_of_ble_eq_true rfl, Nat.le_of_ble_eq_true rfl, Nat.le_of_ble_eq_true rfl⟩ (fun sz hsz => ⟨_, sz, rfl, hsz, rfl⟩)
/-! BorderBasis.zero(II)I -/
noncomputable def BX9_zero_15  (h : jx_H) : Option ((Int32 × jx_H) ⊕ (String × jx_H)) :=
some (.inr ("java/lang/IndexOutOfBoundsException", h))
noncomputable def FX9_zero (l0 : Nat) (l1 : Int32) (l2 : Int32) (h : jx_H) : Option ((Int32 × jx_H) ⊕ (String × jx_H)) :=
if l1 < 0 then
 BX9_zero_15  h
else
 (hgr h l0 9 8).bind fun x1 =>
 (isO h x1 8).bind fun _ =>
 bind2 (FX8_number x1 h) fun x3 h4 =>
 if l1 < x3 then
  (FX9_isOutside l2 (2 : Int32) h4).bind fun x5 =>
  if x5 = 0 then
   if l2 = (2 : Int32) then
    (hgr h4 l0 9 7).bind fun x13 =>
    (isO h4 x13 6).bind fun _ =>
    bind2 (FX6_differences x13 h4) fun x15 h16 =>
    if x15 = 0 then
     (hgr h16 l0 9 8).bind fun x17 =>
     (isO h16 x17 8).bind fun _ =>
     bind2 (FX8_multiplicityOf x17 l1 h16) fun x19 h20 =>
     some (.inl (x19, h20))
    else
     some (.inl ((-1 : Int32), h16))
   else
    if l2 = 0 then
     (hgr h4 l0 9 8).bind fun x9 =>
     (hgr h4 x9 8 5).bind fun x10 =>
     (hal h4 .int x10 l1).bind fun x11 =>
     some (.inl (x11, h4))
    else
     (hgr h4 l0 9 8).bind fun x6 =>
     (hgr h4 x6 8 6).bind fun x7 =>
     (hal h4 .int x7 l1).bind fun x8 =>
     some (.inl (x8, h4))
  else
   some (.inr ("java/lang/IllegalArgumentException", h4))
 else
  BX9_zero_15  h4
def rmX9_zero : Room := { frames := 7, cells := 1, slots := 6, locals := 165 }
set_option maxRecDepth 20000 in
set_option maxHeartbeats 4000000 in
theorem sX9_zero {l0 : Nat} {l1 : Int32} {l2 : Int32} {h : jx_H} {r : (Int32 × jx_H) ⊕ (String × jx_H)}  (e : FX9_zero l0 l1 l2 h = some r) : jx_Cx yX9_zero cX9_zero 3 (some .int) rmX9_zero [.ref l0, .int l1, .int l2] h (fun r' h' => ∃ (v : Int32) (h9 : jx_H), r = .inl (v, h9) ∧ some (.int v) = r' ∧ h9 = h') (fun E h' => ∃ (h9 : jx_H) (sz : Nat), r = .inr (E, h9) ∧ h9.1 ≤ sz ∧ h' = (sz, h9.2)) := by
  refine jx_Cx.of (own := RX9) (by decide) rfl (Nat.le_of_ble_eq_true rfl) (fun X C hq hr hL hN => ?_)
  refine jx_sub (lv' := [(0, .ref l0), (1, .int l1), (2, .int l2)]) [0, 1, 2] rfl ?_
  have b15 : ∀ (h26 : jx_H), BX9_zero_15 h26 = some r → jx_J X 0 0 15 [] [] h26 := by
    intro h26 e
    unfold BX9_zero_15 at e
    cases e
    exact j_throw0 (names := jx_names) (ik := 152) (ic := 154) C hr hq jx_fits.2.2.2 jx_fits.1 kX9_152 kini_IndexOutOfBoundsException jx_thIOB ⟨rfl, rfl⟩ dX9_zero_15 dX9_zero_18 dX9_zero_19 dX9_zero_22 (Nat.le_of_ble_eq_true rfl) (Nat.le_of_ble_eq_true rfl) ⟨Nat.le_of_ble_eq_true rfl, Nat.le_of_ble_eq_true rfl, Nat.le_of_ble_eq_true rfl, Nat.le_of_ble_eq_true rfl⟩ (fun sz hsz => ⟨_, sz, rfl, hsz, rfl⟩)
  unfold FX9_zero at e
  refine j_iload_n C dX9_zero_0 rfl rfl ?_
  refine j_if_lt (tgt := 15) C dX9_zero_1 (by decide) (fun c51 => ?_) (fun c51 => ?_)
  · replace e := ifp c51 e
    refine jx_sub (lv' := []) [] rfl ?_
    exact b15 h e
  · replace e := ifn c51 e
    refine j_iload_n C dX9_zero_4 rfl rfl ?_
    refine j_aload_n C dX9_zero_5 rfl rfl ?_
    replace e := ob e
    obtain ⟨x27, ex27, e⟩ := e
    refine j_getr (ci := 9) (RC := RX9) (T := TX9) (N := 14) 8 C rfl klX9 (Nat.le_of_ble_eq_true rfl) kX9_58 rfl dX9_zero_6 ex27 ?_
    replace e := ob e
    obtain ⟨_, eo28, e⟩ := e
    replace e := ob2 e
    obtain ⟨x29, h30, ex29, e⟩ := e
    refine j_callV (ci := 8) (RC := RX8) (T := TX8) (N := 15) (As := []) (b := x27) (na := 0) (st := [.int l1]) (k1 := 0) (n1 := 0) C hr (sX8_number ex29) rfl eo28 kX9_252 kim_X8_number ksel_X8_number kini_X8 kc_X8_number (by decide) rfl ⟨(Nat.le_of_ble_eq_true rfl), (Nat.le_of_ble_eq_true rfl)⟩ (Nat.le_of_ble_eq_true rfl) ⟨rfl, rfl, (Nat.le_of_ble_eq_true rfl), (Nat.le_of_ble_eq_true rfl)⟩ dX9_zero_9 ?_
    rintro _ _ ⟨rfl, rfl⟩
    show jx_J X 0 0 12 [(0, .ref l0), (1, .int l1), (2, .int l2)] [.int x29, .int l1] h30
    refine j_icmp_lt (tgt := 23) C dX9_zero_12 (by decide) (fun c50 => ?_) (fun c50 => ?_)
    · replace e := ifp c50 e
      refine j_iload_n C dX9_zero_23 rfl rfl ?_
      refine j_iconst (v := (2 : Int32)) C dX9_zero_24 (by decide) ?_
      replace e := ob e
      obtain ⟨x31, ex31, e⟩ := e
      refine j_callS (As := [.int l2, .int (2 : Int32)]) (na := 2) (st := []) (k1 := 0) (n1 := 0) C hr (sX9_isOutside ex31) kX9_171 kst_X9_isOutside kini_X9 kc_X9_isOutside (by decide) rfl ⟨(Nat.le_of_ble_eq_true rfl), (Nat.le_of_ble_eq_true rfl)⟩ (Nat.le_of_ble_eq_true rfl) ⟨rfl, rfl, (Nat.le_of_ble_eq_true rfl), (Nat.le_of_ble_eq_true rfl)⟩ dX9_zero_25 ?_
      rintro _ _ ⟨rfl, rfl⟩
      show jx_J X 0 0 28 [(0, .ref l0), (1, .int l1), (2, .int l2)] [.int x31] h30
      refine j_if_eq (tgt := 39) C dX9_zero_28 (by decide) (fun c49 => ?_) (fun c49 => ?_)
      · replace e := ifp c49 e
        refine j_iload_n C dX9_zero_39 rfl rfl ?_
        refine j_iconst (v := (2 : Int32)) C dX9_zero_40 (by decide) ?_
        refine j_icmp_ne (tgt := 67) C dX9_zero_41 (by decide) (fun c48 => ?_) (fun c48 => ?_)
        · replace e := ifn c48 e
          refine j_iload_n C dX9_zero_67 rfl rfl ?_
          refine j_if_ne (tgt := 83) C dX9_zero_68 (by decide) (fun c38 => ?_) (fun c38 => ?_)
          · replace e := ifn c38 e
            refine j_aload_n C dX9_zero_83 rfl rfl ?_
            replace e := ob e
            obtain ⟨x32, ex32, e⟩ := e
            refine j_getr (ci := 9) (RC := RX9) (T := TX9) (N := 14) 8 C rfl klX9 (Nat.le_of_ble_eq_true rfl) kX9_58 rfl dX9_zero_84 ex32 ?_
            replace e := ob e
            obtain ⟨x33, ex33, e⟩ := e
            refine j_getr (ci := 8) (RC := RX8) (T := TX8) (N := 15) 6 C rfl klX8 (Nat.le_of_ble_eq_true rfl) kX9_267 rfl dX9_zero_87 ex33 ?_
            refine j_iload_n C dX9_zero_90 rfl rfl ?_
            replace e := ob e
            obtain ⟨x34, ex34, e⟩ := e
            refine j_iald C dX9_zero_91 ex34 ?_
            cases e
            exact j_iretX C hq rfl dX9_zero_92 ⟨Nat.le_of_ble_eq_true rfl, Nat.le_of_ble_eq_true rfl⟩ ⟨_, _, rfl, rfl, rfl⟩
          · replace e := ifp c38 e
            refine j_aload_n C dX9_zero_71 rfl rfl ?_
            replace e := ob e
            obtain ⟨x35, ex35, e⟩ := e
            refine j_getr (ci := 9) (RC := RX9) (T := TX9) (N := 14) 8 C rfl klX9 (Nat.le_of_ble_eq_true rfl) kX9_58 rfl dX9_zero_72 ex35 ?_
            replace e := ob e
            obtain ⟨x36, ex36, e⟩ := e
            refine j_getr (ci := 8) (RC := RX8) (T := TX8) (N := 15) 5 C rfl klX8 (Nat.le_of_ble_eq_true rfl) kX9_264 rfl dX9_zero_75 ex36 ?_
            refine j_iload_n C dX9_zero_78 rfl rfl ?_
            replace e := ob e
            obtain ⟨x37, ex37, e⟩ := e
            refine j_iald C dX9_zero_79 ex37 ?_
            refine j_goto (tgt := 92) C dX9_zero_80 (by decide) ?_
            cases e
            exact j_iretX C hq rfl dX9_zero_92 ⟨Nat.le_of_ble_eq_true rfl, Nat.le_of_ble_eq_true rfl⟩ ⟨_, _, rfl, rfl, rfl⟩
        · replace e := ifp c48 e
          refine j_aload_n C dX9_zero_44 rfl rfl ?_
          replace e := ob e
          obtain ⟨x39, ex39, e⟩ := e
          refine j_getr (ci := 9) (RC := RX9) (T := TX9) (N := 14) 7 C rfl klX9 (Nat.le_of_ble_eq_true rfl) kX9_49 rfl dX9_zero_45 ex39 ?_
          replace e := ob e
          obtain ⟨_, eo40, e⟩ := e
          replace e := ob2 e
          obtain ⟨x41, h42, ex41, e⟩ := e
          refine j_callV (ci := 6) (RC := RX6) (T := TX6) (N := 17) (As := []) (b := x39) (na := 0) (st := []) (k1 := 0) (n1 := 0) C hr (sX6_differences ex41) rfl eo40 kX9_229 kim_X6_differences ksel_X6_differences kini_X6 kc_X6_differences (by decide) rfl ⟨(Nat.le_of_ble_eq_true rfl), (Nat.le_of_ble_eq_true rfl)⟩ (Nat.le_of_ble_eq_true rfl) ⟨rfl, rfl, (Nat.le_of_ble_eq_true rfl), (Nat.le_of_ble_eq_true rfl)⟩ dX9_zero_48 ?_
          rintro _ _ ⟨rfl, rfl⟩
          show jx_J X 0 0 51 [(0, .ref l0), (1, .int l1), (2, .int l2)] [.int x41] h42
          refine j_if_ne (tgt := 65) C dX9_zero_51 (by decide) (fun c47 => ?_) (fun c47 => ?_)
          · replace e := ifn c47 e
            refine j_iconst (v := (-1 : Int32)) C dX9_zero_65 (by decide) ?_
            cases e
            exact j_iretX C hq rfl dX9_zero_66 ⟨Nat.le_of_ble_eq_true rfl, Nat.le_of_ble_eq_true rfl⟩ ⟨_, _, rfl, rfl, rfl⟩
          · replace e := ifp c47 e
            refine j_aload_n C dX9_zero_54 rfl rfl ?_
            replace e := ob e
            obtain ⟨x43, ex43, e⟩ := e
            refine j_getr (ci := 9) (RC := RX9) (T := TX9) (N := 14) 8 C rfl klX9 (Nat.le_of_ble_eq_true rfl) kX9_58 rfl dX9_zero_55 ex43 ?_
            refine j_iload_n C dX9_zero_58 rfl rfl ?_
            replace e := ob e
            obtain ⟨_, eo44, e⟩ := e
            replace e := ob2 e
            obtain ⟨x45, h46, ex45, e⟩ := e
            refine j_callV (ci := 8) (RC := RX8) (T := TX8) (N := 15) (As := [.int l1]) (b := x43) (na := 1) (st := []) (k1 := 0) (n1 := 0) C hr (sX8_multiplicityOf ex45) rfl eo44 kX9_261 kim_X8_multiplicityOf ksel_X8_multiplicityOf kini_X8 kc_X8_multiplicityOf (by decide) rfl ⟨(Nat.le_of_ble_eq_true rfl), (Nat.le_of_ble_eq_true rfl)⟩ (Nat.le_of_ble_eq_true rfl) ⟨rfl, rfl, (Nat.le_of_ble_eq_true rfl), (Nat.le_of_ble_eq_true rfl)⟩ dX9_zero_59 ?_
            rintro _ _ ⟨rfl, rfl⟩
            show jx_J X 0 0 62 [(0, .ref l0), (1, .int l1), (2, .int l2)] [.int x45] h46
            refine j_goto (tgt := 66) C dX9_zero_62 (by decide) ?_
            cases e
            exact j_iretX C hq rfl dX9_zero_66 ⟨Nat.le_of_ble_eq_true rfl, Nat.le_of_ble_eq_true rfl⟩ ⟨_, _, rfl, rfl, rfl⟩
      · replace e := ifn c49 e
        cases e
        exact j_throw0 (names := jx_names) (ik := 104) (ic := 106) C hr hq jx_fits.2.2.1 jx_fits.1 kX9_104 kini_IllegalArgumentException jx_thIAE ⟨rfl, rfl⟩ dX9_zero_31 dX9_zero_34 dX9_zero_35 dX9_zero_38 (Nat.le_of_ble_eq_true rfl) (Nat.le_of_ble_eq_true rfl) ⟨Nat.le_of_ble_eq_true rfl, Nat.le_of_ble_eq_true rfl, Nat.le_of_ble_eq_true rfl, Nat.le_of_ble_eq_true rfl⟩ (fun sz hsz => ⟨_, sz, rfl, hsz, rfl⟩)
    · replace e := ifn c50 e
      refine jx_sub (lv' := []) [] rfl ?_
      exact b15 h30 e
/-! BorderBasis.multiplicity(II)I -/
noncomputable def BX9_multiplicity_32  (h : jx_H) : Option ((Int32 × jx_H) ⊕ (String × jx_H)) :=
some (.inr ("java/lang/IllegalArgumentException", h))
noncomputable def FX9_multiplicity (l0 : Nat) (l1 : Int32) (l2 : Int32) (h : jx_H) : Option ((Int32 × jx_H) ⊕ (String × jx_H)) :=
(hgr h l0 9 0).bind fun x1 =>
(hgi h x1 5 0).bind fun x2 =>
(FX9_isOutside l1 (x2 - (1 : Int32)) h).bind fun x3 =>
if x3 = 0 then
 (hgr h l0 9 0).bind fun x4 =>
 (hgi h x4 5 0).bind fun x5 =>
 (FX9_isOutside l2 (x5 - (1 : Int32)) h).bind fun x6 =>
 if x6 = 0 then
  (hgr h l0 9 7).bind fun x7 =>
  (isO h x7 6).bind fun _ =>
  bind2 (FX6_differences x7 h) fun x9 h10 =>
  if x9 = 0 then
   (hgr h10 l0 9 8).bind fun x11 =>
   (isO h10 x11 8).bind fun _ =>
   bind2 (FX8_indexOf x11 l1 l2 h10) fun x13 h14 =>
   if x13 = (-1 : Int32) then
    some (.inl ((0 : Int32), h14))
   else
    (hgr h14 l0 9 8).bind fun x15 =>
    (isO h14 x15 8).bind fun _ =>
    bind2 (FX8_multiplicityOf x15 x13 h14) fun x17 h18 =>
    some (.inl (x17, h18))
  else
   some (.inl ((-1 : Int32), h10))
 else
  BX9_multiplicity_32  h
else
 BX9_multiplicity_32  h
def rmX9_multiplicity : Room := { frames := 7, cells := 1, slots := 6, locals := 168 }
set_option maxRecDepth 20000 in
set_option maxHeartbeats 4000000 in
theorem sX9_multiplicity {l0 : Nat} {l1 : Int32} {l2 : Int32} {h : jx_H} {r : (Int32 × jx_H) ⊕ (String × jx_H)}  (e : FX9_multiplicity l0 l1 l2 h = some r) : jx_Cx yX9_multiplicity cX9_multiplicity 4 (some .int) rmX9_multiplicity [.ref l0, .int l1, .int l2] h (fun r' h' => ∃ (v : Int32) (h9 : jx_H), r = .inl (v, h9) ∧ some (.int v) = r' ∧ h9 = h') (fun E h' => ∃ (h9 : jx_H) (sz : Nat), r = .inr (E, h9) ∧ h9.1 ≤ sz ∧ h' = (sz, h9.2)) := by
  refine jx_Cx.of (own := RX9) (by decide) rfl (Nat.le_of_ble_eq_true rfl) (fun X C hq hr hL hN => ?_)
  refine jx_sub (lv' := [(0, .ref l0), (1, .int l1), (2, .int l2)]) [0, 1, 2] rfl ?_
  have b32 : ∀ (h23 : jx_H), BX9_multiplicity_32 h23 = some r → jx_J X 0 0 32 [] [] h23 := by
    intro h23 e
    unfold BX9_multiplicity_32 at e
    cases e
    exact j_throw0 (names := jx_names) (ik := 104) (ic := 106) C hr hq jx_fits.2.2.1 jx_fits.1 kX9_104 kini_IllegalArgumentException jx_thIAE ⟨rfl, rfl⟩ dX9_multiplicity_32 dX9_multiplicity_35 dX9_multiplicity_36 dX9_multiplicity_39 (Nat.le_of_ble_eq_true rfl) (Nat.le_of_ble_eq_true rfl) ⟨Nat.le_of_ble_eq_true rfl, Nat.le_of_ble_eq_true rfl, Nat.le_of_ble_eq_true rfl, Nat.le_of_ble_eq_true rfl⟩ (fun sz hsz => ⟨_, sz, rfl, hsz, rfl⟩)
  unfold FX9_multiplicity at e
  refine j_iload_n C dX9_multiplicity_0 rfl rfl ?_
  refine j_aload_n C dX9_multiplicity_1 rfl rfl ?_
  replace e := ob e
  obtain ⟨x24, ex24, e⟩ := e
  refine j_getr (ci := 9) (RC := RX9) (T := TX9) (N := 14) 0 C rfl klX9 (Nat.le_of_ble_eq_true rfl) kX9_12 rfl dX9_multiplicity_2 ex24 ?_
  replace e := ob e
  obtain ⟨x25, ex25, e⟩ := e
  refine j_geti (ci := 5) (RC := RX5) (T := TX5) (N := 12) 0 C rfl klX5 (Nat.le_of_ble_eq_true rfl) kX9_132 rfl dX9_multiplicity_5 ex25 ?_
  refine j_iconst (v := (1 : Int32)) C dX9_multiplicity_8 (by decide) ?_
  refine j_isub C dX9_multiplicity_9 ?_
  replace e := ob e
  obtain ⟨x26, ex26, e⟩ := e
  refine j_callS (As := [.int l1, .int (x25 - (1 : Int32))]) (na := 2) (st := []) (k1 := 0) (n1 := 0) C hr (sX9_isOutside ex26) kX9_171 kst_X9_isOutside kini_X9 kc_X9_isOutside (by decide) rfl ⟨(Nat.le_of_ble_eq_true rfl), (Nat.le_of_ble_eq_true rfl)⟩ (Nat.le_of_ble_eq_true rfl) ⟨rfl, rfl, (Nat.le_of_ble_eq_true rfl), (Nat.le_of_ble_eq_true rfl)⟩ dX9_multiplicity_10 ?_
  rintro _ _ ⟨rfl, rfl⟩
  show jx_J X 0 0 13 [(0, .ref l0), (1, .int l1), (2, .int l2)] [.int x26] h
  refine j_if_ne (tgt := 32) C dX9_multiplicity_13 (by decide) (fun c45 => ?_) (fun c45 => ?_)
  · replace e := ifn c45 e
    refine jx_sub (lv' := []) [] rfl ?_
    exact b32 h e
  · replace e := ifp c45 e
    refine j_iload_n C dX9_multiplicity_16 rfl rfl ?_
    refine j_aload_n C dX9_multiplicity_17 rfl rfl ?_
    replace e := ob e
    obtain ⟨x27, ex27, e⟩ := e
    refine j_getr (ci := 9) (RC := RX9) (T := TX9) (N := 14) 0 C rfl klX9 (Nat.le_of_ble_eq_true rfl) kX9_12 rfl dX9_multiplicity_18 ex27 ?_
    replace e := ob e
    obtain ⟨x28, ex28, e⟩ := e
    refine j_geti (ci := 5) (RC := RX5) (T := TX5) (N := 12) 0 C rfl klX5 (Nat.le_of_ble_eq_true rfl) kX9_132 rfl dX9_multiplicity_21 ex28 ?_
    refine j_iconst (v := (1 : Int32)) C dX9_multiplicity_24 (by decide) ?_
    refine j_isub C dX9_multiplicity_25 ?_
    replace e := ob e
    obtain ⟨x29, ex29, e⟩ := e
    refine j_callS (As := [.int l2, .int (x28 - (1 : Int32))]) (na := 2) (st := []) (k1 := 0) (n1 := 0) C hr (sX9_isOutside ex29) kX9_171 kst_X9_isOutside kini_X9 kc_X9_isOutside (by decide) rfl ⟨(Nat.le_of_ble_eq_true rfl), (Nat.le_of_ble_eq_true rfl)⟩ (Nat.le_of_ble_eq_true rfl) ⟨rfl, rfl, (Nat.le_of_ble_eq_true rfl), (Nat.le_of_ble_eq_true rfl)⟩ dX9_multiplicity_26 ?_
    rintro _ _ ⟨rfl, rfl⟩
    show jx_J X 0 0 29 [(0, .ref l0), (1, .int l1), (2, .int l2)] [.int x29] h
    refine j_if_eq (tgt := 40) C dX9_multiplicity_29 (by decide) (fun c44 => ?_) (fun c44 => ?_)
    · replace e := ifp c44 e
      refine j_aload_n C dX9_multiplicity_40 rfl rfl ?_
      replace e := ob e
      obtain ⟨x30, ex30, e⟩ := e
      refine j_getr (ci := 9) (RC := RX9) (T := TX9) (N := 14) 7 C rfl klX9 (Nat.le_of_ble_eq_true rfl) kX9_49 rfl dX9_multiplicity_41 ex30 ?_
      replace e := ob e
      obtain ⟨_, eo31, e⟩ := e
      replace e := ob2 e
      obtain ⟨x32, h33, ex32, e⟩ := e
      refine j_callV (ci := 6) (RC := RX6) (T := TX6) (N := 17) (As := []) (b := x30) (na := 0) (st := []) (k1 := 0) (n1 := 0) C hr (sX6_differences ex32) rfl eo31 kX9_229 kim_X6_differences ksel_X6_differences kini_X6 kc_X6_differences (by decide) rfl ⟨(Nat.le_of_ble_eq_true rfl), (Nat.le_of_ble_eq_true rfl)⟩ (Nat.le_of_ble_eq_true rfl) ⟨rfl, rfl, (Nat.le_of_ble_eq_true rfl), (Nat.le_of_ble_eq_true rfl)⟩ dX9_multiplicity_44 ?_
      rintro _ _ ⟨rfl, rfl⟩
      show jx_J X 0 0 47 [(0, .ref l0), (1, .int l1), (2, .int l2)] [.int x32] h33
      refine j_if_eq (tgt := 52) C dX9_multiplicity_47 (by decide) (fun c43 => ?_) (fun c43 => ?_)
      · replace e := ifp c43 e
        refine j_aload_n C dX9_multiplicity_52 rfl rfl ?_
        replace e := ob e
        obtain ⟨x34, ex34, e⟩ := e
        refine j_getr (ci := 9) (RC := RX9) (T := TX9) (N := 14) 8 C rfl klX9 (Nat.le_of_ble_eq_true rfl) kX9_58 rfl dX9_multiplicity_53 ex34 ?_
        refine j_iload_n C dX9_multiplicity_56 rfl rfl ?_
        refine j_iload_n C dX9_multiplicity_57 rfl rfl ?_
        replace e := ob e
        obtain ⟨_, eo35, e⟩ := e
        replace e := ob2 e
        obtain ⟨x36, h37, ex36, e⟩ := e
        refine j_callV (ci := 8) (RC := RX8) (T := TX8) (N := 15) (As := [.int l1, .int l2]) (b := x34) (na := 2) (st := []) (k1 := 0) (n1 := 0) C hr (sX8_indexOf ex36) rfl eo35 kX9_270 kim_X8_indexOf ksel_X8_indexOf kini_X8 kc_X8_indexOf (by decide) rfl ⟨(Nat.le_of_ble_eq_true rfl), (Nat.le_of_ble_eq_true rfl)⟩ (Nat.le_of_ble_eq_true rfl) ⟨rfl, rfl, (Nat.le_of_ble_eq_true rfl), (Nat.le_of_ble_eq_true rfl)⟩ dX9_multiplicity_58 ?_
        rintro _ _ ⟨rfl, rfl⟩
        show jx_J X 0 0 61 [(0, .ref l0), (1, .int l1), (2, .int l2)] [.int x36] h37
        refine j_istore_n (lv1 := [(3, .int x36), (0, .ref l0), (1, .int l1), (2, .int l2)]) C hL dX9_multiplicity_61 rfl (Nat.le_of_ble_eq_true rfl) rfl ?_
        refine j_iload_n C dX9_multiplicity_62 rfl rfl ?_
        refine j_iconst (v := (-1 : Int32)) C dX9_multiplicity_63 (by decide) ?_
        refine j_icmp_ne (tgt := 71) C dX9_multiplicity_64 (by decide) (fun c42 => ?_) (fun c42 => ?_)
        · replace e := ifn c42 e
          refine j_aload_n C dX9_multiplicity_71 rfl rfl ?_
          replace e := ob e
          obtain ⟨x38, ex38, e⟩ := e
          refine j_getr (ci := 9) (RC := RX9) (T := TX9) (N := 14) 8 C rfl klX9 (Nat.le_of_ble_eq_true rfl) kX9_58 rfl dX9_multiplicity_72 ex38 ?_
          refine j_iload_n C dX9_multiplicity_75 rfl rfl ?_
          replace e := ob e
          obtain ⟨_, eo39, e⟩ := e
          replace e := ob2 e
          obtain ⟨x40, h41, ex40, e⟩ := e
          refine j_callV (ci := 8) (RC := RX8) (T := TX8) (N := 15) (As := [.int x36]) (b := x38) (na := 1) (st := []) (k1 := 0) (n1 := 0) C hr (sX8_multiplicityOf ex40) rfl eo39 kX9_261 kim_X8_multiplicityOf ksel_X8_multiplicityOf kini_X8 kc_X8_multiplicityOf (by decide) rfl ⟨(Nat.le_of_ble_eq_true rfl), (Nat.le_of_ble_eq_true rfl)⟩ (Nat.le_of_ble_eq_true rfl) ⟨rfl, rfl, (Nat.le_of_ble_eq_true rfl), (Nat.le_of_ble_eq_true rfl)⟩ dX9_multiplicity_76 ?_
          rintro _ _ ⟨rfl, rfl⟩
          show jx_J X 0 0 79 [(3, .int x36), (0, .ref l0), (1, .int l1), (2, .int l2)] [.int x40] h41
          cases e
          exact j_iretX C hq rfl dX9_multiplicity_79 ⟨Nat.le_of_ble_eq_true rfl, Nat.le_of_ble_eq_true rfl⟩ ⟨_, _, rfl, rfl, rfl⟩
        · replace e := ifp c42 e
          refine j_iconst (v := (0 : Int32)) C dX9_multiplicity_67 (by decide) ?_
          refine j_goto (tgt := 79) C dX9_multiplicity_68 (by decide) ?_
          cases e
          exact j_iretX C hq rfl dX9_multiplicity_79 ⟨Nat.le_of_ble_eq_true rfl, Nat.le_of_ble_eq_true rfl⟩ ⟨_, _, rfl, rfl, rfl⟩
      · replace e := ifn c43 e
        refine j_iconst (v := (-1 : Int32)) C dX9_multiplicity_50 (by decide) ?_
        cases e
        exact j_iretX C hq rfl dX9_multiplicity_51 ⟨Nat.le_of_ble_eq_true rfl, Nat.le_of_ble_eq_true rfl⟩ ⟨_, _, rfl, rfl, rfl⟩
    · replace e := ifn c44 e
      refine jx_sub (lv' := []) [] rfl ?_
      exact b32 h e
/-! BorderBasis.addPoint(II)I -/
noncomputable def BX9_addPoint_32  (h : jx_H) : Option ((Int32 × jx_H) ⊕ (String × jx_H)) :=
some (.inr ("java/lang/IllegalArgumentException", h))
noncomputable def BX9_addPoint_64  (h : jx_H) : Option ((Int32 × jx_H) ⊕ (String × jx_H)) :=
some (.inr ("java/lang/IllegalStateException", h))
noncomputable def FX9_addPoint (l0 : Nat) (l1 : Int32) (l2 : Int32) (h : jx_H) : Option ((Int32 × jx_H) ⊕ (String × jx_H)) :=
(hgr h l0 9 0).bind fun x1 =>
(hgi h x1 5 0).bind fun x2 =>
(FX9_isOutside l1 (x2 - (1 : Int32)) h).bind fun x3 =>
if x3 = 0 then
 (hgr h l0 9 0).bind fun x4 =>
 (hgi h x4 5 0).bind fun x5 =>
 (FX9_isOutside l2 (x5 - (1 : Int32)) h).bind fun x6 =>
 if x6 = 0 then
  (hgr h l0 9 0).bind fun x7 =>
  (hgi h x7 5 9).bind fun x8 =>
  if (12 : Int32) ≤ x8 then
   BX9_addPoint_64  h
  else
   (hgr h l0 9 0).bind fun x9 =>
   (isO h x9 5).bind fun _ =>
   (FX5_hasPoint x9 l1 l2 h).bind fun x11 =>
   if x11 = 0 then
    (isO h l0 9).bind fun _ =>
    (FX9_beginChange l0 (3 : Int32) h).bind fun h13 =>
    (hgr h13 l0 9 0).bind fun x14 =>
    (isO h13 x14 5).bind fun _ =>
    (FX5_appendPoint x14 l1 l2 h13).bind fun h16 =>
    (hgr h16 l0 9 0).bind fun x17 =>
    (hgi h16 x17 5 9).bind fun x18 =>
    some (.inl ((x18 - (1 : Int32)), h16))
   else
    BX9_addPoint_64  h
 else
  BX9_addPoint_32  h
else
 BX9_addPoint_32  h
def rmX9_addPoint : Room := { frames := 7, cells := 9, slots := 255, locals := 148 }
set_option maxRecDepth 20000 in
set_option maxHeartbeats 4000000 in
theorem sX9_addPoint {l0 : Nat} {l1 : Int32} {l2 : Int32} {h : jx_H} {r : (Int32 × jx_H) ⊕ (String × jx_H)}  (e : FX9_addPoint l0 l1 l2 h = some r) : jx_Cx yX9_addPoint cX9_addPoint 3 (some .int) rmX9_addPoint [.ref l0, .int l1, .int l2] h (fun r' h' => ∃ (v : Int32) (h9 : jx_H), r = .inl (v, h9) ∧ some (.int v) = r' ∧ h9 = h') (fun E h' => ∃ (h9 : jx_H) (sz : Nat), r = .inr (E, h9) ∧ h9.1 ≤ sz ∧ h' = (sz, h9.2)) := by
  refine jx_Cx.of (own := RX9) (by decide) rfl (Nat.le_of_ble_eq_true rfl) (fun X C hq hr hL hN => ?_)
  refine jx_sub (lv' := [(0, .ref l0), (1, .int l1), (2, .int l2)]) [0, 1, 2] rfl ?_
  have b32 : ∀ (h23 : jx_H), BX9_addPoint_32 h23 = some r → jx_J X 0 0 32 [] [] h23 := by
    intro h23 e
    unfold BX9_addPoint_32 at e
    cases e
    exact j_throw0 (names := jx_names) (ik := 104) (ic := 106) C hr hq jx_fits.2.2.1 jx_fits.1 kX9_104 kini_IllegalArgumentException jx_thIAE ⟨rfl, rfl⟩ dX9_addPoint_32 dX9_addPoint_35 dX9_addPoint_36 dX9_addPoint_39 (Nat.le_of_ble_eq_true rfl) (Nat.le_of_ble_eq_true rfl) ⟨Nat.le_of_ble_eq_true rfl, Nat.le_of_ble_eq_true rfl, Nat.le_of_ble_eq_true rfl, Nat.le_of_ble_eq_true rfl⟩ (fun sz hsz => ⟨_, sz, rfl, hsz, rfl⟩)
  have b64 : ∀ (h24 : jx_H), BX9_addPoint_64 h24 = some r → jx_J X 0 0 64 [] [] h24 := by
    intro h24 e
    unfold BX9_addPoint_64 at e
    cases e
    exact j_throw0 (names := jx_names) (ik := 97) (ic := 99) C hr hq jx_fits.2.1 jx_fits.1 kX9_97 kini_IllegalStateException jx_thISE ⟨rfl, rfl⟩ dX9_addPoint_64 dX9_addPoint_67 dX9_addPoint_68 dX9_addPoint_71 (Nat.le_of_ble_eq_true rfl) (Nat.le_of_ble_eq_true rfl) ⟨Nat.le_of_ble_eq_true rfl, Nat.le_of_ble_eq_true rfl, Nat.le_of_ble_eq_true rfl, Nat.le_of_ble_eq_true rfl⟩ (fun sz hsz => ⟨_, sz, rfl, hsz, rfl⟩)
  unfold FX9_addPoint at e
  refine j_iload_n C dX9_addPoint_0 rfl rfl ?_
  refine j_aload_n C dX9_addPoint_1 rfl rfl ?_
  replace e := ob e
  obtain ⟨x25, ex25, e⟩ := e
  refine j_getr (ci := 9) (RC := RX9) (T := TX9) (N := 14) 0 C rfl klX9 (Nat.le_of_ble_eq_true rfl) kX9_12 rfl dX9_addPoint_2 ex25 ?_
  replace e := ob e
  obtain ⟨x26, ex26, e⟩ := e
  refine j_geti (ci := 5) (RC := RX5) (T := TX5) (N := 12) 0 C rfl klX5 (Nat.le_of_ble_eq_true rfl) kX9_132 rfl dX9_addPoint_5 ex26 ?_
  refine j_iconst (v := (1 : Int32)) C dX9_addPoint_8 (by decide) ?_
  refine j_isub C dX9_addPoint_9 ?_
  replace e := ob e
  obtain ⟨x27, ex27, e⟩ := e
  refine j_callS (As := [.int l1, .int (x26 - (1 : Int32))]) (na := 2) (st := []) (k1 := 0) (n1 := 0) C hr (sX9_isOutside ex27) kX9_171 kst_X9_isOutside kini_X9 kc_X9_isOutside (by decide) rfl ⟨(Nat.le_of_ble_eq_true rfl), (Nat.le_of_ble_eq_true rfl)⟩ (Nat.le_of_ble_eq_true rfl) ⟨rfl, rfl, (Nat.le_of_ble_eq_true rfl), (Nat.le_of_ble_eq_true rfl)⟩ dX9_addPoint_10 ?_
  rintro _ _ ⟨rfl, rfl⟩
  show jx_J X 0 0 13 [(0, .ref l0), (1, .int l1), (2, .int l2)] [.int x27] h
  refine j_if_ne (tgt := 32) C dX9_addPoint_13 (by decide) (fun c46 => ?_) (fun c46 => ?_)
  · replace e := ifn c46 e
    refine jx_sub (lv' := []) [] rfl ?_
    exact b32 h e
  · replace e := ifp c46 e
    refine j_iload_n C dX9_addPoint_16 rfl rfl ?_
    refine j_aload_n C dX9_addPoint_17 rfl rfl ?_
    replace e := ob e
    obtain ⟨x28, ex28, e⟩ := e
    refine j_getr (ci := 9) (RC := RX9) (T := TX9) (N := 14) 0 C rfl klX9 (Nat.le_of_ble_eq_true rfl) kX9_12 rfl dX9_addPoint_18 ex28 ?_
    replace e := ob e
    obtain ⟨x29, ex29, e⟩ := e
    refine j_geti (ci := 5) (RC := RX5) (T := TX5) (N := 12) 0 C rfl klX5 (Nat.le_of_ble_eq_true rfl) kX9_132 rfl dX9_addPoint_21 ex29 ?_
    refine j_iconst (v := (1 : Int32)) C dX9_addPoint_24 (by decide) ?_
    refine j_isub C dX9_addPoint_25 ?_
    replace e := ob e
    obtain ⟨x30, ex30, e⟩ := e
    refine j_callS (As := [.int l2, .int (x29 - (1 : Int32))]) (na := 2) (st := []) (k1 := 0) (n1 := 0) C hr (sX9_isOutside ex30) kX9_171 kst_X9_isOutside kini_X9 kc_X9_isOutside (by decide) rfl ⟨(Nat.le_of_ble_eq_true rfl), (Nat.le_of_ble_eq_true rfl)⟩ (Nat.le_of_ble_eq_true rfl) ⟨rfl, rfl, (Nat.le_of_ble_eq_true rfl), (Nat.le_of_ble_eq_true rfl)⟩ dX9_addPoint_26 ?_
    rintro _ _ ⟨rfl, rfl⟩
    show jx_J X 0 0 29 [(0, .ref l0), (1, .int l1), (2, .int l2)] [.int x30] h
    refine j_if_eq (tgt := 40) C dX9_addPoint_29 (by decide) (fun c45 => ?_) (fun c45 => ?_)
    · replace e := ifp c45 e
      refine j_aload_n C dX9_addPoint_40 rfl rfl ?_
      replace e := ob e
      obtain ⟨x31, ex31, e⟩ := e
      refine j_getr (ci := 9) (RC := RX9) (T := TX9) (N := 14) 0 C rfl klX9 (Nat.le_of_ble_eq_true rfl) kX9_12 rfl dX9_addPoint_41 ex31 ?_
      replace e := ob e
      obtain ⟨x32, ex32, e⟩ := e
      refine j_geti (ci := 5) (RC := RX5) (T := TX5) (N := 12) 9 C rfl klX5 (Nat.le_of_ble_eq_true rfl) kX9_162 rfl dX9_addPoint_44 ex32 ?_
      refine j_bipush (v := (12 : Int32)) C dX9_addPoint_47 (by decide) ?_
      refine j_icmp_ge (tgt := 64) C dX9_addPoint_49 (by decide) (fun c44 => ?_) (fun c44 => ?_)
      · replace e := ifp c44 e
        refine jx_sub (lv' := []) [] rfl ?_
        exact b64 h e
      · replace e := ifn c44 e
        refine j_aload_n C dX9_addPoint_52 rfl rfl ?_
        replace e := ob e
        obtain ⟨x33, ex33, e⟩ := e
        refine j_getr (ci := 9) (RC := RX9) (T := TX9) (N := 14) 0 C rfl klX9 (Nat.le_of_ble_eq_true rfl) kX9_12 rfl dX9_addPoint_53 ex33 ?_
        refine j_iload_n C dX9_addPoint_56 rfl rfl ?_
        refine j_iload_n C dX9_addPoint_57 rfl rfl ?_
        replace e := ob e
        obtain ⟨_, eo34, e⟩ := e
        replace e := ob e
        obtain ⟨x35, ex35, e⟩ := e
        refine j_callV (ci := 5) (RC := RX5) (T := TX5) (N := 12) (As := [.int l1, .int l2]) (b := x33) (na := 2) (st := []) (k1 := 0) (n1 := 0) C hr (sX5_hasPoint ex35) rfl eo34 kX9_275 kim_X5_hasPoint ksel_X5_hasPoint kini_X5 kc_X5_hasPoint (by decide) rfl ⟨(Nat.le_of_ble_eq_true rfl), (Nat.le_of_ble_eq_true rfl)⟩ (Nat.le_of_ble_eq_true rfl) ⟨rfl, rfl, (Nat.le_of_ble_eq_true rfl), (Nat.le_of_ble_eq_true rfl)⟩ dX9_addPoint_58 ?_
        rintro _ _ ⟨rfl, rfl⟩
        show jx_J X 0 0 61 [(0, .ref l0), (1, .int l1), (2, .int l2)] [.int x35] h
        refine j_if_eq (tgt := 72) C dX9_addPoint_61 (by decide) (fun c43 => ?_) (fun c43 => ?_)
        · replace e := ifp c43 e
          refine j_aload_n C dX9_addPoint_72 rfl rfl ?_
          refine j_iconst (v := (3 : Int32)) C dX9_addPoint_73 (by decide) ?_
          replace e := ob e
          obtain ⟨_, eo36, e⟩ := e
          replace e := ob e
          obtain ⟨h37, eh37, e⟩ := e
          refine j_callV (ci := 9) (RC := RX9) (T := TX9) (N := 14) (As := [.int (3 : Int32)]) (b := l0) (na := 1) (st := []) (k1 := 9) (n1 := 255) C hr (sX9_beginChange eh37) rfl eo36 kX9_179 kim_X9_beginChange ksel_X9_beginChange kini_X9 kc_X9_beginChange (by decide) rfl ⟨(Nat.le_of_ble_eq_true rfl), (Nat.le_of_ble_eq_true rfl)⟩ (Nat.le_of_ble_eq_true rfl) ⟨rfl, rfl, (Nat.le_of_ble_eq_true rfl), (Nat.le_of_ble_eq_true rfl)⟩ dX9_addPoint_74 ?_
          rintro _ _ ⟨rfl, rfl⟩
          show jx_J X 9 255 77 [(0, .ref l0), (1, .int l1), (2, .int l2)] [] h37
          refine j_aload_n C dX9_addPoint_77 rfl rfl ?_
          replace e := ob e
          obtain ⟨x38, ex38, e⟩ := e
          refine j_getr (ci := 9) (RC := RX9) (T := TX9) (N := 14) 0 C rfl klX9 (Nat.le_of_ble_eq_true rfl) kX9_12 rfl dX9_addPoint_78 ex38 ?_
          refine j_iload_n C dX9_addPoint_81 rfl rfl ?_
          refine j_iload_n C dX9_addPoint_82 rfl rfl ?_
          replace e := ob e
          obtain ⟨_, eo39, e⟩ := e
          replace e := ob e
          obtain ⟨h40, eh40, e⟩ := e
          refine j_callV (ci := 5) (RC := RX5) (T := TX5) (N := 12) (As := [.int l1, .int l2]) (b := x38) (na := 2) (st := []) (k1 := 9) (n1 := 255) C hr (sX5_appendPoint eh40) rfl eo39 kX9_278 kim_X5_appendPoint ksel_X5_appendPoint kini_X5 kc_X5_appendPoint (by decide) rfl ⟨(Nat.le_of_ble_eq_true rfl), (Nat.le_of_ble_eq_true rfl)⟩ (Nat.le_of_ble_eq_true rfl) ⟨rfl, rfl, (Nat.le_of_ble_eq_true rfl), (Nat.le_of_ble_eq_true rfl)⟩ dX9_addPoint_83 ?_
          rintro _ _ ⟨rfl, rfl⟩
          show jx_J X 9 255 86 [(0, .ref l0), (1, .int l1), (2, .int l2)] [] h40
          refine j_aload_n C dX9_addPoint_86 rfl rfl ?_
          replace e := ob e
          obtain ⟨x41, ex41, e⟩ := e
          refine j_getr (ci := 9) (RC := RX9) (T := TX9) (N := 14) 0 C rfl klX9 (Nat.le_of_ble_eq_true rfl) kX9_12 rfl dX9_addPoint_87 ex41 ?_
          replace e := ob e
          obtain ⟨x42, ex42, e⟩ := e
          refine j_geti (ci := 5) (RC := RX5) (T := TX5) (N := 12) 9 C rfl klX5 (Nat.le_of_ble_eq_true rfl) kX9_162 rfl dX9_addPoint_90 ex42 ?_
          refine j_iconst (v := (1 : Int32)) C dX9_addPoint_93 (by decide) ?_
          refine j_isub C dX9_addPoint_94 ?_
          cases e
          exact j_iretX C hq rfl dX9_addPoint_95 ⟨Nat.le_of_ble_eq_true rfl, Nat.le_of_ble_eq_true rfl⟩ ⟨_, _, rfl, rfl, rfl⟩
        · replace e := ifn c43 e
          refine jx_sub (lv' := []) [] rfl ?_
          exact b64 h e
    · replace e := ifn c45 e
      refine jx_sub (lv' := []) [] rfl ?_
      exact b32 h e
/-! BorderBasis.removePoint(I)I -/
noncomputable def BX9_removePoint_15  (h : jx_H) : Option ((Int32 × jx_H) ⊕ (String × jx_H)) :=
some (.inr ("java/lang/IndexOutOfBoundsException", h))
noncomputable def FX9_removePoint (l0 : Nat) (l1 : Int32) (h : jx_H) : Option ((Int32 × jx_H) ⊕ (String × jx_H)) :=
if l1 < 0 then
 BX9_removePoint_15  h
else
 (hgr h l0 9 0).bind fun x1 =>
 (hgi h x1 5 9).bind fun x2 =>
 if l1 < x2 then
  (isO h l0 9).bind fun _ =>
  (FX9_beginChange l0 (4 : Int32) h).bind fun h4 =>
  (hgr h4 l0 9 0).bind fun x5 =>
  (isO h4 x5 5).bind fun _ =>
  (FX5_deletePoint x5 l1 h4).bind fun h7 =>
  (hgr h7 l0 9 0).bind fun x8 =>
  (hgi h7 x8 5 9).bind fun x9 =>
  some (.inl (x9, h7))
 else
  BX9_removePoint_15  h
def rmX9_removePoint : Room := { frames := 7, cells := 9, slots := 255, locals := 148 }
set_option maxRecDepth 20000 in
set_option maxHeartbeats 4000000 in
theorem sX9_removePoint {l0 : Nat} {l1 : Int32} {h : jx_H} {r : (Int32 × jx_H) ⊕ (String × jx_H)}  (e : FX9_removePoint l0 l1 h = some r) : jx_Cx yX9_removePoint cX9_removePoint 2 (some .int) rmX9_removePoint [.ref l0, .int l1] h (fun r' h' => ∃ (v : Int32) (h9 : jx_H), r = .inl (v, h9) ∧ some (.int v) = r' ∧ h9 = h') (fun E h' => ∃ (h9 : jx_H) (sz : Nat), r = .inr (E, h9) ∧ h9.1 ≤ sz ∧ h' = (sz, h9.2)) := by
  refine jx_Cx.of (own := RX9) (by decide) rfl (Nat.le_of_ble_eq_true rfl) (fun X C hq hr hL hN => ?_)
  refine jx_sub (lv' := [(0, .ref l0), (1, .int l1)]) [0, 1] rfl ?_
  have b15 : ∀ (h12 : jx_H), BX9_removePoint_15 h12 = some r → jx_J X 0 0 15 [] [] h12 := by
    intro h12 e
    unfold BX9_removePoint_15 at e
    cases e
    exact j_throw0 (names := jx_names) (ik := 152) (ic := 154) C hr hq jx_fits.2.2.2 jx_fits.1 kX9_152 kini_IndexOutOfBoundsException jx_thIOB ⟨rfl, rfl⟩ dX9_removePoint_15 dX9_removePoint_18 dX9_removePoint_19 dX9_removePoint_22 (Nat.le_of_ble_eq_true rfl) (Nat.le_of_ble_eq_true rfl) ⟨Nat.le_of_ble_eq_true rfl, Nat.le_of_ble_eq_true rfl, Nat.le_of_ble_eq_true rfl, Nat.le_of_ble_eq_true rfl⟩ (fun sz hsz => ⟨_, sz, rfl, hsz, rfl⟩)
  unfold FX9_removePoint at e
  refine j_iload_n C dX9_removePoint_0 rfl rfl ?_
  refine j_if_lt (tgt := 15) C dX9_removePoint_1 (by decide) (fun c23 => ?_) (fun c23 => ?_)
  · replace e := ifp c23 e
    refine jx_sub (lv' := []) [] rfl ?_
    exact b15 h e
  · replace e := ifn c23 e
    refine j_iload_n C dX9_removePoint_4 rfl rfl ?_
    refine j_aload_n C dX9_removePoint_5 rfl rfl ?_
    replace e := ob e
    obtain ⟨x13, ex13, e⟩ := e
    refine j_getr (ci := 9) (RC := RX9) (T := TX9) (N := 14) 0 C rfl klX9 (Nat.le_of_ble_eq_true rfl) kX9_12 rfl dX9_removePoint_6 ex13 ?_
    replace e := ob e
    obtain ⟨x14, ex14, e⟩ := e
    refine j_geti (ci := 5) (RC := RX5) (T := TX5) (N := 12) 9 C rfl klX5 (Nat.le_of_ble_eq_true rfl) kX9_162 rfl dX9_removePoint_9 ex14 ?_
    refine j_icmp_lt (tgt := 23) C dX9_removePoint_12 (by decide) (fun c22 => ?_) (fun c22 => ?_)
    · replace e := ifp c22 e
      refine j_aload_n C dX9_removePoint_23 rfl rfl ?_
      refine j_iconst (v := (4 : Int32)) C dX9_removePoint_24 (by decide) ?_
      replace e := ob e
      obtain ⟨_, eo15, e⟩ := e
      replace e := ob e
      obtain ⟨h16, eh16, e⟩ := e
      refine j_callV (ci := 9) (RC := RX9) (T := TX9) (N := 14) (As := [.int (4 : Int32)]) (b := l0) (na := 1) (st := []) (k1 := 9) (n1 := 255) C hr (sX9_beginChange eh16) rfl eo15 kX9_179 kim_X9_beginChange ksel_X9_beginChange kini_X9 kc_X9_beginChange (by decide) rfl ⟨(Nat.le_of_ble_eq_true rfl), (Nat.le_of_ble_eq_true rfl)⟩ (Nat.le_of_ble_eq_true rfl) ⟨rfl, rfl, (Nat.le_of_ble_eq_true rfl), (Nat.le_of_ble_eq_true rfl)⟩ dX9_removePoint_25 ?_
      rintro _ _ ⟨rfl, rfl⟩
      show jx_J X 9 255 28 [(0, .ref l0), (1, .int l1)] [] h16
      refine j_aload_n C dX9_removePoint_28 rfl rfl ?_
      replace e := ob e
      obtain ⟨x17, ex17, e⟩ := e
      refine j_getr (ci := 9) (RC := RX9) (T := TX9) (N := 14) 0 C rfl klX9 (Nat.le_of_ble_eq_true rfl) kX9_12 rfl dX9_removePoint_29 ex17 ?_
      refine j_iload_n C dX9_removePoint_32 rfl rfl ?_
      replace e := ob e
      obtain ⟨_, eo18, e⟩ := e
      replace e := ob e
      obtain ⟨h19, eh19, e⟩ := e
      refine j_callV (ci := 5) (RC := RX5) (T := TX5) (N := 12) (As := [.int l1]) (b := x17) (na := 1) (st := []) (k1 := 9) (n1 := 255) C hr (sX5_deletePoint eh19) rfl eo18 kX9_282 kim_X5_deletePoint ksel_X5_deletePoint kini_X5 kc_X5_deletePoint (by decide) rfl ⟨(Nat.le_of_ble_eq_true rfl), (Nat.le_of_ble_eq_true rfl)⟩ (Nat.le_of_ble_eq_true rfl) ⟨rfl, rfl, (Nat.le_of_ble_eq_true rfl), (Nat.le_of_ble_eq_true rfl)⟩ dX9_removePoint_33 ?_
      rintro _ _ ⟨rfl, rfl⟩
      show jx_J X 9 255 36 [(0, .ref l0), (1, .int l1)] [] h19
      refine j_aload_n C dX9_removePoint_36 rfl rfl ?_
      replace e := ob e
      obtain ⟨x20, ex20, e⟩ := e
      refine j_getr (ci := 9) (RC := RX9) (T := TX9) (N := 14) 0 C rfl klX9 (Nat.le_of_ble_eq_true rfl) kX9_12 rfl dX9_removePoint_37 ex20 ?_
      replace e := ob e
      obtain ⟨x21, ex21, e⟩ := e
      refine j_geti (ci := 5) (RC := RX5) (T := TX5) (N := 12) 9 C rfl klX5 (Nat.le_of_ble_eq_true rfl) kX9_162 rfl dX9_removePoint_40 ex21 ?_
      cases e
      exact j_iretX C hq rfl dX9_removePoint_43 ⟨Nat.le_of_ble_eq_true rfl, Nat.le_of_ble_eq_true rfl⟩ ⟨_, _, rfl, rfl, rfl⟩
    · replace e := ifn c22 e
      refine jx_sub (lv' := []) [] rfl ?_
      exact b15 h e
/-! BorderBasis.point(II)I -/
noncomputable def BX9_point_15  (h : jx_H) : Option ((Int32 × jx_H) ⊕ (String × jx_H)) :=
some (.inr ("java/lang/IndexOutOfBoundsException", h))
noncomputable def FX9_point (l0 : Nat) (l1 : Int32) (l2 : Int32) (h : jx_H) : Option ((Int32 × jx_H) ⊕ (String × jx_H)) :=
if l1 < 0 then
 BX9_point_15  h
else
 (hgr h l0 9 0).bind fun x1 =>
 (hgi h x1 5 9).bind fun x2 =>
 if l1 < x2 then
  (FX9_isOutside l2 (2 : Int32) h).bind fun x3 =>
  if x3 = 0 then
   (hgr h l0 9 0).bind fun x4 =>
   (hgr h x4 5 10).bind fun x5 =>
   (hal h .int x5 l1).bind fun x6 =>
   (hgr h l0 9 0).bind fun x7 =>
   (hgr h x7 5 11).bind fun x8 =>
   (hal h .int x8 l1).bind fun x9 =>
   if l2 = (2 : Int32) then
    (hgr h l0 9 6).bind fun x11 =>
    (hgr h l0 9 0).bind fun x12 =>
    (hgi h x12 5 0).bind fun x13 =>
    (isO h x11 4).bind fun _ =>
    (FX4_moveTo x11 x6 x9 x13 h).bind fun h15 =>
    (hgr h15 l0 9 6).bind fun x16 =>
    (hgr h15 l0 9 0).bind fun x17 =>
    (isO h15 x16 4).bind fun _ =>
    (FX4_isZeroOf x16 x17 h15).bind fun x19 =>
    if x19 = 0 then
     some (.inl ((0 : Int32), h15))
    else
     some (.inl ((1 : Int32), h15))
   else
    if l2 = 0 then
     some (.inl (x6, h))
    else
     some (.inl (x9, h))
  else
   some (.inr ("java/lang/IllegalArgumentException", h))
 else
  BX9_point_15  h
def rmX9_point : Room := { frames := 6, cells := 1, slots := 6, locals := 91 }
set_option maxRecDepth 20000 in
set_option maxHeartbeats 4000000 in
theorem sX9_point {l0 : Nat} {l1 : Int32} {l2 : Int32} {h : jx_H} {r : (Int32 × jx_H) ⊕ (String × jx_H)}  (e : FX9_point l0 l1 l2 h = some r) : jx_Cx yX9_point cX9_point 5 (some .int) rmX9_point [.ref l0, .int l1, .int l2] h (fun r' h' => ∃ (v : Int32) (h9 : jx_H), r = .inl (v, h9) ∧ some (.int v) = r' ∧ h9 = h') (fun E h' => ∃ (h9 : jx_H) (sz : Nat), r = .inr (E, h9) ∧ h9.1 ≤ sz ∧ h' = (sz, h9.2)) := by
  refine jx_Cx.of (own := RX9) (by decide) rfl (Nat.le_of_ble_eq_true rfl) (fun X C hq hr hL hN => ?_)
  refine jx_sub (lv' := [(0, .ref l0), (1, .int l1), (2, .int l2)]) [0, 1, 2] rfl ?_
  have b15 : ∀ (h25 : jx_H), BX9_point_15 h25 = some r → jx_J X 0 0 15 [] [] h25 := by
    intro h25 e
    unfold BX9_point_15 at e
    cases e
    exact j_throw0 (names := jx_names) (ik := 152) (ic := 154) C hr hq jx_fits.2.2.2 jx_fits.1 kX9_152 kini_IndexOutOfBoundsException jx_thIOB ⟨rfl, rfl⟩ dX9_point_15 dX9_point_18 dX9_point_19 dX9_point_22 (Nat.le_of_ble_eq_true rfl) (Nat.le_of_ble_eq_true rfl) ⟨Nat.le_of_ble_eq_true rfl, Nat.le_of_ble_eq_true rfl, Nat.le_of_ble_eq_true rfl, Nat.le_of_ble_eq_true rfl⟩ (fun sz hsz => ⟨_, sz, rfl, hsz, rfl⟩)
  unfold FX9_point at e
  refine j_iload_n C dX9_point_0 rfl rfl ?_
  refine j_if_lt (tgt := 15) C dX9_point_1 (by decide) (fun c49 => ?_) (fun c49 => ?_)
  · replace e := ifp c49 e
    refine jx_sub (lv' := []) [] rfl ?_
    exact b15 h e
  · replace e := ifn c49 e
    refine j_iload_n C dX9_point_4 rfl rfl ?_
    refine j_aload_n C dX9_point_5 rfl rfl ?_
    replace e := ob e
    obtain ⟨x26, ex26, e⟩ := e
    refine j_getr (ci := 9) (RC := RX9) (T := TX9) (N := 14) 0 C rfl klX9 (Nat.le_of_ble_eq_true rfl) kX9_12 rfl dX9_point_6 ex26 ?_
    replace e := ob e
    obtain ⟨x27, ex27, e⟩ := e
    refine j_geti (ci := 5) (RC := RX5) (T := TX5) (N := 12) 9 C rfl klX5 (Nat.le_of_ble_eq_true rfl) kX9_162 rfl dX9_point_9 ex27 ?_
    refine j_icmp_lt (tgt := 23) C dX9_point_12 (by decide) (fun c48 => ?_) (fun c48 => ?_)
    · replace e := ifp c48 e
      refine j_iload_n C dX9_point_23 rfl rfl ?_
      refine j_iconst (v := (2 : Int32)) C dX9_point_24 (by decide) ?_
      replace e := ob e
      obtain ⟨x28, ex28, e⟩ := e
      refine j_callS (As := [.int l2, .int (2 : Int32)]) (na := 2) (st := []) (k1 := 0) (n1 := 0) C hr (sX9_isOutside ex28) kX9_171 kst_X9_isOutside kini_X9 kc_X9_isOutside (by decide) rfl ⟨(Nat.le_of_ble_eq_true rfl), (Nat.le_of_ble_eq_true rfl)⟩ (Nat.le_of_ble_eq_true rfl) ⟨rfl, rfl, (Nat.le_of_ble_eq_true rfl), (Nat.le_of_ble_eq_true rfl)⟩ dX9_point_25 ?_
      rintro _ _ ⟨rfl, rfl⟩
      show jx_J X 0 0 28 [(0, .ref l0), (1, .int l1), (2, .int l2)] [.int x28] h
      refine j_if_eq (tgt := 39) C dX9_point_28 (by decide) (fun c47 => ?_) (fun c47 => ?_)
      · replace e := ifp c47 e
        refine j_aload_n C dX9_point_39 rfl rfl ?_
        replace e := ob e
        obtain ⟨x29, ex29, e⟩ := e
        refine j_getr (ci := 9) (RC := RX9) (T := TX9) (N := 14) 0 C rfl klX9 (Nat.le_of_ble_eq_true rfl) kX9_12 rfl dX9_point_40 ex29 ?_
        replace e := ob e
        obtain ⟨x30, ex30, e⟩ := e
        refine j_getr (ci := 5) (RC := RX5) (T := TX5) (N := 12) 10 C rfl klX5 (Nat.le_of_ble_eq_true rfl) kX9_285 rfl dX9_point_43 ex30 ?_
        refine j_iload_n C dX9_point_46 rfl rfl ?_
        replace e := ob e
        obtain ⟨x31, ex31, e⟩ := e
        refine j_iald C dX9_point_47 ex31 ?_
        refine j_istore_n (lv1 := [(3, .int x31), (0, .ref l0), (1, .int l1), (2, .int l2)]) C hL dX9_point_48 rfl (Nat.le_of_ble_eq_true rfl) rfl ?_
        refine j_aload_n C dX9_point_49 rfl rfl ?_
        replace e := ob e
        obtain ⟨x32, ex32, e⟩ := e
        refine j_getr (ci := 9) (RC := RX9) (T := TX9) (N := 14) 0 C rfl klX9 (Nat.le_of_ble_eq_true rfl) kX9_12 rfl dX9_point_50 ex32 ?_
        replace e := ob e
        obtain ⟨x33, ex33, e⟩ := e
        refine j_getr (ci := 5) (RC := RX5) (T := TX5) (N := 12) 11 C rfl klX5 (Nat.le_of_ble_eq_true rfl) kX9_288 rfl dX9_point_53 ex33 ?_
        refine j_iload_n C dX9_point_56 rfl rfl ?_
        replace e := ob e
        obtain ⟨x34, ex34, e⟩ := e
        refine j_iald C dX9_point_57 ex34 ?_
        refine j_istore (lv1 := [(4, .int x34), (3, .int x31), (0, .ref l0), (1, .int l1), (2, .int l2)]) C hL dX9_point_58 (Nat.le_of_ble_eq_true rfl) rfl ?_
        refine j_iload_n C dX9_point_60 rfl rfl ?_
        refine j_iconst (v := (2 : Int32)) C dX9_point_61 (by decide) ?_
        refine j_icmp_ne (tgt := 102) C dX9_point_62 (by decide) (fun c46 => ?_) (fun c46 => ?_)
        · replace e := ifn c46 e
          refine j_iload_n C dX9_point_102 rfl rfl ?_
          refine j_if_ne (tgt := 110) C dX9_point_103 (by decide) (fun c35 => ?_) (fun c35 => ?_)
          · replace e := ifn c35 e
            refine j_iload C dX9_point_110 rfl ?_
            cases e
            exact j_iretX C hq rfl dX9_point_112 ⟨Nat.le_of_ble_eq_true rfl, Nat.le_of_ble_eq_true rfl⟩ ⟨_, _, rfl, rfl, rfl⟩
          · replace e := ifp c35 e
            refine j_iload_n C dX9_point_106 rfl rfl ?_
            refine j_goto (tgt := 112) C dX9_point_107 (by decide) ?_
            cases e
            exact j_iretX C hq rfl dX9_point_112 ⟨Nat.le_of_ble_eq_true rfl, Nat.le_of_ble_eq_true rfl⟩ ⟨_, _, rfl, rfl, rfl⟩
        · replace e := ifp c46 e
          refine j_aload_n C dX9_point_65 rfl rfl ?_
          replace e := ob e
          obtain ⟨x36, ex36, e⟩ := e
          refine j_getr (ci := 9) (RC := RX9) (T := TX9) (N := 14) 6 C rfl klX9 (Nat.le_of_ble_eq_true rfl) kX9_40 rfl dX9_point_66 ex36 ?_
          refine j_iload_n C dX9_point_69 rfl rfl ?_
          refine j_iload C dX9_point_70 rfl ?_
          refine j_aload_n C dX9_point_72 rfl rfl ?_
          replace e := ob e
          obtain ⟨x37, ex37, e⟩ := e
          refine j_getr (ci := 9) (RC := RX9) (T := TX9) (N := 14) 0 C rfl klX9 (Nat.le_of_ble_eq_true rfl) kX9_12 rfl dX9_point_73 ex37 ?_
          replace e := ob e
          obtain ⟨x38, ex38, e⟩ := e
          refine j_geti (ci := 5) (RC := RX5) (T := TX5) (N := 12) 0 C rfl klX5 (Nat.le_of_ble_eq_true rfl) kX9_132 rfl dX9_point_76 ex38 ?_
          replace e := ob e
          obtain ⟨_, eo39, e⟩ := e
          replace e := ob e
          obtain ⟨h40, eh40, e⟩ := e
          refine j_callV (ci := 4) (RC := RX4) (T := TX4) (N := 3) (As := [.int x31, .int x34, .int x38]) (b := x36) (na := 3) (st := []) (k1 := 0) (n1 := 0) C hr (sX4_moveTo eh40) rfl eo39 kX9_218 kim_X4_moveTo ksel_X4_moveTo kini_X4 kc_X4_moveTo (by decide) rfl ⟨(Nat.le_of_ble_eq_true rfl), (Nat.le_of_ble_eq_true rfl)⟩ (Nat.le_of_ble_eq_true rfl) ⟨rfl, rfl, (Nat.le_of_ble_eq_true rfl), (Nat.le_of_ble_eq_true rfl)⟩ dX9_point_79 ?_
          rintro _ _ ⟨rfl, rfl⟩
          show jx_J X 0 0 82 [(4, .int x34), (3, .int x31), (0, .ref l0), (1, .int l1), (2, .int l2)] [] h40
          refine j_aload_n C dX9_point_82 rfl rfl ?_
          replace e := ob e
          obtain ⟨x41, ex41, e⟩ := e
          refine j_getr (ci := 9) (RC := RX9) (T := TX9) (N := 14) 6 C rfl klX9 (Nat.le_of_ble_eq_true rfl) kX9_40 rfl dX9_point_83 ex41 ?_
          refine j_aload_n C dX9_point_86 rfl rfl ?_
          replace e := ob e
          obtain ⟨x42, ex42, e⟩ := e
          refine j_getr (ci := 9) (RC := RX9) (T := TX9) (N := 14) 0 C rfl klX9 (Nat.le_of_ble_eq_true rfl) kX9_12 rfl dX9_point_87 ex42 ?_
          replace e := ob e
          obtain ⟨_, eo43, e⟩ := e
          replace e := ob e
          obtain ⟨x44, ex44, e⟩ := e
          refine j_callV (ci := 4) (RC := RX4) (T := TX4) (N := 3) (As := [.ref x42]) (b := x41) (na := 1) (st := []) (k1 := 0) (n1 := 0) C hr (sX4_isZeroOf ex44) rfl eo43 kX9_291 kim_X4_isZeroOf ksel_X4_isZeroOf kini_X4 kc_X4_isZeroOf (by decide) rfl ⟨(Nat.le_of_ble_eq_true rfl), (Nat.le_of_ble_eq_true rfl)⟩ (Nat.le_of_ble_eq_true rfl) ⟨rfl, rfl, (Nat.le_of_ble_eq_true rfl), (Nat.le_of_ble_eq_true rfl)⟩ dX9_point_90 ?_
          rintro _ _ ⟨rfl, rfl⟩
          show jx_J X 0 0 93 [(4, .int x34), (3, .int x31), (0, .ref l0), (1, .int l1), (2, .int l2)] [.int x44] h40
          refine j_if_eq (tgt := 100) C dX9_point_93 (by decide) (fun c45 => ?_) (fun c45 => ?_)
          · replace e := ifp c45 e
            refine j_iconst (v := (0 : Int32)) C dX9_point_100 (by decide) ?_
            cases e
            exact j_iretX C hq rfl dX9_point_101 ⟨Nat.le_of_ble_eq_true rfl, Nat.le_of_ble_eq_true rfl⟩ ⟨_, _, rfl, rfl, rfl⟩
          · replace e := ifn c45 e
            refine j_iconst (v := (1 : Int32)) C dX9_point_96 (by decide) ?_
            refine j_goto (tgt := 101) C dX9_point_97 (by decide) ?_
            cases e
            exact j_iretX C hq rfl dX9_point_101 ⟨Nat.le_of_ble_eq_true rfl, Nat.le_of_ble_eq_true rfl⟩ ⟨_, _, rfl, rfl, rfl⟩
      · replace e := ifn c47 e
        cases e
        exact j_throw0 (names := jx_names) (ik := 104) (ic := 106) C hr hq jx_fits.2.2.1 jx_fits.1 kX9_104 kini_IllegalArgumentException jx_thIAE ⟨rfl, rfl⟩ dX9_point_31 dX9_point_34 dX9_point_35 dX9_point_38 (Nat.le_of_ble_eq_true rfl) (Nat.le_of_ble_eq_true rfl) ⟨Nat.le_of_ble_eq_true rfl, Nat.le_of_ble_eq_true rfl, Nat.le_of_ble_eq_true rfl, Nat.le_of_ble_eq_true rfl⟩ (fun sz hsz => ⟨_, sz, rfl, hsz, rfl⟩)
    · replace e := ifn c48 e
      refine jx_sub (lv' := []) [] rfl ?_
      exact b15 h e
/-! BorderBasis.fit()I -/
noncomputable def FX9_fit (l0 : Nat) (h : jx_H) : Option ((Int32 × jx_H) ⊕ (String × jx_H)) :=
(hgr h l0 9 0).bind fun x1 =>
(hgi h x1 5 9).bind fun x2 =>
if x2 = 0 then
 some (.inr ("java/lang/IllegalStateException", h))
else
 (isO h l0 9).bind fun _ =>
 (FX9_beginChange l0 (5 : Int32) h).bind fun h4 =>
 (hgr h4 l0 9 9).bind fun x5 =>
 (hgr h4 l0 9 0).bind fun x6 =>
 (hgr h4 l0 9 2).bind fun x7 =>
 (isO h4 x5 0).bind fun _ =>
 (FX0_fitPoints x5 x6 x7 h4).bind fun h9 =>
 (hgr h9 l0 9 0).bind fun x10 =>
 (hgr h9 l0 9 2).bind fun x11 =>
 (isO h9 x10 5).bind fun _ =>
 (FX5_copyFrom x10 x11 h9).bind fun h13 =>
 (hgr h13 l0 9 0).bind fun x14 =>
 (hgi h13 x14 5 2).bind fun x15 =>
 some (.inl (x15, h13))
def rmX9_fit : Room := { frames := 7, cells := 9, slots := 255, locals := 148 }
set_option maxRecDepth 20000 in
set_option maxHeartbeats 4000000 in
theorem sX9_fit {l0 : Nat} {h : jx_H} {r : (Int32 × jx_H) ⊕ (String × jx_H)}  (e : FX9_fit l0 h = some r) : jx_Cx yX9_fit cX9_fit 1 (some .int) rmX9_fit [.ref l0] h (fun r' h' => ∃ (v : Int32) (h9 : jx_H), r = .inl (v, h9) ∧ some (.int v) = r' ∧ h9 = h') (fun E h' => ∃ (h9 : jx_H) (sz : Nat), r = .inr (E, h9) ∧ h9.1 ≤ sz ∧ h' = (sz, h9.2)) := by
  refine jx_Cx.of (own := RX9) (by decide) rfl (Nat.le_of_ble_eq_true rfl) (fun X C hq hr hL hN => ?_)
  refine jx_sub (lv' := [(0, .ref l0)]) [0] rfl ?_
  unfold FX9_fit at e
  refine j_aload_n C dX9_fit_0 rfl rfl ?_
  replace e := ob e
  obtain ⟨x17, ex17, e⟩ := e
  refine j_getr (ci := 9) (RC := RX9) (T := TX9) (N := 14) 0 C rfl klX9 (Nat.le_of_ble_eq_true rfl) kX9_12 rfl dX9_fit_1 ex17 ?_
  replace e := ob e
  obtain ⟨x18, ex18, e⟩ := e
  refine j_geti (ci := 5) (RC := RX5) (T := TX5) (N := 12) 9 C rfl klX5 (Nat.le_of_ble_eq_true rfl) kX9_162 rfl dX9_fit_4 ex18 ?_
  refine j_if_ne (tgt := 18) C dX9_fit_7 (by decide) (fun c32 => ?_) (fun c32 => ?_)
  · replace e := ifn c32 e
    refine j_aload_n C dX9_fit_18 rfl rfl ?_
    refine j_iconst (v := (5 : Int32)) C dX9_fit_19 (by decide) ?_
    replace e := ob e
    obtain ⟨_, eo19, e⟩ := e
    replace e := ob e
    obtain ⟨h20, eh20, e⟩ := e
    refine j_callV (ci := 9) (RC := RX9) (T := TX9) (N := 14) (As := [.int (5 : Int32)]) (b := l0) (na := 1) (st := []) (k1 := 9) (n1 := 255) C hr (sX9_beginChange eh20) rfl eo19 kX9_179 kim_X9_beginChange ksel_X9_beginChange kini_X9 kc_X9_beginChange (by decide) rfl ⟨(Nat.le_of_ble_eq_true rfl), (Nat.le_of_ble_eq_true rfl)⟩ (Nat.le_of_ble_eq_true rfl) ⟨rfl, rfl, (Nat.le_of_ble_eq_true rfl), (Nat.le_of_ble_eq_true rfl)⟩ dX9_fit_20 ?_
    rintro _ _ ⟨rfl, rfl⟩
    show jx_J X 9 255 23 [(0, .ref l0)] [] h20
    refine j_aload_n C dX9_fit_23 rfl rfl ?_
    replace e := ob e
    obtain ⟨x21, ex21, e⟩ := e
    refine j_getr (ci := 9) (RC := RX9) (T := TX9) (N := 14) 9 C rfl klX9 (Nat.le_of_ble_eq_true rfl) kX9_67 rfl dX9_fit_24 ex21 ?_
    refine j_aload_n C dX9_fit_27 rfl rfl ?_
    replace e := ob e
    obtain ⟨x22, ex22, e⟩ := e
    refine j_getr (ci := 9) (RC := RX9) (T := TX9) (N := 14) 0 C rfl klX9 (Nat.le_of_ble_eq_true rfl) kX9_12 rfl dX9_fit_28 ex22 ?_
    refine j_aload_n C dX9_fit_31 rfl rfl ?_
    replace e := ob e
    obtain ⟨x23, ex23, e⟩ := e
    refine j_getr (ci := 9) (RC := RX9) (T := TX9) (N := 14) 2 C rfl klX9 (Nat.le_of_ble_eq_true rfl) kX9_19 rfl dX9_fit_32 ex23 ?_
    replace e := ob e
    obtain ⟨_, eo24, e⟩ := e
    replace e := ob e
    obtain ⟨h25, eh25, e⟩ := e
    refine j_callV (ci := 0) (RC := RX0) (T := TX0) (N := 2) (As := [.ref x22, .ref x23]) (b := x21) (na := 2) (st := []) (k1 := 9) (n1 := 255) C hr (sX0_fitPoints eh25) rfl eo24 kX9_295 kim_X0_fitPoints ksel_X0_fitPoints kini_X0 kc_X0_fitPoints (by decide) rfl ⟨(Nat.le_of_ble_eq_true rfl), (Nat.le_of_ble_eq_true rfl)⟩ (Nat.le_of_ble_eq_true rfl) ⟨rfl, rfl, (Nat.le_of_ble_eq_true rfl), (Nat.le_of_ble_eq_true rfl)⟩ dX9_fit_35 ?_
    rintro _ _ ⟨rfl, rfl⟩
    show jx_J X 9 255 38 [(0, .ref l0)] [] h25
    refine j_aload_n C dX9_fit_38 rfl rfl ?_
    replace e := ob e
    obtain ⟨x26, ex26, e⟩ := e
    refine j_getr (ci := 9) (RC := RX9) (T := TX9) (N := 14) 0 C rfl klX9 (Nat.le_of_ble_eq_true rfl) kX9_12 rfl dX9_fit_39 ex26 ?_
    refine j_aload_n C dX9_fit_42 rfl rfl ?_
    replace e := ob e
    obtain ⟨x27, ex27, e⟩ := e
    refine j_getr (ci := 9) (RC := RX9) (T := TX9) (N := 14) 2 C rfl klX9 (Nat.le_of_ble_eq_true rfl) kX9_19 rfl dX9_fit_43 ex27 ?_
    replace e := ob e
    obtain ⟨_, eo28, e⟩ := e
    replace e := ob e
    obtain ⟨h29, eh29, e⟩ := e
    refine j_callV (ci := 5) (RC := RX5) (T := TX5) (N := 12) (As := [.ref x27]) (b := x26) (na := 1) (st := []) (k1 := 9) (n1 := 255) C hr (sX5_copyFrom eh29) rfl eo28 kX9_114 kim_X5_copyFrom ksel_X5_copyFrom kini_X5 kc_X5_copyFrom (by decide) rfl ⟨(Nat.le_of_ble_eq_true rfl), (Nat.le_of_ble_eq_true rfl)⟩ (Nat.le_of_ble_eq_true rfl) ⟨rfl, rfl, (Nat.le_of_ble_eq_true rfl), (Nat.le_of_ble_eq_true rfl)⟩ dX9_fit_46 ?_
    rintro _ _ ⟨rfl, rfl⟩
    show jx_J X 9 255 49 [(0, .ref l0)] [] h29
    refine j_aload_n C dX9_fit_49 rfl rfl ?_
    replace e := ob e
    obtain ⟨x30, ex30, e⟩ := e
    refine j_getr (ci := 9) (RC := RX9) (T := TX9) (N := 14) 0 C rfl klX9 (Nat.le_of_ble_eq_true rfl) kX9_12 rfl dX9_fit_50 ex30 ?_
    replace e := ob e
    obtain ⟨x31, ex31, e⟩ := e
    refine j_geti (ci := 5) (RC := RX5) (T := TX5) (N := 12) 2 C rfl klX5 (Nat.le_of_ble_eq_true rfl) kX9_129 rfl dX9_fit_53 ex31 ?_
    cases e
    exact j_iretX C hq rfl dX9_fit_56 ⟨Nat.le_of_ble_eq_true rfl, Nat.le_of_ble_eq_true rfl⟩ ⟨_, _, rfl, rfl, rfl⟩
  · replace e := ifp c32 e
    cases e
    exact j_throw0 (names := jx_names) (ik := 97) (ic := 99) C hr hq jx_fits.2.1 jx_fits.1 kX9_97 kini_IllegalStateException jx_thISE ⟨rfl, rfl⟩ dX9_fit_10 dX9_fit_13 dX9_fit_14 dX9_fit_17 (Nat.le_of_ble_eq_true rfl) (Nat.le_of_ble_eq_true rfl) ⟨Nat.le_of_ble_eq_true rfl, Nat.le_of_ble_eq_true rfl, Nat.le_of_ble_eq_true rfl, Nat.le_of_ble_eq_true rfl⟩ (fun sz hsz => ⟨_, sz, rfl, hsz, rfl⟩)
/-! BorderBasis.save(I)V -/
noncomputable def BX9_save_9  (h : jx_H) : Option ((jx_H) ⊕ (String × jx_H)) :=
some (.inr ("java/lang/IllegalArgumentException", h))
noncomputable def BX9_save_39 (l0 : Nat) (l1 : Int32) (h : jx_H) : Option ((jx_H) ⊕ (String × jx_H)) :=
(hgr h l0 9 3).bind fun x1 =>
(hql h "BorderBasis$State" x1 l1).bind fun x2 =>
(hgr h l0 9 0).bind fun x3 =>
oc x2 none fun q4 =>
(isO h q4 5).bind fun _ =>
(FX5_copyFrom q4 x3 h).bind fun h6 =>
some (.inl h6)
noncomputable def FX9_save (l0 : Nat) (l1 : Int32) (h : jx_H) : Option ((jx_H) ⊕ (String × jx_H)) :=
if l1 < 0 then
 BX9_save_9  h
else
 if l1 < (2 : Int32) then
  (hgr h l0 9 3).bind fun x7 =>
  (hql h "BorderBasis$State" x7 l1).bind fun x8 =>
  oc x8 (
   (hgr h l0 9 3).bind fun x10 =>
   (hnw h 5 fsX5).bind fun h11 =>
   (FX5_init h.1 h11).bind fun h12 =>
   (hqs h12 "BorderBasis$State" 5 x10 l1 h.1).bind fun h13 =>
   BX9_save_39 l0 l1 h13) fun q9 =>
   BX9_save_39 l0 l1 h
 else
  BX9_save_9  h
def rmX9_save : Room := { frames := 6, cells := 9, slots := 255, locals := 106 }
set_option maxRecDepth 20000 in
set_option maxHeartbeats 4000000 in
theorem sX9_save {l0 : Nat} {l1 : Int32} {h : jx_H} {r : (jx_H) ⊕ (String × jx_H)}  (e : FX9_save l0 l1 h = some r) : jx_Cx yX9_save cX9_save 2 none rmX9_save [.ref l0, .int l1] h (fun r' h' => r = .inl h' ∧ none = r') (fun E h' => ∃ (h9 : jx_H) (sz : Nat), r = .inr (E, h9) ∧ h9.1 ≤ sz ∧ h' = (sz, h9.2)) := by
  refine jx_Cx.of (own := RX9) (by decide) rfl (Nat.le_of_ble_eq_true rfl) (fun X C hq hr hL hN => ?_)
  refine jx_sub (lv' := [(0, .ref l0), (1, .int l1)]) [0, 1] rfl ?_
  have b9 : ∀ (h16 : jx_H), BX9_save_9 h16 = some r → jx_J X 0 0 9 [] [] h16 := by
    intro h16 e
    unfold BX9_save_9 at e
    cases e
    exact j_throw0 (names := jx_names) (ik := 104) (ic := 106) C hr hq jx_fits.2.2.1 jx_fits.1 kX9_104 kini_IllegalArgumentException jx_thIAE ⟨rfl, rfl⟩ dX9_save_9 dX9_save_12 dX9_save_13 dX9_save_16 (Nat.le_of_ble_eq_true rfl) (Nat.le_of_ble_eq_true rfl) ⟨Nat.le_of_ble_eq_true rfl, Nat.le_of_ble_eq_true rfl, Nat.le_of_ble_eq_true rfl, Nat.le_of_ble_eq_true rfl⟩ (fun sz hsz => ⟨_, sz, rfl, hsz, rfl⟩)
  have b39 : ∀ (y17 : Nat) (y18 : Int32) (h19 : jx_H), BX9_save_39 y17 y18 h19 = some r → jx_J X 9 255 39 [(0, .ref y17), (1, .int y18)] [] h19 := by
    intro y17 y18 h19 e
    unfold BX9_save_39 at e
    refine j_aload_n C dX9_save_39 rfl rfl ?_
    replace e := ob e
    obtain ⟨x20, ex20, e⟩ := e
    refine j_getr (ci := 9) (RC := RX9) (T := TX9) (N := 14) 3 C rfl klX9 (Nat.le_of_ble_eq_true rfl) kX9_22 rfl dX9_save_40 ex20 ?_
    refine j_iload_n C dX9_save_43 rfl rfl ?_
    replace e := ob e
    obtain ⟨x21, ex21, e⟩ := e
    refine j_aald C dX9_save_44 ex21 ?_
    refine j_aload_n C dX9_save_45 rfl rfl ?_
    replace e := ob e
    obtain ⟨x22, ex22, e⟩ := e
    refine j_getr (ci := 9) (RC := RX9) (T := TX9) (N := 14) 0 C rfl klX9 (Nat.le_of_ble_eq_true rfl) kX9_12 rfl dX9_save_46 ex22 ?_
    rcases eq23 : x21 with _ | q23
    · exact nos (ocn eq23 e)
    replace e := ocs eq23 e
    replace e := ob e
    obtain ⟨_, eo24, e⟩ := e
    replace e := ob e
    obtain ⟨h25, eh25, e⟩ := e
    refine j_callV (ci := 5) (RC := RX5) (T := TX5) (N := 12) (As := [.ref x22]) (b := q23) (na := 1) (st := []) (k1 := 9) (n1 := 255) C hr (sX5_copyFrom eh25) rfl eo24 kX9_114 kim_X5_copyFrom ksel_X5_copyFrom kini_X5 kc_X5_copyFrom (by decide) rfl ⟨(Nat.le_of_ble_eq_true rfl), (Nat.le_of_ble_eq_true rfl)⟩ (Nat.le_of_ble_eq_true rfl) ⟨rfl, rfl, (Nat.le_of_ble_eq_true rfl), (Nat.le_of_ble_eq_true rfl)⟩ dX9_save_49 ?_
    rintro _ _ ⟨rfl, rfl⟩
    show jx_J X 9 255 52 [(0, .ref y17), (1, .int y18)] [] h25
    cases e
    exact j_vretX C hq dX9_save_52 ⟨Nat.le_of_ble_eq_true rfl, Nat.le_of_ble_eq_true rfl⟩ ⟨rfl, rfl⟩
  unfold FX9_save at e
  refine j_iload_n C dX9_save_0 rfl rfl ?_
  refine j_if_lt (tgt := 9) C dX9_save_1 (by decide) (fun c34 => ?_) (fun c34 => ?_)
  · replace e := ifp c34 e
    refine jx_sub (lv' := []) [] rfl ?_
    exact b9 h e
  · replace e := ifn c34 e
    refine j_iload_n C dX9_save_4 rfl rfl ?_
    refine j_iconst (v := (2 : Int32)) C dX9_save_5 (by decide) ?_
    refine j_icmp_lt (tgt := 17) C dX9_save_6 (by decide) (fun c33 => ?_) (fun c33 => ?_)
    · replace e := ifp c33 e
      refine j_aload_n C dX9_save_17 rfl rfl ?_
      replace e := ob e
      obtain ⟨x26, ex26, e⟩ := e
      refine j_getr (ci := 9) (RC := RX9) (T := TX9) (N := 14) 3 C rfl klX9 (Nat.le_of_ble_eq_true rfl) kX9_22 rfl dX9_save_18 ex26 ?_
      refine j_iload_n C dX9_save_21 rfl rfl ?_
      replace e := ob e
      obtain ⟨x27, ex27, e⟩ := e
      refine j_aald C dX9_save_22 ex27 ?_
      refine j_ifnonnull (tgt := 39) C dX9_save_23 (by decide) (fun q28 eq28 => ?_) (fun eq28 => ?_)
      · replace e := ocs eq28 e
        subst eq28
        refine jx_widen (k1 := 9) (n1 := 255) (Nat.le_of_ble_eq_true rfl) (Nat.le_of_ble_eq_true rfl) ?_
        exact b39 l0 l1 h e
      · replace e := ocn eq28 e
        refine j_aload_n C dX9_save_26 rfl rfl ?_
        replace e := ob e
        obtain ⟨x29, ex29, e⟩ := e
        refine j_getr (ci := 9) (RC := RX9) (T := TX9) (N := 14) 3 C rfl klX9 (Nat.le_of_ble_eq_true rfl) kX9_22 rfl dX9_save_27 ex29 ?_
        refine j_iload_n C dX9_save_30 rfl rfl ?_
        replace e := ob e
        obtain ⟨h30, eh30, e⟩ := e
        refine j_new (ci := 5) (RC := RX5) (T := TX5) (N := 12) (ty0 := tyX5) (fs := fsX5) C hr rfl klX5 tyX5_ok kX9_9 kins_X5 kini_X5 fsX5_ok dX9_save_31 eh30 ⟨Nat.le_of_ble_eq_true rfl, Nat.le_of_ble_eq_true rfl⟩ ?_
        refine jx_widen (k1 := 1) (n1 := 12) (Nat.le_of_ble_eq_true rfl) (Nat.le_of_ble_eq_true rfl) ?_
        refine j_dup C dX9_save_34 rfl ?_
        replace e := ob e
        obtain ⟨h31, eh31, e⟩ := e
        refine j_callI (As := []) (b := h.1) (na := 0) (st := [.ref h.1, .int l1, .ref x29]) (k1 := 9) (n1 := 255) C hr (sX5_init eh31) kX9_11 kim_X5_init kini_X5 kc_X5_init (by decide) rfl ⟨(Nat.le_of_ble_eq_true rfl), (Nat.le_of_ble_eq_true rfl)⟩ (Nat.le_of_ble_eq_true rfl) ⟨rfl, rfl, (Nat.le_of_ble_eq_true rfl), (Nat.le_of_ble_eq_true rfl)⟩ dX9_save_35 ?_
        rintro _ _ ⟨rfl, rfl⟩
        show jx_J X 9 255 38 [(0, .ref l0), (1, .int l1)] [.ref h.1, .int l1, .ref x29] h31
        replace e := ob e
        obtain ⟨h32, eh32, e⟩ := e
        refine j_aast (ci := 5) (T := TX5) (N0 := 12) C rfl dX9_save_38 eh32 ?_
        exact b39 l0 l1 h32 e
    · replace e := ifn c33 e
      refine jx_sub (lv' := []) [] rfl ?_
      exact b9 h e
/-! BorderBasis.restore(I)V -/
noncomputable def BX9_restore_9  (h : jx_H) : Option ((jx_H) ⊕ (String × jx_H)) :=
some (.inr ("java/lang/IllegalArgumentException", h))
noncomputable def FX9_restore (l0 : Nat) (l1 : Int32) (h : jx_H) : Option ((jx_H) ⊕ (String × jx_H)) :=
if l1 < 0 then
 BX9_restore_9  h
else
 if l1 < (2 : Int32) then
  (hgr h l0 9 3).bind fun x1 =>
  (hql h "BorderBasis$State" x1 l1).bind fun x2 =>
  oc x2 (
   some (.inr ("java/lang/IllegalStateException", h))) fun q3 =>
   (hgr h l0 9 0).bind fun x4 =>
   (hgr h l0 9 3).bind fun x5 =>
   (hql h "BorderBasis$State" x5 l1).bind fun x6 =>
   oc x6 none fun q7 =>
   (isO h x4 5).bind fun _ =>
   (FX5_copyFrom x4 q7 h).bind fun h9 =>
   (hgr h9 l0 9 4).bind fun x10 =>
   (hp h9 x10 1 2 (.int (0 : Int32))).bind fun h11 =>
   (isO h11 l0 9).bind fun _ =>
   (FX9_forgetDerived l0 h11).bind fun h13 =>
   some (.inl h13)
 else
  BX9_restore_9  h
def rmX9_restore : Room := { frames := 6, cells := 1, slots := 6, locals := 89 }
set_option maxRecDepth 20000 in
set_option maxHeartbeats 4000000 in
theorem sX9_restore {l0 : Nat} {l1 : Int32} {h : jx_H} {r : (jx_H) ⊕ (String × jx_H)}  (e : FX9_restore l0 l1 h = some r) : jx_Cx yX9_restore cX9_restore 2 none rmX9_restore [.ref l0, .int l1] h (fun r' h' => r = .inl h' ∧ none = r') (fun E h' => ∃ (h9 : jx_H) (sz : Nat), r = .inr (E, h9) ∧ h9.1 ≤ sz ∧ h' = (sz, h9.2)) := by
  refine jx_Cx.of (own := RX9) (by decide) rfl (Nat.le_of_ble_eq_true rfl) (fun X C hq hr hL hN => ?_)
  refine jx_sub (lv' := [(0, .ref l0), (1, .int l1)]) [0, 1] rfl ?_
  have b9 : ∀ (h16 : jx_H), BX9_restore_9 h16 = some r → jx_J X 0 0 9 [] [] h16 := by
    intro h16 e
    unfold BX9_restore_9 at e
    cases e
    exact j_throw0 (names := jx_names) (ik := 104) (ic := 106) C hr hq jx_fits.2.2.1 jx_fits.1 kX9_104 kini_IllegalArgumentException jx_thIAE ⟨rfl, rfl⟩ dX9_restore_9 dX9_restore_12 dX9_restore_13 dX9_restore_16 (Nat.le_of_ble_eq_true rfl) (Nat.le_of_ble_eq_true rfl) ⟨Nat.le_of_ble_eq_true rfl, Nat.le_of_ble_eq_true rfl, Nat.le_of_ble_eq_true rfl, Nat.le_of_ble_eq_true rfl⟩ (fun sz hsz => ⟨_, sz, rfl, hsz, rfl⟩)
  unfold FX9_restore at e
  refine j_iload_n C dX9_restore_0 rfl rfl ?_
  refine j_if_lt (tgt := 9) C dX9_restore_1 (by decide) (fun c31 => ?_) (fun c31 => ?_)
  · replace e := ifp c31 e
    refine jx_sub (lv' := []) [] rfl ?_
    exact b9 h e
  · replace e := ifn c31 e
    refine j_iload_n C dX9_restore_4 rfl rfl ?_
    refine j_iconst (v := (2 : Int32)) C dX9_restore_5 (by decide) ?_
    refine j_icmp_lt (tgt := 17) C dX9_restore_6 (by decide) (fun c30 => ?_) (fun c30 => ?_)
    · replace e := ifp c30 e
      refine j_aload_n C dX9_restore_17 rfl rfl ?_
      replace e := ob e
      obtain ⟨x17, ex17, e⟩ := e
      refine j_getr (ci := 9) (RC := RX9) (T := TX9) (N := 14) 3 C rfl klX9 (Nat.le_of_ble_eq_true rfl) kX9_22 rfl dX9_restore_18 ex17 ?_
      refine j_iload_n C dX9_restore_21 rfl rfl ?_
      replace e := ob e
      obtain ⟨x18, ex18, e⟩ := e
      refine j_aald C dX9_restore_22 ex18 ?_
      refine j_ifnonnull (tgt := 34) C dX9_restore_23 (by decide) (fun q19 eq19 => ?_) (fun eq19 => ?_)
      · replace e := ocs eq19 e
        subst eq19
        refine j_aload_n C dX9_restore_34 rfl rfl ?_
        replace e := ob e
        obtain ⟨x20, ex20, e⟩ := e
        refine j_getr (ci := 9) (RC := RX9) (T := TX9) (N := 14) 0 C rfl klX9 (Nat.le_of_ble_eq_true rfl) kX9_12 rfl dX9_restore_35 ex20 ?_
        refine j_aload_n C dX9_restore_38 rfl rfl ?_
        replace e := ob e
        obtain ⟨x21, ex21, e⟩ := e
        refine j_getr (ci := 9) (RC := RX9) (T := TX9) (N := 14) 3 C rfl klX9 (Nat.le_of_ble_eq_true rfl) kX9_22 rfl dX9_restore_39 ex21 ?_
        refine j_iload_n C dX9_restore_42 rfl rfl ?_
        replace e := ob e
        obtain ⟨x22, ex22, e⟩ := e
        refine j_aald C dX9_restore_43 ex22 ?_
        rcases eq23 : x22 with _ | q23
        · exact nos (ocn eq23 e)
        replace e := ocs eq23 e
        replace e := ob e
        obtain ⟨_, eo24, e⟩ := e
        replace e := ob e
        obtain ⟨h25, eh25, e⟩ := e
        refine j_callV (ci := 5) (RC := RX5) (T := TX5) (N := 12) (As := [.ref q23]) (b := x20) (na := 1) (st := []) (k1 := 0) (n1 := 0) C hr (sX5_copyFrom eh25) rfl eo24 kX9_114 kim_X5_copyFrom ksel_X5_copyFrom kini_X5 kc_X5_copyFrom (by decide) rfl ⟨(Nat.le_of_ble_eq_true rfl), (Nat.le_of_ble_eq_true rfl)⟩ (Nat.le_of_ble_eq_true rfl) ⟨rfl, rfl, (Nat.le_of_ble_eq_true rfl), (Nat.le_of_ble_eq_true rfl)⟩ dX9_restore_44 ?_
        rintro _ _ ⟨rfl, rfl⟩
        show jx_J X 0 0 47 [(0, .ref l0), (1, .int l1)] [] h25
        refine j_aload_n C dX9_restore_47 rfl rfl ?_
        replace e := ob e
        obtain ⟨x26, ex26, e⟩ := e
        refine j_getr (ci := 9) (RC := RX9) (T := TX9) (N := 14) 4 C rfl klX9 (Nat.le_of_ble_eq_true rfl) kX9_29 rfl dX9_restore_48 ex26 ?_
        refine j_iconst (v := (0 : Int32)) C dX9_restore_51 (by decide) ?_
        replace e := ob e
        obtain ⟨h27, eh27, e⟩ := e
        refine j_put (ci := 1) (RC := RX1) (T := TX1) (N := 3) (ty0 := tyX1) 2 C rfl klX1 tyX1_ok nmX1 (Nat.le_of_ble_eq_true rfl) kX9_117 rfl rfl rfl rfl dX9_restore_52 eh27 ?_
        refine j_aload_n C dX9_restore_55 rfl rfl ?_
        replace e := ob e
        obtain ⟨_, eo28, e⟩ := e
        replace e := ob e
        obtain ⟨h29, eh29, e⟩ := e
        refine j_callV (ci := 9) (RC := RX9) (T := TX9) (N := 14) (As := []) (b := l0) (na := 0) (st := []) (k1 := 0) (n1 := 0) C hr (sX9_forgetDerived eh29) rfl eo28 kX9_126 kim_X9_forgetDerived ksel_X9_forgetDerived kini_X9 kc_X9_forgetDerived (by decide) rfl ⟨(Nat.le_of_ble_eq_true rfl), (Nat.le_of_ble_eq_true rfl)⟩ (Nat.le_of_ble_eq_true rfl) ⟨rfl, rfl, (Nat.le_of_ble_eq_true rfl), (Nat.le_of_ble_eq_true rfl)⟩ dX9_restore_56 ?_
        rintro _ _ ⟨rfl, rfl⟩
        show jx_J X 0 0 59 [(0, .ref l0), (1, .int l1)] [] h29
        cases e
        exact j_vretX C hq dX9_restore_59 ⟨Nat.le_of_ble_eq_true rfl, Nat.le_of_ble_eq_true rfl⟩ ⟨rfl, rfl⟩
      · replace e := ocn eq19 e
        cases e
        exact j_throw0 (names := jx_names) (ik := 97) (ic := 99) C hr hq jx_fits.2.1 jx_fits.1 kX9_97 kini_IllegalStateException jx_thISE ⟨rfl, rfl⟩ dX9_restore_26 dX9_restore_29 dX9_restore_30 dX9_restore_33 (Nat.le_of_ble_eq_true rfl) (Nat.le_of_ble_eq_true rfl) ⟨Nat.le_of_ble_eq_true rfl, Nat.le_of_ble_eq_true rfl, Nat.le_of_ble_eq_true rfl, Nat.le_of_ble_eq_true rfl⟩ (fun sz hsz => ⟨_, sz, rfl, hsz, rfl⟩)
    · replace e := ifn c30 e
      refine jx_sub (lv' := []) [] rfl ?_
      exact b9 h e
