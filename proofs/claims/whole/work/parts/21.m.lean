/-! BorderBasis$Parser.<init>(LBorderBasis$Text;LBorderBasis$State;)V -/
noncomputable def FX3_init (l0 : Nat) (l1 : Nat) (l2 : Nat) (h : jx_H) : Option (jx_H) :=
(hnw h 5 fsX5).bind fun h1 =>
(FX5_init h.1 h1).bind fun h2 =>
(hp h2 l0 3 2 (.ref h.1)).bind fun h3 =>
(hna h3 .int (441 : Int32)).bind fun h4 =>
(hp h4 l0 3 3 (.ref h3.1)).bind fun h5 =>
(hp h5 l0 3 5 (.int (-1 : Int32))).bind fun h6 =>
(hp h6 l0 3 0 (.ref l1)).bind fun h7 =>
(hp h7 l0 3 1 (.ref l2)).bind fun h8 =>
some h8
def rmX3_init : Room := { frames := 5, cells := 10, slots := 696, locals := 106 }
set_option maxRecDepth 20000 in
set_option maxHeartbeats 4000000 in
theorem sX3_init {l0 : Nat} {l1 : Nat} {l2 : Nat} {h : jx_H} {h9 : jx_H} (e : FX3_init l0 l1 l2 h = some h9) : jx_Ct yX3_init cX3_init 3 none rmX3_init [.ref l0, .ref l1, .ref l2] h (fun r' h' => none = r' ∧ h9 = h') := by
  refine jx_Ct.of (own := RX3) (by decide) rfl (Nat.le_of_ble_eq_true rfl) (fun X C hq hr hL hN => ?_)
  refine jx_sub (lv' := [(0, .ref l0), (1, .ref l1), (2, .ref l2)]) [0, 1, 2] rfl ?_
  unfold FX3_init at e
  refine j_aload_n C dX3_init_0 rfl rfl ?_
  refine j_objInit C hr kX3_3 kim_Oinit kc_Oinit dX3_init_1 (Nat.le_of_ble_eq_true rfl) (Nat.le_of_ble_eq_true rfl) ?_
  refine j_aload_n C dX3_init_4 rfl rfl ?_
  replace e := ob e
  obtain ⟨h9, eh9, e⟩ := e
  refine j_new (ci := 5) (RC := RX5) (T := TX5) (N := 12) (ty0 := tyX5) (fs := fsX5) C hr rfl klX5 tyX5_ok kX3_9 kins_X5 kini_X5 fsX5_ok dX3_init_5 eh9 ⟨Nat.le_of_ble_eq_true rfl, Nat.le_of_ble_eq_true rfl⟩ ?_
  refine jx_widen (k1 := 1) (n1 := 12) (Nat.le_of_ble_eq_true rfl) (Nat.le_of_ble_eq_true rfl) ?_
  refine j_dup C dX3_init_8 rfl ?_
  replace e := ob e
  obtain ⟨h10, eh10, e⟩ := e
  refine j_callI (As := []) (b := h.1) (na := 0) (st := [.ref h.1, .ref l0]) (k1 := 9) (n1 := 255) C hr (sX5_init eh10) kX3_11 kim_X5_init kini_X5 kc_X5_init (by decide) rfl ⟨(Nat.le_of_ble_eq_true rfl), (Nat.le_of_ble_eq_true rfl)⟩ (Nat.le_of_ble_eq_true rfl) ⟨rfl, rfl, (Nat.le_of_ble_eq_true rfl), (Nat.le_of_ble_eq_true rfl)⟩ dX3_init_9 ?_
  rintro _ _ ⟨rfl, rfl⟩
  show jx_J X 9 255 12 [(0, .ref l0), (1, .ref l1), (2, .ref l2)] [.ref h.1, .ref l0] h10
  replace e := ob e
  obtain ⟨h11, eh11, e⟩ := e
  refine j_putF (ci := 3) (RC := RX3) (T := TX3) (N := 11) (ty0 := tyX3) 2 C rfl klX3 tyX3_ok nmX3 (Nat.le_of_ble_eq_true rfl) kX3_12 rfl rfl hN rfl rfl rfl rfl dX3_init_12 eh11 ?_
  refine j_aload_n C dX3_init_15 rfl rfl ?_
  refine j_sipush (v := (441 : Int32)) C dX3_init_16 (by decide) ?_
  replace e := ob e
  obtain ⟨h12, eh12, e⟩ := e
  refine j_newa (ty := .int) (N := 441) C hr kac_int rfl rfl (Nat.le_of_ble_eq_true rfl) dX3_init_19 eh12 (Nat.le_of_ble_eq_true rfl) ⟨Nat.le_of_ble_eq_true rfl, Nat.le_of_ble_eq_true rfl⟩ ?_
  refine jx_widen (k1 := 10) (n1 := 696) (Nat.le_of_ble_eq_true rfl) (Nat.le_of_ble_eq_true rfl) ?_
  replace e := ob e
  obtain ⟨h13, eh13, e⟩ := e
  refine j_putF (ci := 3) (RC := RX3) (T := TX3) (N := 11) (ty0 := tyX3) 3 C rfl klX3 tyX3_ok nmX3 (Nat.le_of_ble_eq_true rfl) kX3_18 rfl rfl hN rfl rfl rfl rfl dX3_init_21 eh13 ?_
  refine j_aload_n C dX3_init_24 rfl rfl ?_
  refine j_iconst (v := (-1 : Int32)) C dX3_init_25 (by decide) ?_
  replace e := ob e
  obtain ⟨h14, eh14, e⟩ := e
  refine j_put (ci := 3) (RC := RX3) (T := TX3) (N := 11) (ty0 := tyX3) 5 C rfl klX3 tyX3_ok nmX3 (Nat.le_of_ble_eq_true rfl) kX3_22 rfl rfl rfl rfl dX3_init_26 eh14 ?_
  refine j_aload_n C dX3_init_29 rfl rfl ?_
  refine j_aload_n C dX3_init_30 rfl rfl ?_
  replace e := ob e
  obtain ⟨h15, eh15, e⟩ := e
  refine j_putF (ci := 3) (RC := RX3) (T := TX3) (N := 11) (ty0 := tyX3) 0 C rfl klX3 tyX3_ok nmX3 (Nat.le_of_ble_eq_true rfl) kX3_26 rfl rfl hN rfl rfl rfl rfl dX3_init_31 eh15 ?_
  refine j_aload_n C dX3_init_34 rfl rfl ?_
  refine j_aload_n C dX3_init_35 rfl rfl ?_
  replace e := ob e
  obtain ⟨h16, eh16, e⟩ := e
  refine j_putF (ci := 3) (RC := RX3) (T := TX3) (N := 11) (ty0 := tyX3) 1 C rfl klX3 tyX3_ok nmX3 (Nat.le_of_ble_eq_true rfl) kX3_30 rfl rfl hN rfl rfl rfl rfl dX3_init_36 eh16 ?_
  cases e
  exact j_vret C hq dX3_init_39 ⟨Nat.le_of_ble_eq_true rfl, Nat.le_of_ble_eq_true rfl⟩ ⟨rfl, rfl⟩
/-! BorderBasis$Text.byteAt(I)I -/
noncomputable def FX7_byteAt (l0 : Nat) (l1 : Int32) (h : jx_H) : Option (Int32) :=
if l1 < 0 then
 some (0 : Int32)
else
 (hgi h l0 7 1).bind fun x1 =>
 if x1 ≤ l1 then
  some (0 : Int32)
 else
  if (900 : Int32) ≤ l1 then
   some (0 : Int32)
  else
   (hgr h l0 7 0).bind fun x2 =>
   (hal h .byte x2 l1).bind fun x3 =>
   some (x3 &&& (255 : Int32))
def rmX7_byteAt : Room := { frames := 0, cells := 0, slots := 0, locals := 0 }
set_option maxRecDepth 20000 in
set_option maxHeartbeats 4000000 in
theorem sX7_byteAt {l0 : Nat} {l1 : Int32} {h : jx_H} {r : Int32}  (e : FX7_byteAt l0 l1 h = some r) : jx_Ct yX7_byteAt cX7_byteAt 2 (some .int) rmX7_byteAt [.ref l0, .int l1] h (fun r' h' => some (.int r) = r' ∧ h = h') := by
  refine jx_Ct.of (own := RX7) (by decide) rfl (Nat.le_of_ble_eq_true rfl) (fun X C hq hr hL hN => ?_)
  refine jx_sub (lv' := [(0, .ref l0), (1, .int l1)]) [0, 1] rfl ?_
  unfold FX7_byteAt at e
  refine j_iload_n C dX7_byteAt_0 rfl rfl ?_
  refine j_if_lt (tgt := 32) C dX7_byteAt_1 (by decide) (fun c12 => ?_) (fun c12 => ?_)
  · replace e := ifp c12 e
    refine j_iconst (v := (0 : Int32)) C dX7_byteAt_32 (by decide) ?_
    cases e
    exact j_iret C hq rfl dX7_byteAt_33 ⟨Nat.le_of_ble_eq_true rfl, Nat.le_of_ble_eq_true rfl⟩ ⟨rfl, rfl⟩
  · replace e := ifn c12 e
    refine j_iload_n C dX7_byteAt_4 rfl rfl ?_
    refine j_aload_n C dX7_byteAt_5 rfl rfl ?_
    replace e := ob e
    obtain ⟨x7, ex7, e⟩ := e
    refine j_geti (ci := 7) (RC := RX7) (T := TX7) (N := 6) 1 C rfl klX7 (Nat.le_of_ble_eq_true rfl) kX7_15 rfl dX7_byteAt_6 ex7 ?_
    refine j_icmp_ge (tgt := 32) C dX7_byteAt_9 (by decide) (fun c11 => ?_) (fun c11 => ?_)
    · replace e := ifp c11 e
      refine j_iconst (v := (0 : Int32)) C dX7_byteAt_32 (by decide) ?_
      cases e
      exact j_iret C hq rfl dX7_byteAt_33 ⟨Nat.le_of_ble_eq_true rfl, Nat.le_of_ble_eq_true rfl⟩ ⟨rfl, rfl⟩
    · replace e := ifn c11 e
      refine j_iload_n C dX7_byteAt_12 rfl rfl ?_
      refine j_sipush (v := (900 : Int32)) C dX7_byteAt_13 (by decide) ?_
      refine j_icmp_ge (tgt := 32) C dX7_byteAt_16 (by decide) (fun c10 => ?_) (fun c10 => ?_)
      · replace e := ifp c10 e
        refine j_iconst (v := (0 : Int32)) C dX7_byteAt_32 (by decide) ?_
        cases e
        exact j_iret C hq rfl dX7_byteAt_33 ⟨Nat.le_of_ble_eq_true rfl, Nat.le_of_ble_eq_true rfl⟩ ⟨rfl, rfl⟩
      · replace e := ifn c10 e
        refine j_aload_n C dX7_byteAt_19 rfl rfl ?_
        replace e := ob e
        obtain ⟨x8, ex8, e⟩ := e
        refine j_getr (ci := 7) (RC := RX7) (T := TX7) (N := 6) 0 C rfl klX7 (Nat.le_of_ble_eq_true rfl) kX7_9 rfl dX7_byteAt_20 ex8 ?_
        refine j_iload_n C dX7_byteAt_23 rfl rfl ?_
        replace e := ob e
        obtain ⟨x9, ex9, e⟩ := e
        refine j_bald C dX7_byteAt_24 ex9 ?_
        refine j_sipush (v := (255 : Int32)) C dX7_byteAt_25 (by decide) ?_
        refine j_iand C dX7_byteAt_28 ?_
        refine j_goto (tgt := 33) C dX7_byteAt_29 (by decide) ?_
        cases e
        exact j_iret C hq rfl dX7_byteAt_33 ⟨Nat.le_of_ble_eq_true rfl, Nat.le_of_ble_eq_true rfl⟩ ⟨rfl, rfl⟩
/-! BorderBasis$Text.isDigit(I)Z -/
noncomputable def FX7_isDigit (l0 : Int32) (h : jx_H) : Option (Int32) :=
if l0 < (48 : Int32) then
 some (0 : Int32)
else
 if (57 : Int32) < l0 then
  some (0 : Int32)
 else
  some (1 : Int32)
def rmX7_isDigit : Room := { frames := 0, cells := 0, slots := 0, locals := 0 }
set_option maxRecDepth 20000 in
set_option maxHeartbeats 4000000 in
theorem sX7_isDigit {l0 : Int32} {h : jx_H} {r : Int32}  (e : FX7_isDigit l0 h = some r) : jx_Ct yX7_isDigit cX7_isDigit 1 (some .boolean) rmX7_isDigit [.int l0] h (fun r' h' => some (.int r) = r' ∧ h = h') := by
  refine jx_Ct.of (own := RX7) (by decide) rfl (Nat.le_of_ble_eq_true rfl) (fun X C hq hr hL hN => ?_)
  refine jx_sub (lv' := [(0, .int l0)]) [0] rfl ?_
  unfold FX7_isDigit at e
  refine j_iload_n C dX7_isDigit_0 rfl rfl ?_
  refine j_bipush (v := (48 : Int32)) C dX7_isDigit_1 (by decide) ?_
  refine j_icmp_lt (tgt := 16) C dX7_isDigit_3 (by decide) (fun c4 => ?_) (fun c4 => ?_)
  · replace e := ifp c4 e
    refine j_iconst (v := (0 : Int32)) C dX7_isDigit_16 (by decide) ?_
    cases e
    exact j_iret C hq rfl dX7_isDigit_17 ⟨Nat.le_of_ble_eq_true rfl, Nat.le_of_ble_eq_true rfl⟩ ⟨rfl, rfl⟩
  · replace e := ifn c4 e
    refine j_iload_n C dX7_isDigit_6 rfl rfl ?_
    refine j_bipush (v := (57 : Int32)) C dX7_isDigit_7 (by decide) ?_
    refine j_icmp_gt (tgt := 16) C dX7_isDigit_9 (by decide) (fun c3 => ?_) (fun c3 => ?_)
    · replace e := ifp c3 e
      refine j_iconst (v := (0 : Int32)) C dX7_isDigit_16 (by decide) ?_
      cases e
      exact j_iret C hq rfl dX7_isDigit_17 ⟨Nat.le_of_ble_eq_true rfl, Nat.le_of_ble_eq_true rfl⟩ ⟨rfl, rfl⟩
    · replace e := ifn c3 e
      refine j_iconst (v := (1 : Int32)) C dX7_isDigit_12 (by decide) ?_
      refine j_goto (tgt := 17) C dX7_isDigit_13 (by decide) ?_
      cases e
      exact j_iret C hq rfl dX7_isDigit_17 ⟨Nat.le_of_ble_eq_true rfl, Nat.le_of_ble_eq_true rfl⟩ ⟨rfl, rfl⟩
/-! BorderBasis$Text.isLetter(I)Z -/
noncomputable def FX7_isLetter (l0 : Int32) (h : jx_H) : Option (Int32) :=
if l0 < (97 : Int32) then
 some (0 : Int32)
else
 if (122 : Int32) < l0 then
  some (0 : Int32)
 else
  some (1 : Int32)
def rmX7_isLetter : Room := { frames := 0, cells := 0, slots := 0, locals := 0 }
set_option maxRecDepth 20000 in
set_option maxHeartbeats 4000000 in
theorem sX7_isLetter {l0 : Int32} {h : jx_H} {r : Int32}  (e : FX7_isLetter l0 h = some r) : jx_Ct yX7_isLetter cX7_isLetter 1 (some .boolean) rmX7_isLetter [.int l0] h (fun r' h' => some (.int r) = r' ∧ h = h') := by
  refine jx_Ct.of (own := RX7) (by decide) rfl (Nat.le_of_ble_eq_true rfl) (fun X C hq hr hL hN => ?_)
  refine jx_sub (lv' := [(0, .int l0)]) [0] rfl ?_
  unfold FX7_isLetter at e
  refine j_iload_n C dX7_isLetter_0 rfl rfl ?_
  refine j_bipush (v := (97 : Int32)) C dX7_isLetter_1 (by decide) ?_
  refine j_icmp_lt (tgt := 16) C dX7_isLetter_3 (by decide) (fun c4 => ?_) (fun c4 => ?_)
  · replace e := ifp c4 e
    refine j_iconst (v := (0 : Int32)) C dX7_isLetter_16 (by decide) ?_
    cases e
    exact j_iret C hq rfl dX7_isLetter_17 ⟨Nat.le_of_ble_eq_true rfl, Nat.le_of_ble_eq_true rfl⟩ ⟨rfl, rfl⟩
  · replace e := ifn c4 e
    refine j_iload_n C dX7_isLetter_6 rfl rfl ?_
    refine j_bipush (v := (122 : Int32)) C dX7_isLetter_7 (by decide) ?_
    refine j_icmp_gt (tgt := 16) C dX7_isLetter_9 (by decide) (fun c3 => ?_) (fun c3 => ?_)
    · replace e := ifp c3 e
      refine j_iconst (v := (0 : Int32)) C dX7_isLetter_16 (by decide) ?_
      cases e
      exact j_iret C hq rfl dX7_isLetter_17 ⟨Nat.le_of_ble_eq_true rfl, Nat.le_of_ble_eq_true rfl⟩ ⟨rfl, rfl⟩
    · replace e := ifn c3 e
      refine j_iconst (v := (1 : Int32)) C dX7_isLetter_12 (by decide) ?_
      refine j_goto (tgt := 17) C dX7_isLetter_13 (by decide) ?_
      cases e
      exact j_iret C hq rfl dX7_isLetter_17 ⟨Nat.le_of_ble_eq_true rfl, Nat.le_of_ble_eq_true rfl⟩ ⟨rfl, rfl⟩
/-! BorderBasis$Text.advance()V -/
noncomputable def BX7_advance_243 (l0 : Nat) (s0 : Nat) (s1 : Int32) (h : jx_H) : Option (jx_H) :=
(hp h s0 7 2 (.int s1)).bind fun h1 =>
(hgi h1 l0 7 4).bind fun x2 =>
(hp h1 l0 7 4 (.int (x2 + (1 : Int32)))).bind fun h3 =>
some h3
noncomputable def BX7_advance_238 (l0 : Nat) (l1 : Int32) (s0 : Nat) (h : jx_H) : Option (jx_H) :=
BX7_advance_243 l0 s0 l1 h
noncomputable def LX7_advance_153 (l0 : Nat) (h : jx_H) : Option ((jx_H) ⊕ (jx_H)) :=
(hgi h l0 7 4).bind fun x18 =>
(hgi h l0 7 1).bind fun x19 =>
if x19 ≤ x18 then
 exL (some h)
else
 (hgi h l0 7 4).bind fun x20 =>
 (isO h l0 7).bind fun _ =>
 (FX7_byteAt l0 x20 h).bind fun x22 =>
 (FX7_isDigit x22 h).bind fun x23 =>
 if x23 = 0 then
  exL (some h)
 else
  (hgi h l0 7 5).bind fun x24 =>
  (hgi h l0 7 4).bind fun x25 =>
  (isO h l0 7).bind fun _ =>
  (FX7_byteAt l0 x25 h).bind fun x27 =>
  (hp h l0 7 5 (.int (if (100000 : Int32) < (((x24 * (10 : Int32)) + x27) - (48 : Int32)) then (100000 : Int32) else (((x24 * (10 : Int32)) + x27) - (48 : Int32))))).bind fun h28 =>
  (hgi h28 l0 7 4).bind fun x29 =>
  (hp h28 l0 7 4 (.int (x29 + (1 : Int32)))).bind fun h30 =>
  some (.inl h30)
noncomputable def LX7_advance_98 (l0 : Nat) (h : jx_H) : Option ((jx_H) ⊕ (jx_H)) :=
(hgi h l0 7 4).bind fun x35 =>
(hgi h l0 7 1).bind fun x36 =>
if x36 ≤ x35 then
 exL (some h)
else
 (hgi h l0 7 4).bind fun x37 =>
 (isO h l0 7).bind fun _ =>
 (FX7_byteAt l0 x37 h).bind fun x39 =>
 (FX7_isLetter x39 h).bind fun x40 =>
 if x40 = 0 then
  exL (some h)
 else
  (hgi h l0 7 4).bind fun x41 =>
  (hp h l0 7 4 (.int (x41 + (1 : Int32)))).bind fun h42 =>
  some (.inl h42)
noncomputable def BX7_advance_50 (l0 : Nat) (h : jx_H) : Option (jx_H) :=
(hgi h l0 7 4).bind fun x4 =>
(hp h l0 7 3 (.int x4)).bind fun h5 =>
(hgi h5 l0 7 4).bind fun x6 =>
(isO h5 l0 7).bind fun _ =>
(FX7_byteAt l0 x6 h5).bind fun x8 =>
(hgi h5 l0 7 4).bind fun x9 =>
(hgi h5 l0 7 1).bind fun x10 =>
if x9 < x10 then
 (FX7_isLetter x8 h5).bind fun x11 =>
 if x11 = 0 then
  (FX7_isDigit x8 h5).bind fun x12 =>
  if x12 = 0 then
   if x8 = (59 : Int32) then
    BX7_advance_238 l0 x8 l0 h5
   else
    if x8 = (44 : Int32) then
     BX7_advance_238 l0 x8 l0 h5
    else
     if x8 = (45 : Int32) then
      BX7_advance_238 l0 x8 l0 h5
     else
      BX7_advance_243 l0 l0 (3 : Int32) h5
  else
   (hp h5 l0 7 2 (.int (2 : Int32))).bind fun h16 =>
   (hp h16 l0 7 5 (.int (0 : Int32))).bind fun h17 =>
   itr (fun s : jx_H => LX7_advance_153 l0  s) h17
 else
  (hp h5 l0 7 2 (.int (1 : Int32))).bind fun h34 =>
  itr (fun s : jx_H => LX7_advance_98 l0  s) h34
else
 (hp h5 l0 7 2 (.int (0 : Int32))).bind fun h46 =>
 some h46
noncomputable def BX7_advance_37 (l0 : Nat) (h : jx_H) : Option ((jx_H) ⊕ (jx_H)) :=
(hgi h l0 7 4).bind fun x48 =>
(hp h l0 7 4 (.int (x48 + (1 : Int32)))).bind fun h49 =>
some (.inl h49)
noncomputable def LX7_advance_0 (l0 : Nat) (h : jx_H) : Option ((jx_H) ⊕ (jx_H)) :=
(hgi h l0 7 4).bind fun x50 =>
(hgi h l0 7 1).bind fun x51 =>
if x51 ≤ x50 then
 exL (BX7_advance_50 l0 h)
else
 (hgi h l0 7 4).bind fun x52 =>
 (isO h l0 7).bind fun _ =>
 (FX7_byteAt l0 x52 h).bind fun x54 =>
 if x54 = (32 : Int32) then
  BX7_advance_37 l0 h
 else
  (hgi h l0 7 4).bind fun x55 =>
  (isO h l0 7).bind fun _ =>
  (FX7_byteAt l0 x55 h).bind fun x57 =>
  if x57 = (10 : Int32) then
   BX7_advance_37 l0 h
  else
   exL (BX7_advance_50 l0 h)
noncomputable def FX7_advance (l0 : Nat) (h : jx_H) : Option (jx_H) :=
itr (fun s : jx_H => LX7_advance_0 l0  s) h
def rmX7_advance : Room := { frames := 1, cells := 0, slots := 0, locals := 21 }
set_option maxRecDepth 20000 in
set_option maxHeartbeats 4000000 in
theorem sX7_advance {l0 : Nat} {h : jx_H} {h9 : jx_H} (e : FX7_advance l0 h = some h9) : jx_Ct yX7_advance cX7_advance 2 none rmX7_advance [.ref l0] h (fun r' h' => none = r' ∧ h9 = h') := by
  refine jx_Ct.of (own := RX7) (by decide) rfl (Nat.le_of_ble_eq_true rfl) (fun X C hq hr hL hN => ?_)
  refine jx_sub (lv' := [(0, .ref l0)]) [0] rfl ?_
  have b243 : ∀ (y61 : Nat) (y62 : Nat) (y63 : Int32) (h64 : jx_H), BX7_advance_243 y61 y62 y63 h64 = some h9 → jx_J X 0 0 243 [(0, .ref y61)] [.int y63, .ref y62] h64 := by
    intro y61 y62 y63 h64 e
    unfold BX7_advance_243 at e
    replace e := ob e
    obtain ⟨h65, eh65, e⟩ := e
    refine j_put (ci := 7) (RC := RX7) (T := TX7) (N := 6) (ty0 := tyX7) 2 C rfl klX7 tyX7_ok nmX7 (Nat.le_of_ble_eq_true rfl) kX7_32 rfl rfl rfl rfl dX7_advance_243 eh65 ?_
    refine j_aload_n C dX7_advance_246 rfl rfl ?_
    refine j_dup C dX7_advance_247 rfl ?_
    replace e := ob e
    obtain ⟨x66, ex66, e⟩ := e
    refine j_geti (ci := 7) (RC := RX7) (T := TX7) (N := 6) 4 C rfl klX7 (Nat.le_of_ble_eq_true rfl) kX7_19 rfl dX7_advance_248 ex66 ?_
    refine j_iconst (v := (1 : Int32)) C dX7_advance_251 (by decide) ?_
    refine j_iadd C dX7_advance_252 ?_
    replace e := ob e
    obtain ⟨h67, eh67, e⟩ := e
    refine j_put (ci := 7) (RC := RX7) (T := TX7) (N := 6) (ty0 := tyX7) 4 C rfl klX7 tyX7_ok nmX7 (Nat.le_of_ble_eq_true rfl) kX7_19 rfl rfl rfl rfl dX7_advance_253 eh67 ?_
    cases e
    exact j_vret C hq dX7_advance_256 ⟨Nat.le_of_ble_eq_true rfl, Nat.le_of_ble_eq_true rfl⟩ ⟨rfl, rfl⟩
  have b238 : ∀ (y68 : Nat) (y69 : Int32) (y70 : Nat) (h71 : jx_H), BX7_advance_238 y68 y69 y70 h71 = some h9 → jx_J X 0 0 238 [(0, .ref y68), (1, .int y69)] [.ref y70] h71 := by
    intro y68 y69 y70 h71 e
    unfold BX7_advance_238 at e
    refine j_iload_n C dX7_advance_238 rfl rfl ?_
    refine j_goto (tgt := 243) C dX7_advance_239 (by decide) ?_
    refine jx_sub (lv' := [(0, .ref y68)]) [0] rfl ?_
    exact b243 y68 y70 y69 h71 e
  have b50 : ∀ (y72 : Nat) (h73 : jx_H), BX7_advance_50 y72 h73 = some h9 → jx_J X 0 0 50 [(0, .ref y72)] [] h73 := by
    intro y72 h73 e
    unfold BX7_advance_50 at e
    refine j_aload_n C dX7_advance_50 rfl rfl ?_
    refine j_aload_n C dX7_advance_51 rfl rfl ?_
    replace e := ob e
    obtain ⟨x74, ex74, e⟩ := e
    refine j_geti (ci := 7) (RC := RX7) (T := TX7) (N := 6) 4 C rfl klX7 (Nat.le_of_ble_eq_true rfl) kX7_19 rfl dX7_advance_52 ex74 ?_
    replace e := ob e
    obtain ⟨h75, eh75, e⟩ := e
    refine j_put (ci := 7) (RC := RX7) (T := TX7) (N := 6) (ty0 := tyX7) 3 C rfl klX7 tyX7_ok nmX7 (Nat.le_of_ble_eq_true rfl) kX7_29 rfl rfl rfl rfl dX7_advance_55 eh75 ?_
    refine j_aload_n C dX7_advance_58 rfl rfl ?_
    refine j_aload_n C dX7_advance_59 rfl rfl ?_
    replace e := ob e
    obtain ⟨x76, ex76, e⟩ := e
    refine j_geti (ci := 7) (RC := RX7) (T := TX7) (N := 6) 4 C rfl klX7 (Nat.le_of_ble_eq_true rfl) kX7_19 rfl dX7_advance_60 ex76 ?_
    replace e := ob e
    obtain ⟨_, eo77, e⟩ := e
    replace e := ob e
    obtain ⟨x78, ex78, e⟩ := e
    refine j_callV (ci := 7) (RC := RX7) (T := TX7) (N := 6) (As := [.int x76]) (b := y72) (na := 1) (st := []) (k1 := 0) (n1 := 0) C hr (sX7_byteAt ex78) rfl eo77 kX7_25 kim_X7_byteAt ksel_X7_byteAt kini_X7 kc_X7_byteAt (by decide) rfl ⟨(Nat.le_of_ble_eq_true rfl), (Nat.le_of_ble_eq_true rfl)⟩ (Nat.le_of_ble_eq_true rfl) ⟨rfl, rfl, (Nat.le_of_ble_eq_true rfl), (Nat.le_of_ble_eq_true rfl)⟩ dX7_advance_63 ?_
    rintro _ _ ⟨rfl, rfl⟩
    show jx_J X 0 0 66 [(0, .ref y72)] [.int x78] h75
    refine j_istore_n (lv1 := [(1, .int x78), (0, .ref y72)]) C hL dX7_advance_66 rfl (Nat.le_of_ble_eq_true rfl) rfl ?_
    refine j_aload_n C dX7_advance_67 rfl rfl ?_
    replace e := ob e
    obtain ⟨x79, ex79, e⟩ := e
    refine j_geti (ci := 7) (RC := RX7) (T := TX7) (N := 6) 4 C rfl klX7 (Nat.le_of_ble_eq_true rfl) kX7_19 rfl dX7_advance_68 ex79 ?_
    refine j_aload_n C dX7_advance_71 rfl rfl ?_
    replace e := ob e
    obtain ⟨x80, ex80, e⟩ := e
    refine j_geti (ci := 7) (RC := RX7) (T := TX7) (N := 6) 1 C rfl klX7 (Nat.le_of_ble_eq_true rfl) kX7_15 rfl dX7_advance_72 ex80 ?_
    refine j_icmp_lt (tgt := 86) C dX7_advance_75 (by decide) (fun c119 => ?_) (fun c119 => ?_)
    · replace e := ifp c119 e
      refine j_iload_n C dX7_advance_86 rfl rfl ?_
      replace e := ob e
      obtain ⟨x81, ex81, e⟩ := e
      refine j_callS (As := [.int x78]) (na := 1) (st := []) (k1 := 0) (n1 := 0) C hr (sX7_isLetter ex81) kX7_35 kst_X7_isLetter kini_X7 kc_X7_isLetter (by decide) rfl ⟨(Nat.le_of_ble_eq_true rfl), (Nat.le_of_ble_eq_true rfl)⟩ (Nat.le_of_ble_eq_true rfl) ⟨rfl, rfl, (Nat.le_of_ble_eq_true rfl), (Nat.le_of_ble_eq_true rfl)⟩ dX7_advance_87 ?_
      rintro _ _ ⟨rfl, rfl⟩
      show jx_J X 0 0 90 [(1, .int x78), (0, .ref y72)] [.int x81] h75
      refine j_if_eq (tgt := 136) C dX7_advance_90 (by decide) (fun c117 => ?_) (fun c117 => ?_)
      · replace e := ifp c117 e
        refine j_iload_n C dX7_advance_136 rfl rfl ?_
        replace e := ob e
        obtain ⟨x82, ex82, e⟩ := e
        refine j_callS (As := [.int x78]) (na := 1) (st := []) (k1 := 0) (n1 := 0) C hr (sX7_isDigit ex82) kX7_39 kst_X7_isDigit kini_X7 kc_X7_isDigit (by decide) rfl ⟨(Nat.le_of_ble_eq_true rfl), (Nat.le_of_ble_eq_true rfl)⟩ (Nat.le_of_ble_eq_true rfl) ⟨rfl, rfl, (Nat.le_of_ble_eq_true rfl), (Nat.le_of_ble_eq_true rfl)⟩ dX7_advance_137 ?_
        rintro _ _ ⟨rfl, rfl⟩
        show jx_J X 0 0 140 [(1, .int x78), (0, .ref y72)] [.int x82] h75
        refine j_if_eq (tgt := 219) C dX7_advance_140 (by decide) (fun c104 => ?_) (fun c104 => ?_)
        · replace e := ifp c104 e
          refine j_aload_n C dX7_advance_219 rfl rfl ?_
          refine j_iload_n C dX7_advance_220 rfl rfl ?_
          refine j_bipush (v := (59 : Int32)) C dX7_advance_221 (by decide) ?_
          refine j_icmp_eq (tgt := 238) C dX7_advance_223 (by decide) (fun c85 => ?_) (fun c85 => ?_)
          · replace e := ifp c85 e
            refine jx_sub (lv' := [(0, .ref y72), (1, .int x78)]) [1, 0] rfl ?_
            exact b238 y72 x78 y72 h75 e
          · replace e := ifn c85 e
            refine j_iload_n C dX7_advance_226 rfl rfl ?_
            refine j_bipush (v := (44 : Int32)) C dX7_advance_227 (by decide) ?_
            refine j_icmp_eq (tgt := 238) C dX7_advance_229 (by decide) (fun c84 => ?_) (fun c84 => ?_)
            · replace e := ifp c84 e
              refine jx_sub (lv' := [(0, .ref y72), (1, .int x78)]) [1, 0] rfl ?_
              exact b238 y72 x78 y72 h75 e
            · replace e := ifn c84 e
              refine j_iload_n C dX7_advance_232 rfl rfl ?_
              refine j_bipush (v := (45 : Int32)) C dX7_advance_233 (by decide) ?_
              refine j_icmp_ne (tgt := 242) C dX7_advance_235 (by decide) (fun c83 => ?_) (fun c83 => ?_)
              · replace e := ifn c83 e
                refine j_iconst (v := (3 : Int32)) C dX7_advance_242 (by decide) ?_
                refine jx_sub (lv' := [(0, .ref y72)]) [1] rfl ?_
                exact b243 y72 y72 (3 : Int32) h75 e
              · replace e := ifp c83 e
                refine jx_sub (lv' := [(0, .ref y72), (1, .int x78)]) [1, 0] rfl ?_
                exact b238 y72 x78 y72 h75 e
        · replace e := ifn c104 e
          refine j_aload_n C dX7_advance_143 rfl rfl ?_
          refine j_iconst (v := (2 : Int32)) C dX7_advance_144 (by decide) ?_
          replace e := ob e
          obtain ⟨h86, eh86, e⟩ := e
          refine j_put (ci := 7) (RC := RX7) (T := TX7) (N := 6) (ty0 := tyX7) 2 C rfl klX7 tyX7_ok nmX7 (Nat.le_of_ble_eq_true rfl) kX7_32 rfl rfl rfl rfl dX7_advance_145 eh86 ?_
          refine j_aload_n C dX7_advance_148 rfl rfl ?_
          refine j_iconst (v := (0 : Int32)) C dX7_advance_149 (by decide) ?_
          replace e := ob e
          obtain ⟨h87, eh87, e⟩ := e
          refine j_put (ci := 7) (RC := RX7) (T := TX7) (N := 6) (ty0 := tyX7) 5 C rfl klX7 tyX7_ok nmX7 (Nat.le_of_ble_eq_true rfl) kX7_42 rfl rfl rfl rfl dX7_advance_150 eh87 ?_
          refine jx_sub (lv' := [(0, .ref y72)]) [1] rfl ?_
          refine itr_ind (s0 := h87) (fun s : jx_H => jx_J X 0 0 153 [(0, .ref y72)] [] s) e ?_
          clear e
          intro s kI7 kT7 e0
          obtain ⟨h88, es⟩ : ∃ z, z = s := ⟨_, rfl⟩
          subst es
          obtain ⟨u7, e0_7⟩ := e0
          have e : LX7_advance_153 y72  h88 = some u7 := e0_7
          unfold LX7_advance_153 at e
          refine j_aload_n C dX7_advance_153 rfl rfl ?_
          replace e := ob e
          obtain ⟨x89, ex89, e⟩ := e
          refine j_geti (ci := 7) (RC := RX7) (T := TX7) (N := 6) 4 C rfl klX7 (Nat.le_of_ble_eq_true rfl) kX7_19 rfl dX7_advance_154 ex89 ?_
          refine j_aload_n C dX7_advance_157 rfl rfl ?_
          replace e := ob e
          obtain ⟨x90, ex90, e⟩ := e
          refine j_geti (ci := 7) (RC := RX7) (T := TX7) (N := 6) 1 C rfl klX7 (Nat.le_of_ble_eq_true rfl) kX7_15 rfl dX7_advance_158 ex90 ?_
          refine j_icmp_ge (tgt := 256) C dX7_advance_161 (by decide) (fun c103 => ?_) (fun c103 => ?_)
          · replace e := ifp c103 e
            obtain ⟨t_8, e_8, eu_8⟩ := exL_spec e
            obtain rfl := kT7 t_8 (e0_7.trans (congrArg some eu_8))
            replace e := e_8
            cases e
            exact j_vret C hq dX7_advance_256 ⟨Nat.le_of_ble_eq_true rfl, Nat.le_of_ble_eq_true rfl⟩ ⟨rfl, rfl⟩
          · replace e := ifn c103 e
            refine j_aload_n C dX7_advance_164 rfl rfl ?_
            refine j_aload_n C dX7_advance_165 rfl rfl ?_
            replace e := ob e
            obtain ⟨x91, ex91, e⟩ := e
            refine j_geti (ci := 7) (RC := RX7) (T := TX7) (N := 6) 4 C rfl klX7 (Nat.le_of_ble_eq_true rfl) kX7_19 rfl dX7_advance_166 ex91 ?_
            replace e := ob e
            obtain ⟨_, eo92, e⟩ := e
            replace e := ob e
            obtain ⟨x93, ex93, e⟩ := e
            refine j_callV (ci := 7) (RC := RX7) (T := TX7) (N := 6) (As := [.int x91]) (b := y72) (na := 1) (st := []) (k1 := 0) (n1 := 0) C hr (sX7_byteAt ex93) rfl eo92 kX7_25 kim_X7_byteAt ksel_X7_byteAt kini_X7 kc_X7_byteAt (by decide) rfl ⟨(Nat.le_of_ble_eq_true rfl), (Nat.le_of_ble_eq_true rfl)⟩ (Nat.le_of_ble_eq_true rfl) ⟨rfl, rfl, (Nat.le_of_ble_eq_true rfl), (Nat.le_of_ble_eq_true rfl)⟩ dX7_advance_169 ?_
            rintro _ _ ⟨rfl, rfl⟩
            show jx_J X 0 0 172 [(0, .ref y72)] [.int x93] h88
            replace e := ob e
            obtain ⟨x94, ex94, e⟩ := e
            refine j_callS (As := [.int x93]) (na := 1) (st := []) (k1 := 0) (n1 := 0) C hr (sX7_isDigit ex94) kX7_39 kst_X7_isDigit kini_X7 kc_X7_isDigit (by decide) rfl ⟨(Nat.le_of_ble_eq_true rfl), (Nat.le_of_ble_eq_true rfl)⟩ (Nat.le_of_ble_eq_true rfl) ⟨rfl, rfl, (Nat.le_of_ble_eq_true rfl), (Nat.le_of_ble_eq_true rfl)⟩ dX7_advance_172 ?_
            rintro _ _ ⟨rfl, rfl⟩
            show jx_J X 0 0 175 [(0, .ref y72)] [.int x94] h88
            refine j_if_eq (tgt := 256) C dX7_advance_175 (by decide) (fun c102 => ?_) (fun c102 => ?_)
            · replace e := ifp c102 e
              obtain ⟨t_9, e_9, eu_9⟩ := exL_spec e
              obtain rfl := kT7 t_9 (e0_7.trans (congrArg some eu_9))
              replace e := e_9
              cases e
              exact j_vret C hq dX7_advance_256 ⟨Nat.le_of_ble_eq_true rfl, Nat.le_of_ble_eq_true rfl⟩ ⟨rfl, rfl⟩
            · replace e := ifn c102 e
              refine j_aload_n C dX7_advance_178 rfl rfl ?_
              refine j_aload_n C dX7_advance_179 rfl rfl ?_
              replace e := ob e
              obtain ⟨x95, ex95, e⟩ := e
              refine j_geti (ci := 7) (RC := RX7) (T := TX7) (N := 6) 5 C rfl klX7 (Nat.le_of_ble_eq_true rfl) kX7_42 rfl dX7_advance_180 ex95 ?_
              refine j_bipush (v := (10 : Int32)) C dX7_advance_183 (by decide) ?_
              refine j_imul C dX7_advance_185 ?_
              refine j_aload_n C dX7_advance_186 rfl rfl ?_
              refine j_aload_n C dX7_advance_187 rfl rfl ?_
              replace e := ob e
              obtain ⟨x96, ex96, e⟩ := e
              refine j_geti (ci := 7) (RC := RX7) (T := TX7) (N := 6) 4 C rfl klX7 (Nat.le_of_ble_eq_true rfl) kX7_19 rfl dX7_advance_188 ex96 ?_
              replace e := ob e
              obtain ⟨_, eo97, e⟩ := e
              replace e := ob e
              obtain ⟨x98, ex98, e⟩ := e
              refine j_callV (ci := 7) (RC := RX7) (T := TX7) (N := 6) (As := [.int x96]) (b := y72) (na := 1) (st := [.int (x95 * (10 : Int32)), .ref y72]) (k1 := 0) (n1 := 0) C hr (sX7_byteAt ex98) rfl eo97 kX7_25 kim_X7_byteAt ksel_X7_byteAt kini_X7 kc_X7_byteAt (by decide) rfl ⟨(Nat.le_of_ble_eq_true rfl), (Nat.le_of_ble_eq_true rfl)⟩ (Nat.le_of_ble_eq_true rfl) ⟨rfl, rfl, (Nat.le_of_ble_eq_true rfl), (Nat.le_of_ble_eq_true rfl)⟩ dX7_advance_191 ?_
              rintro _ _ ⟨rfl, rfl⟩
              show jx_J X 0 0 194 [(0, .ref y72)] [.int x98, .int (x95 * (10 : Int32)), .ref y72] h88
              refine j_iadd C dX7_advance_194 ?_
              refine j_bipush (v := (48 : Int32)) C dX7_advance_195 (by decide) ?_
              refine j_isub C dX7_advance_197 ?_
              refine j_ldc (v := (100000 : Int32)) C kX7_45 dX7_advance_198 ?_
              refine j_min C hr kX7_46 kst_Math_min kini_J9 kc_Math_min dX7_advance_200 (Nat.le_of_ble_eq_true rfl) (Nat.le_of_ble_eq_true rfl) ⟨(Nat.le_of_ble_eq_true rfl), (Nat.le_of_ble_eq_true rfl)⟩ ?_
              replace e := ob e
              obtain ⟨h99, eh99, e⟩ := e
              refine j_put (ci := 7) (RC := RX7) (T := TX7) (N := 6) (ty0 := tyX7) 5 C rfl klX7 tyX7_ok nmX7 (Nat.le_of_ble_eq_true rfl) kX7_42 rfl rfl rfl rfl dX7_advance_203 eh99 ?_
              refine j_aload_n C dX7_advance_206 rfl rfl ?_
              refine j_dup C dX7_advance_207 rfl ?_
              replace e := ob e
              obtain ⟨x100, ex100, e⟩ := e
              refine j_geti (ci := 7) (RC := RX7) (T := TX7) (N := 6) 4 C rfl klX7 (Nat.le_of_ble_eq_true rfl) kX7_19 rfl dX7_advance_208 ex100 ?_
              refine j_iconst (v := (1 : Int32)) C dX7_advance_211 (by decide) ?_
              refine j_iadd C dX7_advance_212 ?_
              replace e := ob e
              obtain ⟨h101, eh101, e⟩ := e
              refine j_put (ci := 7) (RC := RX7) (T := TX7) (N := 6) (ty0 := tyX7) 4 C rfl klX7 tyX7_ok nmX7 (Nat.le_of_ble_eq_true rfl) kX7_19 rfl rfl rfl rfl dX7_advance_213 eh101 ?_
              refine j_goto (tgt := 153) C dX7_advance_216 (by decide) ?_
              obtain rfl := Option.some.inj e
              exact kI7 h101 e0_7
      · replace e := ifn c117 e
        refine j_aload_n C dX7_advance_93 rfl rfl ?_
        refine j_iconst (v := (1 : Int32)) C dX7_advance_94 (by decide) ?_
        replace e := ob e
        obtain ⟨h105, eh105, e⟩ := e
        refine j_put (ci := 7) (RC := RX7) (T := TX7) (N := 6) (ty0 := tyX7) 2 C rfl klX7 tyX7_ok nmX7 (Nat.le_of_ble_eq_true rfl) kX7_32 rfl rfl rfl rfl dX7_advance_95 eh105 ?_
        refine jx_sub (lv' := [(0, .ref y72)]) [1] rfl ?_
        refine itr_ind (s0 := h105) (fun s : jx_H => jx_J X 0 0 98 [(0, .ref y72)] [] s) e ?_
        clear e
        intro s kI10 kT10 e0
        obtain ⟨h106, es⟩ : ∃ z, z = s := ⟨_, rfl⟩
        subst es
        obtain ⟨u10, e0_10⟩ := e0
        have e : LX7_advance_98 y72  h106 = some u10 := e0_10
        unfold LX7_advance_98 at e
        refine j_aload_n C dX7_advance_98 rfl rfl ?_
        replace e := ob e
        obtain ⟨x107, ex107, e⟩ := e
        refine j_geti (ci := 7) (RC := RX7) (T := TX7) (N := 6) 4 C rfl klX7 (Nat.le_of_ble_eq_true rfl) kX7_19 rfl dX7_advance_99 ex107 ?_
        refine j_aload_n C dX7_advance_102 rfl rfl ?_
        replace e := ob e
        obtain ⟨x108, ex108, e⟩ := e
        refine j_geti (ci := 7) (RC := RX7) (T := TX7) (N := 6) 1 C rfl klX7 (Nat.le_of_ble_eq_true rfl) kX7_15 rfl dX7_advance_103 ex108 ?_
        refine j_icmp_ge (tgt := 256) C dX7_advance_106 (by decide) (fun c116 => ?_) (fun c116 => ?_)
        · replace e := ifp c116 e
          obtain ⟨t_11, e_11, eu_11⟩ := exL_spec e
          obtain rfl := kT10 t_11 (e0_10.trans (congrArg some eu_11))
          replace e := e_11
          cases e
          exact j_vret C hq dX7_advance_256 ⟨Nat.le_of_ble_eq_true rfl, Nat.le_of_ble_eq_true rfl⟩ ⟨rfl, rfl⟩
        · replace e := ifn c116 e
          refine j_aload_n C dX7_advance_109 rfl rfl ?_
          refine j_aload_n C dX7_advance_110 rfl rfl ?_
          replace e := ob e
          obtain ⟨x109, ex109, e⟩ := e
          refine j_geti (ci := 7) (RC := RX7) (T := TX7) (N := 6) 4 C rfl klX7 (Nat.le_of_ble_eq_true rfl) kX7_19 rfl dX7_advance_111 ex109 ?_
          replace e := ob e
          obtain ⟨_, eo110, e⟩ := e
          replace e := ob e
          obtain ⟨x111, ex111, e⟩ := e
          refine j_callV (ci := 7) (RC := RX7) (T := TX7) (N := 6) (As := [.int x109]) (b := y72) (na := 1) (st := []) (k1 := 0) (n1 := 0) C hr (sX7_byteAt ex111) rfl eo110 kX7_25 kim_X7_byteAt ksel_X7_byteAt kini_X7 kc_X7_byteAt (by decide) rfl ⟨(Nat.le_of_ble_eq_true rfl), (Nat.le_of_ble_eq_true rfl)⟩ (Nat.le_of_ble_eq_true rfl) ⟨rfl, rfl, (Nat.le_of_ble_eq_true rfl), (Nat.le_of_ble_eq_true rfl)⟩ dX7_advance_114 ?_
          rintro _ _ ⟨rfl, rfl⟩
          show jx_J X 0 0 117 [(0, .ref y72)] [.int x111] h106
          replace e := ob e
          obtain ⟨x112, ex112, e⟩ := e
          refine j_callS (As := [.int x111]) (na := 1) (st := []) (k1 := 0) (n1 := 0) C hr (sX7_isLetter ex112) kX7_35 kst_X7_isLetter kini_X7 kc_X7_isLetter (by decide) rfl ⟨(Nat.le_of_ble_eq_true rfl), (Nat.le_of_ble_eq_true rfl)⟩ (Nat.le_of_ble_eq_true rfl) ⟨rfl, rfl, (Nat.le_of_ble_eq_true rfl), (Nat.le_of_ble_eq_true rfl)⟩ dX7_advance_117 ?_
          rintro _ _ ⟨rfl, rfl⟩
          show jx_J X 0 0 120 [(0, .ref y72)] [.int x112] h106
          refine j_if_eq (tgt := 256) C dX7_advance_120 (by decide) (fun c115 => ?_) (fun c115 => ?_)
          · replace e := ifp c115 e
            obtain ⟨t_12, e_12, eu_12⟩ := exL_spec e
            obtain rfl := kT10 t_12 (e0_10.trans (congrArg some eu_12))
            replace e := e_12
            cases e
            exact j_vret C hq dX7_advance_256 ⟨Nat.le_of_ble_eq_true rfl, Nat.le_of_ble_eq_true rfl⟩ ⟨rfl, rfl⟩
          · replace e := ifn c115 e
            refine j_aload_n C dX7_advance_123 rfl rfl ?_
            refine j_dup C dX7_advance_124 rfl ?_
            replace e := ob e
            obtain ⟨x113, ex113, e⟩ := e
            refine j_geti (ci := 7) (RC := RX7) (T := TX7) (N := 6) 4 C rfl klX7 (Nat.le_of_ble_eq_true rfl) kX7_19 rfl dX7_advance_125 ex113 ?_
            refine j_iconst (v := (1 : Int32)) C dX7_advance_128 (by decide) ?_
            refine j_iadd C dX7_advance_129 ?_
            replace e := ob e
            obtain ⟨h114, eh114, e⟩ := e
            refine j_put (ci := 7) (RC := RX7) (T := TX7) (N := 6) (ty0 := tyX7) 4 C rfl klX7 tyX7_ok nmX7 (Nat.le_of_ble_eq_true rfl) kX7_19 rfl rfl rfl rfl dX7_advance_130 eh114 ?_
            refine j_goto (tgt := 98) C dX7_advance_133 (by decide) ?_
            obtain rfl := Option.some.inj e
            exact kI10 h114 e0_10
    · replace e := ifn c119 e
      refine j_aload_n C dX7_advance_78 rfl rfl ?_
      refine j_iconst (v := (0 : Int32)) C dX7_advance_79 (by decide) ?_
      replace e := ob e
      obtain ⟨h118, eh118, e⟩ := e
      refine j_put (ci := 7) (RC := RX7) (T := TX7) (N := 6) (ty0 := tyX7) 2 C rfl klX7 tyX7_ok nmX7 (Nat.le_of_ble_eq_true rfl) kX7_32 rfl rfl rfl rfl dX7_advance_80 eh118 ?_
      refine j_goto (tgt := 256) C dX7_advance_83 (by decide) ?_
      cases e
      exact j_vret C hq dX7_advance_256 ⟨Nat.le_of_ble_eq_true rfl, Nat.le_of_ble_eq_true rfl⟩ ⟨rfl, rfl⟩
  unfold FX7_advance at e
  refine itr_ind (s0 := h) (fun s : jx_H => jx_J X 0 0 0 [(0, .ref l0)] [] s) e ?_
  clear e
  intro s kI13 kT13 e0
  obtain ⟨h120, es⟩ : ∃ z, z = s := ⟨_, rfl⟩
  subst es
  obtain ⟨u13, e0_13⟩ := e0
  have e : LX7_advance_0 l0  h120 = some u13 := e0_13
  have b37 : ∀ (h121 : jx_H), BX7_advance_37 l0 h121 = some u13 → jx_J X 0 0 37 [(0, .ref l0)] [] h121 := by
    intro h121 e
    unfold BX7_advance_37 at e
    refine j_aload_n C dX7_advance_37 rfl rfl ?_
    refine j_dup C dX7_advance_38 rfl ?_
    replace e := ob e
    obtain ⟨x122, ex122, e⟩ := e
    refine j_geti (ci := 7) (RC := RX7) (T := TX7) (N := 6) 4 C rfl klX7 (Nat.le_of_ble_eq_true rfl) kX7_19 rfl dX7_advance_39 ex122 ?_
    refine j_iconst (v := (1 : Int32)) C dX7_advance_42 (by decide) ?_
    refine j_iadd C dX7_advance_43 ?_
    replace e := ob e
    obtain ⟨h123, eh123, e⟩ := e
    refine j_put (ci := 7) (RC := RX7) (T := TX7) (N := 6) (ty0 := tyX7) 4 C rfl klX7 tyX7_ok nmX7 (Nat.le_of_ble_eq_true rfl) kX7_19 rfl rfl rfl rfl dX7_advance_44 eh123 ?_
    refine j_goto (tgt := 0) C dX7_advance_47 (by decide) ?_
    obtain rfl := Option.some.inj e
    exact kI13 h123 e0_13
  unfold LX7_advance_0 at e
  refine j_aload_n C dX7_advance_0 rfl rfl ?_
  replace e := ob e
  obtain ⟨x124, ex124, e⟩ := e
  refine j_geti (ci := 7) (RC := RX7) (T := TX7) (N := 6) 4 C rfl klX7 (Nat.le_of_ble_eq_true rfl) kX7_19 rfl dX7_advance_1 ex124 ?_
  refine j_aload_n C dX7_advance_4 rfl rfl ?_
  replace e := ob e
  obtain ⟨x125, ex125, e⟩ := e
  refine j_geti (ci := 7) (RC := RX7) (T := TX7) (N := 6) 1 C rfl klX7 (Nat.le_of_ble_eq_true rfl) kX7_15 rfl dX7_advance_5 ex125 ?_
  refine j_icmp_ge (tgt := 50) C dX7_advance_8 (by decide) (fun c134 => ?_) (fun c134 => ?_)
  · replace e := ifp c134 e
    obtain ⟨t_14, e_14, eu_14⟩ := exL_spec e
    obtain rfl := kT13 t_14 (e0_13.trans (congrArg some eu_14))
    replace e := e_14
    exact b50 l0 h120 e
  · replace e := ifn c134 e
    refine j_aload_n C dX7_advance_11 rfl rfl ?_
    refine j_aload_n C dX7_advance_12 rfl rfl ?_
    replace e := ob e
    obtain ⟨x126, ex126, e⟩ := e
    refine j_geti (ci := 7) (RC := RX7) (T := TX7) (N := 6) 4 C rfl klX7 (Nat.le_of_ble_eq_true rfl) kX7_19 rfl dX7_advance_13 ex126 ?_
    replace e := ob e
    obtain ⟨_, eo127, e⟩ := e
    replace e := ob e
    obtain ⟨x128, ex128, e⟩ := e
    refine j_callV (ci := 7) (RC := RX7) (T := TX7) (N := 6) (As := [.int x126]) (b := l0) (na := 1) (st := []) (k1 := 0) (n1 := 0) C hr (sX7_byteAt ex128) rfl eo127 kX7_25 kim_X7_byteAt ksel_X7_byteAt kini_X7 kc_X7_byteAt (by decide) rfl ⟨(Nat.le_of_ble_eq_true rfl), (Nat.le_of_ble_eq_true rfl)⟩ (Nat.le_of_ble_eq_true rfl) ⟨rfl, rfl, (Nat.le_of_ble_eq_true rfl), (Nat.le_of_ble_eq_true rfl)⟩ dX7_advance_16 ?_
    rintro _ _ ⟨rfl, rfl⟩
    show jx_J X 0 0 19 [(0, .ref l0)] [.int x128] h120
    refine j_bipush (v := (32 : Int32)) C dX7_advance_19 (by decide) ?_
    refine j_icmp_eq (tgt := 37) C dX7_advance_21 (by decide) (fun c133 => ?_) (fun c133 => ?_)
    · replace e := ifp c133 e
      exact b37 h120 e
    · replace e := ifn c133 e
      refine j_aload_n C dX7_advance_24 rfl rfl ?_
      refine j_aload_n C dX7_advance_25 rfl rfl ?_
      replace e := ob e
      obtain ⟨x129, ex129, e⟩ := e
      refine j_geti (ci := 7) (RC := RX7) (T := TX7) (N := 6) 4 C rfl klX7 (Nat.le_of_ble_eq_true rfl) kX7_19 rfl dX7_advance_26 ex129 ?_
      replace e := ob e
      obtain ⟨_, eo130, e⟩ := e
      replace e := ob e
      obtain ⟨x131, ex131, e⟩ := e
      refine j_callV (ci := 7) (RC := RX7) (T := TX7) (N := 6) (As := [.int x129]) (b := l0) (na := 1) (st := []) (k1 := 0) (n1 := 0) C hr (sX7_byteAt ex131) rfl eo130 kX7_25 kim_X7_byteAt ksel_X7_byteAt kini_X7 kc_X7_byteAt (by decide) rfl ⟨(Nat.le_of_ble_eq_true rfl), (Nat.le_of_ble_eq_true rfl)⟩ (Nat.le_of_ble_eq_true rfl) ⟨rfl, rfl, (Nat.le_of_ble_eq_true rfl), (Nat.le_of_ble_eq_true rfl)⟩ dX7_advance_29 ?_
      rintro _ _ ⟨rfl, rfl⟩
      show jx_J X 0 0 32 [(0, .ref l0)] [.int x131] h120
      refine j_bipush (v := (10 : Int32)) C dX7_advance_32 (by decide) ?_
      refine j_icmp_ne (tgt := 50) C dX7_advance_34 (by decide) (fun c132 => ?_) (fun c132 => ?_)
      · replace e := ifn c132 e
        obtain ⟨t_15, e_15, eu_15⟩ := exL_spec e
        obtain rfl := kT13 t_15 (e0_13.trans (congrArg some eu_15))
        replace e := e_15
        exact b50 l0 h120 e
      · replace e := ifp c132 e
        exact b37 h120 e
/-! BorderBasis$Text.rewind()V -/
noncomputable def FX7_rewind (l0 : Nat) (h : jx_H) : Option (jx_H) :=
(hp h l0 7 4 (.int (0 : Int32))).bind fun h1 =>
(isO h1 l0 7).bind fun _ =>
(FX7_advance l0 h1).bind fun h3 =>
some h3
def rmX7_rewind : Room := { frames := 2, cells := 0, slots := 0, locals := 42 }
set_option maxRecDepth 20000 in
set_option maxHeartbeats 4000000 in
theorem sX7_rewind {l0 : Nat} {h : jx_H} {h9 : jx_H} (e : FX7_rewind l0 h = some h9) : jx_Ct yX7_rewind cX7_rewind 1 none rmX7_rewind [.ref l0] h (fun r' h' => none = r' ∧ h9 = h') := by
  refine jx_Ct.of (own := RX7) (by decide) rfl (Nat.le_of_ble_eq_true rfl) (fun X C hq hr hL hN => ?_)
  refine jx_sub (lv' := [(0, .ref l0)]) [0] rfl ?_
  unfold FX7_rewind at e
  refine j_aload_n C dX7_rewind_0 rfl rfl ?_
  refine j_iconst (v := (0 : Int32)) C dX7_rewind_1 (by decide) ?_
  replace e := ob e
  obtain ⟨h4, eh4, e⟩ := e
  refine j_put (ci := 7) (RC := RX7) (T := TX7) (N := 6) (ty0 := tyX7) 4 C rfl klX7 tyX7_ok nmX7 (Nat.le_of_ble_eq_true rfl) kX7_19 rfl rfl rfl rfl dX7_rewind_2 eh4 ?_
  refine j_aload_n C dX7_rewind_5 rfl rfl ?_
  replace e := ob e
  obtain ⟨_, eo5, e⟩ := e
  replace e := ob e
  obtain ⟨h6, eh6, e⟩ := e
  refine j_callV (ci := 7) (RC := RX7) (T := TX7) (N := 6) (As := []) (b := l0) (na := 0) (st := []) (k1 := 0) (n1 := 0) C hr (sX7_advance eh6) rfl eo5 kX7_22 kim_X7_advance ksel_X7_advance kini_X7 kc_X7_advance (by decide) rfl ⟨(Nat.le_of_ble_eq_true rfl), (Nat.le_of_ble_eq_true rfl)⟩ (Nat.le_of_ble_eq_true rfl) ⟨rfl, rfl, (Nat.le_of_ble_eq_true rfl), (Nat.le_of_ble_eq_true rfl)⟩ dX7_rewind_6 ?_
  rintro _ _ ⟨rfl, rfl⟩
  show jx_J X 0 0 9 [(0, .ref l0)] [] h6
  cases e
  exact j_vret C hq dX7_rewind_9 ⟨Nat.le_of_ble_eq_true rfl, Nat.le_of_ble_eq_true rfl⟩ ⟨rfl, rfl⟩
/-! BorderBasis$Parser.begin()V -/
noncomputable def FX3_begin (l0 : Nat) (h : jx_H) : Option (jx_H) :=
(hp h l0 3 4 (.int (0 : Int32))).bind fun h1 =>
(hp h1 l0 3 5 (.int (-1 : Int32))).bind fun h2 =>
(hgr h2 l0 3 0).bind fun x3 =>
(isO h2 x3 7).bind fun _ =>
(FX7_rewind x3 h2).bind fun h5 =>
some h5
def rmX3_begin : Room := { frames := 3, cells := 0, slots := 0, locals := 62 }
set_option maxRecDepth 20000 in
set_option maxHeartbeats 4000000 in
theorem sX3_begin {l0 : Nat} {h : jx_H} {h9 : jx_H} (e : FX3_begin l0 h = some h9) : jx_Ct yX3_begin cX3_begin 1 none rmX3_begin [.ref l0] h (fun r' h' => none = r' ∧ h9 = h') := by
  refine jx_Ct.of (own := RX3) (by decide) rfl (Nat.le_of_ble_eq_true rfl) (fun X C hq hr hL hN => ?_)
  refine jx_sub (lv' := [(0, .ref l0)]) [0] rfl ?_
  unfold FX3_begin at e
  refine j_aload_n C dX3_begin_0 rfl rfl ?_
  refine j_iconst (v := (0 : Int32)) C dX3_begin_1 (by decide) ?_
  replace e := ob e
  obtain ⟨h6, eh6, e⟩ := e
  refine j_put (ci := 3) (RC := RX3) (T := TX3) (N := 11) (ty0 := tyX3) 4 C rfl klX3 tyX3_ok nmX3 (Nat.le_of_ble_eq_true rfl) kX3_75 rfl rfl rfl rfl dX3_begin_2 eh6 ?_
  refine j_aload_n C dX3_begin_5 rfl rfl ?_
  refine j_iconst (v := (-1 : Int32)) C dX3_begin_6 (by decide) ?_
  replace e := ob e
  obtain ⟨h7, eh7, e⟩ := e
  refine j_put (ci := 3) (RC := RX3) (T := TX3) (N := 11) (ty0 := tyX3) 5 C rfl klX3 tyX3_ok nmX3 (Nat.le_of_ble_eq_true rfl) kX3_22 rfl rfl rfl rfl dX3_begin_7 eh7 ?_
  refine j_aload_n C dX3_begin_10 rfl rfl ?_
  replace e := ob e
  obtain ⟨x8, ex8, e⟩ := e
  refine j_getr (ci := 3) (RC := RX3) (T := TX3) (N := 11) 0 C rfl klX3 (Nat.le_of_ble_eq_true rfl) kX3_26 rfl dX3_begin_11 ex8 ?_
  replace e := ob e
  obtain ⟨_, eo9, e⟩ := e
  replace e := ob e
  obtain ⟨h10, eh10, e⟩ := e
  refine j_callV (ci := 7) (RC := RX7) (T := TX7) (N := 6) (As := []) (b := x8) (na := 0) (st := []) (k1 := 0) (n1 := 0) C hr (sX7_rewind eh10) rfl eo9 kX3_78 kim_X7_rewind ksel_X7_rewind kini_X7 kc_X7_rewind (by decide) rfl ⟨(Nat.le_of_ble_eq_true rfl), (Nat.le_of_ble_eq_true rfl)⟩ (Nat.le_of_ble_eq_true rfl) ⟨rfl, rfl, (Nat.le_of_ble_eq_true rfl), (Nat.le_of_ble_eq_true rfl)⟩ dX3_begin_14 ?_
  rintro _ _ ⟨rfl, rfl⟩
  show jx_J X 0 0 17 [(0, .ref l0)] [] h10
  cases e
  exact j_vret C hq dX3_begin_17 ⟨Nat.le_of_ble_eq_true rfl, Nat.le_of_ble_eq_true rfl⟩ ⟨rfl, rfl⟩
/-! BorderBasis$Parser.fail(II)Z -/
noncomputable def FX3_fail (l0 : Nat) (l1 : Int32) (l2 : Int32) (h : jx_H) : Option (Int32 × jx_H) :=
(hp h l0 3 4 (.int l1)).bind fun h1 =>
(hp h1 l0 3 5 (.int l2)).bind fun h2 =>
some ((0 : Int32), h2)
def rmX3_fail : Room := { frames := 0, cells := 0, slots := 0, locals := 0 }
set_option maxRecDepth 20000 in
set_option maxHeartbeats 4000000 in
theorem sX3_fail {l0 : Nat} {l1 : Int32} {l2 : Int32} {h : jx_H} {r : Int32} {h9 : jx_H} (e : FX3_fail l0 l1 l2 h = some (r, h9)) : jx_Ct yX3_fail cX3_fail 3 (some .boolean) rmX3_fail [.ref l0, .int l1, .int l2] h (fun r' h' => some (.int r) = r' ∧ h9 = h') := by
  refine jx_Ct.of (own := RX3) (by decide) rfl (Nat.le_of_ble_eq_true rfl) (fun X C hq hr hL hN => ?_)
  refine jx_sub (lv' := [(0, .ref l0), (1, .int l1), (2, .int l2)]) [0, 1, 2] rfl ?_
  unfold FX3_fail at e
  refine j_aload_n C dX3_fail_0 rfl rfl ?_
  refine j_iload_n C dX3_fail_1 rfl rfl ?_
  replace e := ob e
  obtain ⟨h3, eh3, e⟩ := e
  refine j_put (ci := 3) (RC := RX3) (T := TX3) (N := 11) (ty0 := tyX3) 4 C rfl klX3 tyX3_ok nmX3 (Nat.le_of_ble_eq_true rfl) kX3_75 rfl rfl rfl rfl dX3_fail_2 eh3 ?_
  refine j_aload_n C dX3_fail_5 rfl rfl ?_
  refine j_iload_n C dX3_fail_6 rfl rfl ?_
  replace e := ob e
  obtain ⟨h4, eh4, e⟩ := e
  refine j_put (ci := 3) (RC := RX3) (T := TX3) (N := 11) (ty0 := tyX3) 5 C rfl klX3 tyX3_ok nmX3 (Nat.le_of_ble_eq_true rfl) kX3_22 rfl rfl rfl rfl dX3_fail_7 eh4 ?_
  refine j_iconst (v := (0 : Int32)) C dX3_fail_10 (by decide) ?_
  cases e
  exact j_iret C hq rfl dX3_fail_11 ⟨Nat.le_of_ble_eq_true rfl, Nat.le_of_ble_eq_true rfl⟩ ⟨rfl, rfl⟩
/-! BorderBasis$Parser.takeNumber(I)Z -/
noncomputable def FX3_takeNumber (l0 : Nat) (l1 : Int32) (h : jx_H) : Option (Int32 × jx_H) :=
(hgr h l0 3 0).bind fun x1 =>
(hgi h x1 7 2).bind fun x2 =>
if x2 = (2 : Int32) then
 (hgr h l0 3 0).bind fun x3 =>
 (hgi h x3 7 5).bind fun x4 =>
 if x4 ≤ l1 then
  (hgi h l0 3 7).bind fun x5 =>
  (hp h l0 3 6 (.int x5)).bind fun h6 =>
  (hgr h6 l0 3 0).bind fun x7 =>
  (hgi h6 x7 7 5).bind fun x8 =>
  (hp h6 l0 3 7 (.int x8)).bind fun h9 =>
  (hgr h9 l0 3 0).bind fun x10 =>
  (hgi h9 x10 7 3).bind fun x11 =>
  (hp h9 l0 3 9 (.int x11)).bind fun h12 =>
  (hgr h12 l0 3 0).bind fun x13 =>
  (isO h12 x13 7).bind fun _ =>
  (FX7_advance x13 h12).bind fun h15 =>
  some ((1 : Int32), h15)
 else
  (hgr h l0 3 0).bind fun x16 =>
  (hgi h x16 7 3).bind fun x17 =>
  (isO h l0 3).bind fun _ =>
  bind2 (FX3_fail l0 (2 : Int32) x17 h) fun x19 h20 =>
  if x19 = 0 ∨ x19 = 1 then some (x19, h20) else none
else
 (hgr h l0 3 0).bind fun x23 =>
 (hgi h x23 7 3).bind fun x24 =>
 (isO h l0 3).bind fun _ =>
 bind2 (FX3_fail l0 (1 : Int32) x24 h) fun x26 h27 =>
 if x26 = 0 ∨ x26 = 1 then some (x26, h27) else none
def rmX3_takeNumber : Room := { frames := 2, cells := 0, slots := 0, locals := 42 }
set_option maxRecDepth 20000 in
set_option maxHeartbeats 4000000 in
theorem sX3_takeNumber {l0 : Nat} {l1 : Int32} {h : jx_H} {r : Int32} {h9 : jx_H} (e : FX3_takeNumber l0 l1 h = some (r, h9)) : jx_Ct yX3_takeNumber cX3_takeNumber 2 (some .boolean) rmX3_takeNumber [.ref l0, .int l1] h (fun r' h' => some (.int r) = r' ∧ h9 = h') := by
  refine jx_Ct.of (own := RX3) (by decide) rfl (Nat.le_of_ble_eq_true rfl) (fun X C hq hr hL hN => ?_)
  refine jx_sub (lv' := [(0, .ref l0), (1, .int l1)]) [0, 1] rfl ?_
  unfold FX3_takeNumber at e
  refine j_aload_n C dX3_takeNumber_0 rfl rfl ?_
  replace e := ob e
  obtain ⟨x30, ex30, e⟩ := e
  refine j_getr (ci := 3) (RC := RX3) (T := TX3) (N := 11) 0 C rfl klX3 (Nat.le_of_ble_eq_true rfl) kX3_26 rfl dX3_takeNumber_1 ex30 ?_
  replace e := ob e
  obtain ⟨x31, ex31, e⟩ := e
  refine j_geti (ci := 7) (RC := RX7) (T := TX7) (N := 6) 2 C rfl klX7 (Nat.le_of_ble_eq_true rfl) kX3_39 rfl dX3_takeNumber_4 ex31 ?_
  refine j_iconst (v := (2 : Int32)) C dX3_takeNumber_7 (by decide) ?_
  refine j_icmp_eq (tgt := 24) C dX3_takeNumber_8 (by decide) (fun c58 => ?_) (fun c58 => ?_)
  · replace e := ifp c58 e
    refine j_aload_n C dX3_takeNumber_24 rfl rfl ?_
    replace e := ob e
    obtain ⟨x32, ex32, e⟩ := e
    refine j_getr (ci := 3) (RC := RX3) (T := TX3) (N := 11) 0 C rfl klX3 (Nat.le_of_ble_eq_true rfl) kX3_26 rfl dX3_takeNumber_25 ex32 ?_
    replace e := ob e
    obtain ⟨x33, ex33, e⟩ := e
    refine j_geti (ci := 7) (RC := RX7) (T := TX7) (N := 6) 5 C rfl klX7 (Nat.le_of_ble_eq_true rfl) kX3_168 rfl dX3_takeNumber_28 ex33 ?_
    refine j_iload_n C dX3_takeNumber_31 rfl rfl ?_
    refine j_icmp_le (tgt := 48) C dX3_takeNumber_32 (by decide) (fun c51 => ?_) (fun c51 => ?_)
    · replace e := ifp c51 e
      refine j_aload_n C dX3_takeNumber_48 rfl rfl ?_
      refine j_aload_n C dX3_takeNumber_49 rfl rfl ?_
      replace e := ob e
      obtain ⟨x34, ex34, e⟩ := e
      refine j_geti (ci := 3) (RC := RX3) (T := TX3) (N := 11) 7 C rfl klX3 (Nat.le_of_ble_eq_true rfl) kX3_65 rfl dX3_takeNumber_50 ex34 ?_
      replace e := ob e
      obtain ⟨h35, eh35, e⟩ := e
      refine j_put (ci := 3) (RC := RX3) (T := TX3) (N := 11) (ty0 := tyX3) 6 C rfl klX3 tyX3_ok nmX3 (Nat.le_of_ble_eq_true rfl) kX3_62 rfl rfl rfl rfl dX3_takeNumber_53 eh35 ?_
      refine j_aload_n C dX3_takeNumber_56 rfl rfl ?_
      refine j_aload_n C dX3_takeNumber_57 rfl rfl ?_
      replace e := ob e
      obtain ⟨x36, ex36, e⟩ := e
      refine j_getr (ci := 3) (RC := RX3) (T := TX3) (N := 11) 0 C rfl klX3 (Nat.le_of_ble_eq_true rfl) kX3_26 rfl dX3_takeNumber_58 ex36 ?_
      replace e := ob e
      obtain ⟨x37, ex37, e⟩ := e
      refine j_geti (ci := 7) (RC := RX7) (T := TX7) (N := 6) 5 C rfl klX7 (Nat.le_of_ble_eq_true rfl) kX3_168 rfl dX3_takeNumber_61 ex37 ?_
      replace e := ob e
      obtain ⟨h38, eh38, e⟩ := e
      refine j_put (ci := 3) (RC := RX3) (T := TX3) (N := 11) (ty0 := tyX3) 7 C rfl klX3 tyX3_ok nmX3 (Nat.le_of_ble_eq_true rfl) kX3_65 rfl rfl rfl rfl dX3_takeNumber_64 eh38 ?_
      refine j_aload_n C dX3_takeNumber_67 rfl rfl ?_
      refine j_aload_n C dX3_takeNumber_68 rfl rfl ?_
      replace e := ob e
      obtain ⟨x39, ex39, e⟩ := e
      refine j_getr (ci := 3) (RC := RX3) (T := TX3) (N := 11) 0 C rfl klX3 (Nat.le_of_ble_eq_true rfl) kX3_26 rfl dX3_takeNumber_69 ex39 ?_
      replace e := ob e
      obtain ⟨x40, ex40, e⟩ := e
      refine j_geti (ci := 7) (RC := RX7) (T := TX7) (N := 6) 3 C rfl klX7 (Nat.le_of_ble_eq_true rfl) kX3_109 rfl dX3_takeNumber_72 ex40 ?_
      replace e := ob e
      obtain ⟨h41, eh41, e⟩ := e
      refine j_put (ci := 3) (RC := RX3) (T := TX3) (N := 11) (ty0 := tyX3) 9 C rfl klX3 tyX3_ok nmX3 (Nat.le_of_ble_eq_true rfl) kX3_124 rfl rfl rfl rfl dX3_takeNumber_75 eh41 ?_
      refine j_aload_n C dX3_takeNumber_78 rfl rfl ?_
      replace e := ob e
      obtain ⟨x42, ex42, e⟩ := e
      refine j_getr (ci := 3) (RC := RX3) (T := TX3) (N := 11) 0 C rfl klX3 (Nat.le_of_ble_eq_true rfl) kX3_26 rfl dX3_takeNumber_79 ex42 ?_
      replace e := ob e
      obtain ⟨_, eo43, e⟩ := e
      replace e := ob e
      obtain ⟨h44, eh44, e⟩ := e
      refine j_callV (ci := 7) (RC := RX7) (T := TX7) (N := 6) (As := []) (b := x42) (na := 0) (st := []) (k1 := 0) (n1 := 0) C hr (sX7_advance eh44) rfl eo43 kX3_115 kim_X7_advance ksel_X7_advance kini_X7 kc_X7_advance (by decide) rfl ⟨(Nat.le_of_ble_eq_true rfl), (Nat.le_of_ble_eq_true rfl)⟩ (Nat.le_of_ble_eq_true rfl) ⟨rfl, rfl, (Nat.le_of_ble_eq_true rfl), (Nat.le_of_ble_eq_true rfl)⟩ dX3_takeNumber_82 ?_
      rintro _ _ ⟨rfl, rfl⟩
      show jx_J X 0 0 85 [(0, .ref l0), (1, .int l1)] [] h44
      refine j_iconst (v := (1 : Int32)) C dX3_takeNumber_85 (by decide) ?_
      cases e
      exact j_iret C hq rfl dX3_takeNumber_86 ⟨Nat.le_of_ble_eq_true rfl, Nat.le_of_ble_eq_true rfl⟩ ⟨rfl, rfl⟩
    · replace e := ifn c51 e
      refine j_aload_n C dX3_takeNumber_35 rfl rfl ?_
      refine j_iconst (v := (2 : Int32)) C dX3_takeNumber_36 (by decide) ?_
      refine j_aload_n C dX3_takeNumber_37 rfl rfl ?_
      replace e := ob e
      obtain ⟨x45, ex45, e⟩ := e
      refine j_getr (ci := 3) (RC := RX3) (T := TX3) (N := 11) 0 C rfl klX3 (Nat.le_of_ble_eq_true rfl) kX3_26 rfl dX3_takeNumber_38 ex45 ?_
      replace e := ob e
      obtain ⟨x46, ex46, e⟩ := e
      refine j_geti (ci := 7) (RC := RX7) (T := TX7) (N := 6) 3 C rfl klX7 (Nat.le_of_ble_eq_true rfl) kX3_109 rfl dX3_takeNumber_41 ex46 ?_
      replace e := ob e
      obtain ⟨_, eo47, e⟩ := e
      replace e := ob2 e
      obtain ⟨x48, h49, ex48, e⟩ := e
      refine j_callV (ci := 3) (RC := RX3) (T := TX3) (N := 11) (As := [.int (2 : Int32), .int x46]) (b := l0) (na := 2) (st := []) (k1 := 0) (n1 := 0) C hr (sX3_fail ex48) rfl eo47 kX3_112 kim_X3_fail ksel_X3_fail kini_X3 kc_X3_fail (by decide) rfl ⟨(Nat.le_of_ble_eq_true rfl), (Nat.le_of_ble_eq_true rfl)⟩ (Nat.le_of_ble_eq_true rfl) ⟨rfl, rfl, (Nat.le_of_ble_eq_true rfl), (Nat.le_of_ble_eq_true rfl)⟩ dX3_takeNumber_44 ?_
      rintro _ _ ⟨rfl, rfl⟩
      show jx_J X 0 0 47 [(0, .ref l0), (1, .int l1)] [.int x48] h49
      by_cases c50 : ¬ (x48 = 0 ∨ x48 = 1)
      · exact nos (ifn c50 e)
      replace c50 := Classical.not_not.mp c50
      replace e := ifp c50 e
      cases e
      exact j_iret C hq (jx_bool c50) dX3_takeNumber_47 ⟨Nat.le_of_ble_eq_true rfl, Nat.le_of_ble_eq_true rfl⟩ ⟨rfl, rfl⟩
  · replace e := ifn c58 e
    refine j_aload_n C dX3_takeNumber_11 rfl rfl ?_
    refine j_iconst (v := (1 : Int32)) C dX3_takeNumber_12 (by decide) ?_
    refine j_aload_n C dX3_takeNumber_13 rfl rfl ?_
    replace e := ob e
    obtain ⟨x52, ex52, e⟩ := e
    refine j_getr (ci := 3) (RC := RX3) (T := TX3) (N := 11) 0 C rfl klX3 (Nat.le_of_ble_eq_true rfl) kX3_26 rfl dX3_takeNumber_14 ex52 ?_
    replace e := ob e
    obtain ⟨x53, ex53, e⟩ := e
    refine j_geti (ci := 7) (RC := RX7) (T := TX7) (N := 6) 3 C rfl klX7 (Nat.le_of_ble_eq_true rfl) kX3_109 rfl dX3_takeNumber_17 ex53 ?_
    replace e := ob e
    obtain ⟨_, eo54, e⟩ := e
    replace e := ob2 e
    obtain ⟨x55, h56, ex55, e⟩ := e
    refine j_callV (ci := 3) (RC := RX3) (T := TX3) (N := 11) (As := [.int (1 : Int32), .int x53]) (b := l0) (na := 2) (st := []) (k1 := 0) (n1 := 0) C hr (sX3_fail ex55) rfl eo54 kX3_112 kim_X3_fail ksel_X3_fail kini_X3 kc_X3_fail (by decide) rfl ⟨(Nat.le_of_ble_eq_true rfl), (Nat.le_of_ble_eq_true rfl)⟩ (Nat.le_of_ble_eq_true rfl) ⟨rfl, rfl, (Nat.le_of_ble_eq_true rfl), (Nat.le_of_ble_eq_true rfl)⟩ dX3_takeNumber_20 ?_
    rintro _ _ ⟨rfl, rfl⟩
    show jx_J X 0 0 23 [(0, .ref l0), (1, .int l1)] [.int x55] h56
    by_cases c57 : ¬ (x55 = 0 ∨ x55 = 1)
    · exact nos (ifn c57 e)
    replace c57 := Classical.not_not.mp c57
    replace e := ifp c57 e
    cases e
    exact j_iret C hq (jx_bool c57) dX3_takeNumber_23 ⟨Nat.le_of_ble_eq_true rfl, Nat.le_of_ble_eq_true rfl⟩ ⟨rfl, rfl⟩
/-! BorderBasis$State.borderNumberOf(II)I -/
noncomputable def BX5_borderNumberOf_32 (l0 : Nat) (l1 : Int32) (l2 : Int32) (l3 : Int32) (h : jx_H) : Option ((Int32) ⊕ (Int32)) :=
some (.inl (l3 + (1 : Int32)))
noncomputable def LX5_borderNumberOf_2 (l0 : Nat) (l1 : Int32) (l2 : Int32) (l3 : Int32) (h : jx_H) : Option ((Int32) ⊕ (Int32)) :=
(hgi h l0 5 5).bind fun x1 =>
if x1 ≤ l3 then
 exL (some (-1 : Int32))
else
 (hgr h l0 5 6).bind fun x2 =>
 (hal h .int x2 l3).bind fun x3 =>
 if x3 = l1 then
  (hgr h l0 5 7).bind fun x4 =>
  (hal h .int x4 l3).bind fun x5 =>
  if x5 = l2 then
   exL (some l3)
  else
   BX5_borderNumberOf_32 l0 l1 l2 l3 h
 else
  BX5_borderNumberOf_32 l0 l1 l2 l3 h
noncomputable def FX5_borderNumberOf (l0 : Nat) (l1 : Int32) (l2 : Int32) (h : jx_H) : Option (Int32) :=
itr (fun s : Int32 => LX5_borderNumberOf_2 l0 l1 l2 s h) (0 : Int32)
def rmX5_borderNumberOf : Room := { frames := 0, cells := 0, slots := 0, locals := 0 }
set_option maxRecDepth 20000 in
set_option maxHeartbeats 4000000 in
theorem sX5_borderNumberOf {l0 : Nat} {l1 : Int32} {l2 : Int32} {h : jx_H} {r : Int32}  (e : FX5_borderNumberOf l0 l1 l2 h = some r) : jx_Ct yX5_borderNumberOf cX5_borderNumberOf 4 (some .int) rmX5_borderNumberOf [.ref l0, .int l1, .int l2] h (fun r' h' => some (.int r) = r' ∧ h = h') := by
  refine jx_Ct.of (own := RX5) (by decide) rfl (Nat.le_of_ble_eq_true rfl) (fun X C hq hr hL hN => ?_)
  refine jx_sub (lv' := [(0, .ref l0), (1, .int l1), (2, .int l2)]) [0, 1, 2] rfl ?_
  unfold FX5_borderNumberOf at e
  refine j_iconst (v := (0 : Int32)) C dX5_borderNumberOf_0 (by decide) ?_
  refine j_istore_n (lv1 := [(3, .int (0 : Int32)), (0, .ref l0), (1, .int l1), (2, .int l2)]) C hL dX5_borderNumberOf_1 rfl (Nat.le_of_ble_eq_true rfl) rfl ?_
  refine jx_sub (lv' := [(0, .ref l0), (1, .int l1), (2, .int l2), (3, .int (0 : Int32))]) [1, 2, 3, 0] rfl ?_
  refine itr_ind (s0 := (0 : Int32)) (fun s : Int32 => jx_J X 0 0 2 [(0, .ref l0), (1, .int l1), (2, .int l2), (3, .int s)] [] h) e ?_
  clear e
  intro s kI3 kT3 e0
  obtain ⟨z9, es⟩ : ∃ z, z = s := ⟨_, rfl⟩
  subst es
  obtain ⟨u3, e0_3⟩ := e0
  have e : LX5_borderNumberOf_2 l0 l1 l2 z9 h = some u3 := e0_3
  have b32 : ∀ (y10 : Int32), BX5_borderNumberOf_32 l0 l1 l2 y10 h = some u3 → jx_J X 0 0 32 [(0, .ref l0), (1, .int l1), (2, .int l2), (3, .int y10)] [] h := by
    intro y10 e
    unfold BX5_borderNumberOf_32 at e
    refine j_iinc (v := (y10 + (1 : Int32))) (lv1 := [(3, .int (y10 + (1 : Int32))), (0, .ref l0), (1, .int l1), (2, .int l2)]) C hL dX5_borderNumberOf_32 rfl rfl (Nat.le_of_ble_eq_true rfl) rfl ?_
    refine j_goto (tgt := 2) C dX5_borderNumberOf_35 (by decide) ?_
    obtain rfl := Option.some.inj e
    refine jx_sub (lv' := [(0, .ref l0), (1, .int l1), (2, .int l2), (3, .int (y10 + (1 : Int32)))]) [1, 2, 3, 0] rfl ?_
    exact kI3 (y10 + (1 : Int32)) e0_3
  unfold LX5_borderNumberOf_2 at e
  refine j_iload_n C dX5_borderNumberOf_2 rfl rfl ?_
  refine j_aload_n C dX5_borderNumberOf_3 rfl rfl ?_
  replace e := ob e
  obtain ⟨x11, ex11, e⟩ := e
  refine j_geti (ci := 5) (RC := RX5) (T := TX5) (N := 12) 5 C rfl klX5 (Nat.le_of_ble_eq_true rfl) kX5_58 rfl dX5_borderNumberOf_4 ex11 ?_
  refine j_icmp_ge (tgt := 38) C dX5_borderNumberOf_7 (by decide) (fun c18 => ?_) (fun c18 => ?_)
  · replace e := ifp c18 e
    obtain ⟨t_4, e_4, eu_4⟩ := exL_spec e
    obtain rfl := kT3 t_4 (e0_3.trans (congrArg some eu_4))
    replace e := e_4
    refine j_iconst (v := (-1 : Int32)) C dX5_borderNumberOf_38 (by decide) ?_
    cases e
    exact j_iret C hq rfl dX5_borderNumberOf_39 ⟨Nat.le_of_ble_eq_true rfl, Nat.le_of_ble_eq_true rfl⟩ ⟨rfl, rfl⟩
  · replace e := ifn c18 e
    refine j_aload_n C dX5_borderNumberOf_10 rfl rfl ?_
    replace e := ob e
    obtain ⟨x12, ex12, e⟩ := e
    refine j_getr (ci := 5) (RC := RX5) (T := TX5) (N := 12) 6 C rfl klX5 (Nat.le_of_ble_eq_true rfl) kX5_21 rfl dX5_borderNumberOf_11 ex12 ?_
    refine j_iload_n C dX5_borderNumberOf_14 rfl rfl ?_
    replace e := ob e
    obtain ⟨x13, ex13, e⟩ := e
    refine j_iald C dX5_borderNumberOf_15 ex13 ?_
    refine j_iload_n C dX5_borderNumberOf_16 rfl rfl ?_
    refine j_icmp_ne (tgt := 32) C dX5_borderNumberOf_17 (by decide) (fun c17 => ?_) (fun c17 => ?_)
    · replace e := ifn c17 e
      exact b32 z9 e
    · replace e := ifp c17 e
      refine j_aload_n C dX5_borderNumberOf_20 rfl rfl ?_
      replace e := ob e
      obtain ⟨x14, ex14, e⟩ := e
      refine j_getr (ci := 5) (RC := RX5) (T := TX5) (N := 12) 7 C rfl klX5 (Nat.le_of_ble_eq_true rfl) kX5_24 rfl dX5_borderNumberOf_21 ex14 ?_
      refine j_iload_n C dX5_borderNumberOf_24 rfl rfl ?_
      replace e := ob e
      obtain ⟨x15, ex15, e⟩ := e
      refine j_iald C dX5_borderNumberOf_25 ex15 ?_
      refine j_iload_n C dX5_borderNumberOf_26 rfl rfl ?_
      refine j_icmp_ne (tgt := 32) C dX5_borderNumberOf_27 (by decide) (fun c16 => ?_) (fun c16 => ?_)
      · replace e := ifn c16 e
        exact b32 z9 e
      · replace e := ifp c16 e
        obtain ⟨t_5, e_5, eu_5⟩ := exL_spec e
        obtain rfl := kT3 t_5 (e0_3.trans (congrArg some eu_5))
        replace e := e_5
        refine j_iload_n C dX5_borderNumberOf_30 rfl rfl ?_
        cases e
        exact j_iret C hq rfl dX5_borderNumberOf_31 ⟨Nat.le_of_ble_eq_true rfl, Nat.le_of_ble_eq_true rfl⟩ ⟨rfl, rfl⟩
/-! BorderBasis$State.coefficient(II)I -/
noncomputable def FX5_coefficient (l0 : Nat) (l1 : Int32) (l2 : Int32) (h : jx_H) : Option (Int32) :=
(isO h l0 5).bind fun _ =>
(FX5_hasCoefficient l0 l1 l2 h).bind fun x2 =>
if x2 = 0 then
 some (0 : Int32)
else
 (hgr h l0 5 8).bind fun x3 =>
 (hal h .int x3 ((l1 * (12 : Int32)) + l2)).bind fun x4 =>
 some x4
def rmX5_coefficient : Room := { frames := 1, cells := 0, slots := 0, locals := 22 }
set_option maxRecDepth 20000 in
set_option maxHeartbeats 4000000 in
theorem sX5_coefficient {l0 : Nat} {l1 : Int32} {l2 : Int32} {h : jx_H} {r : Int32}  (e : FX5_coefficient l0 l1 l2 h = some r) : jx_Ct yX5_coefficient cX5_coefficient 3 (some .int) rmX5_coefficient [.ref l0, .int l1, .int l2] h (fun r' h' => some (.int r) = r' ∧ h = h') := by
  refine jx_Ct.of (own := RX5) (by decide) rfl (Nat.le_of_ble_eq_true rfl) (fun X C hq hr hL hN => ?_)
  refine jx_sub (lv' := [(0, .ref l0), (1, .int l1), (2, .int l2)]) [0, 1, 2] rfl ?_
  unfold FX5_coefficient at e
  refine j_aload_n C dX5_coefficient_0 rfl rfl ?_
  refine j_iload_n C dX5_coefficient_1 rfl rfl ?_
  refine j_iload_n C dX5_coefficient_2 rfl rfl ?_
  replace e := ob e
  obtain ⟨_, eo6, e⟩ := e
  replace e := ob e
  obtain ⟨x7, ex7, e⟩ := e
  refine j_callV (ci := 5) (RC := RX5) (T := TX5) (N := 12) (As := [.int l1, .int l2]) (b := l0) (na := 2) (st := []) (k1 := 0) (n1 := 0) C hr (sX5_hasCoefficient ex7) rfl eo6 kX5_101 kim_X5_hasCoefficient ksel_X5_hasCoefficient kini_X5 kc_X5_hasCoefficient (by decide) rfl ⟨(Nat.le_of_ble_eq_true rfl), (Nat.le_of_ble_eq_true rfl)⟩ (Nat.le_of_ble_eq_true rfl) ⟨rfl, rfl, (Nat.le_of_ble_eq_true rfl), (Nat.le_of_ble_eq_true rfl)⟩ dX5_coefficient_3 ?_
  rintro _ _ ⟨rfl, rfl⟩
  show jx_J X 0 0 6 [(0, .ref l0), (1, .int l1), (2, .int l2)] [.int x7] h
  refine j_if_eq (tgt := 23) C dX5_coefficient_6 (by decide) (fun c10 => ?_) (fun c10 => ?_)
  · replace e := ifp c10 e
    refine j_iconst (v := (0 : Int32)) C dX5_coefficient_23 (by decide) ?_
    cases e
    exact j_iret C hq rfl dX5_coefficient_24 ⟨Nat.le_of_ble_eq_true rfl, Nat.le_of_ble_eq_true rfl⟩ ⟨rfl, rfl⟩
  · replace e := ifn c10 e
    refine j_aload_n C dX5_coefficient_9 rfl rfl ?_
    replace e := ob e
    obtain ⟨x8, ex8, e⟩ := e
    refine j_getr (ci := 5) (RC := RX5) (T := TX5) (N := 12) 8 C rfl klX5 (Nat.le_of_ble_eq_true rfl) kX5_27 rfl dX5_coefficient_10 ex8 ?_
    refine j_iload_n C dX5_coefficient_13 rfl rfl ?_
    refine j_bipush (v := (12 : Int32)) C dX5_coefficient_14 (by decide) ?_
    refine j_imul C dX5_coefficient_16 ?_
    refine j_iload_n C dX5_coefficient_17 rfl rfl ?_
    refine j_iadd C dX5_coefficient_18 ?_
    replace e := ob e
    obtain ⟨x9, ex9, e⟩ := e
    refine j_iald C dX5_coefficient_19 ex9 ?_
    refine j_goto (tgt := 24) C dX5_coefficient_20 (by decide) ?_
    cases e
    exact j_iret C hq rfl dX5_coefficient_24 ⟨Nat.le_of_ble_eq_true rfl, Nat.le_of_ble_eq_true rfl⟩ ⟨rfl, rfl⟩
/-! BorderBasis$State.numberOf(II)I -/
noncomputable def BX5_numberOf_32 (l0 : Nat) (l1 : Int32) (l2 : Int32) (l3 : Int32) (h : jx_H) : Option ((Int32) ⊕ (Int32)) :=
some (.inl (l3 + (1 : Int32)))
noncomputable def LX5_numberOf_2 (l0 : Nat) (l1 : Int32) (l2 : Int32) (l3 : Int32) (h : jx_H) : Option ((Int32) ⊕ (Int32)) :=
(hgi h l0 5 2).bind fun x1 =>
if x1 ≤ l3 then
 exL (some (-1 : Int32))
else
 (hgr h l0 5 3).bind fun x2 =>
 (hal h .int x2 l3).bind fun x3 =>
 if x3 = l1 then
  (hgr h l0 5 4).bind fun x4 =>
  (hal h .int x4 l3).bind fun x5 =>
  if x5 = l2 then
   exL (some l3)
  else
   BX5_numberOf_32 l0 l1 l2 l3 h
 else
  BX5_numberOf_32 l0 l1 l2 l3 h
noncomputable def FX5_numberOf (l0 : Nat) (l1 : Int32) (l2 : Int32) (h : jx_H) : Option (Int32) :=
itr (fun s : Int32 => LX5_numberOf_2 l0 l1 l2 s h) (0 : Int32)
def rmX5_numberOf : Room := { frames := 0, cells := 0, slots := 0, locals := 0 }
set_option maxRecDepth 20000 in
set_option maxHeartbeats 4000000 in
theorem sX5_numberOf {l0 : Nat} {l1 : Int32} {l2 : Int32} {h : jx_H} {r : Int32}  (e : FX5_numberOf l0 l1 l2 h = some r) : jx_Ct yX5_numberOf cX5_numberOf 4 (some .int) rmX5_numberOf [.ref l0, .int l1, .int l2] h (fun r' h' => some (.int r) = r' ∧ h = h') := by
  refine jx_Ct.of (own := RX5) (by decide) rfl (Nat.le_of_ble_eq_true rfl) (fun X C hq hr hL hN => ?_)
  refine jx_sub (lv' := [(0, .ref l0), (1, .int l1), (2, .int l2)]) [0, 1, 2] rfl ?_
  unfold FX5_numberOf at e
  refine j_iconst (v := (0 : Int32)) C dX5_numberOf_0 (by decide) ?_
  refine j_istore_n (lv1 := [(3, .int (0 : Int32)), (0, .ref l0), (1, .int l1), (2, .int l2)]) C hL dX5_numberOf_1 rfl (Nat.le_of_ble_eq_true rfl) rfl ?_
  refine jx_sub (lv' := [(0, .ref l0), (1, .int l1), (2, .int l2), (3, .int (0 : Int32))]) [1, 2, 3, 0] rfl ?_
  refine itr_ind (s0 := (0 : Int32)) (fun s : Int32 => jx_J X 0 0 2 [(0, .ref l0), (1, .int l1), (2, .int l2), (3, .int s)] [] h) e ?_
  clear e
  intro s kI3 kT3 e0
  obtain ⟨z9, es⟩ : ∃ z, z = s := ⟨_, rfl⟩
  subst es
  obtain ⟨u3, e0_3⟩ := e0
  have e : LX5_numberOf_2 l0 l1 l2 z9 h = some u3 := e0_3
  have b32 : ∀ (y10 : Int32), BX5_numberOf_32 l0 l1 l2 y10 h = some u3 → jx_J X 0 0 32 [(0, .ref l0), (1, .int l1), (2, .int l2), (3, .int y10)] [] h := by
    intro y10 e
    unfold BX5_numberOf_32 at e
    refine j_iinc (v := (y10 + (1 : Int32))) (lv1 := [(3, .int (y10 + (1 : Int32))), (0, .ref l0), (1, .int l1), (2, .int l2)]) C hL dX5_numberOf_32 rfl rfl (Nat.le_of_ble_eq_true rfl) rfl ?_
    refine j_goto (tgt := 2) C dX5_numberOf_35 (by decide) ?_
    obtain rfl := Option.some.inj e
    refine jx_sub (lv' := [(0, .ref l0), (1, .int l1), (2, .int l2), (3, .int (y10 + (1 : Int32)))]) [1, 2, 3, 0] rfl ?_
    exact kI3 (y10 + (1 : Int32)) e0_3
  unfold LX5_numberOf_2 at e
  refine j_iload_n C dX5_numberOf_2 rfl rfl ?_
  refine j_aload_n C dX5_numberOf_3 rfl rfl ?_
  replace e := ob e
  obtain ⟨x11, ex11, e⟩ := e
  refine j_geti (ci := 5) (RC := RX5) (T := TX5) (N := 12) 2 C rfl klX5 (Nat.le_of_ble_eq_true rfl) kX5_55 rfl dX5_numberOf_4 ex11 ?_
  refine j_icmp_ge (tgt := 38) C dX5_numberOf_7 (by decide) (fun c18 => ?_) (fun c18 => ?_)
  · replace e := ifp c18 e
    obtain ⟨t_4, e_4, eu_4⟩ := exL_spec e
    obtain rfl := kT3 t_4 (e0_3.trans (congrArg some eu_4))
    replace e := e_4
    refine j_iconst (v := (-1 : Int32)) C dX5_numberOf_38 (by decide) ?_
    cases e
    exact j_iret C hq rfl dX5_numberOf_39 ⟨Nat.le_of_ble_eq_true rfl, Nat.le_of_ble_eq_true rfl⟩ ⟨rfl, rfl⟩
  · replace e := ifn c18 e
    refine j_aload_n C dX5_numberOf_10 rfl rfl ?_
    replace e := ob e
    obtain ⟨x12, ex12, e⟩ := e
    refine j_getr (ci := 5) (RC := RX5) (T := TX5) (N := 12) 3 C rfl klX5 (Nat.le_of_ble_eq_true rfl) kX5_15 rfl dX5_numberOf_11 ex12 ?_
    refine j_iload_n C dX5_numberOf_14 rfl rfl ?_
    replace e := ob e
    obtain ⟨x13, ex13, e⟩ := e
    refine j_iald C dX5_numberOf_15 ex13 ?_
    refine j_iload_n C dX5_numberOf_16 rfl rfl ?_
    refine j_icmp_ne (tgt := 32) C dX5_numberOf_17 (by decide) (fun c17 => ?_) (fun c17 => ?_)
    · replace e := ifn c17 e
      exact b32 z9 e
    · replace e := ifp c17 e
      refine j_aload_n C dX5_numberOf_20 rfl rfl ?_
      replace e := ob e
      obtain ⟨x14, ex14, e⟩ := e
      refine j_getr (ci := 5) (RC := RX5) (T := TX5) (N := 12) 4 C rfl klX5 (Nat.le_of_ble_eq_true rfl) kX5_18 rfl dX5_numberOf_21 ex14 ?_
      refine j_iload_n C dX5_numberOf_24 rfl rfl ?_
      replace e := ob e
      obtain ⟨x15, ex15, e⟩ := e
      refine j_iald C dX5_numberOf_25 ex15 ?_
      refine j_iload_n C dX5_numberOf_26 rfl rfl ?_
      refine j_icmp_ne (tgt := 32) C dX5_numberOf_27 (by decide) (fun c16 => ?_) (fun c16 => ?_)
      · replace e := ifn c16 e
        exact b32 z9 e
      · replace e := ifp c16 e
        obtain ⟨t_5, e_5, eu_5⟩ := exL_spec e
        obtain rfl := kT3 t_5 (e0_3.trans (congrArg some eu_5))
        replace e := e_5
        refine j_iload_n C dX5_numberOf_30 rfl rfl ?_
        cases e
        exact j_iret C hq rfl dX5_numberOf_31 ⟨Nat.le_of_ble_eq_true rfl, Nat.le_of_ble_eq_true rfl⟩ ⟨rfl, rfl⟩
/-! BorderBasis$State.inheritRules(LBorderBasis$State;)V -/
noncomputable def BX5_inheritRules_97 (l0 : Nat) (l1 : Nat) (l2 : Int32) (h : jx_H) : Option ((Int32 × jx_H) ⊕ (jx_H)) :=
some (.inl ((l2 + (1 : Int32)), h))
noncomputable def LX5_inheritRules_38 (l0 : Nat) (l1 : Nat) (l2 : Int32) (l3 : Int32) (l4 : Int32) (h : jx_H) : Option ((Int32 × jx_H) ⊕ ((Int32 × jx_H) ⊕ (jx_H))) :=
(hgi h l0 5 2).bind fun x10 =>
if x10 ≤ l4 then
 exL (BX5_inheritRules_97 l0 l1 l2 h)
else
 if l3 = (-1 : Int32) then
  exL (BX5_inheritRules_97 l0 l1 l2 h)
 else
  (hgr h l0 5 3).bind fun x11 =>
  (hal h .int x11 l4).bind fun x12 =>
  (hgr h l0 5 4).bind fun x13 =>
  (hal h .int x13 l4).bind fun x14 =>
  (isO h l1 5).bind fun _ =>
  (FX5_numberOf l1 x12 x14 h).bind fun x16 =>
  (hgr h l0 5 8).bind fun x17 =>
  (isO h l1 5).bind fun _ =>
  (FX5_coefficient l1 l3 x16 h).bind fun x19 =>
  (has h .int x17 ((l2 * (12 : Int32)) + l4) x19).bind fun h20 =>
  some (.inl ((l4 + (1 : Int32)), h20))
noncomputable def LX5_inheritRules_10 (l0 : Nat) (l1 : Nat) (l2 : Int32) (h : jx_H) : Option ((Int32 × jx_H) ⊕ (jx_H)) :=
(hgi h l0 5 5).bind fun x3 =>
if x3 ≤ l2 then
 exL (some h)
else
 (hgr h l0 5 6).bind fun x4 =>
 (hal h .int x4 l2).bind fun x5 =>
 (hgr h l0 5 7).bind fun x6 =>
 (hal h .int x6 l2).bind fun x7 =>
 (isO h l1 5).bind fun _ =>
 (FX5_borderNumberOf l1 x5 x7 h).bind fun x9 =>
 itr (fun s : Int32 × jx_H => LX5_inheritRules_38 l0 l1 l2 x9 s.1 s.2) ((0 : Int32), h)
noncomputable def FX5_inheritRules (l0 : Nat) (l1 : Nat) (h : jx_H) : Option (jx_H) :=
(hgr h l0 5 8).bind fun x1 =>
(FJ7_fill_53178 x1 (0 : Int32) h).bind fun h2 =>
itr (fun s : Int32 × jx_H => LX5_inheritRules_10 l0 l1 s.1 s.2) ((0 : Int32), h2)
def rmX5_inheritRules : Room := { frames := 2, cells := 0, slots := 0, locals := 44 }
set_option maxRecDepth 20000 in
set_option maxHeartbeats 4000000 in
theorem sX5_inheritRules {l0 : Nat} {l1 : Nat} {h : jx_H} {h9 : jx_H} (e : FX5_inheritRules l0 l1 h = some h9) : jx_Ct yX5_inheritRules cX5_inheritRules 6 none rmX5_inheritRules [.ref l0, .ref l1] h (fun r' h' => none = r' ∧ h9 = h') := by
  refine jx_Ct.of (own := RX5) (by decide) rfl (Nat.le_of_ble_eq_true rfl) (fun X C hq hr hL hN => ?_)
  refine jx_sub (lv' := [(0, .ref l0), (1, .ref l1)]) [0, 1] rfl ?_
  unfold FX5_inheritRules at e
  refine j_aload_n C dX5_inheritRules_0 rfl rfl ?_
  replace e := ob e
  obtain ⟨x24, ex24, e⟩ := e
  refine j_getr (ci := 5) (RC := RX5) (T := TX5) (N := 12) 8 C rfl klX5 (Nat.le_of_ble_eq_true rfl) kX5_27 rfl dX5_inheritRules_1 ex24 ?_
  refine j_iconst (v := (0 : Int32)) C dX5_inheritRules_4 (by decide) ?_
  replace e := ob e
  obtain ⟨h25, eh25, e⟩ := e
  refine j_callS (As := [.ref x24, .int (0 : Int32)]) (na := 2) (st := []) (k1 := 0) (n1 := 0) C hr (sJ7_fill_53178 eh25) kX5_43 kst_J7_fill_53178 kini_J7 kc_J7_fill_53178 (by decide) rfl ⟨(Nat.le_of_ble_eq_true rfl), (Nat.le_of_ble_eq_true rfl)⟩ (Nat.le_of_ble_eq_true rfl) ⟨rfl, rfl, (Nat.le_of_ble_eq_true rfl), (Nat.le_of_ble_eq_true rfl)⟩ dX5_inheritRules_5 ?_
  rintro _ _ ⟨rfl, rfl⟩
  show jx_J X 0 0 8 [(0, .ref l0), (1, .ref l1)] [] h25
  refine j_iconst (v := (0 : Int32)) C dX5_inheritRules_8 (by decide) ?_
  refine j_istore_n (lv1 := [(2, .int (0 : Int32)), (0, .ref l0), (1, .ref l1)]) C hL dX5_inheritRules_9 rfl (Nat.le_of_ble_eq_true rfl) rfl ?_
  refine jx_sub (lv' := [(0, .ref l0), (1, .ref l1), (2, .int (0 : Int32))]) [1, 2, 0] rfl ?_
  refine itr_ind (s0 := ((0 : Int32), h25)) (fun s : Int32 × jx_H => jx_J X 0 0 10 [(0, .ref l0), (1, .ref l1), (2, .int s.1)] [] s.2) e ?_
  clear e
  intro s kI4 kT4 e0
  obtain ⟨z26, h27⟩ := s
  obtain ⟨u4, e0_4⟩ := e0
  have e : LX5_inheritRules_10 l0 l1 z26 h27 = some u4 := e0_4
  have b97 : ∀ (y28 : Int32) (h29 : jx_H), BX5_inheritRules_97 l0 l1 y28 h29 = some u4 → jx_J X 0 0 97 [(0, .ref l0), (1, .ref l1), (2, .int y28)] [] h29 := by
    intro y28 h29 e
    unfold BX5_inheritRules_97 at e
    refine j_iinc (v := (y28 + (1 : Int32))) (lv1 := [(2, .int (y28 + (1 : Int32))), (0, .ref l0), (1, .ref l1)]) C hL dX5_inheritRules_97 rfl rfl (Nat.le_of_ble_eq_true rfl) rfl ?_
    refine j_goto (tgt := 10) C dX5_inheritRules_100 (by decide) ?_
    obtain rfl := Option.some.inj e
    refine jx_sub (lv' := [(0, .ref l0), (1, .ref l1), (2, .int (y28 + (1 : Int32)))]) [1, 2, 0] rfl ?_
    exact kI4 ((y28 + (1 : Int32)), h29) e0_4
  unfold LX5_inheritRules_10 at e
  refine j_iload_n C dX5_inheritRules_10 rfl rfl ?_
  refine j_aload_n C dX5_inheritRules_11 rfl rfl ?_
  replace e := ob e
  obtain ⟨x30, ex30, e⟩ := e
  refine j_geti (ci := 5) (RC := RX5) (T := TX5) (N := 12) 5 C rfl klX5 (Nat.le_of_ble_eq_true rfl) kX5_58 rfl dX5_inheritRules_12 ex30 ?_
  refine j_icmp_ge (tgt := 103) C dX5_inheritRules_15 (by decide) (fun c52 => ?_) (fun c52 => ?_)
  · replace e := ifp c52 e
    obtain ⟨t_5, e_5, eu_5⟩ := exL_spec e
    obtain rfl := kT4 t_5 (e0_4.trans (congrArg some eu_5))
    replace e := e_5
    cases e
    exact j_vret C hq dX5_inheritRules_103 ⟨Nat.le_of_ble_eq_true rfl, Nat.le_of_ble_eq_true rfl⟩ ⟨rfl, rfl⟩
  · replace e := ifn c52 e
    refine j_aload_n C dX5_inheritRules_18 rfl rfl ?_
    refine j_aload_n C dX5_inheritRules_19 rfl rfl ?_
    replace e := ob e
    obtain ⟨x31, ex31, e⟩ := e
    refine j_getr (ci := 5) (RC := RX5) (T := TX5) (N := 12) 6 C rfl klX5 (Nat.le_of_ble_eq_true rfl) kX5_21 rfl dX5_inheritRules_20 ex31 ?_
    refine j_iload_n C dX5_inheritRules_23 rfl rfl ?_
    replace e := ob e
    obtain ⟨x32, ex32, e⟩ := e
    refine j_iald C dX5_inheritRules_24 ex32 ?_
    refine j_aload_n C dX5_inheritRules_25 rfl rfl ?_
    replace e := ob e
    obtain ⟨x33, ex33, e⟩ := e
    refine j_getr (ci := 5) (RC := RX5) (T := TX5) (N := 12) 7 C rfl klX5 (Nat.le_of_ble_eq_true rfl) kX5_24 rfl dX5_inheritRules_26 ex33 ?_
    refine j_iload_n C dX5_inheritRules_29 rfl rfl ?_
    replace e := ob e
    obtain ⟨x34, ex34, e⟩ := e
    refine j_iald C dX5_inheritRules_30 ex34 ?_
    replace e := ob e
    obtain ⟨_, eo35, e⟩ := e
    replace e := ob e
    obtain ⟨x36, ex36, e⟩ := e
    refine j_callV (ci := 5) (RC := RX5) (T := TX5) (N := 12) (As := [.int x32, .int x34]) (b := l1) (na := 2) (st := []) (k1 := 0) (n1 := 0) C hr (sX5_borderNumberOf ex36) rfl eo35 kX5_92 kim_X5_borderNumberOf ksel_X5_borderNumberOf kini_X5 kc_X5_borderNumberOf (by decide) rfl ⟨(Nat.le_of_ble_eq_true rfl), (Nat.le_of_ble_eq_true rfl)⟩ (Nat.le_of_ble_eq_true rfl) ⟨rfl, rfl, (Nat.le_of_ble_eq_true rfl), (Nat.le_of_ble_eq_true rfl)⟩ dX5_inheritRules_31 ?_
    rintro _ _ ⟨rfl, rfl⟩
    show jx_J X 0 0 34 [(0, .ref l0), (1, .ref l1), (2, .int z26)] [.int x36] h27
    refine j_istore_n (lv1 := [(3, .int x36), (0, .ref l0), (1, .ref l1), (2, .int z26)]) C hL dX5_inheritRules_34 rfl (Nat.le_of_ble_eq_true rfl) rfl ?_
    refine j_iconst (v := (0 : Int32)) C dX5_inheritRules_35 (by decide) ?_
    refine j_istore (lv1 := [(4, .int (0 : Int32)), (3, .int x36), (0, .ref l0), (1, .ref l1), (2, .int z26)]) C hL dX5_inheritRules_36 (Nat.le_of_ble_eq_true rfl) rfl ?_
    refine jx_sub (lv' := [(0, .ref l0), (1, .ref l1), (2, .int z26), (3, .int x36), (4, .int (0 : Int32))]) [2, 3, 4, 1, 0] rfl ?_
    refine itr_ind (s0 := ((0 : Int32), h27)) (fun s : Int32 × jx_H => jx_J X 0 0 38 [(0, .ref l0), (1, .ref l1), (2, .int z26), (3, .int x36), (4, .int s.1)] [] s.2) e ?_
    clear e
    intro s kI6 kT6 e0
    obtain ⟨z37, h38⟩ := s
    obtain ⟨u6, e0_6⟩ := e0
    have e : LX5_inheritRules_38 l0 l1 z26 x36 z37 h38 = some u6 := e0_6
    unfold LX5_inheritRules_38 at e
    refine j_iload C dX5_inheritRules_38 rfl ?_
    refine j_aload_n C dX5_inheritRules_40 rfl rfl ?_
    replace e := ob e
    obtain ⟨x39, ex39, e⟩ := e
    refine j_geti (ci := 5) (RC := RX5) (T := TX5) (N := 12) 2 C rfl klX5 (Nat.le_of_ble_eq_true rfl) kX5_55 rfl dX5_inheritRules_41 ex39 ?_
    refine j_icmp_ge (tgt := 97) C dX5_inheritRules_44 (by decide) (fun c51 => ?_) (fun c51 => ?_)
    · replace e := ifp c51 e
      obtain ⟨t_7, e_7, eu_7⟩ := exL_spec e
      obtain rfl := kT6 t_7 (e0_6.trans (congrArg some eu_7))
      replace e := e_7
      refine jx_sub (lv' := [(0, .ref l0), (1, .ref l1), (2, .int z26)]) [0, 1, 2] rfl ?_
      exact b97 z26 h38 e
    · replace e := ifn c51 e
      refine j_iload_n C dX5_inheritRules_47 rfl rfl ?_
      refine j_iconst (v := (-1 : Int32)) C dX5_inheritRules_48 (by decide) ?_
      refine j_icmp_eq (tgt := 97) C dX5_inheritRules_49 (by decide) (fun c50 => ?_) (fun c50 => ?_)
      · replace e := ifp c50 e
        obtain ⟨t_8, e_8, eu_8⟩ := exL_spec e
        obtain rfl := kT6 t_8 (e0_6.trans (congrArg some eu_8))
        replace e := e_8
        refine jx_sub (lv' := [(0, .ref l0), (1, .ref l1), (2, .int z26)]) [0, 1, 2] rfl ?_
        exact b97 z26 h38 e
      · replace e := ifn c50 e
        refine j_aload_n C dX5_inheritRules_52 rfl rfl ?_
        refine j_aload_n C dX5_inheritRules_53 rfl rfl ?_
        replace e := ob e
        obtain ⟨x40, ex40, e⟩ := e
        refine j_getr (ci := 5) (RC := RX5) (T := TX5) (N := 12) 3 C rfl klX5 (Nat.le_of_ble_eq_true rfl) kX5_15 rfl dX5_inheritRules_54 ex40 ?_
        refine j_iload C dX5_inheritRules_57 rfl ?_
        replace e := ob e
        obtain ⟨x41, ex41, e⟩ := e
        refine j_iald C dX5_inheritRules_59 ex41 ?_
        refine j_aload_n C dX5_inheritRules_60 rfl rfl ?_
        replace e := ob e
        obtain ⟨x42, ex42, e⟩ := e
        refine j_getr (ci := 5) (RC := RX5) (T := TX5) (N := 12) 4 C rfl klX5 (Nat.le_of_ble_eq_true rfl) kX5_18 rfl dX5_inheritRules_61 ex42 ?_
        refine j_iload C dX5_inheritRules_64 rfl ?_
        replace e := ob e
        obtain ⟨x43, ex43, e⟩ := e
        refine j_iald C dX5_inheritRules_66 ex43 ?_
        replace e := ob e
        obtain ⟨_, eo44, e⟩ := e
        replace e := ob e
        obtain ⟨x45, ex45, e⟩ := e
        refine j_callV (ci := 5) (RC := RX5) (T := TX5) (N := 12) (As := [.int x41, .int x43]) (b := l1) (na := 2) (st := []) (k1 := 0) (n1 := 0) C hr (sX5_numberOf ex45) rfl eo44 kX5_95 kim_X5_numberOf ksel_X5_numberOf kini_X5 kc_X5_numberOf (by decide) rfl ⟨(Nat.le_of_ble_eq_true rfl), (Nat.le_of_ble_eq_true rfl)⟩ (Nat.le_of_ble_eq_true rfl) ⟨rfl, rfl, (Nat.le_of_ble_eq_true rfl), (Nat.le_of_ble_eq_true rfl)⟩ dX5_inheritRules_67 ?_
        rintro _ _ ⟨rfl, rfl⟩
        show jx_J X 0 0 70 [(0, .ref l0), (1, .ref l1), (2, .int z26), (3, .int x36), (4, .int z37)] [.int x45] h38
        refine j_istore (lv1 := [(5, .int x45), (0, .ref l0), (1, .ref l1), (2, .int z26), (3, .int x36), (4, .int z37)]) C hL dX5_inheritRules_70 (Nat.le_of_ble_eq_true rfl) rfl ?_
        refine j_aload_n C dX5_inheritRules_72 rfl rfl ?_
        replace e := ob e
        obtain ⟨x46, ex46, e⟩ := e
        refine j_getr (ci := 5) (RC := RX5) (T := TX5) (N := 12) 8 C rfl klX5 (Nat.le_of_ble_eq_true rfl) kX5_27 rfl dX5_inheritRules_73 ex46 ?_
        refine j_iload_n C dX5_inheritRules_76 rfl rfl ?_
        refine j_bipush (v := (12 : Int32)) C dX5_inheritRules_77 (by decide) ?_
        refine j_imul C dX5_inheritRules_79 ?_
        refine j_iload C dX5_inheritRules_80 rfl ?_
        refine j_iadd C dX5_inheritRules_82 ?_
        refine j_aload_n C dX5_inheritRules_83 rfl rfl ?_
        refine j_iload_n C dX5_inheritRules_84 rfl rfl ?_
        refine j_iload C dX5_inheritRules_85 rfl ?_
        replace e := ob e
        obtain ⟨_, eo47, e⟩ := e
        replace e := ob e
        obtain ⟨x48, ex48, e⟩ := e
        refine j_callV (ci := 5) (RC := RX5) (T := TX5) (N := 12) (As := [.int x36, .int x45]) (b := l1) (na := 2) (st := [.int ((z26 * (12 : Int32)) + z37), .ref x46]) (k1 := 0) (n1 := 0) C hr (sX5_coefficient ex48) rfl eo47 kX5_98 kim_X5_coefficient ksel_X5_coefficient kini_X5 kc_X5_coefficient (by decide) rfl ⟨(Nat.le_of_ble_eq_true rfl), (Nat.le_of_ble_eq_true rfl)⟩ (Nat.le_of_ble_eq_true rfl) ⟨rfl, rfl, (Nat.le_of_ble_eq_true rfl), (Nat.le_of_ble_eq_true rfl)⟩ dX5_inheritRules_87 ?_
        rintro _ _ ⟨rfl, rfl⟩
        show jx_J X 0 0 90 [(5, .int x45), (0, .ref l0), (1, .ref l1), (2, .int z26), (3, .int x36), (4, .int z37)] [.int x48, .int ((z26 * (12 : Int32)) + z37), .ref x46] h38
        replace e := ob e
        obtain ⟨h49, eh49, e⟩ := e
        refine j_iast C dX5_inheritRules_90 eh49 ?_
        refine j_iinc (v := (z37 + (1 : Int32))) (lv1 := [(4, .int (z37 + (1 : Int32))), (5, .int x45), (0, .ref l0), (1, .ref l1), (2, .int z26), (3, .int x36)]) C hL dX5_inheritRules_91 rfl rfl (Nat.le_of_ble_eq_true rfl) rfl ?_
        refine j_goto (tgt := 38) C dX5_inheritRules_94 (by decide) ?_
        obtain rfl := Option.some.inj e
        refine jx_sub (lv' := [(0, .ref l0), (1, .ref l1), (2, .int z26), (3, .int x36), (4, .int (z37 + (1 : Int32)))]) [2, 3, 4, 5, 0] rfl ?_
        exact kI6 ((z37 + (1 : Int32)), h49) e0_6
/-! BorderBasis$State.changeHeight(IILBorderBasis$State;)V -/
noncomputable def FX5_changeHeight (l0 : Nat) (l1 : Int32) (l2 : Int32) (l3 : Nat) (h : jx_H) : Option (jx_H) :=
(FX9_isOutside l1 (11 : Int32) h).bind fun x1 =>
if x1 = 0 then
 (isO h l3 5).bind fun _ =>
 (FX5_copyFrom l3 l0 h).bind fun h3 =>
 (hgr h3 l0 5 1).bind fun x4 =>
 (hal h3 .int x4 l1).bind fun x5 =>
 (has h3 .int x4 l1 (x5 + l2)).bind fun h6 =>
 (isO h6 l0 5).bind fun _ =>
 (FX5_listMonomials l0 h6).bind fun h8 =>
 (isO h8 l0 5).bind fun _ =>
 (FX5_inheritRules l0 l3 h8).bind fun h10 =>
 some h10
else
 some h
def rmX5_changeHeight : Room := { frames := 3, cells := 0, slots := 0, locals := 69 }
set_option maxRecDepth 20000 in
set_option maxHeartbeats 4000000 in
theorem sX5_changeHeight {l0 : Nat} {l1 : Int32} {l2 : Int32} {l3 : Nat} {h : jx_H} {h9 : jx_H} (e : FX5_changeHeight l0 l1 l2 l3 h = some h9) : jx_Ct yX5_changeHeight cX5_changeHeight 4 none rmX5_changeHeight [.ref l0, .int l1, .int l2, .ref l3] h (fun r' h' => none = r' ∧ h9 = h') := by
  refine jx_Ct.of (own := RX5) (by decide) rfl (Nat.le_of_ble_eq_true rfl) (fun X C hq hr hL hN => ?_)
  refine jx_sub (lv' := [(0, .ref l0), (1, .int l1), (2, .int l2), (3, .ref l3)]) [0, 1, 2, 3] rfl ?_
  unfold FX5_changeHeight at e
  refine j_iload_n C dX5_changeHeight_0 rfl rfl ?_
  refine j_bipush (v := (11 : Int32)) C dX5_changeHeight_1 (by decide) ?_
  replace e := ob e
  obtain ⟨x12, ex12, e⟩ := e
  refine j_callSN (As := [.int l1, .int (11 : Int32)]) (na := 2) (st := []) (k1 := 0) (n1 := 0) C hr (sX9_isOutside ex12) kX5_78 kst_X9_isOutside kini_X9 kc_X9_isOutside (by decide) rfl ⟨(Nat.le_of_ble_eq_true rfl), (Nat.le_of_ble_eq_true rfl)⟩ (Nat.le_of_ble_eq_true rfl) ⟨rfl, rfl, (Nat.le_of_ble_eq_true rfl), (Nat.le_of_ble_eq_true rfl)⟩ dX5_changeHeight_3 ?_
  rintro _ _ ⟨rfl, rfl⟩
  show jx_J X 0 0 6 [(0, .ref l0), (1, .int l1), (2, .int l2), (3, .ref l3)] [.int x12] h
  refine j_if_eq (tgt := 10) C dX5_changeHeight_6 (by decide) (fun c22 => ?_) (fun c22 => ?_)
  · replace e := ifp c22 e
    refine j_aload_n C dX5_changeHeight_10 rfl rfl ?_
    refine j_aload_n C dX5_changeHeight_11 rfl rfl ?_
    replace e := ob e
    obtain ⟨_, eo13, e⟩ := e
    replace e := ob e
    obtain ⟨h14, eh14, e⟩ := e
    refine j_callV (ci := 5) (RC := RX5) (T := TX5) (N := 12) (As := [.ref l0]) (b := l3) (na := 1) (st := []) (k1 := 0) (n1 := 0) C hr (sX5_copyFrom eh14) rfl eo13 kX5_81 kim_X5_copyFrom ksel_X5_copyFrom kini_X5 kc_X5_copyFrom (by decide) rfl ⟨(Nat.le_of_ble_eq_true rfl), (Nat.le_of_ble_eq_true rfl)⟩ (Nat.le_of_ble_eq_true rfl) ⟨rfl, rfl, (Nat.le_of_ble_eq_true rfl), (Nat.le_of_ble_eq_true rfl)⟩ dX5_changeHeight_12 ?_
    rintro _ _ ⟨rfl, rfl⟩
    show jx_J X 0 0 15 [(0, .ref l0), (1, .int l1), (2, .int l2), (3, .ref l3)] [] h14
    refine j_aload_n C dX5_changeHeight_15 rfl rfl ?_
    replace e := ob e
    obtain ⟨x15, ex15, e⟩ := e
    refine j_getr (ci := 5) (RC := RX5) (T := TX5) (N := 12) 1 C rfl klX5 (Nat.le_of_ble_eq_true rfl) kX5_9 rfl dX5_changeHeight_16 ex15 ?_
    refine j_iload_n C dX5_changeHeight_19 rfl rfl ?_
    refine j_dup2 C dX5_changeHeight_20 rfl rfl ?_
    replace e := ob e
    obtain ⟨x16, ex16, e⟩ := e
    refine j_iald C dX5_changeHeight_21 ex16 ?_
    refine j_iload_n C dX5_changeHeight_22 rfl rfl ?_
    refine j_iadd C dX5_changeHeight_23 ?_
    replace e := ob e
    obtain ⟨h17, eh17, e⟩ := e
    refine j_iast C dX5_changeHeight_24 eh17 ?_
    refine j_aload_n C dX5_changeHeight_25 rfl rfl ?_
    replace e := ob e
    obtain ⟨_, eo18, e⟩ := e
    replace e := ob e
    obtain ⟨h19, eh19, e⟩ := e
    refine j_callV (ci := 5) (RC := RX5) (T := TX5) (N := 12) (As := []) (b := l0) (na := 0) (st := []) (k1 := 0) (n1 := 0) C hr (sX5_listMonomials eh19) rfl eo18 kX5_52 kim_X5_listMonomials ksel_X5_listMonomials kini_X5 kc_X5_listMonomials (by decide) rfl ⟨(Nat.le_of_ble_eq_true rfl), (Nat.le_of_ble_eq_true rfl)⟩ (Nat.le_of_ble_eq_true rfl) ⟨rfl, rfl, (Nat.le_of_ble_eq_true rfl), (Nat.le_of_ble_eq_true rfl)⟩ dX5_changeHeight_26 ?_
    rintro _ _ ⟨rfl, rfl⟩
    show jx_J X 0 0 29 [(0, .ref l0), (1, .int l1), (2, .int l2), (3, .ref l3)] [] h19
    refine j_aload_n C dX5_changeHeight_29 rfl rfl ?_
    refine j_aload_n C dX5_changeHeight_30 rfl rfl ?_
    replace e := ob e
    obtain ⟨_, eo20, e⟩ := e
    replace e := ob e
    obtain ⟨h21, eh21, e⟩ := e
    refine j_callV (ci := 5) (RC := RX5) (T := TX5) (N := 12) (As := [.ref l3]) (b := l0) (na := 1) (st := []) (k1 := 0) (n1 := 0) C hr (sX5_inheritRules eh21) rfl eo20 kX5_85 kim_X5_inheritRules ksel_X5_inheritRules kini_X5 kc_X5_inheritRules (by decide) rfl ⟨(Nat.le_of_ble_eq_true rfl), (Nat.le_of_ble_eq_true rfl)⟩ (Nat.le_of_ble_eq_true rfl) ⟨rfl, rfl, (Nat.le_of_ble_eq_true rfl), (Nat.le_of_ble_eq_true rfl)⟩ dX5_changeHeight_31 ?_
    rintro _ _ ⟨rfl, rfl⟩
    show jx_J X 0 0 34 [(0, .ref l0), (1, .int l1), (2, .int l2), (3, .ref l3)] [] h21
    cases e
    exact j_vret C hq dX5_changeHeight_34 ⟨Nat.le_of_ble_eq_true rfl, Nat.le_of_ble_eq_true rfl⟩ ⟨rfl, rfl⟩
  · replace e := ifn c22 e
    cases e
    exact j_vret C hq dX5_changeHeight_9 ⟨Nat.le_of_ble_eq_true rfl, Nat.le_of_ble_eq_true rfl⟩ ⟨rfl, rfl⟩
/-! BorderBasis$State.obstacle(II)I -/
noncomputable def BX5_obstacle_43 (l0 : Nat) (h : jx_H) : Option (Int32) :=
(hgi h l0 5 2).bind fun x1 =>
if x1 < (12 : Int32) then
 some (0 : Int32)
else
 some (3 : Int32)
noncomputable def BX5_obstacle_26 (l0 : Nat) (l1 : Int32) (l2 : Int32) (h : jx_H) : Option (Int32) :=
if l2 ≤ 0 then
 BX5_obstacle_43 l0 h
else
 (isO h l0 5).bind fun _ =>
 (FX5_contains l0 l1 (l2 - (1 : Int32)) h).bind fun x4 =>
 if x4 = 0 then
  some (2 : Int32)
 else
  BX5_obstacle_43 l0 h
noncomputable def FX5_obstacle (l0 : Nat) (l1 : Int32) (l2 : Int32) (h : jx_H) : Option (Int32) :=
(isO h l0 5).bind fun _ =>
(FX5_contains l0 l1 l2 h).bind fun x8 =>
if x8 = 0 then
 if l1 ≤ 0 then
  BX5_obstacle_26 l0 l1 l2 h
 else
  (isO h l0 5).bind fun _ =>
  (FX5_contains l0 (l1 - (1 : Int32)) l2 h).bind fun x10 =>
  if x10 = 0 then
   some (2 : Int32)
  else
   BX5_obstacle_26 l0 l1 l2 h
else
 some (1 : Int32)
def rmX5_obstacle : Room := { frames := 1, cells := 0, slots := 0, locals := 22 }
set_option maxRecDepth 20000 in
set_option maxHeartbeats 4000000 in
theorem sX5_obstacle {l0 : Nat} {l1 : Int32} {l2 : Int32} {h : jx_H} {r : Int32}  (e : FX5_obstacle l0 l1 l2 h = some r) : jx_Ct yX5_obstacle cX5_obstacle 3 (some .int) rmX5_obstacle [.ref l0, .int l1, .int l2] h (fun r' h' => some (.int r) = r' ∧ h = h') := by
  refine jx_Ct.of (own := RX5) (by decide) rfl (Nat.le_of_ble_eq_true rfl) (fun X C hq hr hL hN => ?_)
  refine jx_sub (lv' := [(0, .ref l0), (1, .int l1), (2, .int l2)]) [0, 1, 2] rfl ?_
  have b43 : ∀ (y14 : Nat), BX5_obstacle_43 y14 h = some r → jx_J X 0 0 43 [(0, .ref y14)] [] h := by
    intro y14 e
    unfold BX5_obstacle_43 at e
    refine j_aload_n C dX5_obstacle_43 rfl rfl ?_
    replace e := ob e
    obtain ⟨x15, ex15, e⟩ := e
    refine j_geti (ci := 5) (RC := RX5) (T := TX5) (N := 12) 2 C rfl klX5 (Nat.le_of_ble_eq_true rfl) kX5_55 rfl dX5_obstacle_44 ex15 ?_
    refine j_bipush (v := (12 : Int32)) C dX5_obstacle_47 (by decide) ?_
    refine j_icmp_lt (tgt := 56) C dX5_obstacle_49 (by decide) (fun c16 => ?_) (fun c16 => ?_)
    · replace e := ifp c16 e
      refine j_iconst (v := (0 : Int32)) C dX5_obstacle_56 (by decide) ?_
      cases e
      exact j_iret C hq rfl dX5_obstacle_57 ⟨Nat.le_of_ble_eq_true rfl, Nat.le_of_ble_eq_true rfl⟩ ⟨rfl, rfl⟩
    · replace e := ifn c16 e
      refine j_iconst (v := (3 : Int32)) C dX5_obstacle_52 (by decide) ?_
      refine j_goto (tgt := 57) C dX5_obstacle_53 (by decide) ?_
      cases e
      exact j_iret C hq rfl dX5_obstacle_57 ⟨Nat.le_of_ble_eq_true rfl, Nat.le_of_ble_eq_true rfl⟩ ⟨rfl, rfl⟩
  have b26 : ∀ (y17 : Nat) (y18 : Int32) (y19 : Int32), BX5_obstacle_26 y17 y18 y19 h = some r → jx_J X 0 0 26 [(0, .ref y17), (1, .int y18), (2, .int y19)] [] h := by
    intro y17 y18 y19 e
    unfold BX5_obstacle_26 at e
    refine j_iload_n C dX5_obstacle_26 rfl rfl ?_
    refine j_if_le (tgt := 43) C dX5_obstacle_27 (by decide) (fun c23 => ?_) (fun c23 => ?_)
    · replace e := ifp c23 e
      refine jx_sub (lv' := [(0, .ref y17)]) [0] rfl ?_
      exact b43 y17 e
    · replace e := ifn c23 e
      refine j_aload_n C dX5_obstacle_30 rfl rfl ?_
      refine j_iload_n C dX5_obstacle_31 rfl rfl ?_
      refine j_iload_n C dX5_obstacle_32 rfl rfl ?_
      refine j_iconst (v := (1 : Int32)) C dX5_obstacle_33 (by decide) ?_
      refine j_isub C dX5_obstacle_34 ?_
      replace e := ob e
      obtain ⟨_, eo20, e⟩ := e
      replace e := ob e
      obtain ⟨x21, ex21, e⟩ := e
      refine j_callV (ci := 5) (RC := RX5) (T := TX5) (N := 12) (As := [.int y18, .int (y19 - (1 : Int32))]) (b := y17) (na := 2) (st := []) (k1 := 0) (n1 := 0) C hr (sX5_contains ex21) rfl eo20 kX5_67 kim_X5_contains ksel_X5_contains kini_X5 kc_X5_contains (by decide) rfl ⟨(Nat.le_of_ble_eq_true rfl), (Nat.le_of_ble_eq_true rfl)⟩ (Nat.le_of_ble_eq_true rfl) ⟨rfl, rfl, (Nat.le_of_ble_eq_true rfl), (Nat.le_of_ble_eq_true rfl)⟩ dX5_obstacle_35 ?_
      rintro _ _ ⟨rfl, rfl⟩
      show jx_J X 0 0 38 [(0, .ref y17), (1, .int y18), (2, .int y19)] [.int x21] h
      refine j_if_ne (tgt := 43) C dX5_obstacle_38 (by decide) (fun c22 => ?_) (fun c22 => ?_)
      · replace e := ifn c22 e
        refine jx_sub (lv' := [(0, .ref y17)]) [0] rfl ?_
        exact b43 y17 e
      · replace e := ifp c22 e
        refine j_iconst (v := (2 : Int32)) C dX5_obstacle_41 (by decide) ?_
        cases e
        exact j_iret C hq rfl dX5_obstacle_42 ⟨Nat.le_of_ble_eq_true rfl, Nat.le_of_ble_eq_true rfl⟩ ⟨rfl, rfl⟩
  unfold FX5_obstacle at e
  refine j_aload_n C dX5_obstacle_0 rfl rfl ?_
  refine j_iload_n C dX5_obstacle_1 rfl rfl ?_
  refine j_iload_n C dX5_obstacle_2 rfl rfl ?_
  replace e := ob e
  obtain ⟨_, eo24, e⟩ := e
  replace e := ob e
  obtain ⟨x25, ex25, e⟩ := e
  refine j_callV (ci := 5) (RC := RX5) (T := TX5) (N := 12) (As := [.int l1, .int l2]) (b := l0) (na := 2) (st := []) (k1 := 0) (n1 := 0) C hr (sX5_contains ex25) rfl eo24 kX5_67 kim_X5_contains ksel_X5_contains kini_X5 kc_X5_contains (by decide) rfl ⟨(Nat.le_of_ble_eq_true rfl), (Nat.le_of_ble_eq_true rfl)⟩ (Nat.le_of_ble_eq_true rfl) ⟨rfl, rfl, (Nat.le_of_ble_eq_true rfl), (Nat.le_of_ble_eq_true rfl)⟩ dX5_obstacle_3 ?_
  rintro _ _ ⟨rfl, rfl⟩
  show jx_J X 0 0 6 [(0, .ref l0), (1, .int l1), (2, .int l2)] [.int x25] h
  refine j_if_eq (tgt := 11) C dX5_obstacle_6 (by decide) (fun c30 => ?_) (fun c30 => ?_)
  · replace e := ifp c30 e
    refine j_iload_n C dX5_obstacle_11 rfl rfl ?_
    refine j_if_le (tgt := 26) C dX5_obstacle_12 (by decide) (fun c29 => ?_) (fun c29 => ?_)
    · replace e := ifp c29 e
      exact b26 l0 l1 l2 e
    · replace e := ifn c29 e
      refine j_aload_n C dX5_obstacle_15 rfl rfl ?_
      refine j_iload_n C dX5_obstacle_16 rfl rfl ?_
      refine j_iconst (v := (1 : Int32)) C dX5_obstacle_17 (by decide) ?_
      refine j_isub C dX5_obstacle_18 ?_
      refine j_iload_n C dX5_obstacle_19 rfl rfl ?_
      replace e := ob e
      obtain ⟨_, eo26, e⟩ := e
      replace e := ob e
      obtain ⟨x27, ex27, e⟩ := e
      refine j_callV (ci := 5) (RC := RX5) (T := TX5) (N := 12) (As := [.int (l1 - (1 : Int32)), .int l2]) (b := l0) (na := 2) (st := []) (k1 := 0) (n1 := 0) C hr (sX5_contains ex27) rfl eo26 kX5_67 kim_X5_contains ksel_X5_contains kini_X5 kc_X5_contains (by decide) rfl ⟨(Nat.le_of_ble_eq_true rfl), (Nat.le_of_ble_eq_true rfl)⟩ (Nat.le_of_ble_eq_true rfl) ⟨rfl, rfl, (Nat.le_of_ble_eq_true rfl), (Nat.le_of_ble_eq_true rfl)⟩ dX5_obstacle_20 ?_
      rintro _ _ ⟨rfl, rfl⟩
      show jx_J X 0 0 23 [(0, .ref l0), (1, .int l1), (2, .int l2)] [.int x27] h
      refine j_if_eq (tgt := 41) C dX5_obstacle_23 (by decide) (fun c28 => ?_) (fun c28 => ?_)
      · replace e := ifp c28 e
        refine j_iconst (v := (2 : Int32)) C dX5_obstacle_41 (by decide) ?_
        cases e
        exact j_iret C hq rfl dX5_obstacle_42 ⟨Nat.le_of_ble_eq_true rfl, Nat.le_of_ble_eq_true rfl⟩ ⟨rfl, rfl⟩
      · replace e := ifn c28 e
        exact b26 l0 l1 l2 e
  · replace e := ifn c30 e
    refine j_iconst (v := (1 : Int32)) C dX5_obstacle_9 (by decide) ?_
    cases e
    exact j_iret C hq rfl dX5_obstacle_10 ⟨Nat.le_of_ble_eq_true rfl, Nat.le_of_ble_eq_true rfl⟩ ⟨rfl, rfl⟩
/-! BorderBasis$Parser.readJoin()Z -/
noncomputable def FX3_readJoin (l0 : Nat) (h : jx_H) : Option (Int32 × jx_H) :=
(hgr h l0 3 2).bind fun x1 =>
(hgi h x1 5 2).bind fun x2 =>
if x2 < (12 : Int32) then
 (hgr h l0 3 0).bind fun x3 =>
 (isO h x3 7).bind fun _ =>
 (FX7_advance x3 h).bind fun h5 =>
 (isO h5 l0 3).bind fun _ =>
 bind2 (FX3_takeNumber l0 (11 : Int32) h5) fun x7 h8 =>
 if x7 = 0 then
  some ((0 : Int32), h8)
 else
  (isO h8 l0 3).bind fun _ =>
  bind2 (FX3_takeNumber l0 (11 : Int32) h8) fun x10 h11 =>
  if x10 = 0 then
   some ((0 : Int32), h11)
  else
   (hgr h11 l0 3 2).bind fun x12 =>
   (hgi h11 l0 3 6).bind fun x13 =>
   (hgi h11 l0 3 7).bind fun x14 =>
   (isO h11 x12 5).bind fun _ =>
   (FX5_obstacle x12 x13 x14 h11).bind fun x16 =>
   if x16 = 0 then
    (hgr h11 l0 3 2).bind fun x17 =>
    (hgi h11 l0 3 6).bind fun x18 =>
    (hgr h11 l0 3 1).bind fun x19 =>
    (isO h11 x17 5).bind fun _ =>
    (FX5_changeHeight x17 x18 (1 : Int32) x19 h11).bind fun h21 =>
    some ((1 : Int32), h21)
   else
    (hgi h11 l0 3 9).bind fun x22 =>
    (isO h11 l0 3).bind fun _ =>
    bind2 (FX3_fail l0 (4 : Int32) x22 h11) fun x24 h25 =>
    if x24 = 0 ∨ x24 = 1 then some (x24, h25) else none
else
 (hgr h l0 3 0).bind fun x30 =>
 (hgi h x30 7 3).bind fun x31 =>
 (isO h l0 3).bind fun _ =>
 bind2 (FX3_fail l0 (3 : Int32) x31 h) fun x33 h34 =>
 if x33 = 0 ∨ x33 = 1 then some (x33, h34) else none
def rmX3_readJoin : Room := { frames := 4, cells := 0, slots := 0, locals := 92 }
set_option maxRecDepth 20000 in
set_option maxHeartbeats 4000000 in
theorem sX3_readJoin {l0 : Nat} {h : jx_H} {r : Int32} {h9 : jx_H} (e : FX3_readJoin l0 h = some (r, h9)) : jx_Ct yX3_readJoin cX3_readJoin 1 (some .boolean) rmX3_readJoin [.ref l0] h (fun r' h' => some (.int r) = r' ∧ h9 = h') := by
  refine jx_Ct.of (own := RX3) (by decide) rfl (Nat.le_of_ble_eq_true rfl) (fun X C hq hr hL hN => ?_)
  refine jx_sub (lv' := [(0, .ref l0)]) [0] rfl ?_
  unfold FX3_readJoin at e
  refine j_aload_n C dX3_readJoin_0 rfl rfl ?_
  replace e := ob e
  obtain ⟨x37, ex37, e⟩ := e
  refine j_getr (ci := 3) (RC := RX3) (T := TX3) (N := 11) 2 C rfl klX3 (Nat.le_of_ble_eq_true rfl) kX3_12 rfl dX3_readJoin_1 ex37 ?_
  replace e := ob e
  obtain ⟨x38, ex38, e⟩ := e
  refine j_geti (ci := 5) (RC := RX5) (T := TX5) (N := 12) 2 C rfl klX5 (Nat.le_of_ble_eq_true rfl) kX3_129 rfl dX3_readJoin_4 ex38 ?_
  refine j_bipush (v := (12 : Int32)) C dX3_readJoin_7 (by decide) ?_
  refine j_icmp_lt (tgt := 25) C dX3_readJoin_9 (by decide) (fun c72 => ?_) (fun c72 => ?_)
  · replace e := ifp c72 e
    refine j_aload_n C dX3_readJoin_25 rfl rfl ?_
    replace e := ob e
    obtain ⟨x39, ex39, e⟩ := e
    refine j_getr (ci := 3) (RC := RX3) (T := TX3) (N := 11) 0 C rfl klX3 (Nat.le_of_ble_eq_true rfl) kX3_26 rfl dX3_readJoin_26 ex39 ?_
    replace e := ob e
    obtain ⟨_, eo40, e⟩ := e
    replace e := ob e
    obtain ⟨h41, eh41, e⟩ := e
    refine j_callV (ci := 7) (RC := RX7) (T := TX7) (N := 6) (As := []) (b := x39) (na := 0) (st := []) (k1 := 0) (n1 := 0) C hr (sX7_advance eh41) rfl eo40 kX3_115 kim_X7_advance ksel_X7_advance kini_X7 kc_X7_advance (by decide) rfl ⟨(Nat.le_of_ble_eq_true rfl), (Nat.le_of_ble_eq_true rfl)⟩ (Nat.le_of_ble_eq_true rfl) ⟨rfl, rfl, (Nat.le_of_ble_eq_true rfl), (Nat.le_of_ble_eq_true rfl)⟩ dX3_readJoin_29 ?_
    rintro _ _ ⟨rfl, rfl⟩
    show jx_J X 0 0 32 [(0, .ref l0)] [] h41
    refine j_aload_n C dX3_readJoin_32 rfl rfl ?_
    refine j_bipush (v := (11 : Int32)) C dX3_readJoin_33 (by decide) ?_
    replace e := ob e
    obtain ⟨_, eo42, e⟩ := e
    replace e := ob2 e
    obtain ⟨x43, h44, ex43, e⟩ := e
    refine j_callV (ci := 3) (RC := RX3) (T := TX3) (N := 11) (As := [.int (11 : Int32)]) (b := l0) (na := 1) (st := []) (k1 := 0) (n1 := 0) C hr (sX3_takeNumber ex43) rfl eo42 kX3_118 kim_X3_takeNumber ksel_X3_takeNumber kini_X3 kc_X3_takeNumber (by decide) rfl ⟨(Nat.le_of_ble_eq_true rfl), (Nat.le_of_ble_eq_true rfl)⟩ (Nat.le_of_ble_eq_true rfl) ⟨rfl, rfl, (Nat.le_of_ble_eq_true rfl), (Nat.le_of_ble_eq_true rfl)⟩ dX3_readJoin_35 ?_
    rintro _ _ ⟨rfl, rfl⟩
    show jx_J X 0 0 38 [(0, .ref l0)] [.int x43] h44
    refine j_if_eq (tgt := 50) C dX3_readJoin_38 (by decide) (fun c65 => ?_) (fun c65 => ?_)
    · replace e := ifp c65 e
      refine j_iconst (v := (0 : Int32)) C dX3_readJoin_50 (by decide) ?_
      cases e
      exact j_iret C hq rfl dX3_readJoin_51 ⟨Nat.le_of_ble_eq_true rfl, Nat.le_of_ble_eq_true rfl⟩ ⟨rfl, rfl⟩
    · replace e := ifn c65 e
      refine j_aload_n C dX3_readJoin_41 rfl rfl ?_
      refine j_bipush (v := (11 : Int32)) C dX3_readJoin_42 (by decide) ?_
      replace e := ob e
      obtain ⟨_, eo45, e⟩ := e
      replace e := ob2 e
      obtain ⟨x46, h47, ex46, e⟩ := e
      refine j_callV (ci := 3) (RC := RX3) (T := TX3) (N := 11) (As := [.int (11 : Int32)]) (b := l0) (na := 1) (st := []) (k1 := 0) (n1 := 0) C hr (sX3_takeNumber ex46) rfl eo45 kX3_118 kim_X3_takeNumber ksel_X3_takeNumber kini_X3 kc_X3_takeNumber (by decide) rfl ⟨(Nat.le_of_ble_eq_true rfl), (Nat.le_of_ble_eq_true rfl)⟩ (Nat.le_of_ble_eq_true rfl) ⟨rfl, rfl, (Nat.le_of_ble_eq_true rfl), (Nat.le_of_ble_eq_true rfl)⟩ dX3_readJoin_44 ?_
      rintro _ _ ⟨rfl, rfl⟩
      show jx_J X 0 0 47 [(0, .ref l0)] [.int x46] h47
      refine j_if_ne (tgt := 52) C dX3_readJoin_47 (by decide) (fun c64 => ?_) (fun c64 => ?_)
      · replace e := ifn c64 e
        refine j_aload_n C dX3_readJoin_52 rfl rfl ?_
        replace e := ob e
        obtain ⟨x48, ex48, e⟩ := e
        refine j_getr (ci := 3) (RC := RX3) (T := TX3) (N := 11) 2 C rfl klX3 (Nat.le_of_ble_eq_true rfl) kX3_12 rfl dX3_readJoin_53 ex48 ?_
        refine j_aload_n C dX3_readJoin_56 rfl rfl ?_
        replace e := ob e
        obtain ⟨x49, ex49, e⟩ := e
        refine j_geti (ci := 3) (RC := RX3) (T := TX3) (N := 11) 6 C rfl klX3 (Nat.le_of_ble_eq_true rfl) kX3_62 rfl dX3_readJoin_57 ex49 ?_
        refine j_aload_n C dX3_readJoin_60 rfl rfl ?_
        replace e := ob e
        obtain ⟨x50, ex50, e⟩ := e
        refine j_geti (ci := 3) (RC := RX3) (T := TX3) (N := 11) 7 C rfl klX3 (Nat.le_of_ble_eq_true rfl) kX3_65 rfl dX3_readJoin_61 ex50 ?_
        replace e := ob e
        obtain ⟨_, eo51, e⟩ := e
        replace e := ob e
        obtain ⟨x52, ex52, e⟩ := e
        refine j_callV (ci := 5) (RC := RX5) (T := TX5) (N := 12) (As := [.int x49, .int x50]) (b := x48) (na := 2) (st := []) (k1 := 0) (n1 := 0) C hr (sX5_obstacle ex52) rfl eo51 kX3_132 kim_X5_obstacle ksel_X5_obstacle kini_X5 kc_X5_obstacle (by decide) rfl ⟨(Nat.le_of_ble_eq_true rfl), (Nat.le_of_ble_eq_true rfl)⟩ (Nat.le_of_ble_eq_true rfl) ⟨rfl, rfl, (Nat.le_of_ble_eq_true rfl), (Nat.le_of_ble_eq_true rfl)⟩ dX3_readJoin_64 ?_
        rintro _ _ ⟨rfl, rfl⟩
        show jx_J X 0 0 67 [(0, .ref l0)] [.int x52] h47
        refine j_if_eq (tgt := 80) C dX3_readJoin_67 (by decide) (fun c63 => ?_) (fun c63 => ?_)
        · replace e := ifp c63 e
          refine j_aload_n C dX3_readJoin_80 rfl rfl ?_
          replace e := ob e
          obtain ⟨x53, ex53, e⟩ := e
          refine j_getr (ci := 3) (RC := RX3) (T := TX3) (N := 11) 2 C rfl klX3 (Nat.le_of_ble_eq_true rfl) kX3_12 rfl dX3_readJoin_81 ex53 ?_
          refine j_aload_n C dX3_readJoin_84 rfl rfl ?_
          replace e := ob e
          obtain ⟨x54, ex54, e⟩ := e
          refine j_geti (ci := 3) (RC := RX3) (T := TX3) (N := 11) 6 C rfl klX3 (Nat.le_of_ble_eq_true rfl) kX3_62 rfl dX3_readJoin_85 ex54 ?_
          refine j_iconst (v := (1 : Int32)) C dX3_readJoin_88 (by decide) ?_
          refine j_aload_n C dX3_readJoin_89 rfl rfl ?_
          replace e := ob e
          obtain ⟨x55, ex55, e⟩ := e
          refine j_getr (ci := 3) (RC := RX3) (T := TX3) (N := 11) 1 C rfl klX3 (Nat.le_of_ble_eq_true rfl) kX3_30 rfl dX3_readJoin_90 ex55 ?_
          replace e := ob e
          obtain ⟨_, eo56, e⟩ := e
          replace e := ob e
          obtain ⟨h57, eh57, e⟩ := e
          refine j_callV (ci := 5) (RC := RX5) (T := TX5) (N := 12) (As := [.int x54, .int (1 : Int32), .ref x55]) (b := x53) (na := 3) (st := []) (k1 := 0) (n1 := 0) C hr (sX5_changeHeight eh57) rfl eo56 kX3_135 kim_X5_changeHeight ksel_X5_changeHeight kini_X5 kc_X5_changeHeight (by decide) rfl ⟨(Nat.le_of_ble_eq_true rfl), (Nat.le_of_ble_eq_true rfl)⟩ (Nat.le_of_ble_eq_true rfl) ⟨rfl, rfl, (Nat.le_of_ble_eq_true rfl), (Nat.le_of_ble_eq_true rfl)⟩ dX3_readJoin_93 ?_
          rintro _ _ ⟨rfl, rfl⟩
          show jx_J X 0 0 96 [(0, .ref l0)] [] h57
          refine j_iconst (v := (1 : Int32)) C dX3_readJoin_96 (by decide) ?_
          cases e
          exact j_iret C hq rfl dX3_readJoin_97 ⟨Nat.le_of_ble_eq_true rfl, Nat.le_of_ble_eq_true rfl⟩ ⟨rfl, rfl⟩
        · replace e := ifn c63 e
          refine j_aload_n C dX3_readJoin_70 rfl rfl ?_
          refine j_iconst (v := (4 : Int32)) C dX3_readJoin_71 (by decide) ?_
          refine j_aload_n C dX3_readJoin_72 rfl rfl ?_
          replace e := ob e
          obtain ⟨x58, ex58, e⟩ := e
          refine j_geti (ci := 3) (RC := RX3) (T := TX3) (N := 11) 9 C rfl klX3 (Nat.le_of_ble_eq_true rfl) kX3_124 rfl dX3_readJoin_73 ex58 ?_
          replace e := ob e
          obtain ⟨_, eo59, e⟩ := e
          replace e := ob2 e
          obtain ⟨x60, h61, ex60, e⟩ := e
          refine j_callV (ci := 3) (RC := RX3) (T := TX3) (N := 11) (As := [.int (4 : Int32), .int x58]) (b := l0) (na := 2) (st := []) (k1 := 0) (n1 := 0) C hr (sX3_fail ex60) rfl eo59 kX3_112 kim_X3_fail ksel_X3_fail kini_X3 kc_X3_fail (by decide) rfl ⟨(Nat.le_of_ble_eq_true rfl), (Nat.le_of_ble_eq_true rfl)⟩ (Nat.le_of_ble_eq_true rfl) ⟨rfl, rfl, (Nat.le_of_ble_eq_true rfl), (Nat.le_of_ble_eq_true rfl)⟩ dX3_readJoin_76 ?_
          rintro _ _ ⟨rfl, rfl⟩
          show jx_J X 0 0 79 [(0, .ref l0)] [.int x60] h61
          by_cases c62 : ¬ (x60 = 0 ∨ x60 = 1)
          · exact nos (ifn c62 e)
          replace c62 := Classical.not_not.mp c62
          replace e := ifp c62 e
          cases e
          exact j_iret C hq (jx_bool c62) dX3_readJoin_79 ⟨Nat.le_of_ble_eq_true rfl, Nat.le_of_ble_eq_true rfl⟩ ⟨rfl, rfl⟩
      · replace e := ifp c64 e
        refine j_iconst (v := (0 : Int32)) C dX3_readJoin_50 (by decide) ?_
        cases e
        exact j_iret C hq rfl dX3_readJoin_51 ⟨Nat.le_of_ble_eq_true rfl, Nat.le_of_ble_eq_true rfl⟩ ⟨rfl, rfl⟩
  · replace e := ifn c72 e
    refine j_aload_n C dX3_readJoin_12 rfl rfl ?_
    refine j_iconst (v := (3 : Int32)) C dX3_readJoin_13 (by decide) ?_
    refine j_aload_n C dX3_readJoin_14 rfl rfl ?_
    replace e := ob e
    obtain ⟨x66, ex66, e⟩ := e
    refine j_getr (ci := 3) (RC := RX3) (T := TX3) (N := 11) 0 C rfl klX3 (Nat.le_of_ble_eq_true rfl) kX3_26 rfl dX3_readJoin_15 ex66 ?_
    replace e := ob e
    obtain ⟨x67, ex67, e⟩ := e
    refine j_geti (ci := 7) (RC := RX7) (T := TX7) (N := 6) 3 C rfl klX7 (Nat.le_of_ble_eq_true rfl) kX3_109 rfl dX3_readJoin_18 ex67 ?_
    replace e := ob e
    obtain ⟨_, eo68, e⟩ := e
    replace e := ob2 e
    obtain ⟨x69, h70, ex69, e⟩ := e
    refine j_callV (ci := 3) (RC := RX3) (T := TX3) (N := 11) (As := [.int (3 : Int32), .int x67]) (b := l0) (na := 2) (st := []) (k1 := 0) (n1 := 0) C hr (sX3_fail ex69) rfl eo68 kX3_112 kim_X3_fail ksel_X3_fail kini_X3 kc_X3_fail (by decide) rfl ⟨(Nat.le_of_ble_eq_true rfl), (Nat.le_of_ble_eq_true rfl)⟩ (Nat.le_of_ble_eq_true rfl) ⟨rfl, rfl, (Nat.le_of_ble_eq_true rfl), (Nat.le_of_ble_eq_true rfl)⟩ dX3_readJoin_21 ?_
    rintro _ _ ⟨rfl, rfl⟩
    show jx_J X 0 0 24 [(0, .ref l0)] [.int x69] h70
    by_cases c71 : ¬ (x69 = 0 ∨ x69 = 1)
    · exact nos (ifn c71 e)
    replace c71 := Classical.not_not.mp c71
    replace e := ifp c71 e
    cases e
    exact j_iret C hq (jx_bool c71) dX3_readJoin_24 ⟨Nat.le_of_ble_eq_true rfl, Nat.le_of_ble_eq_true rfl⟩ ⟨rfl, rfl⟩
/-! BorderBasis$State.appendPoint(II)V -/
noncomputable def FX5_appendPoint (l0 : Nat) (l1 : Int32) (l2 : Int32) (h : jx_H) : Option (jx_H) :=
(hgi h l0 5 9).bind fun x1 =>
if (12 : Int32) ≤ x1 then
 some h
else
 (hgr h l0 5 10).bind fun x2 =>
 (hgi h l0 5 9).bind fun x3 =>
 (has h .int x2 x3 l1).bind fun h4 =>
 (hgr h4 l0 5 11).bind fun x5 =>
 (hgi h4 l0 5 9).bind fun x6 =>
 (has h4 .int x5 x6 l2).bind fun h7 =>
 (hgi h7 l0 5 9).bind fun x8 =>
 (hp h7 l0 5 9 (.int (x8 + (1 : Int32)))).bind fun h9 =>
 some h9
def rmX5_appendPoint : Room := { frames := 0, cells := 0, slots := 0, locals := 0 }
set_option maxRecDepth 20000 in
set_option maxHeartbeats 4000000 in
theorem sX5_appendPoint {l0 : Nat} {l1 : Int32} {l2 : Int32} {h : jx_H} {h9 : jx_H} (e : FX5_appendPoint l0 l1 l2 h = some h9) : jx_Ct yX5_appendPoint cX5_appendPoint 3 none rmX5_appendPoint [.ref l0, .int l1, .int l2] h (fun r' h' => none = r' ∧ h9 = h') := by
  refine jx_Ct.of (own := RX5) (by decide) rfl (Nat.le_of_ble_eq_true rfl) (fun X C hq hr hL hN => ?_)
  refine jx_sub (lv' := [(0, .ref l0), (1, .int l1), (2, .int l2)]) [0, 1, 2] rfl ?_
  unfold FX5_appendPoint at e
  refine j_aload_n C dX5_appendPoint_0 rfl rfl ?_
  replace e := ob e
  obtain ⟨x11, ex11, e⟩ := e
  refine j_geti (ci := 5) (RC := RX5) (T := TX5) (N := 12) 9 C rfl klX5 (Nat.le_of_ble_eq_true rfl) kX5_49 rfl dX5_appendPoint_1 ex11 ?_
  refine j_bipush (v := (12 : Int32)) C dX5_appendPoint_4 (by decide) ?_
  refine j_icmp_ge (tgt := 39) C dX5_appendPoint_6 (by decide) (fun c20 => ?_) (fun c20 => ?_)
  · replace e := ifp c20 e
    cases e
    exact j_vret C hq dX5_appendPoint_39 ⟨Nat.le_of_ble_eq_true rfl, Nat.le_of_ble_eq_true rfl⟩ ⟨rfl, rfl⟩
  · replace e := ifn c20 e
    refine j_aload_n C dX5_appendPoint_9 rfl rfl ?_
    replace e := ob e
    obtain ⟨x12, ex12, e⟩ := e
    refine j_getr (ci := 5) (RC := RX5) (T := TX5) (N := 12) 10 C rfl klX5 (Nat.le_of_ble_eq_true rfl) kX5_30 rfl dX5_appendPoint_10 ex12 ?_
    refine j_aload_n C dX5_appendPoint_13 rfl rfl ?_
    replace e := ob e
    obtain ⟨x13, ex13, e⟩ := e
    refine j_geti (ci := 5) (RC := RX5) (T := TX5) (N := 12) 9 C rfl klX5 (Nat.le_of_ble_eq_true rfl) kX5_49 rfl dX5_appendPoint_14 ex13 ?_
    refine j_iload_n C dX5_appendPoint_17 rfl rfl ?_
    replace e := ob e
    obtain ⟨h14, eh14, e⟩ := e
    refine j_iast C dX5_appendPoint_18 eh14 ?_
    refine j_aload_n C dX5_appendPoint_19 rfl rfl ?_
    replace e := ob e
    obtain ⟨x15, ex15, e⟩ := e
    refine j_getr (ci := 5) (RC := RX5) (T := TX5) (N := 12) 11 C rfl klX5 (Nat.le_of_ble_eq_true rfl) kX5_33 rfl dX5_appendPoint_20 ex15 ?_
    refine j_aload_n C dX5_appendPoint_23 rfl rfl ?_
    replace e := ob e
    obtain ⟨x16, ex16, e⟩ := e
    refine j_geti (ci := 5) (RC := RX5) (T := TX5) (N := 12) 9 C rfl klX5 (Nat.le_of_ble_eq_true rfl) kX5_49 rfl dX5_appendPoint_24 ex16 ?_
    refine j_iload_n C dX5_appendPoint_27 rfl rfl ?_
    replace e := ob e
    obtain ⟨h17, eh17, e⟩ := e
    refine j_iast C dX5_appendPoint_28 eh17 ?_
    refine j_aload_n C dX5_appendPoint_29 rfl rfl ?_
    refine j_dup C dX5_appendPoint_30 rfl ?_
    replace e := ob e
    obtain ⟨x18, ex18, e⟩ := e
    refine j_geti (ci := 5) (RC := RX5) (T := TX5) (N := 12) 9 C rfl klX5 (Nat.le_of_ble_eq_true rfl) kX5_49 rfl dX5_appendPoint_31 ex18 ?_
    refine j_iconst (v := (1 : Int32)) C dX5_appendPoint_34 (by decide) ?_
    refine j_iadd C dX5_appendPoint_35 ?_
    replace e := ob e
    obtain ⟨h19, eh19, e⟩ := e
    refine j_put (ci := 5) (RC := RX5) (T := TX5) (N := 12) (ty0 := tyX5) 9 C rfl klX5 tyX5_ok nmX5 (Nat.le_of_ble_eq_true rfl) kX5_49 rfl rfl rfl rfl dX5_appendPoint_36 eh19 ?_
    cases e
    exact j_vret C hq dX5_appendPoint_39 ⟨Nat.le_of_ble_eq_true rfl, Nat.le_of_ble_eq_true rfl⟩ ⟨rfl, rfl⟩
/-! BorderBasis$State.hasPoint(II)Z -/
noncomputable def BX5_hasPoint_32 (l0 : Nat) (l1 : Int32) (l2 : Int32) (l3 : Int32) (h : jx_H) : Option ((Int32) ⊕ (Int32)) :=
some (.inl (l3 + (1 : Int32)))
noncomputable def LX5_hasPoint_2 (l0 : Nat) (l1 : Int32) (l2 : Int32) (l3 : Int32) (h : jx_H) : Option ((Int32) ⊕ (Int32)) :=
(hgi h l0 5 9).bind fun x1 =>
if x1 ≤ l3 then
 exL (some (0 : Int32))
else
 (hgr h l0 5 10).bind fun x2 =>
 (hal h .int x2 l3).bind fun x3 =>
 if x3 = l1 then
  (hgr h l0 5 11).bind fun x4 =>
  (hal h .int x4 l3).bind fun x5 =>
  if x5 = l2 then
   exL (some (1 : Int32))
  else
   BX5_hasPoint_32 l0 l1 l2 l3 h
 else
  BX5_hasPoint_32 l0 l1 l2 l3 h
noncomputable def FX5_hasPoint (l0 : Nat) (l1 : Int32) (l2 : Int32) (h : jx_H) : Option (Int32) :=
itr (fun s : Int32 => LX5_hasPoint_2 l0 l1 l2 s h) (0 : Int32)
def rmX5_hasPoint : Room := { frames := 0, cells := 0, slots := 0, locals := 0 }
set_option maxRecDepth 20000 in
set_option maxHeartbeats 4000000 in
theorem sX5_hasPoint {l0 : Nat} {l1 : Int32} {l2 : Int32} {h : jx_H} {r : Int32}  (e : FX5_hasPoint l0 l1 l2 h = some r) : jx_Ct yX5_hasPoint cX5_hasPoint 4 (some .boolean) rmX5_hasPoint [.ref l0, .int l1, .int l2] h (fun r' h' => some (.int r) = r' ∧ h = h') := by
  refine jx_Ct.of (own := RX5) (by decide) rfl (Nat.le_of_ble_eq_true rfl) (fun X C hq hr hL hN => ?_)
  refine jx_sub (lv' := [(0, .ref l0), (1, .int l1), (2, .int l2)]) [0, 1, 2] rfl ?_
  unfold FX5_hasPoint at e
  refine j_iconst (v := (0 : Int32)) C dX5_hasPoint_0 (by decide) ?_
  refine j_istore_n (lv1 := [(3, .int (0 : Int32)), (0, .ref l0), (1, .int l1), (2, .int l2)]) C hL dX5_hasPoint_1 rfl (Nat.le_of_ble_eq_true rfl) rfl ?_
  refine jx_sub (lv' := [(0, .ref l0), (1, .int l1), (2, .int l2), (3, .int (0 : Int32))]) [1, 2, 3, 0] rfl ?_
  refine itr_ind (s0 := (0 : Int32)) (fun s : Int32 => jx_J X 0 0 2 [(0, .ref l0), (1, .int l1), (2, .int l2), (3, .int s)] [] h) e ?_
  clear e
  intro s kI3 kT3 e0
  obtain ⟨z9, es⟩ : ∃ z, z = s := ⟨_, rfl⟩
  subst es
  obtain ⟨u3, e0_3⟩ := e0
  have e : LX5_hasPoint_2 l0 l1 l2 z9 h = some u3 := e0_3
  have b32 : ∀ (y10 : Int32), BX5_hasPoint_32 l0 l1 l2 y10 h = some u3 → jx_J X 0 0 32 [(0, .ref l0), (1, .int l1), (2, .int l2), (3, .int y10)] [] h := by
    intro y10 e
    unfold BX5_hasPoint_32 at e
    refine j_iinc (v := (y10 + (1 : Int32))) (lv1 := [(3, .int (y10 + (1 : Int32))), (0, .ref l0), (1, .int l1), (2, .int l2)]) C hL dX5_hasPoint_32 rfl rfl (Nat.le_of_ble_eq_true rfl) rfl ?_
    refine j_goto (tgt := 2) C dX5_hasPoint_35 (by decide) ?_
    obtain rfl := Option.some.inj e
    refine jx_sub (lv' := [(0, .ref l0), (1, .int l1), (2, .int l2), (3, .int (y10 + (1 : Int32)))]) [1, 2, 3, 0] rfl ?_
    exact kI3 (y10 + (1 : Int32)) e0_3
  unfold LX5_hasPoint_2 at e
  refine j_iload_n C dX5_hasPoint_2 rfl rfl ?_
  refine j_aload_n C dX5_hasPoint_3 rfl rfl ?_
  replace e := ob e
  obtain ⟨x11, ex11, e⟩ := e
  refine j_geti (ci := 5) (RC := RX5) (T := TX5) (N := 12) 9 C rfl klX5 (Nat.le_of_ble_eq_true rfl) kX5_49 rfl dX5_hasPoint_4 ex11 ?_
  refine j_icmp_ge (tgt := 38) C dX5_hasPoint_7 (by decide) (fun c18 => ?_) (fun c18 => ?_)
  · replace e := ifp c18 e
    obtain ⟨t_4, e_4, eu_4⟩ := exL_spec e
    obtain rfl := kT3 t_4 (e0_3.trans (congrArg some eu_4))
    replace e := e_4
    refine j_iconst (v := (0 : Int32)) C dX5_hasPoint_38 (by decide) ?_
    cases e
    exact j_iret C hq rfl dX5_hasPoint_39 ⟨Nat.le_of_ble_eq_true rfl, Nat.le_of_ble_eq_true rfl⟩ ⟨rfl, rfl⟩
  · replace e := ifn c18 e
    refine j_aload_n C dX5_hasPoint_10 rfl rfl ?_
    replace e := ob e
    obtain ⟨x12, ex12, e⟩ := e
    refine j_getr (ci := 5) (RC := RX5) (T := TX5) (N := 12) 10 C rfl klX5 (Nat.le_of_ble_eq_true rfl) kX5_30 rfl dX5_hasPoint_11 ex12 ?_
    refine j_iload_n C dX5_hasPoint_14 rfl rfl ?_
    replace e := ob e
    obtain ⟨x13, ex13, e⟩ := e
    refine j_iald C dX5_hasPoint_15 ex13 ?_
    refine j_iload_n C dX5_hasPoint_16 rfl rfl ?_
    refine j_icmp_ne (tgt := 32) C dX5_hasPoint_17 (by decide) (fun c17 => ?_) (fun c17 => ?_)
    · replace e := ifn c17 e
      exact b32 z9 e
    · replace e := ifp c17 e
      refine j_aload_n C dX5_hasPoint_20 rfl rfl ?_
      replace e := ob e
      obtain ⟨x14, ex14, e⟩ := e
      refine j_getr (ci := 5) (RC := RX5) (T := TX5) (N := 12) 11 C rfl klX5 (Nat.le_of_ble_eq_true rfl) kX5_33 rfl dX5_hasPoint_21 ex14 ?_
      refine j_iload_n C dX5_hasPoint_24 rfl rfl ?_
      replace e := ob e
      obtain ⟨x15, ex15, e⟩ := e
      refine j_iald C dX5_hasPoint_25 ex15 ?_
      refine j_iload_n C dX5_hasPoint_26 rfl rfl ?_
      refine j_icmp_ne (tgt := 32) C dX5_hasPoint_27 (by decide) (fun c16 => ?_) (fun c16 => ?_)
      · replace e := ifn c16 e
        exact b32 z9 e
      · replace e := ifp c16 e
        obtain ⟨t_5, e_5, eu_5⟩ := exL_spec e
        obtain rfl := kT3 t_5 (e0_3.trans (congrArg some eu_5))
        replace e := e_5
        refine j_iconst (v := (1 : Int32)) C dX5_hasPoint_30 (by decide) ?_
        cases e
        exact j_iret C hq rfl dX5_hasPoint_31 ⟨Nat.le_of_ble_eq_true rfl, Nat.le_of_ble_eq_true rfl⟩ ⟨rfl, rfl⟩
/-! BorderBasis$Parser.readPoint()Z -/
noncomputable def FX3_readPoint (l0 : Nat) (h : jx_H) : Option (Int32 × jx_H) :=
(hgr h l0 3 2).bind fun x1 =>
(hgi h x1 5 9).bind fun x2 =>
if x2 < (12 : Int32) then
 (hgr h l0 3 0).bind fun x3 =>
 (isO h x3 7).bind fun _ =>
 (FX7_advance x3 h).bind fun h5 =>
 (hgr h5 l0 3 2).bind fun x6 =>
 (hgi h5 x6 5 0).bind fun x7 =>
 (isO h5 l0 3).bind fun _ =>
 bind2 (FX3_takeNumber l0 (x7 - (1 : Int32)) h5) fun x9 h10 =>
 if x9 = 0 then
  some ((0 : Int32), h10)
 else
  (hgr h10 l0 3 2).bind fun x11 =>
  (hgi h10 x11 5 0).bind fun x12 =>
  (isO h10 l0 3).bind fun _ =>
  bind2 (FX3_takeNumber l0 (x12 - (1 : Int32)) h10) fun x14 h15 =>
  if x14 = 0 then
   some ((0 : Int32), h15)
  else
   (hgr h15 l0 3 2).bind fun x16 =>
   (hgi h15 l0 3 6).bind fun x17 =>
   (hgi h15 l0 3 7).bind fun x18 =>
   (isO h15 x16 5).bind fun _ =>
   (FX5_hasPoint x16 x17 x18 h15).bind fun x20 =>
   if x20 = 0 then
    (hgr h15 l0 3 2).bind fun x21 =>
    (hgi h15 l0 3 6).bind fun x22 =>
    (hgi h15 l0 3 7).bind fun x23 =>
    (isO h15 x21 5).bind fun _ =>
    (FX5_appendPoint x21 x22 x23 h15).bind fun h25 =>
    some ((1 : Int32), h25)
   else
    (hgi h15 l0 3 9).bind fun x26 =>
    (isO h15 l0 3).bind fun _ =>
    bind2 (FX3_fail l0 (5 : Int32) x26 h15) fun x28 h29 =>
    if x28 = 0 ∨ x28 = 1 then some (x28, h29) else none
else
 (hgr h l0 3 0).bind fun x34 =>
 (hgi h x34 7 3).bind fun x35 =>
 (isO h l0 3).bind fun _ =>
 bind2 (FX3_fail l0 (3 : Int32) x35 h) fun x37 h38 =>
 if x37 = 0 ∨ x37 = 1 then some (x37, h38) else none
def rmX3_readPoint : Room := { frames := 3, cells := 0, slots := 0, locals := 63 }
set_option maxRecDepth 20000 in
set_option maxHeartbeats 4000000 in
theorem sX3_readPoint {l0 : Nat} {h : jx_H} {r : Int32} {h9 : jx_H} (e : FX3_readPoint l0 h = some (r, h9)) : jx_Ct yX3_readPoint cX3_readPoint 1 (some .boolean) rmX3_readPoint [.ref l0] h (fun r' h' => some (.int r) = r' ∧ h9 = h') := by
  refine jx_Ct.of (own := RX3) (by decide) rfl (Nat.le_of_ble_eq_true rfl) (fun X C hq hr hL hN => ?_)
  refine jx_sub (lv' := [(0, .ref l0)]) [0] rfl ?_
  unfold FX3_readPoint at e
  refine j_aload_n C dX3_readPoint_0 rfl rfl ?_
  replace e := ob e
  obtain ⟨x41, ex41, e⟩ := e
  refine j_getr (ci := 3) (RC := RX3) (T := TX3) (N := 11) 2 C rfl klX3 (Nat.le_of_ble_eq_true rfl) kX3_12 rfl dX3_readPoint_1 ex41 ?_
  replace e := ob e
  obtain ⟨x42, ex42, e⟩ := e
  refine j_geti (ci := 5) (RC := RX5) (T := TX5) (N := 12) 9 C rfl klX5 (Nat.le_of_ble_eq_true rfl) kX3_158 rfl dX3_readPoint_4 ex42 ?_
  refine j_bipush (v := (12 : Int32)) C dX3_readPoint_7 (by decide) ?_
  refine j_icmp_lt (tgt := 25) C dX3_readPoint_9 (by decide) (fun c80 => ?_) (fun c80 => ?_)
  · replace e := ifp c80 e
    refine j_aload_n C dX3_readPoint_25 rfl rfl ?_
    replace e := ob e
    obtain ⟨x43, ex43, e⟩ := e
    refine j_getr (ci := 3) (RC := RX3) (T := TX3) (N := 11) 0 C rfl klX3 (Nat.le_of_ble_eq_true rfl) kX3_26 rfl dX3_readPoint_26 ex43 ?_
    replace e := ob e
    obtain ⟨_, eo44, e⟩ := e
    replace e := ob e
    obtain ⟨h45, eh45, e⟩ := e
    refine j_callV (ci := 7) (RC := RX7) (T := TX7) (N := 6) (As := []) (b := x43) (na := 0) (st := []) (k1 := 0) (n1 := 0) C hr (sX7_advance eh45) rfl eo44 kX3_115 kim_X7_advance ksel_X7_advance kini_X7 kc_X7_advance (by decide) rfl ⟨(Nat.le_of_ble_eq_true rfl), (Nat.le_of_ble_eq_true rfl)⟩ (Nat.le_of_ble_eq_true rfl) ⟨rfl, rfl, (Nat.le_of_ble_eq_true rfl), (Nat.le_of_ble_eq_true rfl)⟩ dX3_readPoint_29 ?_
    rintro _ _ ⟨rfl, rfl⟩
    show jx_J X 0 0 32 [(0, .ref l0)] [] h45
    refine j_aload_n C dX3_readPoint_32 rfl rfl ?_
    refine j_aload_n C dX3_readPoint_33 rfl rfl ?_
    replace e := ob e
    obtain ⟨x46, ex46, e⟩ := e
    refine j_getr (ci := 3) (RC := RX3) (T := TX3) (N := 11) 2 C rfl klX3 (Nat.le_of_ble_eq_true rfl) kX3_12 rfl dX3_readPoint_34 ex46 ?_
    replace e := ob e
    obtain ⟨x47, ex47, e⟩ := e
    refine j_geti (ci := 5) (RC := RX5) (T := TX5) (N := 12) 0 C rfl klX5 (Nat.le_of_ble_eq_true rfl) kX3_127 rfl dX3_readPoint_37 ex47 ?_
    refine j_iconst (v := (1 : Int32)) C dX3_readPoint_40 (by decide) ?_
    refine j_isub C dX3_readPoint_41 ?_
    replace e := ob e
    obtain ⟨_, eo48, e⟩ := e
    replace e := ob2 e
    obtain ⟨x49, h50, ex49, e⟩ := e
    refine j_callV (ci := 3) (RC := RX3) (T := TX3) (N := 11) (As := [.int (x47 - (1 : Int32))]) (b := l0) (na := 1) (st := []) (k1 := 0) (n1 := 0) C hr (sX3_takeNumber ex49) rfl eo48 kX3_118 kim_X3_takeNumber ksel_X3_takeNumber kini_X3 kc_X3_takeNumber (by decide) rfl ⟨(Nat.le_of_ble_eq_true rfl), (Nat.le_of_ble_eq_true rfl)⟩ (Nat.le_of_ble_eq_true rfl) ⟨rfl, rfl, (Nat.le_of_ble_eq_true rfl), (Nat.le_of_ble_eq_true rfl)⟩ dX3_readPoint_42 ?_
    rintro _ _ ⟨rfl, rfl⟩
    show jx_J X 0 0 45 [(0, .ref l0)] [.int x49] h50
    refine j_if_eq (tgt := 64) C dX3_readPoint_45 (by decide) (fun c73 => ?_) (fun c73 => ?_)
    · replace e := ifp c73 e
      refine j_iconst (v := (0 : Int32)) C dX3_readPoint_64 (by decide) ?_
      cases e
      exact j_iret C hq rfl dX3_readPoint_65 ⟨Nat.le_of_ble_eq_true rfl, Nat.le_of_ble_eq_true rfl⟩ ⟨rfl, rfl⟩
    · replace e := ifn c73 e
      refine j_aload_n C dX3_readPoint_48 rfl rfl ?_
      refine j_aload_n C dX3_readPoint_49 rfl rfl ?_
      replace e := ob e
      obtain ⟨x51, ex51, e⟩ := e
      refine j_getr (ci := 3) (RC := RX3) (T := TX3) (N := 11) 2 C rfl klX3 (Nat.le_of_ble_eq_true rfl) kX3_12 rfl dX3_readPoint_50 ex51 ?_
      replace e := ob e
      obtain ⟨x52, ex52, e⟩ := e
      refine j_geti (ci := 5) (RC := RX5) (T := TX5) (N := 12) 0 C rfl klX5 (Nat.le_of_ble_eq_true rfl) kX3_127 rfl dX3_readPoint_53 ex52 ?_
      refine j_iconst (v := (1 : Int32)) C dX3_readPoint_56 (by decide) ?_
      refine j_isub C dX3_readPoint_57 ?_
      replace e := ob e
      obtain ⟨_, eo53, e⟩ := e
      replace e := ob2 e
      obtain ⟨x54, h55, ex54, e⟩ := e
      refine j_callV (ci := 3) (RC := RX3) (T := TX3) (N := 11) (As := [.int (x52 - (1 : Int32))]) (b := l0) (na := 1) (st := []) (k1 := 0) (n1 := 0) C hr (sX3_takeNumber ex54) rfl eo53 kX3_118 kim_X3_takeNumber ksel_X3_takeNumber kini_X3 kc_X3_takeNumber (by decide) rfl ⟨(Nat.le_of_ble_eq_true rfl), (Nat.le_of_ble_eq_true rfl)⟩ (Nat.le_of_ble_eq_true rfl) ⟨rfl, rfl, (Nat.le_of_ble_eq_true rfl), (Nat.le_of_ble_eq_true rfl)⟩ dX3_readPoint_58 ?_
      rintro _ _ ⟨rfl, rfl⟩
      show jx_J X 0 0 61 [(0, .ref l0)] [.int x54] h55
      refine j_if_ne (tgt := 66) C dX3_readPoint_61 (by decide) (fun c72 => ?_) (fun c72 => ?_)
      · replace e := ifn c72 e
        refine j_aload_n C dX3_readPoint_66 rfl rfl ?_
        replace e := ob e
        obtain ⟨x56, ex56, e⟩ := e
        refine j_getr (ci := 3) (RC := RX3) (T := TX3) (N := 11) 2 C rfl klX3 (Nat.le_of_ble_eq_true rfl) kX3_12 rfl dX3_readPoint_67 ex56 ?_
        refine j_aload_n C dX3_readPoint_70 rfl rfl ?_
        replace e := ob e
        obtain ⟨x57, ex57, e⟩ := e
        refine j_geti (ci := 3) (RC := RX3) (T := TX3) (N := 11) 6 C rfl klX3 (Nat.le_of_ble_eq_true rfl) kX3_62 rfl dX3_readPoint_71 ex57 ?_
        refine j_aload_n C dX3_readPoint_74 rfl rfl ?_
        replace e := ob e
        obtain ⟨x58, ex58, e⟩ := e
        refine j_geti (ci := 3) (RC := RX3) (T := TX3) (N := 11) 7 C rfl klX3 (Nat.le_of_ble_eq_true rfl) kX3_65 rfl dX3_readPoint_75 ex58 ?_
        replace e := ob e
        obtain ⟨_, eo59, e⟩ := e
        replace e := ob e
        obtain ⟨x60, ex60, e⟩ := e
        refine j_callV (ci := 5) (RC := RX5) (T := TX5) (N := 12) (As := [.int x57, .int x58]) (b := x56) (na := 2) (st := []) (k1 := 0) (n1 := 0) C hr (sX5_hasPoint ex60) rfl eo59 kX3_161 kim_X5_hasPoint ksel_X5_hasPoint kini_X5 kc_X5_hasPoint (by decide) rfl ⟨(Nat.le_of_ble_eq_true rfl), (Nat.le_of_ble_eq_true rfl)⟩ (Nat.le_of_ble_eq_true rfl) ⟨rfl, rfl, (Nat.le_of_ble_eq_true rfl), (Nat.le_of_ble_eq_true rfl)⟩ dX3_readPoint_78 ?_
        rintro _ _ ⟨rfl, rfl⟩
        show jx_J X 0 0 81 [(0, .ref l0)] [.int x60] h55
        refine j_if_eq (tgt := 94) C dX3_readPoint_81 (by decide) (fun c71 => ?_) (fun c71 => ?_)
        · replace e := ifp c71 e
          refine j_aload_n C dX3_readPoint_94 rfl rfl ?_
          replace e := ob e
          obtain ⟨x61, ex61, e⟩ := e
          refine j_getr (ci := 3) (RC := RX3) (T := TX3) (N := 11) 2 C rfl klX3 (Nat.le_of_ble_eq_true rfl) kX3_12 rfl dX3_readPoint_95 ex61 ?_
          refine j_aload_n C dX3_readPoint_98 rfl rfl ?_
          replace e := ob e
          obtain ⟨x62, ex62, e⟩ := e
          refine j_geti (ci := 3) (RC := RX3) (T := TX3) (N := 11) 6 C rfl klX3 (Nat.le_of_ble_eq_true rfl) kX3_62 rfl dX3_readPoint_99 ex62 ?_
          refine j_aload_n C dX3_readPoint_102 rfl rfl ?_
          replace e := ob e
          obtain ⟨x63, ex63, e⟩ := e
          refine j_geti (ci := 3) (RC := RX3) (T := TX3) (N := 11) 7 C rfl klX3 (Nat.le_of_ble_eq_true rfl) kX3_65 rfl dX3_readPoint_103 ex63 ?_
          replace e := ob e
          obtain ⟨_, eo64, e⟩ := e
          replace e := ob e
          obtain ⟨h65, eh65, e⟩ := e
          refine j_callV (ci := 5) (RC := RX5) (T := TX5) (N := 12) (As := [.int x62, .int x63]) (b := x61) (na := 2) (st := []) (k1 := 0) (n1 := 0) C hr (sX5_appendPoint eh65) rfl eo64 kX3_164 kim_X5_appendPoint ksel_X5_appendPoint kini_X5 kc_X5_appendPoint (by decide) rfl ⟨(Nat.le_of_ble_eq_true rfl), (Nat.le_of_ble_eq_true rfl)⟩ (Nat.le_of_ble_eq_true rfl) ⟨rfl, rfl, (Nat.le_of_ble_eq_true rfl), (Nat.le_of_ble_eq_true rfl)⟩ dX3_readPoint_106 ?_
          rintro _ _ ⟨rfl, rfl⟩
          show jx_J X 0 0 109 [(0, .ref l0)] [] h65
          refine j_iconst (v := (1 : Int32)) C dX3_readPoint_109 (by decide) ?_
          cases e
          exact j_iret C hq rfl dX3_readPoint_110 ⟨Nat.le_of_ble_eq_true rfl, Nat.le_of_ble_eq_true rfl⟩ ⟨rfl, rfl⟩
        · replace e := ifn c71 e
          refine j_aload_n C dX3_readPoint_84 rfl rfl ?_
          refine j_iconst (v := (5 : Int32)) C dX3_readPoint_85 (by decide) ?_
          refine j_aload_n C dX3_readPoint_86 rfl rfl ?_
          replace e := ob e
          obtain ⟨x66, ex66, e⟩ := e
          refine j_geti (ci := 3) (RC := RX3) (T := TX3) (N := 11) 9 C rfl klX3 (Nat.le_of_ble_eq_true rfl) kX3_124 rfl dX3_readPoint_87 ex66 ?_
          replace e := ob e
          obtain ⟨_, eo67, e⟩ := e
          replace e := ob2 e
          obtain ⟨x68, h69, ex68, e⟩ := e
          refine j_callV (ci := 3) (RC := RX3) (T := TX3) (N := 11) (As := [.int (5 : Int32), .int x66]) (b := l0) (na := 2) (st := []) (k1 := 0) (n1 := 0) C hr (sX3_fail ex68) rfl eo67 kX3_112 kim_X3_fail ksel_X3_fail kini_X3 kc_X3_fail (by decide) rfl ⟨(Nat.le_of_ble_eq_true rfl), (Nat.le_of_ble_eq_true rfl)⟩ (Nat.le_of_ble_eq_true rfl) ⟨rfl, rfl, (Nat.le_of_ble_eq_true rfl), (Nat.le_of_ble_eq_true rfl)⟩ dX3_readPoint_90 ?_
          rintro _ _ ⟨rfl, rfl⟩
          show jx_J X 0 0 93 [(0, .ref l0)] [.int x68] h69
          by_cases c70 : ¬ (x68 = 0 ∨ x68 = 1)
          · exact nos (ifn c70 e)
          replace c70 := Classical.not_not.mp c70
          replace e := ifp c70 e
          cases e
          exact j_iret C hq (jx_bool c70) dX3_readPoint_93 ⟨Nat.le_of_ble_eq_true rfl, Nat.le_of_ble_eq_true rfl⟩ ⟨rfl, rfl⟩
      · replace e := ifp c72 e
        refine j_iconst (v := (0 : Int32)) C dX3_readPoint_64 (by decide) ?_
        cases e
        exact j_iret C hq rfl dX3_readPoint_65 ⟨Nat.le_of_ble_eq_true rfl, Nat.le_of_ble_eq_true rfl⟩ ⟨rfl, rfl⟩
  · replace e := ifn c80 e
    refine j_aload_n C dX3_readPoint_12 rfl rfl ?_
    refine j_iconst (v := (3 : Int32)) C dX3_readPoint_13 (by decide) ?_
    refine j_aload_n C dX3_readPoint_14 rfl rfl ?_
    replace e := ob e
    obtain ⟨x74, ex74, e⟩ := e
    refine j_getr (ci := 3) (RC := RX3) (T := TX3) (N := 11) 0 C rfl klX3 (Nat.le_of_ble_eq_true rfl) kX3_26 rfl dX3_readPoint_15 ex74 ?_
    replace e := ob e
    obtain ⟨x75, ex75, e⟩ := e
    refine j_geti (ci := 7) (RC := RX7) (T := TX7) (N := 6) 3 C rfl klX7 (Nat.le_of_ble_eq_true rfl) kX3_109 rfl dX3_readPoint_18 ex75 ?_
    replace e := ob e
    obtain ⟨_, eo76, e⟩ := e
    replace e := ob2 e
    obtain ⟨x77, h78, ex77, e⟩ := e
    refine j_callV (ci := 3) (RC := RX3) (T := TX3) (N := 11) (As := [.int (3 : Int32), .int x75]) (b := l0) (na := 2) (st := []) (k1 := 0) (n1 := 0) C hr (sX3_fail ex77) rfl eo76 kX3_112 kim_X3_fail ksel_X3_fail kini_X3 kc_X3_fail (by decide) rfl ⟨(Nat.le_of_ble_eq_true rfl), (Nat.le_of_ble_eq_true rfl)⟩ (Nat.le_of_ble_eq_true rfl) ⟨rfl, rfl, (Nat.le_of_ble_eq_true rfl), (Nat.le_of_ble_eq_true rfl)⟩ dX3_readPoint_21 ?_
    rintro _ _ ⟨rfl, rfl⟩
    show jx_J X 0 0 24 [(0, .ref l0)] [.int x77] h78
    by_cases c79 : ¬ (x77 = 0 ∨ x77 = 1)
    · exact nos (ifn c79 e)
    replace c79 := Classical.not_not.mp c79
    replace e := ifp c79 e
    cases e
    exact j_iret C hq (jx_bool c79) dX3_readPoint_24 ⟨Nat.le_of_ble_eq_true rfl, Nat.le_of_ble_eq_true rfl⟩ ⟨rfl, rfl⟩
/-! BorderBasis.isPrimeAllowed(I)Z -/
noncomputable def LX9_isPrimeAllowed_16 (l0 : Int32) (l1 : Int32) (h : jx_H) : Option ((Int32) ⊕ (Int32)) :=
if (13 : Int32) ≤ l1 then
 exL (some (1 : Int32))
else
 if l1 = 0 then none else
 if (l0 - l0 / l1 * l1) = 0 then
  exL (some (0 : Int32))
 else
  some (.inl (l1 + (1 : Int32)))
noncomputable def FX9_isPrimeAllowed (l0 : Int32) (h : jx_H) : Option (Int32) :=
if l0 < (13 : Int32) then
 some (0 : Int32)
else
 if l0 ≤ (97 : Int32) then
  itr (fun s : Int32 => LX9_isPrimeAllowed_16 l0 s h) (2 : Int32)
 else
  some (0 : Int32)
def rmX9_isPrimeAllowed : Room := { frames := 0, cells := 0, slots := 0, locals := 0 }
set_option maxRecDepth 20000 in
set_option maxHeartbeats 4000000 in
theorem sX9_isPrimeAllowed {l0 : Int32} {h : jx_H} {r : Int32}  (e : FX9_isPrimeAllowed l0 h = some r) : jx_Ct yX9_isPrimeAllowed cX9_isPrimeAllowed 2 (some .boolean) rmX9_isPrimeAllowed [.int l0] h (fun r' h' => some (.int r) = r' ∧ h = h') := by
  refine jx_Ct.of (own := RX9) (by decide) rfl (Nat.le_of_ble_eq_true rfl) (fun X C hq hr hL hN => ?_)
  refine jx_sub (lv' := [(0, .int l0)]) [0] rfl ?_
  unfold FX9_isPrimeAllowed at e
  refine j_iload_n C dX9_isPrimeAllowed_0 rfl rfl ?_
  refine j_bipush (v := (13 : Int32)) C dX9_isPrimeAllowed_1 (by decide) ?_
  refine j_icmp_lt (tgt := 12) C dX9_isPrimeAllowed_3 (by decide) (fun c11 => ?_) (fun c11 => ?_)
  · replace e := ifp c11 e
    refine j_iconst (v := (0 : Int32)) C dX9_isPrimeAllowed_12 (by decide) ?_
    cases e
    exact j_iret C hq rfl dX9_isPrimeAllowed_13 ⟨Nat.le_of_ble_eq_true rfl, Nat.le_of_ble_eq_true rfl⟩ ⟨rfl, rfl⟩
  · replace e := ifn c11 e
    refine j_iload_n C dX9_isPrimeAllowed_6 rfl rfl ?_
    refine j_bipush (v := (97 : Int32)) C dX9_isPrimeAllowed_7 (by decide) ?_
    refine j_icmp_le (tgt := 14) C dX9_isPrimeAllowed_9 (by decide) (fun c10 => ?_) (fun c10 => ?_)
    · replace e := ifp c10 e
      refine j_iconst (v := (2 : Int32)) C dX9_isPrimeAllowed_14 (by decide) ?_
      refine j_istore_n (lv1 := [(1, .int (2 : Int32)), (0, .int l0)]) C hL dX9_isPrimeAllowed_15 rfl (Nat.le_of_ble_eq_true rfl) rfl ?_
      refine jx_sub (lv' := [(0, .int l0), (1, .int (2 : Int32))]) [1, 0] rfl ?_
      refine itr_ind (s0 := (2 : Int32)) (fun s : Int32 => jx_J X 0 0 16 [(0, .int l0), (1, .int s)] [] h) e ?_
      clear e
      intro s kI3 kT3 e0
      obtain ⟨z6, es⟩ : ∃ z, z = s := ⟨_, rfl⟩
      subst es
      obtain ⟨u3, e0_3⟩ := e0
      have e : LX9_isPrimeAllowed_16 l0 z6 h = some u3 := e0_3
      unfold LX9_isPrimeAllowed_16 at e
      refine j_iload_n C dX9_isPrimeAllowed_16 rfl rfl ?_
      refine j_bipush (v := (13 : Int32)) C dX9_isPrimeAllowed_17 (by decide) ?_
      refine j_icmp_ge (tgt := 36) C dX9_isPrimeAllowed_19 (by decide) (fun c9 => ?_) (fun c9 => ?_)
      · replace e := ifp c9 e
        obtain ⟨t_4, e_4, eu_4⟩ := exL_spec e
        obtain rfl := kT3 t_4 (e0_3.trans (congrArg some eu_4))
        replace e := e_4
        refine j_iconst (v := (1 : Int32)) C dX9_isPrimeAllowed_36 (by decide) ?_
        cases e
        exact j_iret C hq rfl dX9_isPrimeAllowed_37 ⟨Nat.le_of_ble_eq_true rfl, Nat.le_of_ble_eq_true rfl⟩ ⟨rfl, rfl⟩
      · replace e := ifn c9 e
        refine j_iload_n C dX9_isPrimeAllowed_22 rfl rfl ?_
        refine j_iload_n C dX9_isPrimeAllowed_23 rfl rfl ?_
        by_cases c7 : z6 = 0
        · exact nos (ifp c7 e)
        replace e := ifn c7 e
        refine j_irem C dX9_isPrimeAllowed_24 c7 ?_
        refine j_if_ne (tgt := 30) C dX9_isPrimeAllowed_25 (by decide) (fun c8 => ?_) (fun c8 => ?_)
        · replace e := ifn c8 e
          refine j_iinc (v := (z6 + (1 : Int32))) (lv1 := [(1, .int (z6 + (1 : Int32))), (0, .int l0)]) C hL dX9_isPrimeAllowed_30 rfl rfl (Nat.le_of_ble_eq_true rfl) rfl ?_
          refine j_goto (tgt := 16) C dX9_isPrimeAllowed_33 (by decide) ?_
          obtain rfl := Option.some.inj e
          refine jx_sub (lv' := [(0, .int l0), (1, .int (z6 + (1 : Int32)))]) [1, 0] rfl ?_
          exact kI3 (z6 + (1 : Int32)) e0_3
        · replace e := ifp c8 e
          obtain ⟨t_5, e_5, eu_5⟩ := exL_spec e
          obtain rfl := kT3 t_5 (e0_3.trans (congrArg some eu_5))
          replace e := e_5
          refine j_iconst (v := (0 : Int32)) C dX9_isPrimeAllowed_28 (by decide) ?_
          cases e
          exact j_iret C hq rfl dX9_isPrimeAllowed_29 ⟨Nat.le_of_ble_eq_true rfl, Nat.le_of_ble_eq_true rfl⟩ ⟨rfl, rfl⟩
    · replace e := ifn c10 e
      refine j_iconst (v := (0 : Int32)) C dX9_isPrimeAllowed_12 (by decide) ?_
      cases e
      exact j_iret C hq rfl dX9_isPrimeAllowed_13 ⟨Nat.le_of_ble_eq_true rfl, Nat.le_of_ble_eq_true rfl⟩ ⟨rfl, rfl⟩
/-! BorderBasis$Parser.readPrime()Z -/
noncomputable def FX3_readPrime (l0 : Nat) (h : jx_H) : Option (Int32 × jx_H) :=
(hgr h l0 3 0).bind fun x1 =>
(isO h x1 7).bind fun _ =>
(FX7_advance x1 h).bind fun h3 =>
(isO h3 l0 3).bind fun _ =>
bind2 (FX3_takeNumber l0 (97 : Int32) h3) fun x5 h6 =>
if x5 = 0 then
 some ((0 : Int32), h6)
else
 (hgi h6 l0 3 7).bind fun x7 =>
 (FX9_isPrimeAllowed x7 h6).bind fun x8 =>
 if x8 = 0 then
  (hgi h6 l0 3 9).bind fun x12 =>
  (isO h6 l0 3).bind fun _ =>
  bind2 (FX3_fail l0 (2 : Int32) x12 h6) fun x14 h15 =>
  if x14 = 0 ∨ x14 = 1 then some (x14, h15) else none
 else
  (hgr h6 l0 3 2).bind fun x9 =>
  (hgi h6 l0 3 7).bind fun x10 =>
  (hp h6 x9 5 0 (.int x10)).bind fun h11 =>
  some ((1 : Int32), h11)
def rmX3_readPrime : Room := { frames := 3, cells := 0, slots := 0, locals := 63 }
set_option maxRecDepth 20000 in
set_option maxHeartbeats 4000000 in
theorem sX3_readPrime {l0 : Nat} {h : jx_H} {r : Int32} {h9 : jx_H} (e : FX3_readPrime l0 h = some (r, h9)) : jx_Ct yX3_readPrime cX3_readPrime 1 (some .boolean) rmX3_readPrime [.ref l0] h (fun r' h' => some (.int r) = r' ∧ h9 = h') := by
  refine jx_Ct.of (own := RX3) (by decide) rfl (Nat.le_of_ble_eq_true rfl) (fun X C hq hr hL hN => ?_)
  refine jx_sub (lv' := [(0, .ref l0)]) [0] rfl ?_
  unfold FX3_readPrime at e
  refine j_aload_n C dX3_readPrime_0 rfl rfl ?_
  replace e := ob e
  obtain ⟨x19, ex19, e⟩ := e
  refine j_getr (ci := 3) (RC := RX3) (T := TX3) (N := 11) 0 C rfl klX3 (Nat.le_of_ble_eq_true rfl) kX3_26 rfl dX3_readPrime_1 ex19 ?_
  replace e := ob e
  obtain ⟨_, eo20, e⟩ := e
  replace e := ob e
  obtain ⟨h21, eh21, e⟩ := e
  refine j_callV (ci := 7) (RC := RX7) (T := TX7) (N := 6) (As := []) (b := x19) (na := 0) (st := []) (k1 := 0) (n1 := 0) C hr (sX7_advance eh21) rfl eo20 kX3_115 kim_X7_advance ksel_X7_advance kini_X7 kc_X7_advance (by decide) rfl ⟨(Nat.le_of_ble_eq_true rfl), (Nat.le_of_ble_eq_true rfl)⟩ (Nat.le_of_ble_eq_true rfl) ⟨rfl, rfl, (Nat.le_of_ble_eq_true rfl), (Nat.le_of_ble_eq_true rfl)⟩ dX3_readPrime_4 ?_
  rintro _ _ ⟨rfl, rfl⟩
  show jx_J X 0 0 7 [(0, .ref l0)] [] h21
  refine j_aload_n C dX3_readPrime_7 rfl rfl ?_
  refine j_bipush (v := (97 : Int32)) C dX3_readPrime_8 (by decide) ?_
  replace e := ob e
  obtain ⟨_, eo22, e⟩ := e
  replace e := ob2 e
  obtain ⟨x23, h24, ex23, e⟩ := e
  refine j_callV (ci := 3) (RC := RX3) (T := TX3) (N := 11) (As := [.int (97 : Int32)]) (b := l0) (na := 1) (st := []) (k1 := 0) (n1 := 0) C hr (sX3_takeNumber ex23) rfl eo22 kX3_118 kim_X3_takeNumber ksel_X3_takeNumber kini_X3 kc_X3_takeNumber (by decide) rfl ⟨(Nat.le_of_ble_eq_true rfl), (Nat.le_of_ble_eq_true rfl)⟩ (Nat.le_of_ble_eq_true rfl) ⟨rfl, rfl, (Nat.le_of_ble_eq_true rfl), (Nat.le_of_ble_eq_true rfl)⟩ dX3_readPrime_10 ?_
  rintro _ _ ⟨rfl, rfl⟩
  show jx_J X 0 0 13 [(0, .ref l0)] [.int x23] h24
  refine j_if_ne (tgt := 18) C dX3_readPrime_13 (by decide) (fun c36 => ?_) (fun c36 => ?_)
  · replace e := ifn c36 e
    refine j_aload_n C dX3_readPrime_18 rfl rfl ?_
    replace e := ob e
    obtain ⟨x25, ex25, e⟩ := e
    refine j_geti (ci := 3) (RC := RX3) (T := TX3) (N := 11) 7 C rfl klX3 (Nat.le_of_ble_eq_true rfl) kX3_65 rfl dX3_readPrime_19 ex25 ?_
    replace e := ob e
    obtain ⟨x26, ex26, e⟩ := e
    refine j_callSN (As := [.int x25]) (na := 1) (st := []) (k1 := 0) (n1 := 0) C hr (sX9_isPrimeAllowed ex26) kX3_121 kst_X9_isPrimeAllowed kini_X9 kc_X9_isPrimeAllowed (by decide) rfl ⟨(Nat.le_of_ble_eq_true rfl), (Nat.le_of_ble_eq_true rfl)⟩ (Nat.le_of_ble_eq_true rfl) ⟨rfl, rfl, (Nat.le_of_ble_eq_true rfl), (Nat.le_of_ble_eq_true rfl)⟩ dX3_readPrime_22 ?_
    rintro _ _ ⟨rfl, rfl⟩
    show jx_J X 0 0 25 [(0, .ref l0)] [.int x26] h24
    refine j_if_ne (tgt := 38) C dX3_readPrime_25 (by decide) (fun c35 => ?_) (fun c35 => ?_)
    · replace e := ifn c35 e
      refine j_aload_n C dX3_readPrime_38 rfl rfl ?_
      replace e := ob e
      obtain ⟨x27, ex27, e⟩ := e
      refine j_getr (ci := 3) (RC := RX3) (T := TX3) (N := 11) 2 C rfl klX3 (Nat.le_of_ble_eq_true rfl) kX3_12 rfl dX3_readPrime_39 ex27 ?_
      refine j_aload_n C dX3_readPrime_42 rfl rfl ?_
      replace e := ob e
      obtain ⟨x28, ex28, e⟩ := e
      refine j_geti (ci := 3) (RC := RX3) (T := TX3) (N := 11) 7 C rfl klX3 (Nat.le_of_ble_eq_true rfl) kX3_65 rfl dX3_readPrime_43 ex28 ?_
      replace e := ob e
      obtain ⟨h29, eh29, e⟩ := e
      refine j_put (ci := 5) (RC := RX5) (T := TX5) (N := 12) (ty0 := tyX5) 0 C rfl klX5 tyX5_ok nmX5 (Nat.le_of_ble_eq_true rfl) kX3_127 rfl rfl rfl rfl dX3_readPrime_46 eh29 ?_
      refine j_iconst (v := (1 : Int32)) C dX3_readPrime_49 (by decide) ?_
      cases e
      exact j_iret C hq rfl dX3_readPrime_50 ⟨Nat.le_of_ble_eq_true rfl, Nat.le_of_ble_eq_true rfl⟩ ⟨rfl, rfl⟩
    · replace e := ifp c35 e
      refine j_aload_n C dX3_readPrime_28 rfl rfl ?_
      refine j_iconst (v := (2 : Int32)) C dX3_readPrime_29 (by decide) ?_
      refine j_aload_n C dX3_readPrime_30 rfl rfl ?_
      replace e := ob e
      obtain ⟨x30, ex30, e⟩ := e
      refine j_geti (ci := 3) (RC := RX3) (T := TX3) (N := 11) 9 C rfl klX3 (Nat.le_of_ble_eq_true rfl) kX3_124 rfl dX3_readPrime_31 ex30 ?_
      replace e := ob e
      obtain ⟨_, eo31, e⟩ := e
      replace e := ob2 e
      obtain ⟨x32, h33, ex32, e⟩ := e
      refine j_callV (ci := 3) (RC := RX3) (T := TX3) (N := 11) (As := [.int (2 : Int32), .int x30]) (b := l0) (na := 2) (st := []) (k1 := 0) (n1 := 0) C hr (sX3_fail ex32) rfl eo31 kX3_112 kim_X3_fail ksel_X3_fail kini_X3 kc_X3_fail (by decide) rfl ⟨(Nat.le_of_ble_eq_true rfl), (Nat.le_of_ble_eq_true rfl)⟩ (Nat.le_of_ble_eq_true rfl) ⟨rfl, rfl, (Nat.le_of_ble_eq_true rfl), (Nat.le_of_ble_eq_true rfl)⟩ dX3_readPrime_34 ?_
      rintro _ _ ⟨rfl, rfl⟩
      show jx_J X 0 0 37 [(0, .ref l0)] [.int x32] h33
      by_cases c34 : ¬ (x32 = 0 ∨ x32 = 1)
      · exact nos (ifn c34 e)
      replace c34 := Classical.not_not.mp c34
      replace e := ifp c34 e
      cases e
      exact j_iret C hq (jx_bool c34) dX3_readPrime_37 ⟨Nat.le_of_ble_eq_true rfl, Nat.le_of_ble_eq_true rfl⟩ ⟨rfl, rfl⟩
  · replace e := ifp c36 e
    refine j_iconst (v := (0 : Int32)) C dX3_readPrime_16 (by decide) ?_
    cases e
    exact j_iret C hq rfl dX3_readPrime_17 ⟨Nat.le_of_ble_eq_true rfl, Nat.le_of_ble_eq_true rfl⟩ ⟨rfl, rfl⟩
/-! BorderBasis$State.clearRule(I)V -/
noncomputable def LX5_clearRule_2 (l0 : Nat) (l1 : Int32) (l2 : Int32) (h : jx_H) : Option ((Int32 × jx_H) ⊕ (jx_H)) :=
(hgi h l0 5 2).bind fun x1 =>
if x1 ≤ l2 then
 exL (some h)
else
 (isO h l0 5).bind fun _ =>
 (FX5_setCoefficient l0 l1 l2 (0 : Int32) h).bind fun h3 =>
 some (.inl ((l2 + (1 : Int32)), h3))
noncomputable def FX5_clearRule (l0 : Nat) (l1 : Int32) (h : jx_H) : Option (jx_H) :=
itr (fun s : Int32 × jx_H => LX5_clearRule_2 l0 l1 s.1 s.2) ((0 : Int32), h)
def rmX5_clearRule : Room := { frames := 2, cells := 0, slots := 0, locals := 45 }
set_option maxRecDepth 20000 in
set_option maxHeartbeats 4000000 in
theorem sX5_clearRule {l0 : Nat} {l1 : Int32} {h : jx_H} {h9 : jx_H} (e : FX5_clearRule l0 l1 h = some h9) : jx_Ct yX5_clearRule cX5_clearRule 3 none rmX5_clearRule [.ref l0, .int l1] h (fun r' h' => none = r' ∧ h9 = h') := by
  refine jx_Ct.of (own := RX5) (by decide) rfl (Nat.le_of_ble_eq_true rfl) (fun X C hq hr hL hN => ?_)
  refine jx_sub (lv' := [(0, .ref l0), (1, .int l1)]) [0, 1] rfl ?_
  unfold FX5_clearRule at e
  refine j_iconst (v := (0 : Int32)) C dX5_clearRule_0 (by decide) ?_
  refine j_istore_n (lv1 := [(2, .int (0 : Int32)), (0, .ref l0), (1, .int l1)]) C hL dX5_clearRule_1 rfl (Nat.le_of_ble_eq_true rfl) rfl ?_
  refine jx_sub (lv' := [(0, .ref l0), (1, .int l1), (2, .int (0 : Int32))]) [1, 2, 0] rfl ?_
  refine itr_ind (s0 := ((0 : Int32), h)) (fun s : Int32 × jx_H => jx_J X 0 0 2 [(0, .ref l0), (1, .int l1), (2, .int s.1)] [] s.2) e ?_
  clear e
  intro s kI2 kT2 e0
  obtain ⟨z5, h6⟩ := s
  obtain ⟨u2, e0_2⟩ := e0
  have e : LX5_clearRule_2 l0 l1 z5 h6 = some u2 := e0_2
  unfold LX5_clearRule_2 at e
  refine j_iload_n C dX5_clearRule_2 rfl rfl ?_
  refine j_aload_n C dX5_clearRule_3 rfl rfl ?_
  replace e := ob e
  obtain ⟨x7, ex7, e⟩ := e
  refine j_geti (ci := 5) (RC := RX5) (T := TX5) (N := 12) 2 C rfl klX5 (Nat.le_of_ble_eq_true rfl) kX5_55 rfl dX5_clearRule_4 ex7 ?_
  refine j_icmp_ge (tgt := 23) C dX5_clearRule_7 (by decide) (fun c10 => ?_) (fun c10 => ?_)
  · replace e := ifp c10 e
    obtain ⟨t_3, e_3, eu_3⟩ := exL_spec e
    obtain rfl := kT2 t_3 (e0_2.trans (congrArg some eu_3))
    replace e := e_3
    cases e
    exact j_vret C hq dX5_clearRule_23 ⟨Nat.le_of_ble_eq_true rfl, Nat.le_of_ble_eq_true rfl⟩ ⟨rfl, rfl⟩
  · replace e := ifn c10 e
    refine j_aload_n C dX5_clearRule_10 rfl rfl ?_
    refine j_iload_n C dX5_clearRule_11 rfl rfl ?_
    refine j_iload_n C dX5_clearRule_12 rfl rfl ?_
    refine j_iconst (v := (0 : Int32)) C dX5_clearRule_13 (by decide) ?_
    replace e := ob e
    obtain ⟨_, eo8, e⟩ := e
    replace e := ob e
    obtain ⟨h9, eh9, e⟩ := e
    refine j_callV (ci := 5) (RC := RX5) (T := TX5) (N := 12) (As := [.int l1, .int z5, .int (0 : Int32)]) (b := l0) (na := 3) (st := []) (k1 := 0) (n1 := 0) C hr (sX5_setCoefficient eh9) rfl eo8 kX5_104 kim_X5_setCoefficient ksel_X5_setCoefficient kini_X5 kc_X5_setCoefficient (by decide) rfl ⟨(Nat.le_of_ble_eq_true rfl), (Nat.le_of_ble_eq_true rfl)⟩ (Nat.le_of_ble_eq_true rfl) ⟨rfl, rfl, (Nat.le_of_ble_eq_true rfl), (Nat.le_of_ble_eq_true rfl)⟩ dX5_clearRule_14 ?_
    rintro _ _ ⟨rfl, rfl⟩
    show jx_J X 0 0 17 [(0, .ref l0), (1, .int l1), (2, .int z5)] [] h9
    refine j_iinc (v := (z5 + (1 : Int32))) (lv1 := [(2, .int (z5 + (1 : Int32))), (0, .ref l0), (1, .int l1)]) C hL dX5_clearRule_17 rfl rfl (Nat.le_of_ble_eq_true rfl) rfl ?_
    refine j_goto (tgt := 2) C dX5_clearRule_20 (by decide) ?_
    obtain rfl := Option.some.inj e
    refine jx_sub (lv' := [(0, .ref l0), (1, .int l1), (2, .int (z5 + (1 : Int32)))]) [1, 2, 0] rfl ?_
    exact kI2 ((z5 + (1 : Int32)), h9) e0_2
/-! BorderBasis$Parser.readTerm(II)Z -/
noncomputable def BX3_readTerm_58 (l0 : Nat) (l1 : Int32) (l2 : Int32) (s0 : Nat) (s1 : Int32) (h : jx_H) : Option (Int32 × jx_H) :=
(FX9_residue s1 l2 h).bind fun x1 =>
(hp h s0 3 8 (.int x1)).bind fun h2 =>
(isO h2 l0 3).bind fun _ =>
bind2 (FX3_takeNumber l0 l1 h2) fun x4 h5 =>
if x4 = 0 then
 some ((0 : Int32), h5)
else
 (isO h5 l0 3).bind fun _ =>
 bind2 (FX3_takeNumber l0 l1 h5) fun x7 h8 =>
 if x7 = 0 then
  some ((0 : Int32), h8)
 else
  some ((1 : Int32), h8)
noncomputable def BX3_readTerm_29 (l0 : Nat) (l1 : Int32) (l2 : Int32) (l3 : Int32) (h : jx_H) : Option (Int32 × jx_H) :=
(isO h l0 3).bind fun _ =>
bind2 (FX3_takeNumber l0 (999 : Int32) h) fun x12 h13 =>
if x12 = 0 then
 some ((0 : Int32), h13)
else
 if l3 = 0 then
  (hgi h13 l0 3 7).bind fun x14 =>
  BX3_readTerm_58 l0 l1 l2 l0 x14 h13
 else
  (hgi h13 l0 3 7).bind fun x15 =>
  BX3_readTerm_58 l0 l1 l2 l0 (-x15) h13
noncomputable def BX3_readTerm_17 (l0 : Nat) (l1 : Int32) (l2 : Int32) (s0 : Int32) (h : jx_H) : Option (Int32 × jx_H) :=
if s0 = 0 then
 BX3_readTerm_29 l0 l1 l2 s0 h
else
 (hgr h l0 3 0).bind fun x18 =>
 (isO h x18 7).bind fun _ =>
 (FX7_advance x18 h).bind fun h20 =>
 BX3_readTerm_29 l0 l1 l2 s0 h20
noncomputable def FX3_readTerm (l0 : Nat) (l1 : Int32) (l2 : Int32) (h : jx_H) : Option (Int32 × jx_H) :=
(hgr h l0 3 0).bind fun x22 =>
(hgi h x22 7 2).bind fun x23 =>
if x23 = (45 : Int32) then
 BX3_readTerm_17 l0 l1 l2 (1 : Int32) h
else
 BX3_readTerm_17 l0 l1 l2 (0 : Int32) h
def rmX3_readTerm : Room := { frames := 3, cells := 0, slots := 0, locals := 63 }
set_option maxRecDepth 20000 in
set_option maxHeartbeats 4000000 in
theorem sX3_readTerm {l0 : Nat} {l1 : Int32} {l2 : Int32} {h : jx_H} {r : Int32} {h9 : jx_H} (e : FX3_readTerm l0 l1 l2 h = some (r, h9)) : jx_Ct yX3_readTerm cX3_readTerm 4 (some .boolean) rmX3_readTerm [.ref l0, .int l1, .int l2] h (fun r' h' => some (.int r) = r' ∧ h9 = h') := by
  refine jx_Ct.of (own := RX3) (by decide) rfl (Nat.le_of_ble_eq_true rfl) (fun X C hq hr hL hN => ?_)
  refine jx_sub (lv' := [(0, .ref l0), (1, .int l1), (2, .int l2)]) [0, 1, 2] rfl ?_
  have b58 : ∀ (y25 : Nat) (y26 : Int32) (y27 : Int32) (y28 : Nat) (y29 : Int32) (h30 : jx_H), BX3_readTerm_58 y25 y26 y27 y28 y29 h30 = some (r, h9) → jx_J X 0 0 58 [(0, .ref y25), (1, .int y26), (2, .int y27)] [.int y29, .ref y28] h30 := by
    intro y25 y26 y27 y28 y29 h30 e
    unfold BX3_readTerm_58 at e
    refine j_iload_n C dX3_readTerm_58 rfl rfl ?_
    replace e := ob e
    obtain ⟨x31, ex31, e⟩ := e
    refine j_callSN (As := [.int y29, .int y27]) (na := 2) (st := [.ref y28]) (k1 := 0) (n1 := 0) C hr (sX9_residue ex31) kX3_71 kst_X9_residue kini_X9 kc_X9_residue (by decide) rfl ⟨(Nat.le_of_ble_eq_true rfl), (Nat.le_of_ble_eq_true rfl)⟩ (Nat.le_of_ble_eq_true rfl) ⟨rfl, rfl, (Nat.le_of_ble_eq_true rfl), (Nat.le_of_ble_eq_true rfl)⟩ dX3_readTerm_59 ?_
    rintro _ _ ⟨rfl, rfl⟩
    show jx_J X 0 0 62 [(0, .ref y25), (1, .int y26), (2, .int y27)] [.int x31, .ref y28] h30
    replace e := ob e
    obtain ⟨h32, eh32, e⟩ := e
    refine j_put (ci := 3) (RC := RX3) (T := TX3) (N := 11) (ty0 := tyX3) 8 C rfl klX3 tyX3_ok nmX3 (Nat.le_of_ble_eq_true rfl) kX3_68 rfl rfl rfl rfl dX3_readTerm_62 eh32 ?_
    refine j_aload_n C dX3_readTerm_65 rfl rfl ?_
    refine j_iload_n C dX3_readTerm_66 rfl rfl ?_
    replace e := ob e
    obtain ⟨_, eo33, e⟩ := e
    replace e := ob2 e
    obtain ⟨x34, h35, ex34, e⟩ := e
    refine j_callV (ci := 3) (RC := RX3) (T := TX3) (N := 11) (As := [.int y26]) (b := y25) (na := 1) (st := []) (k1 := 0) (n1 := 0) C hr (sX3_takeNumber ex34) rfl eo33 kX3_118 kim_X3_takeNumber ksel_X3_takeNumber kini_X3 kc_X3_takeNumber (by decide) rfl ⟨(Nat.le_of_ble_eq_true rfl), (Nat.le_of_ble_eq_true rfl)⟩ (Nat.le_of_ble_eq_true rfl) ⟨rfl, rfl, (Nat.le_of_ble_eq_true rfl), (Nat.le_of_ble_eq_true rfl)⟩ dX3_readTerm_67 ?_
    rintro _ _ ⟨rfl, rfl⟩
    show jx_J X 0 0 70 [(0, .ref y25), (1, .int y26), (2, .int y27)] [.int x34] h35
    refine j_if_eq (tgt := 85) C dX3_readTerm_70 (by decide) (fun c40 => ?_) (fun c40 => ?_)
    · replace e := ifp c40 e
      refine j_iconst (v := (0 : Int32)) C dX3_readTerm_85 (by decide) ?_
      cases e
      exact j_iret C hq rfl dX3_readTerm_86 ⟨Nat.le_of_ble_eq_true rfl, Nat.le_of_ble_eq_true rfl⟩ ⟨rfl, rfl⟩
    · replace e := ifn c40 e
      refine j_aload_n C dX3_readTerm_73 rfl rfl ?_
      refine j_iload_n C dX3_readTerm_74 rfl rfl ?_
      replace e := ob e
      obtain ⟨_, eo36, e⟩ := e
      replace e := ob2 e
      obtain ⟨x37, h38, ex37, e⟩ := e
      refine j_callV (ci := 3) (RC := RX3) (T := TX3) (N := 11) (As := [.int y26]) (b := y25) (na := 1) (st := []) (k1 := 0) (n1 := 0) C hr (sX3_takeNumber ex37) rfl eo36 kX3_118 kim_X3_takeNumber ksel_X3_takeNumber kini_X3 kc_X3_takeNumber (by decide) rfl ⟨(Nat.le_of_ble_eq_true rfl), (Nat.le_of_ble_eq_true rfl)⟩ (Nat.le_of_ble_eq_true rfl) ⟨rfl, rfl, (Nat.le_of_ble_eq_true rfl), (Nat.le_of_ble_eq_true rfl)⟩ dX3_readTerm_75 ?_
      rintro _ _ ⟨rfl, rfl⟩
      show jx_J X 0 0 78 [(0, .ref y25), (1, .int y26), (2, .int y27)] [.int x37] h38
      refine j_if_eq (tgt := 85) C dX3_readTerm_78 (by decide) (fun c39 => ?_) (fun c39 => ?_)
      · replace e := ifp c39 e
        refine j_iconst (v := (0 : Int32)) C dX3_readTerm_85 (by decide) ?_
        cases e
        exact j_iret C hq rfl dX3_readTerm_86 ⟨Nat.le_of_ble_eq_true rfl, Nat.le_of_ble_eq_true rfl⟩ ⟨rfl, rfl⟩
      · replace e := ifn c39 e
        refine j_iconst (v := (1 : Int32)) C dX3_readTerm_81 (by decide) ?_
        refine j_goto (tgt := 86) C dX3_readTerm_82 (by decide) ?_
        cases e
        exact j_iret C hq rfl dX3_readTerm_86 ⟨Nat.le_of_ble_eq_true rfl, Nat.le_of_ble_eq_true rfl⟩ ⟨rfl, rfl⟩
  have b29 : ∀ (y41 : Nat) (y42 : Int32) (y43 : Int32) (y44 : Int32) (h45 : jx_H), BX3_readTerm_29 y41 y42 y43 y44 h45 = some (r, h9) → jx_J X 0 0 29 [(0, .ref y41), (1, .int y42), (2, .int y43), (3, .int y44)] [] h45 := by
    intro y41 y42 y43 y44 h45 e
    unfold BX3_readTerm_29 at e
    refine j_aload_n C dX3_readTerm_29 rfl rfl ?_
    refine j_sipush (v := (999 : Int32)) C dX3_readTerm_30 (by decide) ?_
    replace e := ob e
    obtain ⟨_, eo46, e⟩ := e
    replace e := ob2 e
    obtain ⟨x47, h48, ex47, e⟩ := e
    refine j_callV (ci := 3) (RC := RX3) (T := TX3) (N := 11) (As := [.int (999 : Int32)]) (b := y41) (na := 1) (st := []) (k1 := 0) (n1 := 0) C hr (sX3_takeNumber ex47) rfl eo46 kX3_118 kim_X3_takeNumber ksel_X3_takeNumber kini_X3 kc_X3_takeNumber (by decide) rfl ⟨(Nat.le_of_ble_eq_true rfl), (Nat.le_of_ble_eq_true rfl)⟩ (Nat.le_of_ble_eq_true rfl) ⟨rfl, rfl, (Nat.le_of_ble_eq_true rfl), (Nat.le_of_ble_eq_true rfl)⟩ dX3_readTerm_33 ?_
    rintro _ _ ⟨rfl, rfl⟩
    show jx_J X 0 0 36 [(0, .ref y41), (1, .int y42), (2, .int y43), (3, .int y44)] [.int x47] h48
    refine j_if_ne (tgt := 41) C dX3_readTerm_36 (by decide) (fun c52 => ?_) (fun c52 => ?_)
    · replace e := ifn c52 e
      refine j_aload_n C dX3_readTerm_41 rfl rfl ?_
      refine j_iload_n C dX3_readTerm_42 rfl rfl ?_
      refine j_if_eq (tgt := 54) C dX3_readTerm_43 (by decide) (fun c51 => ?_) (fun c51 => ?_)
      · replace e := ifp c51 e
        refine j_aload_n C dX3_readTerm_54 rfl rfl ?_
        replace e := ob e
        obtain ⟨x49, ex49, e⟩ := e
        refine j_geti (ci := 3) (RC := RX3) (T := TX3) (N := 11) 7 C rfl klX3 (Nat.le_of_ble_eq_true rfl) kX3_65 rfl dX3_readTerm_55 ex49 ?_
        refine jx_sub (lv' := [(0, .ref y41), (1, .int y42), (2, .int y43)]) [0, 1, 2] rfl ?_
        exact b58 y41 y42 y43 y41 x49 h48 e
      · replace e := ifn c51 e
        refine j_aload_n C dX3_readTerm_46 rfl rfl ?_
        replace e := ob e
        obtain ⟨x50, ex50, e⟩ := e
        refine j_geti (ci := 3) (RC := RX3) (T := TX3) (N := 11) 7 C rfl klX3 (Nat.le_of_ble_eq_true rfl) kX3_65 rfl dX3_readTerm_47 ex50 ?_
        refine j_ineg C dX3_readTerm_50 ?_
        refine j_goto (tgt := 58) C dX3_readTerm_51 (by decide) ?_
        refine jx_sub (lv' := [(0, .ref y41), (1, .int y42), (2, .int y43)]) [0, 1, 2] rfl ?_
        exact b58 y41 y42 y43 y41 (-x50) h48 e
    · replace e := ifp c52 e
      refine j_iconst (v := (0 : Int32)) C dX3_readTerm_39 (by decide) ?_
      cases e
      exact j_iret C hq rfl dX3_readTerm_40 ⟨Nat.le_of_ble_eq_true rfl, Nat.le_of_ble_eq_true rfl⟩ ⟨rfl, rfl⟩
  have b17 : ∀ (y53 : Nat) (y54 : Int32) (y55 : Int32) (y56 : Int32) (h57 : jx_H), BX3_readTerm_17 y53 y54 y55 y56 h57 = some (r, h9) → jx_J X 0 0 17 [(0, .ref y53), (1, .int y54), (2, .int y55)] [.int y56] h57 := by
    intro y53 y54 y55 y56 h57 e
    unfold BX3_readTerm_17 at e
    refine j_istore_n (lv1 := [(3, .int y56), (0, .ref y53), (1, .int y54), (2, .int y55)]) C hL dX3_readTerm_17 rfl (Nat.le_of_ble_eq_true rfl) rfl ?_
    refine j_iload_n C dX3_readTerm_18 rfl rfl ?_
    refine j_if_eq (tgt := 29) C dX3_readTerm_19 (by decide) (fun c61 => ?_) (fun c61 => ?_)
    · replace e := ifp c61 e
      refine jx_sub (lv' := [(0, .ref y53), (1, .int y54), (2, .int y55), (3, .int y56)]) [1, 2, 3, 0] rfl ?_
      exact b29 y53 y54 y55 y56 h57 e
    · replace e := ifn c61 e
      refine j_aload_n C dX3_readTerm_22 rfl rfl ?_
      replace e := ob e
      obtain ⟨x58, ex58, e⟩ := e
      refine j_getr (ci := 3) (RC := RX3) (T := TX3) (N := 11) 0 C rfl klX3 (Nat.le_of_ble_eq_true rfl) kX3_26 rfl dX3_readTerm_23 ex58 ?_
      replace e := ob e
      obtain ⟨_, eo59, e⟩ := e
      replace e := ob e
      obtain ⟨h60, eh60, e⟩ := e
      refine j_callV (ci := 7) (RC := RX7) (T := TX7) (N := 6) (As := []) (b := x58) (na := 0) (st := []) (k1 := 0) (n1 := 0) C hr (sX7_advance eh60) rfl eo59 kX3_115 kim_X7_advance ksel_X7_advance kini_X7 kc_X7_advance (by decide) rfl ⟨(Nat.le_of_ble_eq_true rfl), (Nat.le_of_ble_eq_true rfl)⟩ (Nat.le_of_ble_eq_true rfl) ⟨rfl, rfl, (Nat.le_of_ble_eq_true rfl), (Nat.le_of_ble_eq_true rfl)⟩ dX3_readTerm_26 ?_
      rintro _ _ ⟨rfl, rfl⟩
      show jx_J X 0 0 29 [(3, .int y56), (0, .ref y53), (1, .int y54), (2, .int y55)] [] h60
      refine jx_sub (lv' := [(0, .ref y53), (1, .int y54), (2, .int y55), (3, .int y56)]) [1, 2, 3, 0] rfl ?_
      exact b29 y53 y54 y55 y56 h60 e
  unfold FX3_readTerm at e
  refine j_aload_n C dX3_readTerm_0 rfl rfl ?_
  replace e := ob e
  obtain ⟨x62, ex62, e⟩ := e
  refine j_getr (ci := 3) (RC := RX3) (T := TX3) (N := 11) 0 C rfl klX3 (Nat.le_of_ble_eq_true rfl) kX3_26 rfl dX3_readTerm_1 ex62 ?_
  replace e := ob e
  obtain ⟨x63, ex63, e⟩ := e
  refine j_geti (ci := 7) (RC := RX7) (T := TX7) (N := 6) 2 C rfl klX7 (Nat.le_of_ble_eq_true rfl) kX3_39 rfl dX3_readTerm_4 ex63 ?_
  refine j_bipush (v := (45 : Int32)) C dX3_readTerm_7 (by decide) ?_
  refine j_icmp_ne (tgt := 16) C dX3_readTerm_9 (by decide) (fun c64 => ?_) (fun c64 => ?_)
  · replace e := ifn c64 e
    refine j_iconst (v := (0 : Int32)) C dX3_readTerm_16 (by decide) ?_
    exact b17 l0 l1 l2 (0 : Int32) h e
  · replace e := ifp c64 e
    refine j_iconst (v := (1 : Int32)) C dX3_readTerm_12 (by decide) ?_
    refine j_goto (tgt := 17) C dX3_readTerm_13 (by decide) ?_
    exact b17 l0 l1 l2 (1 : Int32) h e
/-! BorderBasis$Parser.readRuleTerms()Z -/
noncomputable def LX3_readRuleTerms_18 (l0 : Nat) (l1 : Int32) (l2 : Int32) (h : jx_H) : Option ((Int32 × Int32 × jx_H) ⊕ (Int32 × jx_H)) :=
if (900 : Int32) ≤ l2 then
 exL (some ((1 : Int32), h))
else
 (hgr h l0 3 2).bind fun x3 =>
 (hgi h x3 5 0).bind fun x4 =>
 (isO h l0 3).bind fun _ =>
 bind2 (FX3_readTerm l0 (11 : Int32) x4 h) fun x6 h7 =>
 if x6 = 0 then
  exL (some ((0 : Int32), h7))
 else
  (hgr h7 l0 3 2).bind fun x8 =>
  (hgi h7 l0 3 6).bind fun x9 =>
  (hgi h7 l0 3 7).bind fun x10 =>
  (isO h7 x8 5).bind fun _ =>
  (FX5_numberOf x8 x9 x10 h7).bind fun x12 =>
  if x12 = (-1 : Int32) then
   exL ((hgi h7 l0 3 9).bind fun x30 =>
   (isO h7 l0 3).bind fun _ =>
   bind2 (FX3_fail l0 (4 : Int32) x30 h7) fun x32 h33 =>
   if x32 = 0 ∨ x32 = 1 then some (x32, h33) else none)
  else
   if (l1 &&& ((1 : Int32) <<< (x12 &&& 31))) = 0 then
    (hgr h7 l0 3 2).bind fun x13 =>
    (hgi h7 l0 3 10).bind fun x14 =>
    (hgi h7 l0 3 8).bind fun x15 =>
    (isO h7 x13 5).bind fun _ =>
    (FX5_setCoefficient x13 x14 x12 x15 h7).bind fun h17 =>
    (hgr h17 l0 3 0).bind fun x18 =>
    (hgi h17 x18 7 2).bind fun x19 =>
    if x19 = (44 : Int32) then
     (hgr h17 l0 3 0).bind fun x20 =>
     (isO h17 x20 7).bind fun _ =>
     (FX7_advance x20 h17).bind fun h22 =>
     some (.inl ((l1 ||| ((1 : Int32) <<< (x12 &&& 31))), (l2 + (1 : Int32)), h22))
    else
     exL (some ((1 : Int32), h17))
   else
    exL ((hgi h7 l0 3 9).bind fun x24 =>
    (isO h7 l0 3).bind fun _ =>
    bind2 (FX3_fail l0 (5 : Int32) x24 h7) fun x26 h27 =>
    if x26 = 0 ∨ x26 = 1 then some (x26, h27) else none)
noncomputable def FX3_readRuleTerms (l0 : Nat) (h : jx_H) : Option (Int32 × jx_H) :=
(hgr h l0 3 0).bind fun x1 =>
(hgi h x1 7 2).bind fun x2 =>
if x2 = (59 : Int32) then
 some ((1 : Int32), h)
else
 itr (fun s : Int32 × Int32 × jx_H => LX3_readRuleTerms_18 l0 s.1 s.2.1 s.2.2) ((0 : Int32), (0 : Int32), h)
def rmX3_readRuleTerms : Room := { frames := 4, cells := 0, slots := 0, locals := 86 }
set_option maxRecDepth 20000 in
set_option maxHeartbeats 4000000 in
theorem sX3_readRuleTerms {l0 : Nat} {h : jx_H} {r : Int32} {h9 : jx_H} (e : FX3_readRuleTerms l0 h = some (r, h9)) : jx_Ct yX3_readRuleTerms cX3_readRuleTerms 4 (some .boolean) rmX3_readRuleTerms [.ref l0] h (fun r' h' => some (.int r) = r' ∧ h9 = h') := by
  refine jx_Ct.of (own := RX3) (by decide) rfl (Nat.le_of_ble_eq_true rfl) (fun X C hq hr hL hN => ?_)
  refine jx_sub (lv' := [(0, .ref l0)]) [0] rfl ?_
  unfold FX3_readRuleTerms at e
  refine j_aload_n C dX3_readRuleTerms_0 rfl rfl ?_
  replace e := ob e
  obtain ⟨x39, ex39, e⟩ := e
  refine j_getr (ci := 3) (RC := RX3) (T := TX3) (N := 11) 0 C rfl klX3 (Nat.le_of_ble_eq_true rfl) kX3_26 rfl dX3_readRuleTerms_1 ex39 ?_
  replace e := ob e
  obtain ⟨x40, ex40, e⟩ := e
  refine j_geti (ci := 7) (RC := RX7) (T := TX7) (N := 6) 2 C rfl klX7 (Nat.le_of_ble_eq_true rfl) kX3_39 rfl dX3_readRuleTerms_4 ex40 ?_
  refine j_bipush (v := (59 : Int32)) C dX3_readRuleTerms_7 (by decide) ?_
  refine j_icmp_ne (tgt := 14) C dX3_readRuleTerms_9 (by decide) (fun c79 => ?_) (fun c79 => ?_)
  · replace e := ifn c79 e
    refine j_iconst (v := (0 : Int32)) C dX3_readRuleTerms_14 (by decide) ?_
    refine j_istore_n (lv1 := [(1, .int (0 : Int32)), (0, .ref l0)]) C hL dX3_readRuleTerms_15 rfl (Nat.le_of_ble_eq_true rfl) rfl ?_
    refine j_iconst (v := (0 : Int32)) C dX3_readRuleTerms_16 (by decide) ?_
    refine j_istore_n (lv1 := [(2, .int (0 : Int32)), (1, .int (0 : Int32)), (0, .ref l0)]) C hL dX3_readRuleTerms_17 rfl (Nat.le_of_ble_eq_true rfl) rfl ?_
    refine jx_sub (lv' := [(0, .ref l0), (1, .int (0 : Int32)), (2, .int (0 : Int32))]) [2, 1, 0] rfl ?_
    refine itr_ind (s0 := ((0 : Int32), (0 : Int32), h)) (fun s : Int32 × Int32 × jx_H => jx_J X 0 0 18 [(0, .ref l0), (1, .int s.1), (2, .int s.2.1)] [] s.2.2) e ?_
    clear e
    intro s kI6 kT6 e0
    obtain ⟨z41, z42, h43⟩ := s
    obtain ⟨u6, e0_6⟩ := e0
    have e : LX3_readRuleTerms_18 l0 z41 z42 h43 = some u6 := e0_6
    unfold LX3_readRuleTerms_18 at e
    refine j_iload_n C dX3_readRuleTerms_18 rfl rfl ?_
    refine j_sipush (v := (900 : Int32)) C dX3_readRuleTerms_19 (by decide) ?_
    refine j_icmp_ge (tgt := 141) C dX3_readRuleTerms_22 (by decide) (fun c78 => ?_) (fun c78 => ?_)
    · replace e := ifp c78 e
      obtain ⟨t_7, e_7, eu_7⟩ := exL_spec e
      obtain rfl := kT6 t_7 (e0_6.trans (congrArg some eu_7))
      replace e := e_7
      refine j_iconst (v := (1 : Int32)) C dX3_readRuleTerms_141 (by decide) ?_
      cases e
      exact j_iret C hq rfl dX3_readRuleTerms_142 ⟨Nat.le_of_ble_eq_true rfl, Nat.le_of_ble_eq_true rfl⟩ ⟨rfl, rfl⟩
    · replace e := ifn c78 e
      refine j_aload_n C dX3_readRuleTerms_25 rfl rfl ?_
      refine j_bipush (v := (11 : Int32)) C dX3_readRuleTerms_26 (by decide) ?_
      refine j_aload_n C dX3_readRuleTerms_28 rfl rfl ?_
      replace e := ob e
      obtain ⟨x44, ex44, e⟩ := e
      refine j_getr (ci := 3) (RC := RX3) (T := TX3) (N := 11) 2 C rfl klX3 (Nat.le_of_ble_eq_true rfl) kX3_12 rfl dX3_readRuleTerms_29 ex44 ?_
      replace e := ob e
      obtain ⟨x45, ex45, e⟩ := e
      refine j_geti (ci := 5) (RC := RX5) (T := TX5) (N := 12) 0 C rfl klX5 (Nat.le_of_ble_eq_true rfl) kX3_127 rfl dX3_readRuleTerms_32 ex45 ?_
      replace e := ob e
      obtain ⟨_, eo46, e⟩ := e
      replace e := ob2 e
      obtain ⟨x47, h48, ex47, e⟩ := e
      refine j_callV (ci := 3) (RC := RX3) (T := TX3) (N := 11) (As := [.int (11 : Int32), .int x45]) (b := l0) (na := 2) (st := []) (k1 := 0) (n1 := 0) C hr (sX3_readTerm ex47) rfl eo46 kX3_58 kim_X3_readTerm ksel_X3_readTerm kini_X3 kc_X3_readTerm (by decide) rfl ⟨(Nat.le_of_ble_eq_true rfl), (Nat.le_of_ble_eq_true rfl)⟩ (Nat.le_of_ble_eq_true rfl) ⟨rfl, rfl, (Nat.le_of_ble_eq_true rfl), (Nat.le_of_ble_eq_true rfl)⟩ dX3_readRuleTerms_35 ?_
      rintro _ _ ⟨rfl, rfl⟩
      show jx_J X 0 0 38 [(0, .ref l0), (1, .int z41), (2, .int z42)] [.int x47] h48
      refine j_if_ne (tgt := 43) C dX3_readRuleTerms_38 (by decide) (fun c77 => ?_) (fun c77 => ?_)
      · replace e := ifn c77 e
        refine j_aload_n C dX3_readRuleTerms_43 rfl rfl ?_
        replace e := ob e
        obtain ⟨x49, ex49, e⟩ := e
        refine j_getr (ci := 3) (RC := RX3) (T := TX3) (N := 11) 2 C rfl klX3 (Nat.le_of_ble_eq_true rfl) kX3_12 rfl dX3_readRuleTerms_44 ex49 ?_
        refine j_aload_n C dX3_readRuleTerms_47 rfl rfl ?_
        replace e := ob e
        obtain ⟨x50, ex50, e⟩ := e
        refine j_geti (ci := 3) (RC := RX3) (T := TX3) (N := 11) 6 C rfl klX3 (Nat.le_of_ble_eq_true rfl) kX3_62 rfl dX3_readRuleTerms_48 ex50 ?_
        refine j_aload_n C dX3_readRuleTerms_51 rfl rfl ?_
        replace e := ob e
        obtain ⟨x51, ex51, e⟩ := e
        refine j_geti (ci := 3) (RC := RX3) (T := TX3) (N := 11) 7 C rfl klX3 (Nat.le_of_ble_eq_true rfl) kX3_65 rfl dX3_readRuleTerms_52 ex51 ?_
        replace e := ob e
        obtain ⟨_, eo52, e⟩ := e
        replace e := ob e
        obtain ⟨x53, ex53, e⟩ := e
        refine j_callV (ci := 5) (RC := RX5) (T := TX5) (N := 12) (As := [.int x50, .int x51]) (b := x49) (na := 2) (st := []) (k1 := 0) (n1 := 0) C hr (sX5_numberOf ex53) rfl eo52 kX3_151 kim_X5_numberOf ksel_X5_numberOf kini_X5 kc_X5_numberOf (by decide) rfl ⟨(Nat.le_of_ble_eq_true rfl), (Nat.le_of_ble_eq_true rfl)⟩ (Nat.le_of_ble_eq_true rfl) ⟨rfl, rfl, (Nat.le_of_ble_eq_true rfl), (Nat.le_of_ble_eq_true rfl)⟩ dX3_readRuleTerms_55 ?_
        rintro _ _ ⟨rfl, rfl⟩
        show jx_J X 0 0 58 [(0, .ref l0), (1, .int z41), (2, .int z42)] [.int x53] h48
        refine j_istore_n (lv1 := [(3, .int x53), (0, .ref l0), (1, .int z41), (2, .int z42)]) C hL dX3_readRuleTerms_58 rfl (Nat.le_of_ble_eq_true rfl) rfl ?_
        refine j_iload_n C dX3_readRuleTerms_59 rfl rfl ?_
        refine j_iconst (v := (-1 : Int32)) C dX3_readRuleTerms_60 (by decide) ?_
        refine j_icmp_ne (tgt := 74) C dX3_readRuleTerms_61 (by decide) (fun c76 => ?_) (fun c76 => ?_)
        · replace e := ifn c76 e
          refine j_iload_n C dX3_readRuleTerms_74 rfl rfl ?_
          refine j_iconst (v := (1 : Int32)) C dX3_readRuleTerms_75 (by decide) ?_
          refine j_iload_n C dX3_readRuleTerms_76 rfl rfl ?_
          refine j_ishl C dX3_readRuleTerms_77 ?_
          refine j_iand C dX3_readRuleTerms_78 ?_
          refine j_if_eq (tgt := 92) C dX3_readRuleTerms_79 (by decide) (fun c70 => ?_) (fun c70 => ?_)
          · replace e := ifp c70 e
            refine j_iload_n C dX3_readRuleTerms_92 rfl rfl ?_
            refine j_iconst (v := (1 : Int32)) C dX3_readRuleTerms_93 (by decide) ?_
            refine j_iload_n C dX3_readRuleTerms_94 rfl rfl ?_
            refine j_ishl C dX3_readRuleTerms_95 ?_
            refine j_ior C dX3_readRuleTerms_96 ?_
            refine j_istore_n (lv1 := [(1, .int (z41 ||| ((1 : Int32) <<< (x53 &&& 31)))), (3, .int x53), (0, .ref l0), (2, .int z42)]) C hL dX3_readRuleTerms_97 rfl (Nat.le_of_ble_eq_true rfl) rfl ?_
            refine j_aload_n C dX3_readRuleTerms_98 rfl rfl ?_
            replace e := ob e
            obtain ⟨x54, ex54, e⟩ := e
            refine j_getr (ci := 3) (RC := RX3) (T := TX3) (N := 11) 2 C rfl klX3 (Nat.le_of_ble_eq_true rfl) kX3_12 rfl dX3_readRuleTerms_99 ex54 ?_
            refine j_aload_n C dX3_readRuleTerms_102 rfl rfl ?_
            replace e := ob e
            obtain ⟨x55, ex55, e⟩ := e
            refine j_geti (ci := 3) (RC := RX3) (T := TX3) (N := 11) 10 C rfl klX3 (Nat.le_of_ble_eq_true rfl) kX3_142 rfl dX3_readRuleTerms_103 ex55 ?_
            refine j_iload_n C dX3_readRuleTerms_106 rfl rfl ?_
            refine j_aload_n C dX3_readRuleTerms_107 rfl rfl ?_
            replace e := ob e
            obtain ⟨x56, ex56, e⟩ := e
            refine j_geti (ci := 3) (RC := RX3) (T := TX3) (N := 11) 8 C rfl klX3 (Nat.le_of_ble_eq_true rfl) kX3_68 rfl dX3_readRuleTerms_108 ex56 ?_
            replace e := ob e
            obtain ⟨_, eo57, e⟩ := e
            replace e := ob e
            obtain ⟨h58, eh58, e⟩ := e
            refine j_callV (ci := 5) (RC := RX5) (T := TX5) (N := 12) (As := [.int x55, .int x53, .int x56]) (b := x54) (na := 3) (st := []) (k1 := 0) (n1 := 0) C hr (sX5_setCoefficient eh58) rfl eo57 kX3_154 kim_X5_setCoefficient ksel_X5_setCoefficient kini_X5 kc_X5_setCoefficient (by decide) rfl ⟨(Nat.le_of_ble_eq_true rfl), (Nat.le_of_ble_eq_true rfl)⟩ (Nat.le_of_ble_eq_true rfl) ⟨rfl, rfl, (Nat.le_of_ble_eq_true rfl), (Nat.le_of_ble_eq_true rfl)⟩ dX3_readRuleTerms_111 ?_
            rintro _ _ ⟨rfl, rfl⟩
            show jx_J X 0 0 114 [(1, .int (z41 ||| ((1 : Int32) <<< (x53 &&& 31)))), (3, .int x53), (0, .ref l0), (2, .int z42)] [] h58
            refine j_aload_n C dX3_readRuleTerms_114 rfl rfl ?_
            replace e := ob e
            obtain ⟨x59, ex59, e⟩ := e
            refine j_getr (ci := 3) (RC := RX3) (T := TX3) (N := 11) 0 C rfl klX3 (Nat.le_of_ble_eq_true rfl) kX3_26 rfl dX3_readRuleTerms_115 ex59 ?_
            replace e := ob e
            obtain ⟨x60, ex60, e⟩ := e
            refine j_geti (ci := 7) (RC := RX7) (T := TX7) (N := 6) 2 C rfl klX7 (Nat.le_of_ble_eq_true rfl) kX3_39 rfl dX3_readRuleTerms_118 ex60 ?_
            refine j_bipush (v := (44 : Int32)) C dX3_readRuleTerms_121 (by decide) ?_
            refine j_icmp_eq (tgt := 128) C dX3_readRuleTerms_123 (by decide) (fun c64 => ?_) (fun c64 => ?_)
            · replace e := ifp c64 e
              refine j_aload_n C dX3_readRuleTerms_128 rfl rfl ?_
              replace e := ob e
              obtain ⟨x61, ex61, e⟩ := e
              refine j_getr (ci := 3) (RC := RX3) (T := TX3) (N := 11) 0 C rfl klX3 (Nat.le_of_ble_eq_true rfl) kX3_26 rfl dX3_readRuleTerms_129 ex61 ?_
              replace e := ob e
              obtain ⟨_, eo62, e⟩ := e
              replace e := ob e
              obtain ⟨h63, eh63, e⟩ := e
              refine j_callV (ci := 7) (RC := RX7) (T := TX7) (N := 6) (As := []) (b := x61) (na := 0) (st := []) (k1 := 0) (n1 := 0) C hr (sX7_advance eh63) rfl eo62 kX3_115 kim_X7_advance ksel_X7_advance kini_X7 kc_X7_advance (by decide) rfl ⟨(Nat.le_of_ble_eq_true rfl), (Nat.le_of_ble_eq_true rfl)⟩ (Nat.le_of_ble_eq_true rfl) ⟨rfl, rfl, (Nat.le_of_ble_eq_true rfl), (Nat.le_of_ble_eq_true rfl)⟩ dX3_readRuleTerms_132 ?_
              rintro _ _ ⟨rfl, rfl⟩
              show jx_J X 0 0 135 [(1, .int (z41 ||| ((1 : Int32) <<< (x53 &&& 31)))), (3, .int x53), (0, .ref l0), (2, .int z42)] [] h63
              refine j_iinc (v := (z42 + (1 : Int32))) (lv1 := [(2, .int (z42 + (1 : Int32))), (1, .int (z41 ||| ((1 : Int32) <<< (x53 &&& 31)))), (3, .int x53), (0, .ref l0)]) C hL dX3_readRuleTerms_135 rfl rfl (Nat.le_of_ble_eq_true rfl) rfl ?_
              refine j_goto (tgt := 18) C dX3_readRuleTerms_138 (by decide) ?_
              obtain rfl := Option.some.inj e
              refine jx_sub (lv' := [(0, .ref l0), (1, .int (z41 ||| ((1 : Int32) <<< (x53 &&& 31)))), (2, .int (z42 + (1 : Int32)))]) [3, 1, 0] rfl ?_
              exact kI6 ((z41 ||| ((1 : Int32) <<< (x53 &&& 31))), (z42 + (1 : Int32)), h63) e0_6
            · replace e := ifn c64 e
              obtain ⟨t_8, e_8, eu_8⟩ := exL_spec e
              obtain rfl := kT6 t_8 (e0_6.trans (congrArg some eu_8))
              replace e := e_8
              refine j_iconst (v := (1 : Int32)) C dX3_readRuleTerms_126 (by decide) ?_
              cases e
              exact j_iret C hq rfl dX3_readRuleTerms_127 ⟨Nat.le_of_ble_eq_true rfl, Nat.le_of_ble_eq_true rfl⟩ ⟨rfl, rfl⟩
          · replace e := ifn c70 e
            obtain ⟨t_9, e_9, eu_9⟩ := exL_spec e
            obtain rfl := kT6 t_9 (e0_6.trans (congrArg some eu_9))
            replace e := e_9
            refine j_aload_n C dX3_readRuleTerms_82 rfl rfl ?_
            refine j_iconst (v := (5 : Int32)) C dX3_readRuleTerms_83 (by decide) ?_
            refine j_aload_n C dX3_readRuleTerms_84 rfl rfl ?_
            replace e := ob e
            obtain ⟨x65, ex65, e⟩ := e
            refine j_geti (ci := 3) (RC := RX3) (T := TX3) (N := 11) 9 C rfl klX3 (Nat.le_of_ble_eq_true rfl) kX3_124 rfl dX3_readRuleTerms_85 ex65 ?_
            replace e := ob e
            obtain ⟨_, eo66, e⟩ := e
            replace e := ob2 e
            obtain ⟨x67, h68, ex67, e⟩ := e
            refine j_callV (ci := 3) (RC := RX3) (T := TX3) (N := 11) (As := [.int (5 : Int32), .int x65]) (b := l0) (na := 2) (st := []) (k1 := 0) (n1 := 0) C hr (sX3_fail ex67) rfl eo66 kX3_112 kim_X3_fail ksel_X3_fail kini_X3 kc_X3_fail (by decide) rfl ⟨(Nat.le_of_ble_eq_true rfl), (Nat.le_of_ble_eq_true rfl)⟩ (Nat.le_of_ble_eq_true rfl) ⟨rfl, rfl, (Nat.le_of_ble_eq_true rfl), (Nat.le_of_ble_eq_true rfl)⟩ dX3_readRuleTerms_88 ?_
            rintro _ _ ⟨rfl, rfl⟩
            show jx_J X 0 0 91 [(3, .int x53), (0, .ref l0), (1, .int z41), (2, .int z42)] [.int x67] h68
            by_cases c69 : ¬ (x67 = 0 ∨ x67 = 1)
            · exact nos (ifn c69 e)
            replace c69 := Classical.not_not.mp c69
            replace e := ifp c69 e
            cases e
            exact j_iret C hq (jx_bool c69) dX3_readRuleTerms_91 ⟨Nat.le_of_ble_eq_true rfl, Nat.le_of_ble_eq_true rfl⟩ ⟨rfl, rfl⟩
        · replace e := ifp c76 e
          obtain ⟨t_10, e_10, eu_10⟩ := exL_spec e
          obtain rfl := kT6 t_10 (e0_6.trans (congrArg some eu_10))
          replace e := e_10
          refine j_aload_n C dX3_readRuleTerms_64 rfl rfl ?_
          refine j_iconst (v := (4 : Int32)) C dX3_readRuleTerms_65 (by decide) ?_
          refine j_aload_n C dX3_readRuleTerms_66 rfl rfl ?_
          replace e := ob e
          obtain ⟨x71, ex71, e⟩ := e
          refine j_geti (ci := 3) (RC := RX3) (T := TX3) (N := 11) 9 C rfl klX3 (Nat.le_of_ble_eq_true rfl) kX3_124 rfl dX3_readRuleTerms_67 ex71 ?_
          replace e := ob e
          obtain ⟨_, eo72, e⟩ := e
          replace e := ob2 e
          obtain ⟨x73, h74, ex73, e⟩ := e
          refine j_callV (ci := 3) (RC := RX3) (T := TX3) (N := 11) (As := [.int (4 : Int32), .int x71]) (b := l0) (na := 2) (st := []) (k1 := 0) (n1 := 0) C hr (sX3_fail ex73) rfl eo72 kX3_112 kim_X3_fail ksel_X3_fail kini_X3 kc_X3_fail (by decide) rfl ⟨(Nat.le_of_ble_eq_true rfl), (Nat.le_of_ble_eq_true rfl)⟩ (Nat.le_of_ble_eq_true rfl) ⟨rfl, rfl, (Nat.le_of_ble_eq_true rfl), (Nat.le_of_ble_eq_true rfl)⟩ dX3_readRuleTerms_70 ?_
          rintro _ _ ⟨rfl, rfl⟩
          show jx_J X 0 0 73 [(3, .int x53), (0, .ref l0), (1, .int z41), (2, .int z42)] [.int x73] h74
          by_cases c75 : ¬ (x73 = 0 ∨ x73 = 1)
          · exact nos (ifn c75 e)
          replace c75 := Classical.not_not.mp c75
          replace e := ifp c75 e
          cases e
          exact j_iret C hq (jx_bool c75) dX3_readRuleTerms_73 ⟨Nat.le_of_ble_eq_true rfl, Nat.le_of_ble_eq_true rfl⟩ ⟨rfl, rfl⟩
      · replace e := ifp c77 e
        obtain ⟨t_11, e_11, eu_11⟩ := exL_spec e
        obtain rfl := kT6 t_11 (e0_6.trans (congrArg some eu_11))
        replace e := e_11
        refine j_iconst (v := (0 : Int32)) C dX3_readRuleTerms_41 (by decide) ?_
        cases e
        exact j_iret C hq rfl dX3_readRuleTerms_42 ⟨Nat.le_of_ble_eq_true rfl, Nat.le_of_ble_eq_true rfl⟩ ⟨rfl, rfl⟩
  · replace e := ifp c79 e
    refine j_iconst (v := (1 : Int32)) C dX3_readRuleTerms_12 (by decide) ?_
    cases e
    exact j_iret C hq rfl dX3_readRuleTerms_13 ⟨Nat.le_of_ble_eq_true rfl, Nat.le_of_ble_eq_true rfl⟩ ⟨rfl, rfl⟩
/-! BorderBasis$Parser.takeSymbol(I)Z -/
noncomputable def FX3_takeSymbol (l0 : Nat) (l1 : Int32) (h : jx_H) : Option (Int32 × jx_H) :=
(hgr h l0 3 0).bind fun x1 =>
(hgi h x1 7 2).bind fun x2 =>
if x2 = l1 then
 (hgr h l0 3 0).bind fun x3 =>
 (isO h x3 7).bind fun _ =>
 (FX7_advance x3 h).bind fun h5 =>
 some ((1 : Int32), h5)
else
 (hgr h l0 3 0).bind fun x6 =>
 (hgi h x6 7 3).bind fun x7 =>
 (isO h l0 3).bind fun _ =>
 bind2 (FX3_fail l0 (1 : Int32) x7 h) fun x9 h10 =>
 if x9 = 0 ∨ x9 = 1 then some (x9, h10) else none
def rmX3_takeSymbol : Room := { frames := 2, cells := 0, slots := 0, locals := 42 }
set_option maxRecDepth 20000 in
set_option maxHeartbeats 4000000 in
theorem sX3_takeSymbol {l0 : Nat} {l1 : Int32} {h : jx_H} {r : Int32} {h9 : jx_H} (e : FX3_takeSymbol l0 l1 h = some (r, h9)) : jx_Ct yX3_takeSymbol cX3_takeSymbol 2 (some .boolean) rmX3_takeSymbol [.ref l0, .int l1] h (fun r' h' => some (.int r) = r' ∧ h9 = h') := by
  refine jx_Ct.of (own := RX3) (by decide) rfl (Nat.le_of_ble_eq_true rfl) (fun X C hq hr hL hN => ?_)
  refine jx_sub (lv' := [(0, .ref l0), (1, .int l1)]) [0, 1] rfl ?_
  unfold FX3_takeSymbol at e
  refine j_aload_n C dX3_takeSymbol_0 rfl rfl ?_
  replace e := ob e
  obtain ⟨x13, ex13, e⟩ := e
  refine j_getr (ci := 3) (RC := RX3) (T := TX3) (N := 11) 0 C rfl klX3 (Nat.le_of_ble_eq_true rfl) kX3_26 rfl dX3_takeSymbol_1 ex13 ?_
  replace e := ob e
  obtain ⟨x14, ex14, e⟩ := e
  refine j_geti (ci := 7) (RC := RX7) (T := TX7) (N := 6) 2 C rfl klX7 (Nat.le_of_ble_eq_true rfl) kX3_39 rfl dX3_takeSymbol_4 ex14 ?_
  refine j_iload_n C dX3_takeSymbol_7 rfl rfl ?_
  refine j_icmp_eq (tgt := 24) C dX3_takeSymbol_8 (by decide) (fun c24 => ?_) (fun c24 => ?_)
  · replace e := ifp c24 e
    refine j_aload_n C dX3_takeSymbol_24 rfl rfl ?_
    replace e := ob e
    obtain ⟨x15, ex15, e⟩ := e
    refine j_getr (ci := 3) (RC := RX3) (T := TX3) (N := 11) 0 C rfl klX3 (Nat.le_of_ble_eq_true rfl) kX3_26 rfl dX3_takeSymbol_25 ex15 ?_
    replace e := ob e
    obtain ⟨_, eo16, e⟩ := e
    replace e := ob e
    obtain ⟨h17, eh17, e⟩ := e
    refine j_callV (ci := 7) (RC := RX7) (T := TX7) (N := 6) (As := []) (b := x15) (na := 0) (st := []) (k1 := 0) (n1 := 0) C hr (sX7_advance eh17) rfl eo16 kX3_115 kim_X7_advance ksel_X7_advance kini_X7 kc_X7_advance (by decide) rfl ⟨(Nat.le_of_ble_eq_true rfl), (Nat.le_of_ble_eq_true rfl)⟩ (Nat.le_of_ble_eq_true rfl) ⟨rfl, rfl, (Nat.le_of_ble_eq_true rfl), (Nat.le_of_ble_eq_true rfl)⟩ dX3_takeSymbol_28 ?_
    rintro _ _ ⟨rfl, rfl⟩
    show jx_J X 0 0 31 [(0, .ref l0), (1, .int l1)] [] h17
    refine j_iconst (v := (1 : Int32)) C dX3_takeSymbol_31 (by decide) ?_
    cases e
    exact j_iret C hq rfl dX3_takeSymbol_32 ⟨Nat.le_of_ble_eq_true rfl, Nat.le_of_ble_eq_true rfl⟩ ⟨rfl, rfl⟩
  · replace e := ifn c24 e
    refine j_aload_n C dX3_takeSymbol_11 rfl rfl ?_
    refine j_iconst (v := (1 : Int32)) C dX3_takeSymbol_12 (by decide) ?_
    refine j_aload_n C dX3_takeSymbol_13 rfl rfl ?_
    replace e := ob e
    obtain ⟨x18, ex18, e⟩ := e
    refine j_getr (ci := 3) (RC := RX3) (T := TX3) (N := 11) 0 C rfl klX3 (Nat.le_of_ble_eq_true rfl) kX3_26 rfl dX3_takeSymbol_14 ex18 ?_
    replace e := ob e
    obtain ⟨x19, ex19, e⟩ := e
    refine j_geti (ci := 7) (RC := RX7) (T := TX7) (N := 6) 3 C rfl klX7 (Nat.le_of_ble_eq_true rfl) kX3_109 rfl dX3_takeSymbol_17 ex19 ?_
    replace e := ob e
    obtain ⟨_, eo20, e⟩ := e
    replace e := ob2 e
    obtain ⟨x21, h22, ex21, e⟩ := e
    refine j_callV (ci := 3) (RC := RX3) (T := TX3) (N := 11) (As := [.int (1 : Int32), .int x19]) (b := l0) (na := 2) (st := []) (k1 := 0) (n1 := 0) C hr (sX3_fail ex21) rfl eo20 kX3_112 kim_X3_fail ksel_X3_fail kini_X3 kc_X3_fail (by decide) rfl ⟨(Nat.le_of_ble_eq_true rfl), (Nat.le_of_ble_eq_true rfl)⟩ (Nat.le_of_ble_eq_true rfl) ⟨rfl, rfl, (Nat.le_of_ble_eq_true rfl), (Nat.le_of_ble_eq_true rfl)⟩ dX3_takeSymbol_20 ?_
    rintro _ _ ⟨rfl, rfl⟩
    show jx_J X 0 0 23 [(0, .ref l0), (1, .int l1)] [.int x21] h22
    by_cases c23 : ¬ (x21 = 0 ∨ x21 = 1)
    · exact nos (ifn c23 e)
    replace c23 := Classical.not_not.mp c23
    replace e := ifp c23 e
    cases e
    exact j_iret C hq (jx_bool c23) dX3_takeSymbol_23 ⟨Nat.le_of_ble_eq_true rfl, Nat.le_of_ble_eq_true rfl⟩ ⟨rfl, rfl⟩
/-! BorderBasis$Parser.readPolynomial(I)Z -/
noncomputable def BX3_readPolynomial_80 (l0 : Nat) (l1 : Int32) (l2 : Int32) (h : jx_H) : Option ((Int32 × jx_H) ⊕ (Int32 × jx_H)) :=
(hgr h l0 3 0).bind fun x5 =>
(hgi h x5 7 2).bind fun x6 =>
if x6 = 0 then
 exL (some ((1 : Int32), h))
else
 (isO h l0 3).bind fun _ =>
 bind2 (FX3_takeSymbol l0 (44 : Int32) h) fun x8 h9 =>
 if x8 = 0 then
  exL (some ((0 : Int32), h9))
 else
  some (.inl ((l2 + (1 : Int32)), h9))
noncomputable def LX3_readPolynomial_14 (l0 : Nat) (l1 : Int32) (l2 : Int32) (h : jx_H) : Option ((Int32 × jx_H) ⊕ (Int32 × jx_H)) :=
if (900 : Int32) ≤ l2 then
 exL (some ((1 : Int32), h))
else
 (isO h l0 3).bind fun _ =>
 bind2 (FX3_readTerm l0 (20 : Int32) l1 h) fun x13 h14 =>
 if x13 = 0 then
  exL (some ((0 : Int32), h14))
 else
  (hgi h14 l0 3 6).bind fun x15 =>
  (hgi h14 l0 3 7).bind fun x16 =>
  if ((x15 * (21 : Int32)) + x16) < 0 then
   BX3_readPolynomial_80 l0 l1 l2 h14
  else
   (hgr h14 l0 3 3).bind fun x17 =>
   (hlen h14 x17).bind fun x18 =>
   if x18 ≤ ((x15 * (21 : Int32)) + x16) then
    BX3_readPolynomial_80 l0 l1 l2 h14
   else
    (hgr h14 l0 3 3).bind fun x19 =>
    (hgr h14 l0 3 3).bind fun x20 =>
    (hal h14 .int x20 ((x15 * (21 : Int32)) + x16)).bind fun x21 =>
    (hgi h14 l0 3 8).bind fun x22 =>
    (FX9_residue (x21 + x22) l1 h14).bind fun x23 =>
    (has h14 .int x19 ((x15 * (21 : Int32)) + x16) x23).bind fun h24 =>
    BX3_readPolynomial_80 l0 l1 l2 h24
noncomputable def FX3_readPolynomial (l0 : Nat) (l1 : Int32) (h : jx_H) : Option (Int32 × jx_H) :=
(isO h l0 3).bind fun _ =>
(FX3_begin l0 h).bind fun h2 =>
(hgr h2 l0 3 3).bind fun x3 =>
(FJ7_fill_53178 x3 (0 : Int32) h2).bind fun h4 =>
itr (fun s : Int32 × jx_H => LX3_readPolynomial_14 l0 l1 s.1 s.2) ((0 : Int32), h4)
def rmX3_readPolynomial : Room := { frames := 4, cells := 0, slots := 0, locals := 86 }
set_option maxRecDepth 20000 in
set_option maxHeartbeats 4000000 in
theorem sX3_readPolynomial {l0 : Nat} {l1 : Int32} {h : jx_H} {r : Int32} {h9 : jx_H} (e : FX3_readPolynomial l0 l1 h = some (r, h9)) : jx_Ct yX3_readPolynomial cX3_readPolynomial 4 (some .boolean) rmX3_readPolynomial [.ref l0, .int l1] h (fun r' h' => some (.int r) = r' ∧ h9 = h') := by
  refine jx_Ct.of (own := RX3) (by decide) rfl (Nat.le_of_ble_eq_true rfl) (fun X C hq hr hL hN => ?_)
  refine jx_sub (lv' := [(0, .ref l0), (1, .int l1)]) [0, 1] rfl ?_
  unfold FX3_readPolynomial at e
  refine j_aload_n C dX3_readPolynomial_0 rfl rfl ?_
  replace e := ob e
  obtain ⟨_, eo29, e⟩ := e
  replace e := ob e
  obtain ⟨h30, eh30, e⟩ := e
  refine j_callV (ci := 3) (RC := RX3) (T := TX3) (N := 11) (As := []) (b := l0) (na := 0) (st := []) (k1 := 0) (n1 := 0) C hr (sX3_begin eh30) rfl eo29 kX3_33 kim_X3_begin ksel_X3_begin kini_X3 kc_X3_begin (by decide) rfl ⟨(Nat.le_of_ble_eq_true rfl), (Nat.le_of_ble_eq_true rfl)⟩ (Nat.le_of_ble_eq_true rfl) ⟨rfl, rfl, (Nat.le_of_ble_eq_true rfl), (Nat.le_of_ble_eq_true rfl)⟩ dX3_readPolynomial_1 ?_
  rintro _ _ ⟨rfl, rfl⟩
  show jx_J X 0 0 4 [(0, .ref l0), (1, .int l1)] [] h30
  refine j_aload_n C dX3_readPolynomial_4 rfl rfl ?_
  replace e := ob e
  obtain ⟨x31, ex31, e⟩ := e
  refine j_getr (ci := 3) (RC := RX3) (T := TX3) (N := 11) 3 C rfl klX3 (Nat.le_of_ble_eq_true rfl) kX3_18 rfl dX3_readPolynomial_5 ex31 ?_
  refine j_iconst (v := (0 : Int32)) C dX3_readPolynomial_8 (by decide) ?_
  replace e := ob e
  obtain ⟨h32, eh32, e⟩ := e
  refine j_callS (As := [.ref x31, .int (0 : Int32)]) (na := 2) (st := []) (k1 := 0) (n1 := 0) C hr (sJ7_fill_53178 eh32) kX3_52 kst_J7_fill_53178 kini_J7 kc_J7_fill_53178 (by decide) rfl ⟨(Nat.le_of_ble_eq_true rfl), (Nat.le_of_ble_eq_true rfl)⟩ (Nat.le_of_ble_eq_true rfl) ⟨rfl, rfl, (Nat.le_of_ble_eq_true rfl), (Nat.le_of_ble_eq_true rfl)⟩ dX3_readPolynomial_9 ?_
  rintro _ _ ⟨rfl, rfl⟩
  show jx_J X 0 0 12 [(0, .ref l0), (1, .int l1)] [] h32
  refine j_iconst (v := (0 : Int32)) C dX3_readPolynomial_12 (by decide) ?_
  refine j_istore_n (lv1 := [(2, .int (0 : Int32)), (0, .ref l0), (1, .int l1)]) C hL dX3_readPolynomial_13 rfl (Nat.le_of_ble_eq_true rfl) rfl ?_
  refine jx_sub (lv' := [(0, .ref l0), (1, .int l1), (2, .int (0 : Int32))]) [1, 2, 0] rfl ?_
  refine itr_ind (s0 := ((0 : Int32), h32)) (fun s : Int32 × jx_H => jx_J X 0 0 14 [(0, .ref l0), (1, .int l1), (2, .int s.1)] [] s.2) e ?_
  clear e
  intro s kI5 kT5 e0
  obtain ⟨z33, h34⟩ := s
  obtain ⟨u5, e0_5⟩ := e0
  have e : LX3_readPolynomial_14 l0 l1 z33 h34 = some u5 := e0_5
  have b80 : ∀ (y35 : Int32) (h36 : jx_H), BX3_readPolynomial_80 l0 l1 y35 h36 = some u5 → jx_J X 0 0 80 [(0, .ref l0), (1, .int l1), (2, .int y35)] [] h36 := by
    intro y35 h36 e
    unfold BX3_readPolynomial_80 at e
    refine j_aload_n C dX3_readPolynomial_80 rfl rfl ?_
    replace e := ob e
    obtain ⟨x37, ex37, e⟩ := e
    refine j_getr (ci := 3) (RC := RX3) (T := TX3) (N := 11) 0 C rfl klX3 (Nat.le_of_ble_eq_true rfl) kX3_26 rfl dX3_readPolynomial_81 ex37 ?_
    replace e := ob e
    obtain ⟨x38, ex38, e⟩ := e
    refine j_geti (ci := 7) (RC := RX7) (T := TX7) (N := 6) 2 C rfl klX7 (Nat.le_of_ble_eq_true rfl) kX3_39 rfl dX3_readPolynomial_84 ex38 ?_
    refine j_if_ne (tgt := 92) C dX3_readPolynomial_87 (by decide) (fun c43 => ?_) (fun c43 => ?_)
    · replace e := ifn c43 e
      refine j_aload_n C dX3_readPolynomial_92 rfl rfl ?_
      refine j_bipush (v := (44 : Int32)) C dX3_readPolynomial_93 (by decide) ?_
      replace e := ob e
      obtain ⟨_, eo39, e⟩ := e
      replace e := ob2 e
      obtain ⟨x40, h41, ex40, e⟩ := e
      refine j_callV (ci := 3) (RC := RX3) (T := TX3) (N := 11) (As := [.int (44 : Int32)]) (b := l0) (na := 1) (st := []) (k1 := 0) (n1 := 0) C hr (sX3_takeSymbol ex40) rfl eo39 kX3_48 kim_X3_takeSymbol ksel_X3_takeSymbol kini_X3 kc_X3_takeSymbol (by decide) rfl ⟨(Nat.le_of_ble_eq_true rfl), (Nat.le_of_ble_eq_true rfl)⟩ (Nat.le_of_ble_eq_true rfl) ⟨rfl, rfl, (Nat.le_of_ble_eq_true rfl), (Nat.le_of_ble_eq_true rfl)⟩ dX3_readPolynomial_95 ?_
      rintro _ _ ⟨rfl, rfl⟩
      show jx_J X 0 0 98 [(0, .ref l0), (1, .int l1), (2, .int y35)] [.int x40] h41
      refine j_if_ne (tgt := 103) C dX3_readPolynomial_98 (by decide) (fun c42 => ?_) (fun c42 => ?_)
      · replace e := ifn c42 e
        refine j_iinc (v := (y35 + (1 : Int32))) (lv1 := [(2, .int (y35 + (1 : Int32))), (0, .ref l0), (1, .int l1)]) C hL dX3_readPolynomial_103 rfl rfl (Nat.le_of_ble_eq_true rfl) rfl ?_
        refine j_goto (tgt := 14) C dX3_readPolynomial_106 (by decide) ?_
        obtain rfl := Option.some.inj e
        refine jx_sub (lv' := [(0, .ref l0), (1, .int l1), (2, .int (y35 + (1 : Int32)))]) [1, 2, 0] rfl ?_
        exact kI5 ((y35 + (1 : Int32)), h41) e0_5
      · replace e := ifp c42 e
        obtain ⟨t_6, e_6, eu_6⟩ := exL_spec e
        obtain rfl := kT5 t_6 (e0_5.trans (congrArg some eu_6))
        replace e := e_6
        refine j_iconst (v := (0 : Int32)) C dX3_readPolynomial_101 (by decide) ?_
        cases e
        exact j_iret C hq rfl dX3_readPolynomial_102 ⟨Nat.le_of_ble_eq_true rfl, Nat.le_of_ble_eq_true rfl⟩ ⟨rfl, rfl⟩
    · replace e := ifp c43 e
      obtain ⟨t_7, e_7, eu_7⟩ := exL_spec e
      obtain rfl := kT5 t_7 (e0_5.trans (congrArg some eu_7))
      replace e := e_7
      refine j_iconst (v := (1 : Int32)) C dX3_readPolynomial_90 (by decide) ?_
      cases e
      exact j_iret C hq rfl dX3_readPolynomial_91 ⟨Nat.le_of_ble_eq_true rfl, Nat.le_of_ble_eq_true rfl⟩ ⟨rfl, rfl⟩
  unfold LX3_readPolynomial_14 at e
  refine j_iload_n C dX3_readPolynomial_14 rfl rfl ?_
  refine j_sipush (v := (900 : Int32)) C dX3_readPolynomial_15 (by decide) ?_
  refine j_icmp_ge (tgt := 109) C dX3_readPolynomial_18 (by decide) (fun c60 => ?_) (fun c60 => ?_)
  · replace e := ifp c60 e
    obtain ⟨t_8, e_8, eu_8⟩ := exL_spec e
    obtain rfl := kT5 t_8 (e0_5.trans (congrArg some eu_8))
    replace e := e_8
    refine j_iconst (v := (1 : Int32)) C dX3_readPolynomial_109 (by decide) ?_
    cases e
    exact j_iret C hq rfl dX3_readPolynomial_110 ⟨Nat.le_of_ble_eq_true rfl, Nat.le_of_ble_eq_true rfl⟩ ⟨rfl, rfl⟩
  · replace e := ifn c60 e
    refine j_aload_n C dX3_readPolynomial_21 rfl rfl ?_
    refine j_bipush (v := (20 : Int32)) C dX3_readPolynomial_22 (by decide) ?_
    refine j_iload_n C dX3_readPolynomial_24 rfl rfl ?_
    replace e := ob e
    obtain ⟨_, eo44, e⟩ := e
    replace e := ob2 e
    obtain ⟨x45, h46, ex45, e⟩ := e
    refine j_callV (ci := 3) (RC := RX3) (T := TX3) (N := 11) (As := [.int (20 : Int32), .int l1]) (b := l0) (na := 2) (st := []) (k1 := 0) (n1 := 0) C hr (sX3_readTerm ex45) rfl eo44 kX3_58 kim_X3_readTerm ksel_X3_readTerm kini_X3 kc_X3_readTerm (by decide) rfl ⟨(Nat.le_of_ble_eq_true rfl), (Nat.le_of_ble_eq_true rfl)⟩ (Nat.le_of_ble_eq_true rfl) ⟨rfl, rfl, (Nat.le_of_ble_eq_true rfl), (Nat.le_of_ble_eq_true rfl)⟩ dX3_readPolynomial_25 ?_
    rintro _ _ ⟨rfl, rfl⟩
    show jx_J X 0 0 28 [(0, .ref l0), (1, .int l1), (2, .int z33)] [.int x45] h46
    refine j_if_ne (tgt := 33) C dX3_readPolynomial_28 (by decide) (fun c59 => ?_) (fun c59 => ?_)
    · replace e := ifn c59 e
      refine j_aload_n C dX3_readPolynomial_33 rfl rfl ?_
      replace e := ob e
      obtain ⟨x47, ex47, e⟩ := e
      refine j_geti (ci := 3) (RC := RX3) (T := TX3) (N := 11) 6 C rfl klX3 (Nat.le_of_ble_eq_true rfl) kX3_62 rfl dX3_readPolynomial_34 ex47 ?_
      refine j_bipush (v := (21 : Int32)) C dX3_readPolynomial_37 (by decide) ?_
      refine j_imul C dX3_readPolynomial_39 ?_
      refine j_aload_n C dX3_readPolynomial_40 rfl rfl ?_
      replace e := ob e
      obtain ⟨x48, ex48, e⟩ := e
      refine j_geti (ci := 3) (RC := RX3) (T := TX3) (N := 11) 7 C rfl klX3 (Nat.le_of_ble_eq_true rfl) kX3_65 rfl dX3_readPolynomial_41 ex48 ?_
      refine j_iadd C dX3_readPolynomial_44 ?_
      refine j_istore_n (lv1 := [(3, .int ((x47 * (21 : Int32)) + x48)), (0, .ref l0), (1, .int l1), (2, .int z33)]) C hL dX3_readPolynomial_45 rfl (Nat.le_of_ble_eq_true rfl) rfl ?_
      refine j_iload_n C dX3_readPolynomial_46 rfl rfl ?_
      refine j_if_lt (tgt := 80) C dX3_readPolynomial_47 (by decide) (fun c58 => ?_) (fun c58 => ?_)
      · replace e := ifp c58 e
        refine jx_sub (lv' := [(0, .ref l0), (1, .int l1), (2, .int z33)]) [1, 2, 3] rfl ?_
        exact b80 z33 h46 e
      · replace e := ifn c58 e
        refine j_iload_n C dX3_readPolynomial_50 rfl rfl ?_
        refine j_aload_n C dX3_readPolynomial_51 rfl rfl ?_
        replace e := ob e
        obtain ⟨x49, ex49, e⟩ := e
        refine j_getr (ci := 3) (RC := RX3) (T := TX3) (N := 11) 3 C rfl klX3 (Nat.le_of_ble_eq_true rfl) kX3_18 rfl dX3_readPolynomial_52 ex49 ?_
        replace e := ob e
        obtain ⟨x50, ex50, e⟩ := e
        refine j_alen C dX3_readPolynomial_55 ex50 ?_
        refine j_icmp_ge (tgt := 80) C dX3_readPolynomial_56 (by decide) (fun c57 => ?_) (fun c57 => ?_)
        · replace e := ifp c57 e
          refine jx_sub (lv' := [(0, .ref l0), (1, .int l1), (2, .int z33)]) [1, 2, 3] rfl ?_
          exact b80 z33 h46 e
        · replace e := ifn c57 e
          refine j_aload_n C dX3_readPolynomial_59 rfl rfl ?_
          replace e := ob e
          obtain ⟨x51, ex51, e⟩ := e
          refine j_getr (ci := 3) (RC := RX3) (T := TX3) (N := 11) 3 C rfl klX3 (Nat.le_of_ble_eq_true rfl) kX3_18 rfl dX3_readPolynomial_60 ex51 ?_
          refine j_iload_n C dX3_readPolynomial_63 rfl rfl ?_
          refine j_aload_n C dX3_readPolynomial_64 rfl rfl ?_
          replace e := ob e
          obtain ⟨x52, ex52, e⟩ := e
          refine j_getr (ci := 3) (RC := RX3) (T := TX3) (N := 11) 3 C rfl klX3 (Nat.le_of_ble_eq_true rfl) kX3_18 rfl dX3_readPolynomial_65 ex52 ?_
          refine j_iload_n C dX3_readPolynomial_68 rfl rfl ?_
          replace e := ob e
          obtain ⟨x53, ex53, e⟩ := e
          refine j_iald C dX3_readPolynomial_69 ex53 ?_
          refine j_aload_n C dX3_readPolynomial_70 rfl rfl ?_
          replace e := ob e
          obtain ⟨x54, ex54, e⟩ := e
          refine j_geti (ci := 3) (RC := RX3) (T := TX3) (N := 11) 8 C rfl klX3 (Nat.le_of_ble_eq_true rfl) kX3_68 rfl dX3_readPolynomial_71 ex54 ?_
          refine j_iadd C dX3_readPolynomial_74 ?_
          refine j_iload_n C dX3_readPolynomial_75 rfl rfl ?_
          replace e := ob e
          obtain ⟨x55, ex55, e⟩ := e
          refine j_callSN (As := [.int (x53 + x54), .int l1]) (na := 2) (st := [.int ((x47 * (21 : Int32)) + x48), .ref x51]) (k1 := 0) (n1 := 0) C hr (sX9_residue ex55) kX3_71 kst_X9_residue kini_X9 kc_X9_residue (by decide) rfl ⟨(Nat.le_of_ble_eq_true rfl), (Nat.le_of_ble_eq_true rfl)⟩ (Nat.le_of_ble_eq_true rfl) ⟨rfl, rfl, (Nat.le_of_ble_eq_true rfl), (Nat.le_of_ble_eq_true rfl)⟩ dX3_readPolynomial_76 ?_
          rintro _ _ ⟨rfl, rfl⟩
          show jx_J X 0 0 79 [(3, .int ((x47 * (21 : Int32)) + x48)), (0, .ref l0), (1, .int l1), (2, .int z33)] [.int x55, .int ((x47 * (21 : Int32)) + x48), .ref x51] h46
          replace e := ob e
          obtain ⟨h56, eh56, e⟩ := e
          refine j_iast C dX3_readPolynomial_79 eh56 ?_
          refine jx_sub (lv' := [(0, .ref l0), (1, .int l1), (2, .int z33)]) [1, 2, 3] rfl ?_
          exact b80 z33 h56 e
    · replace e := ifp c59 e
      obtain ⟨t_9, e_9, eu_9⟩ := exL_spec e
      obtain rfl := kT5 t_9 (e0_5.trans (congrArg some eu_9))
      replace e := e_9
      refine j_iconst (v := (0 : Int32)) C dX3_readPolynomial_31 (by decide) ?_
      cases e
      exact j_iret C hq rfl dX3_readPolynomial_32 ⟨Nat.le_of_ble_eq_true rfl, Nat.le_of_ble_eq_true rfl⟩ ⟨rfl, rfl⟩
/-! BorderBasis$Spot.<init>()V -/
noncomputable def FX4_init (l0 : Nat) (h : jx_H) : Option (jx_H) :=
(hna h .int (13 : Int32)).bind fun h1 =>
(hp h1 l0 4 0 (.ref h.1)).bind fun h2 =>
(hna h2 .int (13 : Int32)).bind fun h3 =>
(hp h3 l0 4 1 (.ref h2.1)).bind fun h4 =>
some h4
def rmX4_init : Room := { frames := 1, cells := 2, slots := 26, locals := 20 }
set_option maxRecDepth 20000 in
set_option maxHeartbeats 4000000 in
theorem sX4_init {l0 : Nat} {h : jx_H} {h9 : jx_H} (e : FX4_init l0 h = some h9) : jx_Ct yX4_init cX4_init 1 none rmX4_init [.ref l0] h (fun r' h' => none = r' ∧ h9 = h') := by
  refine jx_Ct.of (own := RX4) (by decide) rfl (Nat.le_of_ble_eq_true rfl) (fun X C hq hr hL hN => ?_)
  refine jx_sub (lv' := [(0, .ref l0)]) [0] rfl ?_
  unfold FX4_init at e
  refine j_aload_n C dX4_init_0 rfl rfl ?_
  refine j_objInit C hr kX4_3 kim_Oinit kc_Oinit dX4_init_1 (Nat.le_of_ble_eq_true rfl) (Nat.le_of_ble_eq_true rfl) ?_
  refine j_aload_n C dX4_init_4 rfl rfl ?_
  refine j_bipush (v := (13 : Int32)) C dX4_init_5 (by decide) ?_
  replace e := ob e
  obtain ⟨h5, eh5, e⟩ := e
  refine j_newa (ty := .int) (N := 13) C hr kac_int rfl rfl (Nat.le_of_ble_eq_true rfl) dX4_init_7 eh5 (Nat.le_of_ble_eq_true rfl) ⟨Nat.le_of_ble_eq_true rfl, Nat.le_of_ble_eq_true rfl⟩ ?_
  refine jx_widen (k1 := 1) (n1 := 13) (Nat.le_of_ble_eq_true rfl) (Nat.le_of_ble_eq_true rfl) ?_
  replace e := ob e
  obtain ⟨h6, eh6, e⟩ := e
  refine j_putF (ci := 4) (RC := RX4) (T := TX4) (N := 3) (ty0 := tyX4) 0 C rfl klX4 tyX4_ok nmX4 (Nat.le_of_ble_eq_true rfl) kX4_9 rfl rfl hN rfl rfl rfl rfl dX4_init_9 eh6 ?_
  refine j_aload_n C dX4_init_12 rfl rfl ?_
  refine j_bipush (v := (13 : Int32)) C dX4_init_13 (by decide) ?_
  replace e := ob e
  obtain ⟨h7, eh7, e⟩ := e
  refine j_newa (ty := .int) (N := 13) C hr kac_int rfl rfl (Nat.le_of_ble_eq_true rfl) dX4_init_15 eh7 (Nat.le_of_ble_eq_true rfl) ⟨Nat.le_of_ble_eq_true rfl, Nat.le_of_ble_eq_true rfl⟩ ?_
  refine jx_widen (k1 := 2) (n1 := 26) (Nat.le_of_ble_eq_true rfl) (Nat.le_of_ble_eq_true rfl) ?_
  replace e := ob e
  obtain ⟨h8, eh8, e⟩ := e
  refine j_putF (ci := 4) (RC := RX4) (T := TX4) (N := 3) (ty0 := tyX4) 1 C rfl klX4 tyX4_ok nmX4 (Nat.le_of_ble_eq_true rfl) kX4_15 rfl rfl hN rfl rfl rfl rfl dX4_init_17 eh8 ?_
  cases e
  exact j_vret C hq dX4_init_20 ⟨Nat.le_of_ble_eq_true rfl, Nat.le_of_ble_eq_true rfl⟩ ⟨rfl, rfl⟩
/-! BorderBasis$Spot.valueOfRule(LBorderBasis$State;I)I -/
noncomputable def BX4_valueOfRule_67 (l0 : Nat) (l1 : Nat) (l2 : Int32) (l3 : Int32) (l4 : Int32) (h : jx_H) : Option ((Int32 × Int32) ⊕ (Int32)) :=
some (.inl (l3, (l4 + (1 : Int32))))
noncomputable def LX4_valueOfRule_20 (l0 : Nat) (l1 : Nat) (l2 : Int32) (l3 : Int32) (l4 : Int32) (h : jx_H) : Option ((Int32 × Int32) ⊕ (Int32)) :=
(hgi h l1 5 2).bind fun x3 =>
if x3 ≤ l4 then
 exL ((hgr h l1 5 6).bind fun x4 =>
 (hal h .int x4 l2).bind fun x5 =>
 (hgr h l1 5 7).bind fun x6 =>
 (hal h .int x6 l2).bind fun x7 =>
 (isO h l0 4).bind fun _ =>
 (FX4_valueOfMonomial l0 x5 x7 h).bind fun x9 =>
 (hgi h l0 4 2).bind fun x10 =>
 (FX9_residue (x9 - l3) x10 h).bind fun x11 =>
 some x11)
else
 (isO h l1 5).bind fun _ =>
 (FX5_coefficient l1 l2 l4 h).bind fun x13 =>
 if x13 = 0 then
  BX4_valueOfRule_67 l0 l1 l2 l3 l4 h
 else
  (hgr h l1 5 3).bind fun x14 =>
  (hal h .int x14 l4).bind fun x15 =>
  (hgr h l1 5 4).bind fun x16 =>
  (hal h .int x16 l4).bind fun x17 =>
  (isO h l0 4).bind fun _ =>
  (FX4_valueOfMonomial l0 x15 x17 h).bind fun x19 =>
  BX4_valueOfRule_67 l0 l1 l2 (l3 + (x13 * x19)) l4 h
noncomputable def FX4_valueOfRule (l0 : Nat) (l1 : Nat) (l2 : Int32) (h : jx_H) : Option (Int32) :=
(hgi h l1 5 5).bind fun x1 =>
(FX9_isOutside l2 (x1 - (1 : Int32)) h).bind fun x2 =>
if x2 = 0 then
 itr (fun s : Int32 × Int32 => LX4_valueOfRule_20 l0 l1 l2 s.1 s.2 h) ((0 : Int32), (0 : Int32))
else
 some (0 : Int32)
def rmX4_valueOfRule : Room := { frames := 2, cells := 0, slots := 0, locals := 44 }
set_option maxRecDepth 20000 in
set_option maxHeartbeats 4000000 in
theorem sX4_valueOfRule {l0 : Nat} {l1 : Nat} {l2 : Int32} {h : jx_H} {r : Int32}  (e : FX4_valueOfRule l0 l1 l2 h = some r) : jx_Ct yX4_valueOfRule cX4_valueOfRule 6 (some .int) rmX4_valueOfRule [.ref l0, .ref l1, .int l2] h (fun r' h' => some (.int r) = r' ∧ h = h') := by
  refine jx_Ct.of (own := RX4) (by decide) rfl (Nat.le_of_ble_eq_true rfl) (fun X C hq hr hL hN => ?_)
  refine jx_sub (lv' := [(0, .ref l0), (1, .ref l1), (2, .int l2)]) [0, 1, 2] rfl ?_
  unfold FX4_valueOfRule at e
  refine j_iload_n C dX4_valueOfRule_0 rfl rfl ?_
  refine j_aload_n C dX4_valueOfRule_1 rfl rfl ?_
  replace e := ob e
  obtain ⟨x23, ex23, e⟩ := e
  refine j_geti (ci := 5) (RC := RX5) (T := TX5) (N := 12) 5 C rfl klX5 (Nat.le_of_ble_eq_true rfl) kX4_30 rfl dX4_valueOfRule_2 ex23 ?_
  refine j_iconst (v := (1 : Int32)) C dX4_valueOfRule_5 (by decide) ?_
  refine j_isub C dX4_valueOfRule_6 ?_
  replace e := ob e
  obtain ⟨x24, ex24, e⟩ := e
  refine j_callSN (As := [.int l2, .int (x23 - (1 : Int32))]) (na := 2) (st := []) (k1 := 0) (n1 := 0) C hr (sX9_isOutside ex24) kX4_26 kst_X9_isOutside kini_X9 kc_X9_isOutside (by decide) rfl ⟨(Nat.le_of_ble_eq_true rfl), (Nat.le_of_ble_eq_true rfl)⟩ (Nat.le_of_ble_eq_true rfl) ⟨rfl, rfl, (Nat.le_of_ble_eq_true rfl), (Nat.le_of_ble_eq_true rfl)⟩ dX4_valueOfRule_7 ?_
  rintro _ _ ⟨rfl, rfl⟩
  show jx_J X 0 0 10 [(0, .ref l0), (1, .ref l1), (2, .int l2)] [.int x24] h
  refine j_if_eq (tgt := 15) C dX4_valueOfRule_10 (by decide) (fun c48 => ?_) (fun c48 => ?_)
  · replace e := ifp c48 e
    refine j_iconst (v := (0 : Int32)) C dX4_valueOfRule_15 (by decide) ?_
    refine j_istore_n (lv1 := [(3, .int (0 : Int32)), (0, .ref l0), (1, .ref l1), (2, .int l2)]) C hL dX4_valueOfRule_16 rfl (Nat.le_of_ble_eq_true rfl) rfl ?_
    refine j_iconst (v := (0 : Int32)) C dX4_valueOfRule_17 (by decide) ?_
    refine j_istore (lv1 := [(4, .int (0 : Int32)), (3, .int (0 : Int32)), (0, .ref l0), (1, .ref l1), (2, .int l2)]) C hL dX4_valueOfRule_18 (Nat.le_of_ble_eq_true rfl) rfl ?_
    refine jx_sub (lv' := [(0, .ref l0), (1, .ref l1), (2, .int l2), (3, .int (0 : Int32)), (4, .int (0 : Int32))]) [2, 3, 4, 1, 0] rfl ?_
    refine itr_ind (s0 := ((0 : Int32), (0 : Int32))) (fun s : Int32 × Int32 => jx_J X 0 0 20 [(0, .ref l0), (1, .ref l1), (2, .int l2), (3, .int s.1), (4, .int s.2)] [] h) e ?_
    clear e
    intro s kI2 kT2 e0
    obtain ⟨z25, z26⟩ := s
    obtain ⟨u2, e0_2⟩ := e0
    have e : LX4_valueOfRule_20 l0 l1 l2 z25 z26 h = some u2 := e0_2
    have b67 : ∀ (y27 : Int32) (y28 : Int32), BX4_valueOfRule_67 l0 l1 l2 y27 y28 h = some u2 → jx_J X 0 0 67 [(0, .ref l0), (1, .ref l1), (2, .int l2), (3, .int y27), (4, .int y28)] [] h := by
      intro y27 y28 e
      unfold BX4_valueOfRule_67 at e
      refine j_iinc (v := (y28 + (1 : Int32))) (lv1 := [(4, .int (y28 + (1 : Int32))), (0, .ref l0), (1, .ref l1), (2, .int l2), (3, .int y27)]) C hL dX4_valueOfRule_67 rfl rfl (Nat.le_of_ble_eq_true rfl) rfl ?_
      refine j_goto (tgt := 20) C dX4_valueOfRule_70 (by decide) ?_
      obtain rfl := Option.some.inj e
      refine jx_sub (lv' := [(0, .ref l0), (1, .ref l1), (2, .int l2), (3, .int y27), (4, .int (y28 + (1 : Int32)))]) [1, 2, 3, 4, 0] rfl ?_
      exact kI2 (y27, (y28 + (1 : Int32))) e0_2
    unfold LX4_valueOfRule_20 at e
    refine j_iload C dX4_valueOfRule_20 rfl ?_
    refine j_aload_n C dX4_valueOfRule_22 rfl rfl ?_
    replace e := ob e
    obtain ⟨x29, ex29, e⟩ := e
    refine j_geti (ci := 5) (RC := RX5) (T := TX5) (N := 12) 2 C rfl klX5 (Nat.le_of_ble_eq_true rfl) kX4_35 rfl dX4_valueOfRule_23 ex29 ?_
    refine j_icmp_ge (tgt := 73) C dX4_valueOfRule_26 (by decide) (fun c47 => ?_) (fun c47 => ?_)
    · replace e := ifp c47 e
      obtain ⟨t_3, e_3, eu_3⟩ := exL_spec e
      obtain rfl := kT2 t_3 (e0_2.trans (congrArg some eu_3))
      replace e := e_3
      refine j_aload_n C dX4_valueOfRule_73 rfl rfl ?_
      refine j_aload_n C dX4_valueOfRule_74 rfl rfl ?_
      replace e := ob e
      obtain ⟨x30, ex30, e⟩ := e
      refine j_getr (ci := 5) (RC := RX5) (T := TX5) (N := 12) 6 C rfl klX5 (Nat.le_of_ble_eq_true rfl) kX4_50 rfl dX4_valueOfRule_75 ex30 ?_
      refine j_iload_n C dX4_valueOfRule_78 rfl rfl ?_
      replace e := ob e
      obtain ⟨x31, ex31, e⟩ := e
      refine j_iald C dX4_valueOfRule_79 ex31 ?_
      refine j_aload_n C dX4_valueOfRule_80 rfl rfl ?_
      replace e := ob e
      obtain ⟨x32, ex32, e⟩ := e
      refine j_getr (ci := 5) (RC := RX5) (T := TX5) (N := 12) 7 C rfl klX5 (Nat.le_of_ble_eq_true rfl) kX4_53 rfl dX4_valueOfRule_81 ex32 ?_
      refine j_iload_n C dX4_valueOfRule_84 rfl rfl ?_
      replace e := ob e
      obtain ⟨x33, ex33, e⟩ := e
      refine j_iald C dX4_valueOfRule_85 ex33 ?_
      replace e := ob e
      obtain ⟨_, eo34, e⟩ := e
      replace e := ob e
      obtain ⟨x35, ex35, e⟩ := e
      refine j_callV (ci := 4) (RC := RX4) (T := TX4) (N := 3) (As := [.int x31, .int x33]) (b := l0) (na := 2) (st := []) (k1 := 0) (n1 := 0) C hr (sX4_valueOfMonomial ex35) rfl eo34 kX4_47 kim_X4_valueOfMonomial ksel_X4_valueOfMonomial kini_X4 kc_X4_valueOfMonomial (by decide) rfl ⟨(Nat.le_of_ble_eq_true rfl), (Nat.le_of_ble_eq_true rfl)⟩ (Nat.le_of_ble_eq_true rfl) ⟨rfl, rfl, (Nat.le_of_ble_eq_true rfl), (Nat.le_of_ble_eq_true rfl)⟩ dX4_valueOfRule_86 ?_
      rintro _ _ ⟨rfl, rfl⟩
      show jx_J X 0 0 89 [(0, .ref l0), (1, .ref l1), (2, .int l2), (3, .int z25), (4, .int z26)] [.int x35] h
      refine j_iload_n C dX4_valueOfRule_89 rfl rfl ?_
      refine j_isub C dX4_valueOfRule_90 ?_
      refine j_aload_n C dX4_valueOfRule_91 rfl rfl ?_
      replace e := ob e
      obtain ⟨x36, ex36, e⟩ := e
      refine j_geti (ci := 4) (RC := RX4) (T := TX4) (N := 3) 2 C rfl klX4 (Nat.le_of_ble_eq_true rfl) kX4_18 rfl dX4_valueOfRule_92 ex36 ?_
      replace e := ob e
      obtain ⟨x37, ex37, e⟩ := e
      refine j_callSN (As := [.int (x35 - z25), .int x36]) (na := 2) (st := []) (k1 := 0) (n1 := 0) C hr (sX9_residue ex37) kX4_22 kst_X9_residue kini_X9 kc_X9_residue (by decide) rfl ⟨(Nat.le_of_ble_eq_true rfl), (Nat.le_of_ble_eq_true rfl)⟩ (Nat.le_of_ble_eq_true rfl) ⟨rfl, rfl, (Nat.le_of_ble_eq_true rfl), (Nat.le_of_ble_eq_true rfl)⟩ dX4_valueOfRule_95 ?_
      rintro _ _ ⟨rfl, rfl⟩
      show jx_J X 0 0 98 [(0, .ref l0), (1, .ref l1), (2, .int l2), (3, .int z25), (4, .int z26)] [.int x37] h
      cases e
      exact j_iret C hq rfl dX4_valueOfRule_98 ⟨Nat.le_of_ble_eq_true rfl, Nat.le_of_ble_eq_true rfl⟩ ⟨rfl, rfl⟩
    · replace e := ifn c47 e
      refine j_aload_n C dX4_valueOfRule_29 rfl rfl ?_
      refine j_iload_n C dX4_valueOfRule_30 rfl rfl ?_
      refine j_iload C dX4_valueOfRule_31 rfl ?_
      replace e := ob e
      obtain ⟨_, eo38, e⟩ := e
      replace e := ob e
      obtain ⟨x39, ex39, e⟩ := e
      refine j_callV (ci := 5) (RC := RX5) (T := TX5) (N := 12) (As := [.int l2, .int z26]) (b := l1) (na := 2) (st := []) (k1 := 0) (n1 := 0) C hr (sX5_coefficient ex39) rfl eo38 kX4_38 kim_X5_coefficient ksel_X5_coefficient kini_X5 kc_X5_coefficient (by decide) rfl ⟨(Nat.le_of_ble_eq_true rfl), (Nat.le_of_ble_eq_true rfl)⟩ (Nat.le_of_ble_eq_true rfl) ⟨rfl, rfl, (Nat.le_of_ble_eq_true rfl), (Nat.le_of_ble_eq_true rfl)⟩ dX4_valueOfRule_33 ?_
      rintro _ _ ⟨rfl, rfl⟩
      show jx_J X 0 0 36 [(0, .ref l0), (1, .ref l1), (2, .int l2), (3, .int z25), (4, .int z26)] [.int x39] h
      refine j_istore (lv1 := [(5, .int x39), (0, .ref l0), (1, .ref l1), (2, .int l2), (3, .int z25), (4, .int z26)]) C hL dX4_valueOfRule_36 (Nat.le_of_ble_eq_true rfl) rfl ?_
      refine j_iload C dX4_valueOfRule_38 rfl ?_
      refine j_if_eq (tgt := 67) C dX4_valueOfRule_40 (by decide) (fun c46 => ?_) (fun c46 => ?_)
      · replace e := ifp c46 e
        refine jx_sub (lv' := [(0, .ref l0), (1, .ref l1), (2, .int l2), (3, .int z25), (4, .int z26)]) [1, 2, 3, 4, 5] rfl ?_
        exact b67 z25 z26 e
      · replace e := ifn c46 e
        refine j_iload_n C dX4_valueOfRule_43 rfl rfl ?_
        refine j_iload C dX4_valueOfRule_44 rfl ?_
        refine j_aload_n C dX4_valueOfRule_46 rfl rfl ?_
        refine j_aload_n C dX4_valueOfRule_47 rfl rfl ?_
        replace e := ob e
        obtain ⟨x40, ex40, e⟩ := e
        refine j_getr (ci := 5) (RC := RX5) (T := TX5) (N := 12) 3 C rfl klX5 (Nat.le_of_ble_eq_true rfl) kX4_41 rfl dX4_valueOfRule_48 ex40 ?_
        refine j_iload C dX4_valueOfRule_51 rfl ?_
        replace e := ob e
        obtain ⟨x41, ex41, e⟩ := e
        refine j_iald C dX4_valueOfRule_53 ex41 ?_
        refine j_aload_n C dX4_valueOfRule_54 rfl rfl ?_
        replace e := ob e
        obtain ⟨x42, ex42, e⟩ := e
        refine j_getr (ci := 5) (RC := RX5) (T := TX5) (N := 12) 4 C rfl klX5 (Nat.le_of_ble_eq_true rfl) kX4_44 rfl dX4_valueOfRule_55 ex42 ?_
        refine j_iload C dX4_valueOfRule_58 rfl ?_
        replace e := ob e
        obtain ⟨x43, ex43, e⟩ := e
        refine j_iald C dX4_valueOfRule_60 ex43 ?_
        replace e := ob e
        obtain ⟨_, eo44, e⟩ := e
        replace e := ob e
        obtain ⟨x45, ex45, e⟩ := e
        refine j_callV (ci := 4) (RC := RX4) (T := TX4) (N := 3) (As := [.int x41, .int x43]) (b := l0) (na := 2) (st := [.int x39, .int z25]) (k1 := 0) (n1 := 0) C hr (sX4_valueOfMonomial ex45) rfl eo44 kX4_47 kim_X4_valueOfMonomial ksel_X4_valueOfMonomial kini_X4 kc_X4_valueOfMonomial (by decide) rfl ⟨(Nat.le_of_ble_eq_true rfl), (Nat.le_of_ble_eq_true rfl)⟩ (Nat.le_of_ble_eq_true rfl) ⟨rfl, rfl, (Nat.le_of_ble_eq_true rfl), (Nat.le_of_ble_eq_true rfl)⟩ dX4_valueOfRule_61 ?_
        rintro _ _ ⟨rfl, rfl⟩
        show jx_J X 0 0 64 [(5, .int x39), (0, .ref l0), (1, .ref l1), (2, .int l2), (3, .int z25), (4, .int z26)] [.int x45, .int x39, .int z25] h
        refine j_imul C dX4_valueOfRule_64 ?_
        refine j_iadd C dX4_valueOfRule_65 ?_
        refine j_istore_n (lv1 := [(3, .int (z25 + (x39 * x45))), (5, .int x39), (0, .ref l0), (1, .ref l1), (2, .int l2), (4, .int z26)]) C hL dX4_valueOfRule_66 rfl (Nat.le_of_ble_eq_true rfl) rfl ?_
        refine jx_sub (lv' := [(0, .ref l0), (1, .ref l1), (2, .int l2), (3, .int (z25 + (x39 * x45))), (4, .int z26)]) [2, 3, 4, 0, 5] rfl ?_
        exact b67 (z25 + (x39 * x45)) z26 e
  · replace e := ifn c48 e
    refine j_iconst (v := (0 : Int32)) C dX4_valueOfRule_13 (by decide) ?_
    cases e
    exact j_iret C hq rfl dX4_valueOfRule_14 ⟨Nat.le_of_ble_eq_true rfl, Nat.le_of_ble_eq_true rfl⟩ ⟨rfl, rfl⟩
/-! BorderBasis$Spot.isZeroOf(LBorderBasis$State;)Z -/
noncomputable def LX4_isZeroOf_2 (l0 : Nat) (l1 : Nat) (l2 : Int32) (h : jx_H) : Option ((Int32) ⊕ (Int32)) :=
(hgi h l1 5 5).bind fun x1 =>
if x1 ≤ l2 then
 exL (some (1 : Int32))
else
 (isO h l0 4).bind fun _ =>
 (FX4_valueOfRule l0 l1 l2 h).bind fun x3 =>
 if x3 = 0 then
  some (.inl (l2 + (1 : Int32)))
 else
  exL (some (0 : Int32))
noncomputable def FX4_isZeroOf (l0 : Nat) (l1 : Nat) (h : jx_H) : Option (Int32) :=
itr (fun s : Int32 => LX4_isZeroOf_2 l0 l1 s h) (0 : Int32)
def rmX4_isZeroOf : Room := { frames := 3, cells := 0, slots := 0, locals := 69 }
set_option maxRecDepth 20000 in
set_option maxHeartbeats 4000000 in
theorem sX4_isZeroOf {l0 : Nat} {l1 : Nat} {h : jx_H} {r : Int32}  (e : FX4_isZeroOf l0 l1 h = some r) : jx_Ct yX4_isZeroOf cX4_isZeroOf 3 (some .boolean) rmX4_isZeroOf [.ref l0, .ref l1] h (fun r' h' => some (.int r) = r' ∧ h = h') := by
  refine jx_Ct.of (own := RX4) (by decide) rfl (Nat.le_of_ble_eq_true rfl) (fun X C hq hr hL hN => ?_)
  refine jx_sub (lv' := [(0, .ref l0), (1, .ref l1)]) [0, 1] rfl ?_
  unfold FX4_isZeroOf at e
  refine j_iconst (v := (0 : Int32)) C dX4_isZeroOf_0 (by decide) ?_
  refine j_istore_n (lv1 := [(2, .int (0 : Int32)), (0, .ref l0), (1, .ref l1)]) C hL dX4_isZeroOf_1 rfl (Nat.le_of_ble_eq_true rfl) rfl ?_
  refine jx_sub (lv' := [(0, .ref l0), (1, .ref l1), (2, .int (0 : Int32))]) [1, 2, 0] rfl ?_
  refine itr_ind (s0 := (0 : Int32)) (fun s : Int32 => jx_J X 0 0 2 [(0, .ref l0), (1, .ref l1), (2, .int s)] [] h) e ?_
  clear e
  intro s kI3 kT3 e0
  obtain ⟨z6, es⟩ : ∃ z, z = s := ⟨_, rfl⟩
  subst es
  obtain ⟨u3, e0_3⟩ := e0
  have e : LX4_isZeroOf_2 l0 l1 z6 h = some u3 := e0_3
  unfold LX4_isZeroOf_2 at e
  refine j_iload_n C dX4_isZeroOf_2 rfl rfl ?_
  refine j_aload_n C dX4_isZeroOf_3 rfl rfl ?_
  replace e := ob e
  obtain ⟨x7, ex7, e⟩ := e
  refine j_geti (ci := 5) (RC := RX5) (T := TX5) (N := 12) 5 C rfl klX5 (Nat.le_of_ble_eq_true rfl) kX4_30 rfl dX4_isZeroOf_4 ex7 ?_
  refine j_icmp_ge (tgt := 27) C dX4_isZeroOf_7 (by decide) (fun c11 => ?_) (fun c11 => ?_)
  · replace e := ifp c11 e
    obtain ⟨t_4, e_4, eu_4⟩ := exL_spec e
    obtain rfl := kT3 t_4 (e0_3.trans (congrArg some eu_4))
    replace e := e_4
    refine j_iconst (v := (1 : Int32)) C dX4_isZeroOf_27 (by decide) ?_
    cases e
    exact j_iret C hq rfl dX4_isZeroOf_28 ⟨Nat.le_of_ble_eq_true rfl, Nat.le_of_ble_eq_true rfl⟩ ⟨rfl, rfl⟩
  · replace e := ifn c11 e
    refine j_aload_n C dX4_isZeroOf_10 rfl rfl ?_
    refine j_aload_n C dX4_isZeroOf_11 rfl rfl ?_
    refine j_iload_n C dX4_isZeroOf_12 rfl rfl ?_
    replace e := ob e
    obtain ⟨_, eo8, e⟩ := e
    replace e := ob e
    obtain ⟨x9, ex9, e⟩ := e
    refine j_callV (ci := 4) (RC := RX4) (T := TX4) (N := 3) (As := [.ref l1, .int z6]) (b := l0) (na := 2) (st := []) (k1 := 0) (n1 := 0) C hr (sX4_valueOfRule ex9) rfl eo8 kX4_56 kim_X4_valueOfRule ksel_X4_valueOfRule kini_X4 kc_X4_valueOfRule (by decide) rfl ⟨(Nat.le_of_ble_eq_true rfl), (Nat.le_of_ble_eq_true rfl)⟩ (Nat.le_of_ble_eq_true rfl) ⟨rfl, rfl, (Nat.le_of_ble_eq_true rfl), (Nat.le_of_ble_eq_true rfl)⟩ dX4_isZeroOf_13 ?_
    rintro _ _ ⟨rfl, rfl⟩
    show jx_J X 0 0 16 [(0, .ref l0), (1, .ref l1), (2, .int z6)] [.int x9] h
    refine j_if_eq (tgt := 21) C dX4_isZeroOf_16 (by decide) (fun c10 => ?_) (fun c10 => ?_)
    · replace e := ifp c10 e
      refine j_iinc (v := (z6 + (1 : Int32))) (lv1 := [(2, .int (z6 + (1 : Int32))), (0, .ref l0), (1, .ref l1)]) C hL dX4_isZeroOf_21 rfl rfl (Nat.le_of_ble_eq_true rfl) rfl ?_
      refine j_goto (tgt := 2) C dX4_isZeroOf_24 (by decide) ?_
      obtain rfl := Option.some.inj e
      refine jx_sub (lv' := [(0, .ref l0), (1, .ref l1), (2, .int (z6 + (1 : Int32)))]) [1, 2, 0] rfl ?_
      exact kI3 (z6 + (1 : Int32)) e0_3
    · replace e := ifn c10 e
      obtain ⟨t_5, e_5, eu_5⟩ := exL_spec e
      obtain rfl := kT3 t_5 (e0_3.trans (congrArg some eu_5))
      replace e := e_5
      refine j_iconst (v := (0 : Int32)) C dX4_isZeroOf_19 (by decide) ?_
      cases e
      exact j_iret C hq rfl dX4_isZeroOf_20 ⟨Nat.le_of_ble_eq_true rfl, Nat.le_of_ble_eq_true rfl⟩ ⟨rfl, rfl⟩
/-! BorderBasis$State.isCorner(II)Z -/
noncomputable def BX5_isCorner_17 (l0 : Nat) (l1 : Int32) (l2 : Int32) (h : jx_H) : Option (Int32) :=
(isO h l0 5).bind fun _ =>
(FX5_contains l0 (l1 + (1 : Int32)) l2 h).bind fun x2 =>
if x2 = 0 then
 (isO h l0 5).bind fun _ =>
 (FX5_contains l0 l1 (l2 + (1 : Int32)) h).bind fun x4 =>
 if x4 = 0 then
  some (1 : Int32)
 else
  some (0 : Int32)
else
 some (0 : Int32)
noncomputable def FX5_isCorner (l0 : Nat) (l1 : Int32) (l2 : Int32) (h : jx_H) : Option (Int32) :=
(isO h l0 5).bind fun _ =>
(FX5_contains l0 l1 l2 h).bind fun x8 =>
if x8 = 0 then
 some (0 : Int32)
else
 if 0 < l1 then
  BX5_isCorner_17 l0 l1 l2 h
 else
  if l2 ≤ 0 then
   some (0 : Int32)
  else
   BX5_isCorner_17 l0 l1 l2 h
def rmX5_isCorner : Room := { frames := 1, cells := 0, slots := 0, locals := 22 }
set_option maxRecDepth 20000 in
set_option maxHeartbeats 4000000 in
theorem sX5_isCorner {l0 : Nat} {l1 : Int32} {l2 : Int32} {h : jx_H} {r : Int32}  (e : FX5_isCorner l0 l1 l2 h = some r) : jx_Ct yX5_isCorner cX5_isCorner 3 (some .boolean) rmX5_isCorner [.ref l0, .int l1, .int l2] h (fun r' h' => some (.int r) = r' ∧ h = h') := by
  refine jx_Ct.of (own := RX5) (by decide) rfl (Nat.le_of_ble_eq_true rfl) (fun X C hq hr hL hN => ?_)
  refine jx_sub (lv' := [(0, .ref l0), (1, .int l1), (2, .int l2)]) [0, 1, 2] rfl ?_
  have b17 : ∀ (y12 : Nat) (y13 : Int32) (y14 : Int32), BX5_isCorner_17 y12 y13 y14 h = some r → jx_J X 0 0 17 [(0, .ref y12), (1, .int y13), (2, .int y14)] [] h := by
    intro y12 y13 y14 e
    unfold BX5_isCorner_17 at e
    refine j_aload_n C dX5_isCorner_17 rfl rfl ?_
    refine j_iload_n C dX5_isCorner_18 rfl rfl ?_
    refine j_iconst (v := (1 : Int32)) C dX5_isCorner_19 (by decide) ?_
    refine j_iadd C dX5_isCorner_20 ?_
    refine j_iload_n C dX5_isCorner_21 rfl rfl ?_
    replace e := ob e
    obtain ⟨_, eo15, e⟩ := e
    replace e := ob e
    obtain ⟨x16, ex16, e⟩ := e
    refine j_callV (ci := 5) (RC := RX5) (T := TX5) (N := 12) (As := [.int (y13 + (1 : Int32)), .int y14]) (b := y12) (na := 2) (st := []) (k1 := 0) (n1 := 0) C hr (sX5_contains ex16) rfl eo15 kX5_67 kim_X5_contains ksel_X5_contains kini_X5 kc_X5_contains (by decide) rfl ⟨(Nat.le_of_ble_eq_true rfl), (Nat.le_of_ble_eq_true rfl)⟩ (Nat.le_of_ble_eq_true rfl) ⟨rfl, rfl, (Nat.le_of_ble_eq_true rfl), (Nat.le_of_ble_eq_true rfl)⟩ dX5_isCorner_22 ?_
    rintro _ _ ⟨rfl, rfl⟩
    show jx_J X 0 0 25 [(0, .ref y12), (1, .int y13), (2, .int y14)] [.int x16] h
    refine j_if_ne (tgt := 43) C dX5_isCorner_25 (by decide) (fun c20 => ?_) (fun c20 => ?_)
    · replace e := ifn c20 e
      refine j_iconst (v := (0 : Int32)) C dX5_isCorner_43 (by decide) ?_
      cases e
      exact j_iret C hq rfl dX5_isCorner_44 ⟨Nat.le_of_ble_eq_true rfl, Nat.le_of_ble_eq_true rfl⟩ ⟨rfl, rfl⟩
    · replace e := ifp c20 e
      refine j_aload_n C dX5_isCorner_28 rfl rfl ?_
      refine j_iload_n C dX5_isCorner_29 rfl rfl ?_
      refine j_iload_n C dX5_isCorner_30 rfl rfl ?_
      refine j_iconst (v := (1 : Int32)) C dX5_isCorner_31 (by decide) ?_
      refine j_iadd C dX5_isCorner_32 ?_
      replace e := ob e
      obtain ⟨_, eo17, e⟩ := e
      replace e := ob e
      obtain ⟨x18, ex18, e⟩ := e
      refine j_callV (ci := 5) (RC := RX5) (T := TX5) (N := 12) (As := [.int y13, .int (y14 + (1 : Int32))]) (b := y12) (na := 2) (st := []) (k1 := 0) (n1 := 0) C hr (sX5_contains ex18) rfl eo17 kX5_67 kim_X5_contains ksel_X5_contains kini_X5 kc_X5_contains (by decide) rfl ⟨(Nat.le_of_ble_eq_true rfl), (Nat.le_of_ble_eq_true rfl)⟩ (Nat.le_of_ble_eq_true rfl) ⟨rfl, rfl, (Nat.le_of_ble_eq_true rfl), (Nat.le_of_ble_eq_true rfl)⟩ dX5_isCorner_33 ?_
      rintro _ _ ⟨rfl, rfl⟩
      show jx_J X 0 0 36 [(0, .ref y12), (1, .int y13), (2, .int y14)] [.int x18] h
      refine j_if_ne (tgt := 43) C dX5_isCorner_36 (by decide) (fun c19 => ?_) (fun c19 => ?_)
      · replace e := ifn c19 e
        refine j_iconst (v := (0 : Int32)) C dX5_isCorner_43 (by decide) ?_
        cases e
        exact j_iret C hq rfl dX5_isCorner_44 ⟨Nat.le_of_ble_eq_true rfl, Nat.le_of_ble_eq_true rfl⟩ ⟨rfl, rfl⟩
      · replace e := ifp c19 e
        refine j_iconst (v := (1 : Int32)) C dX5_isCorner_39 (by decide) ?_
        refine j_goto (tgt := 44) C dX5_isCorner_40 (by decide) ?_
        cases e
        exact j_iret C hq rfl dX5_isCorner_44 ⟨Nat.le_of_ble_eq_true rfl, Nat.le_of_ble_eq_true rfl⟩ ⟨rfl, rfl⟩
  unfold FX5_isCorner at e
  refine j_aload_n C dX5_isCorner_0 rfl rfl ?_
  refine j_iload_n C dX5_isCorner_1 rfl rfl ?_
  refine j_iload_n C dX5_isCorner_2 rfl rfl ?_
  replace e := ob e
  obtain ⟨_, eo21, e⟩ := e
  replace e := ob e
  obtain ⟨x22, ex22, e⟩ := e
  refine j_callV (ci := 5) (RC := RX5) (T := TX5) (N := 12) (As := [.int l1, .int l2]) (b := l0) (na := 2) (st := []) (k1 := 0) (n1 := 0) C hr (sX5_contains ex22) rfl eo21 kX5_67 kim_X5_contains ksel_X5_contains kini_X5 kc_X5_contains (by decide) rfl ⟨(Nat.le_of_ble_eq_true rfl), (Nat.le_of_ble_eq_true rfl)⟩ (Nat.le_of_ble_eq_true rfl) ⟨rfl, rfl, (Nat.le_of_ble_eq_true rfl), (Nat.le_of_ble_eq_true rfl)⟩ dX5_isCorner_3 ?_
  rintro _ _ ⟨rfl, rfl⟩
  show jx_J X 0 0 6 [(0, .ref l0), (1, .int l1), (2, .int l2)] [.int x22] h
  refine j_if_eq (tgt := 43) C dX5_isCorner_6 (by decide) (fun c25 => ?_) (fun c25 => ?_)
  · replace e := ifp c25 e
    refine j_iconst (v := (0 : Int32)) C dX5_isCorner_43 (by decide) ?_
    cases e
    exact j_iret C hq rfl dX5_isCorner_44 ⟨Nat.le_of_ble_eq_true rfl, Nat.le_of_ble_eq_true rfl⟩ ⟨rfl, rfl⟩
  · replace e := ifn c25 e
    refine j_iload_n C dX5_isCorner_9 rfl rfl ?_
    refine j_if_gt (tgt := 17) C dX5_isCorner_10 (by decide) (fun c24 => ?_) (fun c24 => ?_)
    · replace e := ifp c24 e
      exact b17 l0 l1 l2 e
    · replace e := ifn c24 e
      refine j_iload_n C dX5_isCorner_13 rfl rfl ?_
      refine j_if_le (tgt := 43) C dX5_isCorner_14 (by decide) (fun c23 => ?_) (fun c23 => ?_)
      · replace e := ifp c23 e
        refine j_iconst (v := (0 : Int32)) C dX5_isCorner_43 (by decide) ?_
        cases e
        exact j_iret C hq rfl dX5_isCorner_44 ⟨Nat.le_of_ble_eq_true rfl, Nat.le_of_ble_eq_true rfl⟩ ⟨rfl, rfl⟩
      · replace e := ifn c23 e
        exact b17 l0 l1 l2 e
/-! BorderBasis$State.candidates()I -/
noncomputable def BX5_candidates_54 (l0 : Nat) (l1 : Int32) (l2 : Int32) (h : jx_H) : Option ((Int32 × Int32) ⊕ (Int32)) :=
some (.inl (l1, (l2 + (1 : Int32))))
noncomputable def LX5_candidates_4 (l0 : Nat) (l1 : Int32) (l2 : Int32) (h : jx_H) : Option ((Int32 × Int32) ⊕ (Int32)) :=
(hgi h l0 5 5).bind fun x1 =>
if x1 ≤ l2 then
 exL (some l1)
else
 (hgr h l0 5 6).bind fun x2 =>
 (hal h .int x2 l2).bind fun x3 =>
 (hgr h l0 5 7).bind fun x4 =>
 (hal h .int x4 l2).bind fun x5 =>
 if (11 : Int32) < x3 then
  BX5_candidates_54 l0 l1 l2 h
 else
  if (11 : Int32) < x5 then
   BX5_candidates_54 l0 l1 l2 h
  else
   (isO h l0 5).bind fun _ =>
   (FX5_obstacle l0 x3 x5 h).bind fun x7 =>
   if x7 = (2 : Int32) then
    BX5_candidates_54 l0 l1 l2 h
   else
    BX5_candidates_54 l0 (l1 + (1 : Int32)) l2 h
noncomputable def FX5_candidates (l0 : Nat) (h : jx_H) : Option (Int32) :=
itr (fun s : Int32 × Int32 => LX5_candidates_4 l0 s.1 s.2 h) ((0 : Int32), (0 : Int32))
def rmX5_candidates : Room := { frames := 2, cells := 0, slots := 0, locals := 44 }
set_option maxRecDepth 20000 in
set_option maxHeartbeats 4000000 in
theorem sX5_candidates {l0 : Nat} {h : jx_H} {r : Int32}  (e : FX5_candidates l0 h = some r) : jx_Ct yX5_candidates cX5_candidates 5 (some .int) rmX5_candidates [.ref l0] h (fun r' h' => some (.int r) = r' ∧ h = h') := by
  refine jx_Ct.of (own := RX5) (by decide) rfl (Nat.le_of_ble_eq_true rfl) (fun X C hq hr hL hN => ?_)
  refine jx_sub (lv' := [(0, .ref l0)]) [0] rfl ?_
  unfold FX5_candidates at e
  refine j_iconst (v := (0 : Int32)) C dX5_candidates_0 (by decide) ?_
  refine j_istore_n (lv1 := [(1, .int (0 : Int32)), (0, .ref l0)]) C hL dX5_candidates_1 rfl (Nat.le_of_ble_eq_true rfl) rfl ?_
  refine j_iconst (v := (0 : Int32)) C dX5_candidates_2 (by decide) ?_
  refine j_istore_n (lv1 := [(2, .int (0 : Int32)), (1, .int (0 : Int32)), (0, .ref l0)]) C hL dX5_candidates_3 rfl (Nat.le_of_ble_eq_true rfl) rfl ?_
  refine jx_sub (lv' := [(0, .ref l0), (1, .int (0 : Int32)), (2, .int (0 : Int32))]) [2, 1, 0] rfl ?_
  refine itr_ind (s0 := ((0 : Int32), (0 : Int32))) (fun s : Int32 × Int32 => jx_J X 0 0 4 [(0, .ref l0), (1, .int s.1), (2, .int s.2)] [] h) e ?_
  clear e
  intro s kI2 kT2 e0
  obtain ⟨z12, z13⟩ := s
  obtain ⟨u2, e0_2⟩ := e0
  have e : LX5_candidates_4 l0 z12 z13 h = some u2 := e0_2
  have b54 : ∀ (y14 : Int32) (y15 : Int32), BX5_candidates_54 l0 y14 y15 h = some u2 → jx_J X 0 0 54 [(0, .ref l0), (1, .int y14), (2, .int y15)] [] h := by
    intro y14 y15 e
    unfold BX5_candidates_54 at e
    refine j_iinc (v := (y15 + (1 : Int32))) (lv1 := [(2, .int (y15 + (1 : Int32))), (0, .ref l0), (1, .int y14)]) C hL dX5_candidates_54 rfl rfl (Nat.le_of_ble_eq_true rfl) rfl ?_
    refine j_goto (tgt := 4) C dX5_candidates_57 (by decide) ?_
    obtain rfl := Option.some.inj e
    refine jx_sub (lv' := [(0, .ref l0), (1, .int y14), (2, .int (y15 + (1 : Int32)))]) [1, 2, 0] rfl ?_
    exact kI2 (y14, (y15 + (1 : Int32))) e0_2
  unfold LX5_candidates_4 at e
  refine j_iload_n C dX5_candidates_4 rfl rfl ?_
  refine j_aload_n C dX5_candidates_5 rfl rfl ?_
  replace e := ob e
  obtain ⟨x16, ex16, e⟩ := e
  refine j_geti (ci := 5) (RC := RX5) (T := TX5) (N := 12) 5 C rfl klX5 (Nat.le_of_ble_eq_true rfl) kX5_58 rfl dX5_candidates_6 ex16 ?_
  refine j_icmp_ge (tgt := 60) C dX5_candidates_9 (by decide) (fun c26 => ?_) (fun c26 => ?_)
  · replace e := ifp c26 e
    obtain ⟨t_3, e_3, eu_3⟩ := exL_spec e
    obtain rfl := kT2 t_3 (e0_2.trans (congrArg some eu_3))
    replace e := e_3
    refine j_iload_n C dX5_candidates_60 rfl rfl ?_
    cases e
    exact j_iret C hq rfl dX5_candidates_61 ⟨Nat.le_of_ble_eq_true rfl, Nat.le_of_ble_eq_true rfl⟩ ⟨rfl, rfl⟩
  · replace e := ifn c26 e
    refine j_aload_n C dX5_candidates_12 rfl rfl ?_
    replace e := ob e
    obtain ⟨x17, ex17, e⟩ := e
    refine j_getr (ci := 5) (RC := RX5) (T := TX5) (N := 12) 6 C rfl klX5 (Nat.le_of_ble_eq_true rfl) kX5_21 rfl dX5_candidates_13 ex17 ?_
    refine j_iload_n C dX5_candidates_16 rfl rfl ?_
    replace e := ob e
    obtain ⟨x18, ex18, e⟩ := e
    refine j_iald C dX5_candidates_17 ex18 ?_
    refine j_istore_n (lv1 := [(3, .int x18), (0, .ref l0), (1, .int z12), (2, .int z13)]) C hL dX5_candidates_18 rfl (Nat.le_of_ble_eq_true rfl) rfl ?_
    refine j_aload_n C dX5_candidates_19 rfl rfl ?_
    replace e := ob e
    obtain ⟨x19, ex19, e⟩ := e
    refine j_getr (ci := 5) (RC := RX5) (T := TX5) (N := 12) 7 C rfl klX5 (Nat.le_of_ble_eq_true rfl) kX5_24 rfl dX5_candidates_20 ex19 ?_
    refine j_iload_n C dX5_candidates_23 rfl rfl ?_
    replace e := ob e
    obtain ⟨x20, ex20, e⟩ := e
    refine j_iald C dX5_candidates_24 ex20 ?_
    refine j_istore (lv1 := [(4, .int x20), (3, .int x18), (0, .ref l0), (1, .int z12), (2, .int z13)]) C hL dX5_candidates_25 (Nat.le_of_ble_eq_true rfl) rfl ?_
    refine j_iload_n C dX5_candidates_27 rfl rfl ?_
    refine j_bipush (v := (11 : Int32)) C dX5_candidates_28 (by decide) ?_
    refine j_icmp_gt (tgt := 54) C dX5_candidates_30 (by decide) (fun c25 => ?_) (fun c25 => ?_)
    · replace e := ifp c25 e
      refine jx_sub (lv' := [(0, .ref l0), (1, .int z12), (2, .int z13)]) [2, 3, 4] rfl ?_
      exact b54 z12 z13 e
    · replace e := ifn c25 e
      refine j_iload C dX5_candidates_33 rfl ?_
      refine j_bipush (v := (11 : Int32)) C dX5_candidates_35 (by decide) ?_
      refine j_icmp_gt (tgt := 54) C dX5_candidates_37 (by decide) (fun c24 => ?_) (fun c24 => ?_)
      · replace e := ifp c24 e
        refine jx_sub (lv' := [(0, .ref l0), (1, .int z12), (2, .int z13)]) [2, 3, 4] rfl ?_
        exact b54 z12 z13 e
      · replace e := ifn c24 e
        refine j_aload_n C dX5_candidates_40 rfl rfl ?_
        refine j_iload_n C dX5_candidates_41 rfl rfl ?_
        refine j_iload C dX5_candidates_42 rfl ?_
        replace e := ob e
        obtain ⟨_, eo21, e⟩ := e
        replace e := ob e
        obtain ⟨x22, ex22, e⟩ := e
        refine j_callV (ci := 5) (RC := RX5) (T := TX5) (N := 12) (As := [.int x18, .int x20]) (b := l0) (na := 2) (st := []) (k1 := 0) (n1 := 0) C hr (sX5_obstacle ex22) rfl eo21 kX5_71 kim_X5_obstacle ksel_X5_obstacle kini_X5 kc_X5_obstacle (by decide) rfl ⟨(Nat.le_of_ble_eq_true rfl), (Nat.le_of_ble_eq_true rfl)⟩ (Nat.le_of_ble_eq_true rfl) ⟨rfl, rfl, (Nat.le_of_ble_eq_true rfl), (Nat.le_of_ble_eq_true rfl)⟩ dX5_candidates_44 ?_
        rintro _ _ ⟨rfl, rfl⟩
        show jx_J X 0 0 47 [(4, .int x20), (3, .int x18), (0, .ref l0), (1, .int z12), (2, .int z13)] [.int x22] h
        refine j_iconst (v := (2 : Int32)) C dX5_candidates_47 (by decide) ?_
        refine j_icmp_eq (tgt := 54) C dX5_candidates_48 (by decide) (fun c23 => ?_) (fun c23 => ?_)
        · replace e := ifp c23 e
          refine jx_sub (lv' := [(0, .ref l0), (1, .int z12), (2, .int z13)]) [2, 3, 4] rfl ?_
          exact b54 z12 z13 e
        · replace e := ifn c23 e
          refine j_iinc (v := (z12 + (1 : Int32))) (lv1 := [(1, .int (z12 + (1 : Int32))), (4, .int x20), (3, .int x18), (0, .ref l0), (2, .int z13)]) C hL dX5_candidates_51 rfl rfl (Nat.le_of_ble_eq_true rfl) rfl ?_
          refine jx_sub (lv' := [(0, .ref l0), (1, .int (z12 + (1 : Int32))), (2, .int z13)]) [3, 0, 4] rfl ?_
          exact b54 (z12 + (1 : Int32)) z13 e
/-! BorderBasis$State.corners()I -/
noncomputable def BX5_corners_34 (l0 : Nat) (l1 : Int32) (l2 : Int32) (h : jx_H) : Option ((Int32 × Int32) ⊕ (Int32)) :=
some (.inl (l1, (l2 + (1 : Int32))))
noncomputable def LX5_corners_4 (l0 : Nat) (l1 : Int32) (l2 : Int32) (h : jx_H) : Option ((Int32 × Int32) ⊕ (Int32)) :=
(hgi h l0 5 2).bind fun x1 =>
if x1 ≤ l2 then
 exL (some l1)
else
 (hgr h l0 5 3).bind fun x2 =>
 (hal h .int x2 l2).bind fun x3 =>
 (hgr h l0 5 4).bind fun x4 =>
 (hal h .int x4 l2).bind fun x5 =>
 (isO h l0 5).bind fun _ =>
 (FX5_isCorner l0 x3 x5 h).bind fun x7 =>
 if x7 = 0 then
  BX5_corners_34 l0 l1 l2 h
 else
  BX5_corners_34 l0 (l1 + (1 : Int32)) l2 h
noncomputable def FX5_corners (l0 : Nat) (h : jx_H) : Option (Int32) :=
itr (fun s : Int32 × Int32 => LX5_corners_4 l0 s.1 s.2 h) ((0 : Int32), (0 : Int32))
def rmX5_corners : Room := { frames := 2, cells := 0, slots := 0, locals := 44 }
set_option maxRecDepth 20000 in
set_option maxHeartbeats 4000000 in
theorem sX5_corners {l0 : Nat} {h : jx_H} {r : Int32}  (e : FX5_corners l0 h = some r) : jx_Ct yX5_corners cX5_corners 3 (some .int) rmX5_corners [.ref l0] h (fun r' h' => some (.int r) = r' ∧ h = h') := by
  refine jx_Ct.of (own := RX5) (by decide) rfl (Nat.le_of_ble_eq_true rfl) (fun X C hq hr hL hN => ?_)
  refine jx_sub (lv' := [(0, .ref l0)]) [0] rfl ?_
  unfold FX5_corners at e
  refine j_iconst (v := (0 : Int32)) C dX5_corners_0 (by decide) ?_
  refine j_istore_n (lv1 := [(1, .int (0 : Int32)), (0, .ref l0)]) C hL dX5_corners_1 rfl (Nat.le_of_ble_eq_true rfl) rfl ?_
  refine j_iconst (v := (0 : Int32)) C dX5_corners_2 (by decide) ?_
  refine j_istore_n (lv1 := [(2, .int (0 : Int32)), (1, .int (0 : Int32)), (0, .ref l0)]) C hL dX5_corners_3 rfl (Nat.le_of_ble_eq_true rfl) rfl ?_
  refine jx_sub (lv' := [(0, .ref l0), (1, .int (0 : Int32)), (2, .int (0 : Int32))]) [2, 1, 0] rfl ?_
  refine itr_ind (s0 := ((0 : Int32), (0 : Int32))) (fun s : Int32 × Int32 => jx_J X 0 0 4 [(0, .ref l0), (1, .int s.1), (2, .int s.2)] [] h) e ?_
  clear e
  intro s kI2 kT2 e0
  obtain ⟨z10, z11⟩ := s
  obtain ⟨u2, e0_2⟩ := e0
  have e : LX5_corners_4 l0 z10 z11 h = some u2 := e0_2
  have b34 : ∀ (y12 : Int32) (y13 : Int32), BX5_corners_34 l0 y12 y13 h = some u2 → jx_J X 0 0 34 [(0, .ref l0), (1, .int y12), (2, .int y13)] [] h := by
    intro y12 y13 e
    unfold BX5_corners_34 at e
    refine j_iinc (v := (y13 + (1 : Int32))) (lv1 := [(2, .int (y13 + (1 : Int32))), (0, .ref l0), (1, .int y12)]) C hL dX5_corners_34 rfl rfl (Nat.le_of_ble_eq_true rfl) rfl ?_
    refine j_goto (tgt := 4) C dX5_corners_37 (by decide) ?_
    obtain rfl := Option.some.inj e
    refine jx_sub (lv' := [(0, .ref l0), (1, .int y12), (2, .int (y13 + (1 : Int32)))]) [1, 2, 0] rfl ?_
    exact kI2 (y12, (y13 + (1 : Int32))) e0_2
  unfold LX5_corners_4 at e
  refine j_iload_n C dX5_corners_4 rfl rfl ?_
  refine j_aload_n C dX5_corners_5 rfl rfl ?_
  replace e := ob e
  obtain ⟨x14, ex14, e⟩ := e
  refine j_geti (ci := 5) (RC := RX5) (T := TX5) (N := 12) 2 C rfl klX5 (Nat.le_of_ble_eq_true rfl) kX5_55 rfl dX5_corners_6 ex14 ?_
  refine j_icmp_ge (tgt := 40) C dX5_corners_9 (by decide) (fun c22 => ?_) (fun c22 => ?_)
  · replace e := ifp c22 e
    obtain ⟨t_3, e_3, eu_3⟩ := exL_spec e
    obtain rfl := kT2 t_3 (e0_2.trans (congrArg some eu_3))
    replace e := e_3
    refine j_iload_n C dX5_corners_40 rfl rfl ?_
    cases e
    exact j_iret C hq rfl dX5_corners_41 ⟨Nat.le_of_ble_eq_true rfl, Nat.le_of_ble_eq_true rfl⟩ ⟨rfl, rfl⟩
  · replace e := ifn c22 e
    refine j_aload_n C dX5_corners_12 rfl rfl ?_
    refine j_aload_n C dX5_corners_13 rfl rfl ?_
    replace e := ob e
    obtain ⟨x15, ex15, e⟩ := e
    refine j_getr (ci := 5) (RC := RX5) (T := TX5) (N := 12) 3 C rfl klX5 (Nat.le_of_ble_eq_true rfl) kX5_15 rfl dX5_corners_14 ex15 ?_
    refine j_iload_n C dX5_corners_17 rfl rfl ?_
    replace e := ob e
    obtain ⟨x16, ex16, e⟩ := e
    refine j_iald C dX5_corners_18 ex16 ?_
    refine j_aload_n C dX5_corners_19 rfl rfl ?_
    replace e := ob e
    obtain ⟨x17, ex17, e⟩ := e
    refine j_getr (ci := 5) (RC := RX5) (T := TX5) (N := 12) 4 C rfl klX5 (Nat.le_of_ble_eq_true rfl) kX5_18 rfl dX5_corners_20 ex17 ?_
    refine j_iload_n C dX5_corners_23 rfl rfl ?_
    replace e := ob e
    obtain ⟨x18, ex18, e⟩ := e
    refine j_iald C dX5_corners_24 ex18 ?_
    replace e := ob e
    obtain ⟨_, eo19, e⟩ := e
    replace e := ob e
    obtain ⟨x20, ex20, e⟩ := e
    refine j_callV (ci := 5) (RC := RX5) (T := TX5) (N := 12) (As := [.int x16, .int x18]) (b := l0) (na := 2) (st := []) (k1 := 0) (n1 := 0) C hr (sX5_isCorner ex20) rfl eo19 kX5_75 kim_X5_isCorner ksel_X5_isCorner kini_X5 kc_X5_isCorner (by decide) rfl ⟨(Nat.le_of_ble_eq_true rfl), (Nat.le_of_ble_eq_true rfl)⟩ (Nat.le_of_ble_eq_true rfl) ⟨rfl, rfl, (Nat.le_of_ble_eq_true rfl), (Nat.le_of_ble_eq_true rfl)⟩ dX5_corners_25 ?_
    rintro _ _ ⟨rfl, rfl⟩
    show jx_J X 0 0 28 [(0, .ref l0), (1, .int z10), (2, .int z11)] [.int x20] h
    refine j_if_eq (tgt := 34) C dX5_corners_28 (by decide) (fun c21 => ?_) (fun c21 => ?_)
    · replace e := ifp c21 e
      exact b34 z10 z11 e
    · replace e := ifn c21 e
      refine j_iinc (v := (z10 + (1 : Int32))) (lv1 := [(1, .int (z10 + (1 : Int32))), (0, .ref l0), (2, .int z11)]) C hL dX5_corners_31 rfl rfl (Nat.le_of_ble_eq_true rfl) rfl ?_
      refine jx_sub (lv' := [(0, .ref l0), (1, .int (z10 + (1 : Int32))), (2, .int z11)]) [1, 0, 2] rfl ?_
      exact b34 (z10 + (1 : Int32)) z11 e
/-! BorderBasis$State.coefficientsNotZero()I -/
noncomputable def BX5_coefficientsNotZero_34 (l0 : Nat) (l1 : Int32) (l2 : Int32) (l3 : Int32) (h : jx_H) : Option ((Int32 × Int32) ⊕ ((Int32 × Int32) ⊕ (Int32))) :=
some (.inl (l1, (l3 + (1 : Int32))))
noncomputable def LX5_coefficientsNotZero_14 (l0 : Nat) (l2 : Int32) (l1 : Int32) (l3 : Int32) (h : jx_H) : Option ((Int32 × Int32) ⊕ ((Int32 × Int32) ⊕ (Int32))) :=
(hgi h l0 5 2).bind fun x2 =>
if x2 ≤ l3 then
 exL (some (.inl (l1, (l2 + (1 : Int32)))))
else
 (isO h l0 5).bind fun _ =>
 (FX5_coefficient l0 l2 l3 h).bind fun x4 =>
 if x4 = 0 then
  BX5_coefficientsNotZero_34 l0 l1 l2 l3 h
 else
  BX5_coefficientsNotZero_34 l0 (l1 + (1 : Int32)) l2 l3 h
noncomputable def LX5_coefficientsNotZero_4 (l0 : Nat) (l1 : Int32) (l2 : Int32) (h : jx_H) : Option ((Int32 × Int32) ⊕ (Int32)) :=
(hgi h l0 5 5).bind fun x1 =>
if x1 ≤ l2 then
 exL (some l1)
else
 itr (fun s : Int32 × Int32 => LX5_coefficientsNotZero_14 l0 l2 s.1 s.2 h) (l1, (0 : Int32))
noncomputable def FX5_coefficientsNotZero (l0 : Nat) (h : jx_H) : Option (Int32) :=
itr (fun s : Int32 × Int32 => LX5_coefficientsNotZero_4 l0 s.1 s.2 h) ((0 : Int32), (0 : Int32))
def rmX5_coefficientsNotZero : Room := { frames := 2, cells := 0, slots := 0, locals := 44 }
set_option maxRecDepth 20000 in
set_option maxHeartbeats 4000000 in
theorem sX5_coefficientsNotZero {l0 : Nat} {h : jx_H} {r : Int32}  (e : FX5_coefficientsNotZero l0 h = some r) : jx_Ct yX5_coefficientsNotZero cX5_coefficientsNotZero 4 (some .int) rmX5_coefficientsNotZero [.ref l0] h (fun r' h' => some (.int r) = r' ∧ h = h') := by
  refine jx_Ct.of (own := RX5) (by decide) rfl (Nat.le_of_ble_eq_true rfl) (fun X C hq hr hL hN => ?_)
  refine jx_sub (lv' := [(0, .ref l0)]) [0] rfl ?_
  unfold FX5_coefficientsNotZero at e
  refine j_iconst (v := (0 : Int32)) C dX5_coefficientsNotZero_0 (by decide) ?_
  refine j_istore_n (lv1 := [(1, .int (0 : Int32)), (0, .ref l0)]) C hL dX5_coefficientsNotZero_1 rfl (Nat.le_of_ble_eq_true rfl) rfl ?_
  refine j_iconst (v := (0 : Int32)) C dX5_coefficientsNotZero_2 (by decide) ?_
  refine j_istore_n (lv1 := [(2, .int (0 : Int32)), (1, .int (0 : Int32)), (0, .ref l0)]) C hL dX5_coefficientsNotZero_3 rfl (Nat.le_of_ble_eq_true rfl) rfl ?_
  refine jx_sub (lv' := [(0, .ref l0), (1, .int (0 : Int32)), (2, .int (0 : Int32))]) [2, 1, 0] rfl ?_
  refine itr_ind (s0 := ((0 : Int32), (0 : Int32))) (fun s : Int32 × Int32 => jx_J X 0 0 4 [(0, .ref l0), (1, .int s.1), (2, .int s.2)] [] h) e ?_
  clear e
  intro s kI3 kT3 e0
  obtain ⟨z8, z9⟩ := s
  obtain ⟨u3, e0_3⟩ := e0
  have e : LX5_coefficientsNotZero_4 l0 z8 z9 h = some u3 := e0_3
  unfold LX5_coefficientsNotZero_4 at e
  refine j_iload_n C dX5_coefficientsNotZero_4 rfl rfl ?_
  refine j_aload_n C dX5_coefficientsNotZero_5 rfl rfl ?_
  replace e := ob e
  obtain ⟨x10, ex10, e⟩ := e
  refine j_geti (ci := 5) (RC := RX5) (T := TX5) (N := 12) 5 C rfl klX5 (Nat.le_of_ble_eq_true rfl) kX5_58 rfl dX5_coefficientsNotZero_6 ex10 ?_
  refine j_icmp_ge (tgt := 46) C dX5_coefficientsNotZero_9 (by decide) (fun c20 => ?_) (fun c20 => ?_)
  · replace e := ifp c20 e
    obtain ⟨t_4, e_4, eu_4⟩ := exL_spec e
    obtain rfl := kT3 t_4 (e0_3.trans (congrArg some eu_4))
    replace e := e_4
    refine j_iload_n C dX5_coefficientsNotZero_46 rfl rfl ?_
    cases e
    exact j_iret C hq rfl dX5_coefficientsNotZero_47 ⟨Nat.le_of_ble_eq_true rfl, Nat.le_of_ble_eq_true rfl⟩ ⟨rfl, rfl⟩
  · replace e := ifn c20 e
    refine j_iconst (v := (0 : Int32)) C dX5_coefficientsNotZero_12 (by decide) ?_
    refine j_istore_n (lv1 := [(3, .int (0 : Int32)), (0, .ref l0), (1, .int z8), (2, .int z9)]) C hL dX5_coefficientsNotZero_13 rfl (Nat.le_of_ble_eq_true rfl) rfl ?_
    refine jx_sub (lv' := [(0, .ref l0), (1, .int z8), (2, .int z9), (3, .int (0 : Int32))]) [1, 2, 3, 0] rfl ?_
    refine itr_ind (s0 := (z8, (0 : Int32))) (fun s : Int32 × Int32 => jx_J X 0 0 14 [(0, .ref l0), (1, .int s.1), (2, .int z9), (3, .int s.2)] [] h) e ?_
    clear e
    intro s kI5 kT5 e0
    obtain ⟨z11, z12⟩ := s
    obtain ⟨u5, e0_5⟩ := e0
    have e : LX5_coefficientsNotZero_14 l0 z9 z11 z12 h = some u5 := e0_5
    have b34 : ∀ (y13 : Int32) (y14 : Int32), BX5_coefficientsNotZero_34 l0 y13 z9 y14 h = some u5 → jx_J X 0 0 34 [(0, .ref l0), (1, .int y13), (2, .int z9), (3, .int y14)] [] h := by
      intro y13 y14 e
      unfold BX5_coefficientsNotZero_34 at e
      refine j_iinc (v := (y14 + (1 : Int32))) (lv1 := [(3, .int (y14 + (1 : Int32))), (0, .ref l0), (1, .int y13), (2, .int z9)]) C hL dX5_coefficientsNotZero_34 rfl rfl (Nat.le_of_ble_eq_true rfl) rfl ?_
      refine j_goto (tgt := 14) C dX5_coefficientsNotZero_37 (by decide) ?_
      obtain rfl := Option.some.inj e
      refine jx_sub (lv' := [(0, .ref l0), (1, .int y13), (2, .int z9), (3, .int (y14 + (1 : Int32)))]) [1, 2, 3, 0] rfl ?_
      exact kI5 (y13, (y14 + (1 : Int32))) e0_5
    unfold LX5_coefficientsNotZero_14 at e
    refine j_iload_n C dX5_coefficientsNotZero_14 rfl rfl ?_
    refine j_aload_n C dX5_coefficientsNotZero_15 rfl rfl ?_
    replace e := ob e
    obtain ⟨x15, ex15, e⟩ := e
    refine j_geti (ci := 5) (RC := RX5) (T := TX5) (N := 12) 2 C rfl klX5 (Nat.le_of_ble_eq_true rfl) kX5_55 rfl dX5_coefficientsNotZero_16 ex15 ?_
    refine j_icmp_ge (tgt := 40) C dX5_coefficientsNotZero_19 (by decide) (fun c19 => ?_) (fun c19 => ?_)
    · replace e := ifp c19 e
      obtain ⟨t_6, e_6, eu_6⟩ := exL_spec e
      obtain rfl := kT5 t_6 (e0_5.trans (congrArg some eu_6))
      replace e := e_6
      refine j_iinc (v := (z9 + (1 : Int32))) (lv1 := [(2, .int (z9 + (1 : Int32))), (0, .ref l0), (1, .int z11), (3, .int z12)]) C hL dX5_coefficientsNotZero_40 rfl rfl (Nat.le_of_ble_eq_true rfl) rfl ?_
      refine j_goto (tgt := 4) C dX5_coefficientsNotZero_43 (by decide) ?_
      obtain rfl := Option.some.inj e
      refine jx_sub (lv' := [(0, .ref l0), (1, .int z11), (2, .int (z9 + (1 : Int32)))]) [1, 2, 0] rfl ?_
      exact kI3 (z11, (z9 + (1 : Int32))) e0_3
    · replace e := ifn c19 e
      refine j_aload_n C dX5_coefficientsNotZero_22 rfl rfl ?_
      refine j_iload_n C dX5_coefficientsNotZero_23 rfl rfl ?_
      refine j_iload_n C dX5_coefficientsNotZero_24 rfl rfl ?_
      replace e := ob e
      obtain ⟨_, eo16, e⟩ := e
      replace e := ob e
      obtain ⟨x17, ex17, e⟩ := e
      refine j_callV (ci := 5) (RC := RX5) (T := TX5) (N := 12) (As := [.int z9, .int z12]) (b := l0) (na := 2) (st := []) (k1 := 0) (n1 := 0) C hr (sX5_coefficient ex17) rfl eo16 kX5_98 kim_X5_coefficient ksel_X5_coefficient kini_X5 kc_X5_coefficient (by decide) rfl ⟨(Nat.le_of_ble_eq_true rfl), (Nat.le_of_ble_eq_true rfl)⟩ (Nat.le_of_ble_eq_true rfl) ⟨rfl, rfl, (Nat.le_of_ble_eq_true rfl), (Nat.le_of_ble_eq_true rfl)⟩ dX5_coefficientsNotZero_25 ?_
      rintro _ _ ⟨rfl, rfl⟩
      show jx_J X 0 0 28 [(0, .ref l0), (1, .int z11), (2, .int z9), (3, .int z12)] [.int x17] h
      refine j_if_eq (tgt := 34) C dX5_coefficientsNotZero_28 (by decide) (fun c18 => ?_) (fun c18 => ?_)
      · replace e := ifp c18 e
        exact b34 z11 z12 e
      · replace e := ifn c18 e
        refine j_iinc (v := (z11 + (1 : Int32))) (lv1 := [(1, .int (z11 + (1 : Int32))), (0, .ref l0), (2, .int z9), (3, .int z12)]) C hL dX5_coefficientsNotZero_31 rfl rfl (Nat.le_of_ble_eq_true rfl) rfl ?_
        refine jx_sub (lv' := [(0, .ref l0), (1, .int (z11 + (1 : Int32))), (2, .int z9), (3, .int z12)]) [1, 0, 2, 3] rfl ?_
        exact b34 (z11 + (1 : Int32)) z12 e
/-! BorderBasis$State.hasSameIdeal(LBorderBasis$State;)Z -/
noncomputable def LX5_hasSameIdeal_2 (l0 : Nat) (l1 : Nat) (l2 : Int32) (h : jx_H) : Option ((Int32) ⊕ (Int32)) :=
if (12 : Int32) < l2 then
 exL (some (1 : Int32))
else
 (hgr h l0 5 1).bind fun x1 =>
 (hal h .int x1 l2).bind fun x2 =>
 (hgr h l1 5 1).bind fun x3 =>
 (hal h .int x3 l2).bind fun x4 =>
 if x2 = x4 then
  some (.inl (l2 + (1 : Int32)))
 else
  exL (some (0 : Int32))
noncomputable def FX5_hasSameIdeal (l0 : Nat) (l1 : Nat) (h : jx_H) : Option (Int32) :=
itr (fun s : Int32 => LX5_hasSameIdeal_2 l0 l1 s h) (0 : Int32)
def rmX5_hasSameIdeal : Room := { frames := 0, cells := 0, slots := 0, locals := 0 }
set_option maxRecDepth 20000 in
set_option maxHeartbeats 4000000 in
theorem sX5_hasSameIdeal {l0 : Nat} {l1 : Nat} {h : jx_H} {r : Int32}  (e : FX5_hasSameIdeal l0 l1 h = some r) : jx_Ct yX5_hasSameIdeal cX5_hasSameIdeal 3 (some .boolean) rmX5_hasSameIdeal [.ref l0, .ref l1] h (fun r' h' => some (.int r) = r' ∧ h = h') := by
  refine jx_Ct.of (own := RX5) (by decide) rfl (Nat.le_of_ble_eq_true rfl) (fun X C hq hr hL hN => ?_)
  refine jx_sub (lv' := [(0, .ref l0), (1, .ref l1)]) [0, 1] rfl ?_
  unfold FX5_hasSameIdeal at e
  refine j_iconst (v := (0 : Int32)) C dX5_hasSameIdeal_0 (by decide) ?_
  refine j_istore_n (lv1 := [(2, .int (0 : Int32)), (0, .ref l0), (1, .ref l1)]) C hL dX5_hasSameIdeal_1 rfl (Nat.le_of_ble_eq_true rfl) rfl ?_
  refine jx_sub (lv' := [(0, .ref l0), (1, .ref l1), (2, .int (0 : Int32))]) [1, 2, 0] rfl ?_
  refine itr_ind (s0 := (0 : Int32)) (fun s : Int32 => jx_J X 0 0 2 [(0, .ref l0), (1, .ref l1), (2, .int s)] [] h) e ?_
  clear e
  intro s kI3 kT3 e0
  obtain ⟨z7, es⟩ : ∃ z, z = s := ⟨_, rfl⟩
  subst es
  obtain ⟨u3, e0_3⟩ := e0
  have e : LX5_hasSameIdeal_2 l0 l1 z7 h = some u3 := e0_3
  unfold LX5_hasSameIdeal_2 at e
  refine j_iload_n C dX5_hasSameIdeal_2 rfl rfl ?_
  refine j_bipush (v := (12 : Int32)) C dX5_hasSameIdeal_3 (by decide) ?_
  refine j_icmp_gt (tgt := 31) C dX5_hasSameIdeal_5 (by decide) (fun c13 => ?_) (fun c13 => ?_)
  · replace e := ifp c13 e
    obtain ⟨t_4, e_4, eu_4⟩ := exL_spec e
    obtain rfl := kT3 t_4 (e0_3.trans (congrArg some eu_4))
    replace e := e_4
    refine j_iconst (v := (1 : Int32)) C dX5_hasSameIdeal_31 (by decide) ?_
    cases e
    exact j_iret C hq rfl dX5_hasSameIdeal_32 ⟨Nat.le_of_ble_eq_true rfl, Nat.le_of_ble_eq_true rfl⟩ ⟨rfl, rfl⟩
  · replace e := ifn c13 e
    refine j_aload_n C dX5_hasSameIdeal_8 rfl rfl ?_
    replace e := ob e
    obtain ⟨x8, ex8, e⟩ := e
    refine j_getr (ci := 5) (RC := RX5) (T := TX5) (N := 12) 1 C rfl klX5 (Nat.le_of_ble_eq_true rfl) kX5_9 rfl dX5_hasSameIdeal_9 ex8 ?_
    refine j_iload_n C dX5_hasSameIdeal_12 rfl rfl ?_
    replace e := ob e
    obtain ⟨x9, ex9, e⟩ := e
    refine j_iald C dX5_hasSameIdeal_13 ex9 ?_
    refine j_aload_n C dX5_hasSameIdeal_14 rfl rfl ?_
    replace e := ob e
    obtain ⟨x10, ex10, e⟩ := e
    refine j_getr (ci := 5) (RC := RX5) (T := TX5) (N := 12) 1 C rfl klX5 (Nat.le_of_ble_eq_true rfl) kX5_9 rfl dX5_hasSameIdeal_15 ex10 ?_
    refine j_iload_n C dX5_hasSameIdeal_18 rfl rfl ?_
    replace e := ob e
    obtain ⟨x11, ex11, e⟩ := e
    refine j_iald C dX5_hasSameIdeal_19 ex11 ?_
    refine j_icmp_eq (tgt := 25) C dX5_hasSameIdeal_20 (by decide) (fun c12 => ?_) (fun c12 => ?_)
    · replace e := ifp c12 e
      refine j_iinc (v := (z7 + (1 : Int32))) (lv1 := [(2, .int (z7 + (1 : Int32))), (0, .ref l0), (1, .ref l1)]) C hL dX5_hasSameIdeal_25 rfl rfl (Nat.le_of_ble_eq_true rfl) rfl ?_
      refine j_goto (tgt := 2) C dX5_hasSameIdeal_28 (by decide) ?_
      obtain rfl := Option.some.inj e
      refine jx_sub (lv' := [(0, .ref l0), (1, .ref l1), (2, .int (z7 + (1 : Int32)))]) [1, 2, 0] rfl ?_
      exact kI3 (z7 + (1 : Int32)) e0_3
    · replace e := ifn c12 e
      obtain ⟨t_5, e_5, eu_5⟩ := exL_spec e
      obtain rfl := kT3 t_5 (e0_3.trans (congrArg some eu_5))
      replace e := e_5
      refine j_iconst (v := (0 : Int32)) C dX5_hasSameIdeal_23 (by decide) ?_
      cases e
      exact j_iret C hq rfl dX5_hasSameIdeal_24 ⟨Nat.le_of_ble_eq_true rfl, Nat.le_of_ble_eq_true rfl⟩ ⟨rfl, rfl⟩
/-! BorderBasis$State.hasOtherRule(LBorderBasis$State;I)Z -/
noncomputable def LX5_hasOtherRule_2 (l0 : Nat) (l1 : Nat) (l2 : Int32) (l3 : Int32) (h : jx_H) : Option ((Int32) ⊕ (Int32)) :=
(hgi h l0 5 2).bind fun x1 =>
if x1 ≤ l3 then
 exL (some (0 : Int32))
else
 (isO h l0 5).bind fun _ =>
 (FX5_coefficient l0 l2 l3 h).bind fun x3 =>
 (isO h l1 5).bind fun _ =>
 (FX5_coefficient l1 l2 l3 h).bind fun x5 =>
 if x3 = x5 then
  some (.inl (l3 + (1 : Int32)))
 else
  exL (some (1 : Int32))
noncomputable def FX5_hasOtherRule (l0 : Nat) (l1 : Nat) (l2 : Int32) (h : jx_H) : Option (Int32) :=
itr (fun s : Int32 => LX5_hasOtherRule_2 l0 l1 l2 s h) (0 : Int32)
def rmX5_hasOtherRule : Room := { frames := 2, cells := 0, slots := 0, locals := 44 }
set_option maxRecDepth 20000 in
set_option maxHeartbeats 4000000 in
theorem sX5_hasOtherRule {l0 : Nat} {l1 : Nat} {l2 : Int32} {h : jx_H} {r : Int32}  (e : FX5_hasOtherRule l0 l1 l2 h = some r) : jx_Ct yX5_hasOtherRule cX5_hasOtherRule 4 (some .boolean) rmX5_hasOtherRule [.ref l0, .ref l1, .int l2] h (fun r' h' => some (.int r) = r' ∧ h = h') := by
  refine jx_Ct.of (own := RX5) (by decide) rfl (Nat.le_of_ble_eq_true rfl) (fun X C hq hr hL hN => ?_)
  refine jx_sub (lv' := [(0, .ref l0), (1, .ref l1), (2, .int l2)]) [0, 1, 2] rfl ?_
  unfold FX5_hasOtherRule at e
  refine j_iconst (v := (0 : Int32)) C dX5_hasOtherRule_0 (by decide) ?_
  refine j_istore_n (lv1 := [(3, .int (0 : Int32)), (0, .ref l0), (1, .ref l1), (2, .int l2)]) C hL dX5_hasOtherRule_1 rfl (Nat.le_of_ble_eq_true rfl) rfl ?_
  refine jx_sub (lv' := [(0, .ref l0), (1, .ref l1), (2, .int l2), (3, .int (0 : Int32))]) [1, 2, 3, 0] rfl ?_
  refine itr_ind (s0 := (0 : Int32)) (fun s : Int32 => jx_J X 0 0 2 [(0, .ref l0), (1, .ref l1), (2, .int l2), (3, .int s)] [] h) e ?_
  clear e
  intro s kI3 kT3 e0
  obtain ⟨z8, es⟩ : ∃ z, z = s := ⟨_, rfl⟩
  subst es
  obtain ⟨u3, e0_3⟩ := e0
  have e : LX5_hasOtherRule_2 l0 l1 l2 z8 h = some u3 := e0_3
  unfold LX5_hasOtherRule_2 at e
  refine j_iload_n C dX5_hasOtherRule_2 rfl rfl ?_
  refine j_aload_n C dX5_hasOtherRule_3 rfl rfl ?_
  replace e := ob e
  obtain ⟨x9, ex9, e⟩ := e
  refine j_geti (ci := 5) (RC := RX5) (T := TX5) (N := 12) 2 C rfl klX5 (Nat.le_of_ble_eq_true rfl) kX5_55 rfl dX5_hasOtherRule_4 ex9 ?_
  refine j_icmp_ge (tgt := 33) C dX5_hasOtherRule_7 (by decide) (fun c15 => ?_) (fun c15 => ?_)
  · replace e := ifp c15 e
    obtain ⟨t_4, e_4, eu_4⟩ := exL_spec e
    obtain rfl := kT3 t_4 (e0_3.trans (congrArg some eu_4))
    replace e := e_4
    refine j_iconst (v := (0 : Int32)) C dX5_hasOtherRule_33 (by decide) ?_
    cases e
    exact j_iret C hq rfl dX5_hasOtherRule_34 ⟨Nat.le_of_ble_eq_true rfl, Nat.le_of_ble_eq_true rfl⟩ ⟨rfl, rfl⟩
  · replace e := ifn c15 e
    refine j_aload_n C dX5_hasOtherRule_10 rfl rfl ?_
    refine j_iload_n C dX5_hasOtherRule_11 rfl rfl ?_
    refine j_iload_n C dX5_hasOtherRule_12 rfl rfl ?_
    replace e := ob e
    obtain ⟨_, eo10, e⟩ := e
    replace e := ob e
    obtain ⟨x11, ex11, e⟩ := e
    refine j_callV (ci := 5) (RC := RX5) (T := TX5) (N := 12) (As := [.int l2, .int z8]) (b := l0) (na := 2) (st := []) (k1 := 0) (n1 := 0) C hr (sX5_coefficient ex11) rfl eo10 kX5_98 kim_X5_coefficient ksel_X5_coefficient kini_X5 kc_X5_coefficient (by decide) rfl ⟨(Nat.le_of_ble_eq_true rfl), (Nat.le_of_ble_eq_true rfl)⟩ (Nat.le_of_ble_eq_true rfl) ⟨rfl, rfl, (Nat.le_of_ble_eq_true rfl), (Nat.le_of_ble_eq_true rfl)⟩ dX5_hasOtherRule_13 ?_
    rintro _ _ ⟨rfl, rfl⟩
    show jx_J X 0 0 16 [(0, .ref l0), (1, .ref l1), (2, .int l2), (3, .int z8)] [.int x11] h
    refine j_aload_n C dX5_hasOtherRule_16 rfl rfl ?_
    refine j_iload_n C dX5_hasOtherRule_17 rfl rfl ?_
    refine j_iload_n C dX5_hasOtherRule_18 rfl rfl ?_
    replace e := ob e
    obtain ⟨_, eo12, e⟩ := e
    replace e := ob e
    obtain ⟨x13, ex13, e⟩ := e
    refine j_callV (ci := 5) (RC := RX5) (T := TX5) (N := 12) (As := [.int l2, .int z8]) (b := l1) (na := 2) (st := [.int x11]) (k1 := 0) (n1 := 0) C hr (sX5_coefficient ex13) rfl eo12 kX5_98 kim_X5_coefficient ksel_X5_coefficient kini_X5 kc_X5_coefficient (by decide) rfl ⟨(Nat.le_of_ble_eq_true rfl), (Nat.le_of_ble_eq_true rfl)⟩ (Nat.le_of_ble_eq_true rfl) ⟨rfl, rfl, (Nat.le_of_ble_eq_true rfl), (Nat.le_of_ble_eq_true rfl)⟩ dX5_hasOtherRule_19 ?_
    rintro _ _ ⟨rfl, rfl⟩
    show jx_J X 0 0 22 [(0, .ref l0), (1, .ref l1), (2, .int l2), (3, .int z8)] [.int x13, .int x11] h
    refine j_icmp_eq (tgt := 27) C dX5_hasOtherRule_22 (by decide) (fun c14 => ?_) (fun c14 => ?_)
    · replace e := ifp c14 e
      refine j_iinc (v := (z8 + (1 : Int32))) (lv1 := [(3, .int (z8 + (1 : Int32))), (0, .ref l0), (1, .ref l1), (2, .int l2)]) C hL dX5_hasOtherRule_27 rfl rfl (Nat.le_of_ble_eq_true rfl) rfl ?_
      refine j_goto (tgt := 2) C dX5_hasOtherRule_30 (by decide) ?_
      obtain rfl := Option.some.inj e
      refine jx_sub (lv' := [(0, .ref l0), (1, .ref l1), (2, .int l2), (3, .int (z8 + (1 : Int32)))]) [1, 2, 3, 0] rfl ?_
      exact kI3 (z8 + (1 : Int32)) e0_3
    · replace e := ifn c14 e
      obtain ⟨t_5, e_5, eu_5⟩ := exL_spec e
      obtain rfl := kT3 t_5 (e0_3.trans (congrArg some eu_5))
      replace e := e_5
      refine j_iconst (v := (1 : Int32)) C dX5_hasOtherRule_25 (by decide) ?_
      cases e
      exact j_iret C hq rfl dX5_hasOtherRule_26 ⟨Nat.le_of_ble_eq_true rfl, Nat.le_of_ble_eq_true rfl⟩ ⟨rfl, rfl⟩
/-! BorderBasis$State.otherRules(LBorderBasis$State;)I -/
noncomputable def BX5_otherRules_24 (l0 : Nat) (l1 : Nat) (l2 : Int32) (l3 : Int32) (h : jx_H) : Option ((Int32 × Int32) ⊕ (Int32)) :=
some (.inl (l2, (l3 + (1 : Int32))))
noncomputable def LX5_otherRules_4 (l0 : Nat) (l1 : Nat) (l2 : Int32) (l3 : Int32) (h : jx_H) : Option ((Int32 × Int32) ⊕ (Int32)) :=
(hgi h l0 5 5).bind fun x1 =>
if x1 ≤ l3 then
 exL (some l2)
else
 (isO h l0 5).bind fun _ =>
 (FX5_hasOtherRule l0 l1 l3 h).bind fun x3 =>
 if x3 = 0 then
  BX5_otherRules_24 l0 l1 l2 l3 h
 else
  BX5_otherRules_24 l0 l1 (l2 + (1 : Int32)) l3 h
noncomputable def FX5_otherRules (l0 : Nat) (l1 : Nat) (h : jx_H) : Option (Int32) :=
itr (fun s : Int32 × Int32 => LX5_otherRules_4 l0 l1 s.1 s.2 h) ((0 : Int32), (0 : Int32))
def rmX5_otherRules : Room := { frames := 3, cells := 0, slots := 0, locals := 67 }
set_option maxRecDepth 20000 in
set_option maxHeartbeats 4000000 in
theorem sX5_otherRules {l0 : Nat} {l1 : Nat} {h : jx_H} {r : Int32}  (e : FX5_otherRules l0 l1 h = some r) : jx_Ct yX5_otherRules cX5_otherRules 4 (some .int) rmX5_otherRules [.ref l0, .ref l1] h (fun r' h' => some (.int r) = r' ∧ h = h') := by
  refine jx_Ct.of (own := RX5) (by decide) rfl (Nat.le_of_ble_eq_true rfl) (fun X C hq hr hL hN => ?_)
  refine jx_sub (lv' := [(0, .ref l0), (1, .ref l1)]) [0, 1] rfl ?_
  unfold FX5_otherRules at e
  refine j_iconst (v := (0 : Int32)) C dX5_otherRules_0 (by decide) ?_
  refine j_istore_n (lv1 := [(2, .int (0 : Int32)), (0, .ref l0), (1, .ref l1)]) C hL dX5_otherRules_1 rfl (Nat.le_of_ble_eq_true rfl) rfl ?_
  refine j_iconst (v := (0 : Int32)) C dX5_otherRules_2 (by decide) ?_
  refine j_istore_n (lv1 := [(3, .int (0 : Int32)), (2, .int (0 : Int32)), (0, .ref l0), (1, .ref l1)]) C hL dX5_otherRules_3 rfl (Nat.le_of_ble_eq_true rfl) rfl ?_
  refine jx_sub (lv' := [(0, .ref l0), (1, .ref l1), (2, .int (0 : Int32)), (3, .int (0 : Int32))]) [2, 3, 1, 0] rfl ?_
  refine itr_ind (s0 := ((0 : Int32), (0 : Int32))) (fun s : Int32 × Int32 => jx_J X 0 0 4 [(0, .ref l0), (1, .ref l1), (2, .int s.1), (3, .int s.2)] [] h) e ?_
  clear e
  intro s kI2 kT2 e0
  obtain ⟨z6, z7⟩ := s
  obtain ⟨u2, e0_2⟩ := e0
  have e : LX5_otherRules_4 l0 l1 z6 z7 h = some u2 := e0_2
  have b24 : ∀ (y8 : Int32) (y9 : Int32), BX5_otherRules_24 l0 l1 y8 y9 h = some u2 → jx_J X 0 0 24 [(0, .ref l0), (1, .ref l1), (2, .int y8), (3, .int y9)] [] h := by
    intro y8 y9 e
    unfold BX5_otherRules_24 at e
    refine j_iinc (v := (y9 + (1 : Int32))) (lv1 := [(3, .int (y9 + (1 : Int32))), (0, .ref l0), (1, .ref l1), (2, .int y8)]) C hL dX5_otherRules_24 rfl rfl (Nat.le_of_ble_eq_true rfl) rfl ?_
    refine j_goto (tgt := 4) C dX5_otherRules_27 (by decide) ?_
    obtain rfl := Option.some.inj e
    refine jx_sub (lv' := [(0, .ref l0), (1, .ref l1), (2, .int y8), (3, .int (y9 + (1 : Int32)))]) [1, 2, 3, 0] rfl ?_
    exact kI2 (y8, (y9 + (1 : Int32))) e0_2
  unfold LX5_otherRules_4 at e
  refine j_iload_n C dX5_otherRules_4 rfl rfl ?_
  refine j_aload_n C dX5_otherRules_5 rfl rfl ?_
  replace e := ob e
  obtain ⟨x10, ex10, e⟩ := e
  refine j_geti (ci := 5) (RC := RX5) (T := TX5) (N := 12) 5 C rfl klX5 (Nat.le_of_ble_eq_true rfl) kX5_58 rfl dX5_otherRules_6 ex10 ?_
  refine j_icmp_ge (tgt := 30) C dX5_otherRules_9 (by decide) (fun c14 => ?_) (fun c14 => ?_)
  · replace e := ifp c14 e
    obtain ⟨t_3, e_3, eu_3⟩ := exL_spec e
    obtain rfl := kT2 t_3 (e0_2.trans (congrArg some eu_3))
    replace e := e_3
    refine j_iload_n C dX5_otherRules_30 rfl rfl ?_
    cases e
    exact j_iret C hq rfl dX5_otherRules_31 ⟨Nat.le_of_ble_eq_true rfl, Nat.le_of_ble_eq_true rfl⟩ ⟨rfl, rfl⟩
  · replace e := ifn c14 e
    refine j_aload_n C dX5_otherRules_12 rfl rfl ?_
    refine j_aload_n C dX5_otherRules_13 rfl rfl ?_
    refine j_iload_n C dX5_otherRules_14 rfl rfl ?_
    replace e := ob e
    obtain ⟨_, eo11, e⟩ := e
    replace e := ob e
    obtain ⟨x12, ex12, e⟩ := e
    refine j_callV (ci := 5) (RC := RX5) (T := TX5) (N := 12) (As := [.ref l1, .int z7]) (b := l0) (na := 2) (st := []) (k1 := 0) (n1 := 0) C hr (sX5_hasOtherRule ex12) rfl eo11 kX5_108 kim_X5_hasOtherRule ksel_X5_hasOtherRule kini_X5 kc_X5_hasOtherRule (by decide) rfl ⟨(Nat.le_of_ble_eq_true rfl), (Nat.le_of_ble_eq_true rfl)⟩ (Nat.le_of_ble_eq_true rfl) ⟨rfl, rfl, (Nat.le_of_ble_eq_true rfl), (Nat.le_of_ble_eq_true rfl)⟩ dX5_otherRules_15 ?_
    rintro _ _ ⟨rfl, rfl⟩
    show jx_J X 0 0 18 [(0, .ref l0), (1, .ref l1), (2, .int z6), (3, .int z7)] [.int x12] h
    refine j_if_eq (tgt := 24) C dX5_otherRules_18 (by decide) (fun c13 => ?_) (fun c13 => ?_)
    · replace e := ifp c13 e
      exact b24 z6 z7 e
    · replace e := ifn c13 e
      refine j_iinc (v := (z6 + (1 : Int32))) (lv1 := [(2, .int (z6 + (1 : Int32))), (0, .ref l0), (1, .ref l1), (3, .int z7)]) C hL dX5_otherRules_21 rfl rfl (Nat.le_of_ble_eq_true rfl) rfl ?_
      refine jx_sub (lv' := [(0, .ref l0), (1, .ref l1), (2, .int (z6 + (1 : Int32))), (3, .int z7)]) [1, 2, 0, 3] rfl ?_
      exact b24 (z6 + (1 : Int32)) z7 e
/-! BorderBasis$State.deletePoint(I)V -/
noncomputable def BX5_deletePoint_50 (l0 : Nat) (h : jx_H) : Option (jx_H) :=
(hgi h l0 5 9).bind fun x1 =>
(hp h l0 5 9 (.int (x1 - (1 : Int32)))).bind fun h2 =>
some h2
noncomputable def LX5_deletePoint_2 (l0 : Nat) (l2 : Int32) (h : jx_H) : Option ((Int32 × jx_H) ⊕ (jx_H)) :=
if l2 < 0 then
 exL (BX5_deletePoint_50 l0 h)
else
 (hgi h l0 5 9).bind fun x3 =>
 if (x3 - (1 : Int32)) ≤ l2 then
  exL (BX5_deletePoint_50 l0 h)
 else
  (hgr h l0 5 10).bind fun x4 =>
  (hgr h l0 5 10).bind fun x5 =>
  (hal h .int x5 (l2 + (1 : Int32))).bind fun x6 =>
  (has h .int x4 l2 x6).bind fun h7 =>
  (hgr h7 l0 5 11).bind fun x8 =>
  (hgr h7 l0 5 11).bind fun x9 =>
  (hal h7 .int x9 (l2 + (1 : Int32))).bind fun x10 =>
  (has h7 .int x8 l2 x10).bind fun h11 =>
  some (.inl ((l2 + (1 : Int32)), h11))
noncomputable def FX5_deletePoint (l0 : Nat) (l1 : Int32) (h : jx_H) : Option (jx_H) :=
itr (fun s : Int32 × jx_H => LX5_deletePoint_2 l0 s.1 s.2) (l1, h)
def rmX5_deletePoint : Room := { frames := 0, cells := 0, slots := 0, locals := 0 }
set_option maxRecDepth 20000 in
set_option maxHeartbeats 4000000 in
theorem sX5_deletePoint {l0 : Nat} {l1 : Int32} {h : jx_H} {h9 : jx_H} (e : FX5_deletePoint l0 l1 h = some h9) : jx_Ct yX5_deletePoint cX5_deletePoint 3 none rmX5_deletePoint [.ref l0, .int l1] h (fun r' h' => none = r' ∧ h9 = h') := by
  refine jx_Ct.of (own := RX5) (by decide) rfl (Nat.le_of_ble_eq_true rfl) (fun X C hq hr hL hN => ?_)
  refine jx_sub (lv' := [(0, .ref l0), (1, .int l1)]) [0, 1] rfl ?_
  have b50 : ∀ (y14 : Nat) (h15 : jx_H), BX5_deletePoint_50 y14 h15 = some h9 → jx_J X 0 0 50 [(0, .ref y14)] [] h15 := by
    intro y14 h15 e
    unfold BX5_deletePoint_50 at e
    refine j_aload_n C dX5_deletePoint_50 rfl rfl ?_
    refine j_dup C dX5_deletePoint_51 rfl ?_
    replace e := ob e
    obtain ⟨x16, ex16, e⟩ := e
    refine j_geti (ci := 5) (RC := RX5) (T := TX5) (N := 12) 9 C rfl klX5 (Nat.le_of_ble_eq_true rfl) kX5_49 rfl dX5_deletePoint_52 ex16 ?_
    refine j_iconst (v := (1 : Int32)) C dX5_deletePoint_55 (by decide) ?_
    refine j_isub C dX5_deletePoint_56 ?_
    replace e := ob e
    obtain ⟨h17, eh17, e⟩ := e
    refine j_put (ci := 5) (RC := RX5) (T := TX5) (N := 12) (ty0 := tyX5) 9 C rfl klX5 tyX5_ok nmX5 (Nat.le_of_ble_eq_true rfl) kX5_49 rfl rfl rfl rfl dX5_deletePoint_57 eh17 ?_
    cases e
    exact j_vret C hq dX5_deletePoint_60 ⟨Nat.le_of_ble_eq_true rfl, Nat.le_of_ble_eq_true rfl⟩ ⟨rfl, rfl⟩
  unfold FX5_deletePoint at e
  refine j_iload_n C dX5_deletePoint_0 rfl rfl ?_
  refine j_istore_n (lv1 := [(2, .int l1), (0, .ref l0), (1, .int l1)]) C hL dX5_deletePoint_1 rfl (Nat.le_of_ble_eq_true rfl) rfl ?_
  refine jx_sub (lv' := [(0, .ref l0), (2, .int l1)]) [1, 0] rfl ?_
  refine itr_ind (s0 := (l1, h)) (fun s : Int32 × jx_H => jx_J X 0 0 2 [(0, .ref l0), (2, .int s.1)] [] s.2) e ?_
  clear e
  intro s kI3 kT3 e0
  obtain ⟨z18, h19⟩ := s
  obtain ⟨u3, e0_3⟩ := e0
  have e : LX5_deletePoint_2 l0 z18 h19 = some u3 := e0_3
  unfold LX5_deletePoint_2 at e
  refine j_iload_n C dX5_deletePoint_2 rfl rfl ?_
  refine j_if_lt (tgt := 50) C dX5_deletePoint_3 (by decide) (fun c30 => ?_) (fun c30 => ?_)
  · replace e := ifp c30 e
    obtain ⟨t_4, e_4, eu_4⟩ := exL_spec e
    obtain rfl := kT3 t_4 (e0_3.trans (congrArg some eu_4))
    replace e := e_4
    refine jx_sub (lv' := [(0, .ref l0)]) [0] rfl ?_
    exact b50 l0 h19 e
  · replace e := ifn c30 e
    refine j_iload_n C dX5_deletePoint_6 rfl rfl ?_
    refine j_aload_n C dX5_deletePoint_7 rfl rfl ?_
    replace e := ob e
    obtain ⟨x20, ex20, e⟩ := e
    refine j_geti (ci := 5) (RC := RX5) (T := TX5) (N := 12) 9 C rfl klX5 (Nat.le_of_ble_eq_true rfl) kX5_49 rfl dX5_deletePoint_8 ex20 ?_
    refine j_iconst (v := (1 : Int32)) C dX5_deletePoint_11 (by decide) ?_
    refine j_isub C dX5_deletePoint_12 ?_
    refine j_icmp_ge (tgt := 50) C dX5_deletePoint_13 (by decide) (fun c29 => ?_) (fun c29 => ?_)
    · replace e := ifp c29 e
      obtain ⟨t_5, e_5, eu_5⟩ := exL_spec e
      obtain rfl := kT3 t_5 (e0_3.trans (congrArg some eu_5))
      replace e := e_5
      refine jx_sub (lv' := [(0, .ref l0)]) [0] rfl ?_
      exact b50 l0 h19 e
    · replace e := ifn c29 e
      refine j_aload_n C dX5_deletePoint_16 rfl rfl ?_
      replace e := ob e
      obtain ⟨x21, ex21, e⟩ := e
      refine j_getr (ci := 5) (RC := RX5) (T := TX5) (N := 12) 10 C rfl klX5 (Nat.le_of_ble_eq_true rfl) kX5_30 rfl dX5_deletePoint_17 ex21 ?_
      refine j_iload_n C dX5_deletePoint_20 rfl rfl ?_
      refine j_aload_n C dX5_deletePoint_21 rfl rfl ?_
      replace e := ob e
      obtain ⟨x22, ex22, e⟩ := e
      refine j_getr (ci := 5) (RC := RX5) (T := TX5) (N := 12) 10 C rfl klX5 (Nat.le_of_ble_eq_true rfl) kX5_30 rfl dX5_deletePoint_22 ex22 ?_
      refine j_iload_n C dX5_deletePoint_25 rfl rfl ?_
      refine j_iconst (v := (1 : Int32)) C dX5_deletePoint_26 (by decide) ?_
      refine j_iadd C dX5_deletePoint_27 ?_
      replace e := ob e
      obtain ⟨x23, ex23, e⟩ := e
      refine j_iald C dX5_deletePoint_28 ex23 ?_
      replace e := ob e
      obtain ⟨h24, eh24, e⟩ := e
      refine j_iast C dX5_deletePoint_29 eh24 ?_
      refine j_aload_n C dX5_deletePoint_30 rfl rfl ?_
      replace e := ob e
      obtain ⟨x25, ex25, e⟩ := e
      refine j_getr (ci := 5) (RC := RX5) (T := TX5) (N := 12) 11 C rfl klX5 (Nat.le_of_ble_eq_true rfl) kX5_33 rfl dX5_deletePoint_31 ex25 ?_
      refine j_iload_n C dX5_deletePoint_34 rfl rfl ?_
      refine j_aload_n C dX5_deletePoint_35 rfl rfl ?_
      replace e := ob e
      obtain ⟨x26, ex26, e⟩ := e
      refine j_getr (ci := 5) (RC := RX5) (T := TX5) (N := 12) 11 C rfl klX5 (Nat.le_of_ble_eq_true rfl) kX5_33 rfl dX5_deletePoint_36 ex26 ?_
      refine j_iload_n C dX5_deletePoint_39 rfl rfl ?_
      refine j_iconst (v := (1 : Int32)) C dX5_deletePoint_40 (by decide) ?_
      refine j_iadd C dX5_deletePoint_41 ?_
      replace e := ob e
      obtain ⟨x27, ex27, e⟩ := e
      refine j_iald C dX5_deletePoint_42 ex27 ?_
      replace e := ob e
      obtain ⟨h28, eh28, e⟩ := e
      refine j_iast C dX5_deletePoint_43 eh28 ?_
      refine j_iinc (v := (z18 + (1 : Int32))) (lv1 := [(2, .int (z18 + (1 : Int32))), (0, .ref l0)]) C hL dX5_deletePoint_44 rfl rfl (Nat.le_of_ble_eq_true rfl) rfl ?_
      refine j_goto (tgt := 2) C dX5_deletePoint_47 (by decide) ?_
      obtain rfl := Option.some.inj e
      refine jx_sub (lv' := [(0, .ref l0), (2, .int (z18 + (1 : Int32)))]) [1, 0] rfl ?_
      exact kI3 ((z18 + (1 : Int32)), h28) e0_3
/-! BorderBasis$Tables.<init>(LBorderBasis$State;)V -/
noncomputable def FX6_init (l0 : Nat) (l1 : Nat) (h : jx_H) : Option (jx_H) :=
(hnw h 2 fsX2).bind fun h1 =>
(FX2_init 144 12 h.1 (12 : Int32) (12 : Int32) h1).bind fun h2 =>
(hp h2 l0 6 1 (.ref h.1)).bind fun h3 =>
(hnw h3 2 fsX2).bind fun h4 =>
(FX2_init 144 12 h3.1 (12 : Int32) (12 : Int32) h4).bind fun h5 =>
(hp h5 l0 6 2 (.ref h3.1)).bind fun h6 =>
(hnw h6 2 fsX2).bind fun h7 =>
(FX2_init 144 12 h6.1 (12 : Int32) (12 : Int32) h7).bind fun h8 =>
(hp h8 l0 6 3 (.ref h6.1)).bind fun h9 =>
(hnw h9 2 fsX2).bind fun h10 =>
(FX2_init 144 12 h9.1 (12 : Int32) (12 : Int32) h10).bind fun h11 =>
(hp h11 l0 6 4 (.ref h9.1)).bind fun h12 =>
(hnw h12 2 fsX2).bind fun h13 =>
(FX2_init 144 12 h12.1 (12 : Int32) (12 : Int32) h13).bind fun h14 =>
(hp h14 l0 6 5 (.ref h12.1)).bind fun h15 =>
(hnw h15 2 fsX2).bind fun h16 =>
(FX2_init 144 12 h15.1 (12 : Int32) (12 : Int32) h16).bind fun h17 =>
(hp h17 l0 6 6 (.ref h15.1)).bind fun h18 =>
(hnw h18 2 fsX2).bind fun h19 =>
(FX2_init 144 12 h18.1 (12 : Int32) (12 : Int32) h19).bind fun h20 =>
(hp h20 l0 6 7 (.ref h18.1)).bind fun h21 =>
(hnw h21 2 fsX2).bind fun h22 =>
(FX2_init 144 12 h21.1 (12 : Int32) (12 : Int32) h22).bind fun h23 =>
(hp h23 l0 6 8 (.ref h21.1)).bind fun h24 =>
(hnw h24 2 fsX2).bind fun h25 =>
(FX2_init 156 12 h24.1 (12 : Int32) (13 : Int32) h25).bind fun h26 =>
(hp h26 l0 6 9 (.ref h24.1)).bind fun h27 =>
(hna h27 .int (12 : Int32)).bind fun h28 =>
(hp h28 l0 6 10 (.ref h27.1)).bind fun h29 =>
(hna h29 .int (12 : Int32)).bind fun h30 =>
(hp h30 l0 6 11 (.ref h29.1)).bind fun h31 =>
(hnw h31 2 fsX2).bind fun h32 =>
(FX2_init 252 21 h31.1 (21 : Int32) (12 : Int32) h32).bind fun h33 =>
(hp h33 l0 6 12 (.ref h31.1)).bind fun h34 =>
(hp h34 l0 6 0 (.ref l1)).bind fun h35 =>
some h35
def rmX6_init : Room := { frames := 2, cells := 32, slots := 1783, locals := 42 }
set_option maxRecDepth 20000 in
set_option maxHeartbeats 4000000 in
theorem sX6_init {l0 : Nat} {l1 : Nat} {h : jx_H} {h9 : jx_H} (e : FX6_init l0 l1 h = some h9) : jx_Ct yX6_init cX6_init 2 none rmX6_init [.ref l0, .ref l1] h (fun r' h' => none = r' ∧ h9 = h') := by
  refine jx_Ct.of (own := RX6) (by decide) rfl (Nat.le_of_ble_eq_true rfl) (fun X C hq hr hL hN => ?_)
  refine jx_sub (lv' := [(0, .ref l0), (1, .ref l1)]) [0, 1] rfl ?_
  unfold FX6_init at e
  refine j_aload_n C dX6_init_0 rfl rfl ?_
  refine j_objInit C hr kX6_3 kim_Oinit kc_Oinit dX6_init_1 (Nat.le_of_ble_eq_true rfl) (Nat.le_of_ble_eq_true rfl) ?_
  refine j_aload_n C dX6_init_4 rfl rfl ?_
  replace e := ob e
  obtain ⟨h36, eh36, e⟩ := e
  refine j_new (ci := 2) (RC := RX2) (T := TX2) (N := 7) (ty0 := tyX2) (fs := fsX2) C hr rfl klX2 tyX2_ok kX6_9 kins_X2 kini_X2 fsX2_ok dX6_init_5 eh36 ⟨Nat.le_of_ble_eq_true rfl, Nat.le_of_ble_eq_true rfl⟩ ?_
  refine jx_widen (k1 := 1) (n1 := 7) (Nat.le_of_ble_eq_true rfl) (Nat.le_of_ble_eq_true rfl) ?_
  refine j_dup C dX6_init_8 rfl ?_
  refine j_bipush (v := (12 : Int32)) C dX6_init_9 (by decide) ?_
  refine j_bipush (v := (12 : Int32)) C dX6_init_11 (by decide) ?_
  replace e := ob e
  obtain ⟨h37, eh37, e⟩ := e
  refine j_callI (As := [.int (12 : Int32), .int (12 : Int32)]) (b := h.1) (na := 2) (st := [.ref h.1, .ref l0]) (k1 := 3) (n1 := 163) C hr (sX2_init eh37) kX6_11 kim_X2_init kini_X2 kc_X2_init (by decide) rfl ⟨(Nat.le_of_ble_eq_true rfl), (Nat.le_of_ble_eq_true rfl)⟩ (Nat.le_of_ble_eq_true rfl) ⟨rfl, rfl, (Nat.le_of_ble_eq_true rfl), (Nat.le_of_ble_eq_true rfl)⟩ dX6_init_13 ?_
  rintro _ _ ⟨rfl, rfl⟩
  show jx_J X 3 163 16 [(0, .ref l0), (1, .ref l1)] [.ref h.1, .ref l0] h37
  replace e := ob e
  obtain ⟨h38, eh38, e⟩ := e
  refine j_putF (ci := 6) (RC := RX6) (T := TX6) (N := 17) (ty0 := tyX6) 1 C rfl klX6 tyX6_ok nmX6 (Nat.le_of_ble_eq_true rfl) kX6_14 rfl rfl hN rfl rfl rfl rfl dX6_init_16 eh38 ?_
  refine j_aload_n C dX6_init_19 rfl rfl ?_
  replace e := ob e
  obtain ⟨h39, eh39, e⟩ := e
  refine j_new (ci := 2) (RC := RX2) (T := TX2) (N := 7) (ty0 := tyX2) (fs := fsX2) C hr rfl klX2 tyX2_ok kX6_9 kins_X2 kini_X2 fsX2_ok dX6_init_20 eh39 ⟨Nat.le_of_ble_eq_true rfl, Nat.le_of_ble_eq_true rfl⟩ ?_
  refine jx_widen (k1 := 4) (n1 := 170) (Nat.le_of_ble_eq_true rfl) (Nat.le_of_ble_eq_true rfl) ?_
  refine j_dup C dX6_init_23 rfl ?_
  refine j_bipush (v := (12 : Int32)) C dX6_init_24 (by decide) ?_
  refine j_bipush (v := (12 : Int32)) C dX6_init_26 (by decide) ?_
  replace e := ob e
  obtain ⟨h40, eh40, e⟩ := e
  refine j_callI (As := [.int (12 : Int32), .int (12 : Int32)]) (b := h38.1) (na := 2) (st := [.ref h38.1, .ref l0]) (k1 := 6) (n1 := 326) C hr (sX2_init eh40) kX6_11 kim_X2_init kini_X2 kc_X2_init (by decide) rfl ⟨(Nat.le_of_ble_eq_true rfl), (Nat.le_of_ble_eq_true rfl)⟩ (Nat.le_of_ble_eq_true rfl) ⟨rfl, rfl, (Nat.le_of_ble_eq_true rfl), (Nat.le_of_ble_eq_true rfl)⟩ dX6_init_28 ?_
  rintro _ _ ⟨rfl, rfl⟩
  show jx_J X 6 326 31 [(0, .ref l0), (1, .ref l1)] [.ref h38.1, .ref l0] h40
  replace e := ob e
  obtain ⟨h41, eh41, e⟩ := e
  refine j_putF (ci := 6) (RC := RX6) (T := TX6) (N := 17) (ty0 := tyX6) 2 C rfl klX6 tyX6_ok nmX6 (Nat.le_of_ble_eq_true rfl) kX6_20 rfl rfl hN rfl rfl rfl rfl dX6_init_31 eh41 ?_
  refine j_aload_n C dX6_init_34 rfl rfl ?_
  replace e := ob e
  obtain ⟨h42, eh42, e⟩ := e
  refine j_new (ci := 2) (RC := RX2) (T := TX2) (N := 7) (ty0 := tyX2) (fs := fsX2) C hr rfl klX2 tyX2_ok kX6_9 kins_X2 kini_X2 fsX2_ok dX6_init_35 eh42 ⟨Nat.le_of_ble_eq_true rfl, Nat.le_of_ble_eq_true rfl⟩ ?_
  refine jx_widen (k1 := 7) (n1 := 333) (Nat.le_of_ble_eq_true rfl) (Nat.le_of_ble_eq_true rfl) ?_
  refine j_dup C dX6_init_38 rfl ?_
  refine j_bipush (v := (12 : Int32)) C dX6_init_39 (by decide) ?_
  refine j_bipush (v := (12 : Int32)) C dX6_init_41 (by decide) ?_
  replace e := ob e
  obtain ⟨h43, eh43, e⟩ := e
  refine j_callI (As := [.int (12 : Int32), .int (12 : Int32)]) (b := h41.1) (na := 2) (st := [.ref h41.1, .ref l0]) (k1 := 9) (n1 := 489) C hr (sX2_init eh43) kX6_11 kim_X2_init kini_X2 kc_X2_init (by decide) rfl ⟨(Nat.le_of_ble_eq_true rfl), (Nat.le_of_ble_eq_true rfl)⟩ (Nat.le_of_ble_eq_true rfl) ⟨rfl, rfl, (Nat.le_of_ble_eq_true rfl), (Nat.le_of_ble_eq_true rfl)⟩ dX6_init_43 ?_
  rintro _ _ ⟨rfl, rfl⟩
  show jx_J X 9 489 46 [(0, .ref l0), (1, .ref l1)] [.ref h41.1, .ref l0] h43
  replace e := ob e
  obtain ⟨h44, eh44, e⟩ := e
  refine j_putF (ci := 6) (RC := RX6) (T := TX6) (N := 17) (ty0 := tyX6) 3 C rfl klX6 tyX6_ok nmX6 (Nat.le_of_ble_eq_true rfl) kX6_23 rfl rfl hN rfl rfl rfl rfl dX6_init_46 eh44 ?_
  refine j_aload_n C dX6_init_49 rfl rfl ?_
  replace e := ob e
  obtain ⟨h45, eh45, e⟩ := e
  refine j_new (ci := 2) (RC := RX2) (T := TX2) (N := 7) (ty0 := tyX2) (fs := fsX2) C hr rfl klX2 tyX2_ok kX6_9 kins_X2 kini_X2 fsX2_ok dX6_init_50 eh45 ⟨Nat.le_of_ble_eq_true rfl, Nat.le_of_ble_eq_true rfl⟩ ?_
  refine jx_widen (k1 := 10) (n1 := 496) (Nat.le_of_ble_eq_true rfl) (Nat.le_of_ble_eq_true rfl) ?_
  refine j_dup C dX6_init_53 rfl ?_
  refine j_bipush (v := (12 : Int32)) C dX6_init_54 (by decide) ?_
  refine j_bipush (v := (12 : Int32)) C dX6_init_56 (by decide) ?_
  replace e := ob e
  obtain ⟨h46, eh46, e⟩ := e
  refine j_callI (As := [.int (12 : Int32), .int (12 : Int32)]) (b := h44.1) (na := 2) (st := [.ref h44.1, .ref l0]) (k1 := 12) (n1 := 652) C hr (sX2_init eh46) kX6_11 kim_X2_init kini_X2 kc_X2_init (by decide) rfl ⟨(Nat.le_of_ble_eq_true rfl), (Nat.le_of_ble_eq_true rfl)⟩ (Nat.le_of_ble_eq_true rfl) ⟨rfl, rfl, (Nat.le_of_ble_eq_true rfl), (Nat.le_of_ble_eq_true rfl)⟩ dX6_init_58 ?_
  rintro _ _ ⟨rfl, rfl⟩
  show jx_J X 12 652 61 [(0, .ref l0), (1, .ref l1)] [.ref h44.1, .ref l0] h46
  replace e := ob e
  obtain ⟨h47, eh47, e⟩ := e
  refine j_putF (ci := 6) (RC := RX6) (T := TX6) (N := 17) (ty0 := tyX6) 4 C rfl klX6 tyX6_ok nmX6 (Nat.le_of_ble_eq_true rfl) kX6_26 rfl rfl hN rfl rfl rfl rfl dX6_init_61 eh47 ?_
  refine j_aload_n C dX6_init_64 rfl rfl ?_
  replace e := ob e
  obtain ⟨h48, eh48, e⟩ := e
  refine j_new (ci := 2) (RC := RX2) (T := TX2) (N := 7) (ty0 := tyX2) (fs := fsX2) C hr rfl klX2 tyX2_ok kX6_9 kins_X2 kini_X2 fsX2_ok dX6_init_65 eh48 ⟨Nat.le_of_ble_eq_true rfl, Nat.le_of_ble_eq_true rfl⟩ ?_
  refine jx_widen (k1 := 13) (n1 := 659) (Nat.le_of_ble_eq_true rfl) (Nat.le_of_ble_eq_true rfl) ?_
  refine j_dup C dX6_init_68 rfl ?_
  refine j_bipush (v := (12 : Int32)) C dX6_init_69 (by decide) ?_
  refine j_bipush (v := (12 : Int32)) C dX6_init_71 (by decide) ?_
  replace e := ob e
  obtain ⟨h49, eh49, e⟩ := e
  refine j_callI (As := [.int (12 : Int32), .int (12 : Int32)]) (b := h47.1) (na := 2) (st := [.ref h47.1, .ref l0]) (k1 := 15) (n1 := 815) C hr (sX2_init eh49) kX6_11 kim_X2_init kini_X2 kc_X2_init (by decide) rfl ⟨(Nat.le_of_ble_eq_true rfl), (Nat.le_of_ble_eq_true rfl)⟩ (Nat.le_of_ble_eq_true rfl) ⟨rfl, rfl, (Nat.le_of_ble_eq_true rfl), (Nat.le_of_ble_eq_true rfl)⟩ dX6_init_73 ?_
  rintro _ _ ⟨rfl, rfl⟩
  show jx_J X 15 815 76 [(0, .ref l0), (1, .ref l1)] [.ref h47.1, .ref l0] h49
  replace e := ob e
  obtain ⟨h50, eh50, e⟩ := e
  refine j_putF (ci := 6) (RC := RX6) (T := TX6) (N := 17) (ty0 := tyX6) 5 C rfl klX6 tyX6_ok nmX6 (Nat.le_of_ble_eq_true rfl) kX6_29 rfl rfl hN rfl rfl rfl rfl dX6_init_76 eh50 ?_
  refine j_aload_n C dX6_init_79 rfl rfl ?_
  replace e := ob e
  obtain ⟨h51, eh51, e⟩ := e
  refine j_new (ci := 2) (RC := RX2) (T := TX2) (N := 7) (ty0 := tyX2) (fs := fsX2) C hr rfl klX2 tyX2_ok kX6_9 kins_X2 kini_X2 fsX2_ok dX6_init_80 eh51 ⟨Nat.le_of_ble_eq_true rfl, Nat.le_of_ble_eq_true rfl⟩ ?_
  refine jx_widen (k1 := 16) (n1 := 822) (Nat.le_of_ble_eq_true rfl) (Nat.le_of_ble_eq_true rfl) ?_
  refine j_dup C dX6_init_83 rfl ?_
  refine j_bipush (v := (12 : Int32)) C dX6_init_84 (by decide) ?_
  refine j_bipush (v := (12 : Int32)) C dX6_init_86 (by decide) ?_
  replace e := ob e
  obtain ⟨h52, eh52, e⟩ := e
  refine j_callI (As := [.int (12 : Int32), .int (12 : Int32)]) (b := h50.1) (na := 2) (st := [.ref h50.1, .ref l0]) (k1 := 18) (n1 := 978) C hr (sX2_init eh52) kX6_11 kim_X2_init kini_X2 kc_X2_init (by decide) rfl ⟨(Nat.le_of_ble_eq_true rfl), (Nat.le_of_ble_eq_true rfl)⟩ (Nat.le_of_ble_eq_true rfl) ⟨rfl, rfl, (Nat.le_of_ble_eq_true rfl), (Nat.le_of_ble_eq_true rfl)⟩ dX6_init_88 ?_
  rintro _ _ ⟨rfl, rfl⟩
  show jx_J X 18 978 91 [(0, .ref l0), (1, .ref l1)] [.ref h50.1, .ref l0] h52
  replace e := ob e
  obtain ⟨h53, eh53, e⟩ := e
  refine j_putF (ci := 6) (RC := RX6) (T := TX6) (N := 17) (ty0 := tyX6) 6 C rfl klX6 tyX6_ok nmX6 (Nat.le_of_ble_eq_true rfl) kX6_32 rfl rfl hN rfl rfl rfl rfl dX6_init_91 eh53 ?_
  refine j_aload_n C dX6_init_94 rfl rfl ?_
  replace e := ob e
  obtain ⟨h54, eh54, e⟩ := e
  refine j_new (ci := 2) (RC := RX2) (T := TX2) (N := 7) (ty0 := tyX2) (fs := fsX2) C hr rfl klX2 tyX2_ok kX6_9 kins_X2 kini_X2 fsX2_ok dX6_init_95 eh54 ⟨Nat.le_of_ble_eq_true rfl, Nat.le_of_ble_eq_true rfl⟩ ?_
  refine jx_widen (k1 := 19) (n1 := 985) (Nat.le_of_ble_eq_true rfl) (Nat.le_of_ble_eq_true rfl) ?_
  refine j_dup C dX6_init_98 rfl ?_
  refine j_bipush (v := (12 : Int32)) C dX6_init_99 (by decide) ?_
  refine j_bipush (v := (12 : Int32)) C dX6_init_101 (by decide) ?_
  replace e := ob e
  obtain ⟨h55, eh55, e⟩ := e
  refine j_callI (As := [.int (12 : Int32), .int (12 : Int32)]) (b := h53.1) (na := 2) (st := [.ref h53.1, .ref l0]) (k1 := 21) (n1 := 1141) C hr (sX2_init eh55) kX6_11 kim_X2_init kini_X2 kc_X2_init (by decide) rfl ⟨(Nat.le_of_ble_eq_true rfl), (Nat.le_of_ble_eq_true rfl)⟩ (Nat.le_of_ble_eq_true rfl) ⟨rfl, rfl, (Nat.le_of_ble_eq_true rfl), (Nat.le_of_ble_eq_true rfl)⟩ dX6_init_103 ?_
  rintro _ _ ⟨rfl, rfl⟩
  show jx_J X 21 1141 106 [(0, .ref l0), (1, .ref l1)] [.ref h53.1, .ref l0] h55
  replace e := ob e
  obtain ⟨h56, eh56, e⟩ := e
  refine j_putF (ci := 6) (RC := RX6) (T := TX6) (N := 17) (ty0 := tyX6) 7 C rfl klX6 tyX6_ok nmX6 (Nat.le_of_ble_eq_true rfl) kX6_35 rfl rfl hN rfl rfl rfl rfl dX6_init_106 eh56 ?_
  refine j_aload_n C dX6_init_109 rfl rfl ?_
  replace e := ob e
  obtain ⟨h57, eh57, e⟩ := e
  refine j_new (ci := 2) (RC := RX2) (T := TX2) (N := 7) (ty0 := tyX2) (fs := fsX2) C hr rfl klX2 tyX2_ok kX6_9 kins_X2 kini_X2 fsX2_ok dX6_init_110 eh57 ⟨Nat.le_of_ble_eq_true rfl, Nat.le_of_ble_eq_true rfl⟩ ?_
  refine jx_widen (k1 := 22) (n1 := 1148) (Nat.le_of_ble_eq_true rfl) (Nat.le_of_ble_eq_true rfl) ?_
  refine j_dup C dX6_init_113 rfl ?_
  refine j_bipush (v := (12 : Int32)) C dX6_init_114 (by decide) ?_
  refine j_bipush (v := (12 : Int32)) C dX6_init_116 (by decide) ?_
  replace e := ob e
  obtain ⟨h58, eh58, e⟩ := e
  refine j_callI (As := [.int (12 : Int32), .int (12 : Int32)]) (b := h56.1) (na := 2) (st := [.ref h56.1, .ref l0]) (k1 := 24) (n1 := 1304) C hr (sX2_init eh58) kX6_11 kim_X2_init kini_X2 kc_X2_init (by decide) rfl ⟨(Nat.le_of_ble_eq_true rfl), (Nat.le_of_ble_eq_true rfl)⟩ (Nat.le_of_ble_eq_true rfl) ⟨rfl, rfl, (Nat.le_of_ble_eq_true rfl), (Nat.le_of_ble_eq_true rfl)⟩ dX6_init_118 ?_
  rintro _ _ ⟨rfl, rfl⟩
  show jx_J X 24 1304 121 [(0, .ref l0), (1, .ref l1)] [.ref h56.1, .ref l0] h58
  replace e := ob e
  obtain ⟨h59, eh59, e⟩ := e
  refine j_putF (ci := 6) (RC := RX6) (T := TX6) (N := 17) (ty0 := tyX6) 8 C rfl klX6 tyX6_ok nmX6 (Nat.le_of_ble_eq_true rfl) kX6_38 rfl rfl hN rfl rfl rfl rfl dX6_init_121 eh59 ?_
  refine j_aload_n C dX6_init_124 rfl rfl ?_
  replace e := ob e
  obtain ⟨h60, eh60, e⟩ := e
  refine j_new (ci := 2) (RC := RX2) (T := TX2) (N := 7) (ty0 := tyX2) (fs := fsX2) C hr rfl klX2 tyX2_ok kX6_9 kins_X2 kini_X2 fsX2_ok dX6_init_125 eh60 ⟨Nat.le_of_ble_eq_true rfl, Nat.le_of_ble_eq_true rfl⟩ ?_
  refine jx_widen (k1 := 25) (n1 := 1311) (Nat.le_of_ble_eq_true rfl) (Nat.le_of_ble_eq_true rfl) ?_
  refine j_dup C dX6_init_128 rfl ?_
  refine j_bipush (v := (12 : Int32)) C dX6_init_129 (by decide) ?_
  refine j_bipush (v := (13 : Int32)) C dX6_init_131 (by decide) ?_
  replace e := ob e
  obtain ⟨h61, eh61, e⟩ := e
  refine j_callI (As := [.int (12 : Int32), .int (13 : Int32)]) (b := h59.1) (na := 2) (st := [.ref h59.1, .ref l0]) (k1 := 27) (n1 := 1479) C hr (sX2_init eh61) kX6_11 kim_X2_init kini_X2 kc_X2_init (by decide) rfl ⟨(Nat.le_of_ble_eq_true rfl), (Nat.le_of_ble_eq_true rfl)⟩ (Nat.le_of_ble_eq_true rfl) ⟨rfl, rfl, (Nat.le_of_ble_eq_true rfl), (Nat.le_of_ble_eq_true rfl)⟩ dX6_init_133 ?_
  rintro _ _ ⟨rfl, rfl⟩
  show jx_J X 27 1479 136 [(0, .ref l0), (1, .ref l1)] [.ref h59.1, .ref l0] h61
  replace e := ob e
  obtain ⟨h62, eh62, e⟩ := e
  refine j_putF (ci := 6) (RC := RX6) (T := TX6) (N := 17) (ty0 := tyX6) 9 C rfl klX6 tyX6_ok nmX6 (Nat.le_of_ble_eq_true rfl) kX6_41 rfl rfl hN rfl rfl rfl rfl dX6_init_136 eh62 ?_
  refine j_aload_n C dX6_init_139 rfl rfl ?_
  refine j_bipush (v := (12 : Int32)) C dX6_init_140 (by decide) ?_
  replace e := ob e
  obtain ⟨h63, eh63, e⟩ := e
  refine j_newa (ty := .int) (N := 12) C hr kac_int rfl rfl (Nat.le_of_ble_eq_true rfl) dX6_init_142 eh63 (Nat.le_of_ble_eq_true rfl) ⟨Nat.le_of_ble_eq_true rfl, Nat.le_of_ble_eq_true rfl⟩ ?_
  refine jx_widen (k1 := 28) (n1 := 1491) (Nat.le_of_ble_eq_true rfl) (Nat.le_of_ble_eq_true rfl) ?_
  replace e := ob e
  obtain ⟨h64, eh64, e⟩ := e
  refine j_putF (ci := 6) (RC := RX6) (T := TX6) (N := 17) (ty0 := tyX6) 10 C rfl klX6 tyX6_ok nmX6 (Nat.le_of_ble_eq_true rfl) kX6_44 rfl rfl hN rfl rfl rfl rfl dX6_init_144 eh64 ?_
  refine j_aload_n C dX6_init_147 rfl rfl ?_
  refine j_bipush (v := (12 : Int32)) C dX6_init_148 (by decide) ?_
  replace e := ob e
  obtain ⟨h65, eh65, e⟩ := e
  refine j_newa (ty := .int) (N := 12) C hr kac_int rfl rfl (Nat.le_of_ble_eq_true rfl) dX6_init_150 eh65 (Nat.le_of_ble_eq_true rfl) ⟨Nat.le_of_ble_eq_true rfl, Nat.le_of_ble_eq_true rfl⟩ ?_
  refine jx_widen (k1 := 29) (n1 := 1503) (Nat.le_of_ble_eq_true rfl) (Nat.le_of_ble_eq_true rfl) ?_
  replace e := ob e
  obtain ⟨h66, eh66, e⟩ := e
  refine j_putF (ci := 6) (RC := RX6) (T := TX6) (N := 17) (ty0 := tyX6) 11 C rfl klX6 tyX6_ok nmX6 (Nat.le_of_ble_eq_true rfl) kX6_48 rfl rfl hN rfl rfl rfl rfl dX6_init_152 eh66 ?_
  refine j_aload_n C dX6_init_155 rfl rfl ?_
  replace e := ob e
  obtain ⟨h67, eh67, e⟩ := e
  refine j_new (ci := 2) (RC := RX2) (T := TX2) (N := 7) (ty0 := tyX2) (fs := fsX2) C hr rfl klX2 tyX2_ok kX6_9 kins_X2 kini_X2 fsX2_ok dX6_init_156 eh67 ⟨Nat.le_of_ble_eq_true rfl, Nat.le_of_ble_eq_true rfl⟩ ?_
  refine jx_widen (k1 := 30) (n1 := 1510) (Nat.le_of_ble_eq_true rfl) (Nat.le_of_ble_eq_true rfl) ?_
  refine j_dup C dX6_init_159 rfl ?_
  refine j_bipush (v := (21 : Int32)) C dX6_init_160 (by decide) ?_
  refine j_bipush (v := (12 : Int32)) C dX6_init_162 (by decide) ?_
  replace e := ob e
  obtain ⟨h68, eh68, e⟩ := e
  refine j_callI (As := [.int (21 : Int32), .int (12 : Int32)]) (b := h66.1) (na := 2) (st := [.ref h66.1, .ref l0]) (k1 := 32) (n1 := 1783) C hr (sX2_init eh68) kX6_11 kim_X2_init kini_X2 kc_X2_init (by decide) rfl ⟨(Nat.le_of_ble_eq_true rfl), (Nat.le_of_ble_eq_true rfl)⟩ (Nat.le_of_ble_eq_true rfl) ⟨rfl, rfl, (Nat.le_of_ble_eq_true rfl), (Nat.le_of_ble_eq_true rfl)⟩ dX6_init_164 ?_
  rintro _ _ ⟨rfl, rfl⟩
  show jx_J X 32 1783 167 [(0, .ref l0), (1, .ref l1)] [.ref h66.1, .ref l0] h68
  replace e := ob e
  obtain ⟨h69, eh69, e⟩ := e
  refine j_putF (ci := 6) (RC := RX6) (T := TX6) (N := 17) (ty0 := tyX6) 12 C rfl klX6 tyX6_ok nmX6 (Nat.le_of_ble_eq_true rfl) kX6_51 rfl rfl hN rfl rfl rfl rfl dX6_init_167 eh69 ?_
  refine j_aload_n C dX6_init_170 rfl rfl ?_
  refine j_aload_n C dX6_init_171 rfl rfl ?_
  replace e := ob e
  obtain ⟨h70, eh70, e⟩ := e
  refine j_putF (ci := 6) (RC := RX6) (T := TX6) (N := 17) (ty0 := tyX6) 0 C rfl klX6 tyX6_ok nmX6 (Nat.le_of_ble_eq_true rfl) kX6_54 rfl rfl hN rfl rfl rfl rfl dX6_init_172 eh70 ?_
  cases e
  exact j_vret C hq dX6_init_175 ⟨Nat.le_of_ble_eq_true rfl, Nat.le_of_ble_eq_true rfl⟩ ⟨rfl, rfl⟩
