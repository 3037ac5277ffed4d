/-! BorderBasis$Text.isWord(Ljava/lang/String;)Z -/
noncomputable def LX7_isWord_28 (l0 : Nat) (l1 : Nat) (l2 : Int32) (h : jx_H) : Option ((Int32) ⊕ (Int32)) :=
(sl_n l1).bind fun x5 =>
if x5 ≤ l2 then
 exL (some (1 : Int32))
else
 (hgi h l0 7 3).bind fun x6 =>
 (isO h l0 7).bind fun _ =>
 (FX7_byteAt l0 (x6 + l2) h).bind fun x8 =>
 (sl_c l1 l2).bind fun x9 =>
 if x8 = x9 then
  some (.inl (l2 + (1 : Int32)))
 else
  exL (some (0 : Int32))
noncomputable def FX7_isWord (l0 : Nat) (l1 : Nat) (h : jx_H) : Option (Int32) :=
(hgi h l0 7 2).bind fun x1 =>
if x1 = (1 : Int32) then
 (hgi h l0 7 4).bind fun x2 =>
 (hgi h l0 7 3).bind fun x3 =>
 (sl_n l1).bind fun x4 =>
 if (x2 - x3) = x4 then
  itr (fun s : Int32 => LX7_isWord_28 l0 l1 s h) (0 : Int32)
 else
  some (0 : Int32)
else
 some (0 : Int32)
def rmX7_isWord : Room := { frames := 4, cells := 0, slots := 0, locals := 85 }
set_option maxRecDepth 20000 in
set_option maxHeartbeats 4000000 in
theorem sX7_isWord {l0 : Nat} {l1 : Nat} {h : jx_H} {r : Int32}  (e : FX7_isWord l0 l1 h = some r) : jx_CtD yX7_isWord cX7_isWord 3 (some .boolean) rmX7_isWord (fun D => [.ref l0, .ref (D.2.1 l1)]) h (fun r' h' => some (.int r) = r' ∧ h = h') := by
  refine jx_CtD.of (own := RX7) (by decide) rfl (fun D => Nat.le_of_ble_eq_true rfl) (fun X C hq hr hL hN => ?_)
  refine jx_sub (lv' := [(0, .ref l0), (1, .ref (jx_sa X l1))]) [0, 1] rfl ?_
  unfold FX7_isWord at e
  refine j_aload_n C dX7_isWord_0 rfl rfl ?_
  replace e := ob e
  obtain ⟨x14, ex14, e⟩ := e
  refine j_geti (ci := 7) (RC := RX7) (T := TX7) (N := 6) 2 C rfl klX7 (Nat.le_of_ble_eq_true rfl) kX7_32 rfl dX7_isWord_1 ex14 ?_
  refine j_iconst (v := (1 : Int32)) C dX7_isWord_4 (by decide) ?_
  refine j_icmp_ne (tgt := 24) C dX7_isWord_5 (by decide) (fun c27 => ?_) (fun c27 => ?_)
  · replace e := ifn c27 e
    refine j_iconst (v := (0 : Int32)) C dX7_isWord_24 (by decide) ?_
    cases e
    exact j_iret C hq rfl dX7_isWord_25 ⟨Nat.le_of_ble_eq_true rfl, Nat.le_of_ble_eq_true rfl⟩ ⟨rfl, rfl⟩
  · replace e := ifp c27 e
    refine j_aload_n C dX7_isWord_8 rfl rfl ?_
    replace e := ob e
    obtain ⟨x15, ex15, e⟩ := e
    refine j_geti (ci := 7) (RC := RX7) (T := TX7) (N := 6) 4 C rfl klX7 (Nat.le_of_ble_eq_true rfl) kX7_19 rfl dX7_isWord_9 ex15 ?_
    refine j_aload_n C dX7_isWord_12 rfl rfl ?_
    replace e := ob e
    obtain ⟨x16, ex16, e⟩ := e
    refine j_geti (ci := 7) (RC := RX7) (T := TX7) (N := 6) 3 C rfl klX7 (Nat.le_of_ble_eq_true rfl) kX7_29 rfl dX7_isWord_13 ex16 ?_
    refine j_isub C dX7_isWord_16 ?_
    refine j_aload_n C dX7_isWord_17 rfl rfl ?_
    replace e := ob e
    obtain ⟨x17, ex17, e⟩ := e
    refine j_callVs (i := l1) (RC := RJ0) (As := []) (b := jx_sa X l1) (na := 0) (st := [.int (x15 - x16)]) (k1 := 0) (n1 := 0) C hr (sl_lt_n ex17) rfl rfl (fun l hl => sJ0_length_8abf5 (h := h) ex17 l (jx_dD X) hl) kX7_52 kim_J0_length_8abf5 ksel_J0_length_8abf5 kini_J0 kc_J0_length_8abf5 (by decide) rfl ⟨(Nat.le_of_ble_eq_true rfl), (Nat.le_of_ble_eq_true rfl)⟩ (Nat.le_of_ble_eq_true rfl) ⟨rfl, rfl, (Nat.le_of_ble_eq_true rfl), (Nat.le_of_ble_eq_true rfl)⟩ dX7_isWord_18 ?_
    rintro _ _ ⟨rfl, rfl⟩
    show jx_J X 0 0 21 [(0, .ref l0), (1, .ref (jx_sa X l1))] [.int x17, .int (x15 - x16)] h
    refine j_icmp_eq (tgt := 26) C dX7_isWord_21 (by decide) (fun c26 => ?_) (fun c26 => ?_)
    · replace e := ifp c26 e
      refine j_iconst (v := (0 : Int32)) C dX7_isWord_26 (by decide) ?_
      refine j_istore_n (lv1 := [(2, .int (0 : Int32)), (0, .ref l0), (1, .ref (jx_sa X l1))]) C hL dX7_isWord_27 rfl (Nat.le_of_ble_eq_true rfl) rfl ?_
      refine jx_sub (lv' := [(0, .ref l0), (1, .ref (jx_sa X l1)), (2, .int (0 : Int32))]) [1, 2, 0] rfl ?_
      refine itr_ind (s0 := (0 : Int32)) (fun s : Int32 => jx_J X 0 0 28 [(0, .ref l0), (1, .ref (jx_sa X l1)), (2, .int s)] [] h) e ?_
      clear e
      intro s kI3 kT3 e0
      obtain ⟨z18, es⟩ : ∃ z, z = s := ⟨_, rfl⟩
      subst es
      obtain ⟨u3, e0_3⟩ := e0
      have e : LX7_isWord_28 l0 l1 z18 h = some u3 := e0_3
      unfold LX7_isWord_28 at e
      refine j_iload_n C dX7_isWord_28 rfl rfl ?_
      refine j_aload_n C dX7_isWord_29 rfl rfl ?_
      replace e := ob e
      obtain ⟨x19, ex19, e⟩ := e
      refine j_callVs (i := l1) (RC := RJ0) (As := []) (b := jx_sa X l1) (na := 0) (st := [.int z18]) (k1 := 0) (n1 := 0) C hr (sl_lt_n ex19) rfl rfl (fun l hl => sJ0_length_8abf5 (h := h) ex19 l (jx_dD X) hl) kX7_52 kim_J0_length_8abf5 ksel_J0_length_8abf5 kini_J0 kc_J0_length_8abf5 (by decide) rfl ⟨(Nat.le_of_ble_eq_true rfl), (Nat.le_of_ble_eq_true rfl)⟩ (Nat.le_of_ble_eq_true rfl) ⟨rfl, rfl, (Nat.le_of_ble_eq_true rfl), (Nat.le_of_ble_eq_true rfl)⟩ dX7_isWord_30 ?_
      rintro _ _ ⟨rfl, rfl⟩
      show jx_J X 0 0 33 [(0, .ref l0), (1, .ref (jx_sa X l1)), (2, .int z18)] [.int x19, .int z18] h
      refine j_icmp_ge (tgt := 62) C dX7_isWord_33 (by decide) (fun c25 => ?_) (fun c25 => ?_)
      · replace e := ifp c25 e
        obtain ⟨t_4, e_4, eu_4⟩ := exL_spec e
        obtain rfl := kT3 t_4 (e0_3.trans (congrArg some eu_4))
        replace e := e_4
        refine j_iconst (v := (1 : Int32)) C dX7_isWord_62 (by decide) ?_
        cases e
        exact j_iret C hq rfl dX7_isWord_63 ⟨Nat.le_of_ble_eq_true rfl, Nat.le_of_ble_eq_true rfl⟩ ⟨rfl, rfl⟩
      · replace e := ifn c25 e
        refine j_aload_n C dX7_isWord_36 rfl rfl ?_
        refine j_aload_n C dX7_isWord_37 rfl rfl ?_
        replace e := ob e
        obtain ⟨x20, ex20, e⟩ := e
        refine j_geti (ci := 7) (RC := RX7) (T := TX7) (N := 6) 3 C rfl klX7 (Nat.le_of_ble_eq_true rfl) kX7_29 rfl dX7_isWord_38 ex20 ?_
        refine j_iload_n C dX7_isWord_41 rfl rfl ?_
        refine j_iadd C dX7_isWord_42 ?_
        replace e := ob e
        obtain ⟨_, eo21, e⟩ := e
        replace e := ob e
        obtain ⟨x22, ex22, e⟩ := e
        refine j_callV (ci := 7) (RC := RX7) (T := TX7) (N := 6) (As := [.int (x20 + z18)]) (b := l0) (na := 1) (st := []) (k1 := 0) (n1 := 0) C hr (sX7_byteAt ex22) rfl eo21 kX7_25 kim_X7_byteAt ksel_X7_byteAt kini_X7 kc_X7_byteAt (by decide) rfl ⟨(Nat.le_of_ble_eq_true rfl), (Nat.le_of_ble_eq_true rfl)⟩ (Nat.le_of_ble_eq_true rfl) ⟨rfl, rfl, (Nat.le_of_ble_eq_true rfl), (Nat.le_of_ble_eq_true rfl)⟩ dX7_isWord_43 ?_
        rintro _ _ ⟨rfl, rfl⟩
        show jx_J X 0 0 46 [(0, .ref l0), (1, .ref (jx_sa X l1)), (2, .int z18)] [.int x22] h
        refine j_aload_n C dX7_isWord_46 rfl rfl ?_
        refine j_iload_n C dX7_isWord_47 rfl rfl ?_
        replace e := ob e
        obtain ⟨x23, ex23, e⟩ := e
        refine j_callVs (i := l1) (RC := RJ0) (As := [.int z18]) (b := jx_sa X l1) (na := 1) (st := [.int x22]) (k1 := 0) (n1 := 0) C hr (sl_lt_c ex23) rfl rfl (fun l hl => sJ0_charAt_5068e (h := h) ex23 l (jx_dD X) hl) kX7_57 kim_J0_charAt_5068e ksel_J0_charAt_5068e kini_J0 kc_J0_charAt_5068e (by decide) rfl ⟨(Nat.le_of_ble_eq_true rfl), (Nat.le_of_ble_eq_true rfl)⟩ (Nat.le_of_ble_eq_true rfl) ⟨rfl, rfl, (Nat.le_of_ble_eq_true rfl), (Nat.le_of_ble_eq_true rfl)⟩ dX7_isWord_48 ?_
        rintro _ _ ⟨rfl, rfl⟩
        show jx_J X 0 0 51 [(0, .ref l0), (1, .ref (jx_sa X l1)), (2, .int z18)] [.int x23, .int x22] h
        refine j_icmp_eq (tgt := 56) C dX7_isWord_51 (by decide) (fun c24 => ?_) (fun c24 => ?_)
        · replace e := ifp c24 e
          refine j_iinc (v := (z18 + (1 : Int32))) (lv1 := [(2, .int (z18 + (1 : Int32))), (0, .ref l0), (1, .ref (jx_sa X l1))]) C hL dX7_isWord_56 rfl rfl (Nat.le_of_ble_eq_true rfl) rfl ?_
          refine j_goto (tgt := 28) C dX7_isWord_59 (by decide) ?_
          obtain rfl := Option.some.inj e
          refine jx_sub (lv' := [(0, .ref l0), (1, .ref (jx_sa X l1)), (2, .int (z18 + (1 : Int32)))]) [1, 2, 0] rfl ?_
          exact kI3 (z18 + (1 : Int32)) e0_3
        · replace e := ifn c24 e
          obtain ⟨t_5, e_5, eu_5⟩ := exL_spec e
          obtain rfl := kT3 t_5 (e0_3.trans (congrArg some eu_5))
          replace e := e_5
          refine j_iconst (v := (0 : Int32)) C dX7_isWord_54 (by decide) ?_
          cases e
          exact j_iret C hq rfl dX7_isWord_55 ⟨Nat.le_of_ble_eq_true rfl, Nat.le_of_ble_eq_true rfl⟩ ⟨rfl, rfl⟩
    · replace e := ifn c26 e
      refine j_iconst (v := (0 : Int32)) C dX7_isWord_24 (by decide) ?_
      cases e
      exact j_iret C hq rfl dX7_isWord_25 ⟨Nat.le_of_ble_eq_true rfl, Nat.le_of_ble_eq_true rfl⟩ ⟨rfl, rfl⟩
/-! BorderBasis$Parser.readRuleHead()Z -/
noncomputable def FX3_readRuleHead (l0 : Nat) (h : jx_H) : Option (Int32 × jx_H) :=
(hgr h l0 3 0).bind fun x1 =>
(isO h x1 7).bind fun _ =>
(FX7_advance x1 h).bind fun h3 =>
(isO h3 l0 3).bind fun _ =>
bind2 (FX3_takeNumber l0 (12 : Int32) h3) fun x5 h6 =>
if x5 = 0 then
 some ((0 : Int32), h6)
else
 (isO h6 l0 3).bind fun _ =>
 bind2 (FX3_takeNumber l0 (12 : Int32) h6) fun x8 h9 =>
 if x8 = 0 then
  some ((0 : Int32), h9)
 else
  (hgr h9 l0 3 2).bind fun x10 =>
  (hgi h9 l0 3 6).bind fun x11 =>
  (hgi h9 l0 3 7).bind fun x12 =>
  (isO h9 x10 5).bind fun _ =>
  (FX5_borderNumberOf x10 x11 x12 h9).bind fun x14 =>
  (hp h9 l0 3 10 (.int x14)).bind fun h15 =>
  (hgi h15 l0 3 10).bind fun x16 =>
  if x16 = (-1 : Int32) then
   (hgi h15 l0 3 9).bind fun x34 =>
   (isO h15 l0 3).bind fun _ =>
   bind2 (FX3_fail l0 (4 : Int32) x34 h15) fun x36 h37 =>
   if x36 = 0 ∨ x36 = 1 then some (x36, h37) else none
  else
   (hgr h15 l0 3 0).bind fun x17 =>
   (isO h15 x17 7).bind fun _ =>
   (FX7_isWord x17 2 h15).bind fun x19 =>
   if x19 = 0 then
    (hgr h15 l0 3 0).bind fun x27 =>
    (hgi h15 x27 7 3).bind fun x28 =>
    (isO h15 l0 3).bind fun _ =>
    bind2 (FX3_fail l0 (1 : Int32) x28 h15) fun x30 h31 =>
    if x30 = 0 ∨ x30 = 1 then some (x30, h31) else none
   else
    (hgr h15 l0 3 0).bind fun x20 =>
    (isO h15 x20 7).bind fun _ =>
    (FX7_advance x20 h15).bind fun h22 =>
    (hgr h22 l0 3 2).bind fun x23 =>
    (hgi h22 l0 3 10).bind fun x24 =>
    (isO h22 x23 5).bind fun _ =>
    (FX5_clearRule x23 x24 h22).bind fun h26 =>
    some ((1 : Int32), h26)
def rmX3_readRuleHead : Room := { frames := 5, cells := 0, slots := 0, locals := 107 }
set_option maxRecDepth 20000 in
set_option maxHeartbeats 4000000 in
theorem sX3_readRuleHead {l0 : Nat} {h : jx_H} {r : Int32} {h9 : jx_H} (e : FX3_readRuleHead l0 h = some (r, h9)) : jx_Ct yX3_readRuleHead cX3_readRuleHead 1 (some .boolean) rmX3_readRuleHead [.ref l0] h (fun r' h' => some (.int r) = r' ∧ h9 = h') := by
  refine jx_Ct.of (own := RX3) (by decide) rfl (Nat.le_of_ble_eq_true rfl) (fun X C hq hr hL hN => ?_)
  refine jx_sub (lv' := [(0, .ref l0)]) [0] rfl ?_
  unfold FX3_readRuleHead at e
  refine j_aload_n C dX3_readRuleHead_0 rfl rfl ?_
  replace e := ob e
  obtain ⟨x42, ex42, e⟩ := e
  refine j_getr (ci := 3) (RC := RX3) (T := TX3) (N := 11) 0 C rfl klX3 (Nat.le_of_ble_eq_true rfl) kX3_26 rfl dX3_readRuleHead_1 ex42 ?_
  replace e := ob e
  obtain ⟨_, eo43, e⟩ := e
  replace e := ob e
  obtain ⟨h44, eh44, e⟩ := e
  refine j_callV (ci := 7) (RC := RX7) (T := TX7) (N := 6) (As := []) (b := x42) (na := 0) (st := []) (k1 := 0) (n1 := 0) C hr (sX7_advance eh44) rfl eo43 kX3_115 kim_X7_advance ksel_X7_advance kini_X7 kc_X7_advance (by decide) rfl ⟨(Nat.le_of_ble_eq_true rfl), (Nat.le_of_ble_eq_true rfl)⟩ (Nat.le_of_ble_eq_true rfl) ⟨rfl, rfl, (Nat.le_of_ble_eq_true rfl), (Nat.le_of_ble_eq_true rfl)⟩ dX3_readRuleHead_4 ?_
  rintro _ _ ⟨rfl, rfl⟩
  show jx_J X 0 0 7 [(0, .ref l0)] [] h44
  refine j_aload_n C dX3_readRuleHead_7 rfl rfl ?_
  refine j_bipush (v := (12 : Int32)) C dX3_readRuleHead_8 (by decide) ?_
  replace e := ob e
  obtain ⟨_, eo45, e⟩ := e
  replace e := ob2 e
  obtain ⟨x46, h47, ex46, e⟩ := e
  refine j_callV (ci := 3) (RC := RX3) (T := TX3) (N := 11) (As := [.int (12 : Int32)]) (b := l0) (na := 1) (st := []) (k1 := 0) (n1 := 0) C hr (sX3_takeNumber ex46) rfl eo45 kX3_118 kim_X3_takeNumber ksel_X3_takeNumber kini_X3 kc_X3_takeNumber (by decide) rfl ⟨(Nat.le_of_ble_eq_true rfl), (Nat.le_of_ble_eq_true rfl)⟩ (Nat.le_of_ble_eq_true rfl) ⟨rfl, rfl, (Nat.le_of_ble_eq_true rfl), (Nat.le_of_ble_eq_true rfl)⟩ dX3_readRuleHead_10 ?_
  rintro _ _ ⟨rfl, rfl⟩
  show jx_J X 0 0 13 [(0, .ref l0)] [.int x46] h47
  refine j_if_eq (tgt := 25) C dX3_readRuleHead_13 (by decide) (fun c82 => ?_) (fun c82 => ?_)
  · replace e := ifp c82 e
    refine j_iconst (v := (0 : Int32)) C dX3_readRuleHead_25 (by decide) ?_
    cases e
    exact j_iret C hq rfl dX3_readRuleHead_26 ⟨Nat.le_of_ble_eq_true rfl, Nat.le_of_ble_eq_true rfl⟩ ⟨rfl, rfl⟩
  · replace e := ifn c82 e
    refine j_aload_n C dX3_readRuleHead_16 rfl rfl ?_
    refine j_bipush (v := (12 : Int32)) C dX3_readRuleHead_17 (by decide) ?_
    replace e := ob e
    obtain ⟨_, eo48, e⟩ := e
    replace e := ob2 e
    obtain ⟨x49, h50, ex49, e⟩ := e
    refine j_callV (ci := 3) (RC := RX3) (T := TX3) (N := 11) (As := [.int (12 : Int32)]) (b := l0) (na := 1) (st := []) (k1 := 0) (n1 := 0) C hr (sX3_takeNumber ex49) rfl eo48 kX3_118 kim_X3_takeNumber ksel_X3_takeNumber kini_X3 kc_X3_takeNumber (by decide) rfl ⟨(Nat.le_of_ble_eq_true rfl), (Nat.le_of_ble_eq_true rfl)⟩ (Nat.le_of_ble_eq_true rfl) ⟨rfl, rfl, (Nat.le_of_ble_eq_true rfl), (Nat.le_of_ble_eq_true rfl)⟩ dX3_readRuleHead_19 ?_
    rintro _ _ ⟨rfl, rfl⟩
    show jx_J X 0 0 22 [(0, .ref l0)] [.int x49] h50
    refine j_if_ne (tgt := 27) C dX3_readRuleHead_22 (by decide) (fun c81 => ?_) (fun c81 => ?_)
    · replace e := ifn c81 e
      refine j_aload_n C dX3_readRuleHead_27 rfl rfl ?_
      refine j_aload_n C dX3_readRuleHead_28 rfl rfl ?_
      replace e := ob e
      obtain ⟨x51, ex51, e⟩ := e
      refine j_getr (ci := 3) (RC := RX3) (T := TX3) (N := 11) 2 C rfl klX3 (Nat.le_of_ble_eq_true rfl) kX3_12 rfl dX3_readRuleHead_29 ex51 ?_
      refine j_aload_n C dX3_readRuleHead_32 rfl rfl ?_
      replace e := ob e
      obtain ⟨x52, ex52, e⟩ := e
      refine j_geti (ci := 3) (RC := RX3) (T := TX3) (N := 11) 6 C rfl klX3 (Nat.le_of_ble_eq_true rfl) kX3_62 rfl dX3_readRuleHead_33 ex52 ?_
      refine j_aload_n C dX3_readRuleHead_36 rfl rfl ?_
      replace e := ob e
      obtain ⟨x53, ex53, e⟩ := e
      refine j_geti (ci := 3) (RC := RX3) (T := TX3) (N := 11) 7 C rfl klX3 (Nat.le_of_ble_eq_true rfl) kX3_65 rfl dX3_readRuleHead_37 ex53 ?_
      replace e := ob e
      obtain ⟨_, eo54, e⟩ := e
      replace e := ob e
      obtain ⟨x55, ex55, e⟩ := e
      refine j_callV (ci := 5) (RC := RX5) (T := TX5) (N := 12) (As := [.int x52, .int x53]) (b := x51) (na := 2) (st := [.ref l0]) (k1 := 0) (n1 := 0) C hr (sX5_borderNumberOf ex55) rfl eo54 kX3_139 kim_X5_borderNumberOf ksel_X5_borderNumberOf kini_X5 kc_X5_borderNumberOf (by decide) rfl ⟨(Nat.le_of_ble_eq_true rfl), (Nat.le_of_ble_eq_true rfl)⟩ (Nat.le_of_ble_eq_true rfl) ⟨rfl, rfl, (Nat.le_of_ble_eq_true rfl), (Nat.le_of_ble_eq_true rfl)⟩ dX3_readRuleHead_40 ?_
      rintro _ _ ⟨rfl, rfl⟩
      show jx_J X 0 0 43 [(0, .ref l0)] [.int x55, .ref l0] h50
      replace e := ob e
      obtain ⟨h56, eh56, e⟩ := e
      refine j_put (ci := 3) (RC := RX3) (T := TX3) (N := 11) (ty0 := tyX3) 10 C rfl klX3 tyX3_ok nmX3 (Nat.le_of_ble_eq_true rfl) kX3_142 rfl rfl rfl rfl dX3_readRuleHead_43 eh56 ?_
      refine j_aload_n C dX3_readRuleHead_46 rfl rfl ?_
      replace e := ob e
      obtain ⟨x57, ex57, e⟩ := e
      refine j_geti (ci := 3) (RC := RX3) (T := TX3) (N := 11) 10 C rfl klX3 (Nat.le_of_ble_eq_true rfl) kX3_142 rfl dX3_readRuleHead_47 ex57 ?_
      refine j_iconst (v := (-1 : Int32)) C dX3_readRuleHead_50 (by decide) ?_
      refine j_icmp_ne (tgt := 64) C dX3_readRuleHead_51 (by decide) (fun c80 => ?_) (fun c80 => ?_)
      · replace e := ifn c80 e
        refine j_aload_n C dX3_readRuleHead_64 rfl rfl ?_
        replace e := ob e
        obtain ⟨x58, ex58, e⟩ := e
        refine j_getr (ci := 3) (RC := RX3) (T := TX3) (N := 11) 0 C rfl klX3 (Nat.le_of_ble_eq_true rfl) kX3_26 rfl dX3_readRuleHead_65 ex58 ?_
        refine j_ldcS C 2 (Nat.le_of_ble_eq_true rfl) dX3_readRuleHead_68 ?_
        replace e := ob e
        obtain ⟨_, eo59, e⟩ := e
        replace e := ob e
        obtain ⟨x60, ex60, e⟩ := e
        refine j_callVD (ci := 7) (RC := RX7) (T := TX7) (N := 6) (As := [.ref (jx_sa X 2)]) (b := x58) (na := 1) (st := []) (k1 := 0) (n1 := 0) C hr (fun l hl => sX7_isWord ex60 l (jx_dD X) hl) rfl eo59 kX3_83 kim_X7_isWord ksel_X7_isWord kini_X7 kc_X7_isWord (by decide) rfl ⟨(Nat.le_of_ble_eq_true rfl), (Nat.le_of_ble_eq_true rfl)⟩ (Nat.le_of_ble_eq_true rfl) ⟨rfl, rfl, (Nat.le_of_ble_eq_true rfl), (Nat.le_of_ble_eq_true rfl)⟩ dX3_readRuleHead_70 ?_
        rintro _ _ ⟨rfl, rfl⟩
        show jx_J X 0 0 73 [(0, .ref l0)] [.int x60] h56
        refine j_if_ne (tgt := 89) C dX3_readRuleHead_73 (by decide) (fun c74 => ?_) (fun c74 => ?_)
        · replace e := ifn c74 e
          refine j_aload_n C dX3_readRuleHead_89 rfl rfl ?_
          replace e := ob e
          obtain ⟨x61, ex61, e⟩ := e
          refine j_getr (ci := 3) (RC := RX3) (T := TX3) (N := 11) 0 C rfl klX3 (Nat.le_of_ble_eq_true rfl) kX3_26 rfl dX3_readRuleHead_90 ex61 ?_
          replace e := ob e
          obtain ⟨_, eo62, e⟩ := e
          replace e := ob e
          obtain ⟨h63, eh63, e⟩ := e
          refine j_callV (ci := 7) (RC := RX7) (T := TX7) (N := 6) (As := []) (b := x61) (na := 0) (st := []) (k1 := 0) (n1 := 0) C hr (sX7_advance eh63) rfl eo62 kX3_115 kim_X7_advance ksel_X7_advance kini_X7 kc_X7_advance (by decide) rfl ⟨(Nat.le_of_ble_eq_true rfl), (Nat.le_of_ble_eq_true rfl)⟩ (Nat.le_of_ble_eq_true rfl) ⟨rfl, rfl, (Nat.le_of_ble_eq_true rfl), (Nat.le_of_ble_eq_true rfl)⟩ dX3_readRuleHead_93 ?_
          rintro _ _ ⟨rfl, rfl⟩
          show jx_J X 0 0 96 [(0, .ref l0)] [] h63
          refine j_aload_n C dX3_readRuleHead_96 rfl rfl ?_
          replace e := ob e
          obtain ⟨x64, ex64, e⟩ := e
          refine j_getr (ci := 3) (RC := RX3) (T := TX3) (N := 11) 2 C rfl klX3 (Nat.le_of_ble_eq_true rfl) kX3_12 rfl dX3_readRuleHead_97 ex64 ?_
          refine j_aload_n C dX3_readRuleHead_100 rfl rfl ?_
          replace e := ob e
          obtain ⟨x65, ex65, e⟩ := e
          refine j_geti (ci := 3) (RC := RX3) (T := TX3) (N := 11) 10 C rfl klX3 (Nat.le_of_ble_eq_true rfl) kX3_142 rfl dX3_readRuleHead_101 ex65 ?_
          replace e := ob e
          obtain ⟨_, eo66, e⟩ := e
          replace e := ob e
          obtain ⟨h67, eh67, e⟩ := e
          refine j_callV (ci := 5) (RC := RX5) (T := TX5) (N := 12) (As := [.int x65]) (b := x64) (na := 1) (st := []) (k1 := 0) (n1 := 0) C hr (sX5_clearRule eh67) rfl eo66 kX3_147 kim_X5_clearRule ksel_X5_clearRule kini_X5 kc_X5_clearRule (by decide) rfl ⟨(Nat.le_of_ble_eq_true rfl), (Nat.le_of_ble_eq_true rfl)⟩ (Nat.le_of_ble_eq_true rfl) ⟨rfl, rfl, (Nat.le_of_ble_eq_true rfl), (Nat.le_of_ble_eq_true rfl)⟩ dX3_readRuleHead_104 ?_
          rintro _ _ ⟨rfl, rfl⟩
          show jx_J X 0 0 107 [(0, .ref l0)] [] h67
          refine j_iconst (v := (1 : Int32)) C dX3_readRuleHead_107 (by decide) ?_
          cases e
          exact j_iret C hq rfl dX3_readRuleHead_108 ⟨Nat.le_of_ble_eq_true rfl, Nat.le_of_ble_eq_true rfl⟩ ⟨rfl, rfl⟩
        · replace e := ifp c74 e
          refine j_aload_n C dX3_readRuleHead_76 rfl rfl ?_
          refine j_iconst (v := (1 : Int32)) C dX3_readRuleHead_77 (by decide) ?_
          refine j_aload_n C dX3_readRuleHead_78 rfl rfl ?_
          replace e := ob e
          obtain ⟨x68, ex68, e⟩ := e
          refine j_getr (ci := 3) (RC := RX3) (T := TX3) (N := 11) 0 C rfl klX3 (Nat.le_of_ble_eq_true rfl) kX3_26 rfl dX3_readRuleHead_79 ex68 ?_
          replace e := ob e
          obtain ⟨x69, ex69, e⟩ := e
          refine j_geti (ci := 7) (RC := RX7) (T := TX7) (N := 6) 3 C rfl klX7 (Nat.le_of_ble_eq_true rfl) kX3_109 rfl dX3_readRuleHead_82 ex69 ?_
          replace e := ob e
          obtain ⟨_, eo70, e⟩ := e
          replace e := ob2 e
          obtain ⟨x71, h72, ex71, e⟩ := e
          refine j_callV (ci := 3) (RC := RX3) (T := TX3) (N := 11) (As := [.int (1 : Int32), .int x69]) (b := l0) (na := 2) (st := []) (k1 := 0) (n1 := 0) C hr (sX3_fail ex71) rfl eo70 kX3_112 kim_X3_fail ksel_X3_fail kini_X3 kc_X3_fail (by decide) rfl ⟨(Nat.le_of_ble_eq_true rfl), (Nat.le_of_ble_eq_true rfl)⟩ (Nat.le_of_ble_eq_true rfl) ⟨rfl, rfl, (Nat.le_of_ble_eq_true rfl), (Nat.le_of_ble_eq_true rfl)⟩ dX3_readRuleHead_85 ?_
          rintro _ _ ⟨rfl, rfl⟩
          show jx_J X 0 0 88 [(0, .ref l0)] [.int x71] h72
          by_cases c73 : ¬ (x71 = 0 ∨ x71 = 1)
          · exact nos (ifn c73 e)
          replace c73 := Classical.not_not.mp c73
          replace e := ifp c73 e
          cases e
          exact j_iret C hq (jx_bool c73) dX3_readRuleHead_88 ⟨Nat.le_of_ble_eq_true rfl, Nat.le_of_ble_eq_true rfl⟩ ⟨rfl, rfl⟩
      · replace e := ifp c80 e
        refine j_aload_n C dX3_readRuleHead_54 rfl rfl ?_
        refine j_iconst (v := (4 : Int32)) C dX3_readRuleHead_55 (by decide) ?_
        refine j_aload_n C dX3_readRuleHead_56 rfl rfl ?_
        replace e := ob e
        obtain ⟨x75, ex75, e⟩ := e
        refine j_geti (ci := 3) (RC := RX3) (T := TX3) (N := 11) 9 C rfl klX3 (Nat.le_of_ble_eq_true rfl) kX3_124 rfl dX3_readRuleHead_57 ex75 ?_
        replace e := ob e
        obtain ⟨_, eo76, e⟩ := e
        replace e := ob2 e
        obtain ⟨x77, h78, ex77, e⟩ := e
        refine j_callV (ci := 3) (RC := RX3) (T := TX3) (N := 11) (As := [.int (4 : Int32), .int x75]) (b := l0) (na := 2) (st := []) (k1 := 0) (n1 := 0) C hr (sX3_fail ex77) rfl eo76 kX3_112 kim_X3_fail ksel_X3_fail kini_X3 kc_X3_fail (by decide) rfl ⟨(Nat.le_of_ble_eq_true rfl), (Nat.le_of_ble_eq_true rfl)⟩ (Nat.le_of_ble_eq_true rfl) ⟨rfl, rfl, (Nat.le_of_ble_eq_true rfl), (Nat.le_of_ble_eq_true rfl)⟩ dX3_readRuleHead_60 ?_
        rintro _ _ ⟨rfl, rfl⟩
        show jx_J X 0 0 63 [(0, .ref l0)] [.int x77] h78
        by_cases c79 : ¬ (x77 = 0 ∨ x77 = 1)
        · exact nos (ifn c79 e)
        replace c79 := Classical.not_not.mp c79
        replace e := ifp c79 e
        cases e
        exact j_iret C hq (jx_bool c79) dX3_readRuleHead_63 ⟨Nat.le_of_ble_eq_true rfl, Nat.le_of_ble_eq_true rfl⟩ ⟨rfl, rfl⟩
    · replace e := ifp c81 e
      refine j_iconst (v := (0 : Int32)) C dX3_readRuleHead_25 (by decide) ?_
      cases e
      exact j_iret C hq rfl dX3_readRuleHead_26 ⟨Nat.le_of_ble_eq_true rfl, Nat.le_of_ble_eq_true rfl⟩ ⟨rfl, rfl⟩
/-! BorderBasis$Parser.readStatement(Z)Z -/
noncomputable def BX3_readStatement_87 (l0 : Nat) (h : jx_H) : Option (Int32 × jx_H) :=
(hgr h l0 3 0).bind fun x1 =>
(hgi h x1 7 3).bind fun x2 =>
(isO h l0 3).bind fun _ =>
bind2 (FX3_fail l0 (1 : Int32) x2 h) fun x4 h5 =>
if x4 = 0 ∨ x4 = 1 then some (x4, h5) else none
noncomputable def FX3_readStatement (l0 : Nat) (l1 : Int32) (h : jx_H) : Option (Int32 × jx_H) :=
(hgr h l0 3 0).bind fun x7 =>
(isO h x7 7).bind fun _ =>
(FX7_isWord x7 0 h).bind fun x9 =>
if x9 = 0 then
 (hgr h l0 3 0).bind fun x10 =>
 (isO h x10 7).bind fun _ =>
 (FX7_isWord x10 1 h).bind fun x12 =>
 if x12 = 0 then
  (hgr h l0 3 0).bind fun x13 =>
  (isO h x13 7).bind fun _ =>
  (FX7_isWord x13 3 h).bind fun x15 =>
  if x15 = 0 then
   if l1 = 0 then
    BX3_readStatement_87 l0 h
   else
    (hgr h l0 3 0).bind fun x16 =>
    (isO h x16 7).bind fun _ =>
    (FX7_isWord x16 4 h).bind fun x18 =>
    if x18 = 0 then
     BX3_readStatement_87 l0 h
    else
     (isO h l0 3).bind fun _ =>
     bind2 (FX3_readPrime l0 h) fun x20 h21 =>
     if x20 = 0 ∨ x20 = 1 then some (x20, h21) else none
  else
   (isO h l0 3).bind fun _ =>
   bind2 (FX3_readPoint l0 h) fun x26 h27 =>
   if x26 = 0 ∨ x26 = 1 then some (x26, h27) else none
 else
  (isO h l0 3).bind fun _ =>
  bind2 (FX3_readRuleHead l0 h) fun x31 h32 =>
  if x31 = 0 then
   some ((0 : Int32), h32)
  else
   (isO h32 l0 3).bind fun _ =>
   bind2 (FX3_readRuleTerms l0 h32) fun x34 h35 =>
   if x34 = 0 then
    some ((0 : Int32), h35)
   else
    some ((1 : Int32), h35)
else
 (isO h l0 3).bind fun _ =>
 bind2 (FX3_readJoin l0 h) fun x40 h41 =>
 if x40 = 0 ∨ x40 = 1 then some (x40, h41) else none
def rmX3_readStatement : Room := { frames := 6, cells := 0, slots := 0, locals := 127 }
set_option maxRecDepth 20000 in
set_option maxHeartbeats 4000000 in
theorem sX3_readStatement {l0 : Nat} {l1 : Int32} {h : jx_H} {r : Int32} {h9 : jx_H} (e : FX3_readStatement l0 l1 h = some (r, h9)) : jx_Ct yX3_readStatement cX3_readStatement 2 (some .boolean) rmX3_readStatement [.ref l0, .int l1] h (fun r' h' => some (.int r) = r' ∧ h9 = h') := by
  refine jx_Ct.of (own := RX3) (by decide) rfl (Nat.le_of_ble_eq_true rfl) (fun X C hq hr hL hN => ?_)
  refine jx_sub (lv' := [(0, .ref l0), (1, .int l1)]) [0, 1] rfl ?_
  have b87 : ∀ (y44 : Nat) (h45 : jx_H), BX3_readStatement_87 y44 h45 = some (r, h9) → jx_J X 0 0 87 [(0, .ref y44)] [] h45 := by
    intro y44 h45 e
    unfold BX3_readStatement_87 at e
    refine j_aload_n C dX3_readStatement_87 rfl rfl ?_
    refine j_iconst (v := (1 : Int32)) C dX3_readStatement_88 (by decide) ?_
    refine j_aload_n C dX3_readStatement_89 rfl rfl ?_
    replace e := ob e
    obtain ⟨x46, ex46, e⟩ := e
    refine j_getr (ci := 3) (RC := RX3) (T := TX3) (N := 11) 0 C rfl klX3 (Nat.le_of_ble_eq_true rfl) kX3_26 rfl dX3_readStatement_90 ex46 ?_
    replace e := ob e
    obtain ⟨x47, ex47, e⟩ := e
    refine j_geti (ci := 7) (RC := RX7) (T := TX7) (N := 6) 3 C rfl klX7 (Nat.le_of_ble_eq_true rfl) kX3_109 rfl dX3_readStatement_93 ex47 ?_
    replace e := ob e
    obtain ⟨_, eo48, e⟩ := e
    replace e := ob2 e
    obtain ⟨x49, h50, ex49, e⟩ := e
    refine j_callV (ci := 3) (RC := RX3) (T := TX3) (N := 11) (As := [.int (1 : Int32), .int x47]) (b := y44) (na := 2) (st := []) (k1 := 0) (n1 := 0) C hr (sX3_fail ex49) rfl eo48 kX3_112 kim_X3_fail ksel_X3_fail kini_X3 kc_X3_fail (by decide) rfl ⟨(Nat.le_of_ble_eq_true rfl), (Nat.le_of_ble_eq_true rfl)⟩ (Nat.le_of_ble_eq_true rfl) ⟨rfl, rfl, (Nat.le_of_ble_eq_true rfl), (Nat.le_of_ble_eq_true rfl)⟩ dX3_readStatement_96 ?_
    rintro _ _ ⟨rfl, rfl⟩
    show jx_J X 0 0 99 [(0, .ref y44)] [.int x49] h50
    by_cases c51 : ¬ (x49 = 0 ∨ x49 = 1)
    · exact nos (ifn c51 e)
    replace c51 := Classical.not_not.mp c51
    replace e := ifp c51 e
    cases e
    exact j_iret C hq (jx_bool c51) dX3_readStatement_99 ⟨Nat.le_of_ble_eq_true rfl, Nat.le_of_ble_eq_true rfl⟩ ⟨rfl, rfl⟩
  unfold FX3_readStatement at e
  refine j_aload_n C dX3_readStatement_0 rfl rfl ?_
  replace e := ob e
  obtain ⟨x52, ex52, e⟩ := e
  refine j_getr (ci := 3) (RC := RX3) (T := TX3) (N := 11) 0 C rfl klX3 (Nat.le_of_ble_eq_true rfl) kX3_26 rfl dX3_readStatement_1 ex52 ?_
  refine j_ldcS C 0 (Nat.le_of_ble_eq_true rfl) dX3_readStatement_4 ?_
  replace e := ob e
  obtain ⟨_, eo53, e⟩ := e
  replace e := ob e
  obtain ⟨x54, ex54, e⟩ := e
  refine j_callVD (ci := 7) (RC := RX7) (T := TX7) (N := 6) (As := [.ref (jx_sa X 0)]) (b := x52) (na := 1) (st := []) (k1 := 0) (n1 := 0) C hr (fun l hl => sX7_isWord ex54 l (jx_dD X) hl) rfl eo53 kX3_83 kim_X7_isWord ksel_X7_isWord kini_X7 kc_X7_isWord (by decide) rfl ⟨(Nat.le_of_ble_eq_true rfl), (Nat.le_of_ble_eq_true rfl)⟩ (Nat.le_of_ble_eq_true rfl) ⟨rfl, rfl, (Nat.le_of_ble_eq_true rfl), (Nat.le_of_ble_eq_true rfl)⟩ dX3_readStatement_6 ?_
  rintro _ _ ⟨rfl, rfl⟩
  show jx_J X 0 0 9 [(0, .ref l0), (1, .int l1)] [.int x54] h
  refine j_if_eq (tgt := 17) C dX3_readStatement_9 (by decide) (fun c88 => ?_) (fun c88 => ?_)
  · replace e := ifp c88 e
    refine j_aload_n C dX3_readStatement_17 rfl rfl ?_
    replace e := ob e
    obtain ⟨x55, ex55, e⟩ := e
    refine j_getr (ci := 3) (RC := RX3) (T := TX3) (N := 11) 0 C rfl klX3 (Nat.le_of_ble_eq_true rfl) kX3_26 rfl dX3_readStatement_18 ex55 ?_
    refine j_ldcS C 1 (Nat.le_of_ble_eq_true rfl) dX3_readStatement_21 ?_
    replace e := ob e
    obtain ⟨_, eo56, e⟩ := e
    replace e := ob e
    obtain ⟨x57, ex57, e⟩ := e
    refine j_callVD (ci := 7) (RC := RX7) (T := TX7) (N := 6) (As := [.ref (jx_sa X 1)]) (b := x55) (na := 1) (st := []) (k1 := 0) (n1 := 0) C hr (fun l hl => sX7_isWord ex57 l (jx_dD X) hl) rfl eo56 kX3_83 kim_X7_isWord ksel_X7_isWord kini_X7 kc_X7_isWord (by decide) rfl ⟨(Nat.le_of_ble_eq_true rfl), (Nat.le_of_ble_eq_true rfl)⟩ (Nat.le_of_ble_eq_true rfl) ⟨rfl, rfl, (Nat.le_of_ble_eq_true rfl), (Nat.le_of_ble_eq_true rfl)⟩ dX3_readStatement_23 ?_
    rintro _ _ ⟨rfl, rfl⟩
    show jx_J X 0 0 26 [(0, .ref l0), (1, .int l1)] [.int x57] h
    refine j_if_eq (tgt := 49) C dX3_readStatement_26 (by decide) (fun c83 => ?_) (fun c83 => ?_)
    · replace e := ifp c83 e
      refine j_aload_n C dX3_readStatement_49 rfl rfl ?_
      replace e := ob e
      obtain ⟨x58, ex58, e⟩ := e
      refine j_getr (ci := 3) (RC := RX3) (T := TX3) (N := 11) 0 C rfl klX3 (Nat.le_of_ble_eq_true rfl) kX3_26 rfl dX3_readStatement_50 ex58 ?_
      refine j_ldcS C 3 (Nat.le_of_ble_eq_true rfl) dX3_readStatement_53 ?_
      replace e := ob e
      obtain ⟨_, eo59, e⟩ := e
      replace e := ob e
      obtain ⟨x60, ex60, e⟩ := e
      refine j_callVD (ci := 7) (RC := RX7) (T := TX7) (N := 6) (As := [.ref (jx_sa X 3)]) (b := x58) (na := 1) (st := []) (k1 := 0) (n1 := 0) C hr (fun l hl => sX7_isWord ex60 l (jx_dD X) hl) rfl eo59 kX3_83 kim_X7_isWord ksel_X7_isWord kini_X7 kc_X7_isWord (by decide) rfl ⟨(Nat.le_of_ble_eq_true rfl), (Nat.le_of_ble_eq_true rfl)⟩ (Nat.le_of_ble_eq_true rfl) ⟨rfl, rfl, (Nat.le_of_ble_eq_true rfl), (Nat.le_of_ble_eq_true rfl)⟩ dX3_readStatement_55 ?_
      rintro _ _ ⟨rfl, rfl⟩
      show jx_J X 0 0 58 [(0, .ref l0), (1, .int l1)] [.int x60] h
      refine j_if_eq (tgt := 66) C dX3_readStatement_58 (by decide) (fun c74 => ?_) (fun c74 => ?_)
      · replace e := ifp c74 e
        refine j_iload_n C dX3_readStatement_66 rfl rfl ?_
        refine j_if_eq (tgt := 87) C dX3_readStatement_67 (by decide) (fun c69 => ?_) (fun c69 => ?_)
        · replace e := ifp c69 e
          refine jx_sub (lv' := [(0, .ref l0)]) [0] rfl ?_
          exact b87 l0 h e
        · replace e := ifn c69 e
          refine j_aload_n C dX3_readStatement_70 rfl rfl ?_
          replace e := ob e
          obtain ⟨x61, ex61, e⟩ := e
          refine j_getr (ci := 3) (RC := RX3) (T := TX3) (N := 11) 0 C rfl klX3 (Nat.le_of_ble_eq_true rfl) kX3_26 rfl dX3_readStatement_71 ex61 ?_
          refine j_ldcS C 4 (Nat.le_of_ble_eq_true rfl) dX3_readStatement_74 ?_
          replace e := ob e
          obtain ⟨_, eo62, e⟩ := e
          replace e := ob e
          obtain ⟨x63, ex63, e⟩ := e
          refine j_callVD (ci := 7) (RC := RX7) (T := TX7) (N := 6) (As := [.ref (jx_sa X 4)]) (b := x61) (na := 1) (st := []) (k1 := 0) (n1 := 0) C hr (fun l hl => sX7_isWord ex63 l (jx_dD X) hl) rfl eo62 kX3_83 kim_X7_isWord ksel_X7_isWord kini_X7 kc_X7_isWord (by decide) rfl ⟨(Nat.le_of_ble_eq_true rfl), (Nat.le_of_ble_eq_true rfl)⟩ (Nat.le_of_ble_eq_true rfl) ⟨rfl, rfl, (Nat.le_of_ble_eq_true rfl), (Nat.le_of_ble_eq_true rfl)⟩ dX3_readStatement_76 ?_
          rintro _ _ ⟨rfl, rfl⟩
          show jx_J X 0 0 79 [(0, .ref l0), (1, .int l1)] [.int x63] h
          refine j_if_eq (tgt := 87) C dX3_readStatement_79 (by decide) (fun c68 => ?_) (fun c68 => ?_)
          · replace e := ifp c68 e
            refine jx_sub (lv' := [(0, .ref l0)]) [0] rfl ?_
            exact b87 l0 h e
          · replace e := ifn c68 e
            refine j_aload_n C dX3_readStatement_82 rfl rfl ?_
            replace e := ob e
            obtain ⟨_, eo64, e⟩ := e
            replace e := ob2 e
            obtain ⟨x65, h66, ex65, e⟩ := e
            refine j_callV (ci := 3) (RC := RX3) (T := TX3) (N := 11) (As := []) (b := l0) (na := 0) (st := []) (k1 := 0) (n1 := 0) C hr (sX3_readPrime ex65) rfl eo64 kX3_106 kim_X3_readPrime ksel_X3_readPrime kini_X3 kc_X3_readPrime (by decide) rfl ⟨(Nat.le_of_ble_eq_true rfl), (Nat.le_of_ble_eq_true rfl)⟩ (Nat.le_of_ble_eq_true rfl) ⟨rfl, rfl, (Nat.le_of_ble_eq_true rfl), (Nat.le_of_ble_eq_true rfl)⟩ dX3_readStatement_83 ?_
            rintro _ _ ⟨rfl, rfl⟩
            show jx_J X 0 0 86 [(0, .ref l0), (1, .int l1)] [.int x65] h66
            by_cases c67 : ¬ (x65 = 0 ∨ x65 = 1)
            · exact nos (ifn c67 e)
            replace c67 := Classical.not_not.mp c67
            replace e := ifp c67 e
            cases e
            exact j_iret C hq (jx_bool c67) dX3_readStatement_86 ⟨Nat.le_of_ble_eq_true rfl, Nat.le_of_ble_eq_true rfl⟩ ⟨rfl, rfl⟩
      · replace e := ifn c74 e
        refine j_aload_n C dX3_readStatement_61 rfl rfl ?_
        replace e := ob e
        obtain ⟨_, eo70, e⟩ := e
        replace e := ob2 e
        obtain ⟨x71, h72, ex71, e⟩ := e
        refine j_callV (ci := 3) (RC := RX3) (T := TX3) (N := 11) (As := []) (b := l0) (na := 0) (st := []) (k1 := 0) (n1 := 0) C hr (sX3_readPoint ex71) rfl eo70 kX3_101 kim_X3_readPoint ksel_X3_readPoint kini_X3 kc_X3_readPoint (by decide) rfl ⟨(Nat.le_of_ble_eq_true rfl), (Nat.le_of_ble_eq_true rfl)⟩ (Nat.le_of_ble_eq_true rfl) ⟨rfl, rfl, (Nat.le_of_ble_eq_true rfl), (Nat.le_of_ble_eq_true rfl)⟩ dX3_readStatement_62 ?_
        rintro _ _ ⟨rfl, rfl⟩
        show jx_J X 0 0 65 [(0, .ref l0), (1, .int l1)] [.int x71] h72
        by_cases c73 : ¬ (x71 = 0 ∨ x71 = 1)
        · exact nos (ifn c73 e)
        replace c73 := Classical.not_not.mp c73
        replace e := ifp c73 e
        cases e
        exact j_iret C hq (jx_bool c73) dX3_readStatement_65 ⟨Nat.le_of_ble_eq_true rfl, Nat.le_of_ble_eq_true rfl⟩ ⟨rfl, rfl⟩
    · replace e := ifn c83 e
      refine j_aload_n C dX3_readStatement_29 rfl rfl ?_
      replace e := ob e
      obtain ⟨_, eo75, e⟩ := e
      replace e := ob2 e
      obtain ⟨x76, h77, ex76, e⟩ := e
      refine j_callV (ci := 3) (RC := RX3) (T := TX3) (N := 11) (As := []) (b := l0) (na := 0) (st := []) (k1 := 0) (n1 := 0) C hr (sX3_readRuleHead ex76) rfl eo75 kX3_93 kim_X3_readRuleHead ksel_X3_readRuleHead kini_X3 kc_X3_readRuleHead (by decide) rfl ⟨(Nat.le_of_ble_eq_true rfl), (Nat.le_of_ble_eq_true rfl)⟩ (Nat.le_of_ble_eq_true rfl) ⟨rfl, rfl, (Nat.le_of_ble_eq_true rfl), (Nat.le_of_ble_eq_true rfl)⟩ dX3_readStatement_30 ?_
      rintro _ _ ⟨rfl, rfl⟩
      show jx_J X 0 0 33 [(0, .ref l0), (1, .int l1)] [.int x76] h77
      refine j_if_eq (tgt := 47) C dX3_readStatement_33 (by decide) (fun c82 => ?_) (fun c82 => ?_)
      · replace e := ifp c82 e
        refine j_iconst (v := (0 : Int32)) C dX3_readStatement_47 (by decide) ?_
        cases e
        exact j_iret C hq rfl dX3_readStatement_48 ⟨Nat.le_of_ble_eq_true rfl, Nat.le_of_ble_eq_true rfl⟩ ⟨rfl, rfl⟩
      · replace e := ifn c82 e
        refine j_aload_n C dX3_readStatement_36 rfl rfl ?_
        replace e := ob e
        obtain ⟨_, eo78, e⟩ := e
        replace e := ob2 e
        obtain ⟨x79, h80, ex79, e⟩ := e
        refine j_callV (ci := 3) (RC := RX3) (T := TX3) (N := 11) (As := []) (b := l0) (na := 0) (st := []) (k1 := 0) (n1 := 0) C hr (sX3_readRuleTerms ex79) rfl eo78 kX3_96 kim_X3_readRuleTerms ksel_X3_readRuleTerms kini_X3 kc_X3_readRuleTerms (by decide) rfl ⟨(Nat.le_of_ble_eq_true rfl), (Nat.le_of_ble_eq_true rfl)⟩ (Nat.le_of_ble_eq_true rfl) ⟨rfl, rfl, (Nat.le_of_ble_eq_true rfl), (Nat.le_of_ble_eq_true rfl)⟩ dX3_readStatement_37 ?_
        rintro _ _ ⟨rfl, rfl⟩
        show jx_J X 0 0 40 [(0, .ref l0), (1, .int l1)] [.int x79] h80
        refine j_if_eq (tgt := 47) C dX3_readStatement_40 (by decide) (fun c81 => ?_) (fun c81 => ?_)
        · replace e := ifp c81 e
          refine j_iconst (v := (0 : Int32)) C dX3_readStatement_47 (by decide) ?_
          cases e
          exact j_iret C hq rfl dX3_readStatement_48 ⟨Nat.le_of_ble_eq_true rfl, Nat.le_of_ble_eq_true rfl⟩ ⟨rfl, rfl⟩
        · replace e := ifn c81 e
          refine j_iconst (v := (1 : Int32)) C dX3_readStatement_43 (by decide) ?_
          refine j_goto (tgt := 48) C dX3_readStatement_44 (by decide) ?_
          cases e
          exact j_iret C hq rfl dX3_readStatement_48 ⟨Nat.le_of_ble_eq_true rfl, Nat.le_of_ble_eq_true rfl⟩ ⟨rfl, rfl⟩
  · replace e := ifn c88 e
    refine j_aload_n C dX3_readStatement_12 rfl rfl ?_
    replace e := ob e
    obtain ⟨_, eo84, e⟩ := e
    replace e := ob2 e
    obtain ⟨x85, h86, ex85, e⟩ := e
    refine j_callV (ci := 3) (RC := RX3) (T := TX3) (N := 11) (As := []) (b := l0) (na := 0) (st := []) (k1 := 0) (n1 := 0) C hr (sX3_readJoin ex85) rfl eo84 kX3_87 kim_X3_readJoin ksel_X3_readJoin kini_X3 kc_X3_readJoin (by decide) rfl ⟨(Nat.le_of_ble_eq_true rfl), (Nat.le_of_ble_eq_true rfl)⟩ (Nat.le_of_ble_eq_true rfl) ⟨rfl, rfl, (Nat.le_of_ble_eq_true rfl), (Nat.le_of_ble_eq_true rfl)⟩ dX3_readStatement_13 ?_
    rintro _ _ ⟨rfl, rfl⟩
    show jx_J X 0 0 16 [(0, .ref l0), (1, .int l1)] [.int x85] h86
    by_cases c87 : ¬ (x85 = 0 ∨ x85 = 1)
    · exact nos (ifn c87 e)
    replace c87 := Classical.not_not.mp c87
    replace e := ifp c87 e
    cases e
    exact j_iret C hq (jx_bool c87) dX3_readStatement_16 ⟨Nat.le_of_ble_eq_true rfl, Nat.le_of_ble_eq_true rfl⟩ ⟨rfl, rfl⟩
/-! BorderBasis$Parser.readSetup()Z -/
noncomputable def BX3_readSetup_66 (l0 : Nat) (l2 : Int32) (s0 : Int32) (h : jx_H) : Option ((Int32 × Int32 × jx_H) ⊕ (Int32 × jx_H)) :=
some (.inl (s0, (l2 + (1 : Int32)), h))
noncomputable def BX3_readSetup_65 (l0 : Nat) (l2 : Int32) (h : jx_H) : Option ((Int32 × Int32 × jx_H) ⊕ (Int32 × jx_H)) :=
BX3_readSetup_66 l0 l2 (0 : Int32) h
noncomputable def BX3_readSetup_46 (l0 : Nat) (l2 : Int32) (s0 : Nat) (s1 : Int32) (h : jx_H) : Option ((Int32 × Int32 × jx_H) ⊕ (Int32 × jx_H)) :=
(isO h s0 3).bind fun _ =>
bind2 (FX3_readStatement s0 s1 h) fun x7 h8 =>
if x7 = 0 then
 BX3_readSetup_65 l0 l2 h8
else
 (isO h8 l0 3).bind fun _ =>
 bind2 (FX3_takeSymbol l0 (59 : Int32) h8) fun x10 h11 =>
 if x10 = 0 then
  BX3_readSetup_65 l0 l2 h11
 else
  BX3_readSetup_66 l0 l2 (1 : Int32) h11
noncomputable def LX3_readSetup_15 (l0 : Nat) (l1 : Int32) (l2 : Int32) (h : jx_H) : Option ((Int32 × Int32 × jx_H) ⊕ (Int32 × jx_H)) :=
if l1 = 0 then
 exL (if l1 = 0 ∨ l1 = 1 then some (l1, h) else none)
else
 (hgr h l0 3 0).bind fun x15 =>
 (hgi h x15 7 2).bind fun x16 =>
 if x16 = 0 then
  exL (if l1 = 0 ∨ l1 = 1 then some (l1, h) else none)
 else
  if (900 : Int32) ≤ l2 then
   exL (if l1 = 0 ∨ l1 = 1 then some (l1, h) else none)
  else
   if l2 = 0 then
    BX3_readSetup_46 l0 l2 l0 (1 : Int32) h
   else
    BX3_readSetup_46 l0 l2 l0 (0 : Int32) h
noncomputable def FX3_readSetup (l0 : Nat) (h : jx_H) : Option (Int32 × jx_H) :=
(isO h l0 3).bind fun _ =>
(FX3_begin l0 h).bind fun h2 =>
(hgr h2 l0 3 2).bind fun x3 =>
(isO h2 x3 5).bind fun _ =>
(FX5_reset x3 h2).bind fun h5 =>
itr (fun s : Int32 × Int32 × jx_H => LX3_readSetup_15 l0 s.1 s.2.1 s.2.2) ((1 : Int32), (0 : Int32), h5)
def rmX3_readSetup : Room := { frames := 7, cells := 0, slots := 0, locals := 148 }
set_option maxRecDepth 20000 in
set_option maxHeartbeats 4000000 in
theorem sX3_readSetup {l0 : Nat} {h : jx_H} {r : Int32} {h9 : jx_H} (e : FX3_readSetup l0 h = some (r, h9)) : jx_Ct yX3_readSetup cX3_readSetup 3 (some .boolean) rmX3_readSetup [.ref l0] h (fun r' h' => some (.int r) = r' ∧ h9 = h') := by
  refine jx_Ct.of (own := RX3) (by decide) rfl (Nat.le_of_ble_eq_true rfl) (fun X C hq hr hL hN => ?_)
  refine jx_sub (lv' := [(0, .ref l0)]) [0] rfl ?_
  unfold FX3_readSetup at e
  refine j_aload_n C dX3_readSetup_0 rfl rfl ?_
  replace e := ob e
  obtain ⟨_, eo23, e⟩ := e
  replace e := ob e
  obtain ⟨h24, eh24, e⟩ := e
  refine j_callV (ci := 3) (RC := RX3) (T := TX3) (N := 11) (As := []) (b := l0) (na := 0) (st := []) (k1 := 0) (n1 := 0) C hr (sX3_begin eh24) rfl eo23 kX3_33 kim_X3_begin ksel_X3_begin kini_X3 kc_X3_begin (by decide) rfl ⟨(Nat.le_of_ble_eq_true rfl), (Nat.le_of_ble_eq_true rfl)⟩ (Nat.le_of_ble_eq_true rfl) ⟨rfl, rfl, (Nat.le_of_ble_eq_true rfl), (Nat.le_of_ble_eq_true rfl)⟩ dX3_readSetup_1 ?_
  rintro _ _ ⟨rfl, rfl⟩
  show jx_J X 0 0 4 [(0, .ref l0)] [] h24
  refine j_aload_n C dX3_readSetup_4 rfl rfl ?_
  replace e := ob e
  obtain ⟨x25, ex25, e⟩ := e
  refine j_getr (ci := 3) (RC := RX3) (T := TX3) (N := 11) 2 C rfl klX3 (Nat.le_of_ble_eq_true rfl) kX3_12 rfl dX3_readSetup_5 ex25 ?_
  replace e := ob e
  obtain ⟨_, eo26, e⟩ := e
  replace e := ob e
  obtain ⟨h27, eh27, e⟩ := e
  refine j_callV (ci := 5) (RC := RX5) (T := TX5) (N := 12) (As := []) (b := x25) (na := 0) (st := []) (k1 := 0) (n1 := 0) C hr (sX5_reset eh27) rfl eo26 kX3_36 kim_X5_reset ksel_X5_reset kini_X5 kc_X5_reset (by decide) rfl ⟨(Nat.le_of_ble_eq_true rfl), (Nat.le_of_ble_eq_true rfl)⟩ (Nat.le_of_ble_eq_true rfl) ⟨rfl, rfl, (Nat.le_of_ble_eq_true rfl), (Nat.le_of_ble_eq_true rfl)⟩ dX3_readSetup_8 ?_
  rintro _ _ ⟨rfl, rfl⟩
  show jx_J X 0 0 11 [(0, .ref l0)] [] h27
  refine j_iconst (v := (1 : Int32)) C dX3_readSetup_11 (by decide) ?_
  refine j_istore_n (lv1 := [(1, .int (1 : Int32)), (0, .ref l0)]) C hL dX3_readSetup_12 rfl (Nat.le_of_ble_eq_true rfl) rfl ?_
  refine j_iconst (v := (0 : Int32)) C dX3_readSetup_13 (by decide) ?_
  refine j_istore_n (lv1 := [(2, .int (0 : Int32)), (1, .int (1 : Int32)), (0, .ref l0)]) C hL dX3_readSetup_14 rfl (Nat.le_of_ble_eq_true rfl) rfl ?_
  refine jx_sub (lv' := [(0, .ref l0), (1, .int (1 : Int32)), (2, .int (0 : Int32))]) [2, 1, 0] rfl ?_
  refine itr_ind (s0 := ((1 : Int32), (0 : Int32), h27)) (fun s : Int32 × Int32 × jx_H => jx_J X 0 0 15 [(0, .ref l0), (1, .int s.1), (2, .int s.2.1)] [] s.2.2) e ?_
  clear e
  intro s kI4 kT4 e0
  obtain ⟨z28, z29, h30⟩ := s
  obtain ⟨u4, e0_4⟩ := e0
  have e : LX3_readSetup_15 l0 z28 z29 h30 = some u4 := e0_4
  have b66 : ∀ (y31 : Int32) (y32 : Int32) (h33 : jx_H), BX3_readSetup_66 l0 y31 y32 h33 = some u4 → jx_J X 0 0 66 [(0, .ref l0), (2, .int y31)] [.int y32] h33 := by
    intro y31 y32 h33 e
    unfold BX3_readSetup_66 at e
    refine j_istore_n (lv1 := [(1, .int y32), (0, .ref l0), (2, .int y31)]) C hL dX3_readSetup_66 rfl (Nat.le_of_ble_eq_true rfl) rfl ?_
    refine j_iinc (v := (y31 + (1 : Int32))) (lv1 := [(2, .int (y31 + (1 : Int32))), (1, .int y32), (0, .ref l0)]) C hL dX3_readSetup_67 rfl rfl (Nat.le_of_ble_eq_true rfl) rfl ?_
    refine j_goto (tgt := 15) C dX3_readSetup_70 (by decide) ?_
    obtain rfl := Option.some.inj e
    refine jx_sub (lv' := [(0, .ref l0), (1, .int y32), (2, .int (y31 + (1 : Int32)))]) [2, 1, 0] rfl ?_
    exact kI4 (y32, (y31 + (1 : Int32)), h33) e0_4
  have b65 : ∀ (y34 : Int32) (h35 : jx_H), BX3_readSetup_65 l0 y34 h35 = some u4 → jx_J X 0 0 65 [(0, .ref l0), (2, .int y34)] [] h35 := by
    intro y34 h35 e
    unfold BX3_readSetup_65 at e
    refine j_iconst (v := (0 : Int32)) C dX3_readSetup_65 (by decide) ?_
    exact b66 y34 (0 : Int32) h35 e
  have b46 : ∀ (y36 : Int32) (y37 : Nat) (y38 : Int32) (h39 : jx_H), BX3_readSetup_46 l0 y36 y37 y38 h39 = some u4 → jx_J X 0 0 46 [(0, .ref l0), (2, .int y36)] [.int y38, .ref y37] h39 := by
    intro y36 y37 y38 h39 e
    unfold BX3_readSetup_46 at e
    replace e := ob e
    obtain ⟨_, eo40, e⟩ := e
    replace e := ob2 e
    obtain ⟨x41, h42, ex41, e⟩ := e
    refine j_callV (ci := 3) (RC := RX3) (T := TX3) (N := 11) (As := [.int y38]) (b := y37) (na := 1) (st := []) (k1 := 0) (n1 := 0) C hr (sX3_readStatement ex41) rfl eo40 kX3_44 kim_X3_readStatement ksel_X3_readStatement kini_X3 kc_X3_readStatement (by decide) rfl ⟨(Nat.le_of_ble_eq_true rfl), (Nat.le_of_ble_eq_true rfl)⟩ (Nat.le_of_ble_eq_true rfl) ⟨rfl, rfl, (Nat.le_of_ble_eq_true rfl), (Nat.le_of_ble_eq_true rfl)⟩ dX3_readSetup_46 ?_
    rintro _ _ ⟨rfl, rfl⟩
    show jx_J X 0 0 49 [(0, .ref l0), (2, .int y36)] [.int x41] h42
    refine j_if_eq (tgt := 65) C dX3_readSetup_49 (by decide) (fun c47 => ?_) (fun c47 => ?_)
    · replace e := ifp c47 e
      exact b65 y36 h42 e
    · replace e := ifn c47 e
      refine j_aload_n C dX3_readSetup_52 rfl rfl ?_
      refine j_bipush (v := (59 : Int32)) C dX3_readSetup_53 (by decide) ?_
      replace e := ob e
      obtain ⟨_, eo43, e⟩ := e
      replace e := ob2 e
      obtain ⟨x44, h45, ex44, e⟩ := e
      refine j_callV (ci := 3) (RC := RX3) (T := TX3) (N := 11) (As := [.int (59 : Int32)]) (b := l0) (na := 1) (st := []) (k1 := 0) (n1 := 0) C hr (sX3_takeSymbol ex44) rfl eo43 kX3_48 kim_X3_takeSymbol ksel_X3_takeSymbol kini_X3 kc_X3_takeSymbol (by decide) rfl ⟨(Nat.le_of_ble_eq_true rfl), (Nat.le_of_ble_eq_true rfl)⟩ (Nat.le_of_ble_eq_true rfl) ⟨rfl, rfl, (Nat.le_of_ble_eq_true rfl), (Nat.le_of_ble_eq_true rfl)⟩ dX3_readSetup_55 ?_
      rintro _ _ ⟨rfl, rfl⟩
      show jx_J X 0 0 58 [(0, .ref l0), (2, .int y36)] [.int x44] h45
      refine j_if_eq (tgt := 65) C dX3_readSetup_58 (by decide) (fun c46 => ?_) (fun c46 => ?_)
      · replace e := ifp c46 e
        exact b65 y36 h45 e
      · replace e := ifn c46 e
        refine j_iconst (v := (1 : Int32)) C dX3_readSetup_61 (by decide) ?_
        refine j_goto (tgt := 66) C dX3_readSetup_62 (by decide) ?_
        exact b66 y36 (1 : Int32) h45 e
  unfold LX3_readSetup_15 at e
  refine j_iload_n C dX3_readSetup_15 rfl rfl ?_
  refine j_if_eq (tgt := 73) C dX3_readSetup_16 (by decide) (fun c56 => ?_) (fun c56 => ?_)
  · replace e := ifp c56 e
    obtain ⟨t_5, e_5, eu_5⟩ := exL_spec e
    obtain rfl := kT4 t_5 (e0_4.trans (congrArg some eu_5))
    replace e := e_5
    refine j_iload_n C dX3_readSetup_73 rfl rfl ?_
    by_cases c48 : ¬ (z28 = 0 ∨ z28 = 1)
    · exact nos (ifn c48 e)
    replace c48 := Classical.not_not.mp c48
    replace e := ifp c48 e
    cases e
    exact j_iret C hq (jx_bool c48) dX3_readSetup_74 ⟨Nat.le_of_ble_eq_true rfl, Nat.le_of_ble_eq_true rfl⟩ ⟨rfl, rfl⟩
  · replace e := ifn c56 e
    refine j_aload_n C dX3_readSetup_19 rfl rfl ?_
    replace e := ob e
    obtain ⟨x49, ex49, e⟩ := e
    refine j_getr (ci := 3) (RC := RX3) (T := TX3) (N := 11) 0 C rfl klX3 (Nat.le_of_ble_eq_true rfl) kX3_26 rfl dX3_readSetup_20 ex49 ?_
    replace e := ob e
    obtain ⟨x50, ex50, e⟩ := e
    refine j_geti (ci := 7) (RC := RX7) (T := TX7) (N := 6) 2 C rfl klX7 (Nat.le_of_ble_eq_true rfl) kX3_39 rfl dX3_readSetup_23 ex50 ?_
    refine j_if_eq (tgt := 73) C dX3_readSetup_26 (by decide) (fun c55 => ?_) (fun c55 => ?_)
    · replace e := ifp c55 e
      obtain ⟨t_6, e_6, eu_6⟩ := exL_spec e
      obtain rfl := kT4 t_6 (e0_4.trans (congrArg some eu_6))
      replace e := e_6
      refine j_iload_n C dX3_readSetup_73 rfl rfl ?_
      by_cases c51 : ¬ (z28 = 0 ∨ z28 = 1)
      · exact nos (ifn c51 e)
      replace c51 := Classical.not_not.mp c51
      replace e := ifp c51 e
      cases e
      exact j_iret C hq (jx_bool c51) dX3_readSetup_74 ⟨Nat.le_of_ble_eq_true rfl, Nat.le_of_ble_eq_true rfl⟩ ⟨rfl, rfl⟩
    · replace e := ifn c55 e
      refine j_iload_n C dX3_readSetup_29 rfl rfl ?_
      refine j_sipush (v := (900 : Int32)) C dX3_readSetup_30 (by decide) ?_
      refine j_icmp_ge (tgt := 73) C dX3_readSetup_33 (by decide) (fun c54 => ?_) (fun c54 => ?_)
      · replace e := ifp c54 e
        obtain ⟨t_7, e_7, eu_7⟩ := exL_spec e
        obtain rfl := kT4 t_7 (e0_4.trans (congrArg some eu_7))
        replace e := e_7
        refine j_iload_n C dX3_readSetup_73 rfl rfl ?_
        by_cases c52 : ¬ (z28 = 0 ∨ z28 = 1)
        · exact nos (ifn c52 e)
        replace c52 := Classical.not_not.mp c52
        replace e := ifp c52 e
        cases e
        exact j_iret C hq (jx_bool c52) dX3_readSetup_74 ⟨Nat.le_of_ble_eq_true rfl, Nat.le_of_ble_eq_true rfl⟩ ⟨rfl, rfl⟩
      · replace e := ifn c54 e
        refine j_aload_n C dX3_readSetup_36 rfl rfl ?_
        refine j_iload_n C dX3_readSetup_37 rfl rfl ?_
        refine j_if_ne (tgt := 45) C dX3_readSetup_38 (by decide) (fun c53 => ?_) (fun c53 => ?_)
        · replace e := ifn c53 e
          refine j_iconst (v := (0 : Int32)) C dX3_readSetup_45 (by decide) ?_
          refine jx_sub (lv' := [(0, .ref l0), (2, .int z29)]) [0, 2] rfl ?_
          exact b46 z29 l0 (0 : Int32) h30 e
        · replace e := ifp c53 e
          refine j_iconst (v := (1 : Int32)) C dX3_readSetup_41 (by decide) ?_
          refine j_goto (tgt := 46) C dX3_readSetup_42 (by decide) ?_
          refine jx_sub (lv' := [(0, .ref l0), (2, .int z29)]) [0, 2] rfl ?_
          exact b46 z29 l0 (1 : Int32) h30 e
/-! BorderBasis.load()I -/
noncomputable def FX9_load (l0 : Nat) (h : jx_H) : Option (Int32 × jx_H) :=
(hgr h l0 9 11).bind fun x1 =>
(isO h x1 3).bind fun _ =>
bind2 (FX3_readSetup x1 h) fun x3 h4 =>
(hgr h4 l0 9 10).bind fun x5 =>
(hp h4 x5 7 1 (.int (0 : Int32))).bind fun h6 =>
if x3 = 0 then
 some ((-1 : Int32), h6)
else
 (hgr h6 l0 9 0).bind fun x7 =>
 (hgr h6 l0 9 11).bind fun x8 =>
 (hgr h6 x8 3 2).bind fun x9 =>
 (isO h6 x7 5).bind fun _ =>
 (FX5_copyFrom x7 x9 h6).bind fun h11 =>
 (hgr h11 l0 9 4).bind fun x12 =>
 (hp h11 x12 1 2 (.int (0 : Int32))).bind fun h13 =>
 (hgr h13 l0 9 5).bind fun x14 =>
 (FJ7_fill_53178 x14 (0 : Int32) h13).bind fun h15 =>
 (isO h15 l0 9).bind fun _ =>
 (FX9_forgetDerived l0 h15).bind fun h17 =>
 (hgr h17 l0 9 0).bind fun x18 =>
 (hgi h17 x18 5 2).bind fun x19 =>
 some (x19, h17)
def rmX9_load : Room := { frames := 8, cells := 0, slots := 0, locals := 170 }
set_option maxRecDepth 20000 in
set_option maxHeartbeats 4000000 in
theorem sX9_load {l0 : Nat} {h : jx_H} {r : Int32} {h9 : jx_H} (e : FX9_load l0 h = some (r, h9)) : jx_Ct yX9_load cX9_load 2 (some .int) rmX9_load [.ref l0] h (fun r' h' => some (.int r) = r' ∧ h9 = h') := by
  refine jx_Ct.of (own := RX9) (by decide) rfl (Nat.le_of_ble_eq_true rfl) (fun X C hq hr hL hN => ?_)
  refine jx_sub (lv' := [(0, .ref l0)]) [0] rfl ?_
  unfold FX9_load at e
  refine j_aload_n C dX9_load_0 rfl rfl ?_
  replace e := ob e
  obtain ⟨x21, ex21, e⟩ := e
  refine j_getr (ci := 9) (RC := RX9) (T := TX9) (N := 14) 11 C rfl klX9 (Nat.le_of_ble_eq_true rfl) kX9_83 rfl dX9_load_1 ex21 ?_
  replace e := ob e
  obtain ⟨_, eo22, e⟩ := e
  replace e := ob2 e
  obtain ⟨x23, h24, ex23, e⟩ := e
  refine j_callV (ci := 3) (RC := RX3) (T := TX3) (N := 11) (As := []) (b := x21) (na := 0) (st := []) (k1 := 0) (n1 := 0) C hr (sX3_readSetup ex23) rfl eo22 kX9_107 kim_X3_readSetup ksel_X3_readSetup kini_X3 kc_X3_readSetup (by decide) rfl ⟨(Nat.le_of_ble_eq_true rfl), (Nat.le_of_ble_eq_true rfl)⟩ (Nat.le_of_ble_eq_true rfl) ⟨rfl, rfl, (Nat.le_of_ble_eq_true rfl), (Nat.le_of_ble_eq_true rfl)⟩ dX9_load_4 ?_
  rintro _ _ ⟨rfl, rfl⟩
  show jx_J X 0 0 7 [(0, .ref l0)] [.int x23] h24
  refine j_istore_n (lv1 := [(1, .int x23), (0, .ref l0)]) C hL dX9_load_7 rfl (Nat.le_of_ble_eq_true rfl) rfl ?_
  refine j_aload_n C dX9_load_8 rfl rfl ?_
  replace e := ob e
  obtain ⟨x25, ex25, e⟩ := e
  refine j_getr (ci := 9) (RC := RX9) (T := TX9) (N := 14) 10 C rfl klX9 (Nat.le_of_ble_eq_true rfl) kX9_74 rfl dX9_load_9 ex25 ?_
  refine j_iconst (v := (0 : Int32)) C dX9_load_12 (by decide) ?_
  replace e := ob e
  obtain ⟨h26, eh26, e⟩ := e
  refine j_put (ci := 7) (RC := RX7) (T := TX7) (N := 6) (ty0 := tyX7) 1 C rfl klX7 tyX7_ok nmX7 (Nat.le_of_ble_eq_true rfl) kX9_93 rfl rfl rfl rfl dX9_load_13 eh26 ?_
  refine j_iload_n C dX9_load_16 rfl rfl ?_
  refine j_if_ne (tgt := 22) C dX9_load_17 (by decide) (fun c40 => ?_) (fun c40 => ?_)
  · replace e := ifn c40 e
    refine j_aload_n C dX9_load_22 rfl rfl ?_
    replace e := ob e
    obtain ⟨x27, ex27, e⟩ := e
    refine j_getr (ci := 9) (RC := RX9) (T := TX9) (N := 14) 0 C rfl klX9 (Nat.le_of_ble_eq_true rfl) kX9_12 rfl dX9_load_23 ex27 ?_
    refine j_aload_n C dX9_load_26 rfl rfl ?_
    replace e := ob e
    obtain ⟨x28, ex28, e⟩ := e
    refine j_getr (ci := 9) (RC := RX9) (T := TX9) (N := 14) 11 C rfl klX9 (Nat.le_of_ble_eq_true rfl) kX9_83 rfl dX9_load_27 ex28 ?_
    replace e := ob e
    obtain ⟨x29, ex29, e⟩ := e
    refine j_getr (ci := 3) (RC := RX3) (T := TX3) (N := 11) 2 C rfl klX3 (Nat.le_of_ble_eq_true rfl) kX9_111 rfl dX9_load_30 ex29 ?_
    replace e := ob e
    obtain ⟨_, eo30, e⟩ := e
    replace e := ob e
    obtain ⟨h31, eh31, e⟩ := e
    refine j_callV (ci := 5) (RC := RX5) (T := TX5) (N := 12) (As := [.ref x29]) (b := x27) (na := 1) (st := []) (k1 := 0) (n1 := 0) C hr (sX5_copyFrom eh31) rfl eo30 kX9_114 kim_X5_copyFrom ksel_X5_copyFrom kini_X5 kc_X5_copyFrom (by decide) rfl ⟨(Nat.le_of_ble_eq_true rfl), (Nat.le_of_ble_eq_true rfl)⟩ (Nat.le_of_ble_eq_true rfl) ⟨rfl, rfl, (Nat.le_of_ble_eq_true rfl), (Nat.le_of_ble_eq_true rfl)⟩ dX9_load_33 ?_
    rintro _ _ ⟨rfl, rfl⟩
    show jx_J X 0 0 36 [(1, .int x23), (0, .ref l0)] [] h31
    refine j_aload_n C dX9_load_36 rfl rfl ?_
    replace e := ob e
    obtain ⟨x32, ex32, e⟩ := e
    refine j_getr (ci := 9) (RC := RX9) (T := TX9) (N := 14) 4 C rfl klX9 (Nat.le_of_ble_eq_true rfl) kX9_29 rfl dX9_load_37 ex32 ?_
    refine j_iconst (v := (0 : Int32)) C dX9_load_40 (by decide) ?_
    replace e := ob e
    obtain ⟨h33, eh33, e⟩ := e
    refine j_put (ci := 1) (RC := RX1) (T := TX1) (N := 3) (ty0 := tyX1) 2 C rfl klX1 tyX1_ok nmX1 (Nat.le_of_ble_eq_true rfl) kX9_117 rfl rfl rfl rfl dX9_load_41 eh33 ?_
    refine j_aload_n C dX9_load_44 rfl rfl ?_
    replace e := ob e
    obtain ⟨x34, ex34, e⟩ := e
    refine j_getr (ci := 9) (RC := RX9) (T := TX9) (N := 14) 5 C rfl klX9 (Nat.le_of_ble_eq_true rfl) kX9_33 rfl dX9_load_45 ex34 ?_
    refine j_iconst (v := (0 : Int32)) C dX9_load_48 (by decide) ?_
    replace e := ob e
    obtain ⟨h35, eh35, e⟩ := e
    refine j_callS (As := [.ref x34, .int (0 : Int32)]) (na := 2) (st := []) (k1 := 0) (n1 := 0) C hr (sJ7_fill_53178 eh35) kX9_120 kst_J7_fill_53178 kini_J7 kc_J7_fill_53178 (by decide) rfl ⟨(Nat.le_of_ble_eq_true rfl), (Nat.le_of_ble_eq_true rfl)⟩ (Nat.le_of_ble_eq_true rfl) ⟨rfl, rfl, (Nat.le_of_ble_eq_true rfl), (Nat.le_of_ble_eq_true rfl)⟩ dX9_load_49 ?_
    rintro _ _ ⟨rfl, rfl⟩
    show jx_J X 0 0 52 [(1, .int x23), (0, .ref l0)] [] h35
    refine j_aload_n C dX9_load_52 rfl rfl ?_
    replace e := ob e
    obtain ⟨_, eo36, e⟩ := e
    replace e := ob e
    obtain ⟨h37, eh37, e⟩ := e
    refine j_callV (ci := 9) (RC := RX9) (T := TX9) (N := 14) (As := []) (b := l0) (na := 0) (st := []) (k1 := 0) (n1 := 0) C hr (sX9_forgetDerived eh37) rfl eo36 kX9_126 kim_X9_forgetDerived ksel_X9_forgetDerived kini_X9 kc_X9_forgetDerived (by decide) rfl ⟨(Nat.le_of_ble_eq_true rfl), (Nat.le_of_ble_eq_true rfl)⟩ (Nat.le_of_ble_eq_true rfl) ⟨rfl, rfl, (Nat.le_of_ble_eq_true rfl), (Nat.le_of_ble_eq_true rfl)⟩ dX9_load_53 ?_
    rintro _ _ ⟨rfl, rfl⟩
    show jx_J X 0 0 56 [(1, .int x23), (0, .ref l0)] [] h37
    refine j_aload_n C dX9_load_56 rfl rfl ?_
    replace e := ob e
    obtain ⟨x38, ex38, e⟩ := e
    refine j_getr (ci := 9) (RC := RX9) (T := TX9) (N := 14) 0 C rfl klX9 (Nat.le_of_ble_eq_true rfl) kX9_12 rfl dX9_load_57 ex38 ?_
    replace e := ob e
    obtain ⟨x39, ex39, e⟩ := e
    refine j_geti (ci := 5) (RC := RX5) (T := TX5) (N := 12) 2 C rfl klX5 (Nat.le_of_ble_eq_true rfl) kX9_129 rfl dX9_load_60 ex39 ?_
    cases e
    exact j_iret C hq rfl dX9_load_63 ⟨Nat.le_of_ble_eq_true rfl, Nat.le_of_ble_eq_true rfl⟩ ⟨rfl, rfl⟩
  · replace e := ifp c40 e
    refine j_iconst (v := (-1 : Int32)) C dX9_load_20 (by decide) ?_
    cases e
    exact j_iret C hq rfl dX9_load_21 ⟨Nat.le_of_ble_eq_true rfl, Nat.le_of_ble_eq_true rfl⟩ ⟨rfl, rfl⟩
