/-! BX10_zero_37 -/
noncomputable def gBX10_zero_37 (l1 : Int32) (l2 : Int32) (s1 : Int32) (h : MS) : Option (Int32 × MS) :=
(some (gpi h 0 s1)).bind fun h1 =>
(some (h1.1 0)).bind fun x2 =>
if x2 ≤ 0 then
 if l2 = 0 then
  (gal mK h1 22 l1).bind fun x18 =>
  some (x18, h1)
 else
  if l2 = (1 : Int32) then
   (gal mK h1 23 l1).bind fun x15 =>
   some (x15, h1)
  else
   bind2 (gFX10_areFriends h1) fun x4 h5 =>
   if x4 = 0 then
    some ((-1 : Int32), h5)
   else
    (gal mK h5 22 l1).bind fun x7 =>
    (gal mK h5 23 l1).bind fun x9 =>
    bind2 (gFX10_times x7 x9 h5) fun x11 h12 =>
    some (x11, h12)
else
 some ((0 : Int32), h1)
theorem eBX10_zero_37 {h : jx_H} {q : Nat} {S : MS} {l1 : Int32} {l2 : Int32} {s1 : Int32} : BX10_zero_37 q l1 l2 q s1 (bput mK h q S) = (gBX10_zero_37 l1 l2 s1 S).map (fun s : Int32 × MS => (s.1, bput mK h q s.2)) := by
  unfold BX10_zero_37 gBX10_zero_37
  simp only [gx_bs, gx_ms, gx_mn, gx_bn, gx_bm, gx_mb, gx_ite, gx_exL, gx_b2, gx_b2m, gx_b2mm, gx_sl, gx_sr, gx_id, eFX10_areFriends, eFX10_times, mJ_22, mJ_23, mK_al, mK_al22, mK_al23, mK_as, mK_as22, mK_as23, mK_gi0, mK_gr35, mK_gr36, mK_ob, mK_pi0]
/-! FX10_zero -/
noncomputable def gFX10_zero (l1 : Int32) (l2 : Int32) (h : MS) : Option (Int32 × MS) :=
(gFX10_laysZeros h).bind fun h22 =>
(some (h22.1 34)).bind fun x23 =>
(gFX10_in l1 (0 : Int32) (x23 - (1 : Int32)) h22).bind fun x24 =>
if x24 = 0 then
 gBX10_zero_37 l1 l2 (1 : Int32) h22
else
 (gFX10_in l2 (0 : Int32) (2 : Int32) h22).bind fun x25 =>
 if x25 = 0 then
  gBX10_zero_37 l1 l2 (2 : Int32) h22
 else
  gBX10_zero_37 l1 l2 (0 : Int32) h22
theorem eFX10_zero {h : jx_H} {q : Nat} {S : MS} {l1 : Int32} {l2 : Int32} : FX10_zero q l1 l2 (bput mK h q S) = (gFX10_zero l1 l2 S).map (fun s : Int32 × MS => (s.1, bput mK h q s.2)) := by
  unfold FX10_zero gFX10_zero
  simp only [gx_bs, gx_ms, gx_mn, gx_bn, gx_bm, gx_mb, gx_ite, gx_exL, gx_b2, gx_b2m, gx_b2mm, gx_sl, gx_sr, gx_id, eFX10_laysZeros, eFX10_in, eBX10_zero_37, mK_al, mK_as, mK_gi34, mK_ob]
/-! BX10_multiplicity_22 -/
noncomputable def gBX10_multiplicity_22 (l1 : Int32) (l2 : Int32) (s1 : Int32) (h : MS) : Option (Int32 × MS) :=
(some (gpi h 0 s1)).bind fun h1 =>
(some (h1.1 0)).bind fun x2 =>
if x2 ≤ 0 then
 bind2 (gFX10_areFriends h1) fun x4 h5 =>
 if x4 = 0 then
  some ((-1 : Int32), h5)
 else
  bind2 (gFX10_times l1 l2 h5) fun x7 h8 =>
  some (x7, h8)
else
 some ((0 : Int32), h1)
theorem eBX10_multiplicity_22 {h : jx_H} {q : Nat} {S : MS} {l1 : Int32} {l2 : Int32} {s1 : Int32} : BX10_multiplicity_22 q l1 l2 q s1 (bput mK h q S) = (gBX10_multiplicity_22 l1 l2 s1 S).map (fun s : Int32 × MS => (s.1, bput mK h q s.2)) := by
  unfold BX10_multiplicity_22 gBX10_multiplicity_22
  simp only [gx_bs, gx_ms, gx_mn, gx_bn, gx_bm, gx_mb, gx_ite, gx_exL, gx_b2, gx_b2m, gx_b2mm, gx_sl, gx_sr, gx_id, eFX10_areFriends, eFX10_times, mK_al, mK_as, mK_gi0, mK_ob, mK_pi0]
/-! BX10_multiplicity_21 -/
noncomputable def gBX10_multiplicity_21 (l1 : Int32) (l2 : Int32) (h : MS) : Option (Int32 × MS) :=
gBX10_multiplicity_22 l1 l2 (1 : Int32) h
theorem eBX10_multiplicity_21 {h : jx_H} {q : Nat} {S : MS} {l1 : Int32} {l2 : Int32} : BX10_multiplicity_21 q l1 l2 q (bput mK h q S) = (gBX10_multiplicity_21 l1 l2 S).map (fun s : Int32 × MS => (s.1, bput mK h q s.2)) := by
  unfold BX10_multiplicity_21 gBX10_multiplicity_21
  simp only [gx_bs, gx_ms, gx_mn, gx_bn, gx_bm, gx_mb, gx_ite, gx_exL, gx_b2, gx_b2m, gx_b2mm, gx_sl, gx_sr, gx_id, eBX10_multiplicity_22, mK_al, mK_as, mK_ob]
/-! FX10_multiplicity -/
noncomputable def gFX10_multiplicity (l1 : Int32) (l2 : Int32) (h : MS) : Option (Int32 × MS) :=
(gFX10_isNumber l1 h).bind fun x12 =>
if x12 = 0 then
 gBX10_multiplicity_21 l1 l2 h
else
 (gFX10_isNumber l2 h).bind fun x14 =>
 if x14 = 0 then
  gBX10_multiplicity_21 l1 l2 h
 else
  gBX10_multiplicity_22 l1 l2 (0 : Int32) h
theorem eFX10_multiplicity {h : jx_H} {q : Nat} {S : MS} {l1 : Int32} {l2 : Int32} : FX10_multiplicity q l1 l2 (bput mK h q S) = (gFX10_multiplicity l1 l2 S).map (fun s : Int32 × MS => (s.1, bput mK h q s.2)) := by
  unfold FX10_multiplicity gFX10_multiplicity
  simp only [gx_bs, gx_ms, gx_mn, gx_bn, gx_bm, gx_mb, gx_ite, gx_exL, gx_b2, gx_b2m, gx_b2mm, gx_sl, gx_sr, gx_id, eFX10_isNumber, eBX10_multiplicity_21, eBX10_multiplicity_22, mK_al, mK_as, mK_ob]
/-! FX10_share -/
noncomputable def gFX10_share (h : MS) : Option (UInt64 × MS) :=
(some (gpi h 0 (0 : Int32))).bind fun h1 =>
bind2 (gFX10_areFriends h1) fun x3 h4 =>
if x3 = 0 then
 some ((13830554455654793216 : UInt64), h4)
else
 bind2 (gFX10_allTimes h4) fun x6 h7 =>
 (gFX10_n h7).bind fun x9 =>
 if ¬ ((FP.ddiv (FP.i2d x6) (FP.i2d x9)) &&& 0x7fffffffffffffff ≤ 0x7ff0000000000000) then none else
 some ((FP.ddiv (FP.i2d x6) (FP.i2d x9)), h7)
theorem eFX10_share {h : jx_H} {q : Nat} {S : MS} : FX10_share q (bput mK h q S) = (gFX10_share  S).map (fun s : UInt64 × MS => (s.1, bput mK h q s.2)) := by
  unfold FX10_share gFX10_share
  simp only [gx_bs, gx_ms, gx_mn, gx_bn, gx_bm, gx_mb, gx_ite, gx_exL, gx_b2, gx_b2m, gx_b2mm, gx_sl, gx_sr, gx_id, eFX10_areFriends, eFX10_allTimes, eFX10_n, mK_al, mK_as, mK_ob, mK_pi0]
/-! BX10_addPoint_47 -/
noncomputable def gBX10_addPoint_47 (l1 : Int32) (l2 : Int32) (s1 : Int32) (h : MS) : Option (Int32 × MS) :=
(some (gpi h 0 s1)).bind fun h1 =>
(some (h1.1 0)).bind fun x2 =>
if x2 ≤ 0 then
 (gFX10_keeps (3 : Int32) h1).bind fun h4 =>
 bind2 (gFX10_putsPoint l1 l2 h4) fun x6 h7 =>
 some (x6, h7)
else
 some ((0 : Int32), h1)
theorem eBX10_addPoint_47 {h : jx_H} {q : Nat} {S : MS} {l1 : Int32} {l2 : Int32} {s1 : Int32} : BX10_addPoint_47 q l1 l2 q s1 (bput mK h q S) = (gBX10_addPoint_47 l1 l2 s1 S).map (fun s : Int32 × MS => (s.1, bput mK h q s.2)) := by
  unfold BX10_addPoint_47 gBX10_addPoint_47
  simp only [gx_bs, gx_ms, gx_mn, gx_bn, gx_bm, gx_mb, gx_ite, gx_exL, gx_b2, gx_b2m, gx_b2mm, gx_sl, gx_sr, gx_id, eFX10_keeps, eFX10_putsPoint, mK_al, mK_as, mK_gi0, mK_ob, mK_pi0]
/-! BX10_addPoint_17 -/
noncomputable def gBX10_addPoint_17 (l1 : Int32) (l2 : Int32) (h : MS) : Option (Int32 × MS) :=
gBX10_addPoint_47 l1 l2 (1 : Int32) h
theorem eBX10_addPoint_17 {h : jx_H} {q : Nat} {S : MS} {l1 : Int32} {l2 : Int32} : BX10_addPoint_17 q l1 l2 q (bput mK h q S) = (gBX10_addPoint_17 l1 l2 S).map (fun s : Int32 × MS => (s.1, bput mK h q s.2)) := by
  unfold BX10_addPoint_17 gBX10_addPoint_17
  simp only [gx_bs, gx_ms, gx_mn, gx_bn, gx_bm, gx_mb, gx_ite, gx_exL, gx_b2, gx_b2m, gx_b2mm, gx_sl, gx_sr, gx_id, eBX10_addPoint_47, mK_al, mK_as, mK_ob]
/-! BX10_addPoint_42 -/
noncomputable def gBX10_addPoint_42 (l1 : Int32) (l2 : Int32) (h : MS) : Option (Int32 × MS) :=
gBX10_addPoint_47 l1 l2 (2 : Int32) h
theorem eBX10_addPoint_42 {h : jx_H} {q : Nat} {S : MS} {l1 : Int32} {l2 : Int32} : BX10_addPoint_42 q l1 l2 q (bput mK h q S) = (gBX10_addPoint_42 l1 l2 S).map (fun s : Int32 × MS => (s.1, bput mK h q s.2)) := by
  unfold BX10_addPoint_42 gBX10_addPoint_42
  simp only [gx_bs, gx_ms, gx_mn, gx_bn, gx_bm, gx_mb, gx_ite, gx_exL, gx_b2, gx_b2m, gx_b2mm, gx_sl, gx_sr, gx_id, eBX10_addPoint_47, mK_al, mK_as, mK_ob]
/-! FX10_addPoint -/
noncomputable def gFX10_addPoint (l1 : Int32) (l2 : Int32) (h : MS) : Option (Int32 × MS) :=
(gFX10_isNumber l1 h).bind fun x10 =>
if x10 = 0 then
 gBX10_addPoint_17 l1 l2 h
else
 (gFX10_isNumber l2 h).bind fun x12 =>
 if x12 = 0 then
  gBX10_addPoint_17 l1 l2 h
 else
  (gFX10_pointAt l1 l2 h).bind fun x14 =>
  if x14 = (-1 : Int32) then
   (gal mK h 1 (3 : Int32)).bind fun x16 =>
   if x16 = (12 : Int32) then
    gBX10_addPoint_42 l1 l2 h
   else
    gBX10_addPoint_47 l1 l2 (0 : Int32) h
  else
   gBX10_addPoint_42 l1 l2 h
theorem eFX10_addPoint {h : jx_H} {q : Nat} {S : MS} {l1 : Int32} {l2 : Int32} : FX10_addPoint q l1 l2 (bput mK h q S) = (gFX10_addPoint l1 l2 S).map (fun s : Int32 × MS => (s.1, bput mK h q s.2)) := by
  unfold FX10_addPoint gFX10_addPoint
  simp only [gx_bs, gx_ms, gx_mn, gx_bn, gx_bm, gx_mb, gx_ite, gx_exL, gx_b2, gx_b2m, gx_b2mm, gx_sl, gx_sr, gx_id, eFX10_isNumber, eBX10_addPoint_17, eFX10_pointAt, eBX10_addPoint_42, eBX10_addPoint_47, mJ_1, mK_al, mK_al1, mK_as, mK_as1, mK_gr1, mK_ob]
/-! FX10_isPoint -/
noncomputable def gFX10_isPoint (l1 : Int32) (h : MS) : Option (Int32) :=
(gal mK h 1 (3 : Int32)).bind fun x2 =>
(gFX10_in l1 (0 : Int32) (x2 - (1 : Int32)) h).bind fun x3 =>
if x3 = 0 ∨ x3 = 1 then some x3 else none
theorem eFX10_isPoint {h : jx_H} {q : Nat} {S : MS} {l1 : Int32} : FX10_isPoint q l1 (bput mK h q S) = gFX10_isPoint l1 S := by
  unfold FX10_isPoint gFX10_isPoint
  simp only [gx_bs, gx_ms, gx_mn, gx_bn, gx_bm, gx_mb, gx_ite, gx_exL, gx_b2, gx_b2m, gx_b2mm, gx_sl, gx_sr, gx_id, eFX10_in, mJ_1, mK_al, mK_al1, mK_as, mK_as1, mK_gr1, mK_ob]
/-! LX10_removePoint_33 -/
noncomputable def gLX10_removePoint_33 (l2 : Int32) (h : MS) : Option ((Int32 × MS) ⊕ (Int32 × MS)) :=
(gal mK h 1 (3 : Int32)).bind fun x6 =>
if x6 ≤ (l2 + (1 : Int32)) then
 exL ((gal mK h 1 (3 : Int32)).bind fun x8 =>
 (gas mK h 1 (3 : Int32) (x8 - (1 : Int32))).bind fun h9 =>
 (gal mK h9 1 (3 : Int32)).bind fun x11 =>
 some (x11, h9))
else
 (gal mK h 1 (((224 : Int32) + l2) + (1 : Int32))).bind fun x14 =>
 (gas mK h 1 ((224 : Int32) + l2) x14).bind fun h15 =>
 (gal mK h15 1 (((236 : Int32) + l2) + (1 : Int32))).bind fun x18 =>
 (gas mK h15 1 ((236 : Int32) + l2) x18).bind fun h19 =>
 some (.inl ((l2 + (1 : Int32)), h19))
theorem eLX10_removePoint_33 {h : jx_H} {q : Nat} {S : MS} {l2 : Int32} : LX10_removePoint_33 q l2 (bput mK h q S) = (gLX10_removePoint_33 l2 S).map (Sum.map (fun s : Int32 × MS => (s.1, bput mK h q s.2)) (fun s : Int32 × MS => (s.1, bput mK h q s.2))) := by
  unfold LX10_removePoint_33 gLX10_removePoint_33
  simp only [gx_bs, gx_ms, gx_mn, gx_bn, gx_bm, gx_mb, gx_ite, gx_exL, gx_b2, gx_b2m, gx_b2mm, gx_sl, gx_sr, gx_id, mJ_1, mK_al, mK_al1, mK_as, mK_as1, mK_gr1, mK_ob]
theorem wLX10_removePoint_33 {h : jx_H} {q : Nat} {S : MS} {c0 : Int32} : itr (fun s : Int32 × jx_H => LX10_removePoint_33 q s.1 s.2) (c0, bput mK h q S) = (itr (fun s : Int32 × MS => gLX10_removePoint_33  s.1 s.2) (c0, S)).map (fun s : Int32 × MS => (s.1, bput mK h q s.2)) :=
  itr_map (φ := (fun s : Int32 × MS => (s.1, bput mK h q s.2))) (ψ := (fun s : Int32 × MS => (s.1, bput mK h q s.2))) (fun s => eLX10_removePoint_33) (c0, S)

/-! BX10_removePoint_14 -/
noncomputable def gBX10_removePoint_14 (l1 : Int32) (s1 : Int32) (h : MS) : Option (Int32 × MS) :=
(some (gpi h 0 s1)).bind fun h1 =>
(some (h1.1 0)).bind fun x2 =>
if x2 ≤ 0 then
 (gFX10_keeps (4 : Int32) h1).bind fun h4 =>
 itr (fun s : Int32 × MS => gLX10_removePoint_33 s.1 s.2) (l1, h4)
else
 some ((0 : Int32), h1)
theorem eBX10_removePoint_14 {h : jx_H} {q : Nat} {S : MS} {l1 : Int32} {s1 : Int32} : BX10_removePoint_14 q l1 q s1 (bput mK h q S) = (gBX10_removePoint_14 l1 s1 S).map (fun s : Int32 × MS => (s.1, bput mK h q s.2)) := by
  unfold BX10_removePoint_14 gBX10_removePoint_14
  simp only [gx_bs, gx_ms, gx_mn, gx_bn, gx_bm, gx_mb, gx_ite, gx_exL, gx_b2, gx_b2m, gx_b2mm, gx_sl, gx_sr, gx_id, eFX10_keeps, wLX10_removePoint_33, mK_al, mK_as, mK_gi0, mK_ob, mK_pi0]
/-! FX10_removePoint -/
noncomputable def gFX10_removePoint (l1 : Int32) (h : MS) : Option (Int32 × MS) :=
(gFX10_isPoint l1 h).bind fun x23 =>
if x23 = 0 then
 gBX10_removePoint_14 l1 (1 : Int32) h
else
 gBX10_removePoint_14 l1 (0 : Int32) h
theorem eFX10_removePoint {h : jx_H} {q : Nat} {S : MS} {l1 : Int32} : FX10_removePoint q l1 (bput mK h q S) = (gFX10_removePoint l1 S).map (fun s : Int32 × MS => (s.1, bput mK h q s.2)) := by
  unfold FX10_removePoint gFX10_removePoint
  simp only [gx_bs, gx_ms, gx_mn, gx_bn, gx_bm, gx_mb, gx_ite, gx_exL, gx_b2, gx_b2m, gx_b2mm, gx_sl, gx_sr, gx_id, eFX10_isPoint, eBX10_removePoint_14, mK_al, mK_as, mK_ob]
/-! BX10_point_27 -/
noncomputable def gBX10_point_27 (l1 : Int32) (l2 : Int32) (s1 : Int32) (h : MS) : Option (Int32 × MS) :=
(some (gpi h 0 s1)).bind fun h1 =>
(some (h1.1 0)).bind fun x2 =>
if x2 ≤ 0 then
 (gal mK h1 1 ((224 : Int32) + l1)).bind fun x4 =>
 (gal mK h1 1 ((236 : Int32) + l1)).bind fun x6 =>
 if l2 = 0 then
  some (x4, h1)
 else
  if l2 = (1 : Int32) then
   some (x6, h1)
  else
   bind2 (gFX10_isZero x4 x6 h1) fun x8 h9 =>
   if x8 = 0 then
    some ((0 : Int32), h9)
   else
    some ((1 : Int32), h9)
else
 some ((0 : Int32), h1)
theorem eBX10_point_27 {h : jx_H} {q : Nat} {S : MS} {l1 : Int32} {l2 : Int32} {s1 : Int32} : BX10_point_27 q l1 l2 q s1 (bput mK h q S) = (gBX10_point_27 l1 l2 s1 S).map (fun s : Int32 × MS => (s.1, bput mK h q s.2)) := by
  unfold BX10_point_27 gBX10_point_27
  simp only [gx_bs, gx_ms, gx_mn, gx_bn, gx_bm, gx_mb, gx_ite, gx_exL, gx_b2, gx_b2m, gx_b2mm, gx_sl, gx_sr, gx_id, eFX10_isZero, mJ_1, mK_al, mK_al1, mK_as, mK_as1, mK_gi0, mK_gr1, mK_ob, mK_pi0]
/-! FX10_point -/
noncomputable def gFX10_point (l1 : Int32) (l2 : Int32) (h : MS) : Option (Int32 × MS) :=
(gFX10_isPoint l1 h).bind fun x15 =>
if x15 = 0 then
 gBX10_point_27 l1 l2 (1 : Int32) h
else
 (gFX10_in l2 (0 : Int32) (2 : Int32) h).bind fun x16 =>
 if x16 = 0 then
  gBX10_point_27 l1 l2 (2 : Int32) h
 else
  gBX10_point_27 l1 l2 (0 : Int32) h
theorem eFX10_point {h : jx_H} {q : Nat} {S : MS} {l1 : Int32} {l2 : Int32} : FX10_point q l1 l2 (bput mK h q S) = (gFX10_point l1 l2 S).map (fun s : Int32 × MS => (s.1, bput mK h q s.2)) := by
  unfold FX10_point gFX10_point
  simp only [gx_bs, gx_ms, gx_mn, gx_bn, gx_bm, gx_mb, gx_ite, gx_exL, gx_b2, gx_b2m, gx_b2mm, gx_sl, gx_sr, gx_id, eFX10_isPoint, eBX10_point_27, eFX10_in, mK_al, mK_as, mK_ob]
/-! FX10_valueAt -/
noncomputable def gFX10_valueAt (l1 : Int32) (l2 : Int32) (l3 : Int32) (h : MS) : Option (Int32 × MS) :=
(gal mK h 1 ((224 : Int32) + l3)).bind fun x2 =>
(gal mK h 1 ((236 : Int32) + l3)).bind fun x4 =>
(gFX10_laysPowers x2 x4 h).bind fun h6 =>
(gal mK h6 20 l1).bind fun x8 =>
(gal mK h6 21 l2).bind fun x10 =>
(gFX10_p h6).bind fun x12 =>
if x12 = 0 then none else
some (((x8 * x10) - (x8 * x10) / x12 * x12), h6)
theorem eFX10_valueAt {h : jx_H} {q : Nat} {S : MS} {l1 : Int32} {l2 : Int32} {l3 : Int32} : FX10_valueAt q l1 l2 l3 (bput mK h q S) = (gFX10_valueAt l1 l2 l3 S).map (fun s : Int32 × MS => (s.1, bput mK h q s.2)) := by
  unfold FX10_valueAt gFX10_valueAt
  simp only [gx_bs, gx_ms, gx_mn, gx_bn, gx_bm, gx_mb, gx_ite, gx_exL, gx_b2, gx_b2m, gx_b2mm, gx_sl, gx_sr, gx_id, eFX10_laysPowers, eFX10_p, mJ_1, mJ_20, mJ_21, mK_al, mK_al1, mK_al20, mK_al21, mK_as, mK_as1, mK_as20, mK_as21, mK_gr1, mK_gr32, mK_gr33, mK_ob]
/-! BX10_rankOf_175 -/
noncomputable def gBX10_rankOf_175 (l1 : Int32) (l2 : Int32) (l3 : Int32) (l4 : Int32) (h : MS) : Option ((Int32 × Int32 × MS) ⊕ (Int32 × MS)) :=
some (.inl (l3, (l4 + (1 : Int32)), h))
theorem eBX10_rankOf_175 {h : jx_H} {q : Nat} {S : MS} {l1 : Int32} {l2 : Int32} {l3 : Int32} {l4 : Int32} : BX10_rankOf_175 q l1 l2 l3 l4 (bput mK h q S) = (gBX10_rankOf_175 l1 l2 l3 l4 S).map (Sum.map (fun s : Int32 × Int32 × MS => (s.1, s.2.1, bput mK h q s.2.2)) (fun s : Int32 × MS => (s.1, bput mK h q s.2))) := by
  unfold BX10_rankOf_175 gBX10_rankOf_175
  simp only [gx_bs, gx_ms, gx_mn, gx_bn, gx_bm, gx_mb, gx_ite, gx_exL, gx_b2, gx_b2m, gx_b2mm, gx_sl, gx_sr, gx_id, mK_al, mK_as, mK_ob]
/-! LX10_rankOf_111 -/
noncomputable def gLX10_rankOf_111 (l1 : Int32) (l2 : Int32) (l3 : Int32) (l4 : Int32) (l6 : Int32) (l7 : Int32) (l8 : Int32) (l9 : Int32) (h : MS) : Option ((Int32 × MS) ⊕ ((Int32 × MS) ⊕ ((Int32 × Int32 × MS) ⊕ (Int32 × MS)))) :=
if l2 ≤ l9 then
 exL (some (.inl ((l7 + (1 : Int32)), h)))
else
 (gFX10_cell l7 l9 h).bind fun x15 =>
 (gFX10_cell l7 l9 h).bind fun x17 =>
 (gal mK h 15 x17).bind fun x18 =>
 (gFX10_cell l3 l9 h).bind fun x20 =>
 (gal mK h 15 x20).bind fun x21 =>
 (gFX10_mod (x18 - (l8 * x21)) h).bind fun x23 =>
 (gas mK h 15 x15 x23).bind fun h24 =>
 some (.inl ((l9 + (1 : Int32)), h24))
theorem eLX10_rankOf_111 {h : jx_H} {q : Nat} {S : MS} {l1 : Int32} {l2 : Int32} {l3 : Int32} {l4 : Int32} {l6 : Int32} {l7 : Int32} {l8 : Int32} {l9 : Int32} : LX10_rankOf_111 q l1 l2 l3 l4 l6 l7 l8 l9 (bput mK h q S) = (gLX10_rankOf_111 l1 l2 l3 l4 l6 l7 l8 l9 S).map (Sum.map (fun s : Int32 × MS => (s.1, bput mK h q s.2)) (Sum.map (fun s : Int32 × MS => (s.1, bput mK h q s.2)) (Sum.map (fun s : Int32 × Int32 × MS => (s.1, s.2.1, bput mK h q s.2.2)) (fun s : Int32 × MS => (s.1, bput mK h q s.2))))) := by
  unfold LX10_rankOf_111 gLX10_rankOf_111
  simp only [gx_bs, gx_ms, gx_mn, gx_bn, gx_bm, gx_mb, gx_ite, gx_exL, gx_b2, gx_b2m, gx_b2mm, gx_sl, gx_sr, gx_id, eFX10_cell, eFX10_mod, mJ_15, mK_al, mK_al15, mK_as, mK_as15, mK_gr25, mK_ob]
theorem wLX10_rankOf_111 {h : jx_H} {q : Nat} {S : MS} {l1 : Int32} {l2 : Int32} {l3 : Int32} {l4 : Int32} {l6 : Int32} {l7 : Int32} {l8 : Int32} {c0 : Int32} : itr (fun s : Int32 × jx_H => LX10_rankOf_111 q l1 l2 l3 l4 l6 l7 l8 s.1 s.2) (c0, bput mK h q S) = (itr (fun s : Int32 × MS => gLX10_rankOf_111 l1 l2 l3 l4 l6 l7 l8 s.1 s.2) (c0, S)).map (Sum.map (fun s : Int32 × MS => (s.1, bput mK h q s.2)) (Sum.map (fun s : Int32 × Int32 × MS => (s.1, s.2.1, bput mK h q s.2.2)) (fun s : Int32 × MS => (s.1, bput mK h q s.2)))) :=
  itr_map (φ := (fun s : Int32 × MS => (s.1, bput mK h q s.2))) (ψ := (Sum.map (fun s : Int32 × MS => (s.1, bput mK h q s.2)) (Sum.map (fun s : Int32 × Int32 × MS => (s.1, s.2.1, bput mK h q s.2.2)) (fun s : Int32 × MS => (s.1, bput mK h q s.2))))) (fun s => eLX10_rankOf_111) (c0, S)

/-! LX10_rankOf_79 -/
noncomputable def gLX10_rankOf_79 (l1 : Int32) (l2 : Int32) (l3 : Int32) (l4 : Int32) (l6 : Int32) (l7 : Int32) (h : MS) : Option ((Int32 × MS) ⊕ ((Int32 × Int32 × MS) ⊕ (Int32 × MS))) :=
if l1 ≤ l7 then
 exL (gBX10_rankOf_175 l1 l2 (l3 + (1 : Int32)) l4 h)
else
 (gFX10_cell l7 l4 h).bind fun x9 =>
 (gal mK h 15 x9).bind fun x10 =>
 (gFX10_p h).bind fun x12 =>
 if x12 = 0 then none else
 itr (fun s : Int32 × MS => gLX10_rankOf_111 l1 l2 l3 l4 l6 l7 ((x10 * l6) - (x10 * l6) / x12 * x12) s.1 s.2) (l4, h)
theorem eLX10_rankOf_79 {h : jx_H} {q : Nat} {S : MS} {l1 : Int32} {l2 : Int32} {l3 : Int32} {l4 : Int32} {l6 : Int32} {l7 : Int32} : LX10_rankOf_79 q l1 l2 l3 l4 l6 l7 (bput mK h q S) = (gLX10_rankOf_79 l1 l2 l3 l4 l6 l7 S).map (Sum.map (fun s : Int32 × MS => (s.1, bput mK h q s.2)) (Sum.map (fun s : Int32 × Int32 × MS => (s.1, s.2.1, bput mK h q s.2.2)) (fun s : Int32 × MS => (s.1, bput mK h q s.2)))) := by
  unfold LX10_rankOf_79 gLX10_rankOf_79
  simp only [gx_bs, gx_ms, gx_mn, gx_bn, gx_bm, gx_mb, gx_ite, gx_exL, gx_b2, gx_b2m, gx_b2mm, gx_sl, gx_sr, gx_id, eBX10_rankOf_175, eFX10_cell, eFX10_p, wLX10_rankOf_111, mJ_15, mK_al, mK_al15, mK_as, mK_as15, mK_gr25, mK_ob]
theorem wLX10_rankOf_79 {h : jx_H} {q : Nat} {S : MS} {l1 : Int32} {l2 : Int32} {l3 : Int32} {l4 : Int32} {l6 : Int32} {c0 : Int32} : itr (fun s : Int32 × jx_H => LX10_rankOf_79 q l1 l2 l3 l4 l6 s.1 s.2) (c0, bput mK h q S) = (itr (fun s : Int32 × MS => gLX10_rankOf_79 l1 l2 l3 l4 l6 s.1 s.2) (c0, S)).map (Sum.map (fun s : Int32 × Int32 × MS => (s.1, s.2.1, bput mK h q s.2.2)) (fun s : Int32 × MS => (s.1, bput mK h q s.2))) :=
  itr_map (φ := (fun s : Int32 × MS => (s.1, bput mK h q s.2))) (ψ := (Sum.map (fun s : Int32 × Int32 × MS => (s.1, s.2.1, bput mK h q s.2.2)) (fun s : Int32 × MS => (s.1, bput mK h q s.2)))) (fun s => eLX10_rankOf_79) (c0, S)

/-! BX10_rankOf_41 -/
noncomputable def gBX10_rankOf_41 (l1 : Int32) (l2 : Int32) (l3 : Int32) (l4 : Int32) (l5 : Int32) (h : MS) : Option ((Int32 × Int32 × MS) ⊕ (Int32 × MS)) :=
if l5 = l1 then
 gBX10_rankOf_175 l1 l2 l3 l4 h
else
 (gFX10_swapsRows l5 l3 h).bind fun h2 =>
 (gFX10_cell l3 l4 h2).bind fun x4 =>
 (gal mK h2 15 x4).bind fun x5 =>
 (gFX10_inverse x5 h2).bind fun x7 =>
 itr (fun s : Int32 × MS => gLX10_rankOf_79 l1 l2 l3 l4 x7 s.1 s.2) ((l3 + (1 : Int32)), h2)
theorem eBX10_rankOf_41 {h : jx_H} {q : Nat} {S : MS} {l1 : Int32} {l2 : Int32} {l3 : Int32} {l4 : Int32} {l5 : Int32} : BX10_rankOf_41 q l1 l2 l3 l4 l5 (bput mK h q S) = (gBX10_rankOf_41 l1 l2 l3 l4 l5 S).map (Sum.map (fun s : Int32 × Int32 × MS => (s.1, s.2.1, bput mK h q s.2.2)) (fun s : Int32 × MS => (s.1, bput mK h q s.2))) := by
  unfold BX10_rankOf_41 gBX10_rankOf_41
  simp only [gx_bs, gx_ms, gx_mn, gx_bn, gx_bm, gx_mb, gx_ite, gx_exL, gx_b2, gx_b2m, gx_b2mm, gx_sl, gx_sr, gx_id, eBX10_rankOf_175, eFX10_swapsRows, eFX10_cell, eFX10_inverse, wLX10_rankOf_79, mJ_15, mK_al, mK_al15, mK_as, mK_as15, mK_gr25, mK_ob]
/-! LX10_rankOf_14 -/
noncomputable def gLX10_rankOf_14 (l1 : Int32) (l2 : Int32) (l3 : Int32) (l4 : Int32) (l5 : Int32) (h : MS) : Option ((Int32) ⊕ ((Int32 × Int32 × MS) ⊕ (Int32 × MS))) :=
if l1 ≤ l5 then
 exL (gBX10_rankOf_41 l1 l2 l3 l4 l5 h)
else
 (gFX10_cell l5 l4 h).bind fun x29 =>
 (gal mK h 15 x29).bind fun x30 =>
 if x30 = 0 then
  some (.inl (l5 + (1 : Int32)))
 else
  exL (gBX10_rankOf_41 l1 l2 l3 l4 l5 h)
theorem eLX10_rankOf_14 {h : jx_H} {q : Nat} {S : MS} {l1 : Int32} {l2 : Int32} {l3 : Int32} {l4 : Int32} {l5 : Int32} : LX10_rankOf_14 q l1 l2 l3 l4 l5 (bput mK h q S) = (gLX10_rankOf_14 l1 l2 l3 l4 l5 S).map (Sum.map id (Sum.map (fun s : Int32 × Int32 × MS => (s.1, s.2.1, bput mK h q s.2.2)) (fun s : Int32 × MS => (s.1, bput mK h q s.2)))) := by
  unfold LX10_rankOf_14 gLX10_rankOf_14
  simp only [gx_bs, gx_ms, gx_mn, gx_bn, gx_bm, gx_mb, gx_ite, gx_exL, gx_b2, gx_b2m, gx_b2mm, gx_sl, gx_sr, gx_id, eBX10_rankOf_41, eFX10_cell, mJ_15, mK_al, mK_al15, mK_as, mK_as15, mK_gr25, mK_ob]
theorem wLX10_rankOf_14 {h : jx_H} {q : Nat} {S : MS} {l1 : Int32} {l2 : Int32} {l3 : Int32} {l4 : Int32} {c0 : Int32} : itr (fun s : Int32 => LX10_rankOf_14 q l1 l2 l3 l4 s (bput mK h q S)) (c0) = (itr (fun s : Int32 => gLX10_rankOf_14 l1 l2 l3 l4 s S) (c0)).map (Sum.map (fun s : Int32 × Int32 × MS => (s.1, s.2.1, bput mK h q s.2.2)) (fun s : Int32 × MS => (s.1, bput mK h q s.2))) :=
  itr_map (φ := id) (ψ := (Sum.map (fun s : Int32 × Int32 × MS => (s.1, s.2.1, bput mK h q s.2.2)) (fun s : Int32 × MS => (s.1, bput mK h q s.2)))) (fun s => eLX10_rankOf_14) (c0)

/-! LX10_rankOf_5 -/
noncomputable def gLX10_rankOf_5 (l1 : Int32) (l2 : Int32) (l3 : Int32) (l4 : Int32) (h : MS) : Option ((Int32 × Int32 × MS) ⊕ (Int32 × MS)) :=
if l2 ≤ l4 then
 exL (some (l3, h))
else
 itr (fun s : Int32 => gLX10_rankOf_14 l1 l2 l3 l4 s h) l3
theorem eLX10_rankOf_5 {h : jx_H} {q : Nat} {S : MS} {l1 : Int32} {l2 : Int32} {l3 : Int32} {l4 : Int32} : LX10_rankOf_5 q l1 l2 l3 l4 (bput mK h q S) = (gLX10_rankOf_5 l1 l2 l3 l4 S).map (Sum.map (fun s : Int32 × Int32 × MS => (s.1, s.2.1, bput mK h q s.2.2)) (fun s : Int32 × MS => (s.1, bput mK h q s.2))) := by
  unfold LX10_rankOf_5 gLX10_rankOf_5
  simp only [gx_bs, gx_ms, gx_mn, gx_bn, gx_bm, gx_mb, gx_ite, gx_exL, gx_b2, gx_b2m, gx_b2mm, gx_sl, gx_sr, gx_id, wLX10_rankOf_14, mK_al, mK_as, mK_ob]
theorem wLX10_rankOf_5 {h : jx_H} {q : Nat} {S : MS} {l1 : Int32} {l2 : Int32} {c0 : Int32} {c1 : Int32} : itr (fun s : Int32 × Int32 × jx_H => LX10_rankOf_5 q l1 l2 s.1 s.2.1 s.2.2) (c0, c1, bput mK h q S) = (itr (fun s : Int32 × Int32 × MS => gLX10_rankOf_5 l1 l2 s.1 s.2.1 s.2.2) (c0, c1, S)).map (fun s : Int32 × MS => (s.1, bput mK h q s.2)) :=
  itr_map (φ := (fun s : Int32 × Int32 × MS => (s.1, s.2.1, bput mK h q s.2.2))) (ψ := (fun s : Int32 × MS => (s.1, bput mK h q s.2))) (fun s => eLX10_rankOf_5) (c0, c1, S)

/-! FX10_rankOf -/
noncomputable def gFX10_rankOf (l1 : Int32) (l2 : Int32) (h : MS) : Option (Int32 × MS) :=
itr (fun s : Int32 × Int32 × MS => gLX10_rankOf_5 l1 l2 s.1 s.2.1 s.2.2) ((0 : Int32), (0 : Int32), h)
theorem eFX10_rankOf {h : jx_H} {q : Nat} {S : MS} {l1 : Int32} {l2 : Int32} : FX10_rankOf q l1 l2 (bput mK h q S) = (gFX10_rankOf l1 l2 S).map (fun s : Int32 × MS => (s.1, bput mK h q s.2)) := by
  unfold FX10_rankOf gFX10_rankOf
  simp only [gx_bs, gx_ms, gx_mn, gx_bn, gx_bm, gx_mb, gx_ite, gx_exL, gx_b2, gx_b2m, gx_b2mm, gx_sl, gx_sr, gx_id, wLX10_rankOf_5, mK_al, mK_as, mK_ob]
/-! BX10_isFresh_84 -/
noncomputable def gBX10_isFresh_84 (l1 : Int32) (l2 : Int32) (l3 : Int32) (l4 : Int32) (l5 : Int32) (s0 : Nat) (s1 : Int32) (s2 : Int32) (h : MS) : Option ((Int32 × MS) ⊕ ((Int32 × MS) ⊕ (Int32 × MS))) :=
(gas mK h s0 s1 s2).bind fun h13 =>
some (.inl ((l5 + (1 : Int32)), h13))
theorem eBX10_isFresh_84 {h : jx_H} {q : Nat} {S : MS} {l1 : Int32} {l2 : Int32} {l3 : Int32} {l4 : Int32} {l5 : Int32} {s0 : Nat} {s1 : Int32} {s2 : Int32} (Js0 : mJ s0) : BX10_isFresh_84 q l1 l2 l3 l4 l5 (q + s0) s1 s2 (bput mK h q S) = (gBX10_isFresh_84 l1 l2 l3 l4 l5 s0 s1 s2 S).map (Sum.map (fun s : Int32 × MS => (s.1, bput mK h q s.2)) (Sum.map (fun s : Int32 × MS => (s.1, bput mK h q s.2)) (fun s : Int32 × MS => (s.1, bput mK h q s.2)))) := by
  unfold BX10_isFresh_84 gBX10_isFresh_84
  simp only [gx_bs, gx_ms, gx_mn, gx_bn, gx_bm, gx_mb, gx_ite, gx_exL, gx_b2, gx_b2m, gx_b2mm, gx_sl, gx_sr, gx_id, Js0, mK_al, mK_as, mK_ob]
/-! LX10_isFresh_22 -/
noncomputable def gLX10_isFresh_22 (l1 : Int32) (l2 : Int32) (l3 : Int32) (l4 : Int32) (l5 : Int32) (h : MS) : Option ((Int32 × MS) ⊕ ((Int32 × MS) ⊕ (Int32 × MS))) :=
if l3 ≤ l5 then
 exL (some (.inl ((l4 + (1 : Int32)), h)))
else
 (gFX10_cell l4 l5 h).bind fun x15 =>
 (gFX10_n h).bind fun x17 =>
 if x17 ≤ l4 then
  bind2 (gFX10_valueAt l1 l2 l5 h) fun x19 h20 =>
  gBX10_isFresh_84 l1 l2 l3 l4 l5 15 x15 x19 h20
 else
  (gal mK h 1 ((4 : Int32) + l4)).bind fun x22 =>
  (gal mK h 1 ((16 : Int32) + l4)).bind fun x24 =>
  bind2 (gFX10_valueAt x22 x24 l5 h) fun x26 h27 =>
  gBX10_isFresh_84 l1 l2 l3 l4 l5 15 x15 x26 h27
theorem eLX10_isFresh_22 {h : jx_H} {q : Nat} {S : MS} {l1 : Int32} {l2 : Int32} {l3 : Int32} {l4 : Int32} {l5 : Int32} : LX10_isFresh_22 q l1 l2 l3 l4 l5 (bput mK h q S) = (gLX10_isFresh_22 l1 l2 l3 l4 l5 S).map (Sum.map (fun s : Int32 × MS => (s.1, bput mK h q s.2)) (Sum.map (fun s : Int32 × MS => (s.1, bput mK h q s.2)) (fun s : Int32 × MS => (s.1, bput mK h q s.2)))) := by
  unfold LX10_isFresh_22 gLX10_isFresh_22
  simp only [gx_bs, gx_ms, gx_mn, gx_bn, gx_bm, gx_mb, gx_ite, gx_exL, gx_b2, gx_b2m, gx_b2mm, gx_sl, gx_sr, gx_id, eFX10_cell, eFX10_n, eFX10_valueAt, eBX10_isFresh_84, mJ_1, mJ_15, mK_al, mK_al1, mK_al15, mK_as, mK_as1, mK_as15, mK_gr1, mK_gr25, mK_ob]
theorem wLX10_isFresh_22 {h : jx_H} {q : Nat} {S : MS} {l1 : Int32} {l2 : Int32} {l3 : Int32} {l4 : Int32} {c0 : Int32} : itr (fun s : Int32 × jx_H => LX10_isFresh_22 q l1 l2 l3 l4 s.1 s.2) (c0, bput mK h q S) = (itr (fun s : Int32 × MS => gLX10_isFresh_22 l1 l2 l3 l4 s.1 s.2) (c0, S)).map (Sum.map (fun s : Int32 × MS => (s.1, bput mK h q s.2)) (fun s : Int32 × MS => (s.1, bput mK h q s.2))) :=
  itr_map (φ := (fun s : Int32 × MS => (s.1, bput mK h q s.2))) (ψ := (Sum.map (fun s : Int32 × MS => (s.1, bput mK h q s.2)) (fun s : Int32 × MS => (s.1, bput mK h q s.2)))) (fun s => eLX10_isFresh_22) (c0, S)

/-! LX10_isFresh_10 -/
noncomputable def gLX10_isFresh_10 (l1 : Int32) (l2 : Int32) (l3 : Int32) (l4 : Int32) (h : MS) : Option ((Int32 × MS) ⊕ (Int32 × MS)) :=
(gFX10_n h).bind fun x4 =>
if x4 < l4 then
 exL ((gFX10_n h).bind fun x6 =>
 bind2 (gFX10_rankOf (x6 + (1 : Int32)) l3 h) fun x8 h9 =>
 (gFX10_n h9).bind fun x11 =>
 if x8 = (x11 + (1 : Int32)) then
  some ((1 : Int32), h9)
 else
  some ((0 : Int32), h9))
else
 itr (fun s : Int32 × MS => gLX10_isFresh_22 l1 l2 l3 l4 s.1 s.2) ((0 : Int32), h)
theorem eLX10_isFresh_10 {h : jx_H} {q : Nat} {S : MS} {l1 : Int32} {l2 : Int32} {l3 : Int32} {l4 : Int32} : LX10_isFresh_10 q l1 l2 l3 l4 (bput mK h q S) = (gLX10_isFresh_10 l1 l2 l3 l4 S).map (Sum.map (fun s : Int32 × MS => (s.1, bput mK h q s.2)) (fun s : Int32 × MS => (s.1, bput mK h q s.2))) := by
  unfold LX10_isFresh_10 gLX10_isFresh_10
  simp only [gx_bs, gx_ms, gx_mn, gx_bn, gx_bm, gx_mb, gx_ite, gx_exL, gx_b2, gx_b2m, gx_b2mm, gx_sl, gx_sr, gx_id, eFX10_n, eFX10_rankOf, wLX10_isFresh_22, mK_al, mK_as, mK_ob]
theorem wLX10_isFresh_10 {h : jx_H} {q : Nat} {S : MS} {l1 : Int32} {l2 : Int32} {l3 : Int32} {c0 : Int32} : itr (fun s : Int32 × jx_H => LX10_isFresh_10 q l1 l2 l3 s.1 s.2) (c0, bput mK h q S) = (itr (fun s : Int32 × MS => gLX10_isFresh_10 l1 l2 l3 s.1 s.2) (c0, S)).map (fun s : Int32 × MS => (s.1, bput mK h q s.2)) :=
  itr_map (φ := (fun s : Int32 × MS => (s.1, bput mK h q s.2))) (ψ := (fun s : Int32 × MS => (s.1, bput mK h q s.2))) (fun s => eLX10_isFresh_10) (c0, S)

/-! FX10_isFresh -/
noncomputable def gFX10_isFresh (l1 : Int32) (l2 : Int32) (h : MS) : Option (Int32 × MS) :=
(gal mK h 1 (3 : Int32)).bind fun x2 =>
itr (fun s : Int32 × MS => gLX10_isFresh_10 l1 l2 x2 s.1 s.2) ((0 : Int32), h)
theorem eFX10_isFresh {h : jx_H} {q : Nat} {S : MS} {l1 : Int32} {l2 : Int32} : FX10_isFresh q l1 l2 (bput mK h q S) = (gFX10_isFresh l1 l2 S).map (fun s : Int32 × MS => (s.1, bput mK h q s.2)) := by
  unfold FX10_isFresh gFX10_isFresh
  simp only [gx_bs, gx_ms, gx_mn, gx_bn, gx_bm, gx_mb, gx_ite, gx_exL, gx_b2, gx_b2m, gx_b2mm, gx_sl, gx_sr, gx_id, wLX10_isFresh_10, mJ_1, mK_al, mK_al1, mK_as, mK_as1, mK_gr1, mK_ob]
/-! LX10_solves_345 -/
noncomputable def gLX10_solves_345 (l1 : Int32) (l2 : Int32) (l3 : Int32) (h : MS) : Option ((Int32 × MS) ⊕ (MS)) :=
if l2 ≤ l3 then
 exL (some h)
else
 (gFX10_ruleAt l1 l3 h).bind fun x4 =>
 (gal mK h 24 (((13 : Int32) * l3) + (12 : Int32))).bind fun x6 =>
 (gas mK h 1 x4 x6).bind fun h7 =>
 some (.inl ((l3 + (1 : Int32)), h7))
theorem eLX10_solves_345 {h : jx_H} {q : Nat} {S : MS} {l1 : Int32} {l2 : Int32} {l3 : Int32} : LX10_solves_345 q l1 l2 l3 (bput mK h q S) = (gLX10_solves_345 l1 l2 l3 S).map (Sum.map (fun s : Int32 × MS => (s.1, bput mK h q s.2)) (bput mK h q)) := by
  unfold LX10_solves_345 gLX10_solves_345
  simp only [gx_bs, gx_ms, gx_mn, gx_bn, gx_bm, gx_mb, gx_ite, gx_exL, gx_b2, gx_b2m, gx_b2mm, gx_sl, gx_sr, gx_id, eFX10_ruleAt, mJ_1, mJ_24, mK_al, mK_al1, mK_al24, mK_as, mK_as1, mK_as24, mK_gr1, mK_gr37, mK_ob]
theorem wLX10_solves_345 {h : jx_H} {q : Nat} {S : MS} {l1 : Int32} {l2 : Int32} {c0 : Int32} : itr (fun s : Int32 × jx_H => LX10_solves_345 q l1 l2 s.1 s.2) (c0, bput mK h q S) = (itr (fun s : Int32 × MS => gLX10_solves_345 l1 l2 s.1 s.2) (c0, S)).map (bput mK h q) :=
  itr_map (φ := (fun s : Int32 × MS => (s.1, bput mK h q s.2))) (ψ := (bput mK h q)) (fun s => eLX10_solves_345) (c0, S)

/-! BX10_solves_331 -/
noncomputable def gBX10_solves_331 (l1 : Int32) (l2 : Int32) (l3 : Int32) (l6 : Int32) (h : MS) : Option ((Int32 × MS) ⊕ ((Int32 × MS) ⊕ (MS))) :=
some (.inl ((l6 + (1 : Int32)), h))
theorem eBX10_solves_331 {h : jx_H} {q : Nat} {S : MS} {l1 : Int32} {l2 : Int32} {l3 : Int32} {l6 : Int32} : BX10_solves_331 q l1 l2 l3 l6 (bput mK h q S) = (gBX10_solves_331 l1 l2 l3 l6 S).map (Sum.map (fun s : Int32 × MS => (s.1, bput mK h q s.2)) (Sum.map (fun s : Int32 × MS => (s.1, bput mK h q s.2)) (bput mK h q))) := by
  unfold BX10_solves_331 gBX10_solves_331
  simp only [gx_bs, gx_ms, gx_mn, gx_bn, gx_bm, gx_mb, gx_ite, gx_exL, gx_b2, gx_b2m, gx_b2mm, gx_sl, gx_sr, gx_id, mK_al, mK_as, mK_ob]
/-! LX10_solves_267 -/
noncomputable def gLX10_solves_267 (l1 : Int32) (l2 : Int32) (l3 : Int32) (l6 : Int32) (l7 : Int32) (l8 : Int32) (h : MS) : Option ((Int32 × MS) ⊕ ((Int32 × MS) ⊕ ((Int32 × MS) ⊕ (MS)))) :=
if (13 : Int32) ≤ l8 then
 exL (gBX10_solves_331 l1 l2 l3 l6 h)
else
 if l7 ≤ 0 then
  exL (gBX10_solves_331 l1 l2 l3 l6 h)
 else
  (gal mK h 24 (((13 : Int32) * l6) + l8)).bind fun x17 =>
  (gal mK h 24 (((13 : Int32) * l3) + l8)).bind fun x19 =>
  (gFX10_mod (x17 - (l7 * x19)) h).bind fun x21 =>
  (gas mK h 24 (((13 : Int32) * l6) + l8) x21).bind fun h22 =>
  some (.inl ((l8 + (1 : Int32)), h22))
theorem eLX10_solves_267 {h : jx_H} {q : Nat} {S : MS} {l1 : Int32} {l2 : Int32} {l3 : Int32} {l6 : Int32} {l7 : Int32} {l8 : Int32} : LX10_solves_267 q l1 l2 l3 l6 l7 l8 (bput mK h q S) = (gLX10_solves_267 l1 l2 l3 l6 l7 l8 S).map (Sum.map (fun s : Int32 × MS => (s.1, bput mK h q s.2)) (Sum.map (fun s : Int32 × MS => (s.1, bput mK h q s.2)) (Sum.map (fun s : Int32 × MS => (s.1, bput mK h q s.2)) (bput mK h q)))) := by
  unfold LX10_solves_267 gLX10_solves_267
  simp only [gx_bs, gx_ms, gx_mn, gx_bn, gx_bm, gx_mb, gx_ite, gx_exL, gx_b2, gx_b2m, gx_b2mm, gx_sl, gx_sr, gx_id, eBX10_solves_331, eFX10_mod, mJ_24, mK_al, mK_al24, mK_as, mK_as24, mK_gr37, mK_ob]
theorem wLX10_solves_267 {h : jx_H} {q : Nat} {S : MS} {l1 : Int32} {l2 : Int32} {l3 : Int32} {l6 : Int32} {l7 : Int32} {c0 : Int32} : itr (fun s : Int32 × jx_H => LX10_solves_267 q l1 l2 l3 l6 l7 s.1 s.2) (c0, bput mK h q S) = (itr (fun s : Int32 × MS => gLX10_solves_267 l1 l2 l3 l6 l7 s.1 s.2) (c0, S)).map (Sum.map (fun s : Int32 × MS => (s.1, bput mK h q s.2)) (Sum.map (fun s : Int32 × MS => (s.1, bput mK h q s.2)) (bput mK h q))) :=
  itr_map (φ := (fun s : Int32 × MS => (s.1, bput mK h q s.2))) (ψ := (Sum.map (fun s : Int32 × MS => (s.1, bput mK h q s.2)) (Sum.map (fun s : Int32 × MS => (s.1, bput mK h q s.2)) (bput mK h q)))) (fun s => eLX10_solves_267) (c0, S)

/-! BX10_solves_262 -/
noncomputable def gBX10_solves_262 (l1 : Int32) (l2 : Int32) (l3 : Int32) (l6 : Int32) (s0 : Int32) (h : MS) : Option ((Int32 × MS) ⊕ ((Int32 × MS) ⊕ (MS))) :=
itr (fun s : Int32 × MS => gLX10_solves_267 l1 l2 l3 l6 s0 s.1 s.2) ((0 : Int32), h)
theorem eBX10_solves_262 {h : jx_H} {q : Nat} {S : MS} {l1 : Int32} {l2 : Int32} {l3 : Int32} {l6 : Int32} {s0 : Int32} : BX10_solves_262 q l1 l2 l3 l6 s0 (bput mK h q S) = (gBX10_solves_262 l1 l2 l3 l6 s0 S).map (Sum.map (fun s : Int32 × MS => (s.1, bput mK h q s.2)) (Sum.map (fun s : Int32 × MS => (s.1, bput mK h q s.2)) (bput mK h q))) := by
  unfold BX10_solves_262 gBX10_solves_262
  simp only [gx_bs, gx_ms, gx_mn, gx_bn, gx_bm, gx_mb, gx_ite, gx_exL, gx_b2, gx_b2m, gx_b2mm, gx_sl, gx_sr, gx_id, wLX10_solves_267, mK_al, mK_as, mK_ob]
/-! LX10_solves_234 -/
noncomputable def gLX10_solves_234 (l1 : Int32) (l2 : Int32) (l3 : Int32) (l6 : Int32) (h : MS) : Option ((Int32 × MS) ⊕ ((Int32 × MS) ⊕ (MS))) :=
if l2 ≤ l6 then
 exL (some (.inl ((l3 + (1 : Int32)), h)))
else
 if l6 = l3 then
  gBX10_solves_262 l1 l2 l3 l6 (0 : Int32) h
 else
  (gal mK h 24 (((13 : Int32) * l6) + l3)).bind fun x26 =>
  gBX10_solves_262 l1 l2 l3 l6 x26 h
theorem eLX10_solves_234 {h : jx_H} {q : Nat} {S : MS} {l1 : Int32} {l2 : Int32} {l3 : Int32} {l6 : Int32} : LX10_solves_234 q l1 l2 l3 l6 (bput mK h q S) = (gLX10_solves_234 l1 l2 l3 l6 S).map (Sum.map (fun s : Int32 × MS => (s.1, bput mK h q s.2)) (Sum.map (fun s : Int32 × MS => (s.1, bput mK h q s.2)) (bput mK h q))) := by
  unfold LX10_solves_234 gLX10_solves_234
  simp only [gx_bs, gx_ms, gx_mn, gx_bn, gx_bm, gx_mb, gx_ite, gx_exL, gx_b2, gx_b2m, gx_b2mm, gx_sl, gx_sr, gx_id, eBX10_solves_262, mJ_24, mK_al, mK_al24, mK_as, mK_as24, mK_gr37, mK_ob]
theorem wLX10_solves_234 {h : jx_H} {q : Nat} {S : MS} {l1 : Int32} {l2 : Int32} {l3 : Int32} {c0 : Int32} : itr (fun s : Int32 × jx_H => LX10_solves_234 q l1 l2 l3 s.1 s.2) (c0, bput mK h q S) = (itr (fun s : Int32 × MS => gLX10_solves_234 l1 l2 l3 s.1 s.2) (c0, S)).map (Sum.map (fun s : Int32 × MS => (s.1, bput mK h q s.2)) (bput mK h q)) :=
  itr_map (φ := (fun s : Int32 × MS => (s.1, bput mK h q s.2))) (ψ := (Sum.map (fun s : Int32 × MS => (s.1, bput mK h q s.2)) (bput mK h q))) (fun s => eLX10_solves_234) (c0, S)

/-! LX10_solves_156 -/
noncomputable def gLX10_solves_156 (l1 : Int32) (l2 : Int32) (l3 : Int32) (l4 : Int32) (l5 : Int32) (l6 : Int32) (h : MS) : Option ((Int32 × MS) ⊕ ((Int32 × MS) ⊕ (MS))) :=
if (13 : Int32) ≤ l6 then
 exL (itr (fun s : Int32 × MS => gLX10_solves_234 l1 l2 l3 s.1 s.2) ((0 : Int32), h))
else
 (gal mK h 24 (((13 : Int32) * l4) + l6)).bind fun x30 =>
 (gFX10_p h).bind fun x32 =>
 if x32 = 0 then none else
 (gal mK h 24 (((13 : Int32) * l3) + l6)).bind fun x36 =>
 (gas mK h 24 (((13 : Int32) * l4) + l6) x36).bind fun h37 =>
 (gas mK h37 24 (((13 : Int32) * l3) + l6) ((x30 * l5) - (x30 * l5) / x32 * x32)).bind fun h39 =>
 some (.inl ((l6 + (1 : Int32)), h39))
theorem eLX10_solves_156 {h : jx_H} {q : Nat} {S : MS} {l1 : Int32} {l2 : Int32} {l3 : Int32} {l4 : Int32} {l5 : Int32} {l6 : Int32} : LX10_solves_156 q l1 l2 l3 l4 l5 l6 (bput mK h q S) = (gLX10_solves_156 l1 l2 l3 l4 l5 l6 S).map (Sum.map (fun s : Int32 × MS => (s.1, bput mK h q s.2)) (Sum.map (fun s : Int32 × MS => (s.1, bput mK h q s.2)) (bput mK h q))) := by
  unfold LX10_solves_156 gLX10_solves_156
  simp only [gx_bs, gx_ms, gx_mn, gx_bn, gx_bm, gx_mb, gx_ite, gx_exL, gx_b2, gx_b2m, gx_b2mm, gx_sl, gx_sr, gx_id, wLX10_solves_234, eFX10_p, mJ_24, mK_al, mK_al24, mK_as, mK_as24, mK_gr37, mK_ob]
theorem wLX10_solves_156 {h : jx_H} {q : Nat} {S : MS} {l1 : Int32} {l2 : Int32} {l3 : Int32} {l4 : Int32} {l5 : Int32} {c0 : Int32} : itr (fun s : Int32 × jx_H => LX10_solves_156 q l1 l2 l3 l4 l5 s.1 s.2) (c0, bput mK h q S) = (itr (fun s : Int32 × MS => gLX10_solves_156 l1 l2 l3 l4 l5 s.1 s.2) (c0, S)).map (Sum.map (fun s : Int32 × MS => (s.1, bput mK h q s.2)) (bput mK h q)) :=
  itr_map (φ := (fun s : Int32 × MS => (s.1, bput mK h q s.2))) (ψ := (Sum.map (fun s : Int32 × MS => (s.1, bput mK h q s.2)) (bput mK h q))) (fun s => eLX10_solves_156) (c0, S)

/-! LX10_solves_114 -/
noncomputable def gLX10_solves_114 (l1 : Int32) (l2 : Int32) (l3 : Int32) (l4 : Int32) (h : MS) : Option ((Int32) ⊕ ((Int32 × MS) ⊕ (MS))) :=
(gal mK h 24 (((13 : Int32) * l4) + l3)).bind fun x10 =>
if x10 = 0 then
 some (.inl (l4 + (1 : Int32)))
else
 exL ((gal mK h 24 (((13 : Int32) * l4) + l3)).bind fun x12 =>
 (gFX10_inverse x12 h).bind fun x14 =>
 itr (fun s : Int32 × MS => gLX10_solves_156 l1 l2 l3 l4 x14 s.1 s.2) ((0 : Int32), h))
theorem eLX10_solves_114 {h : jx_H} {q : Nat} {S : MS} {l1 : Int32} {l2 : Int32} {l3 : Int32} {l4 : Int32} : LX10_solves_114 q l1 l2 l3 l4 (bput mK h q S) = (gLX10_solves_114 l1 l2 l3 l4 S).map (Sum.map id (Sum.map (fun s : Int32 × MS => (s.1, bput mK h q s.2)) (bput mK h q))) := by
  unfold LX10_solves_114 gLX10_solves_114
  simp only [gx_bs, gx_ms, gx_mn, gx_bn, gx_bm, gx_mb, gx_ite, gx_exL, gx_b2, gx_b2m, gx_b2mm, gx_sl, gx_sr, gx_id, eFX10_inverse, wLX10_solves_156, mJ_24, mK_al, mK_al24, mK_as, mK_as24, mK_gr37, mK_ob]
theorem wLX10_solves_114 {h : jx_H} {q : Nat} {S : MS} {l1 : Int32} {l2 : Int32} {l3 : Int32} {c0 : Int32} : itr (fun s : Int32 => LX10_solves_114 q l1 l2 l3 s (bput mK h q S)) (c0) = (itr (fun s : Int32 => gLX10_solves_114 l1 l2 l3 s S) (c0)).map (Sum.map (fun s : Int32 × MS => (s.1, bput mK h q s.2)) (bput mK h q)) :=
  itr_map (φ := id) (ψ := (Sum.map (fun s : Int32 × MS => (s.1, bput mK h q s.2)) (bput mK h q))) (fun s => eLX10_solves_114) (c0)

/-! LX10_solves_106 -/
noncomputable def gLX10_solves_106 (l1 : Int32) (l2 : Int32) (l3 : Int32) (h : MS) : Option ((Int32 × MS) ⊕ (MS)) :=
if l2 ≤ l3 then
 exL (itr (fun s : Int32 × MS => gLX10_solves_345 l1 l2 s.1 s.2) ((0 : Int32), h))
else
 itr (fun s : Int32 => gLX10_solves_114 l1 l2 l3 s h) l3
theorem eLX10_solves_106 {h : jx_H} {q : Nat} {S : MS} {l1 : Int32} {l2 : Int32} {l3 : Int32} : LX10_solves_106 q l1 l2 l3 (bput mK h q S) = (gLX10_solves_106 l1 l2 l3 S).map (Sum.map (fun s : Int32 × MS => (s.1, bput mK h q s.2)) (bput mK h q)) := by
  unfold LX10_solves_106 gLX10_solves_106
  simp only [gx_bs, gx_ms, gx_mn, gx_bn, gx_bm, gx_mb, gx_ite, gx_exL, gx_b2, gx_b2m, gx_b2mm, gx_sl, gx_sr, gx_id, wLX10_solves_345, wLX10_solves_114, mK_al, mK_as, mK_ob]
theorem wLX10_solves_106 {h : jx_H} {q : Nat} {S : MS} {l1 : Int32} {l2 : Int32} {c0 : Int32} : itr (fun s : Int32 × jx_H => LX10_solves_106 q l1 l2 s.1 s.2) (c0, bput mK h q S) = (itr (fun s : Int32 × MS => gLX10_solves_106 l1 l2 s.1 s.2) (c0, S)).map (bput mK h q) :=
  itr_map (φ := (fun s : Int32 × MS => (s.1, bput mK h q s.2))) (ψ := (bput mK h q)) (fun s => eLX10_solves_106) (c0, S)

/-! LX10_solves_15 -/
noncomputable def gLX10_solves_15 (l1 : Int32) (l2 : Int32) (l3 : Int32) (l4 : Int32) (h : MS) : Option ((Int32 × MS) ⊕ ((Int32 × MS) ⊕ (MS))) :=
if l2 ≤ l4 then
 exL ((gal mK h 1 ((28 : Int32) + l1)).bind fun x45 =>
 (gal mK h 1 ((42 : Int32) + l1)).bind fun x47 =>
 bind2 (gFX10_valueAt x45 x47 l3 h) fun x49 h50 =>
 (gas mK h50 24 (((13 : Int32) * l3) + (12 : Int32)) x49).bind fun h51 =>
 some (.inl ((l3 + (1 : Int32)), h51)))
else
 (gal mK h 1 ((4 : Int32) + l4)).bind fun x54 =>
 (gal mK h 1 ((16 : Int32) + l4)).bind fun x56 =>
 bind2 (gFX10_valueAt x54 x56 l3 h) fun x58 h59 =>
 (gas mK h59 24 (((13 : Int32) * l3) + l4) x58).bind fun h60 =>
 some (.inl ((l4 + (1 : Int32)), h60))
theorem eLX10_solves_15 {h : jx_H} {q : Nat} {S : MS} {l1 : Int32} {l2 : Int32} {l3 : Int32} {l4 : Int32} : LX10_solves_15 q l1 l2 l3 l4 (bput mK h q S) = (gLX10_solves_15 l1 l2 l3 l4 S).map (Sum.map (fun s : Int32 × MS => (s.1, bput mK h q s.2)) (Sum.map (fun s : Int32 × MS => (s.1, bput mK h q s.2)) (bput mK h q))) := by
  unfold LX10_solves_15 gLX10_solves_15
  simp only [gx_bs, gx_ms, gx_mn, gx_bn, gx_bm, gx_mb, gx_ite, gx_exL, gx_b2, gx_b2m, gx_b2mm, gx_sl, gx_sr, gx_id, eFX10_valueAt, mJ_1, mJ_24, mK_al, mK_al1, mK_al24, mK_as, mK_as1, mK_as24, mK_gr1, mK_gr37, mK_ob]
theorem wLX10_solves_15 {h : jx_H} {q : Nat} {S : MS} {l1 : Int32} {l2 : Int32} {l3 : Int32} {c0 : Int32} : itr (fun s : Int32 × jx_H => LX10_solves_15 q l1 l2 l3 s.1 s.2) (c0, bput mK h q S) = (itr (fun s : Int32 × MS => gLX10_solves_15 l1 l2 l3 s.1 s.2) (c0, S)).map (Sum.map (fun s : Int32 × MS => (s.1, bput mK h q s.2)) (bput mK h q)) :=
  itr_map (φ := (fun s : Int32 × MS => (s.1, bput mK h q s.2))) (ψ := (Sum.map (fun s : Int32 × MS => (s.1, bput mK h q s.2)) (bput mK h q))) (fun s => eLX10_solves_15) (c0, S)

/-! LX10_solves_7 -/
noncomputable def gLX10_solves_7 (l1 : Int32) (l2 : Int32) (l3 : Int32) (h : MS) : Option ((Int32 × MS) ⊕ (MS)) :=
if l2 ≤ l3 then
 exL (itr (fun s : Int32 × MS => gLX10_solves_106 l1 l2 s.1 s.2) ((0 : Int32), h))
else
 itr (fun s : Int32 × MS => gLX10_solves_15 l1 l2 l3 s.1 s.2) ((0 : Int32), h)
theorem eLX10_solves_7 {h : jx_H} {q : Nat} {S : MS} {l1 : Int32} {l2 : Int32} {l3 : Int32} : LX10_solves_7 q l1 l2 l3 (bput mK h q S) = (gLX10_solves_7 l1 l2 l3 S).map (Sum.map (fun s : Int32 × MS => (s.1, bput mK h q s.2)) (bput mK h q)) := by
  unfold LX10_solves_7 gLX10_solves_7
  simp only [gx_bs, gx_ms, gx_mn, gx_bn, gx_bm, gx_mb, gx_ite, gx_exL, gx_b2, gx_b2m, gx_b2mm, gx_sl, gx_sr, gx_id, wLX10_solves_106, wLX10_solves_15, mK_al, mK_as, mK_ob]
theorem wLX10_solves_7 {h : jx_H} {q : Nat} {S : MS} {l1 : Int32} {l2 : Int32} {c0 : Int32} : itr (fun s : Int32 × jx_H => LX10_solves_7 q l1 l2 s.1 s.2) (c0, bput mK h q S) = (itr (fun s : Int32 × MS => gLX10_solves_7 l1 l2 s.1 s.2) (c0, S)).map (bput mK h q) :=
  itr_map (φ := (fun s : Int32 × MS => (s.1, bput mK h q s.2))) (ψ := (bput mK h q)) (fun s => eLX10_solves_7) (c0, S)

/-! FX10_solves -/
noncomputable def gFX10_solves (l1 : Int32) (h : MS) : Option (MS) :=
(gFX10_n h).bind fun x2 =>
itr (fun s : Int32 × MS => gLX10_solves_7 l1 x2 s.1 s.2) ((0 : Int32), h)
theorem eFX10_solves {h : jx_H} {q : Nat} {S : MS} {l1 : Int32} : FX10_solves q l1 (bput mK h q S) = (gFX10_solves l1 S).map (bput mK h q) := by
  unfold FX10_solves gFX10_solves
  simp only [gx_bs, gx_ms, gx_mn, gx_bn, gx_bm, gx_mb, gx_ite, gx_exL, gx_b2, gx_b2m, gx_b2mm, gx_sl, gx_sr, gx_id, eFX10_n, wLX10_solves_7, mK_al, mK_as, mK_ob]
/-! BX10_fits_71 -/
noncomputable def gBX10_fits_71 (l1 : Int32) (h : MS) : Option ((Int32 × MS) ⊕ (MS)) :=
some (.inl ((l1 + (1 : Int32)), h))
theorem eBX10_fits_71 {h : jx_H} {q : Nat} {S : MS} {l1 : Int32} : BX10_fits_71 q l1 (bput mK h q S) = (gBX10_fits_71 l1 S).map (Sum.map (fun s : Int32 × MS => (s.1, bput mK h q s.2)) (bput mK h q)) := by
  unfold BX10_fits_71 gBX10_fits_71
  simp only [gx_bs, gx_ms, gx_mn, gx_bn, gx_bm, gx_mb, gx_ite, gx_exL, gx_b2, gx_b2m, gx_b2mm, gx_sl, gx_sr, gx_id, mK_al, mK_as, mK_ob]
/-! LX10_fits_83 -/
noncomputable def gLX10_fits_83 (l1 : Int32) (h : MS) : Option ((Int32 × MS) ⊕ (MS)) :=
(gal mK h 1 (2 : Int32)).bind fun x6 =>
if x6 ≤ l1 then
 exL (some h)
else
 (gFX10_solves l1 h).bind fun h8 =>
 some (.inl ((l1 + (1 : Int32)), h8))
theorem eLX10_fits_83 {h : jx_H} {q : Nat} {S : MS} {l1 : Int32} : LX10_fits_83 q l1 (bput mK h q S) = (gLX10_fits_83 l1 S).map (Sum.map (fun s : Int32 × MS => (s.1, bput mK h q s.2)) (bput mK h q)) := by
  unfold LX10_fits_83 gLX10_fits_83
  simp only [gx_bs, gx_ms, gx_mn, gx_bn, gx_bm, gx_mb, gx_ite, gx_exL, gx_b2, gx_b2m, gx_b2mm, gx_sl, gx_sr, gx_id, eFX10_solves, mJ_1, mK_al, mK_al1, mK_as, mK_as1, mK_gr1, mK_ob]
theorem wLX10_fits_83 {h : jx_H} {q : Nat} {S : MS} {c0 : Int32} : itr (fun s : Int32 × jx_H => LX10_fits_83 q s.1 s.2) (c0, bput mK h q S) = (itr (fun s : Int32 × MS => gLX10_fits_83  s.1 s.2) (c0, S)).map (bput mK h q) :=
  itr_map (φ := (fun s : Int32 × MS => (s.1, bput mK h q s.2))) (ψ := (bput mK h q)) (fun s => eLX10_fits_83) (c0, S)

/-! BX10_fits_65 -/
noncomputable def gBX10_fits_65 (l1 : Int32) (l2 : Int32) (h : MS) : Option ((Int32 × MS) ⊕ ((Int32 × MS) ⊕ (MS))) :=
some (.inl ((l2 + (1 : Int32)), h))
theorem eBX10_fits_65 {h : jx_H} {q : Nat} {S : MS} {l1 : Int32} {l2 : Int32} : BX10_fits_65 q l1 l2 (bput mK h q S) = (gBX10_fits_65 l1 l2 S).map (Sum.map (fun s : Int32 × MS => (s.1, bput mK h q s.2)) (Sum.map (fun s : Int32 × MS => (s.1, bput mK h q s.2)) (bput mK h q))) := by
  unfold BX10_fits_65 gBX10_fits_65
  simp only [gx_bs, gx_ms, gx_mn, gx_bn, gx_bm, gx_mb, gx_ite, gx_exL, gx_b2, gx_b2m, gx_b2mm, gx_sl, gx_sr, gx_id, mK_al, mK_as, mK_ob]
/-! LX10_fits_17 -/
noncomputable def gLX10_fits_17 (l1 : Int32) (l2 : Int32) (h : MS) : Option ((Int32 × MS) ⊕ ((Int32 × MS) ⊕ (MS))) :=
if l1 < l2 then
 exL (gBX10_fits_71 l1 h)
else
 (gFX10_n h).bind fun x11 =>
 (gal mK h 1 (3 : Int32)).bind fun x13 =>
 if x13 ≤ x11 then
  exL (gBX10_fits_71 l1 h)
 else
  (gFX10_hasDivisors (l1 - l2) l2 h).bind fun x15 =>
  if x15 = 0 then
   gBX10_fits_65 l1 l2 h
  else
   bind2 (gFX10_isFresh (l1 - l2) l2 h) fun x17 h18 =>
   if x17 = 0 then
    gBX10_fits_65 l1 l2 h18
   else
    bind2 (gFX10_placed (l1 - l2) l2 h18) fun x20 h21 =>
    gBX10_fits_65 l1 l2 h21
theorem eLX10_fits_17 {h : jx_H} {q : Nat} {S : MS} {l1 : Int32} {l2 : Int32} : LX10_fits_17 q l1 l2 (bput mK h q S) = (gLX10_fits_17 l1 l2 S).map (Sum.map (fun s : Int32 × MS => (s.1, bput mK h q s.2)) (Sum.map (fun s : Int32 × MS => (s.1, bput mK h q s.2)) (bput mK h q))) := by
  unfold LX10_fits_17 gLX10_fits_17
  simp only [gx_bs, gx_ms, gx_mn, gx_bn, gx_bm, gx_mb, gx_ite, gx_exL, gx_b2, gx_b2m, gx_b2mm, gx_sl, gx_sr, gx_id, eBX10_fits_71, eFX10_n, eFX10_hasDivisors, eBX10_fits_65, eFX10_isFresh, eFX10_placed, mJ_1, mK_al, mK_al1, mK_as, mK_as1, mK_gr1, mK_ob]
theorem wLX10_fits_17 {h : jx_H} {q : Nat} {S : MS} {l1 : Int32} {c0 : Int32} : itr (fun s : Int32 × jx_H => LX10_fits_17 q l1 s.1 s.2) (c0, bput mK h q S) = (itr (fun s : Int32 × MS => gLX10_fits_17 l1 s.1 s.2) (c0, S)).map (Sum.map (fun s : Int32 × MS => (s.1, bput mK h q s.2)) (bput mK h q)) :=
  itr_map (φ := (fun s : Int32 × MS => (s.1, bput mK h q s.2))) (ψ := (Sum.map (fun s : Int32 × MS => (s.1, bput mK h q s.2)) (bput mK h q))) (fun s => eLX10_fits_17) (c0, S)

/-! LX10_fits_9 -/
noncomputable def gLX10_fits_9 (l1 : Int32) (h : MS) : Option ((Int32 × MS) ⊕ (MS)) :=
if (11 : Int32) < l1 then
 exL ((gFX10_laysBorder h).bind fun h4 =>
 itr (fun s : Int32 × MS => gLX10_fits_83 s.1 s.2) ((0 : Int32), h4))
else
 itr (fun s : Int32 × MS => gLX10_fits_17 l1 s.1 s.2) ((0 : Int32), h)
theorem eLX10_fits_9 {h : jx_H} {q : Nat} {S : MS} {l1 : Int32} : LX10_fits_9 q l1 (bput mK h q S) = (gLX10_fits_9 l1 S).map (Sum.map (fun s : Int32 × MS => (s.1, bput mK h q s.2)) (bput mK h q)) := by
  unfold LX10_fits_9 gLX10_fits_9
  simp only [gx_bs, gx_ms, gx_mn, gx_bn, gx_bm, gx_mb, gx_ite, gx_exL, gx_b2, gx_b2m, gx_b2mm, gx_sl, gx_sr, gx_id, eFX10_laysBorder, wLX10_fits_83, wLX10_fits_17, mK_al, mK_as, mK_ob]
theorem wLX10_fits_9 {h : jx_H} {q : Nat} {S : MS} {c0 : Int32} : itr (fun s : Int32 × jx_H => LX10_fits_9 q s.1 s.2) (c0, bput mK h q S) = (itr (fun s : Int32 × MS => gLX10_fits_9  s.1 s.2) (c0, S)).map (bput mK h q) :=
  itr_map (φ := (fun s : Int32 × MS => (s.1, bput mK h q s.2))) (ψ := (bput mK h q)) (fun s => eLX10_fits_9) (c0, S)

/-! FX10_fits -/
noncomputable def gFX10_fits (h : MS) : Option (MS) :=
(gas mK h 1 (1 : Int32) (0 : Int32)).bind fun h2 =>
itr (fun s : Int32 × MS => gLX10_fits_9 s.1 s.2) ((0 : Int32), h2)
theorem eFX10_fits {h : jx_H} {q : Nat} {S : MS} : FX10_fits q (bput mK h q S) = (gFX10_fits  S).map (bput mK h q) := by
  unfold FX10_fits gFX10_fits
  simp only [gx_bs, gx_ms, gx_mn, gx_bn, gx_bm, gx_mb, gx_ite, gx_exL, gx_b2, gx_b2m, gx_b2mm, gx_sl, gx_sr, gx_id, wLX10_fits_9, mJ_1, mK_al, mK_al1, mK_as, mK_as1, mK_gr1, mK_ob]
/-! BX10_fit_15 -/
noncomputable def gBX10_fit_15 (s1 : Int32) (h : MS) : Option (Int32 × MS) :=
(some (gpi h 0 s1)).bind fun h1 =>
(some (h1.1 0)).bind fun x2 =>
if x2 ≤ 0 then
 (gFX10_keeps (5 : Int32) h1).bind fun h4 =>
 (gFX10_fits h4).bind fun h6 =>
 (gFX10_n h6).bind fun x8 =>
 some (x8, h6)
else
 some ((0 : Int32), h1)
theorem eBX10_fit_15 {h : jx_H} {q : Nat} {S : MS} {s1 : Int32} : BX10_fit_15 q q s1 (bput mK h q S) = (gBX10_fit_15 s1 S).map (fun s : Int32 × MS => (s.1, bput mK h q s.2)) := by
  unfold BX10_fit_15 gBX10_fit_15
  simp only [gx_bs, gx_ms, gx_mn, gx_bn, gx_bm, gx_mb, gx_ite, gx_exL, gx_b2, gx_b2m, gx_b2mm, gx_sl, gx_sr, gx_id, eFX10_keeps, eFX10_fits, eFX10_n, mK_al, mK_as, mK_gi0, mK_ob, mK_pi0]
/-! FX10_fit -/
noncomputable def gFX10_fit (h : MS) : Option (Int32 × MS) :=
(gal mK h 1 (3 : Int32)).bind fun x11 =>
if x11 = 0 then
 gBX10_fit_15 (1 : Int32) h
else
 gBX10_fit_15 (0 : Int32) h
theorem eFX10_fit {h : jx_H} {q : Nat} {S : MS} : FX10_fit q (bput mK h q S) = (gFX10_fit  S).map (fun s : Int32 × MS => (s.1, bput mK h q s.2)) := by
  unfold FX10_fit gFX10_fit
  simp only [gx_bs, gx_ms, gx_mn, gx_bn, gx_bm, gx_mb, gx_ite, gx_exL, gx_b2, gx_b2m, gx_b2mm, gx_sl, gx_sr, gx_id, eBX10_fit_15, mJ_1, mK_al, mK_al1, mK_as, mK_as1, mK_gr1, mK_ob]
/-! BX10_hasSameMonomials_82 -/
noncomputable def gBX10_hasSameMonomials_82 (l2 : Int32) (s0 : Int32) (h : MS) : Option ((Int32 × Int32) ⊕ (Int32)) :=
some (.inl (s0, (l2 + (1 : Int32))))
theorem eBX10_hasSameMonomials_82 {h : jx_H} {q : Nat} {S : MS} {l2 : Int32} {s0 : Int32} : BX10_hasSameMonomials_82 q l2 s0 (bput mK h q S) = gBX10_hasSameMonomials_82 l2 s0 S := by
  unfold BX10_hasSameMonomials_82 gBX10_hasSameMonomials_82
  simp only [gx_bs, gx_ms, gx_mn, gx_bn, gx_bm, gx_mb, gx_ite, gx_exL, gx_b2, gx_b2m, gx_b2mm, gx_sl, gx_sr, gx_id, mK_al, mK_as, mK_ob]
/-! BX10_hasSameMonomials_81 -/
noncomputable def gBX10_hasSameMonomials_81 (l2 : Int32) (h : MS) : Option ((Int32 × Int32) ⊕ (Int32)) :=
gBX10_hasSameMonomials_82 l2 (0 : Int32) h
theorem eBX10_hasSameMonomials_81 {h : jx_H} {q : Nat} {S : MS} {l2 : Int32} : BX10_hasSameMonomials_81 q l2 (bput mK h q S) = gBX10_hasSameMonomials_81 l2 S := by
  unfold BX10_hasSameMonomials_81 gBX10_hasSameMonomials_81
  simp only [gx_bs, gx_ms, gx_mn, gx_bn, gx_bm, gx_mb, gx_ite, gx_exL, gx_b2, gx_b2m, gx_b2mm, gx_sl, gx_sr, gx_id, eBX10_hasSameMonomials_82, mK_al, mK_as, mK_ob]
/-! LX10_hasSameMonomials_23 -/
noncomputable def gLX10_hasSameMonomials_23 (l1 : Int32) (l2 : Int32) (h : MS) : Option ((Int32 × Int32) ⊕ (Int32)) :=
(gal mK h 1 (1 : Int32)).bind fun x2 =>
if x2 ≤ l2 then
 exL (if l1 = 0 ∨ l1 = 1 then some l1 else none)
else
 if l1 = 0 then
  gBX10_hasSameMonomials_81 l2 h
 else
  (gal mK h 1 ((4 : Int32) + l2)).bind fun x5 =>
  (gal mK h 2 ((4 : Int32) + l2)).bind fun x7 =>
  if x5 = x7 then
   (gal mK h 1 ((16 : Int32) + l2)).bind fun x9 =>
   (gal mK h 2 ((16 : Int32) + l2)).bind fun x11 =>
   if x9 = x11 then
    gBX10_hasSameMonomials_82 l2 (1 : Int32) h
   else
    gBX10_hasSameMonomials_81 l2 h
  else
   gBX10_hasSameMonomials_81 l2 h
theorem eLX10_hasSameMonomials_23 {h : jx_H} {q : Nat} {S : MS} {l1 : Int32} {l2 : Int32} : LX10_hasSameMonomials_23 q l1 l2 (bput mK h q S) = gLX10_hasSameMonomials_23 l1 l2 S := by
  unfold LX10_hasSameMonomials_23 gLX10_hasSameMonomials_23
  simp only [gx_bs, gx_ms, gx_mn, gx_bn, gx_bm, gx_mb, gx_ite, gx_exL, gx_b2, gx_b2m, gx_b2mm, gx_sl, gx_sr, gx_id, eBX10_hasSameMonomials_81, eBX10_hasSameMonomials_82, mJ_1, mJ_2, mK_al, mK_al1, mK_al2, mK_as, mK_as1, mK_as2, mK_gr1, mK_gr2, mK_ob]
/-! BX10_hasSameMonomials_20 -/
noncomputable def gBX10_hasSameMonomials_20 (s0 : Int32) (h : MS) : Option (Int32) :=
itr (fun s : Int32 × Int32 => gLX10_hasSameMonomials_23 s.1 s.2 h) (s0, (0 : Int32))
theorem eBX10_hasSameMonomials_20 {h : jx_H} {q : Nat} {S : MS} {s0 : Int32} : BX10_hasSameMonomials_20 q s0 (bput mK h q S) = gBX10_hasSameMonomials_20 s0 S := by
  unfold BX10_hasSameMonomials_20 gBX10_hasSameMonomials_20
  simp only [gx_bs, gx_ms, gx_mn, gx_bn, gx_bm, gx_mb, gx_ite, gx_exL, gx_b2, gx_b2m, gx_b2mm, gx_sl, gx_sr, gx_id, eLX10_hasSameMonomials_23, mK_al, mK_as, mK_ob]
/-! FX10_hasSameMonomials -/
noncomputable def gFX10_hasSameMonomials (h : MS) : Option (Int32) :=
(gal mK h 1 (1 : Int32)).bind fun x17 =>
(gal mK h 2 (1 : Int32)).bind fun x19 =>
if x17 = x19 then
 gBX10_hasSameMonomials_20 (1 : Int32) h
else
 gBX10_hasSameMonomials_20 (0 : Int32) h
theorem eFX10_hasSameMonomials {h : jx_H} {q : Nat} {S : MS} : FX10_hasSameMonomials q (bput mK h q S) = gFX10_hasSameMonomials  S := by
  unfold FX10_hasSameMonomials gFX10_hasSameMonomials
  simp only [gx_bs, gx_ms, gx_mn, gx_bn, gx_bm, gx_mb, gx_ite, gx_exL, gx_b2, gx_b2m, gx_b2mm, gx_sl, gx_sr, gx_id, eBX10_hasSameMonomials_20, mJ_1, mJ_2, mK_al, mK_al1, mK_al2, mK_as, mK_as1, mK_as2, mK_gr1, mK_gr2, mK_ob]
/-! BX10_misfits_136 -/
noncomputable def gBX10_misfits_136 (l1 : Int32) (h : MS) : Option (Int32 × MS) :=
(gFX10_copies 2 (0 : Int32) 1 (0 : Int32) h).bind fun h3 =>
some (l1, h3)
theorem eBX10_misfits_136 {h : jx_H} {q : Nat} {S : MS} {l1 : Int32} : BX10_misfits_136 q l1 (bput mK h q S) = (gBX10_misfits_136 l1 S).map (fun s : Int32 × MS => (s.1, bput mK h q s.2)) := by
  unfold BX10_misfits_136 gBX10_misfits_136
  simp only [gx_bs, gx_ms, gx_mn, gx_bn, gx_bm, gx_mb, gx_ite, gx_exL, gx_b2, gx_b2m, gx_b2mm, gx_sl, gx_sr, gx_id, eFX10_copies, mJ_1, mJ_2, mK_al, mK_al1, mK_al2, mK_as, mK_as1, mK_as2, mK_gr1, mK_gr2, mK_ob]
/-! BX10_misfits_128 -/
noncomputable def gBX10_misfits_128 (l2 : Int32) (s0 : Int32) (s1 : Int32) (h : MS) : Option ((Int32 × Int32) ⊕ (Int32 × MS)) :=
some (.inl ((s0 + s1), (l2 + (1 : Int32))))
theorem eBX10_misfits_128 {h : jx_H} {q : Nat} {S : MS} {l2 : Int32} {s0 : Int32} {s1 : Int32} : BX10_misfits_128 q l2 s0 s1 (bput mK h q S) = (gBX10_misfits_128 l2 s0 s1 S).map (Sum.map id (fun s : Int32 × MS => (s.1, bput mK h q s.2))) := by
  unfold BX10_misfits_128 gBX10_misfits_128
  simp only [gx_bs, gx_ms, gx_mn, gx_bn, gx_bm, gx_mb, gx_ite, gx_exL, gx_b2, gx_b2m, gx_b2mm, gx_sl, gx_sr, gx_id, mK_al, mK_as, mK_ob]
/-! BX10_misfits_111 -/
noncomputable def gBX10_misfits_111 (l1 : Int32) (l2 : Int32) (l4 : Int32) (s0 : Int32) (h : MS) : Option ((Int32 × Int32) ⊕ ((Int32 × Int32) ⊕ (Int32 × MS))) :=
some (.inl (s0, (l4 + (1 : Int32))))
theorem eBX10_misfits_111 {h : jx_H} {q : Nat} {S : MS} {l1 : Int32} {l2 : Int32} {l4 : Int32} {s0 : Int32} : BX10_misfits_111 q l1 l2 l4 s0 (bput mK h q S) = (gBX10_misfits_111 l1 l2 l4 s0 S).map (Sum.map id (Sum.map id (fun s : Int32 × MS => (s.1, bput mK h q s.2)))) := by
  unfold BX10_misfits_111 gBX10_misfits_111
  simp only [gx_bs, gx_ms, gx_mn, gx_bn, gx_bm, gx_mb, gx_ite, gx_exL, gx_b2, gx_b2m, gx_b2mm, gx_sl, gx_sr, gx_id, mK_al, mK_as, mK_ob]
/-! BX10_misfits_110 -/
noncomputable def gBX10_misfits_110 (l1 : Int32) (l2 : Int32) (l4 : Int32) (h : MS) : Option ((Int32 × Int32) ⊕ ((Int32 × Int32) ⊕ (Int32 × MS))) :=
gBX10_misfits_111 l1 l2 l4 (0 : Int32) h
theorem eBX10_misfits_110 {h : jx_H} {q : Nat} {S : MS} {l1 : Int32} {l2 : Int32} {l4 : Int32} : BX10_misfits_110 q l1 l2 l4 (bput mK h q S) = (gBX10_misfits_110 l1 l2 l4 S).map (Sum.map id (Sum.map id (fun s : Int32 × MS => (s.1, bput mK h q s.2)))) := by
  unfold BX10_misfits_110 gBX10_misfits_110
  simp only [gx_bs, gx_ms, gx_mn, gx_bn, gx_bm, gx_mb, gx_ite, gx_exL, gx_b2, gx_b2m, gx_b2mm, gx_sl, gx_sr, gx_id, eBX10_misfits_111, mK_al, mK_as, mK_ob]
/-! LX10_misfits_68 -/
noncomputable def gLX10_misfits_68 (l1 : Int32) (l2 : Int32) (l3 : Int32) (l4 : Int32) (h : MS) : Option ((Int32 × Int32) ⊕ ((Int32 × Int32) ⊕ (Int32 × MS))) :=
(gFX10_n h).bind fun x7 =>
if x7 ≤ l4 then
 exL (if l3 = 0 then
  gBX10_misfits_128 l2 l1 (1 : Int32) h
 else
  gBX10_misfits_128 l2 l1 (0 : Int32) h)
else
 if l3 = 0 then
  gBX10_misfits_110 l1 l2 l4 h
 else
  (gFX10_ruleAt l2 l4 h).bind fun x10 =>
  (gal mK h 1 x10).bind fun x11 =>
  (gFX10_ruleAt l2 l4 h).bind fun x13 =>
  (gal mK h 2 x13).bind fun x14 =>
  if x11 = x14 then
   gBX10_misfits_111 l1 l2 l4 (1 : Int32) h
  else
   gBX10_misfits_110 l1 l2 l4 h
theorem eLX10_misfits_68 {h : jx_H} {q : Nat} {S : MS} {l1 : Int32} {l2 : Int32} {l3 : Int32} {l4 : Int32} : LX10_misfits_68 q l1 l2 l3 l4 (bput mK h q S) = (gLX10_misfits_68 l1 l2 l3 l4 S).map (Sum.map id (Sum.map id (fun s : Int32 × MS => (s.1, bput mK h q s.2)))) := by
  unfold LX10_misfits_68 gLX10_misfits_68
  simp only [gx_bs, gx_ms, gx_mn, gx_bn, gx_bm, gx_mb, gx_ite, gx_exL, gx_b2, gx_b2m, gx_b2mm, gx_sl, gx_sr, gx_id, eFX10_n, eBX10_misfits_128, eBX10_misfits_110, eFX10_ruleAt, eBX10_misfits_111, mJ_1, mJ_2, mK_al, mK_al1, mK_al2, mK_as, mK_as1, mK_as2, mK_gr1, mK_gr2, mK_ob]
theorem wLX10_misfits_68 {h : jx_H} {q : Nat} {S : MS} {l1 : Int32} {l2 : Int32} {c0 : Int32} {c1 : Int32} : itr (fun s : Int32 × Int32 => LX10_misfits_68 q l1 l2 s.1 s.2 (bput mK h q S)) (c0, c1) = (itr (fun s : Int32 × Int32 => gLX10_misfits_68 l1 l2 s.1 s.2 S) (c0, c1)).map (Sum.map id (fun s : Int32 × MS => (s.1, bput mK h q s.2))) :=
  itr_map (φ := id) (ψ := (Sum.map id (fun s : Int32 × MS => (s.1, bput mK h q s.2)))) (fun s => eLX10_misfits_68) (c0, c1)

/-! LX10_misfits_48 -/
noncomputable def gLX10_misfits_48 (l1 : Int32) (l2 : Int32) (h : MS) : Option ((Int32 × Int32) ⊕ (Int32 × MS)) :=
(gal mK h 1 (2 : Int32)).bind fun x5 =>
if x5 ≤ l2 then
 exL (gBX10_misfits_136 l1 h)
else
 if l1 = (-1 : Int32) then
  exL (gBX10_misfits_136 l1 h)
 else
  itr (fun s : Int32 × Int32 => gLX10_misfits_68 l1 l2 s.1 s.2 h) ((1 : Int32), (0 : Int32))
theorem eLX10_misfits_48 {h : jx_H} {q : Nat} {S : MS} {l1 : Int32} {l2 : Int32} : LX10_misfits_48 q l1 l2 (bput mK h q S) = (gLX10_misfits_48 l1 l2 S).map (Sum.map id (fun s : Int32 × MS => (s.1, bput mK h q s.2))) := by
  unfold LX10_misfits_48 gLX10_misfits_48
  simp only [gx_bs, gx_ms, gx_mn, gx_bn, gx_bm, gx_mb, gx_ite, gx_exL, gx_b2, gx_b2m, gx_b2mm, gx_sl, gx_sr, gx_id, eBX10_misfits_136, wLX10_misfits_68, mJ_1, mK_al, mK_al1, mK_as, mK_as1, mK_gr1, mK_ob]
theorem wLX10_misfits_48 {h : jx_H} {q : Nat} {S : MS} {c0 : Int32} {c1 : Int32} : itr (fun s : Int32 × Int32 => LX10_misfits_48 q s.1 s.2 (bput mK h q S)) (c0, c1) = (itr (fun s : Int32 × Int32 => gLX10_misfits_48  s.1 s.2 S) (c0, c1)).map (fun s : Int32 × MS => (s.1, bput mK h q s.2)) :=
  itr_map (φ := id) (ψ := (fun s : Int32 × MS => (s.1, bput mK h q s.2))) (fun s => eLX10_misfits_48) (c0, c1)

/-! BX10_misfits_45 -/
noncomputable def gBX10_misfits_45 (s0 : Int32) (h : MS) : Option (Int32 × MS) :=
itr (fun s : Int32 × Int32 => gLX10_misfits_48 s.1 s.2 h) (s0, (0 : Int32))
theorem eBX10_misfits_45 {h : jx_H} {q : Nat} {S : MS} {s0 : Int32} : BX10_misfits_45 q s0 (bput mK h q S) = (gBX10_misfits_45 s0 S).map (fun s : Int32 × MS => (s.1, bput mK h q s.2)) := by
  unfold BX10_misfits_45 gBX10_misfits_45
  simp only [gx_bs, gx_ms, gx_mn, gx_bn, gx_bm, gx_mb, gx_ite, gx_exL, gx_b2, gx_b2m, gx_b2mm, gx_sl, gx_sr, gx_id, wLX10_misfits_48, mK_al, mK_as, mK_ob]
/-! FX10_misfits -/
noncomputable def gFX10_misfits (h : MS) : Option (Int32 × MS) :=
(some (gpi h 0 (0 : Int32))).bind fun h20 =>
(gal mK h20 1 (3 : Int32)).bind fun x22 =>
if x22 = 0 then
 some ((-1 : Int32), h20)
else
 (gFX10_copies 1 (0 : Int32) 2 (0 : Int32) h20).bind fun h25 =>
 (gFX10_fits h25).bind fun h27 =>
 (gFX10_hasSameMonomials h27).bind fun x29 =>
 if x29 = 0 then
  gBX10_misfits_45 (-1 : Int32) h27
 else
  gBX10_misfits_45 (0 : Int32) h27
theorem eFX10_misfits {h : jx_H} {q : Nat} {S : MS} : FX10_misfits q (bput mK h q S) = (gFX10_misfits  S).map (fun s : Int32 × MS => (s.1, bput mK h q s.2)) := by
  unfold FX10_misfits gFX10_misfits
  simp only [gx_bs, gx_ms, gx_mn, gx_bn, gx_bm, gx_mb, gx_ite, gx_exL, gx_b2, gx_b2m, gx_b2mm, gx_sl, gx_sr, gx_id, eFX10_copies, eFX10_fits, eFX10_hasSameMonomials, eBX10_misfits_45, mJ_1, mJ_2, mK_al, mK_al1, mK_al2, mK_as, mK_as1, mK_as2, mK_gr1, mK_gr2, mK_ob, mK_pi0]
/-! FX10_undo -/
noncomputable def gFX10_undo (h : MS) : Option (Int32 × MS) :=
(some (gpi h 0 (0 : Int32))).bind fun h1 =>
(some (h1.1 5)).bind fun x2 =>
if x2 = 0 then
 some ((-1 : Int32), h1)
else
 (some (h1.1 5)).bind fun x3 =>
 (some (gpi h1 5 (x3 - (1 : Int32)))).bind fun h4 =>
 (some (h4.1 5)).bind fun x6 =>
 (gFX10_copies 4 ((248 : Int32) * x6) 1 (0 : Int32) h4).bind fun h8 =>
 (some (h8.1 5)).bind fun x9 =>
 some (x9, h8)
theorem eFX10_undo {h : jx_H} {q : Nat} {S : MS} : FX10_undo q (bput mK h q S) = (gFX10_undo  S).map (fun s : Int32 × MS => (s.1, bput mK h q s.2)) := by
  unfold FX10_undo gFX10_undo
  simp only [gx_bs, gx_ms, gx_mn, gx_bn, gx_bm, gx_mb, gx_ite, gx_exL, gx_b2, gx_b2m, gx_b2mm, gx_sl, gx_sr, gx_id, eFX10_copies, mJ_1, mJ_4, mK_al, mK_al1, mK_al4, mK_as, mK_as1, mK_as4, mK_gi5, mK_gr1, mK_gr4, mK_ob, mK_pi0, mK_pi5]
/-! BX10_save_15 -/
noncomputable def gBX10_save_15 (l1 : Int32) (s1 : Int32) (h : MS) : Option (MS) :=
(some (gpi h 0 s1)).bind fun h1 =>
(some (h1.1 0)).bind fun x2 =>
if x2 ≤ 0 then
 (gFX10_copies 1 (0 : Int32) 5 ((248 : Int32) * l1) h1).bind fun h5 =>
 (gas mK h5 6 l1 (vp_nar .boolean (1 : Int32))).bind fun h7 =>
 some h7
else
 some h1
theorem eBX10_save_15 {h : jx_H} {q : Nat} {S : MS} {l1 : Int32} {s1 : Int32} : BX10_save_15 q l1 q s1 (bput mK h q S) = (gBX10_save_15 l1 s1 S).map (bput mK h q) := by
  unfold BX10_save_15 gBX10_save_15
  simp only [gx_bs, gx_ms, gx_mn, gx_bn, gx_bm, gx_mb, gx_ite, gx_exL, gx_b2, gx_b2m, gx_b2mm, gx_sl, gx_sr, gx_id, eFX10_copies, mJ_1, mJ_5, mK_al, mK_al1, mK_al5, mK_al6, mK_as, mK_as1, mK_as5, mK_as6, mK_gi0, mK_gr1, mK_gr6, mK_gr7, mK_ob, mK_pi0]
/-! FX10_save -/
noncomputable def gFX10_save (l1 : Int32) (h : MS) : Option (MS) :=
(gFX10_in l1 (0 : Int32) (1 : Int32) h).bind fun x9 =>
if x9 = 0 then
 gBX10_save_15 l1 (1 : Int32) h
else
 gBX10_save_15 l1 (0 : Int32) h
theorem eFX10_save {h : jx_H} {q : Nat} {S : MS} {l1 : Int32} : FX10_save q l1 (bput mK h q S) = (gFX10_save l1 S).map (bput mK h q) := by
  unfold FX10_save gFX10_save
  simp only [gx_bs, gx_ms, gx_mn, gx_bn, gx_bm, gx_mb, gx_ite, gx_exL, gx_b2, gx_b2m, gx_b2mm, gx_sl, gx_sr, gx_id, eFX10_in, eBX10_save_15, mK_al, mK_as, mK_ob]
/-! BX10_restore_28 -/
noncomputable def gBX10_restore_28 (l1 : Int32) (s1 : Int32) (h : MS) : Option (MS) :=
(some (gpi h 0 s1)).bind fun h1 =>
(some (h1.1 0)).bind fun x2 =>
if x2 ≤ 0 then
 (gFX10_copies 5 ((248 : Int32) * l1) 1 (0 : Int32) h1).bind fun h5 =>
 (some (gpi h5 5 (0 : Int32))).bind fun h6 =>
 some h6
else
 some h1
theorem eBX10_restore_28 {h : jx_H} {q : Nat} {S : MS} {l1 : Int32} {s1 : Int32} : BX10_restore_28 q l1 q s1 (bput mK h q S) = (gBX10_restore_28 l1 s1 S).map (bput mK h q) := by
  unfold BX10_restore_28 gBX10_restore_28
  simp only [gx_bs, gx_ms, gx_mn, gx_bn, gx_bm, gx_mb, gx_ite, gx_exL, gx_b2, gx_b2m, gx_b2mm, gx_sl, gx_sr, gx_id, eFX10_copies, mJ_1, mJ_5, mK_al, mK_al1, mK_al5, mK_as, mK_as1, mK_as5, mK_gi0, mK_gr1, mK_gr6, mK_ob, mK_pi0, mK_pi5]
/-! FX10_restore -/
noncomputable def gFX10_restore (l1 : Int32) (h : MS) : Option (MS) :=
(gFX10_in l1 (0 : Int32) (1 : Int32) h).bind fun x8 =>
if x8 = 0 then
 gBX10_restore_28 l1 (1 : Int32) h
else
 (gal mK h 6 l1).bind fun x10 =>
 if x10 = 0 then
  gBX10_restore_28 l1 (2 : Int32) h
 else
  gBX10_restore_28 l1 (0 : Int32) h
theorem eFX10_restore {h : jx_H} {q : Nat} {S : MS} {l1 : Int32} : FX10_restore q l1 (bput mK h q S) = (gFX10_restore l1 S).map (bput mK h q) := by
  unfold FX10_restore gFX10_restore
  simp only [gx_bs, gx_ms, gx_mn, gx_bn, gx_bm, gx_mb, gx_ite, gx_exL, gx_b2, gx_b2m, gx_b2mm, gx_sl, gx_sr, gx_id, eFX10_in, eBX10_restore_28, mK_al, mK_al6, mK_as, mK_as6, mK_gr7, mK_ob]
