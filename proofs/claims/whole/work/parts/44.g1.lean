/-! BX10_borderAt_40 -/
noncomputable def gBX10_borderAt_40 (l1 : Int32) (l2 : Int32) (l3 : Int32) (h : MS) : Option ((Int32) ⊕ (Int32)) :=
some (.inl (l3 + (1 : Int32)))
theorem eBX10_borderAt_40 {h : jx_H} {q : Nat} {S : MS} {l1 : Int32} {l2 : Int32} {l3 : Int32} : BX10_borderAt_40 q l1 l2 l3 (bput mK h q S) = gBX10_borderAt_40 l1 l2 l3 S := by
  unfold BX10_borderAt_40 gBX10_borderAt_40
  simp only [gx_bs, gx_ms, gx_mn, gx_bn, gx_bm, gx_mb, gx_ite, gx_exL, gx_b2, gx_b2m, gx_b2mm, gx_sl, gx_sr, gx_id, mK_al, mK_as, mK_ob]
/-! LX10_borderAt_2 -/
noncomputable def gLX10_borderAt_2 (l1 : Int32) (l2 : Int32) (l3 : Int32) (h : MS) : Option ((Int32) ⊕ (Int32)) :=
(gal mK h 1 (2 : Int32)).bind fun x2 =>
if x2 ≤ l3 then
 exL (some (-1 : Int32))
else
 (gal mK h 1 ((28 : Int32) + l3)).bind fun x4 =>
 if x4 = l1 then
  (gal mK h 1 ((42 : Int32) + l3)).bind fun x6 =>
  if x6 = l2 then
   exL (some l3)
  else
   gBX10_borderAt_40 l1 l2 l3 h
 else
  gBX10_borderAt_40 l1 l2 l3 h
theorem eLX10_borderAt_2 {h : jx_H} {q : Nat} {S : MS} {l1 : Int32} {l2 : Int32} {l3 : Int32} : LX10_borderAt_2 q l1 l2 l3 (bput mK h q S) = gLX10_borderAt_2 l1 l2 l3 S := by
  unfold LX10_borderAt_2 gLX10_borderAt_2
  simp only [gx_bs, gx_ms, gx_mn, gx_bn, gx_bm, gx_mb, gx_ite, gx_exL, gx_b2, gx_b2m, gx_b2mm, gx_sl, gx_sr, gx_id, eBX10_borderAt_40, mJ_1, mK_al, mK_al1, mK_as, mK_as1, mK_gr1, mK_ob]
/-! FX10_borderAt -/
noncomputable def gFX10_borderAt (l1 : Int32) (l2 : Int32) (h : MS) : Option (Int32) :=
itr (fun s : Int32 => gLX10_borderAt_2 l1 l2 s h) (0 : Int32)
theorem eFX10_borderAt {h : jx_H} {q : Nat} {S : MS} {l1 : Int32} {l2 : Int32} : FX10_borderAt q l1 l2 (bput mK h q S) = gFX10_borderAt l1 l2 S := by
  unfold FX10_borderAt gFX10_borderAt
  simp only [gx_bs, gx_ms, gx_mn, gx_bn, gx_bm, gx_mb, gx_ite, gx_exL, gx_b2, gx_b2m, gx_b2mm, gx_sl, gx_sr, gx_id, eLX10_borderAt_2, mK_al, mK_as, mK_ob]
/-! FX10_n -/
noncomputable def gFX10_n (h : MS) : Option (Int32) :=
(gal mK h 1 (1 : Int32)).bind fun x2 =>
some x2
theorem eFX10_n {h : jx_H} {q : Nat} {S : MS} : FX10_n q (bput mK h q S) = gFX10_n  S := by
  unfold FX10_n gFX10_n
  simp only [gx_bs, gx_ms, gx_mn, gx_bn, gx_bm, gx_mb, gx_ite, gx_exL, gx_b2, gx_b2m, gx_b2mm, gx_sl, gx_sr, gx_id, mJ_1, mK_al, mK_al1, mK_as, mK_as1, mK_gr1, mK_ob]
/-! BX10_monomialAt_37 -/
noncomputable def gBX10_monomialAt_37 (l1 : Int32) (l2 : Int32) (l3 : Int32) (h : MS) : Option ((Int32) ⊕ (Int32)) :=
some (.inl (l3 + (1 : Int32)))
theorem eBX10_monomialAt_37 {h : jx_H} {q : Nat} {S : MS} {l1 : Int32} {l2 : Int32} {l3 : Int32} : BX10_monomialAt_37 q l1 l2 l3 (bput mK h q S) = gBX10_monomialAt_37 l1 l2 l3 S := by
  unfold BX10_monomialAt_37 gBX10_monomialAt_37
  simp only [gx_bs, gx_ms, gx_mn, gx_bn, gx_bm, gx_mb, gx_ite, gx_exL, gx_b2, gx_b2m, gx_b2mm, gx_sl, gx_sr, gx_id, mK_al, mK_as, mK_ob]
/-! LX10_monomialAt_2 -/
noncomputable def gLX10_monomialAt_2 (l1 : Int32) (l2 : Int32) (l3 : Int32) (h : MS) : Option ((Int32) ⊕ (Int32)) :=
(gFX10_n h).bind fun x2 =>
if x2 ≤ l3 then
 exL (some (-1 : Int32))
else
 (gal mK h 1 ((4 : Int32) + l3)).bind fun x4 =>
 if x4 = l1 then
  (gal mK h 1 ((16 : Int32) + l3)).bind fun x6 =>
  if x6 = l2 then
   exL (some l3)
  else
   gBX10_monomialAt_37 l1 l2 l3 h
 else
  gBX10_monomialAt_37 l1 l2 l3 h
theorem eLX10_monomialAt_2 {h : jx_H} {q : Nat} {S : MS} {l1 : Int32} {l2 : Int32} {l3 : Int32} : LX10_monomialAt_2 q l1 l2 l3 (bput mK h q S) = gLX10_monomialAt_2 l1 l2 l3 S := by
  unfold LX10_monomialAt_2 gLX10_monomialAt_2
  simp only [gx_bs, gx_ms, gx_mn, gx_bn, gx_bm, gx_mb, gx_ite, gx_exL, gx_b2, gx_b2m, gx_b2mm, gx_sl, gx_sr, gx_id, eFX10_n, eBX10_monomialAt_37, mJ_1, mK_al, mK_al1, mK_as, mK_as1, mK_gr1, mK_ob]
/-! FX10_monomialAt -/
noncomputable def gFX10_monomialAt (l1 : Int32) (l2 : Int32) (h : MS) : Option (Int32) :=
itr (fun s : Int32 => gLX10_monomialAt_2 l1 l2 s h) (0 : Int32)
theorem eFX10_monomialAt {h : jx_H} {q : Nat} {S : MS} {l1 : Int32} {l2 : Int32} : FX10_monomialAt q l1 l2 (bput mK h q S) = gFX10_monomialAt l1 l2 S := by
  unfold FX10_monomialAt gFX10_monomialAt
  simp only [gx_bs, gx_ms, gx_mn, gx_bn, gx_bm, gx_mb, gx_ite, gx_exL, gx_b2, gx_b2m, gx_b2mm, gx_sl, gx_sr, gx_id, eLX10_monomialAt_2, mK_al, mK_as, mK_ob]
/-! FX10_hasIt -/
noncomputable def gFX10_hasIt (l1 : Int32) (l2 : Int32) (h : MS) : Option (Int32) :=
(gFX10_monomialAt l1 l2 h).bind fun x2 =>
if x2 = (-1 : Int32) then
 some (0 : Int32)
else
 some (1 : Int32)
theorem eFX10_hasIt {h : jx_H} {q : Nat} {S : MS} {l1 : Int32} {l2 : Int32} : FX10_hasIt q l1 l2 (bput mK h q S) = gFX10_hasIt l1 l2 S := by
  unfold FX10_hasIt gFX10_hasIt
  simp only [gx_bs, gx_ms, gx_mn, gx_bn, gx_bm, gx_mb, gx_ite, gx_exL, gx_b2, gx_b2m, gx_b2mm, gx_sl, gx_sr, gx_id, eFX10_monomialAt, mK_al, mK_as, mK_ob]
/-! FX10_isAhead -/
noncomputable def gFX10_isAhead (l0 : Int32) (l1 : Int32) (l2 : Int32) (l3 : Int32) (h : MS) : Option (Int32) :=
if (l0 + l1) = (l2 + l3) then
 if l3 ≤ l1 then
  some (0 : Int32)
 else
  some (1 : Int32)
else
 if (l2 + l3) ≤ (l0 + l1) then
  some (0 : Int32)
 else
  some (1 : Int32)
theorem eFX10_isAhead {h : jx_H} {q : Nat} {S : MS} {l0 : Int32} {l1 : Int32} {l2 : Int32} {l3 : Int32} : FX10_isAhead l0 l1 l2 l3 (bput mK h q S) = gFX10_isAhead l0 l1 l2 l3 S := by
  unfold FX10_isAhead gFX10_isAhead
  simp only [gx_bs, gx_ms, gx_mn, gx_bn, gx_bm, gx_mb, gx_ite, gx_exL, gx_b2, gx_b2m, gx_b2mm, gx_sl, gx_sr, gx_id, mK_al, mK_as, mK_ob]
/-! BX10_addsBorder_107 -/
noncomputable def gBX10_addsBorder_107 (l1 : Int32) (l2 : Int32) (l3 : Int32) (h : MS) : Option (MS) :=
(gas mK h 1 ((28 : Int32) + l3) l1).bind fun h2 =>
(gas mK h2 1 ((42 : Int32) + l3) l2).bind fun h4 =>
(gal mK h4 1 (2 : Int32)).bind fun x6 =>
(gas mK h4 1 (2 : Int32) (x6 + (1 : Int32))).bind fun h7 =>
some h7
theorem eBX10_addsBorder_107 {h : jx_H} {q : Nat} {S : MS} {l1 : Int32} {l2 : Int32} {l3 : Int32} : BX10_addsBorder_107 q l1 l2 l3 (bput mK h q S) = (gBX10_addsBorder_107 l1 l2 l3 S).map (bput mK h q) := by
  unfold BX10_addsBorder_107 gBX10_addsBorder_107
  simp only [gx_bs, gx_ms, gx_mn, gx_bn, gx_bm, gx_mb, gx_ite, gx_exL, gx_b2, gx_b2m, gx_b2mm, gx_sl, gx_sr, gx_id, mJ_1, mK_al, mK_al1, mK_as, mK_as1, mK_gr1, mK_ob]
/-! LX10_addsBorder_27 -/
noncomputable def gLX10_addsBorder_27 (l1 : Int32) (l2 : Int32) (l3 : Int32) (h : MS) : Option ((Int32 × MS) ⊕ (MS)) :=
if l3 ≤ 0 then
 exL (gBX10_addsBorder_107 l1 l2 l3 h)
else
 (gal mK h 1 (((28 : Int32) + l3) - (1 : Int32))).bind fun x15 =>
 (gal mK h 1 (((42 : Int32) + l3) - (1 : Int32))).bind fun x17 =>
 (gFX10_isAhead l1 l2 x15 x17 h).bind fun x18 =>
 if x18 = 0 then
  exL (gBX10_addsBorder_107 l1 l2 l3 h)
 else
  (gal mK h 1 (((28 : Int32) + l3) - (1 : Int32))).bind fun x21 =>
  (gas mK h 1 ((28 : Int32) + l3) x21).bind fun h22 =>
  (gal mK h22 1 (((42 : Int32) + l3) - (1 : Int32))).bind fun x25 =>
  (gas mK h22 1 ((42 : Int32) + l3) x25).bind fun h26 =>
  some (.inl ((l3 + (-1 : Int32)), h26))
theorem eLX10_addsBorder_27 {h : jx_H} {q : Nat} {S : MS} {l1 : Int32} {l2 : Int32} {l3 : Int32} : LX10_addsBorder_27 q l1 l2 l3 (bput mK h q S) = (gLX10_addsBorder_27 l1 l2 l3 S).map (Sum.map (fun s : Int32 × MS => (s.1, bput mK h q s.2)) (bput mK h q)) := by
  unfold LX10_addsBorder_27 gLX10_addsBorder_27
  simp only [gx_bs, gx_ms, gx_mn, gx_bn, gx_bm, gx_mb, gx_ite, gx_exL, gx_b2, gx_b2m, gx_b2mm, gx_sl, gx_sr, gx_id, eBX10_addsBorder_107, eFX10_isAhead, mJ_1, mK_al, mK_al1, mK_as, mK_as1, mK_gr1, mK_ob]
theorem wLX10_addsBorder_27 {h : jx_H} {q : Nat} {S : MS} {l1 : Int32} {l2 : Int32} {c0 : Int32} : itr (fun s : Int32 × jx_H => LX10_addsBorder_27 q l1 l2 s.1 s.2) (c0, bput mK h q S) = (itr (fun s : Int32 × MS => gLX10_addsBorder_27 l1 l2 s.1 s.2) (c0, S)).map (bput mK h q) :=
  itr_map (φ := (fun s : Int32 × MS => (s.1, bput mK h q s.2))) (ψ := (bput mK h q)) (fun s => eLX10_addsBorder_27) (c0, S)

/-! FX10_addsBorder -/
noncomputable def gFX10_addsBorder (l1 : Int32) (l2 : Int32) (h : MS) : Option (MS) :=
(gFX10_hasIt l1 l2 h).bind fun x9 =>
if x9 = 0 then
 (gFX10_borderAt l1 l2 h).bind fun x11 =>
 if x11 = (-1 : Int32) then
  (gal mK h 1 (2 : Int32)).bind fun x13 =>
  itr (fun s : Int32 × MS => gLX10_addsBorder_27 l1 l2 s.1 s.2) (x13, h)
 else
  some h
else
 some h
theorem eFX10_addsBorder {h : jx_H} {q : Nat} {S : MS} {l1 : Int32} {l2 : Int32} : FX10_addsBorder q l1 l2 (bput mK h q S) = (gFX10_addsBorder l1 l2 S).map (bput mK h q) := by
  unfold FX10_addsBorder gFX10_addsBorder
  simp only [gx_bs, gx_ms, gx_mn, gx_bn, gx_bm, gx_mb, gx_ite, gx_exL, gx_b2, gx_b2m, gx_b2mm, gx_sl, gx_sr, gx_id, eFX10_hasIt, eFX10_borderAt, wLX10_addsBorder_27, mJ_1, mK_al, mK_al1, mK_as, mK_as1, mK_gr1, mK_ob]
/-! LX10_laysBorder_71 -/
noncomputable def gLX10_laysBorder_71 (l1 : Int32) (h : MS) : Option ((Int32 × MS) ⊕ (MS)) :=
if (168 : Int32) ≤ l1 then
 exL (some h)
else
 (gas mK h 1 ((56 : Int32) + l1) (0 : Int32)).bind fun h6 =>
 some (.inl ((l1 + (1 : Int32)), h6))
theorem eLX10_laysBorder_71 {h : jx_H} {q : Nat} {S : MS} {l1 : Int32} : LX10_laysBorder_71 q l1 (bput mK h q S) = (gLX10_laysBorder_71 l1 S).map (Sum.map (fun s : Int32 × MS => (s.1, bput mK h q s.2)) (bput mK h q)) := by
  unfold LX10_laysBorder_71 gLX10_laysBorder_71
  simp only [gx_bs, gx_ms, gx_mn, gx_bn, gx_bm, gx_mb, gx_ite, gx_exL, gx_b2, gx_b2m, gx_b2mm, gx_sl, gx_sr, gx_id, mJ_1, mK_al, mK_al1, mK_as, mK_as1, mK_gr1, mK_ob]
theorem wLX10_laysBorder_71 {h : jx_H} {q : Nat} {S : MS} {c0 : Int32} : itr (fun s : Int32 × jx_H => LX10_laysBorder_71 q s.1 s.2) (c0, bput mK h q S) = (itr (fun s : Int32 × MS => gLX10_laysBorder_71  s.1 s.2) (c0, S)).map (bput mK h q) :=
  itr_map (φ := (fun s : Int32 × MS => (s.1, bput mK h q s.2))) (ψ := (bput mK h q)) (fun s => eLX10_laysBorder_71) (c0, S)

/-! LX10_laysBorder_9 -/
noncomputable def gLX10_laysBorder_9 (l1 : Int32) (h : MS) : Option ((Int32 × MS) ⊕ (MS)) :=
(gFX10_n h).bind fun x4 =>
if x4 ≤ l1 then
 exL (itr (fun s : Int32 × MS => gLX10_laysBorder_71 s.1 s.2) ((0 : Int32), h))
else
 (gal mK h 1 ((4 : Int32) + l1)).bind fun x9 =>
 (gal mK h 1 ((16 : Int32) + l1)).bind fun x11 =>
 (gFX10_addsBorder (x9 + (1 : Int32)) x11 h).bind fun h13 =>
 (gal mK h13 1 ((4 : Int32) + l1)).bind fun x15 =>
 (gal mK h13 1 ((16 : Int32) + l1)).bind fun x17 =>
 (gFX10_addsBorder x15 (x17 + (1 : Int32)) h13).bind fun h19 =>
 some (.inl ((l1 + (1 : Int32)), h19))
theorem eLX10_laysBorder_9 {h : jx_H} {q : Nat} {S : MS} {l1 : Int32} : LX10_laysBorder_9 q l1 (bput mK h q S) = (gLX10_laysBorder_9 l1 S).map (Sum.map (fun s : Int32 × MS => (s.1, bput mK h q s.2)) (bput mK h q)) := by
  unfold LX10_laysBorder_9 gLX10_laysBorder_9
  simp only [gx_bs, gx_ms, gx_mn, gx_bn, gx_bm, gx_mb, gx_ite, gx_exL, gx_b2, gx_b2m, gx_b2mm, gx_sl, gx_sr, gx_id, eFX10_n, wLX10_laysBorder_71, eFX10_addsBorder, mJ_1, mK_al, mK_al1, mK_as, mK_as1, mK_gr1, mK_ob]
theorem wLX10_laysBorder_9 {h : jx_H} {q : Nat} {S : MS} {c0 : Int32} : itr (fun s : Int32 × jx_H => LX10_laysBorder_9 q s.1 s.2) (c0, bput mK h q S) = (itr (fun s : Int32 × MS => gLX10_laysBorder_9  s.1 s.2) (c0, S)).map (bput mK h q) :=
  itr_map (φ := (fun s : Int32 × MS => (s.1, bput mK h q s.2))) (ψ := (bput mK h q)) (fun s => eLX10_laysBorder_9) (c0, S)

/-! FX10_laysBorder -/
noncomputable def gFX10_laysBorder (h : MS) : Option (MS) :=
(gas mK h 1 (2 : Int32) (0 : Int32)).bind fun h2 =>
itr (fun s : Int32 × MS => gLX10_laysBorder_9 s.1 s.2) ((0 : Int32), h2)
theorem eFX10_laysBorder {h : jx_H} {q : Nat} {S : MS} : FX10_laysBorder q (bput mK h q S) = (gFX10_laysBorder  S).map (bput mK h q) := by
  unfold FX10_laysBorder gFX10_laysBorder
  simp only [gx_bs, gx_ms, gx_mn, gx_bn, gx_bm, gx_mb, gx_ite, gx_exL, gx_b2, gx_b2m, gx_b2mm, gx_sl, gx_sr, gx_id, wLX10_laysBorder_9, mJ_1, mK_al, mK_al1, mK_as, mK_as1, mK_gr1, mK_ob]
/-! LX10_begins_2 -/
noncomputable def gLX10_begins_2 (l1 : Int32) (h : MS) : Option ((Int32 × MS) ⊕ (MS)) :=
if (248 : Int32) ≤ l1 then
 exL ((gas mK h 1 (0 : Int32) (31 : Int32)).bind fun h2 =>
 (gas mK h2 1 (1 : Int32) (1 : Int32)).bind fun h4 =>
 (gFX10_laysBorder h4).bind fun h6 =>
 some h6)
else
 (gas mK h 1 l1 (0 : Int32)).bind fun h8 =>
 some (.inl ((l1 + (1 : Int32)), h8))
theorem eLX10_begins_2 {h : jx_H} {q : Nat} {S : MS} {l1 : Int32} : LX10_begins_2 q l1 (bput mK h q S) = (gLX10_begins_2 l1 S).map (Sum.map (fun s : Int32 × MS => (s.1, bput mK h q s.2)) (bput mK h q)) := by
  unfold LX10_begins_2 gLX10_begins_2
  simp only [gx_bs, gx_ms, gx_mn, gx_bn, gx_bm, gx_mb, gx_ite, gx_exL, gx_b2, gx_b2m, gx_b2mm, gx_sl, gx_sr, gx_id, eFX10_laysBorder, mJ_1, mK_al, mK_al1, mK_as, mK_as1, mK_gr1, mK_ob]
theorem wLX10_begins_2 {h : jx_H} {q : Nat} {S : MS} {c0 : Int32} : itr (fun s : Int32 × jx_H => LX10_begins_2 q s.1 s.2) (c0, bput mK h q S) = (itr (fun s : Int32 × MS => gLX10_begins_2  s.1 s.2) (c0, S)).map (bput mK h q) :=
  itr_map (φ := (fun s : Int32 × MS => (s.1, bput mK h q s.2))) (ψ := (bput mK h q)) (fun s => eLX10_begins_2) (c0, S)

/-! FX10_begins -/
noncomputable def gFX10_begins (h : MS) : Option (MS) :=
itr (fun s : Int32 × MS => gLX10_begins_2 s.1 s.2) ((0 : Int32), h)
theorem eFX10_begins {h : jx_H} {q : Nat} {S : MS} : FX10_begins q (bput mK h q S) = (gFX10_begins  S).map (bput mK h q) := by
  unfold FX10_begins gFX10_begins
  simp only [gx_bs, gx_ms, gx_mn, gx_bn, gx_bm, gx_mb, gx_ite, gx_exL, gx_b2, gx_b2m, gx_b2mm, gx_sl, gx_sr, gx_id, wLX10_begins_2, mK_al, mK_as, mK_ob]
/-! FX10_thrown -/
noncomputable def gFX10_thrown (h : MS) : Option (Int32) :=
(some (h.1 0)).bind fun x1 =>
some x1
theorem eFX10_thrown {h : jx_H} {q : Nat} {S : MS} : FX10_thrown q (bput mK h q S) = gFX10_thrown  S := by
  unfold FX10_thrown gFX10_thrown
  simp only [gx_bs, gx_ms, gx_mn, gx_bn, gx_bm, gx_mb, gx_ite, gx_exL, gx_b2, gx_b2m, gx_b2mm, gx_sl, gx_sr, gx_id, mK_al, mK_as, mK_gi0, mK_ob]
/-! FX10_in -/
noncomputable def gFX10_in (l0 : Int32) (l1 : Int32) (l2 : Int32) (h : MS) : Option (Int32) :=
if l0 < l1 then
 some (0 : Int32)
else
 if l2 < l0 then
  some (0 : Int32)
 else
  some (1 : Int32)
theorem eFX10_in {h : jx_H} {q : Nat} {S : MS} {l0 : Int32} {l1 : Int32} {l2 : Int32} : FX10_in l0 l1 l2 (bput mK h q S) = gFX10_in l0 l1 l2 S := by
  unfold FX10_in gFX10_in
  simp only [gx_bs, gx_ms, gx_mn, gx_bn, gx_bm, gx_mb, gx_ite, gx_exL, gx_b2, gx_b2m, gx_b2mm, gx_sl, gx_sr, gx_id, mK_al, mK_as, mK_ob]
/-! LX10_copies_3 -/
noncomputable def gLX10_copies_3 (l0 : Nat) (l1 : Int32) (l2 : Nat) (l3 : Int32) (l4 : Int32) (h : MS) : Option ((Int32 × MS) ⊕ (MS)) :=
if (248 : Int32) ≤ l4 then
 exL (some h)
else
 (gal mK h l0 (l1 + l4)).bind fun x1 =>
 (gas mK h l2 (l3 + l4) x1).bind fun h2 =>
 some (.inl ((l4 + (1 : Int32)), h2))
theorem eLX10_copies_3 {h : jx_H} {q : Nat} {S : MS} {l0 : Nat} {l1 : Int32} {l2 : Nat} {l3 : Int32} {l4 : Int32} (Jl0 : mJ l0) (Jl2 : mJ l2) : LX10_copies_3 (q + l0) l1 (q + l2) l3 l4 (bput mK h q S) = (gLX10_copies_3 l0 l1 l2 l3 l4 S).map (Sum.map (fun s : Int32 × MS => (s.1, bput mK h q s.2)) (bput mK h q)) := by
  unfold LX10_copies_3 gLX10_copies_3
  simp only [gx_bs, gx_ms, gx_mn, gx_bn, gx_bm, gx_mb, gx_ite, gx_exL, gx_b2, gx_b2m, gx_b2mm, gx_sl, gx_sr, gx_id, Jl0, Jl2, mK_al, mK_as, mK_ob]
theorem wLX10_copies_3 {h : jx_H} {q : Nat} {S : MS} {l0 : Nat} {l1 : Int32} {l2 : Nat} {l3 : Int32} {c0 : Int32} (Jl0 : mJ l0) (Jl2 : mJ l2) : itr (fun s : Int32 × jx_H => LX10_copies_3 (q + l0) l1 (q + l2) l3 s.1 s.2) (c0, bput mK h q S) = (itr (fun s : Int32 × MS => gLX10_copies_3 l0 l1 l2 l3 s.1 s.2) (c0, S)).map (bput mK h q) :=
  itr_map (φ := (fun s : Int32 × MS => (s.1, bput mK h q s.2))) (ψ := (bput mK h q)) (fun s => eLX10_copies_3 Jl0 Jl2) (c0, S)

/-! FX10_copies -/
noncomputable def gFX10_copies (l0 : Nat) (l1 : Int32) (l2 : Nat) (l3 : Int32) (h : MS) : Option (MS) :=
itr (fun s : Int32 × MS => gLX10_copies_3 l0 l1 l2 l3 s.1 s.2) ((0 : Int32), h)
theorem eFX10_copies {h : jx_H} {q : Nat} {S : MS} {l0 : Nat} {l1 : Int32} {l2 : Nat} {l3 : Int32} (Jl0 : mJ l0) (Jl2 : mJ l2) : FX10_copies (q + l0) l1 (q + l2) l3 (bput mK h q S) = (gFX10_copies l0 l1 l2 l3 S).map (bput mK h q) := by
  unfold FX10_copies gFX10_copies
  simp only [gx_bs, gx_ms, gx_mn, gx_bn, gx_bm, gx_mb, gx_ite, gx_exL, gx_b2, gx_b2m, gx_b2mm, gx_sl, gx_sr, gx_id, wLX10_copies_3, Jl0, Jl2, mK_al, mK_as, mK_ob]
/-! FX10_p -/
noncomputable def gFX10_p (h : MS) : Option (Int32) :=
(gal mK h 1 (0 : Int32)).bind fun x2 =>
some x2
theorem eFX10_p {h : jx_H} {q : Nat} {S : MS} : FX10_p q (bput mK h q S) = gFX10_p  S := by
  unfold FX10_p gFX10_p
  simp only [gx_bs, gx_ms, gx_mn, gx_bn, gx_bm, gx_mb, gx_ite, gx_exL, gx_b2, gx_b2m, gx_b2mm, gx_sl, gx_sr, gx_id, mJ_1, mK_al, mK_al1, mK_as, mK_as1, mK_gr1, mK_ob]
/-! FX10_mod -/
noncomputable def gFX10_mod (l1 : Int32) (h : MS) : Option (Int32) :=
(gFX10_p h).bind fun x2 =>
if x2 = 0 then none else
if 0 ≤ (l1 - l1 / x2 * x2) then
 some (l1 - l1 / x2 * x2)
else
 (gFX10_p h).bind fun x5 =>
 some ((l1 - l1 / x2 * x2) + x5)
theorem eFX10_mod {h : jx_H} {q : Nat} {S : MS} {l1 : Int32} : FX10_mod q l1 (bput mK h q S) = gFX10_mod l1 S := by
  unfold FX10_mod gFX10_mod
  simp only [gx_bs, gx_ms, gx_mn, gx_bn, gx_bm, gx_mb, gx_ite, gx_exL, gx_b2, gx_b2m, gx_b2mm, gx_sl, gx_sr, gx_id, eFX10_p, mK_al, mK_as, mK_ob]
/-! LX10_inverse_4 -/
noncomputable def gLX10_inverse_4 (l1 : Int32) (l2 : Int32) (l3 : Int32) (h : MS) : Option ((Int32 × Int32) ⊕ (Int32)) :=
(gFX10_p h).bind fun x2 =>
if (x2 - (2 : Int32)) ≤ l3 then
 exL (some l2)
else
 (gFX10_p h).bind fun x4 =>
 if x4 = 0 then none else
 some (.inl (((l2 * l1) - (l2 * l1) / x4 * x4), (l3 + (1 : Int32))))
theorem eLX10_inverse_4 {h : jx_H} {q : Nat} {S : MS} {l1 : Int32} {l2 : Int32} {l3 : Int32} : LX10_inverse_4 q l1 l2 l3 (bput mK h q S) = gLX10_inverse_4 l1 l2 l3 S := by
  unfold LX10_inverse_4 gLX10_inverse_4
  simp only [gx_bs, gx_ms, gx_mn, gx_bn, gx_bm, gx_mb, gx_ite, gx_exL, gx_b2, gx_b2m, gx_b2mm, gx_sl, gx_sr, gx_id, eFX10_p, mK_al, mK_as, mK_ob]
/-! FX10_inverse -/
noncomputable def gFX10_inverse (l1 : Int32) (h : MS) : Option (Int32) :=
itr (fun s : Int32 × Int32 => gLX10_inverse_4 l1 s.1 s.2 h) ((1 : Int32), (0 : Int32))
theorem eFX10_inverse {h : jx_H} {q : Nat} {S : MS} {l1 : Int32} : FX10_inverse q l1 (bput mK h q S) = gFX10_inverse l1 S := by
  unfold FX10_inverse gFX10_inverse
  simp only [gx_bs, gx_ms, gx_mn, gx_bn, gx_bm, gx_mb, gx_ite, gx_exL, gx_b2, gx_b2m, gx_b2mm, gx_sl, gx_sr, gx_id, eLX10_inverse_4, mK_al, mK_as, mK_ob]
/-! BX10_isPrime_32 -/
noncomputable def gBX10_isPrime_32 (l1 : Int32) (l3 : Int32) (s0 : Int32) (h : MS) : Option ((Int32 × Int32) ⊕ (Int32)) :=
some (.inl (s0, (l3 + (1 : Int32))))
theorem eBX10_isPrime_32 {h : jx_H} {q : Nat} {S : MS} {l1 : Int32} {l3 : Int32} {s0 : Int32} : BX10_isPrime_32 l1 l3 s0 (bput mK h q S) = gBX10_isPrime_32 l1 l3 s0 S := by
  unfold BX10_isPrime_32 gBX10_isPrime_32
  simp only [gx_bs, gx_ms, gx_mn, gx_bn, gx_bm, gx_mb, gx_ite, gx_exL, gx_b2, gx_b2m, gx_b2mm, gx_sl, gx_sr, gx_id, mK_al, mK_as, mK_ob]
/-! BX10_isPrime_31 -/
noncomputable def gBX10_isPrime_31 (l1 : Int32) (l3 : Int32) (h : MS) : Option ((Int32 × Int32) ⊕ (Int32)) :=
gBX10_isPrime_32 l1 l3 (0 : Int32) h
theorem eBX10_isPrime_31 {h : jx_H} {q : Nat} {S : MS} {l1 : Int32} {l3 : Int32} : BX10_isPrime_31 l1 l3 (bput mK h q S) = gBX10_isPrime_31 l1 l3 S := by
  unfold BX10_isPrime_31 gBX10_isPrime_31
  simp only [gx_bs, gx_ms, gx_mn, gx_bn, gx_bm, gx_mb, gx_ite, gx_exL, gx_b2, gx_b2m, gx_b2mm, gx_sl, gx_sr, gx_id, eBX10_isPrime_32, mK_al, mK_as, mK_ob]
/-! LX10_isPrime_11 -/
noncomputable def gLX10_isPrime_11 (l1 : Int32) (l2 : Int32) (l3 : Int32) (h : MS) : Option ((Int32 × Int32) ⊕ (Int32)) :=
if (10 : Int32) ≤ l3 then
 exL (if l2 = 0 ∨ l2 = 1 then some l2 else none)
else
 if l2 = 0 then
  gBX10_isPrime_31 l1 l3 h
 else
  if l3 = 0 then none else
  if (l1 - l1 / l3 * l3) = 0 then
   gBX10_isPrime_31 l1 l3 h
  else
   gBX10_isPrime_32 l1 l3 (1 : Int32) h
theorem eLX10_isPrime_11 {h : jx_H} {q : Nat} {S : MS} {l1 : Int32} {l2 : Int32} {l3 : Int32} : LX10_isPrime_11 l1 l2 l3 (bput mK h q S) = gLX10_isPrime_11 l1 l2 l3 S := by
  unfold LX10_isPrime_11 gLX10_isPrime_11
  simp only [gx_bs, gx_ms, gx_mn, gx_bn, gx_bm, gx_mb, gx_ite, gx_exL, gx_b2, gx_b2m, gx_b2mm, gx_sl, gx_sr, gx_id, eBX10_isPrime_31, eBX10_isPrime_32, mK_al, mK_as, mK_ob]
/-! FX10_isPrime -/
noncomputable def gFX10_isPrime (l1 : Int32) (h : MS) : Option (Int32) :=
(gFX10_in l1 (13 : Int32) (97 : Int32) h).bind fun x1 =>
itr (fun s : Int32 × Int32 => gLX10_isPrime_11 l1 s.1 s.2 h) (x1, (2 : Int32))
theorem eFX10_isPrime {h : jx_H} {q : Nat} {S : MS} {l1 : Int32} : FX10_isPrime q l1 (bput mK h q S) = gFX10_isPrime l1 S := by
  unfold FX10_isPrime gFX10_isPrime
  simp only [gx_bs, gx_ms, gx_mn, gx_bn, gx_bm, gx_mb, gx_ite, gx_exL, gx_b2, gx_b2m, gx_b2mm, gx_sl, gx_sr, gx_id, eFX10_in, eLX10_isPrime_11, mK_al, mK_as, mK_ob]
/-! BX10_hasDivisors_15 -/
noncomputable def gBX10_hasDivisors_15 (l1 : Int32) (l2 : Int32) (h : MS) : Option (Int32) :=
if l2 = 0 then
 some (1 : Int32)
else
 (gFX10_hasIt l1 (l2 - (1 : Int32)) h).bind fun x2 =>
 if x2 = 0 then
  some (0 : Int32)
 else
  some (1 : Int32)
theorem eBX10_hasDivisors_15 {h : jx_H} {q : Nat} {S : MS} {l1 : Int32} {l2 : Int32} : BX10_hasDivisors_15 q l1 l2 (bput mK h q S) = gBX10_hasDivisors_15 l1 l2 S := by
  unfold BX10_hasDivisors_15 gBX10_hasDivisors_15
  simp only [gx_bs, gx_ms, gx_mn, gx_bn, gx_bm, gx_mb, gx_ite, gx_exL, gx_b2, gx_b2m, gx_b2mm, gx_sl, gx_sr, gx_id, eFX10_hasIt, mK_al, mK_as, mK_ob]
/-! FX10_hasDivisors -/
noncomputable def gFX10_hasDivisors (l1 : Int32) (l2 : Int32) (h : MS) : Option (Int32) :=
if l1 = 0 then
 gBX10_hasDivisors_15 l1 l2 h
else
 (gFX10_hasIt (l1 - (1 : Int32)) l2 h).bind fun x6 =>
 if x6 = 0 then
  some (0 : Int32)
 else
  gBX10_hasDivisors_15 l1 l2 h
theorem eFX10_hasDivisors {h : jx_H} {q : Nat} {S : MS} {l1 : Int32} {l2 : Int32} : FX10_hasDivisors q l1 l2 (bput mK h q S) = gFX10_hasDivisors l1 l2 S := by
  unfold FX10_hasDivisors gFX10_hasDivisors
  simp only [gx_bs, gx_ms, gx_mn, gx_bn, gx_bm, gx_mb, gx_ite, gx_exL, gx_b2, gx_b2m, gx_b2mm, gx_sl, gx_sr, gx_id, eBX10_hasDivisors_15, eFX10_hasIt, mK_al, mK_as, mK_ob]
/-! FX10_canJoin -/
noncomputable def gFX10_canJoin (l1 : Int32) (l2 : Int32) (h : MS) : Option (Int32) :=
(gFX10_hasIt l1 l2 h).bind fun x2 =>
if x2 = 0 then
 (gFX10_hasDivisors l1 l2 h).bind fun x4 =>
 if x4 = 0 then
  some (0 : Int32)
 else
  some (1 : Int32)
else
 some (0 : Int32)
theorem eFX10_canJoin {h : jx_H} {q : Nat} {S : MS} {l1 : Int32} {l2 : Int32} : FX10_canJoin q l1 l2 (bput mK h q S) = gFX10_canJoin l1 l2 S := by
  unfold FX10_canJoin gFX10_canJoin
  simp only [gx_bs, gx_ms, gx_mn, gx_bn, gx_bm, gx_mb, gx_ite, gx_exL, gx_b2, gx_b2m, gx_b2mm, gx_sl, gx_sr, gx_id, eFX10_hasIt, eFX10_hasDivisors, mK_al, mK_as, mK_ob]
/-! FX10_canLeave -/
noncomputable def gFX10_canLeave (l1 : Int32) (l2 : Int32) (h : MS) : Option (Int32) :=
(gFX10_hasIt l1 l2 h).bind fun x2 =>
if x2 = 0 then
 some (0 : Int32)
else
 if (l1 + l2) ≤ 0 then
  some (0 : Int32)
 else
  (gFX10_hasIt (l1 + (1 : Int32)) l2 h).bind fun x4 =>
  if x4 = 0 then
   (gFX10_hasIt l1 (l2 + (1 : Int32)) h).bind fun x6 =>
   if x6 = 0 then
    some (1 : Int32)
   else
    some (0 : Int32)
  else
   some (0 : Int32)
theorem eFX10_canLeave {h : jx_H} {q : Nat} {S : MS} {l1 : Int32} {l2 : Int32} : FX10_canLeave q l1 l2 (bput mK h q S) = gFX10_canLeave l1 l2 S := by
  unfold FX10_canLeave gFX10_canLeave
  simp only [gx_bs, gx_ms, gx_mn, gx_bn, gx_bm, gx_mb, gx_ite, gx_exL, gx_b2, gx_b2m, gx_b2mm, gx_sl, gx_sr, gx_id, eFX10_hasIt, mK_al, mK_as, mK_ob]
/-! BX10_placed_82 -/
noncomputable def gBX10_placed_82 (l1 : Int32) (l2 : Int32) (l3 : Int32) (h : MS) : Option (Int32 × MS) :=
(gas mK h 1 ((4 : Int32) + l3) l1).bind fun h2 =>
(gas mK h2 1 ((16 : Int32) + l3) l2).bind fun h4 =>
(gal mK h4 1 (1 : Int32)).bind fun x6 =>
(gas mK h4 1 (1 : Int32) (x6 + (1 : Int32))).bind fun h7 =>
some (l3, h7)
theorem eBX10_placed_82 {h : jx_H} {q : Nat} {S : MS} {l1 : Int32} {l2 : Int32} {l3 : Int32} : BX10_placed_82 q l1 l2 l3 (bput mK h q S) = (gBX10_placed_82 l1 l2 l3 S).map (fun s : Int32 × MS => (s.1, bput mK h q s.2)) := by
  unfold BX10_placed_82 gBX10_placed_82
  simp only [gx_bs, gx_ms, gx_mn, gx_bn, gx_bm, gx_mb, gx_ite, gx_exL, gx_b2, gx_b2m, gx_b2mm, gx_sl, gx_sr, gx_id, mJ_1, mK_al, mK_al1, mK_as, mK_as1, mK_gr1, mK_ob]
/-! LX10_placed_5 -/
noncomputable def gLX10_placed_5 (l1 : Int32) (l2 : Int32) (l3 : Int32) (h : MS) : Option ((Int32 × MS) ⊕ (Int32 × MS)) :=
if l3 ≤ 0 then
 exL (gBX10_placed_82 l1 l2 l3 h)
else
 (gal mK h 1 (((4 : Int32) + l3) - (1 : Int32))).bind fun x11 =>
 (gal mK h 1 (((16 : Int32) + l3) - (1 : Int32))).bind fun x13 =>
 (gFX10_isAhead l1 l2 x11 x13 h).bind fun x14 =>
 if x14 = 0 then
  exL (gBX10_placed_82 l1 l2 l3 h)
 else
  (gal mK h 1 (((4 : Int32) + l3) - (1 : Int32))).bind fun x17 =>
  (gas mK h 1 ((4 : Int32) + l3) x17).bind fun h18 =>
  (gal mK h18 1 (((16 : Int32) + l3) - (1 : Int32))).bind fun x21 =>
  (gas mK h18 1 ((16 : Int32) + l3) x21).bind fun h22 =>
  some (.inl ((l3 + (-1 : Int32)), h22))
theorem eLX10_placed_5 {h : jx_H} {q : Nat} {S : MS} {l1 : Int32} {l2 : Int32} {l3 : Int32} : LX10_placed_5 q l1 l2 l3 (bput mK h q S) = (gLX10_placed_5 l1 l2 l3 S).map (Sum.map (fun s : Int32 × MS => (s.1, bput mK h q s.2)) (fun s : Int32 × MS => (s.1, bput mK h q s.2))) := by
  unfold LX10_placed_5 gLX10_placed_5
  simp only [gx_bs, gx_ms, gx_mn, gx_bn, gx_bm, gx_mb, gx_ite, gx_exL, gx_b2, gx_b2m, gx_b2mm, gx_sl, gx_sr, gx_id, eBX10_placed_82, eFX10_isAhead, mJ_1, mK_al, mK_al1, mK_as, mK_as1, mK_gr1, mK_ob]
theorem wLX10_placed_5 {h : jx_H} {q : Nat} {S : MS} {l1 : Int32} {l2 : Int32} {c0 : Int32} : itr (fun s : Int32 × jx_H => LX10_placed_5 q l1 l2 s.1 s.2) (c0, bput mK h q S) = (itr (fun s : Int32 × MS => gLX10_placed_5 l1 l2 s.1 s.2) (c0, S)).map (fun s : Int32 × MS => (s.1, bput mK h q s.2)) :=
  itr_map (φ := (fun s : Int32 × MS => (s.1, bput mK h q s.2))) (ψ := (fun s : Int32 × MS => (s.1, bput mK h q s.2))) (fun s => eLX10_placed_5) (c0, S)

/-! FX10_placed -/
noncomputable def gFX10_placed (l1 : Int32) (l2 : Int32) (h : MS) : Option (Int32 × MS) :=
(gFX10_n h).bind fun x9 =>
itr (fun s : Int32 × MS => gLX10_placed_5 l1 l2 s.1 s.2) (x9, h)
theorem eFX10_placed {h : jx_H} {q : Nat} {S : MS} {l1 : Int32} {l2 : Int32} : FX10_placed q l1 l2 (bput mK h q S) = (gFX10_placed l1 l2 S).map (fun s : Int32 × MS => (s.1, bput mK h q s.2)) := by
  unfold FX10_placed gFX10_placed
  simp only [gx_bs, gx_ms, gx_mn, gx_bn, gx_bm, gx_mb, gx_ite, gx_exL, gx_b2, gx_b2m, gx_b2mm, gx_sl, gx_sr, gx_id, eFX10_n, wLX10_placed_5, mK_al, mK_as, mK_ob]
/-! FX10_ruleAt -/
noncomputable def gFX10_ruleAt (l0 : Int32) (l1 : Int32) (h : MS) : Option (Int32) :=
some (((56 : Int32) + ((12 : Int32) * l0)) + l1)
theorem eFX10_ruleAt {h : jx_H} {q : Nat} {S : MS} {l0 : Int32} {l1 : Int32} : FX10_ruleAt l0 l1 (bput mK h q S) = gFX10_ruleAt l0 l1 S := by
  unfold FX10_ruleAt gFX10_ruleAt
  simp only [gx_bs, gx_ms, gx_mn, gx_bn, gx_bm, gx_mb, gx_ite, gx_exL, gx_b2, gx_b2m, gx_b2mm, gx_sl, gx_sr, gx_id, mK_al, mK_as, mK_ob]
/-! BX10_ruleBefore_66 -/
noncomputable def gBX10_ruleBefore_66 (l1 : Int32) (l2 : Int32) (l4 : Int32) (s0 : Int32) (h : MS) : Option ((Int32 × Int32) ⊕ (Int32)) :=
some (.inl (s0, (l4 + (1 : Int32))))
theorem eBX10_ruleBefore_66 {h : jx_H} {q : Nat} {S : MS} {l1 : Int32} {l2 : Int32} {l4 : Int32} {s0 : Int32} : BX10_ruleBefore_66 q l1 l2 l4 s0 (bput mK h q S) = gBX10_ruleBefore_66 l1 l2 l4 s0 S := by
  unfold BX10_ruleBefore_66 gBX10_ruleBefore_66
  simp only [gx_bs, gx_ms, gx_mn, gx_bn, gx_bm, gx_mb, gx_ite, gx_exL, gx_b2, gx_b2m, gx_b2mm, gx_sl, gx_sr, gx_id, mK_al, mK_as, mK_ob]
/-! BX10_ruleBefore_65 -/
noncomputable def gBX10_ruleBefore_65 (l1 : Int32) (l2 : Int32) (l3 : Int32) (l4 : Int32) (h : MS) : Option ((Int32 × Int32) ⊕ (Int32)) :=
gBX10_ruleBefore_66 l1 l2 l4 l3 h
theorem eBX10_ruleBefore_65 {h : jx_H} {q : Nat} {S : MS} {l1 : Int32} {l2 : Int32} {l3 : Int32} {l4 : Int32} : BX10_ruleBefore_65 q l1 l2 l3 l4 (bput mK h q S) = gBX10_ruleBefore_65 l1 l2 l3 l4 S := by
  unfold BX10_ruleBefore_65 gBX10_ruleBefore_65
  simp only [gx_bs, gx_ms, gx_mn, gx_bn, gx_bm, gx_mb, gx_ite, gx_exL, gx_b2, gx_b2m, gx_b2mm, gx_sl, gx_sr, gx_id, eBX10_ruleBefore_66, mK_al, mK_as, mK_ob]
/-! BX10_ruleBefore_139 -/
noncomputable def gBX10_ruleBefore_139 (l2 : Int32) (l3 : Int32) (l5 : Int32) (s0 : Int32) (h : MS) : Option ((Int32 × Int32) ⊕ (Int32)) :=
some (.inl (s0, (l5 + (1 : Int32))))
theorem eBX10_ruleBefore_139 {h : jx_H} {q : Nat} {S : MS} {l2 : Int32} {l3 : Int32} {l5 : Int32} {s0 : Int32} : BX10_ruleBefore_139 q l2 l3 l5 s0 (bput mK h q S) = gBX10_ruleBefore_139 l2 l3 l5 s0 S := by
  unfold BX10_ruleBefore_139 gBX10_ruleBefore_139
  simp only [gx_bs, gx_ms, gx_mn, gx_bn, gx_bm, gx_mb, gx_ite, gx_exL, gx_b2, gx_b2m, gx_b2mm, gx_sl, gx_sr, gx_id, mK_al, mK_as, mK_ob]
/-! BX10_ruleBefore_137 -/
noncomputable def gBX10_ruleBefore_137 (l2 : Int32) (l3 : Int32) (l4 : Int32) (l5 : Int32) (h : MS) : Option ((Int32 × Int32) ⊕ (Int32)) :=
gBX10_ruleBefore_139 l2 l3 l5 l4 h
theorem eBX10_ruleBefore_137 {h : jx_H} {q : Nat} {S : MS} {l2 : Int32} {l3 : Int32} {l4 : Int32} {l5 : Int32} : BX10_ruleBefore_137 q l2 l3 l4 l5 (bput mK h q S) = gBX10_ruleBefore_137 l2 l3 l4 l5 S := by
  unfold BX10_ruleBefore_137 gBX10_ruleBefore_137
  simp only [gx_bs, gx_ms, gx_mn, gx_bn, gx_bm, gx_mb, gx_ite, gx_exL, gx_b2, gx_b2m, gx_b2mm, gx_sl, gx_sr, gx_id, eBX10_ruleBefore_139, mK_al, mK_as, mK_ob]
/-! LX10_ruleBefore_79 -/
noncomputable def gLX10_ruleBefore_79 (l2 : Int32) (l3 : Int32) (l4 : Int32) (l5 : Int32) (h : MS) : Option ((Int32 × Int32) ⊕ (Int32)) :=
(gal mK h 3 (1 : Int32)).bind fun x4 =>
if x4 ≤ l5 then
 exL (if l3 = (-1 : Int32) then
  some (0 : Int32)
 else
  if l4 = (-1 : Int32) then
   some (0 : Int32)
  else
   (gFX10_ruleAt l3 l4 h).bind fun x6 =>
   (gal mK h 3 x6).bind fun x7 =>
   some x7)
else
 (gal mK h 3 ((4 : Int32) + l5)).bind fun x11 =>
 (gal mK h 1 ((4 : Int32) + l2)).bind fun x13 =>
 if x11 = x13 then
  (gal mK h 3 ((16 : Int32) + l5)).bind fun x15 =>
  (gal mK h 1 ((16 : Int32) + l2)).bind fun x17 =>
  if x15 = x17 then
   gBX10_ruleBefore_139 l2 l3 l5 l5 h
  else
   gBX10_ruleBefore_137 l2 l3 l4 l5 h
 else
  gBX10_ruleBefore_137 l2 l3 l4 l5 h
theorem eLX10_ruleBefore_79 {h : jx_H} {q : Nat} {S : MS} {l2 : Int32} {l3 : Int32} {l4 : Int32} {l5 : Int32} : LX10_ruleBefore_79 q l2 l3 l4 l5 (bput mK h q S) = gLX10_ruleBefore_79 l2 l3 l4 l5 S := by
  unfold LX10_ruleBefore_79 gLX10_ruleBefore_79
  simp only [gx_bs, gx_ms, gx_mn, gx_bn, gx_bm, gx_mb, gx_ite, gx_exL, gx_b2, gx_b2m, gx_b2mm, gx_sl, gx_sr, gx_id, eFX10_ruleAt, eBX10_ruleBefore_139, eBX10_ruleBefore_137, mJ_1, mJ_3, mK_al, mK_al1, mK_al3, mK_as, mK_as1, mK_as3, mK_gr1, mK_gr3, mK_ob]
/-! LX10_ruleBefore_5 -/
noncomputable def gLX10_ruleBefore_5 (l1 : Int32) (l2 : Int32) (l3 : Int32) (l4 : Int32) (h : MS) : Option ((Int32 × Int32) ⊕ (Int32)) :=
(gal mK h 3 (2 : Int32)).bind fun x2 =>
if x2 ≤ l4 then
 exL (itr (fun s : Int32 × Int32 => gLX10_ruleBefore_79 l2 l3 s.1 s.2 h) ((-1 : Int32), (0 : Int32)))
else
 (gal mK h 3 ((28 : Int32) + l4)).bind fun x22 =>
 (gal mK h 1 ((28 : Int32) + l1)).bind fun x24 =>
 if x22 = x24 then
  (gal mK h 3 ((42 : Int32) + l4)).bind fun x26 =>
  (gal mK h 1 ((42 : Int32) + l1)).bind fun x28 =>
  if x26 = x28 then
   gBX10_ruleBefore_66 l1 l2 l4 l4 h
  else
   gBX10_ruleBefore_65 l1 l2 l3 l4 h
 else
  gBX10_ruleBefore_65 l1 l2 l3 l4 h
theorem eLX10_ruleBefore_5 {h : jx_H} {q : Nat} {S : MS} {l1 : Int32} {l2 : Int32} {l3 : Int32} {l4 : Int32} : LX10_ruleBefore_5 q l1 l2 l3 l4 (bput mK h q S) = gLX10_ruleBefore_5 l1 l2 l3 l4 S := by
  unfold LX10_ruleBefore_5 gLX10_ruleBefore_5
  simp only [gx_bs, gx_ms, gx_mn, gx_bn, gx_bm, gx_mb, gx_ite, gx_exL, gx_b2, gx_b2m, gx_b2mm, gx_sl, gx_sr, gx_id, eLX10_ruleBefore_79, eBX10_ruleBefore_66, eBX10_ruleBefore_65, mJ_1, mJ_3, mK_al, mK_al1, mK_al3, mK_as, mK_as1, mK_as3, mK_gr1, mK_gr3, mK_ob]
/-! FX10_ruleBefore -/
noncomputable def gFX10_ruleBefore (l1 : Int32) (l2 : Int32) (h : MS) : Option (Int32) :=
itr (fun s : Int32 × Int32 => gLX10_ruleBefore_5 l1 l2 s.1 s.2 h) ((-1 : Int32), (0 : Int32))
theorem eFX10_ruleBefore {h : jx_H} {q : Nat} {S : MS} {l1 : Int32} {l2 : Int32} : FX10_ruleBefore q l1 l2 (bput mK h q S) = gFX10_ruleBefore l1 l2 S := by
  unfold FX10_ruleBefore gFX10_ruleBefore
  simp only [gx_bs, gx_ms, gx_mn, gx_bn, gx_bm, gx_mb, gx_ite, gx_exL, gx_b2, gx_b2m, gx_b2mm, gx_sl, gx_sr, gx_id, eLX10_ruleBefore_5, mK_al, mK_as, mK_ob]
/-! LX10_laysAgain_18 -/
noncomputable def gLX10_laysAgain_18 (l1 : Int32) (l2 : Int32) (h : MS) : Option ((Int32 × MS) ⊕ ((Int32 × MS) ⊕ (MS))) :=
(gFX10_n h).bind fun x6 =>
if x6 ≤ l2 then
 exL (some (.inl ((l1 + (1 : Int32)), h)))
else
 (gFX10_ruleAt l1 l2 h).bind fun x8 =>
 (gFX10_ruleBefore l1 l2 h).bind fun x10 =>
 (gas mK h 1 x8 x10).bind fun h11 =>
 some (.inl ((l2 + (1 : Int32)), h11))
theorem eLX10_laysAgain_18 {h : jx_H} {q : Nat} {S : MS} {l1 : Int32} {l2 : Int32} : LX10_laysAgain_18 q l1 l2 (bput mK h q S) = (gLX10_laysAgain_18 l1 l2 S).map (Sum.map (fun s : Int32 × MS => (s.1, bput mK h q s.2)) (Sum.map (fun s : Int32 × MS => (s.1, bput mK h q s.2)) (bput mK h q))) := by
  unfold LX10_laysAgain_18 gLX10_laysAgain_18
  simp only [gx_bs, gx_ms, gx_mn, gx_bn, gx_bm, gx_mb, gx_ite, gx_exL, gx_b2, gx_b2m, gx_b2mm, gx_sl, gx_sr, gx_id, eFX10_n, eFX10_ruleAt, eFX10_ruleBefore, mJ_1, mK_al, mK_al1, mK_as, mK_as1, mK_gr1, mK_ob]
theorem wLX10_laysAgain_18 {h : jx_H} {q : Nat} {S : MS} {l1 : Int32} {c0 : Int32} : itr (fun s : Int32 × jx_H => LX10_laysAgain_18 q l1 s.1 s.2) (c0, bput mK h q S) = (itr (fun s : Int32 × MS => gLX10_laysAgain_18 l1 s.1 s.2) (c0, S)).map (Sum.map (fun s : Int32 × MS => (s.1, bput mK h q s.2)) (bput mK h q)) :=
  itr_map (φ := (fun s : Int32 × MS => (s.1, bput mK h q s.2))) (ψ := (Sum.map (fun s : Int32 × MS => (s.1, bput mK h q s.2)) (bput mK h q))) (fun s => eLX10_laysAgain_18) (c0, S)

/-! LX10_laysAgain_6 -/
noncomputable def gLX10_laysAgain_6 (l1 : Int32) (h : MS) : Option ((Int32 × MS) ⊕ (MS)) :=
(gal mK h 1 (2 : Int32)).bind fun x4 =>
if x4 ≤ l1 then
 exL (some h)
else
 itr (fun s : Int32 × MS => gLX10_laysAgain_18 l1 s.1 s.2) ((0 : Int32), h)
theorem eLX10_laysAgain_6 {h : jx_H} {q : Nat} {S : MS} {l1 : Int32} : LX10_laysAgain_6 q l1 (bput mK h q S) = (gLX10_laysAgain_6 l1 S).map (Sum.map (fun s : Int32 × MS => (s.1, bput mK h q s.2)) (bput mK h q)) := by
  unfold LX10_laysAgain_6 gLX10_laysAgain_6
  simp only [gx_bs, gx_ms, gx_mn, gx_bn, gx_bm, gx_mb, gx_ite, gx_exL, gx_b2, gx_b2m, gx_b2mm, gx_sl, gx_sr, gx_id, wLX10_laysAgain_18, mJ_1, mK_al, mK_al1, mK_as, mK_as1, mK_gr1, mK_ob]
theorem wLX10_laysAgain_6 {h : jx_H} {q : Nat} {S : MS} {c0 : Int32} : itr (fun s : Int32 × jx_H => LX10_laysAgain_6 q s.1 s.2) (c0, bput mK h q S) = (itr (fun s : Int32 × MS => gLX10_laysAgain_6  s.1 s.2) (c0, S)).map (bput mK h q) :=
  itr_map (φ := (fun s : Int32 × MS => (s.1, bput mK h q s.2))) (ψ := (bput mK h q)) (fun s => eLX10_laysAgain_6) (c0, S)

/-! FX10_laysAgain -/
noncomputable def gFX10_laysAgain (h : MS) : Option (MS) :=
(gFX10_laysBorder h).bind fun h2 =>
itr (fun s : Int32 × MS => gLX10_laysAgain_6 s.1 s.2) ((0 : Int32), h2)
theorem eFX10_laysAgain {h : jx_H} {q : Nat} {S : MS} : FX10_laysAgain q (bput mK h q S) = (gFX10_laysAgain  S).map (bput mK h q) := by
  unfold FX10_laysAgain gFX10_laysAgain
  simp only [gx_bs, gx_ms, gx_mn, gx_bn, gx_bm, gx_mb, gx_ite, gx_exL, gx_b2, gx_b2m, gx_b2mm, gx_sl, gx_sr, gx_id, eFX10_laysBorder, wLX10_laysAgain_6, mK_al, mK_as, mK_ob]
/-! FX10_joins -/
noncomputable def gFX10_joins (l1 : Int32) (l2 : Int32) (h : MS) : Option (Int32 × MS) :=
(gFX10_copies 1 (0 : Int32) 3 (0 : Int32) h).bind fun h3 =>
bind2 (gFX10_placed l1 l2 h3) fun x5 h6 =>
(gFX10_laysAgain h6).bind fun h8 =>
some (x5, h8)
theorem eFX10_joins {h : jx_H} {q : Nat} {S : MS} {l1 : Int32} {l2 : Int32} : FX10_joins q l1 l2 (bput mK h q S) = (gFX10_joins l1 l2 S).map (fun s : Int32 × MS => (s.1, bput mK h q s.2)) := by
  unfold FX10_joins gFX10_joins
  simp only [gx_bs, gx_ms, gx_mn, gx_bn, gx_bm, gx_mb, gx_ite, gx_exL, gx_b2, gx_b2m, gx_b2mm, gx_sl, gx_sr, gx_id, eFX10_copies, eFX10_placed, eFX10_laysAgain, mJ_1, mJ_3, mK_al, mK_al1, mK_al3, mK_as, mK_as1, mK_as3, mK_gr1, mK_gr3, mK_ob]
/-! LX10_leaves_23 -/
noncomputable def gLX10_leaves_23 (l3 : Int32) (l4 : Int32) (h : MS) : Option ((Int32 × MS) ⊕ (Int32 × MS)) :=
(gFX10_n h).bind fun x7 =>
if x7 ≤ (l4 + (1 : Int32)) then
 exL ((gal mK h 1 (1 : Int32)).bind fun x9 =>
 (gas mK h 1 (1 : Int32) (x9 - (1 : Int32))).bind fun h10 =>
 (gFX10_laysAgain h10).bind fun h12 =>
 some (l3, h12))
else
 (gal mK h 1 (((4 : Int32) + l4) + (1 : Int32))).bind fun x15 =>
 (gas mK h 1 ((4 : Int32) + l4) x15).bind fun h16 =>
 (gal mK h16 1 (((16 : Int32) + l4) + (1 : Int32))).bind fun x19 =>
 (gas mK h16 1 ((16 : Int32) + l4) x19).bind fun h20 =>
 some (.inl ((l4 + (1 : Int32)), h20))
theorem eLX10_leaves_23 {h : jx_H} {q : Nat} {S : MS} {l3 : Int32} {l4 : Int32} : LX10_leaves_23 q l3 l4 (bput mK h q S) = (gLX10_leaves_23 l3 l4 S).map (Sum.map (fun s : Int32 × MS => (s.1, bput mK h q s.2)) (fun s : Int32 × MS => (s.1, bput mK h q s.2))) := by
  unfold LX10_leaves_23 gLX10_leaves_23
  simp only [gx_bs, gx_ms, gx_mn, gx_bn, gx_bm, gx_mb, gx_ite, gx_exL, gx_b2, gx_b2m, gx_b2mm, gx_sl, gx_sr, gx_id, eFX10_n, eFX10_laysAgain, mJ_1, mK_al, mK_al1, mK_as, mK_as1, mK_gr1, mK_ob]
theorem wLX10_leaves_23 {h : jx_H} {q : Nat} {S : MS} {l3 : Int32} {c0 : Int32} : itr (fun s : Int32 × jx_H => LX10_leaves_23 q l3 s.1 s.2) (c0, bput mK h q S) = (itr (fun s : Int32 × MS => gLX10_leaves_23 l3 s.1 s.2) (c0, S)).map (fun s : Int32 × MS => (s.1, bput mK h q s.2)) :=
  itr_map (φ := (fun s : Int32 × MS => (s.1, bput mK h q s.2))) (ψ := (fun s : Int32 × MS => (s.1, bput mK h q s.2))) (fun s => eLX10_leaves_23) (c0, S)

/-! FX10_leaves -/
noncomputable def gFX10_leaves (l1 : Int32) (l2 : Int32) (h : MS) : Option (Int32 × MS) :=
(gFX10_copies 1 (0 : Int32) 3 (0 : Int32) h).bind fun h3 =>
(gFX10_monomialAt l1 l2 h3).bind fun x5 =>
itr (fun s : Int32 × MS => gLX10_leaves_23 x5 s.1 s.2) (x5, h3)
theorem eFX10_leaves {h : jx_H} {q : Nat} {S : MS} {l1 : Int32} {l2 : Int32} : FX10_leaves q l1 l2 (bput mK h q S) = (gFX10_leaves l1 l2 S).map (fun s : Int32 × MS => (s.1, bput mK h q s.2)) := by
  unfold FX10_leaves gFX10_leaves
  simp only [gx_bs, gx_ms, gx_mn, gx_bn, gx_bm, gx_mb, gx_ite, gx_exL, gx_b2, gx_b2m, gx_b2mm, gx_sl, gx_sr, gx_id, eFX10_copies, eFX10_monomialAt, wLX10_leaves_23, mJ_1, mJ_3, mK_al, mK_al1, mK_al3, mK_as, mK_as1, mK_as3, mK_gr1, mK_gr3, mK_ob]
/-! LX10_appendText_33 -/
noncomputable def gLX10_appendText_33 (l1 : Int32) (l2 : Int32) (h : MS) : Option ((Int32 × MS) ⊕ (Int32 × MS)) :=
if l2 < 0 then
 exL ((some (h.1 10)).bind fun x3 =>
 some (x3, h))
else
 (some (h.1 10)).bind fun x5 =>
 (gas mK h 8 x5 (vp_nar .byte ((l1 >>> (l2 &&& 31)).toInt8.toInt32))).bind fun h6 =>
 (some (h6.1 10)).bind fun x7 =>
 (some (gpi h6 10 (x7 + (1 : Int32)))).bind fun h8 =>
 some (.inl ((l2 + (-8 : Int32)), h8))
theorem eLX10_appendText_33 {h : jx_H} {q : Nat} {S : MS} {l1 : Int32} {l2 : Int32} : LX10_appendText_33 q l1 l2 (bput mK h q S) = (gLX10_appendText_33 l1 l2 S).map (Sum.map (fun s : Int32 × MS => (s.1, bput mK h q s.2)) (fun s : Int32 × MS => (s.1, bput mK h q s.2))) := by
  unfold LX10_appendText_33 gLX10_appendText_33
  simp only [gx_bs, gx_ms, gx_mn, gx_bn, gx_bm, gx_mb, gx_ite, gx_exL, gx_b2, gx_b2m, gx_b2mm, gx_sl, gx_sr, gx_id, mK_al, mK_al8, mK_as, mK_as8, mK_gi10, mK_gr9, mK_ob, mK_pi10]
theorem wLX10_appendText_33 {h : jx_H} {q : Nat} {S : MS} {l1 : Int32} {c0 : Int32} : itr (fun s : Int32 × jx_H => LX10_appendText_33 q l1 s.1 s.2) (c0, bput mK h q S) = (itr (fun s : Int32 × MS => gLX10_appendText_33 l1 s.1 s.2) (c0, S)).map (fun s : Int32 × MS => (s.1, bput mK h q s.2)) :=
  itr_map (φ := (fun s : Int32 × MS => (s.1, bput mK h q s.2))) (ψ := (fun s : Int32 × MS => (s.1, bput mK h q s.2))) (fun s => eLX10_appendText_33) (c0, S)

/-! BX10_appendText_18 -/
noncomputable def gBX10_appendText_18 (l1 : Int32) (s1 : Int32) (h : MS) : Option (Int32 × MS) :=
(some (gpi h 0 s1)).bind fun h1 =>
(some (h1.1 0)).bind fun x2 =>
if x2 ≤ 0 then
 itr (fun s : Int32 × MS => gLX10_appendText_33 l1 s.1 s.2) ((24 : Int32), h1)
else
 some ((0 : Int32), h1)
theorem eBX10_appendText_18 {h : jx_H} {q : Nat} {S : MS} {l1 : Int32} {s1 : Int32} : BX10_appendText_18 q l1 q s1 (bput mK h q S) = (gBX10_appendText_18 l1 s1 S).map (fun s : Int32 × MS => (s.1, bput mK h q s.2)) := by
  unfold BX10_appendText_18 gBX10_appendText_18
  simp only [gx_bs, gx_ms, gx_mn, gx_bn, gx_bm, gx_mb, gx_ite, gx_exL, gx_b2, gx_b2m, gx_b2mm, gx_sl, gx_sr, gx_id, wLX10_appendText_33, mK_al, mK_as, mK_gi0, mK_ob, mK_pi0]
/-! FX10_appendText -/
noncomputable def gFX10_appendText (l1 : Int32) (h : MS) : Option (Int32 × MS) :=
(some (h.1 10)).bind fun x11 =>
if (900 : Int32) < (x11 + (4 : Int32)) then
 gBX10_appendText_18 l1 (1 : Int32) h
else
 gBX10_appendText_18 l1 (0 : Int32) h
theorem eFX10_appendText {h : jx_H} {q : Nat} {S : MS} {l1 : Int32} : FX10_appendText q l1 (bput mK h q S) = (gFX10_appendText l1 S).map (fun s : Int32 × MS => (s.1, bput mK h q s.2)) := by
  unfold FX10_appendText gFX10_appendText
  simp only [gx_bs, gx_ms, gx_mn, gx_bn, gx_bm, gx_mb, gx_ite, gx_exL, gx_b2, gx_b2m, gx_b2mm, gx_sl, gx_sr, gx_id, eBX10_appendText_18, mK_al, mK_as, mK_gi10, mK_ob]
/-! BX10_truncateText_18 -/
noncomputable def gBX10_truncateText_18 (l1 : Int32) (s1 : Int32) (h : MS) : Option (Int32 × MS) :=
(some (gpi h 0 s1)).bind fun h1 =>
(some (h1.1 0)).bind fun x2 =>
if x2 ≤ 0 then
 (some (gpi h1 10 l1)).bind fun h3 =>
 (some (h3.1 10)).bind fun x4 =>
 some (x4, h3)
else
 some ((0 : Int32), h1)
theorem eBX10_truncateText_18 {h : jx_H} {q : Nat} {S : MS} {l1 : Int32} {s1 : Int32} : BX10_truncateText_18 q l1 q s1 (bput mK h q S) = (gBX10_truncateText_18 l1 s1 S).map (fun s : Int32 × MS => (s.1, bput mK h q s.2)) := by
  unfold BX10_truncateText_18 gBX10_truncateText_18
  simp only [gx_bs, gx_ms, gx_mn, gx_bn, gx_bm, gx_mb, gx_ite, gx_exL, gx_b2, gx_b2m, gx_b2mm, gx_sl, gx_sr, gx_id, mK_al, mK_as, mK_gi0, mK_gi10, mK_ob, mK_pi0, mK_pi10]
/-! FX10_truncateText -/
noncomputable def gFX10_truncateText (l1 : Int32) (h : MS) : Option (Int32 × MS) :=
(some (h.1 10)).bind fun x6 =>
(gFX10_in l1 (0 : Int32) x6 h).bind fun x7 =>
if x7 = 0 then
 gBX10_truncateText_18 l1 (1 : Int32) h
else
 gBX10_truncateText_18 l1 (0 : Int32) h
theorem eFX10_truncateText {h : jx_H} {q : Nat} {S : MS} {l1 : Int32} : FX10_truncateText q l1 (bput mK h q S) = (gFX10_truncateText l1 S).map (fun s : Int32 × MS => (s.1, bput mK h q s.2)) := by
  unfold FX10_truncateText gFX10_truncateText
  simp only [gx_bs, gx_ms, gx_mn, gx_bn, gx_bm, gx_mb, gx_ite, gx_exL, gx_b2, gx_b2m, gx_b2mm, gx_sl, gx_sr, gx_id, eFX10_in, eBX10_truncateText_18, mK_al, mK_as, mK_gi10, mK_ob]
/-! FX10_see -/
noncomputable def gFX10_see (h : MS) : Option (Int32) :=
(some (h.1 11)).bind fun x1 =>
(some (h.1 10)).bind fun x2 =>
if x2 ≤ x1 then
 some (-1 : Int32)
else
 (some (h.1 11)).bind fun x4 =>
 (gal mK h 8 x4).bind fun x5 =>
 some (x5 &&& (255 : Int32))
theorem eFX10_see {h : jx_H} {q : Nat} {S : MS} : FX10_see q (bput mK h q S) = gFX10_see  S := by
  unfold FX10_see gFX10_see
  simp only [gx_bs, gx_ms, gx_mn, gx_bn, gx_bm, gx_mb, gx_ite, gx_exL, gx_b2, gx_b2m, gx_b2mm, gx_sl, gx_sr, gx_id, mK_al, mK_al8, mK_as, mK_as8, mK_gi10, mK_gi11, mK_gr9, mK_ob]
/-! FX10_isSmall -/
noncomputable def gFX10_isSmall (h : MS) : Option (Int32) :=
(gFX10_see h).bind fun x2 =>
(gFX10_in x2 (97 : Int32) (122 : Int32) h).bind fun x3 =>
if x3 = 0 ∨ x3 = 1 then some x3 else none
theorem eFX10_isSmall {h : jx_H} {q : Nat} {S : MS} : FX10_isSmall q (bput mK h q S) = gFX10_isSmall  S := by
  unfold FX10_isSmall gFX10_isSmall
  simp only [gx_bs, gx_ms, gx_mn, gx_bn, gx_bm, gx_mb, gx_ite, gx_exL, gx_b2, gx_b2m, gx_b2mm, gx_sl, gx_sr, gx_id, eFX10_see, eFX10_in, mK_al, mK_as, mK_ob]
/-! FX10_isDigit -/
noncomputable def gFX10_isDigit (h : MS) : Option (Int32) :=
(gFX10_see h).bind fun x2 =>
(gFX10_in x2 (48 : Int32) (57 : Int32) h).bind fun x3 =>
if x3 = 0 ∨ x3 = 1 then some x3 else none
theorem eFX10_isDigit {h : jx_H} {q : Nat} {S : MS} : FX10_isDigit q (bput mK h q S) = gFX10_isDigit  S := by
  unfold FX10_isDigit gFX10_isDigit
  simp only [gx_bs, gx_ms, gx_mn, gx_bn, gx_bm, gx_mb, gx_ite, gx_exL, gx_b2, gx_b2m, gx_b2mm, gx_sl, gx_sr, gx_id, eFX10_see, eFX10_in, mK_al, mK_as, mK_ob]
/-! FX10_signOf -/
noncomputable def gFX10_signOf (l1 : Int32) (h : MS) : Option (Int32) :=
if l1 = (59 : Int32) then
 some (3 : Int32)
else
 if l1 = (44 : Int32) then
  some (4 : Int32)
 else
  if l1 = (45 : Int32) then
   some (5 : Int32)
  else
   some (6 : Int32)
theorem eFX10_signOf {h : jx_H} {q : Nat} {S : MS} {l1 : Int32} : FX10_signOf q l1 (bput mK h q S) = gFX10_signOf l1 S := by
  unfold FX10_signOf gFX10_signOf
  simp only [gx_bs, gx_ms, gx_mn, gx_bn, gx_bm, gx_mb, gx_ite, gx_exL, gx_b2, gx_b2m, gx_b2mm, gx_sl, gx_sr, gx_id, mK_al, mK_as, mK_ob]
/-! BX10_goesOn_188 -/
noncomputable def gBX10_goesOn_188 (s1 : Int32) (h : MS) : Option ((MS) ⊕ (MS)) :=
(some (gpi h 14 s1)).bind fun h3 =>
(some (h3.1 11)).bind fun x4 =>
(some (gpi h3 11 (x4 + (1 : Int32)))).bind fun h5 =>
some (.inl h5)
theorem eBX10_goesOn_188 {h : jx_H} {q : Nat} {S : MS} {s1 : Int32} : BX10_goesOn_188 q q s1 (bput mK h q S) = (gBX10_goesOn_188 s1 S).map (Sum.map (bput mK h q) (bput mK h q)) := by
  unfold BX10_goesOn_188 gBX10_goesOn_188
  simp only [gx_bs, gx_ms, gx_mn, gx_bn, gx_bm, gx_mb, gx_ite, gx_exL, gx_b2, gx_b2m, gx_b2mm, gx_sl, gx_sr, gx_id, mK_al, mK_as, mK_gi11, mK_ob, mK_pi11, mK_pi14]
/-! LX10_goesOn_140 -/
noncomputable def gLX10_goesOn_140 (h : MS) : Option ((MS) ⊕ (MS)) :=
(some (h.1 13)).bind fun x6 =>
if x6 = (2 : Int32) then
 (gFX10_isDigit h).bind fun x8 =>
 if x8 = 0 then
  exL (some h)
 else
  (some (h.1 14)).bind fun x9 =>
  if x9 ≤ (10000 : Int32) then
   (some (h.1 14)).bind fun x10 =>
   (gFX10_see h).bind fun x12 =>
   gBX10_goesOn_188 ((((10 : Int32) * x10) + x12) - (48 : Int32)) h
  else
   (some (h.1 14)).bind fun x13 =>
   gBX10_goesOn_188 x13 h
else
 exL (some h)
theorem eLX10_goesOn_140 {h : jx_H} {q : Nat} {S : MS} : LX10_goesOn_140 q (bput mK h q S) = (gLX10_goesOn_140  S).map (Sum.map (bput mK h q) (bput mK h q)) := by
  unfold LX10_goesOn_140 gLX10_goesOn_140
  simp only [gx_bs, gx_ms, gx_mn, gx_bn, gx_bm, gx_mb, gx_ite, gx_exL, gx_b2, gx_b2m, gx_b2mm, gx_sl, gx_sr, gx_id, eFX10_isDigit, eFX10_see, eBX10_goesOn_188, mK_al, mK_as, mK_gi13, mK_gi14, mK_ob]
theorem wLX10_goesOn_140 {h : jx_H} {q : Nat} {S : MS} : itr (fun s : jx_H => LX10_goesOn_140 q  s) (bput mK h q S) = (itr (fun s : MS => gLX10_goesOn_140   s) (S)).map (bput mK h q) :=
  itr_map (φ := (bput mK h q)) (ψ := (bput mK h q)) (fun s => eLX10_goesOn_140) (S)

/-! LX10_goesOn_112 -/
noncomputable def gLX10_goesOn_112 (h : MS) : Option ((MS) ⊕ (MS)) :=
(some (h.1 13)).bind fun x2 =>
if x2 = (1 : Int32) then
 (gFX10_isSmall h).bind fun x18 =>
 if x18 = 0 then
  exL (itr (fun s : MS => gLX10_goesOn_140 s) h)
 else
  (some (h.1 11)).bind fun x19 =>
  (some (gpi h 11 (x19 + (1 : Int32)))).bind fun h20 =>
  some (.inl h20)
else
 exL (itr (fun s : MS => gLX10_goesOn_140 s) h)
theorem eLX10_goesOn_112 {h : jx_H} {q : Nat} {S : MS} : LX10_goesOn_112 q (bput mK h q S) = (gLX10_goesOn_112  S).map (Sum.map (bput mK h q) (bput mK h q)) := by
  unfold LX10_goesOn_112 gLX10_goesOn_112
  simp only [gx_bs, gx_ms, gx_mn, gx_bn, gx_bm, gx_mb, gx_ite, gx_exL, gx_b2, gx_b2m, gx_b2mm, gx_sl, gx_sr, gx_id, eFX10_isSmall, wLX10_goesOn_140, mK_al, mK_as, mK_gi11, mK_gi13, mK_ob, mK_pi11]
theorem wLX10_goesOn_112 {h : jx_H} {q : Nat} {S : MS} : itr (fun s : jx_H => LX10_goesOn_112 q  s) (bput mK h q S) = (itr (fun s : MS => gLX10_goesOn_112   s) (S)).map (bput mK h q) :=
  itr_map (φ := (bput mK h q)) (ψ := (bput mK h q)) (fun s => eLX10_goesOn_112) (S)

/-! BX10_goesOn_108 -/
noncomputable def gBX10_goesOn_108 (s1 : Int32) (s2 : Int32) (h : MS) : Option (MS) :=
(some (gpi h 11 (s1 + s2))).bind fun h1 =>
itr (fun s : MS => gLX10_goesOn_112 s) h1
theorem eBX10_goesOn_108 {h : jx_H} {q : Nat} {S : MS} {s1 : Int32} {s2 : Int32} : BX10_goesOn_108 q q s1 s2 (bput mK h q S) = (gBX10_goesOn_108 s1 s2 S).map (bput mK h q) := by
  unfold BX10_goesOn_108 gBX10_goesOn_108
  simp only [gx_bs, gx_ms, gx_mn, gx_bn, gx_bm, gx_mb, gx_ite, gx_exL, gx_b2, gx_b2m, gx_b2mm, gx_sl, gx_sr, gx_id, wLX10_goesOn_112, mK_al, mK_as, mK_ob, mK_pi11]
/-! BX10_goesOn_82 -/
noncomputable def gBX10_goesOn_82 (s1 : Int32) (h : MS) : Option (MS) :=
(some (gpi h 13 s1)).bind fun h23 =>
(some (gpi h23 14 (0 : Int32))).bind fun h24 =>
(some (h24.1 11)).bind fun x25 =>
(some (h24.1 13)).bind fun x26 =>
if x26 < (3 : Int32) then
 gBX10_goesOn_108 x25 (0 : Int32) h24
else
 gBX10_goesOn_108 x25 (1 : Int32) h24
theorem eBX10_goesOn_82 {h : jx_H} {q : Nat} {S : MS} {s1 : Int32} : BX10_goesOn_82 q q s1 (bput mK h q S) = (gBX10_goesOn_82 s1 S).map (bput mK h q) := by
  unfold BX10_goesOn_82 gBX10_goesOn_82
  simp only [gx_bs, gx_ms, gx_mn, gx_bn, gx_bm, gx_mb, gx_ite, gx_exL, gx_b2, gx_b2m, gx_b2mm, gx_sl, gx_sr, gx_id, eBX10_goesOn_108, mK_al, mK_as, mK_gi11, mK_gi13, mK_ob, mK_pi13, mK_pi14]
/-! BX10_goesOn_18 -/
noncomputable def gBX10_goesOn_18 (h : MS) : Option ((MS) ⊕ (MS)) :=
(some (h.1 11)).bind fun x28 =>
(some (gpi h 11 (x28 + (1 : Int32)))).bind fun h29 =>
some (.inl h29)
theorem eBX10_goesOn_18 {h : jx_H} {q : Nat} {S : MS} : BX10_goesOn_18 q (bput mK h q S) = (gBX10_goesOn_18  S).map (Sum.map (bput mK h q) (bput mK h q)) := by
  unfold BX10_goesOn_18 gBX10_goesOn_18
  simp only [gx_bs, gx_ms, gx_mn, gx_bn, gx_bm, gx_mb, gx_ite, gx_exL, gx_b2, gx_b2m, gx_b2mm, gx_sl, gx_sr, gx_id, mK_al, mK_as, mK_gi11, mK_ob, mK_pi11]
/-! LX10_goesOn_0 -/
noncomputable def gLX10_goesOn_0 (h : MS) : Option ((MS) ⊕ (MS)) :=
(gFX10_see h).bind fun x31 =>
if x31 = (32 : Int32) then
 gBX10_goesOn_18 h
else
 (gFX10_see h).bind fun x33 =>
 if x33 = (10 : Int32) then
  gBX10_goesOn_18 h
 else
  exL ((some (h.1 11)).bind fun x34 =>
  (some (gpi h 12 x34)).bind fun h35 =>
  (gFX10_see h35).bind fun x37 =>
  if x37 = (-1 : Int32) then
   gBX10_goesOn_82 (0 : Int32) h35
  else
   (gFX10_isSmall h35).bind fun x39 =>
   if x39 = 0 then
    (gFX10_isDigit h35).bind fun x41 =>
    if x41 = 0 then
     (gFX10_see h35).bind fun x43 =>
     (gFX10_signOf x43 h35).bind fun x45 =>
     gBX10_goesOn_82 x45 h35
    else
     gBX10_goesOn_82 (2 : Int32) h35
   else
    gBX10_goesOn_82 (1 : Int32) h35)
theorem eLX10_goesOn_0 {h : jx_H} {q : Nat} {S : MS} : LX10_goesOn_0 q (bput mK h q S) = (gLX10_goesOn_0  S).map (Sum.map (bput mK h q) (bput mK h q)) := by
  unfold LX10_goesOn_0 gLX10_goesOn_0
  simp only [gx_bs, gx_ms, gx_mn, gx_bn, gx_bm, gx_mb, gx_ite, gx_exL, gx_b2, gx_b2m, gx_b2mm, gx_sl, gx_sr, gx_id, eFX10_see, eBX10_goesOn_18, eBX10_goesOn_82, eFX10_isSmall, eFX10_isDigit, eFX10_signOf, mK_al, mK_as, mK_gi11, mK_ob, mK_pi12]
theorem wLX10_goesOn_0 {h : jx_H} {q : Nat} {S : MS} : itr (fun s : jx_H => LX10_goesOn_0 q  s) (bput mK h q S) = (itr (fun s : MS => gLX10_goesOn_0   s) (S)).map (bput mK h q) :=
  itr_map (φ := (bput mK h q)) (ψ := (bput mK h q)) (fun s => eLX10_goesOn_0) (S)

/-! FX10_goesOn -/
noncomputable def gFX10_goesOn (h : MS) : Option (MS) :=
itr (fun s : MS => gLX10_goesOn_0 s) h
theorem eFX10_goesOn {h : jx_H} {q : Nat} {S : MS} : FX10_goesOn q (bput mK h q S) = (gFX10_goesOn  S).map (bput mK h q) := by
  unfold FX10_goesOn gFX10_goesOn
  simp only [gx_bs, gx_ms, gx_mn, gx_bn, gx_bm, gx_mb, gx_ite, gx_exL, gx_b2, gx_b2m, gx_b2mm, gx_sl, gx_sr, gx_id, wLX10_goesOn_0, mK_al, mK_as, mK_ob]
/-! FX10_fails -/
noncomputable def gFX10_fails (l1 : Int32) (h : MS) : Option (MS) :=
(some (h.1 15)).bind fun x1 =>
if x1 = 0 then
 (some (gpi h 15 l1)).bind fun h2 =>
 (some (h2.1 12)).bind fun x3 =>
 (some (gpi h2 16 x3)).bind fun h4 =>
 some h4
else
 some h
theorem eFX10_fails {h : jx_H} {q : Nat} {S : MS} {l1 : Int32} : FX10_fails q l1 (bput mK h q S) = (gFX10_fails l1 S).map (bput mK h q) := by
  unfold FX10_fails gFX10_fails
  simp only [gx_bs, gx_ms, gx_mn, gx_bn, gx_bm, gx_mb, gx_ite, gx_exL, gx_b2, gx_b2m, gx_b2mm, gx_sl, gx_sr, gx_id, mK_al, mK_as, mK_gi12, mK_gi15, mK_ob, mK_pi15, mK_pi16]
/-! BX10_wordHere_108 -/
noncomputable def gBX10_wordHere_108 (l1 : Int32) (l2 : Int32) (l3 : Int32) (h : MS) : Option ((Int32 × Int32) ⊕ (Int32)) :=
some (.inl ((l1 + (l3 + (1 : Int32))), (l2 + (1 : Int32))))
theorem eBX10_wordHere_108 {h : jx_H} {q : Nat} {S : MS} {l1 : Int32} {l2 : Int32} {l3 : Int32} : BX10_wordHere_108 q l1 l2 l3 (bput mK h q S) = gBX10_wordHere_108 l1 l2 l3 S := by
  unfold BX10_wordHere_108 gBX10_wordHere_108
  simp only [gx_bs, gx_ms, gx_mn, gx_bn, gx_bm, gx_mb, gx_ite, gx_exL, gx_b2, gx_b2m, gx_b2mm, gx_sl, gx_sr, gx_id, mK_al, mK_as, mK_ob]
/-! BX10_wordHere_80 -/
noncomputable def gBX10_wordHere_80 (l1 : Int32) (l2 : Int32) (l3 : Int32) (s0 : Int32) (h : MS) : Option ((Int32 × Int32) ⊕ ((Int32 × Int32) ⊕ (Int32))) :=
some (.inl ((l3 + (1 : Int32)), s0))
theorem eBX10_wordHere_80 {h : jx_H} {q : Nat} {S : MS} {l1 : Int32} {l2 : Int32} {l3 : Int32} {s0 : Int32} : BX10_wordHere_80 q l1 l2 l3 s0 (bput mK h q S) = gBX10_wordHere_80 l1 l2 l3 s0 S := by
  unfold BX10_wordHere_80 gBX10_wordHere_80
  simp only [gx_bs, gx_ms, gx_mn, gx_bn, gx_bm, gx_mb, gx_ite, gx_exL, gx_b2, gx_b2m, gx_b2mm, gx_sl, gx_sr, gx_id, mK_al, mK_as, mK_ob]
/-! BX10_wordHere_79 -/
noncomputable def gBX10_wordHere_79 (l1 : Int32) (l2 : Int32) (l3 : Int32) (h : MS) : Option ((Int32 × Int32) ⊕ ((Int32 × Int32) ⊕ (Int32))) :=
gBX10_wordHere_80 l1 l2 l3 (0 : Int32) h
theorem eBX10_wordHere_79 {h : jx_H} {q : Nat} {S : MS} {l1 : Int32} {l2 : Int32} {l3 : Int32} : BX10_wordHere_79 q l1 l2 l3 (bput mK h q S) = gBX10_wordHere_79 l1 l2 l3 S := by
  unfold BX10_wordHere_79 gBX10_wordHere_79
  simp only [gx_bs, gx_ms, gx_mn, gx_bn, gx_bm, gx_mb, gx_ite, gx_exL, gx_b2, gx_b2m, gx_b2mm, gx_sl, gx_sr, gx_id, eBX10_wordHere_80, mK_al, mK_as, mK_ob]
/-! LX10_wordHere_22 -/
noncomputable def gLX10_wordHere_22 (l1 : Int32) (l2 : Int32) (l3 : Int32) (l4 : Int32) (h : MS) : Option ((Int32 × Int32) ⊕ ((Int32 × Int32) ⊕ (Int32))) :=
(gal mK h 9 (l1 + l3)).bind fun x3 =>
if x3 = (32 : Int32) then
 exL (if l4 = 0 then
  gBX10_wordHere_108 l1 l2 l3 h
 else
  (some (h.1 11)).bind fun x4 =>
  (some (h.1 12)).bind fun x5 =>
  if (x4 - x5) = l3 then
   exL (some l2)
  else
   gBX10_wordHere_108 l1 l2 l3 h)
else
 if l4 = 0 then
  gBX10_wordHere_79 l1 l2 l3 h
 else
  (some (h.1 12)).bind fun x8 =>
  (some (h.1 11)).bind fun x9 =>
  if x9 ≤ (x8 + l3) then
   gBX10_wordHere_79 l1 l2 l3 h
  else
   (some (h.1 12)).bind fun x11 =>
   (gal mK h 8 (x11 + l3)).bind fun x12 =>
   (gal mK h 9 (l1 + l3)).bind fun x14 =>
   if x12 = x14 then
    gBX10_wordHere_80 l1 l2 l3 (1 : Int32) h
   else
    gBX10_wordHere_79 l1 l2 l3 h
theorem eLX10_wordHere_22 {h : jx_H} {q : Nat} {S : MS} {l1 : Int32} {l2 : Int32} {l3 : Int32} {l4 : Int32} : LX10_wordHere_22 q l1 l2 l3 l4 (bput mK h q S) = gLX10_wordHere_22 l1 l2 l3 l4 S := by
  unfold LX10_wordHere_22 gLX10_wordHere_22
  simp only [gx_bs, gx_ms, gx_mn, gx_bn, gx_bm, gx_mb, gx_ite, gx_exL, gx_b2, gx_b2m, gx_b2mm, gx_sl, gx_sr, gx_id, eBX10_wordHere_108, eBX10_wordHere_79, eBX10_wordHere_80, mK_al, mK_al8, mK_al9, mK_as, mK_as8, mK_as9, mK_gi11, mK_gi12, mK_gr17, mK_gr9, mK_ob]
/-! LX10_wordHere_4 -/
noncomputable def gLX10_wordHere_4 (l1 : Int32) (l2 : Int32) (h : MS) : Option ((Int32 × Int32) ⊕ (Int32)) :=
(some (h.1 13)).bind fun x1 =>
if x1 = (1 : Int32) then
 if (5 : Int32) ≤ l2 then
  exL (some (-1 : Int32))
 else
  itr (fun s : Int32 × Int32 => gLX10_wordHere_22 l1 l2 s.1 s.2 h) ((0 : Int32), (1 : Int32))
else
 exL (some (-1 : Int32))
theorem eLX10_wordHere_4 {h : jx_H} {q : Nat} {S : MS} {l1 : Int32} {l2 : Int32} : LX10_wordHere_4 q l1 l2 (bput mK h q S) = gLX10_wordHere_4 l1 l2 S := by
  unfold LX10_wordHere_4 gLX10_wordHere_4
  simp only [gx_bs, gx_ms, gx_mn, gx_bn, gx_bm, gx_mb, gx_ite, gx_exL, gx_b2, gx_b2m, gx_b2mm, gx_sl, gx_sr, gx_id, eLX10_wordHere_22, mK_al, mK_as, mK_gi13, mK_ob]
/-! FX10_wordHere -/
noncomputable def gFX10_wordHere (h : MS) : Option (Int32) :=
itr (fun s : Int32 × Int32 => gLX10_wordHere_4 s.1 s.2 h) ((0 : Int32), (0 : Int32))
theorem eFX10_wordHere {h : jx_H} {q : Nat} {S : MS} : FX10_wordHere q (bput mK h q S) = gFX10_wordHere  S := by
  unfold FX10_wordHere gFX10_wordHere
  simp only [gx_bs, gx_ms, gx_mn, gx_bn, gx_bm, gx_mb, gx_ite, gx_exL, gx_b2, gx_b2m, gx_b2mm, gx_sl, gx_sr, gx_id, eLX10_wordHere_4, mK_al, mK_as, mK_ob]
/-! FX10_looks -/
noncomputable def gFX10_looks (l1 : Int32) (l2 : Int32) (h : MS) : Option (MS) :=
(some (h.1 13)).bind fun x1 =>
if x1 = (2 : Int32) then
 (some (h.1 14)).bind fun x2 =>
 (gFX10_in x2 l1 l2 h).bind fun x3 =>
 if x3 = 0 then
  (gFX10_fails (2 : Int32) h).bind fun h5 =>
  some h5
 else
  some h
else
 (gFX10_fails (1 : Int32) h).bind fun h8 =>
 some h8
theorem eFX10_looks {h : jx_H} {q : Nat} {S : MS} {l1 : Int32} {l2 : Int32} : FX10_looks q l1 l2 (bput mK h q S) = (gFX10_looks l1 l2 S).map (bput mK h q) := by
  unfold FX10_looks gFX10_looks
  simp only [gx_bs, gx_ms, gx_mn, gx_bn, gx_bm, gx_mb, gx_ite, gx_exL, gx_b2, gx_b2m, gx_b2mm, gx_sl, gx_sr, gx_id, eFX10_in, eFX10_fails, mK_al, mK_as, mK_gi13, mK_gi14, mK_ob]
/-! FX10_reads -/
noncomputable def gFX10_reads (l1 : Int32) (l2 : Int32) (h : MS) : Option (Int32 × MS) :=
(gFX10_looks l1 l2 h).bind fun h2 =>
(some (h2.1 15)).bind fun x3 =>
if x3 ≤ 0 then
 (some (h2.1 14)).bind fun x4 =>
 (gFX10_goesOn h2).bind fun h6 =>
 some (x4, h6)
else
 some (l1, h2)
theorem eFX10_reads {h : jx_H} {q : Nat} {S : MS} {l1 : Int32} {l2 : Int32} : FX10_reads q l1 l2 (bput mK h q S) = (gFX10_reads l1 l2 S).map (fun s : Int32 × MS => (s.1, bput mK h q s.2)) := by
  unfold FX10_reads gFX10_reads
  simp only [gx_bs, gx_ms, gx_mn, gx_bn, gx_bm, gx_mb, gx_ite, gx_exL, gx_b2, gx_b2m, gx_b2mm, gx_sl, gx_sr, gx_id, eFX10_looks, eFX10_goesOn, mK_al, mK_as, mK_gi14, mK_gi15, mK_ob]
/-! FX10_must -/
noncomputable def gFX10_must (l1 : Int32) (l2 : Int32) (h : MS) : Option (MS) :=
if l1 = 0 then
 (gFX10_fails l2 h).bind fun h2 =>
 some h2
else
 some h
theorem eFX10_must {h : jx_H} {q : Nat} {S : MS} {l1 : Int32} {l2 : Int32} : FX10_must q l1 l2 (bput mK h q S) = (gFX10_must l1 l2 S).map (bput mK h q) := by
  unfold FX10_must gFX10_must
  simp only [gx_bs, gx_ms, gx_mn, gx_bn, gx_bm, gx_mb, gx_ite, gx_exL, gx_b2, gx_b2m, gx_b2mm, gx_sl, gx_sr, gx_id, eFX10_fails, mK_al, mK_as, mK_ob]
/-! BX10_readPrime_32 -/
noncomputable def gBX10_readPrime_32 (s1 : Int32) (h : MS) : Option (MS) :=
(gFX10_must s1 (2 : Int32) h).bind fun h2 =>
bind2 (gFX10_reads (13 : Int32) (97 : Int32) h2) fun x4 h5 =>
(some (h5.1 15)).bind fun x6 =>
if x6 = 0 then
 (gas mK h5 1 (0 : Int32) x4).bind fun h8 =>
 some h8
else
 some h5
theorem eBX10_readPrime_32 {h : jx_H} {q : Nat} {S : MS} {s1 : Int32} : BX10_readPrime_32 q q s1 (bput mK h q S) = (gBX10_readPrime_32 s1 S).map (bput mK h q) := by
  unfold BX10_readPrime_32 gBX10_readPrime_32
  simp only [gx_bs, gx_ms, gx_mn, gx_bn, gx_bm, gx_mb, gx_ite, gx_exL, gx_b2, gx_b2m, gx_b2mm, gx_sl, gx_sr, gx_id, eFX10_must, eFX10_reads, mJ_1, mK_al, mK_al1, mK_as, mK_as1, mK_gi15, mK_gr1, mK_ob]
/-! BX10_readPrime_27 -/
noncomputable def gBX10_readPrime_27 (h : MS) : Option (MS) :=
gBX10_readPrime_32 (1 : Int32) h
theorem eBX10_readPrime_27 {h : jx_H} {q : Nat} {S : MS} : BX10_readPrime_27 q q (bput mK h q S) = (gBX10_readPrime_27  S).map (bput mK h q) := by
  unfold BX10_readPrime_27 gBX10_readPrime_27
  simp only [gx_bs, gx_ms, gx_mn, gx_bn, gx_bm, gx_mb, gx_ite, gx_exL, gx_b2, gx_b2m, gx_b2mm, gx_sl, gx_sr, gx_id, eBX10_readPrime_32, mK_al, mK_as, mK_ob]
/-! FX10_readPrime -/
noncomputable def gFX10_readPrime (h : MS) : Option (MS) :=
(gFX10_looks (13 : Int32) (97 : Int32) h).bind fun h11 =>
(some (h11.1 15)).bind fun x12 =>
if 0 < x12 then
 gBX10_readPrime_27 h11
else
 (some (h11.1 14)).bind fun x13 =>
 (gFX10_isPrime x13 h11).bind fun x15 =>
 if x15 = 0 then
  gBX10_readPrime_32 (0 : Int32) h11
 else
  gBX10_readPrime_27 h11
theorem eFX10_readPrime {h : jx_H} {q : Nat} {S : MS} : FX10_readPrime q (bput mK h q S) = (gFX10_readPrime  S).map (bput mK h q) := by
  unfold FX10_readPrime gFX10_readPrime
  simp only [gx_bs, gx_ms, gx_mn, gx_bn, gx_bm, gx_mb, gx_ite, gx_exL, gx_b2, gx_b2m, gx_b2mm, gx_sl, gx_sr, gx_id, eFX10_looks, eBX10_readPrime_27, eFX10_isPrime, eBX10_readPrime_32, mK_al, mK_as, mK_gi14, mK_gi15, mK_ob]
/-! BX10_readJoin_40 -/
noncomputable def gBX10_readJoin_40 (l1 : Int32) (s1 : Int32) (h : MS) : Option (MS) :=
(gFX10_must s1 (4 : Int32) h).bind fun h2 =>
bind2 (gFX10_reads (0 : Int32) (11 : Int32) h2) fun x4 h5 =>
(some (h5.1 15)).bind fun x6 =>
if x6 = 0 then
 bind2 (gFX10_joins l1 x4 h5) fun x8 h9 =>
 some h9
else
 some h5
theorem eBX10_readJoin_40 {h : jx_H} {q : Nat} {S : MS} {l1 : Int32} {s1 : Int32} : BX10_readJoin_40 q l1 q s1 (bput mK h q S) = (gBX10_readJoin_40 l1 s1 S).map (bput mK h q) := by
  unfold BX10_readJoin_40 gBX10_readJoin_40
  simp only [gx_bs, gx_ms, gx_mn, gx_bn, gx_bm, gx_mb, gx_ite, gx_exL, gx_b2, gx_b2m, gx_b2mm, gx_sl, gx_sr, gx_id, eFX10_must, eFX10_reads, eFX10_joins, mK_al, mK_as, mK_gi15, mK_ob]
/-! BX10_readJoin_35 -/
noncomputable def gBX10_readJoin_35 (l1 : Int32) (h : MS) : Option (MS) :=
gBX10_readJoin_40 l1 (1 : Int32) h
theorem eBX10_readJoin_35 {h : jx_H} {q : Nat} {S : MS} {l1 : Int32} : BX10_readJoin_35 q l1 q (bput mK h q S) = (gBX10_readJoin_35 l1 S).map (bput mK h q) := by
  unfold BX10_readJoin_35 gBX10_readJoin_35
  simp only [gx_bs, gx_ms, gx_mn, gx_bn, gx_bm, gx_mb, gx_ite, gx_exL, gx_b2, gx_b2m, gx_b2mm, gx_sl, gx_sr, gx_id, eBX10_readJoin_40, mK_al, mK_as, mK_ob]
/-! FX10_readJoin -/
noncomputable def gFX10_readJoin (h : MS) : Option (MS) :=
bind2 (gFX10_reads (0 : Int32) (11 : Int32) h) fun x12 h13 =>
(gFX10_looks (0 : Int32) (11 : Int32) h13).bind fun h15 =>
(some (h15.1 15)).bind fun x16 =>
if 0 < x16 then
 gBX10_readJoin_35 x12 h15
else
 (some (h15.1 14)).bind fun x17 =>
 (gFX10_canJoin x12 x17 h15).bind fun x19 =>
 if x19 = 0 then
  gBX10_readJoin_40 x12 (0 : Int32) h15
 else
  gBX10_readJoin_35 x12 h15
theorem eFX10_readJoin {h : jx_H} {q : Nat} {S : MS} : FX10_readJoin q (bput mK h q S) = (gFX10_readJoin  S).map (bput mK h q) := by
  unfold FX10_readJoin gFX10_readJoin
  simp only [gx_bs, gx_ms, gx_mn, gx_bn, gx_bm, gx_mb, gx_ite, gx_exL, gx_b2, gx_b2m, gx_b2mm, gx_sl, gx_sr, gx_id, eFX10_reads, eFX10_looks, eBX10_readJoin_35, eFX10_canJoin, eBX10_readJoin_40, mK_al, mK_as, mK_gi14, mK_gi15, mK_ob]
/-! BX10_readTerm_50 -/
noncomputable def gBX10_readTerm_50 (l1 : Int32) (s2 : Int32) (h : MS) : Option (MS) :=
(gFX10_mod s2 h).bind fun x2 =>
(some (gpi h 18 x2)).bind fun h3 =>
bind2 (gFX10_reads (0 : Int32) l1 h3) fun x5 h6 =>
(some (gpi h6 19 x5)).bind fun h7 =>
(gFX10_looks (0 : Int32) l1 h7).bind fun h9 =>
some h9
theorem eBX10_readTerm_50 {h : jx_H} {q : Nat} {S : MS} {l1 : Int32} {s2 : Int32} : BX10_readTerm_50 q l1 q q s2 (bput mK h q S) = (gBX10_readTerm_50 l1 s2 S).map (bput mK h q) := by
  unfold BX10_readTerm_50 gBX10_readTerm_50
  simp only [gx_bs, gx_ms, gx_mn, gx_bn, gx_bm, gx_mb, gx_ite, gx_exL, gx_b2, gx_b2m, gx_b2mm, gx_sl, gx_sr, gx_id, eFX10_mod, eFX10_reads, eFX10_looks, mK_al, mK_as, mK_ob, mK_pi18, mK_pi19]
/-! BX10_readTerm_29 -/
noncomputable def gBX10_readTerm_29 (l1 : Int32) (l2 : Int32) (h : MS) : Option (MS) :=
bind2 (gFX10_reads (0 : Int32) (999 : Int32) h) fun x11 h12 =>
if l2 = 0 then
 gBX10_readTerm_50 l1 x11 h12
else
 gBX10_readTerm_50 l1 (-x11) h12
theorem eBX10_readTerm_29 {h : jx_H} {q : Nat} {S : MS} {l1 : Int32} {l2 : Int32} : BX10_readTerm_29 q l1 l2 (bput mK h q S) = (gBX10_readTerm_29 l1 l2 S).map (bput mK h q) := by
  unfold BX10_readTerm_29 gBX10_readTerm_29
  simp only [gx_bs, gx_ms, gx_mn, gx_bn, gx_bm, gx_mb, gx_ite, gx_exL, gx_b2, gx_b2m, gx_b2mm, gx_sl, gx_sr, gx_id, eFX10_reads, eBX10_readTerm_50, mK_al, mK_as, mK_ob]
/-! BX10_readTerm_20 -/
noncomputable def gBX10_readTerm_20 (l1 : Int32) (s0 : Int32) (h : MS) : Option (MS) :=
if s0 = 0 then
 gBX10_readTerm_29 l1 s0 h
else
 (gFX10_goesOn h).bind fun h15 =>
 gBX10_readTerm_29 l1 s0 h15
theorem eBX10_readTerm_20 {h : jx_H} {q : Nat} {S : MS} {l1 : Int32} {s0 : Int32} : BX10_readTerm_20 q l1 s0 (bput mK h q S) = (gBX10_readTerm_20 l1 s0 S).map (bput mK h q) := by
  unfold BX10_readTerm_20 gBX10_readTerm_20
  simp only [gx_bs, gx_ms, gx_mn, gx_bn, gx_bm, gx_mb, gx_ite, gx_exL, gx_b2, gx_b2m, gx_b2mm, gx_sl, gx_sr, gx_id, eBX10_readTerm_29, eFX10_goesOn, mK_al, mK_as, mK_ob]
/-! BX10_readTerm_19 -/
noncomputable def gBX10_readTerm_19 (l1 : Int32) (h : MS) : Option (MS) :=
gBX10_readTerm_20 l1 (0 : Int32) h
theorem eBX10_readTerm_19 {h : jx_H} {q : Nat} {S : MS} {l1 : Int32} : BX10_readTerm_19 q l1 (bput mK h q S) = (gBX10_readTerm_19 l1 S).map (bput mK h q) := by
  unfold BX10_readTerm_19 gBX10_readTerm_19
  simp only [gx_bs, gx_ms, gx_mn, gx_bn, gx_bm, gx_mb, gx_ite, gx_exL, gx_b2, gx_b2m, gx_b2mm, gx_sl, gx_sr, gx_id, eBX10_readTerm_20, mK_al, mK_as, mK_ob]
/-! FX10_readTerm -/
noncomputable def gFX10_readTerm (l1 : Int32) (h : MS) : Option (MS) :=
(some (h.1 15)).bind fun x17 =>
if x17 = 0 then
 (some (h.1 13)).bind fun x18 =>
 if x18 = (5 : Int32) then
  gBX10_readTerm_20 l1 (1 : Int32) h
 else
  gBX10_readTerm_19 l1 h
else
 gBX10_readTerm_19 l1 h
theorem eFX10_readTerm {h : jx_H} {q : Nat} {S : MS} {l1 : Int32} : FX10_readTerm q l1 (bput mK h q S) = (gFX10_readTerm l1 S).map (bput mK h q) := by
  unfold FX10_readTerm gFX10_readTerm
  simp only [gx_bs, gx_ms, gx_mn, gx_bn, gx_bm, gx_mb, gx_ite, gx_exL, gx_b2, gx_b2m, gx_b2mm, gx_sl, gx_sr, gx_id, eBX10_readTerm_20, eBX10_readTerm_19, mK_al, mK_as, mK_gi13, mK_gi15, mK_ob]
/-! FX10_isTermHere -/
noncomputable def gFX10_isTermHere (h : MS) : Option (Int32) :=
(some (h.1 15)).bind fun x1 =>
if x1 = 0 then
 (some (h.1 13)).bind fun x2 =>
 if x2 = (2 : Int32) then
  some (1 : Int32)
 else
  (some (h.1 13)).bind fun x3 =>
  if x3 = (5 : Int32) then
   some (1 : Int32)
  else
   some (0 : Int32)
else
 some (0 : Int32)
theorem eFX10_isTermHere {h : jx_H} {q : Nat} {S : MS} : FX10_isTermHere q (bput mK h q S) = gFX10_isTermHere  S := by
  unfold FX10_isTermHere gFX10_isTermHere
  simp only [gx_bs, gx_ms, gx_mn, gx_bn, gx_bm, gx_mb, gx_ite, gx_exL, gx_b2, gx_b2m, gx_b2mm, gx_sl, gx_sr, gx_id, mK_al, mK_as, mK_gi13, mK_gi15, mK_ob]
/-! BX10_hasComma_20 -/
noncomputable def gBX10_hasComma_20 (s0 : Int32) (h : MS) : Option (Int32 × MS) :=
if s0 = 0 then
 if s0 = 0 ∨ s0 = 1 then some (s0, h) else none
else
 (gFX10_goesOn h).bind fun h3 =>
 if s0 = 0 ∨ s0 = 1 then some (s0, h3) else none
theorem eBX10_hasComma_20 {h : jx_H} {q : Nat} {S : MS} {s0 : Int32} : BX10_hasComma_20 q s0 (bput mK h q S) = (gBX10_hasComma_20 s0 S).map (fun s : Int32 × MS => (s.1, bput mK h q s.2)) := by
  unfold BX10_hasComma_20 gBX10_hasComma_20
  simp only [gx_bs, gx_ms, gx_mn, gx_bn, gx_bm, gx_mb, gx_ite, gx_exL, gx_b2, gx_b2m, gx_b2mm, gx_sl, gx_sr, gx_id, eFX10_goesOn, mK_al, mK_as, mK_ob]
/-! BX10_hasComma_19 -/
noncomputable def gBX10_hasComma_19 (h : MS) : Option (Int32 × MS) :=
gBX10_hasComma_20 (0 : Int32) h
theorem eBX10_hasComma_19 {h : jx_H} {q : Nat} {S : MS} : BX10_hasComma_19 q (bput mK h q S) = (gBX10_hasComma_19  S).map (fun s : Int32 × MS => (s.1, bput mK h q s.2)) := by
  unfold BX10_hasComma_19 gBX10_hasComma_19
  simp only [gx_bs, gx_ms, gx_mn, gx_bn, gx_bm, gx_mb, gx_ite, gx_exL, gx_b2, gx_b2m, gx_b2mm, gx_sl, gx_sr, gx_id, eBX10_hasComma_20, mK_al, mK_as, mK_ob]
/-! FX10_hasComma -/
noncomputable def gFX10_hasComma (h : MS) : Option (Int32 × MS) :=
(some (h.1 15)).bind fun x6 =>
if x6 = 0 then
 (some (h.1 13)).bind fun x7 =>
 if x7 = (4 : Int32) then
  gBX10_hasComma_20 (1 : Int32) h
 else
  gBX10_hasComma_19 h
else
 gBX10_hasComma_19 h
theorem eFX10_hasComma {h : jx_H} {q : Nat} {S : MS} : FX10_hasComma q (bput mK h q S) = (gFX10_hasComma  S).map (fun s : Int32 × MS => (s.1, bput mK h q s.2)) := by
  unfold FX10_hasComma gFX10_hasComma
  simp only [gx_bs, gx_ms, gx_mn, gx_bn, gx_bm, gx_mb, gx_ite, gx_exL, gx_b2, gx_b2m, gx_b2mm, gx_sl, gx_sr, gx_id, eBX10_hasComma_20, eBX10_hasComma_19, mK_al, mK_as, mK_gi13, mK_gi15, mK_ob]
/-! BX10_readRule_260 -/
noncomputable def gBX10_readRule_260 (l2 : Int32) (l4 : Int32) (h : MS) : Option ((Int32 × Int32 × MS) ⊕ (MS)) :=
bind2 (gFX10_hasComma h) fun x9 h10 =>
some (.inl (l4, x9, h10))
theorem eBX10_readRule_260 {h : jx_H} {q : Nat} {S : MS} {l2 : Int32} {l4 : Int32} : BX10_readRule_260 q l2 l4 (bput mK h q S) = (gBX10_readRule_260 l2 l4 S).map (Sum.map (fun s : Int32 × Int32 × MS => (s.1, s.2.1, bput mK h q s.2.2)) (bput mK h q)) := by
  unfold BX10_readRule_260 gBX10_readRule_260
  simp only [gx_bs, gx_ms, gx_mn, gx_bn, gx_bm, gx_mb, gx_ite, gx_exL, gx_b2, gx_b2m, gx_b2mm, gx_sl, gx_sr, gx_id, eFX10_hasComma, mK_al, mK_as, mK_ob]
/-! BX10_readRule_216 -/
noncomputable def gBX10_readRule_216 (l2 : Int32) (l4 : Int32) (l6 : Int32) (s1 : Int32) (h : MS) : Option ((Int32 × Int32 × MS) ⊕ (MS)) :=
(gFX10_must s1 (5 : Int32) h).bind fun h12 =>
bind2 (gFX10_reads (0 : Int32) (11 : Int32) h12) fun x14 h15 =>
(some (h15.1 15)).bind fun x16 =>
if x16 = 0 then
 (gFX10_ruleAt l2 l6 h15).bind fun x18 =>
 (some (h15.1 18)).bind fun x19 =>
 (gas mK h15 1 x18 x19).bind fun h20 =>
 gBX10_readRule_260 l2 (l4 ||| ((1 : Int32) <<< (l6 &&& 31))) h20
else
 gBX10_readRule_260 l2 l4 h15
theorem eBX10_readRule_216 {h : jx_H} {q : Nat} {S : MS} {l2 : Int32} {l4 : Int32} {l6 : Int32} {s1 : Int32} : BX10_readRule_216 q l2 l4 l6 q s1 (bput mK h q S) = (gBX10_readRule_216 l2 l4 l6 s1 S).map (Sum.map (fun s : Int32 × Int32 × MS => (s.1, s.2.1, bput mK h q s.2.2)) (bput mK h q)) := by
  unfold BX10_readRule_216 gBX10_readRule_216
  simp only [gx_bs, gx_ms, gx_mn, gx_bn, gx_bm, gx_mb, gx_ite, gx_exL, gx_b2, gx_b2m, gx_b2mm, gx_sl, gx_sr, gx_id, eFX10_must, eFX10_reads, eFX10_ruleAt, eBX10_readRule_260, mJ_1, mK_al, mK_al1, mK_as, mK_as1, mK_gi15, mK_gi18, mK_gr1, mK_ob]
/-! BX10_readRule_211 -/
noncomputable def gBX10_readRule_211 (l2 : Int32) (l4 : Int32) (l6 : Int32) (h : MS) : Option ((Int32 × Int32 × MS) ⊕ (MS)) :=
gBX10_readRule_216 l2 l4 l6 (1 : Int32) h
theorem eBX10_readRule_211 {h : jx_H} {q : Nat} {S : MS} {l2 : Int32} {l4 : Int32} {l6 : Int32} : BX10_readRule_211 q l2 l4 l6 q (bput mK h q S) = (gBX10_readRule_211 l2 l4 l6 S).map (Sum.map (fun s : Int32 × Int32 × MS => (s.1, s.2.1, bput mK h q s.2.2)) (bput mK h q)) := by
  unfold BX10_readRule_211 gBX10_readRule_211
  simp only [gx_bs, gx_ms, gx_mn, gx_bn, gx_bm, gx_mb, gx_ite, gx_exL, gx_b2, gx_b2m, gx_b2mm, gx_sl, gx_sr, gx_id, eBX10_readRule_216, mK_al, mK_as, mK_ob]
/-! BX10_readRule_189 -/
noncomputable def gBX10_readRule_189 (l2 : Int32) (l4 : Int32) (l6 : Int32) (s1 : Int32) (h : MS) : Option ((Int32 × Int32 × MS) ⊕ (MS)) :=
(gFX10_must s1 (4 : Int32) h).bind fun h23 =>
(some (h23.1 15)).bind fun x24 =>
if 0 < x24 then
 gBX10_readRule_211 l2 l4 l6 h23
else
 if ((l4 >>> (l6 &&& 31)) &&& (1 : Int32)) = 0 then
  gBX10_readRule_211 l2 l4 l6 h23
 else
  gBX10_readRule_216 l2 l4 l6 (0 : Int32) h23
theorem eBX10_readRule_189 {h : jx_H} {q : Nat} {S : MS} {l2 : Int32} {l4 : Int32} {l6 : Int32} {s1 : Int32} : BX10_readRule_189 q l2 l4 l6 q s1 (bput mK h q S) = (gBX10_readRule_189 l2 l4 l6 s1 S).map (Sum.map (fun s : Int32 × Int32 × MS => (s.1, s.2.1, bput mK h q s.2.2)) (bput mK h q)) := by
  unfold BX10_readRule_189 gBX10_readRule_189
  simp only [gx_bs, gx_ms, gx_mn, gx_bn, gx_bm, gx_mb, gx_ite, gx_exL, gx_b2, gx_b2m, gx_b2mm, gx_sl, gx_sr, gx_id, eFX10_must, eBX10_readRule_211, eBX10_readRule_216, mK_al, mK_as, mK_gi15, mK_ob]
/-! BX10_readRule_175 -/
noncomputable def gBX10_readRule_175 (l2 : Int32) (l4 : Int32) (s0 : Int32) (h : MS) : Option ((Int32 × Int32 × MS) ⊕ (MS)) :=
if s0 = (-1 : Int32) then
 gBX10_readRule_189 l2 l4 s0 (0 : Int32) h
else
 gBX10_readRule_189 l2 l4 s0 (1 : Int32) h
theorem eBX10_readRule_175 {h : jx_H} {q : Nat} {S : MS} {l2 : Int32} {l4 : Int32} {s0 : Int32} : BX10_readRule_175 q l2 l4 s0 (bput mK h q S) = (gBX10_readRule_175 l2 l4 s0 S).map (Sum.map (fun s : Int32 × Int32 × MS => (s.1, s.2.1, bput mK h q s.2.2)) (bput mK h q)) := by
  unfold BX10_readRule_175 gBX10_readRule_175
  simp only [gx_bs, gx_ms, gx_mn, gx_bn, gx_bm, gx_mb, gx_ite, gx_exL, gx_b2, gx_b2m, gx_b2mm, gx_sl, gx_sr, gx_id, eBX10_readRule_189, mK_al, mK_as, mK_ob]
/-! LX10_readRule_141 -/
noncomputable def gLX10_readRule_141 (l2 : Int32) (l4 : Int32) (l5 : Int32) (h : MS) : Option ((Int32 × Int32 × MS) ⊕ (MS)) :=
if l5 = 0 then
 exL (some h)
else
 (gFX10_readTerm (11 : Int32) h).bind fun h29 =>
 (some (h29.1 15)).bind fun x30 =>
 if x30 ≤ 0 then
  (some (h29.1 19)).bind fun x31 =>
  (some (h29.1 14)).bind fun x32 =>
  (gFX10_monomialAt x31 x32 h29).bind fun x34 =>
  gBX10_readRule_175 l2 l4 x34 h29
 else
  gBX10_readRule_175 l2 l4 (0 : Int32) h29
theorem eLX10_readRule_141 {h : jx_H} {q : Nat} {S : MS} {l2 : Int32} {l4 : Int32} {l5 : Int32} : LX10_readRule_141 q l2 l4 l5 (bput mK h q S) = (gLX10_readRule_141 l2 l4 l5 S).map (Sum.map (fun s : Int32 × Int32 × MS => (s.1, s.2.1, bput mK h q s.2.2)) (bput mK h q)) := by
  unfold LX10_readRule_141 gLX10_readRule_141
  simp only [gx_bs, gx_ms, gx_mn, gx_bn, gx_bm, gx_mb, gx_ite, gx_exL, gx_b2, gx_b2m, gx_b2mm, gx_sl, gx_sr, gx_id, eFX10_readTerm, eFX10_monomialAt, eBX10_readRule_175, mK_al, mK_as, mK_gi14, mK_gi15, mK_gi19, mK_ob]
theorem wLX10_readRule_141 {h : jx_H} {q : Nat} {S : MS} {l2 : Int32} {c0 : Int32} {c1 : Int32} : itr (fun s : Int32 × Int32 × jx_H => LX10_readRule_141 q l2 s.1 s.2.1 s.2.2) (c0, c1, bput mK h q S) = (itr (fun s : Int32 × Int32 × MS => gLX10_readRule_141 l2 s.1 s.2.1 s.2.2) (c0, c1, S)).map (bput mK h q) :=
  itr_map (φ := (fun s : Int32 × Int32 × MS => (s.1, s.2.1, bput mK h q s.2.2))) (ψ := (bput mK h q)) (fun s => eLX10_readRule_141) (c0, c1, S)

/-! LX10_readRule_107 -/
noncomputable def gLX10_readRule_107 (l2 : Int32) (l4 : Int32) (h : MS) : Option ((Int32 × MS) ⊕ (MS)) :=
if (12 : Int32) ≤ l4 then
 exL ((gFX10_isTermHere h).bind fun x7 =>
 itr (fun s : Int32 × Int32 × MS => gLX10_readRule_141 l2 s.1 s.2.1 s.2.2) ((0 : Int32), x7, h))
else
 (gFX10_ruleAt l2 l4 h).bind fun x38 =>
 (gas mK h 1 x38 (0 : Int32)).bind fun h39 =>
 some (.inl ((l4 + (1 : Int32)), h39))
theorem eLX10_readRule_107 {h : jx_H} {q : Nat} {S : MS} {l2 : Int32} {l4 : Int32} : LX10_readRule_107 q l2 l4 (bput mK h q S) = (gLX10_readRule_107 l2 l4 S).map (Sum.map (fun s : Int32 × MS => (s.1, bput mK h q s.2)) (bput mK h q)) := by
  unfold LX10_readRule_107 gLX10_readRule_107
  simp only [gx_bs, gx_ms, gx_mn, gx_bn, gx_bm, gx_mb, gx_ite, gx_exL, gx_b2, gx_b2m, gx_b2mm, gx_sl, gx_sr, gx_id, eFX10_isTermHere, wLX10_readRule_141, eFX10_ruleAt, mJ_1, mK_al, mK_al1, mK_as, mK_as1, mK_gr1, mK_ob]
theorem wLX10_readRule_107 {h : jx_H} {q : Nat} {S : MS} {l2 : Int32} {c0 : Int32} : itr (fun s : Int32 × jx_H => LX10_readRule_107 q l2 s.1 s.2) (c0, bput mK h q S) = (itr (fun s : Int32 × MS => gLX10_readRule_107 l2 s.1 s.2) (c0, S)).map (bput mK h q) :=
  itr_map (φ := (fun s : Int32 × MS => (s.1, bput mK h q s.2))) (ψ := (bput mK h q)) (fun s => eLX10_readRule_107) (c0, S)

/-! BX10_readRule_88 -/
noncomputable def gBX10_readRule_88 (l2 : Int32) (s1 : Int32) (h : MS) : Option (MS) :=
(gFX10_must s1 (1 : Int32) h).bind fun h2 =>
(some (h2.1 15)).bind fun x3 =>
if x3 ≤ 0 then
 (gFX10_goesOn h2).bind fun h5 =>
 itr (fun s : Int32 × MS => gLX10_readRule_107 l2 s.1 s.2) ((0 : Int32), h5)
else
 some h2
theorem eBX10_readRule_88 {h : jx_H} {q : Nat} {S : MS} {l2 : Int32} {s1 : Int32} : BX10_readRule_88 q l2 q s1 (bput mK h q S) = (gBX10_readRule_88 l2 s1 S).map (bput mK h q) := by
  unfold BX10_readRule_88 gBX10_readRule_88
  simp only [gx_bs, gx_ms, gx_mn, gx_bn, gx_bm, gx_mb, gx_ite, gx_exL, gx_b2, gx_b2m, gx_b2mm, gx_sl, gx_sr, gx_id, eFX10_must, eFX10_goesOn, wLX10_readRule_107, mK_al, mK_as, mK_gi15, mK_ob]
/-! BX10_readRule_65 -/
noncomputable def gBX10_readRule_65 (s0 : Int32) (h : MS) : Option (MS) :=
bind2 (gFX10_reads (0 : Int32) (12 : Int32) h) fun x43 h44 =>
(gFX10_wordHere h44).bind fun x46 =>
if x46 = (3 : Int32) then
 gBX10_readRule_88 s0 (1 : Int32) h44
else
 gBX10_readRule_88 s0 (0 : Int32) h44
theorem eBX10_readRule_65 {h : jx_H} {q : Nat} {S : MS} {s0 : Int32} : BX10_readRule_65 q s0 (bput mK h q S) = (gBX10_readRule_65 s0 S).map (bput mK h q) := by
  unfold BX10_readRule_65 gBX10_readRule_65
  simp only [gx_bs, gx_ms, gx_mn, gx_bn, gx_bm, gx_mb, gx_ite, gx_exL, gx_b2, gx_b2m, gx_b2mm, gx_sl, gx_sr, gx_id, eFX10_reads, eFX10_wordHere, eBX10_readRule_88, mK_al, mK_as, mK_ob]
/-! BX10_readRule_41 -/
noncomputable def gBX10_readRule_41 (l1 : Int32) (s1 : Int32) (h : MS) : Option (MS) :=
(gFX10_must s1 (4 : Int32) h).bind fun h49 =>
(some (h49.1 15)).bind fun x50 =>
if x50 ≤ 0 then
 (some (h49.1 14)).bind fun x51 =>
 (gFX10_borderAt l1 x51 h49).bind fun x53 =>
 gBX10_readRule_65 x53 h49
else
 gBX10_readRule_65 (0 : Int32) h49
theorem eBX10_readRule_41 {h : jx_H} {q : Nat} {S : MS} {l1 : Int32} {s1 : Int32} : BX10_readRule_41 q l1 q s1 (bput mK h q S) = (gBX10_readRule_41 l1 s1 S).map (bput mK h q) := by
  unfold BX10_readRule_41 gBX10_readRule_41
  simp only [gx_bs, gx_ms, gx_mn, gx_bn, gx_bm, gx_mb, gx_ite, gx_exL, gx_b2, gx_b2m, gx_b2mm, gx_sl, gx_sr, gx_id, eFX10_must, eFX10_borderAt, eBX10_readRule_65, mK_al, mK_as, mK_gi14, mK_gi15, mK_ob]
/-! BX10_readRule_36 -/
noncomputable def gBX10_readRule_36 (l1 : Int32) (h : MS) : Option (MS) :=
gBX10_readRule_41 l1 (1 : Int32) h
theorem eBX10_readRule_36 {h : jx_H} {q : Nat} {S : MS} {l1 : Int32} : BX10_readRule_36 q l1 q (bput mK h q S) = (gBX10_readRule_36 l1 S).map (bput mK h q) := by
  unfold BX10_readRule_36 gBX10_readRule_36
  simp only [gx_bs, gx_ms, gx_mn, gx_bn, gx_bm, gx_mb, gx_ite, gx_exL, gx_b2, gx_b2m, gx_b2mm, gx_sl, gx_sr, gx_id, eBX10_readRule_41, mK_al, mK_as, mK_ob]
/-! FX10_readRule -/
noncomputable def gFX10_readRule (h : MS) : Option (MS) :=
bind2 (gFX10_reads (0 : Int32) (12 : Int32) h) fun x56 h57 =>
(gFX10_looks (0 : Int32) (12 : Int32) h57).bind fun h59 =>
(some (h59.1 15)).bind fun x60 =>
if 0 < x60 then
 gBX10_readRule_36 x56 h59
else
 (some (h59.1 14)).bind fun x61 =>
 (gFX10_borderAt x56 x61 h59).bind fun x63 =>
 if x63 = (-1 : Int32) then
  gBX10_readRule_41 x56 (0 : Int32) h59
 else
  gBX10_readRule_36 x56 h59
theorem eFX10_readRule {h : jx_H} {q : Nat} {S : MS} : FX10_readRule q (bput mK h q S) = (gFX10_readRule  S).map (bput mK h q) := by
  unfold FX10_readRule gFX10_readRule
  simp only [gx_bs, gx_ms, gx_mn, gx_bn, gx_bm, gx_mb, gx_ite, gx_exL, gx_b2, gx_b2m, gx_b2mm, gx_sl, gx_sr, gx_id, eFX10_reads, eFX10_looks, eBX10_readRule_36, eFX10_borderAt, eBX10_readRule_41, mK_al, mK_as, mK_gi14, mK_gi15, mK_ob]
