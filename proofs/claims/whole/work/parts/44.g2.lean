/-! BX10_pointAt_42 -/
noncomputable def gBX10_pointAt_42 (l1 : Int32) (l2 : Int32) (l3 : Int32) (h : MS) : Option ((Int32) ⊕ (Int32)) :=
some (.inl (l3 + (1 : Int32)))
theorem eBX10_pointAt_42 {h : jx_H} {q : Nat} {S : MS} {l1 : Int32} {l2 : Int32} {l3 : Int32} : BX10_pointAt_42 q l1 l2 l3 (bput mK h q S) = gBX10_pointAt_42 l1 l2 l3 S := by
  unfold BX10_pointAt_42 gBX10_pointAt_42
  simp only [gx_bs, gx_ms, gx_mn, gx_bn, gx_bm, gx_mb, gx_ite, gx_exL, gx_b2, gx_b2m, gx_b2mm, gx_sl, gx_sr, gx_id, mK_al, mK_as, mK_ob]
/-! LX10_pointAt_2 -/
noncomputable def gLX10_pointAt_2 (l1 : Int32) (l2 : Int32) (l3 : Int32) (h : MS) : Option ((Int32) ⊕ (Int32)) :=
(gal mK h 1 (3 : Int32)).bind fun x2 =>
if x2 ≤ l3 then
 exL (some (-1 : Int32))
else
 (gal mK h 1 ((224 : Int32) + l3)).bind fun x4 =>
 if x4 = l1 then
  (gal mK h 1 ((236 : Int32) + l3)).bind fun x6 =>
  if x6 = l2 then
   exL (some l3)
  else
   gBX10_pointAt_42 l1 l2 l3 h
 else
  gBX10_pointAt_42 l1 l2 l3 h
theorem eLX10_pointAt_2 {h : jx_H} {q : Nat} {S : MS} {l1 : Int32} {l2 : Int32} {l3 : Int32} : LX10_pointAt_2 q l1 l2 l3 (bput mK h q S) = gLX10_pointAt_2 l1 l2 l3 S := by
  unfold LX10_pointAt_2 gLX10_pointAt_2
  simp only [gx_bs, gx_ms, gx_mn, gx_bn, gx_bm, gx_mb, gx_ite, gx_exL, gx_b2, gx_b2m, gx_b2mm, gx_sl, gx_sr, gx_id, eBX10_pointAt_42, mJ_1, mK_al, mK_al1, mK_as, mK_as1, mK_gr1, mK_ob]
/-! FX10_pointAt -/
noncomputable def gFX10_pointAt (l1 : Int32) (l2 : Int32) (h : MS) : Option (Int32) :=
itr (fun s : Int32 => gLX10_pointAt_2 l1 l2 s h) (0 : Int32)
theorem eFX10_pointAt {h : jx_H} {q : Nat} {S : MS} {l1 : Int32} {l2 : Int32} : FX10_pointAt q l1 l2 (bput mK h q S) = gFX10_pointAt l1 l2 S := by
  unfold FX10_pointAt gFX10_pointAt
  simp only [gx_bs, gx_ms, gx_mn, gx_bn, gx_bm, gx_mb, gx_ite, gx_exL, gx_b2, gx_b2m, gx_b2mm, gx_sl, gx_sr, gx_id, eLX10_pointAt_2, mK_al, mK_as, mK_ob]
/-! FX10_putsPoint -/
noncomputable def gFX10_putsPoint (l1 : Int32) (l2 : Int32) (h : MS) : Option (Int32 × MS) :=
(gal mK h 1 (3 : Int32)).bind fun x2 =>
(gas mK h 1 ((224 : Int32) + x2) l1).bind fun h4 =>
(gas mK h4 1 ((236 : Int32) + x2) l2).bind fun h6 =>
(gal mK h6 1 (3 : Int32)).bind fun x8 =>
(gas mK h6 1 (3 : Int32) (x8 + (1 : Int32))).bind fun h9 =>
some (x2, h9)
theorem eFX10_putsPoint {h : jx_H} {q : Nat} {S : MS} {l1 : Int32} {l2 : Int32} : FX10_putsPoint q l1 l2 (bput mK h q S) = (gFX10_putsPoint l1 l2 S).map (fun s : Int32 × MS => (s.1, bput mK h q s.2)) := by
  unfold FX10_putsPoint gFX10_putsPoint
  simp only [gx_bs, gx_ms, gx_mn, gx_bn, gx_bm, gx_mb, gx_ite, gx_exL, gx_b2, gx_b2m, gx_b2mm, gx_sl, gx_sr, gx_id, mJ_1, mK_al, mK_al1, mK_as, mK_as1, mK_gr1, mK_ob]
/-! BX10_readPoint_49 -/
noncomputable def gBX10_readPoint_49 (l1 : Int32) (s1 : Int32) (h : MS) : Option (MS) :=
(gFX10_must s1 (5 : Int32) h).bind fun h2 =>
(gFX10_p h2).bind fun x4 =>
bind2 (gFX10_reads (0 : Int32) (x4 - (1 : Int32)) h2) fun x6 h7 =>
(some (h7.1 15)).bind fun x8 =>
if x8 = 0 then
 bind2 (gFX10_putsPoint l1 x6 h7) fun x10 h11 =>
 some h11
else
 some h7
theorem eBX10_readPoint_49 {h : jx_H} {q : Nat} {S : MS} {l1 : Int32} {s1 : Int32} : BX10_readPoint_49 q l1 q s1 (bput mK h q S) = (gBX10_readPoint_49 l1 s1 S).map (bput mK h q) := by
  unfold BX10_readPoint_49 gBX10_readPoint_49
  simp only [gx_bs, gx_ms, gx_mn, gx_bn, gx_bm, gx_mb, gx_ite, gx_exL, gx_b2, gx_b2m, gx_b2mm, gx_sl, gx_sr, gx_id, eFX10_must, eFX10_p, eFX10_reads, eFX10_putsPoint, mK_al, mK_as, mK_gi15, mK_ob]
/-! BX10_readPoint_44 -/
noncomputable def gBX10_readPoint_44 (l1 : Int32) (h : MS) : Option (MS) :=
gBX10_readPoint_49 l1 (1 : Int32) h
theorem eBX10_readPoint_44 {h : jx_H} {q : Nat} {S : MS} {l1 : Int32} : BX10_readPoint_44 q l1 q (bput mK h q S) = (gBX10_readPoint_44 l1 S).map (bput mK h q) := by
  unfold BX10_readPoint_44 gBX10_readPoint_44
  simp only [gx_bs, gx_ms, gx_mn, gx_bn, gx_bm, gx_mb, gx_ite, gx_exL, gx_b2, gx_b2m, gx_b2mm, gx_sl, gx_sr, gx_id, eBX10_readPoint_49, mK_al, mK_as, mK_ob]
/-! FX10_readPoint -/
noncomputable def gFX10_readPoint (h : MS) : Option (MS) :=
(gFX10_p h).bind fun x14 =>
bind2 (gFX10_reads (0 : Int32) (x14 - (1 : Int32)) h) fun x16 h17 =>
(gFX10_p h17).bind fun x19 =>
(gFX10_looks (0 : Int32) (x19 - (1 : Int32)) h17).bind fun h21 =>
(some (h21.1 15)).bind fun x22 =>
if 0 < x22 then
 gBX10_readPoint_44 x16 h21
else
 (some (h21.1 14)).bind fun x23 =>
 (gFX10_pointAt x16 x23 h21).bind fun x25 =>
 if x25 = (-1 : Int32) then
  gBX10_readPoint_44 x16 h21
 else
  gBX10_readPoint_49 x16 (0 : Int32) h21
theorem eFX10_readPoint {h : jx_H} {q : Nat} {S : MS} : FX10_readPoint q (bput mK h q S) = (gFX10_readPoint  S).map (bput mK h q) := by
  unfold FX10_readPoint gFX10_readPoint
  simp only [gx_bs, gx_ms, gx_mn, gx_bn, gx_bm, gx_mb, gx_ite, gx_exL, gx_b2, gx_b2m, gx_b2mm, gx_sl, gx_sr, gx_id, eFX10_p, eFX10_reads, eFX10_looks, eBX10_readPoint_44, eFX10_pointAt, eBX10_readPoint_49, mK_al, mK_as, mK_gi14, mK_gi15, mK_ob]
/-! BX10_readStatement_163 -/
noncomputable def gBX10_readStatement_163 (s1 : Int32) (h : MS) : Option (MS) :=
(gFX10_must s1 (1 : Int32) h).bind fun h2 =>
(some (h2.1 15)).bind fun x3 =>
if x3 = 0 then
 (gFX10_goesOn h2).bind fun h5 =>
 some h5
else
 some h2
theorem eBX10_readStatement_163 {h : jx_H} {q : Nat} {S : MS} {s1 : Int32} : BX10_readStatement_163 q q s1 (bput mK h q S) = (gBX10_readStatement_163 s1 S).map (bput mK h q) := by
  unfold BX10_readStatement_163 gBX10_readStatement_163
  simp only [gx_bs, gx_ms, gx_mn, gx_bn, gx_bm, gx_mb, gx_ite, gx_exL, gx_b2, gx_b2m, gx_b2mm, gx_sl, gx_sr, gx_id, eFX10_must, eFX10_goesOn, mK_al, mK_as, mK_gi15, mK_ob]
/-! BX10_readStatement_149 -/
noncomputable def gBX10_readStatement_149 (h : MS) : Option (MS) :=
(some (h.1 13)).bind fun x7 =>
if x7 = (3 : Int32) then
 gBX10_readStatement_163 (1 : Int32) h
else
 gBX10_readStatement_163 (0 : Int32) h
theorem eBX10_readStatement_149 {h : jx_H} {q : Nat} {S : MS} : BX10_readStatement_149 q (bput mK h q S) = (gBX10_readStatement_149  S).map (bput mK h q) := by
  unfold BX10_readStatement_149 gBX10_readStatement_149
  simp only [gx_bs, gx_ms, gx_mn, gx_bn, gx_bm, gx_mb, gx_ite, gx_exL, gx_b2, gx_b2m, gx_b2mm, gx_sl, gx_sr, gx_id, eBX10_readStatement_163, mK_al, mK_as, mK_gi13, mK_ob]
/-! BX10_readStatement_79 -/
noncomputable def gBX10_readStatement_79 (l2 : Int32) (s1 : Int32) (h : MS) : Option (MS) :=
(gFX10_must s1 (3 : Int32) h).bind fun h10 =>
(some (h10.1 15)).bind fun x11 =>
if x11 ≤ 0 then
 (gFX10_goesOn h10).bind fun h13 =>
 if l2 = 0 then
  (gFX10_readPrime h13).bind fun h16 =>
  gBX10_readStatement_149 h16
 else
 if l2 = 1 then
  (gFX10_readJoin h13).bind fun h19 =>
  gBX10_readStatement_149 h19
 else
 if l2 = 2 then
  (gFX10_readRule h13).bind fun h22 =>
  gBX10_readStatement_149 h22
 else
 (gFX10_readPoint h13).bind fun h24 =>
 gBX10_readStatement_149 h24
else
 some h10
theorem eBX10_readStatement_79 {h : jx_H} {q : Nat} {S : MS} {l2 : Int32} {s1 : Int32} : BX10_readStatement_79 q l2 q s1 (bput mK h q S) = (gBX10_readStatement_79 l2 s1 S).map (bput mK h q) := by
  unfold BX10_readStatement_79 gBX10_readStatement_79
  simp only [gx_bs, gx_ms, gx_mn, gx_bn, gx_bm, gx_mb, gx_ite, gx_exL, gx_b2, gx_b2m, gx_b2mm, gx_sl, gx_sr, gx_id, eFX10_must, eFX10_goesOn, eFX10_readPrime, eBX10_readStatement_149, eFX10_readJoin, eFX10_readRule, eFX10_readPoint, mK_al, mK_as, mK_gi15, mK_ob]
/-! BX10_readStatement_74 -/
noncomputable def gBX10_readStatement_74 (l2 : Int32) (h : MS) : Option (MS) :=
gBX10_readStatement_79 l2 (1 : Int32) h
theorem eBX10_readStatement_74 {h : jx_H} {q : Nat} {S : MS} {l2 : Int32} : BX10_readStatement_74 q l2 q (bput mK h q S) = (gBX10_readStatement_74 l2 S).map (bput mK h q) := by
  unfold BX10_readStatement_74 gBX10_readStatement_74
  simp only [gx_bs, gx_ms, gx_mn, gx_bn, gx_bm, gx_mb, gx_ite, gx_exL, gx_b2, gx_b2m, gx_b2mm, gx_sl, gx_sr, gx_id, eBX10_readStatement_79, mK_al, mK_as, mK_ob]
/-! BX10_readStatement_53 -/
noncomputable def gBX10_readStatement_53 (l2 : Int32) (s1 : Int32) (h : MS) : Option (MS) :=
(gFX10_must s1 (3 : Int32) h).bind fun h27 =>
if l2 = (4 : Int32) then
 (gal mK h27 1 (3 : Int32)).bind fun x29 =>
 if (12 : Int32) ≤ x29 then
  gBX10_readStatement_79 l2 (0 : Int32) h27
 else
  gBX10_readStatement_74 l2 h27
else
 gBX10_readStatement_74 l2 h27
theorem eBX10_readStatement_53 {h : jx_H} {q : Nat} {S : MS} {l2 : Int32} {s1 : Int32} : BX10_readStatement_53 q l2 q s1 (bput mK h q S) = (gBX10_readStatement_53 l2 s1 S).map (bput mK h q) := by
  unfold BX10_readStatement_53 gBX10_readStatement_53
  simp only [gx_bs, gx_ms, gx_mn, gx_bn, gx_bm, gx_mb, gx_ite, gx_exL, gx_b2, gx_b2m, gx_b2mm, gx_sl, gx_sr, gx_id, eFX10_must, eBX10_readStatement_79, eBX10_readStatement_74, mJ_1, mK_al, mK_al1, mK_as, mK_as1, mK_gr1, mK_ob]
/-! BX10_readStatement_48 -/
noncomputable def gBX10_readStatement_48 (l2 : Int32) (h : MS) : Option (MS) :=
gBX10_readStatement_53 l2 (1 : Int32) h
theorem eBX10_readStatement_48 {h : jx_H} {q : Nat} {S : MS} {l2 : Int32} : BX10_readStatement_48 q l2 q (bput mK h q S) = (gBX10_readStatement_48 l2 S).map (bput mK h q) := by
  unfold BX10_readStatement_48 gBX10_readStatement_48
  simp only [gx_bs, gx_ms, gx_mn, gx_bn, gx_bm, gx_mb, gx_ite, gx_exL, gx_b2, gx_b2m, gx_b2mm, gx_sl, gx_sr, gx_id, eBX10_readStatement_53, mK_al, mK_as, mK_ob]
/-! BX10_readStatement_29 -/
noncomputable def gBX10_readStatement_29 (l2 : Int32) (s1 : Int32) (h : MS) : Option (MS) :=
(gFX10_must s1 (1 : Int32) h).bind fun h33 =>
if l2 = (1 : Int32) then
 (gFX10_n h33).bind fun x35 =>
 if (12 : Int32) ≤ x35 then
  gBX10_readStatement_53 l2 (0 : Int32) h33
 else
  gBX10_readStatement_48 l2 h33
else
 gBX10_readStatement_48 l2 h33
theorem eBX10_readStatement_29 {h : jx_H} {q : Nat} {S : MS} {l2 : Int32} {s1 : Int32} : BX10_readStatement_29 q l2 q s1 (bput mK h q S) = (gBX10_readStatement_29 l2 s1 S).map (bput mK h q) := by
  unfold BX10_readStatement_29 gBX10_readStatement_29
  simp only [gx_bs, gx_ms, gx_mn, gx_bn, gx_bm, gx_mb, gx_ite, gx_exL, gx_b2, gx_b2m, gx_b2mm, gx_sl, gx_sr, gx_id, eFX10_must, eFX10_n, eBX10_readStatement_53, eBX10_readStatement_48, mK_al, mK_as, mK_ob]
/-! BX10_readStatement_28 -/
noncomputable def gBX10_readStatement_28 (l2 : Int32) (h : MS) : Option (MS) :=
gBX10_readStatement_29 l2 (0 : Int32) h
theorem eBX10_readStatement_28 {h : jx_H} {q : Nat} {S : MS} {l2 : Int32} : BX10_readStatement_28 q l2 q (bput mK h q S) = (gBX10_readStatement_28 l2 S).map (bput mK h q) := by
  unfold BX10_readStatement_28 gBX10_readStatement_28
  simp only [gx_bs, gx_ms, gx_mn, gx_bn, gx_bm, gx_mb, gx_ite, gx_exL, gx_b2, gx_b2m, gx_b2mm, gx_sl, gx_sr, gx_id, eBX10_readStatement_29, mK_al, mK_as, mK_ob]
/-! BX10_readStatement_24 -/
noncomputable def gBX10_readStatement_24 (l2 : Int32) (h : MS) : Option (MS) :=
gBX10_readStatement_29 l2 (1 : Int32) h
theorem eBX10_readStatement_24 {h : jx_H} {q : Nat} {S : MS} {l2 : Int32} : BX10_readStatement_24 q l2 q (bput mK h q S) = (gBX10_readStatement_24 l2 S).map (bput mK h q) := by
  unfold BX10_readStatement_24 gBX10_readStatement_24
  simp only [gx_bs, gx_ms, gx_mn, gx_bn, gx_bm, gx_mb, gx_ite, gx_exL, gx_b2, gx_b2m, gx_b2mm, gx_sl, gx_sr, gx_id, eBX10_readStatement_29, mK_al, mK_as, mK_ob]
/-! FX10_readStatement -/
noncomputable def gFX10_readStatement (l1 : Int32) (h : MS) : Option (MS) :=
(gFX10_wordHere h).bind fun x39 =>
if x39 = (-1 : Int32) then
 gBX10_readStatement_28 x39 h
else
 if x39 = (3 : Int32) then
  gBX10_readStatement_28 x39 h
 else
  if x39 = 0 then
   if l1 = 0 then
    gBX10_readStatement_28 x39 h
   else
    gBX10_readStatement_24 x39 h
  else
   gBX10_readStatement_24 x39 h
theorem eFX10_readStatement {h : jx_H} {q : Nat} {S : MS} {l1 : Int32} : FX10_readStatement q l1 (bput mK h q S) = (gFX10_readStatement l1 S).map (bput mK h q) := by
  unfold FX10_readStatement gFX10_readStatement
  simp only [gx_bs, gx_ms, gx_mn, gx_bn, gx_bm, gx_mb, gx_ite, gx_exL, gx_b2, gx_b2m, gx_b2mm, gx_sl, gx_sr, gx_id, eFX10_wordHere, eBX10_readStatement_28, eBX10_readStatement_24, mK_al, mK_as, mK_ob]
/-! FX10_opensText -/
noncomputable def gFX10_opensText (h : MS) : Option (MS) :=
(some (gpi h 11 (0 : Int32))).bind fun h1 =>
(some (gpi h1 15 (0 : Int32))).bind fun h2 =>
(some (gpi h2 16 (-1 : Int32))).bind fun h3 =>
(gFX10_goesOn h3).bind fun h5 =>
some h5
theorem eFX10_opensText {h : jx_H} {q : Nat} {S : MS} : FX10_opensText q (bput mK h q S) = (gFX10_opensText  S).map (bput mK h q) := by
  unfold FX10_opensText gFX10_opensText
  simp only [gx_bs, gx_ms, gx_mn, gx_bn, gx_bm, gx_mb, gx_ite, gx_exL, gx_b2, gx_b2m, gx_b2mm, gx_sl, gx_sr, gx_id, eFX10_goesOn, mK_al, mK_as, mK_ob, mK_pi11, mK_pi15, mK_pi16]
/-! LX10_load_86 -/
noncomputable def gLX10_load_86 (l2 : Int32) (h : MS) : Option ((Int32 × MS) ⊕ (Int32 × MS)) :=
if (6 : Int32) ≤ l2 then
 exL ((gFX10_n h).bind fun x6 =>
 some (x6, h))
else
 (gas mK h 7 l2 (0 : Int32)).bind fun h8 =>
 some (.inl ((l2 + (1 : Int32)), h8))
theorem eLX10_load_86 {h : jx_H} {q : Nat} {S : MS} {l2 : Int32} : LX10_load_86 q l2 (bput mK h q S) = (gLX10_load_86 l2 S).map (Sum.map (fun s : Int32 × MS => (s.1, bput mK h q s.2)) (fun s : Int32 × MS => (s.1, bput mK h q s.2))) := by
  unfold LX10_load_86 gLX10_load_86
  simp only [gx_bs, gx_ms, gx_mn, gx_bn, gx_bm, gx_mb, gx_ite, gx_exL, gx_b2, gx_b2m, gx_b2mm, gx_sl, gx_sr, gx_id, eFX10_n, mJ_7, mK_al, mK_al7, mK_as, mK_as7, mK_gr8, mK_ob]
theorem wLX10_load_86 {h : jx_H} {q : Nat} {S : MS} {c0 : Int32} : itr (fun s : Int32 × jx_H => LX10_load_86 q s.1 s.2) (c0, bput mK h q S) = (itr (fun s : Int32 × MS => gLX10_load_86  s.1 s.2) (c0, S)).map (fun s : Int32 × MS => (s.1, bput mK h q s.2)) :=
  itr_map (φ := (fun s : Int32 × MS => (s.1, bput mK h q s.2))) (ψ := (fun s : Int32 × MS => (s.1, bput mK h q s.2))) (fun s => eLX10_load_86) (c0, S)

/-! BX10_load_47 -/
noncomputable def gBX10_load_47 (h : MS) : Option (Int32 × MS) :=
(some (gpi h 10 (0 : Int32))).bind fun h1 =>
(some (gpi h1 0 (0 : Int32))).bind fun h2 =>
(some (h2.1 15)).bind fun x3 =>
if x3 ≤ 0 then
 (some (gpi h2 5 (0 : Int32))).bind fun h4 =>
 itr (fun s : Int32 × MS => gLX10_load_86 s.1 s.2) ((0 : Int32), h4)
else
 (gFX10_copies 2 (0 : Int32) 1 (0 : Int32) h2).bind fun h12 =>
 some ((-1 : Int32), h12)
theorem eBX10_load_47 {h : jx_H} {q : Nat} {S : MS} : BX10_load_47 q (bput mK h q S) = (gBX10_load_47  S).map (fun s : Int32 × MS => (s.1, bput mK h q s.2)) := by
  unfold BX10_load_47 gBX10_load_47
  simp only [gx_bs, gx_ms, gx_mn, gx_bn, gx_bm, gx_mb, gx_ite, gx_exL, gx_b2, gx_b2m, gx_b2mm, gx_sl, gx_sr, gx_id, wLX10_load_86, eFX10_copies, mJ_1, mJ_2, mK_al, mK_al1, mK_al2, mK_as, mK_as1, mK_as2, mK_gi15, mK_gr1, mK_gr2, mK_ob, mK_pi0, mK_pi10, mK_pi5]
/-! LX10_load_23 -/
noncomputable def gLX10_load_23 (l1 : Int32) (h : MS) : Option ((Int32 × MS) ⊕ (Int32 × MS)) :=
(some (h.1 15)).bind fun x21 =>
if x21 = 0 then
 (some (h.1 13)).bind fun x22 =>
 if x22 = 0 then
  exL (gBX10_load_47 h)
 else
  (gFX10_readStatement l1 h).bind fun h24 =>
  some (.inl ((0 : Int32), h24))
else
 exL (gBX10_load_47 h)
theorem eLX10_load_23 {h : jx_H} {q : Nat} {S : MS} {l1 : Int32} : LX10_load_23 q l1 (bput mK h q S) = (gLX10_load_23 l1 S).map (Sum.map (fun s : Int32 × MS => (s.1, bput mK h q s.2)) (fun s : Int32 × MS => (s.1, bput mK h q s.2))) := by
  unfold LX10_load_23 gLX10_load_23
  simp only [gx_bs, gx_ms, gx_mn, gx_bn, gx_bm, gx_mb, gx_ite, gx_exL, gx_b2, gx_b2m, gx_b2mm, gx_sl, gx_sr, gx_id, eBX10_load_47, eFX10_readStatement, mK_al, mK_as, mK_gi13, mK_gi15, mK_ob]
theorem wLX10_load_23 {h : jx_H} {q : Nat} {S : MS} {c0 : Int32} : itr (fun s : Int32 × jx_H => LX10_load_23 q s.1 s.2) (c0, bput mK h q S) = (itr (fun s : Int32 × MS => gLX10_load_23  s.1 s.2) (c0, S)).map (fun s : Int32 × MS => (s.1, bput mK h q s.2)) :=
  itr_map (φ := (fun s : Int32 × MS => (s.1, bput mK h q s.2))) (ψ := (fun s : Int32 × MS => (s.1, bput mK h q s.2))) (fun s => eLX10_load_23) (c0, S)

/-! FX10_load -/
noncomputable def gFX10_load (h : MS) : Option (Int32 × MS) :=
(gFX10_copies 1 (0 : Int32) 2 (0 : Int32) h).bind fun h16 =>
(gFX10_begins h16).bind fun h18 =>
(gFX10_opensText h18).bind fun h20 =>
itr (fun s : Int32 × MS => gLX10_load_23 s.1 s.2) ((1 : Int32), h20)
theorem eFX10_load {h : jx_H} {q : Nat} {S : MS} : FX10_load q (bput mK h q S) = (gFX10_load  S).map (fun s : Int32 × MS => (s.1, bput mK h q s.2)) := by
  unfold FX10_load gFX10_load
  simp only [gx_bs, gx_ms, gx_mn, gx_bn, gx_bm, gx_mb, gx_ite, gx_exL, gx_b2, gx_b2m, gx_b2mm, gx_sl, gx_sr, gx_id, eFX10_copies, eFX10_begins, eFX10_opensText, wLX10_load_23, mJ_1, mJ_2, mK_al, mK_al1, mK_al2, mK_as, mK_as1, mK_as2, mK_gr1, mK_gr2, mK_ob]
/-! FX10_errorCode -/
noncomputable def gFX10_errorCode (h : MS) : Option (Int32 × MS) :=
(some (gpi h 0 (0 : Int32))).bind fun h1 =>
(some (h1.1 15)).bind fun x2 =>
some (x2, h1)
theorem eFX10_errorCode {h : jx_H} {q : Nat} {S : MS} : FX10_errorCode q (bput mK h q S) = (gFX10_errorCode  S).map (fun s : Int32 × MS => (s.1, bput mK h q s.2)) := by
  unfold FX10_errorCode gFX10_errorCode
  simp only [gx_bs, gx_ms, gx_mn, gx_bn, gx_bm, gx_mb, gx_ite, gx_exL, gx_b2, gx_b2m, gx_b2mm, gx_sl, gx_sr, gx_id, mK_al, mK_as, mK_gi15, mK_ob, mK_pi0]
/-! FX10_errorPosition -/
noncomputable def gFX10_errorPosition (h : MS) : Option (Int32 × MS) :=
(some (gpi h 0 (0 : Int32))).bind fun h1 =>
(some (h1.1 16)).bind fun x2 =>
some (x2, h1)
theorem eFX10_errorPosition {h : jx_H} {q : Nat} {S : MS} : FX10_errorPosition q (bput mK h q S) = (gFX10_errorPosition  S).map (fun s : Int32 × MS => (s.1, bput mK h q s.2)) := by
  unfold FX10_errorPosition gFX10_errorPosition
  simp only [gx_bs, gx_ms, gx_mn, gx_bn, gx_bm, gx_mb, gx_ite, gx_exL, gx_b2, gx_b2m, gx_b2mm, gx_sl, gx_sr, gx_id, mK_al, mK_as, mK_gi16, mK_ob, mK_pi0]
/-! FX10_cell -/
noncomputable def gFX10_cell (l0 : Int32) (l1 : Int32) (h : MS) : Option (Int32) :=
some (((12 : Int32) * l0) + l1)
theorem eFX10_cell {h : jx_H} {q : Nat} {S : MS} {l0 : Int32} {l1 : Int32} : FX10_cell l0 l1 (bput mK h q S) = gFX10_cell l0 l1 S := by
  unfold FX10_cell gFX10_cell
  simp only [gx_bs, gx_ms, gx_mn, gx_bn, gx_bm, gx_mb, gx_ite, gx_exL, gx_b2, gx_b2m, gx_b2mm, gx_sl, gx_sr, gx_id, mK_al, mK_as, mK_ob]
/-! BX10_laysTable_108 -/
noncomputable def gBX10_laysTable_108 (l1 : Nat) (l2 : Int32) (l3 : Int32) (l4 : Int32) (l5 : Int32) (l6 : Int32) (l7 : Int32) (l8 : Int32) (s0 : Nat) (s1 : Int32) (s2 : Int32) (h : MS) : Option ((Int32 × MS) ⊕ ((Int32 × MS) ⊕ (MS))) :=
(gas mK h s0 s1 s2).bind fun h9 =>
some (.inl ((l8 + (1 : Int32)), h9))
theorem eBX10_laysTable_108 {h : jx_H} {q : Nat} {S : MS} {l1 : Nat} {l2 : Int32} {l3 : Int32} {l4 : Int32} {l5 : Int32} {l6 : Int32} {l7 : Int32} {l8 : Int32} {s0 : Nat} {s1 : Int32} {s2 : Int32} (Jl1 : mJ l1) (Js0 : mJ s0) : BX10_laysTable_108 q (q + l1) l2 l3 l4 l5 l6 l7 l8 (q + s0) s1 s2 (bput mK h q S) = (gBX10_laysTable_108 l1 l2 l3 l4 l5 l6 l7 l8 s0 s1 s2 S).map (Sum.map (fun s : Int32 × MS => (s.1, bput mK h q s.2)) (Sum.map (fun s : Int32 × MS => (s.1, bput mK h q s.2)) (bput mK h q))) := by
  unfold BX10_laysTable_108 gBX10_laysTable_108
  simp only [gx_bs, gx_ms, gx_mn, gx_bn, gx_bm, gx_mb, gx_ite, gx_exL, gx_b2, gx_b2m, gx_b2mm, gx_sl, gx_sr, gx_id, Jl1, Js0, mK_al, mK_as, mK_ob]
/-! LX10_laysTable_52 -/
noncomputable def gLX10_laysTable_52 (l1 : Nat) (l2 : Int32) (l3 : Int32) (l4 : Int32) (l5 : Int32) (l6 : Int32) (l7 : Int32) (l8 : Int32) (h : MS) : Option ((Int32 × MS) ⊕ ((Int32 × MS) ⊕ (MS))) :=
(gFX10_n h).bind fun x11 =>
if x11 ≤ l8 then
 exL (some (.inl ((l4 + (1 : Int32)), h)))
else
 (gFX10_cell l8 l4 h).bind fun x12 =>
 if l7 = (-1 : Int32) then
  (gFX10_borderAt l5 l6 h).bind fun x15 =>
  (gFX10_ruleAt x15 l8 h).bind fun x16 =>
  (gal mK h 1 x16).bind fun x17 =>
  gBX10_laysTable_108 l1 l2 l3 l4 l5 l6 l7 l8 l1 x12 x17 h
 else
  if l8 = l7 then
   gBX10_laysTable_108 l1 l2 l3 l4 l5 l6 l7 l8 l1 x12 (1 : Int32) h
  else
   gBX10_laysTable_108 l1 l2 l3 l4 l5 l6 l7 l8 l1 x12 (0 : Int32) h
theorem eLX10_laysTable_52 {h : jx_H} {q : Nat} {S : MS} {l1 : Nat} {l2 : Int32} {l3 : Int32} {l4 : Int32} {l5 : Int32} {l6 : Int32} {l7 : Int32} {l8 : Int32} (Jl1 : mJ l1) : LX10_laysTable_52 q (q + l1) l2 l3 l4 l5 l6 l7 l8 (bput mK h q S) = (gLX10_laysTable_52 l1 l2 l3 l4 l5 l6 l7 l8 S).map (Sum.map (fun s : Int32 × MS => (s.1, bput mK h q s.2)) (Sum.map (fun s : Int32 × MS => (s.1, bput mK h q s.2)) (bput mK h q))) := by
  unfold LX10_laysTable_52 gLX10_laysTable_52
  simp only [gx_bs, gx_ms, gx_mn, gx_bn, gx_bm, gx_mb, gx_ite, gx_exL, gx_b2, gx_b2m, gx_b2mm, gx_sl, gx_sr, gx_id, eFX10_n, eFX10_cell, eFX10_borderAt, eFX10_ruleAt, eBX10_laysTable_108, Jl1, mJ_1, mK_al, mK_al1, mK_as, mK_as1, mK_gr1, mK_ob]
theorem wLX10_laysTable_52 {h : jx_H} {q : Nat} {S : MS} {l1 : Nat} {l2 : Int32} {l3 : Int32} {l4 : Int32} {l5 : Int32} {l6 : Int32} {l7 : Int32} {c0 : Int32} (Jl1 : mJ l1) : itr (fun s : Int32 × jx_H => LX10_laysTable_52 q (q + l1) l2 l3 l4 l5 l6 l7 s.1 s.2) (c0, bput mK h q S) = (itr (fun s : Int32 × MS => gLX10_laysTable_52 l1 l2 l3 l4 l5 l6 l7 s.1 s.2) (c0, S)).map (Sum.map (fun s : Int32 × MS => (s.1, bput mK h q s.2)) (bput mK h q)) :=
  itr_map (φ := (fun s : Int32 × MS => (s.1, bput mK h q s.2))) (ψ := (Sum.map (fun s : Int32 × MS => (s.1, bput mK h q s.2)) (bput mK h q))) (fun s => eLX10_laysTable_52 Jl1) (c0, S)

/-! LX10_laysTable_3 -/
noncomputable def gLX10_laysTable_3 (l1 : Nat) (l2 : Int32) (l3 : Int32) (l4 : Int32) (h : MS) : Option ((Int32 × MS) ⊕ (MS)) :=
(gFX10_n h).bind fun x2 =>
if x2 ≤ l4 then
 exL (some h)
else
 (gal mK h 1 ((4 : Int32) + l4)).bind fun x4 =>
 (gal mK h 1 ((16 : Int32) + l4)).bind fun x6 =>
 (gFX10_monomialAt (x4 + l2) (x6 + l3) h).bind fun x8 =>
 itr (fun s : Int32 × MS => gLX10_laysTable_52 l1 l2 l3 l4 (x4 + l2) (x6 + l3) x8 s.1 s.2) ((0 : Int32), h)
theorem eLX10_laysTable_3 {h : jx_H} {q : Nat} {S : MS} {l1 : Nat} {l2 : Int32} {l3 : Int32} {l4 : Int32} (Jl1 : mJ l1) : LX10_laysTable_3 q (q + l1) l2 l3 l4 (bput mK h q S) = (gLX10_laysTable_3 l1 l2 l3 l4 S).map (Sum.map (fun s : Int32 × MS => (s.1, bput mK h q s.2)) (bput mK h q)) := by
  unfold LX10_laysTable_3 gLX10_laysTable_3
  simp only [gx_bs, gx_ms, gx_mn, gx_bn, gx_bm, gx_mb, gx_ite, gx_exL, gx_b2, gx_b2m, gx_b2mm, gx_sl, gx_sr, gx_id, eFX10_n, eFX10_monomialAt, wLX10_laysTable_52, Jl1, mJ_1, mK_al, mK_al1, mK_as, mK_as1, mK_gr1, mK_ob]
theorem wLX10_laysTable_3 {h : jx_H} {q : Nat} {S : MS} {l1 : Nat} {l2 : Int32} {l3 : Int32} {c0 : Int32} (Jl1 : mJ l1) : itr (fun s : Int32 × jx_H => LX10_laysTable_3 q (q + l1) l2 l3 s.1 s.2) (c0, bput mK h q S) = (itr (fun s : Int32 × MS => gLX10_laysTable_3 l1 l2 l3 s.1 s.2) (c0, S)).map (bput mK h q) :=
  itr_map (φ := (fun s : Int32 × MS => (s.1, bput mK h q s.2))) (ψ := (bput mK h q)) (fun s => eLX10_laysTable_3 Jl1) (c0, S)

/-! FX10_laysTable -/
noncomputable def gFX10_laysTable (l1 : Nat) (l2 : Int32) (l3 : Int32) (h : MS) : Option (MS) :=
itr (fun s : Int32 × MS => gLX10_laysTable_3 l1 l2 l3 s.1 s.2) ((0 : Int32), h)
theorem eFX10_laysTable {h : jx_H} {q : Nat} {S : MS} {l1 : Nat} {l2 : Int32} {l3 : Int32} (Jl1 : mJ l1) : FX10_laysTable q (q + l1) l2 l3 (bput mK h q S) = (gFX10_laysTable l1 l2 l3 S).map (bput mK h q) := by
  unfold FX10_laysTable gFX10_laysTable
  simp only [gx_bs, gx_ms, gx_mn, gx_bn, gx_bm, gx_mb, gx_ite, gx_exL, gx_b2, gx_b2m, gx_b2mm, gx_sl, gx_sr, gx_id, wLX10_laysTable_3, Jl1, mK_al, mK_as, mK_ob]
/-! FX10_laysTables -/
noncomputable def gFX10_laysTables (h : MS) : Option (MS) :=
(gFX10_laysTable 10 (1 : Int32) (0 : Int32) h).bind fun h3 =>
(gFX10_laysTable 11 (0 : Int32) (1 : Int32) h3).bind fun h6 =>
some h6
theorem eFX10_laysTables {h : jx_H} {q : Nat} {S : MS} : FX10_laysTables q (bput mK h q S) = (gFX10_laysTables  S).map (bput mK h q) := by
  unfold FX10_laysTables gFX10_laysTables
  simp only [gx_bs, gx_ms, gx_mn, gx_bn, gx_bm, gx_mb, gx_ite, gx_exL, gx_b2, gx_b2m, gx_b2mm, gx_sl, gx_sr, gx_id, eFX10_laysTable, mJ_10, mJ_11, mK_al, mK_al10, mK_al11, mK_as, mK_as10, mK_as11, mK_gr20, mK_gr21, mK_ob]
/-! LX10_multiplies_30 -/
noncomputable def gLX10_multiplies_30 (l1 : Nat) (l2 : Nat) (l3 : Nat) (l4 : Int32) (l5 : Int32) (l6 : Int32) (l7 : Int32) (h : MS) : Option ((Int32 × Int32) ⊕ ((Int32 × MS) ⊕ ((Int32 × MS) ⊕ (MS)))) :=
(gFX10_n h).bind fun x6 =>
if x6 ≤ l7 then
 exL ((gFX10_cell l4 l5 h).bind fun x7 =>
 (gFX10_p h).bind fun x9 =>
 if x9 = 0 then none else
 (gas mK h l3 x7 (l6 - l6 / x9 * x9)).bind fun h11 =>
 some (.inl ((l5 + (1 : Int32)), h11)))
else
 (gFX10_cell l4 l7 h).bind fun x12 =>
 (gal mK h l1 x12).bind fun x13 =>
 (gFX10_cell l7 l5 h).bind fun x14 =>
 (gal mK h l2 x14).bind fun x15 =>
 some (.inl ((l6 + (x13 * x15)), (l7 + (1 : Int32))))
theorem eLX10_multiplies_30 {h : jx_H} {q : Nat} {S : MS} {l1 : Nat} {l2 : Nat} {l3 : Nat} {l4 : Int32} {l5 : Int32} {l6 : Int32} {l7 : Int32} (Jl1 : mJ l1) (Jl2 : mJ l2) (Jl3 : mJ l3) : LX10_multiplies_30 q (q + l1) (q + l2) (q + l3) l4 l5 l6 l7 (bput mK h q S) = (gLX10_multiplies_30 l1 l2 l3 l4 l5 l6 l7 S).map (Sum.map id (Sum.map (fun s : Int32 × MS => (s.1, bput mK h q s.2)) (Sum.map (fun s : Int32 × MS => (s.1, bput mK h q s.2)) (bput mK h q)))) := by
  unfold LX10_multiplies_30 gLX10_multiplies_30
  simp only [gx_bs, gx_ms, gx_mn, gx_bn, gx_bm, gx_mb, gx_ite, gx_exL, gx_b2, gx_b2m, gx_b2mm, gx_sl, gx_sr, gx_id, eFX10_n, eFX10_cell, eFX10_p, Jl1, Jl2, Jl3, mK_al, mK_as, mK_ob]
theorem wLX10_multiplies_30 {h : jx_H} {q : Nat} {S : MS} {l1 : Nat} {l2 : Nat} {l3 : Nat} {l4 : Int32} {l5 : Int32} {c0 : Int32} {c1 : Int32} (Jl1 : mJ l1) (Jl2 : mJ l2) (Jl3 : mJ l3) : itr (fun s : Int32 × Int32 => LX10_multiplies_30 q (q + l1) (q + l2) (q + l3) l4 l5 s.1 s.2 (bput mK h q S)) (c0, c1) = (itr (fun s : Int32 × Int32 => gLX10_multiplies_30 l1 l2 l3 l4 l5 s.1 s.2 S) (c0, c1)).map (Sum.map (fun s : Int32 × MS => (s.1, bput mK h q s.2)) (Sum.map (fun s : Int32 × MS => (s.1, bput mK h q s.2)) (bput mK h q))) :=
  itr_map (φ := id) (ψ := (Sum.map (fun s : Int32 × MS => (s.1, bput mK h q s.2)) (Sum.map (fun s : Int32 × MS => (s.1, bput mK h q s.2)) (bput mK h q)))) (fun s => eLX10_multiplies_30 Jl1 Jl2 Jl3) (c0, c1)

/-! LX10_multiplies_15 -/
noncomputable def gLX10_multiplies_15 (l1 : Nat) (l2 : Nat) (l3 : Nat) (l4 : Int32) (l5 : Int32) (h : MS) : Option ((Int32 × MS) ⊕ ((Int32 × MS) ⊕ (MS))) :=
(gFX10_n h).bind fun x4 =>
if x4 ≤ l5 then
 exL (some (.inl ((l4 + (1 : Int32)), h)))
else
 itr (fun s : Int32 × Int32 => gLX10_multiplies_30 l1 l2 l3 l4 l5 s.1 s.2 h) ((0 : Int32), (0 : Int32))
theorem eLX10_multiplies_15 {h : jx_H} {q : Nat} {S : MS} {l1 : Nat} {l2 : Nat} {l3 : Nat} {l4 : Int32} {l5 : Int32} (Jl1 : mJ l1) (Jl2 : mJ l2) (Jl3 : mJ l3) : LX10_multiplies_15 q (q + l1) (q + l2) (q + l3) l4 l5 (bput mK h q S) = (gLX10_multiplies_15 l1 l2 l3 l4 l5 S).map (Sum.map (fun s : Int32 × MS => (s.1, bput mK h q s.2)) (Sum.map (fun s : Int32 × MS => (s.1, bput mK h q s.2)) (bput mK h q))) := by
  unfold LX10_multiplies_15 gLX10_multiplies_15
  simp only [gx_bs, gx_ms, gx_mn, gx_bn, gx_bm, gx_mb, gx_ite, gx_exL, gx_b2, gx_b2m, gx_b2mm, gx_sl, gx_sr, gx_id, eFX10_n, wLX10_multiplies_30, Jl1, Jl2, Jl3, mK_al, mK_as, mK_ob]
theorem wLX10_multiplies_15 {h : jx_H} {q : Nat} {S : MS} {l1 : Nat} {l2 : Nat} {l3 : Nat} {l4 : Int32} {c0 : Int32} (Jl1 : mJ l1) (Jl2 : mJ l2) (Jl3 : mJ l3) : itr (fun s : Int32 × jx_H => LX10_multiplies_15 q (q + l1) (q + l2) (q + l3) l4 s.1 s.2) (c0, bput mK h q S) = (itr (fun s : Int32 × MS => gLX10_multiplies_15 l1 l2 l3 l4 s.1 s.2) (c0, S)).map (Sum.map (fun s : Int32 × MS => (s.1, bput mK h q s.2)) (bput mK h q)) :=
  itr_map (φ := (fun s : Int32 × MS => (s.1, bput mK h q s.2))) (ψ := (Sum.map (fun s : Int32 × MS => (s.1, bput mK h q s.2)) (bput mK h q))) (fun s => eLX10_multiplies_15 Jl1 Jl2 Jl3) (c0, S)

/-! LX10_multiplies_3 -/
noncomputable def gLX10_multiplies_3 (l1 : Nat) (l2 : Nat) (l3 : Nat) (l4 : Int32) (h : MS) : Option ((Int32 × MS) ⊕ (MS)) :=
(gFX10_n h).bind fun x2 =>
if x2 ≤ l4 then
 exL (some h)
else
 itr (fun s : Int32 × MS => gLX10_multiplies_15 l1 l2 l3 l4 s.1 s.2) ((0 : Int32), h)
theorem eLX10_multiplies_3 {h : jx_H} {q : Nat} {S : MS} {l1 : Nat} {l2 : Nat} {l3 : Nat} {l4 : Int32} (Jl1 : mJ l1) (Jl2 : mJ l2) (Jl3 : mJ l3) : LX10_multiplies_3 q (q + l1) (q + l2) (q + l3) l4 (bput mK h q S) = (gLX10_multiplies_3 l1 l2 l3 l4 S).map (Sum.map (fun s : Int32 × MS => (s.1, bput mK h q s.2)) (bput mK h q)) := by
  unfold LX10_multiplies_3 gLX10_multiplies_3
  simp only [gx_bs, gx_ms, gx_mn, gx_bn, gx_bm, gx_mb, gx_ite, gx_exL, gx_b2, gx_b2m, gx_b2mm, gx_sl, gx_sr, gx_id, eFX10_n, wLX10_multiplies_15, Jl1, Jl2, Jl3, mK_al, mK_as, mK_ob]
theorem wLX10_multiplies_3 {h : jx_H} {q : Nat} {S : MS} {l1 : Nat} {l2 : Nat} {l3 : Nat} {c0 : Int32} (Jl1 : mJ l1) (Jl2 : mJ l2) (Jl3 : mJ l3) : itr (fun s : Int32 × jx_H => LX10_multiplies_3 q (q + l1) (q + l2) (q + l3) s.1 s.2) (c0, bput mK h q S) = (itr (fun s : Int32 × MS => gLX10_multiplies_3 l1 l2 l3 s.1 s.2) (c0, S)).map (bput mK h q) :=
  itr_map (φ := (fun s : Int32 × MS => (s.1, bput mK h q s.2))) (ψ := (bput mK h q)) (fun s => eLX10_multiplies_3 Jl1 Jl2 Jl3) (c0, S)

/-! FX10_multiplies -/
noncomputable def gFX10_multiplies (l1 : Nat) (l2 : Nat) (l3 : Nat) (h : MS) : Option (MS) :=
itr (fun s : Int32 × MS => gLX10_multiplies_3 l1 l2 l3 s.1 s.2) ((0 : Int32), h)
theorem eFX10_multiplies {h : jx_H} {q : Nat} {S : MS} {l1 : Nat} {l2 : Nat} {l3 : Nat} (Jl1 : mJ l1) (Jl2 : mJ l2) (Jl3 : mJ l3) : FX10_multiplies q (q + l1) (q + l2) (q + l3) (bput mK h q S) = (gFX10_multiplies l1 l2 l3 S).map (bput mK h q) := by
  unfold FX10_multiplies gFX10_multiplies
  simp only [gx_bs, gx_ms, gx_mn, gx_bn, gx_bm, gx_mb, gx_ite, gx_exL, gx_b2, gx_b2m, gx_b2mm, gx_sl, gx_sr, gx_id, wLX10_multiplies_3, Jl1, Jl2, Jl3, mK_al, mK_as, mK_ob]
/-! LX10_copiesCells_2 -/
noncomputable def gLX10_copiesCells_2 (l1 : Nat) (l2 : Nat) (l3 : Int32) (h : MS) : Option ((Int32 × MS) ⊕ (MS)) :=
if (144 : Int32) ≤ l3 then
 exL (some h)
else
 (gal mK h l1 l3).bind fun x1 =>
 (gas mK h l2 l3 x1).bind fun h2 =>
 some (.inl ((l3 + (1 : Int32)), h2))
theorem eLX10_copiesCells_2 {h : jx_H} {q : Nat} {S : MS} {l1 : Nat} {l2 : Nat} {l3 : Int32} (Jl1 : mJ l1) (Jl2 : mJ l2) : LX10_copiesCells_2 (q + l1) (q + l2) l3 (bput mK h q S) = (gLX10_copiesCells_2 l1 l2 l3 S).map (Sum.map (fun s : Int32 × MS => (s.1, bput mK h q s.2)) (bput mK h q)) := by
  unfold LX10_copiesCells_2 gLX10_copiesCells_2
  simp only [gx_bs, gx_ms, gx_mn, gx_bn, gx_bm, gx_mb, gx_ite, gx_exL, gx_b2, gx_b2m, gx_b2mm, gx_sl, gx_sr, gx_id, Jl1, Jl2, mK_al, mK_as, mK_ob]
theorem wLX10_copiesCells_2 {h : jx_H} {q : Nat} {S : MS} {l1 : Nat} {l2 : Nat} {c0 : Int32} (Jl1 : mJ l1) (Jl2 : mJ l2) : itr (fun s : Int32 × jx_H => LX10_copiesCells_2 (q + l1) (q + l2) s.1 s.2) (c0, bput mK h q S) = (itr (fun s : Int32 × MS => gLX10_copiesCells_2 l1 l2 s.1 s.2) (c0, S)).map (bput mK h q) :=
  itr_map (φ := (fun s : Int32 × MS => (s.1, bput mK h q s.2))) (ψ := (bput mK h q)) (fun s => eLX10_copiesCells_2 Jl1 Jl2) (c0, S)

/-! FX10_copiesCells -/
noncomputable def gFX10_copiesCells (l1 : Nat) (l2 : Nat) (h : MS) : Option (MS) :=
itr (fun s : Int32 × MS => gLX10_copiesCells_2 l1 l2 s.1 s.2) ((0 : Int32), h)
theorem eFX10_copiesCells {h : jx_H} {q : Nat} {S : MS} {l1 : Nat} {l2 : Nat} (Jl1 : mJ l1) (Jl2 : mJ l2) : FX10_copiesCells q (q + l1) (q + l2) (bput mK h q S) = (gFX10_copiesCells l1 l2 S).map (bput mK h q) := by
  unfold FX10_copiesCells gFX10_copiesCells
  simp only [gx_bs, gx_ms, gx_mn, gx_bn, gx_bm, gx_mb, gx_ite, gx_exL, gx_b2, gx_b2m, gx_b2mm, gx_sl, gx_sr, gx_id, wLX10_copiesCells_2, Jl1, Jl2, mK_al, mK_as, mK_ob]
/-! BX10_laysOne_23 -/
noncomputable def gBX10_laysOne_23 (l1 : Nat) (l2 : Int32) (s0 : Nat) (s1 : Int32) (s2 : Int32) (h : MS) : Option ((Int32 × MS) ⊕ (MS)) :=
(gas mK h s0 s1 s2).bind fun h1 =>
some (.inl ((l2 + (1 : Int32)), h1))
theorem eBX10_laysOne_23 {h : jx_H} {q : Nat} {S : MS} {l1 : Nat} {l2 : Int32} {s0 : Nat} {s1 : Int32} {s2 : Int32} (Jl1 : mJ l1) (Js0 : mJ s0) : BX10_laysOne_23 (q + l1) l2 (q + s0) s1 s2 (bput mK h q S) = (gBX10_laysOne_23 l1 l2 s0 s1 s2 S).map (Sum.map (fun s : Int32 × MS => (s.1, bput mK h q s.2)) (bput mK h q)) := by
  unfold BX10_laysOne_23 gBX10_laysOne_23
  simp only [gx_bs, gx_ms, gx_mn, gx_bn, gx_bm, gx_mb, gx_ite, gx_exL, gx_b2, gx_b2m, gx_b2mm, gx_sl, gx_sr, gx_id, Jl1, Js0, mK_al, mK_as, mK_ob]
/-! LX10_laysOne_2 -/
noncomputable def gLX10_laysOne_2 (l1 : Nat) (l2 : Int32) (h : MS) : Option ((Int32 × MS) ⊕ (MS)) :=
if (144 : Int32) ≤ l2 then
 exL (some h)
else
 if (l2 - l2 / (13 : Int32) * (13 : Int32)) = 0 then
  gBX10_laysOne_23 l1 l2 l1 l2 (1 : Int32) h
 else
  gBX10_laysOne_23 l1 l2 l1 l2 (0 : Int32) h
theorem eLX10_laysOne_2 {h : jx_H} {q : Nat} {S : MS} {l1 : Nat} {l2 : Int32} (Jl1 : mJ l1) : LX10_laysOne_2 (q + l1) l2 (bput mK h q S) = (gLX10_laysOne_2 l1 l2 S).map (Sum.map (fun s : Int32 × MS => (s.1, bput mK h q s.2)) (bput mK h q)) := by
  unfold LX10_laysOne_2 gLX10_laysOne_2
  simp only [gx_bs, gx_ms, gx_mn, gx_bn, gx_bm, gx_mb, gx_ite, gx_exL, gx_b2, gx_b2m, gx_b2mm, gx_sl, gx_sr, gx_id, eBX10_laysOne_23, Jl1, mK_al, mK_as, mK_ob]
theorem wLX10_laysOne_2 {h : jx_H} {q : Nat} {S : MS} {l1 : Nat} {c0 : Int32} (Jl1 : mJ l1) : itr (fun s : Int32 × jx_H => LX10_laysOne_2 (q + l1) s.1 s.2) (c0, bput mK h q S) = (itr (fun s : Int32 × MS => gLX10_laysOne_2 l1 s.1 s.2) (c0, S)).map (bput mK h q) :=
  itr_map (φ := (fun s : Int32 × MS => (s.1, bput mK h q s.2))) (ψ := (bput mK h q)) (fun s => eLX10_laysOne_2 Jl1) (c0, S)

/-! FX10_laysOne -/
noncomputable def gFX10_laysOne (l1 : Nat) (h : MS) : Option (MS) :=
itr (fun s : Int32 × MS => gLX10_laysOne_2 l1 s.1 s.2) ((0 : Int32), h)
theorem eFX10_laysOne {h : jx_H} {q : Nat} {S : MS} {l1 : Nat} (Jl1 : mJ l1) : FX10_laysOne q (q + l1) (bput mK h q S) = (gFX10_laysOne l1 S).map (bput mK h q) := by
  unfold FX10_laysOne gFX10_laysOne
  simp only [gx_bs, gx_ms, gx_mn, gx_bn, gx_bm, gx_mb, gx_ite, gx_exL, gx_b2, gx_b2m, gx_b2mm, gx_sl, gx_sr, gx_id, wLX10_laysOne_2, Jl1, mK_al, mK_as, mK_ob]
/-! BX10_differences_87 -/
noncomputable def gBX10_differences_87 (l2 : Int32) (l3 : Int32) (s0 : Int32) (s1 : Int32) (h : MS) : Option ((Int32 × Int32) ⊕ ((Int32 × Int32) ⊕ (Int32 × MS))) :=
some (.inl ((s0 + s1), (l3 + (1 : Int32))))
theorem eBX10_differences_87 {h : jx_H} {q : Nat} {S : MS} {l2 : Int32} {l3 : Int32} {s0 : Int32} {s1 : Int32} : BX10_differences_87 q l2 l3 s0 s1 (bput mK h q S) = (gBX10_differences_87 l2 l3 s0 s1 S).map (Sum.map id (Sum.map id (fun s : Int32 × MS => (s.1, bput mK h q s.2)))) := by
  unfold BX10_differences_87 gBX10_differences_87
  simp only [gx_bs, gx_ms, gx_mn, gx_bn, gx_bm, gx_mb, gx_ite, gx_exL, gx_b2, gx_b2m, gx_b2mm, gx_sl, gx_sr, gx_id, mK_al, mK_as, mK_ob]
/-! LX10_differences_50 -/
noncomputable def gLX10_differences_50 (l2 : Int32) (l1 : Int32) (l3 : Int32) (h : MS) : Option ((Int32 × Int32) ⊕ ((Int32 × Int32) ⊕ (Int32 × MS))) :=
(gFX10_n h).bind fun x16 =>
if x16 ≤ l3 then
 exL (some (.inl (l1, (l2 + (1 : Int32)))))
else
 (gFX10_cell l2 l3 h).bind fun x18 =>
 (gal mK h 13 x18).bind fun x19 =>
 (gFX10_cell l2 l3 h).bind fun x21 =>
 (gal mK h 14 x21).bind fun x22 =>
 if x19 = x22 then
  gBX10_differences_87 l2 l3 l1 (0 : Int32) h
 else
  gBX10_differences_87 l2 l3 l1 (1 : Int32) h
theorem eLX10_differences_50 {h : jx_H} {q : Nat} {S : MS} {l2 : Int32} {l1 : Int32} {l3 : Int32} : LX10_differences_50 q l2 l1 l3 (bput mK h q S) = (gLX10_differences_50 l2 l1 l3 S).map (Sum.map id (Sum.map id (fun s : Int32 × MS => (s.1, bput mK h q s.2)))) := by
  unfold LX10_differences_50 gLX10_differences_50
  simp only [gx_bs, gx_ms, gx_mn, gx_bn, gx_bm, gx_mb, gx_ite, gx_exL, gx_b2, gx_b2m, gx_b2mm, gx_sl, gx_sr, gx_id, eFX10_n, eFX10_cell, eBX10_differences_87, mJ_13, mJ_14, mK_al, mK_al13, mK_al14, mK_as, mK_as13, mK_as14, mK_gr23, mK_gr24, mK_ob]
theorem wLX10_differences_50 {h : jx_H} {q : Nat} {S : MS} {l2 : Int32} {c0 : Int32} {c1 : Int32} : itr (fun s : Int32 × Int32 => LX10_differences_50 q l2 s.1 s.2 (bput mK h q S)) (c0, c1) = (itr (fun s : Int32 × Int32 => gLX10_differences_50 l2 s.1 s.2 S) (c0, c1)).map (Sum.map id (fun s : Int32 × MS => (s.1, bput mK h q s.2))) :=
  itr_map (φ := id) (ψ := (Sum.map id (fun s : Int32 × MS => (s.1, bput mK h q s.2)))) (fun s => eLX10_differences_50) (c0, c1)

/-! LX10_differences_40 -/
noncomputable def gLX10_differences_40 (l1 : Int32) (l2 : Int32) (h : MS) : Option ((Int32 × Int32) ⊕ (Int32 × MS)) :=
(gFX10_n h).bind fun x14 =>
if x14 ≤ l2 then
 exL (some (l1, h))
else
 itr (fun s : Int32 × Int32 => gLX10_differences_50 l2 s.1 s.2 h) (l1, (0 : Int32))
theorem eLX10_differences_40 {h : jx_H} {q : Nat} {S : MS} {l1 : Int32} {l2 : Int32} : LX10_differences_40 q l1 l2 (bput mK h q S) = (gLX10_differences_40 l1 l2 S).map (Sum.map id (fun s : Int32 × MS => (s.1, bput mK h q s.2))) := by
  unfold LX10_differences_40 gLX10_differences_40
  simp only [gx_bs, gx_ms, gx_mn, gx_bn, gx_bm, gx_mb, gx_ite, gx_exL, gx_b2, gx_b2m, gx_b2mm, gx_sl, gx_sr, gx_id, eFX10_n, wLX10_differences_50, mK_al, mK_as, mK_ob]
theorem wLX10_differences_40 {h : jx_H} {q : Nat} {S : MS} {c0 : Int32} {c1 : Int32} : itr (fun s : Int32 × Int32 => LX10_differences_40 q s.1 s.2 (bput mK h q S)) (c0, c1) = (itr (fun s : Int32 × Int32 => gLX10_differences_40  s.1 s.2 S) (c0, c1)).map (fun s : Int32 × MS => (s.1, bput mK h q s.2)) :=
  itr_map (φ := id) (ψ := (fun s : Int32 × MS => (s.1, bput mK h q s.2))) (fun s => eLX10_differences_40) (c0, c1)

/-! FX10_differences -/
noncomputable def gFX10_differences (h : MS) : Option (Int32 × MS) :=
(gFX10_laysTables h).bind fun h2 =>
(gFX10_multiplies 10 11 13 h2).bind fun h7 =>
(gFX10_multiplies 11 10 14 h7).bind fun h12 =>
itr (fun s : Int32 × Int32 => gLX10_differences_40 s.1 s.2 h12) ((0 : Int32), (0 : Int32))
theorem eFX10_differences {h : jx_H} {q : Nat} {S : MS} : FX10_differences q (bput mK h q S) = (gFX10_differences  S).map (fun s : Int32 × MS => (s.1, bput mK h q s.2)) := by
  unfold FX10_differences gFX10_differences
  simp only [gx_bs, gx_ms, gx_mn, gx_bn, gx_bm, gx_mb, gx_ite, gx_exL, gx_b2, gx_b2m, gx_b2mm, gx_sl, gx_sr, gx_id, eFX10_laysTables, eFX10_multiplies, wLX10_differences_40, mJ_10, mJ_11, mJ_13, mJ_14, mK_al, mK_al10, mK_al11, mK_al13, mK_al14, mK_as, mK_as10, mK_as11, mK_as13, mK_as14, mK_gr20, mK_gr21, mK_gr23, mK_gr24, mK_ob]
/-! FX10_areFriends -/
noncomputable def gFX10_areFriends (h : MS) : Option (Int32 × MS) :=
bind2 (gFX10_differences h) fun x2 h3 =>
if x2 = 0 then
 some ((1 : Int32), h3)
else
 some ((0 : Int32), h3)
theorem eFX10_areFriends {h : jx_H} {q : Nat} {S : MS} : FX10_areFriends q (bput mK h q S) = (gFX10_areFriends  S).map (fun s : Int32 × MS => (s.1, bput mK h q s.2)) := by
  unfold FX10_areFriends gFX10_areFriends
  simp only [gx_bs, gx_ms, gx_mn, gx_bn, gx_bm, gx_mb, gx_ite, gx_exL, gx_b2, gx_b2m, gx_b2mm, gx_sl, gx_sr, gx_id, eFX10_differences, mK_al, mK_as, mK_ob]
/-! LX10_raises_10 -/
noncomputable def gLX10_raises_10 (l1 : Nat) (l2 : Int32) (l3 : Int32) (h : MS) : Option ((Int32 × MS) ⊕ (MS)) :=
if l2 ≤ l3 then
 exL (some h)
else
 (gFX10_multiplies l1 12 14 h).bind fun h7 =>
 (gFX10_copiesCells 14 12 h7).bind fun h11 =>
 some (.inl ((l3 + (1 : Int32)), h11))
theorem eLX10_raises_10 {h : jx_H} {q : Nat} {S : MS} {l1 : Nat} {l2 : Int32} {l3 : Int32} (Jl1 : mJ l1) : LX10_raises_10 q (q + l1) l2 l3 (bput mK h q S) = (gLX10_raises_10 l1 l2 l3 S).map (Sum.map (fun s : Int32 × MS => (s.1, bput mK h q s.2)) (bput mK h q)) := by
  unfold LX10_raises_10 gLX10_raises_10
  simp only [gx_bs, gx_ms, gx_mn, gx_bn, gx_bm, gx_mb, gx_ite, gx_exL, gx_b2, gx_b2m, gx_b2mm, gx_sl, gx_sr, gx_id, eFX10_multiplies, eFX10_copiesCells, Jl1, mJ_12, mJ_14, mK_al, mK_al12, mK_al14, mK_as, mK_as12, mK_as14, mK_gr22, mK_gr24, mK_ob]
theorem wLX10_raises_10 {h : jx_H} {q : Nat} {S : MS} {l1 : Nat} {l2 : Int32} {c0 : Int32} (Jl1 : mJ l1) : itr (fun s : Int32 × jx_H => LX10_raises_10 q (q + l1) l2 s.1 s.2) (c0, bput mK h q S) = (itr (fun s : Int32 × MS => gLX10_raises_10 l1 l2 s.1 s.2) (c0, S)).map (bput mK h q) :=
  itr_map (φ := (fun s : Int32 × MS => (s.1, bput mK h q s.2))) (ψ := (bput mK h q)) (fun s => eLX10_raises_10 Jl1) (c0, S)

/-! FX10_raises -/
noncomputable def gFX10_raises (l1 : Nat) (l2 : Int32) (h : MS) : Option (MS) :=
(gFX10_laysOne 12 h).bind fun h3 =>
itr (fun s : Int32 × MS => gLX10_raises_10 l1 l2 s.1 s.2) ((0 : Int32), h3)
theorem eFX10_raises {h : jx_H} {q : Nat} {S : MS} {l1 : Nat} {l2 : Int32} (Jl1 : mJ l1) : FX10_raises q (q + l1) l2 (bput mK h q S) = (gFX10_raises l1 l2 S).map (bput mK h q) := by
  unfold FX10_raises gFX10_raises
  simp only [gx_bs, gx_ms, gx_mn, gx_bn, gx_bm, gx_mb, gx_ite, gx_exL, gx_b2, gx_b2m, gx_b2mm, gx_sl, gx_sr, gx_id, eFX10_laysOne, wLX10_raises_10, Jl1, mJ_12, mK_al, mK_al12, mK_as, mK_as12, mK_gr22, mK_ob]
/-! LX10_traceOf_55 -/
noncomputable def gLX10_traceOf_55 (l3 : Int32) (l4 : Int32) (h : MS) : Option ((Int32 × Int32) ⊕ (Int32 × MS)) :=
(gFX10_n h).bind fun x5 =>
if x5 ≤ l4 then
 exL ((gFX10_p h).bind fun x7 =>
 if x7 = 0 then none else
 some ((l3 - l3 / x7 * x7), h))
else
 (gFX10_cell l4 l4 h).bind fun x10 =>
 (gal mK h 12 x10).bind fun x11 =>
 some (.inl ((l3 + x11), (l4 + (1 : Int32))))
theorem eLX10_traceOf_55 {h : jx_H} {q : Nat} {S : MS} {l3 : Int32} {l4 : Int32} : LX10_traceOf_55 q l3 l4 (bput mK h q S) = (gLX10_traceOf_55 l3 l4 S).map (Sum.map id (fun s : Int32 × MS => (s.1, bput mK h q s.2))) := by
  unfold LX10_traceOf_55 gLX10_traceOf_55
  simp only [gx_bs, gx_ms, gx_mn, gx_bn, gx_bm, gx_mb, gx_ite, gx_exL, gx_b2, gx_b2m, gx_b2mm, gx_sl, gx_sr, gx_id, eFX10_n, eFX10_p, eFX10_cell, mJ_12, mK_al, mK_al12, mK_as, mK_as12, mK_gr22, mK_ob]
theorem wLX10_traceOf_55 {h : jx_H} {q : Nat} {S : MS} {c0 : Int32} {c1 : Int32} : itr (fun s : Int32 × Int32 => LX10_traceOf_55 q s.1 s.2 (bput mK h q S)) (c0, c1) = (itr (fun s : Int32 × Int32 => gLX10_traceOf_55  s.1 s.2 S) (c0, c1)).map (fun s : Int32 × MS => (s.1, bput mK h q s.2)) :=
  itr_map (φ := id) (ψ := (fun s : Int32 × MS => (s.1, bput mK h q s.2))) (fun s => eLX10_traceOf_55) (c0, c1)

/-! LX10_traceOf_11 -/
noncomputable def gLX10_traceOf_11 (l1 : Int32) (l3 : Int32) (h : MS) : Option ((Int32 × MS) ⊕ (Int32 × MS)) :=
if l1 ≤ l3 then
 exL (itr (fun s : Int32 × Int32 => gLX10_traceOf_55 s.1 s.2 h) ((0 : Int32), (0 : Int32)))
else
 (gFX10_multiplies 10 12 14 h).bind fun h17 =>
 (gFX10_copiesCells 14 12 h17).bind fun h21 =>
 some (.inl ((l3 + (1 : Int32)), h21))
theorem eLX10_traceOf_11 {h : jx_H} {q : Nat} {S : MS} {l1 : Int32} {l3 : Int32} : LX10_traceOf_11 q l1 l3 (bput mK h q S) = (gLX10_traceOf_11 l1 l3 S).map (Sum.map (fun s : Int32 × MS => (s.1, bput mK h q s.2)) (fun s : Int32 × MS => (s.1, bput mK h q s.2))) := by
  unfold LX10_traceOf_11 gLX10_traceOf_11
  simp only [gx_bs, gx_ms, gx_mn, gx_bn, gx_bm, gx_mb, gx_ite, gx_exL, gx_b2, gx_b2m, gx_b2mm, gx_sl, gx_sr, gx_id, wLX10_traceOf_55, eFX10_multiplies, eFX10_copiesCells, mJ_10, mJ_12, mJ_14, mK_al, mK_al10, mK_al12, mK_al14, mK_as, mK_as10, mK_as12, mK_as14, mK_gr20, mK_gr22, mK_gr24, mK_ob]
theorem wLX10_traceOf_11 {h : jx_H} {q : Nat} {S : MS} {l1 : Int32} {c0 : Int32} : itr (fun s : Int32 × jx_H => LX10_traceOf_11 q l1 s.1 s.2) (c0, bput mK h q S) = (itr (fun s : Int32 × MS => gLX10_traceOf_11 l1 s.1 s.2) (c0, S)).map (fun s : Int32 × MS => (s.1, bput mK h q s.2)) :=
  itr_map (φ := (fun s : Int32 × MS => (s.1, bput mK h q s.2))) (ψ := (fun s : Int32 × MS => (s.1, bput mK h q s.2))) (fun s => eLX10_traceOf_11) (c0, S)

/-! FX10_traceOf -/
noncomputable def gFX10_traceOf (l1 : Int32) (l2 : Int32) (h : MS) : Option (Int32 × MS) :=
(gFX10_raises 11 l2 h).bind fun h3 =>
itr (fun s : Int32 × MS => gLX10_traceOf_11 l1 s.1 s.2) ((0 : Int32), h3)
theorem eFX10_traceOf {h : jx_H} {q : Nat} {S : MS} {l1 : Int32} {l2 : Int32} : FX10_traceOf q l1 l2 (bput mK h q S) = (gFX10_traceOf l1 l2 S).map (fun s : Int32 × MS => (s.1, bput mK h q s.2)) := by
  unfold FX10_traceOf gFX10_traceOf
  simp only [gx_bs, gx_ms, gx_mn, gx_bn, gx_bm, gx_mb, gx_ite, gx_exL, gx_b2, gx_b2m, gx_b2mm, gx_sl, gx_sr, gx_id, eFX10_raises, wLX10_traceOf_11, mJ_11, mK_al, mK_al11, mK_as, mK_as11, mK_gr21, mK_ob]
/-! LX10_swapsRows_2 -/
noncomputable def gLX10_swapsRows_2 (l1 : Int32) (l2 : Int32) (l3 : Int32) (h : MS) : Option ((Int32 × MS) ⊕ (MS)) :=
if (12 : Int32) ≤ l3 then
 exL (some h)
else
 (gFX10_cell l1 l3 h).bind fun x2 =>
 (gal mK h 15 x2).bind fun x3 =>
 (gFX10_cell l1 l3 h).bind fun x5 =>
 (gFX10_cell l2 l3 h).bind fun x7 =>
 (gal mK h 15 x7).bind fun x8 =>
 (gas mK h 15 x5 x8).bind fun h9 =>
 (gFX10_cell l2 l3 h9).bind fun x11 =>
 (gas mK h9 15 x11 x3).bind fun h12 =>
 some (.inl ((l3 + (1 : Int32)), h12))
theorem eLX10_swapsRows_2 {h : jx_H} {q : Nat} {S : MS} {l1 : Int32} {l2 : Int32} {l3 : Int32} : LX10_swapsRows_2 q l1 l2 l3 (bput mK h q S) = (gLX10_swapsRows_2 l1 l2 l3 S).map (Sum.map (fun s : Int32 × MS => (s.1, bput mK h q s.2)) (bput mK h q)) := by
  unfold LX10_swapsRows_2 gLX10_swapsRows_2
  simp only [gx_bs, gx_ms, gx_mn, gx_bn, gx_bm, gx_mb, gx_ite, gx_exL, gx_b2, gx_b2m, gx_b2mm, gx_sl, gx_sr, gx_id, eFX10_cell, mJ_15, mK_al, mK_al15, mK_as, mK_as15, mK_gr25, mK_ob]
theorem wLX10_swapsRows_2 {h : jx_H} {q : Nat} {S : MS} {l1 : Int32} {l2 : Int32} {c0 : Int32} : itr (fun s : Int32 × jx_H => LX10_swapsRows_2 q l1 l2 s.1 s.2) (c0, bput mK h q S) = (itr (fun s : Int32 × MS => gLX10_swapsRows_2 l1 l2 s.1 s.2) (c0, S)).map (bput mK h q) :=
  itr_map (φ := (fun s : Int32 × MS => (s.1, bput mK h q s.2))) (ψ := (bput mK h q)) (fun s => eLX10_swapsRows_2) (c0, S)

/-! FX10_swapsRows -/
noncomputable def gFX10_swapsRows (l1 : Int32) (l2 : Int32) (h : MS) : Option (MS) :=
itr (fun s : Int32 × MS => gLX10_swapsRows_2 l1 l2 s.1 s.2) ((0 : Int32), h)
theorem eFX10_swapsRows {h : jx_H} {q : Nat} {S : MS} {l1 : Int32} {l2 : Int32} : FX10_swapsRows q l1 l2 (bput mK h q S) = (gFX10_swapsRows l1 l2 S).map (bput mK h q) := by
  unfold FX10_swapsRows gFX10_swapsRows
  simp only [gx_bs, gx_ms, gx_mn, gx_bn, gx_bm, gx_mb, gx_ite, gx_exL, gx_b2, gx_b2m, gx_b2mm, gx_sl, gx_sr, gx_id, wLX10_swapsRows_2, mK_al, mK_as, mK_ob]
/-! BX10_reduces_258 -/
noncomputable def gBX10_reduces_258 (l1 : Int32) (l2 : Int32) (h : MS) : Option ((Int32 × MS) ⊕ (MS)) :=
some (.inl ((l2 + (1 : Int32)), h))
theorem eBX10_reduces_258 {h : jx_H} {q : Nat} {S : MS} {l1 : Int32} {l2 : Int32} : BX10_reduces_258 q l1 l2 (bput mK h q S) = (gBX10_reduces_258 l1 l2 S).map (Sum.map (fun s : Int32 × MS => (s.1, bput mK h q s.2)) (bput mK h q)) := by
  unfold BX10_reduces_258 gBX10_reduces_258
  simp only [gx_bs, gx_ms, gx_mn, gx_bn, gx_bm, gx_mb, gx_ite, gx_exL, gx_b2, gx_b2m, gx_b2mm, gx_sl, gx_sr, gx_id, mK_al, mK_as, mK_ob]
/-! BX10_reduces_242 -/
noncomputable def gBX10_reduces_242 (l1 : Int32) (l2 : Int32) (l4 : Int32) (l5 : Int32) (h : MS) : Option ((Int32 × MS) ⊕ ((Int32 × MS) ⊕ (MS))) :=
some (.inl ((l5 + (1 : Int32)), h))
theorem eBX10_reduces_242 {h : jx_H} {q : Nat} {S : MS} {l1 : Int32} {l2 : Int32} {l4 : Int32} {l5 : Int32} : BX10_reduces_242 q l1 l2 l4 l5 (bput mK h q S) = (gBX10_reduces_242 l1 l2 l4 l5 S).map (Sum.map (fun s : Int32 × MS => (s.1, bput mK h q s.2)) (Sum.map (fun s : Int32 × MS => (s.1, bput mK h q s.2)) (bput mK h q))) := by
  unfold BX10_reduces_242 gBX10_reduces_242
  simp only [gx_bs, gx_ms, gx_mn, gx_bn, gx_bm, gx_mb, gx_ite, gx_exL, gx_b2, gx_b2m, gx_b2mm, gx_sl, gx_sr, gx_id, mK_al, mK_as, mK_ob]
/-! LX10_reduces_176 -/
noncomputable def gLX10_reduces_176 (l1 : Int32) (l2 : Int32) (l4 : Int32) (l5 : Int32) (l6 : Int32) (l7 : Int32) (h : MS) : Option ((Int32 × MS) ⊕ ((Int32 × MS) ⊕ ((Int32 × MS) ⊕ (MS)))) :=
(gFX10_n h).bind fun x28 =>
if x28 ≤ l7 then
 exL (gBX10_reduces_242 l1 l2 l4 l5 h)
else
 if l6 ≤ 0 then
  exL (gBX10_reduces_242 l1 l2 l4 l5 h)
 else
  (gFX10_cell l5 l7 h).bind fun x30 =>
  (gFX10_cell l5 l7 h).bind fun x32 =>
  (gal mK h 15 x32).bind fun x33 =>
  (some (h.1 28)).bind fun x35 =>
  (gFX10_cell x35 l7 h).bind fun x36 =>
  (gal mK h 15 x36).bind fun x37 =>
  (gFX10_mod (x33 - (l6 * x37)) h).bind fun x39 =>
  (gas mK h 15 x30 x39).bind fun h40 =>
  some (.inl ((l7 + (1 : Int32)), h40))
theorem eLX10_reduces_176 {h : jx_H} {q : Nat} {S : MS} {l1 : Int32} {l2 : Int32} {l4 : Int32} {l5 : Int32} {l6 : Int32} {l7 : Int32} : LX10_reduces_176 q l1 l2 l4 l5 l6 l7 (bput mK h q S) = (gLX10_reduces_176 l1 l2 l4 l5 l6 l7 S).map (Sum.map (fun s : Int32 × MS => (s.1, bput mK h q s.2)) (Sum.map (fun s : Int32 × MS => (s.1, bput mK h q s.2)) (Sum.map (fun s : Int32 × MS => (s.1, bput mK h q s.2)) (bput mK h q)))) := by
  unfold LX10_reduces_176 gLX10_reduces_176
  simp only [gx_bs, gx_ms, gx_mn, gx_bn, gx_bm, gx_mb, gx_ite, gx_exL, gx_b2, gx_b2m, gx_b2mm, gx_sl, gx_sr, gx_id, eFX10_n, eBX10_reduces_242, eFX10_cell, eFX10_mod, mJ_15, mK_al, mK_al15, mK_as, mK_as15, mK_gi28, mK_gr25, mK_ob]
theorem wLX10_reduces_176 {h : jx_H} {q : Nat} {S : MS} {l1 : Int32} {l2 : Int32} {l4 : Int32} {l5 : Int32} {l6 : Int32} {c0 : Int32} : itr (fun s : Int32 × jx_H => LX10_reduces_176 q l1 l2 l4 l5 l6 s.1 s.2) (c0, bput mK h q S) = (itr (fun s : Int32 × MS => gLX10_reduces_176 l1 l2 l4 l5 l6 s.1 s.2) (c0, S)).map (Sum.map (fun s : Int32 × MS => (s.1, bput mK h q s.2)) (Sum.map (fun s : Int32 × MS => (s.1, bput mK h q s.2)) (bput mK h q))) :=
  itr_map (φ := (fun s : Int32 × MS => (s.1, bput mK h q s.2))) (ψ := (Sum.map (fun s : Int32 × MS => (s.1, bput mK h q s.2)) (Sum.map (fun s : Int32 × MS => (s.1, bput mK h q s.2)) (bput mK h q)))) (fun s => eLX10_reduces_176) (c0, S)

/-! LX10_reduces_146 -/
noncomputable def gLX10_reduces_146 (l1 : Int32) (l2 : Int32) (l4 : Int32) (l5 : Int32) (h : MS) : Option ((Int32 × MS) ⊕ ((Int32 × MS) ⊕ (MS))) :=
if l1 ≤ l5 then
 exL ((some (h.1 28)).bind fun x19 =>
 (some (gpi h 28 (x19 + (1 : Int32)))).bind fun h20 =>
 gBX10_reduces_258 l1 l2 h20)
else
 (gFX10_cell l5 l2 h).bind fun x22 =>
 (gal mK h 15 x22).bind fun x23 =>
 (gFX10_p h).bind fun x25 =>
 if x25 = 0 then none else
 itr (fun s : Int32 × MS => gLX10_reduces_176 l1 l2 l4 l5 ((x23 * l4) - (x23 * l4) / x25 * x25) s.1 s.2) (l2, h)
theorem eLX10_reduces_146 {h : jx_H} {q : Nat} {S : MS} {l1 : Int32} {l2 : Int32} {l4 : Int32} {l5 : Int32} : LX10_reduces_146 q l1 l2 l4 l5 (bput mK h q S) = (gLX10_reduces_146 l1 l2 l4 l5 S).map (Sum.map (fun s : Int32 × MS => (s.1, bput mK h q s.2)) (Sum.map (fun s : Int32 × MS => (s.1, bput mK h q s.2)) (bput mK h q))) := by
  unfold LX10_reduces_146 gLX10_reduces_146
  simp only [gx_bs, gx_ms, gx_mn, gx_bn, gx_bm, gx_mb, gx_ite, gx_exL, gx_b2, gx_b2m, gx_b2mm, gx_sl, gx_sr, gx_id, eBX10_reduces_258, eFX10_cell, eFX10_p, wLX10_reduces_176, mJ_15, mK_al, mK_al15, mK_as, mK_as15, mK_gi28, mK_gr25, mK_ob, mK_pi28]
theorem wLX10_reduces_146 {h : jx_H} {q : Nat} {S : MS} {l1 : Int32} {l2 : Int32} {l4 : Int32} {c0 : Int32} : itr (fun s : Int32 × jx_H => LX10_reduces_146 q l1 l2 l4 s.1 s.2) (c0, bput mK h q S) = (itr (fun s : Int32 × MS => gLX10_reduces_146 l1 l2 l4 s.1 s.2) (c0, S)).map (Sum.map (fun s : Int32 × MS => (s.1, bput mK h q s.2)) (bput mK h q)) :=
  itr_map (φ := (fun s : Int32 × MS => (s.1, bput mK h q s.2))) (ψ := (Sum.map (fun s : Int32 × MS => (s.1, bput mK h q s.2)) (bput mK h q))) (fun s => eLX10_reduces_146) (c0, S)

/-! BX10_reduces_92 -/
noncomputable def gBX10_reduces_92 (l1 : Int32) (l2 : Int32) (h : MS) : Option ((Int32 × MS) ⊕ (MS)) :=
(some (h.1 29)).bind fun x3 =>
(some (h.1 28)).bind fun x5 =>
(gFX10_cell x5 l2 h).bind fun x6 =>
(gal mK h 15 x6).bind fun x7 =>
(gFX10_p h).bind fun x9 =>
if x9 = 0 then none else
(some (gpi h 29 ((x3 * x7) - (x3 * x7) / x9 * x9))).bind fun h11 =>
(some (h11.1 28)).bind fun x13 =>
(gFX10_cell x13 l2 h11).bind fun x14 =>
(gal mK h11 15 x14).bind fun x15 =>
(gFX10_inverse x15 h11).bind fun x17 =>
(some (h11.1 28)).bind fun x18 =>
itr (fun s : Int32 × MS => gLX10_reduces_146 l1 l2 x17 s.1 s.2) ((x18 + (1 : Int32)), h11)
theorem eBX10_reduces_92 {h : jx_H} {q : Nat} {S : MS} {l1 : Int32} {l2 : Int32} : BX10_reduces_92 q l1 l2 (bput mK h q S) = (gBX10_reduces_92 l1 l2 S).map (Sum.map (fun s : Int32 × MS => (s.1, bput mK h q s.2)) (bput mK h q)) := by
  unfold BX10_reduces_92 gBX10_reduces_92
  simp only [gx_bs, gx_ms, gx_mn, gx_bn, gx_bm, gx_mb, gx_ite, gx_exL, gx_b2, gx_b2m, gx_b2mm, gx_sl, gx_sr, gx_id, eFX10_cell, eFX10_p, eFX10_inverse, wLX10_reduces_146, mJ_15, mK_al, mK_al15, mK_as, mK_as15, mK_gi28, mK_gi29, mK_gr25, mK_ob, mK_pi29]
/-! BX10_reduces_49 -/
noncomputable def gBX10_reduces_49 (l1 : Int32) (l2 : Int32) (l3 : Int32) (h : MS) : Option ((Int32 × MS) ⊕ (MS)) :=
if l3 = l1 then
 (some (gpi h 29 (0 : Int32))).bind fun h53 =>
 gBX10_reduces_258 l1 l2 h53
else
 (some (h.1 28)).bind fun x44 =>
 if l3 = x44 then
  gBX10_reduces_92 l1 l2 h
 else
  (some (h.1 28)).bind fun x45 =>
  (gFX10_swapsRows l3 x45 h).bind fun h47 =>
  (some (h47.1 29)).bind fun x48 =>
  (gFX10_mod (-x48) h47).bind fun x50 =>
  (some (gpi h47 29 x50)).bind fun h51 =>
  gBX10_reduces_92 l1 l2 h51
theorem eBX10_reduces_49 {h : jx_H} {q : Nat} {S : MS} {l1 : Int32} {l2 : Int32} {l3 : Int32} : BX10_reduces_49 q l1 l2 l3 (bput mK h q S) = (gBX10_reduces_49 l1 l2 l3 S).map (Sum.map (fun s : Int32 × MS => (s.1, bput mK h q s.2)) (bput mK h q)) := by
  unfold BX10_reduces_49 gBX10_reduces_49
  simp only [gx_bs, gx_ms, gx_mn, gx_bn, gx_bm, gx_mb, gx_ite, gx_exL, gx_b2, gx_b2m, gx_b2mm, gx_sl, gx_sr, gx_id, eBX10_reduces_258, eBX10_reduces_92, eFX10_swapsRows, eFX10_mod, mK_al, mK_as, mK_gi28, mK_gi29, mK_ob, mK_pi29]
/-! LX10_reduces_25 -/
noncomputable def gLX10_reduces_25 (l1 : Int32) (l2 : Int32) (l3 : Int32) (h : MS) : Option ((Int32) ⊕ ((Int32 × MS) ⊕ (MS))) :=
if l1 ≤ l3 then
 exL (gBX10_reduces_49 l1 l2 l3 h)
else
 (gFX10_cell l3 l2 h).bind fun x59 =>
 (gal mK h 15 x59).bind fun x60 =>
 if x60 = 0 then
  some (.inl (l3 + (1 : Int32)))
 else
  exL (gBX10_reduces_49 l1 l2 l3 h)
theorem eLX10_reduces_25 {h : jx_H} {q : Nat} {S : MS} {l1 : Int32} {l2 : Int32} {l3 : Int32} : LX10_reduces_25 q l1 l2 l3 (bput mK h q S) = (gLX10_reduces_25 l1 l2 l3 S).map (Sum.map id (Sum.map (fun s : Int32 × MS => (s.1, bput mK h q s.2)) (bput mK h q))) := by
  unfold LX10_reduces_25 gLX10_reduces_25
  simp only [gx_bs, gx_ms, gx_mn, gx_bn, gx_bm, gx_mb, gx_ite, gx_exL, gx_b2, gx_b2m, gx_b2mm, gx_sl, gx_sr, gx_id, eBX10_reduces_49, eFX10_cell, mJ_15, mK_al, mK_al15, mK_as, mK_as15, mK_gr25, mK_ob]
theorem wLX10_reduces_25 {h : jx_H} {q : Nat} {S : MS} {l1 : Int32} {l2 : Int32} {c0 : Int32} : itr (fun s : Int32 => LX10_reduces_25 q l1 l2 s (bput mK h q S)) (c0) = (itr (fun s : Int32 => gLX10_reduces_25 l1 l2 s S) (c0)).map (Sum.map (fun s : Int32 × MS => (s.1, bput mK h q s.2)) (bput mK h q)) :=
  itr_map (φ := id) (ψ := (Sum.map (fun s : Int32 × MS => (s.1, bput mK h q s.2)) (bput mK h q))) (fun s => eLX10_reduces_25) (c0)

/-! LX10_reduces_12 -/
noncomputable def gLX10_reduces_12 (l1 : Int32) (l2 : Int32) (h : MS) : Option ((Int32 × MS) ⊕ (MS)) :=
(gFX10_n h).bind fun x56 =>
if x56 ≤ l2 then
 exL (some h)
else
 (some (h.1 28)).bind fun x57 =>
 itr (fun s : Int32 => gLX10_reduces_25 l1 l2 s h) x57
theorem eLX10_reduces_12 {h : jx_H} {q : Nat} {S : MS} {l1 : Int32} {l2 : Int32} : LX10_reduces_12 q l1 l2 (bput mK h q S) = (gLX10_reduces_12 l1 l2 S).map (Sum.map (fun s : Int32 × MS => (s.1, bput mK h q s.2)) (bput mK h q)) := by
  unfold LX10_reduces_12 gLX10_reduces_12
  simp only [gx_bs, gx_ms, gx_mn, gx_bn, gx_bm, gx_mb, gx_ite, gx_exL, gx_b2, gx_b2m, gx_b2mm, gx_sl, gx_sr, gx_id, eFX10_n, wLX10_reduces_25, mK_al, mK_as, mK_gi28, mK_ob]
theorem wLX10_reduces_12 {h : jx_H} {q : Nat} {S : MS} {l1 : Int32} {c0 : Int32} : itr (fun s : Int32 × jx_H => LX10_reduces_12 q l1 s.1 s.2) (c0, bput mK h q S) = (itr (fun s : Int32 × MS => gLX10_reduces_12 l1 s.1 s.2) (c0, S)).map (bput mK h q) :=
  itr_map (φ := (fun s : Int32 × MS => (s.1, bput mK h q s.2))) (ψ := (bput mK h q)) (fun s => eLX10_reduces_12) (c0, S)

/-! FX10_reduces -/
noncomputable def gFX10_reduces (l1 : Int32) (h : MS) : Option (MS) :=
(some (gpi h 28 (0 : Int32))).bind fun h1 =>
(some (gpi h1 29 (1 : Int32))).bind fun h2 =>
itr (fun s : Int32 × MS => gLX10_reduces_12 l1 s.1 s.2) ((0 : Int32), h2)
theorem eFX10_reduces {h : jx_H} {q : Nat} {S : MS} {l1 : Int32} : FX10_reduces q l1 (bput mK h q S) = (gFX10_reduces l1 S).map (bput mK h q) := by
  unfold FX10_reduces gFX10_reduces
  simp only [gx_bs, gx_ms, gx_mn, gx_bn, gx_bm, gx_mb, gx_ite, gx_exL, gx_b2, gx_b2m, gx_b2mm, gx_sl, gx_sr, gx_id, wLX10_reduces_12, mK_al, mK_as, mK_ob, mK_pi28, mK_pi29]
/-! LX10_lessens_2 -/
noncomputable def gLX10_lessens_2 (l1 : Nat) (l2 : Int32) (l3 : Int32) (h : MS) : Option ((Int32 × MS) ⊕ (MS)) :=
(gFX10_n h).bind fun x2 =>
if x2 ≤ l3 then
 exL (some h)
else
 (gFX10_cell l3 l3 h).bind fun x3 =>
 (gFX10_cell l3 l3 h).bind fun x4 =>
 (gal mK h l1 x4).bind fun x5 =>
 (gFX10_mod (x5 - l2) h).bind fun x7 =>
 (gas mK h l1 x3 x7).bind fun h8 =>
 some (.inl ((l3 + (1 : Int32)), h8))
theorem eLX10_lessens_2 {h : jx_H} {q : Nat} {S : MS} {l1 : Nat} {l2 : Int32} {l3 : Int32} (Jl1 : mJ l1) : LX10_lessens_2 q (q + l1) l2 l3 (bput mK h q S) = (gLX10_lessens_2 l1 l2 l3 S).map (Sum.map (fun s : Int32 × MS => (s.1, bput mK h q s.2)) (bput mK h q)) := by
  unfold LX10_lessens_2 gLX10_lessens_2
  simp only [gx_bs, gx_ms, gx_mn, gx_bn, gx_bm, gx_mb, gx_ite, gx_exL, gx_b2, gx_b2m, gx_b2mm, gx_sl, gx_sr, gx_id, eFX10_n, eFX10_cell, eFX10_mod, Jl1, mK_al, mK_as, mK_ob]
theorem wLX10_lessens_2 {h : jx_H} {q : Nat} {S : MS} {l1 : Nat} {l2 : Int32} {c0 : Int32} (Jl1 : mJ l1) : itr (fun s : Int32 × jx_H => LX10_lessens_2 q (q + l1) l2 s.1 s.2) (c0, bput mK h q S) = (itr (fun s : Int32 × MS => gLX10_lessens_2 l1 l2 s.1 s.2) (c0, S)).map (bput mK h q) :=
  itr_map (φ := (fun s : Int32 × MS => (s.1, bput mK h q s.2))) (ψ := (bput mK h q)) (fun s => eLX10_lessens_2 Jl1) (c0, S)

/-! FX10_lessens -/
noncomputable def gFX10_lessens (l1 : Nat) (l2 : Int32) (h : MS) : Option (MS) :=
itr (fun s : Int32 × MS => gLX10_lessens_2 l1 l2 s.1 s.2) ((0 : Int32), h)
theorem eFX10_lessens {h : jx_H} {q : Nat} {S : MS} {l1 : Nat} {l2 : Int32} (Jl1 : mJ l1) : FX10_lessens q (q + l1) l2 (bput mK h q S) = (gFX10_lessens l1 l2 S).map (bput mK h q) := by
  unfold FX10_lessens gFX10_lessens
  simp only [gx_bs, gx_ms, gx_mn, gx_bn, gx_bm, gx_mb, gx_ite, gx_exL, gx_b2, gx_b2m, gx_b2mm, gx_sl, gx_sr, gx_id, wLX10_lessens_2, Jl1, mK_al, mK_as, mK_ob]
/-! LX10_laysTall_13 -/
noncomputable def gLX10_laysTall_13 (l1 : Nat) (l2 : Int32) (l3 : Int32) (l4 : Int32) (h : MS) : Option ((Int32 × MS) ⊕ ((Int32 × MS) ⊕ (MS))) :=
(gFX10_n h).bind fun x4 =>
if x4 ≤ l4 then
 exL (some (.inl ((l3 + (1 : Int32)), h)))
else
 (gFX10_cell (l2 + l3) l4 h).bind fun x6 =>
 (gFX10_cell l3 l4 h).bind fun x7 =>
 (gal mK h l1 x7).bind fun x8 =>
 (gas mK h 15 x6 x8).bind fun h9 =>
 some (.inl ((l4 + (1 : Int32)), h9))
theorem eLX10_laysTall_13 {h : jx_H} {q : Nat} {S : MS} {l1 : Nat} {l2 : Int32} {l3 : Int32} {l4 : Int32} (Jl1 : mJ l1) : LX10_laysTall_13 q (q + l1) l2 l3 l4 (bput mK h q S) = (gLX10_laysTall_13 l1 l2 l3 l4 S).map (Sum.map (fun s : Int32 × MS => (s.1, bput mK h q s.2)) (Sum.map (fun s : Int32 × MS => (s.1, bput mK h q s.2)) (bput mK h q))) := by
  unfold LX10_laysTall_13 gLX10_laysTall_13
  simp only [gx_bs, gx_ms, gx_mn, gx_bn, gx_bm, gx_mb, gx_ite, gx_exL, gx_b2, gx_b2m, gx_b2mm, gx_sl, gx_sr, gx_id, eFX10_n, eFX10_cell, Jl1, mJ_15, mK_al, mK_al15, mK_as, mK_as15, mK_gr25, mK_ob]
theorem wLX10_laysTall_13 {h : jx_H} {q : Nat} {S : MS} {l1 : Nat} {l2 : Int32} {l3 : Int32} {c0 : Int32} (Jl1 : mJ l1) : itr (fun s : Int32 × jx_H => LX10_laysTall_13 q (q + l1) l2 l3 s.1 s.2) (c0, bput mK h q S) = (itr (fun s : Int32 × MS => gLX10_laysTall_13 l1 l2 l3 s.1 s.2) (c0, S)).map (Sum.map (fun s : Int32 × MS => (s.1, bput mK h q s.2)) (bput mK h q)) :=
  itr_map (φ := (fun s : Int32 × MS => (s.1, bput mK h q s.2))) (ψ := (Sum.map (fun s : Int32 × MS => (s.1, bput mK h q s.2)) (bput mK h q))) (fun s => eLX10_laysTall_13 Jl1) (c0, S)

/-! LX10_laysTall_2 -/
noncomputable def gLX10_laysTall_2 (l1 : Nat) (l2 : Int32) (l3 : Int32) (h : MS) : Option ((Int32 × MS) ⊕ (MS)) :=
(gFX10_n h).bind fun x2 =>
if x2 ≤ l3 then
 exL (some h)
else
 itr (fun s : Int32 × MS => gLX10_laysTall_13 l1 l2 l3 s.1 s.2) ((0 : Int32), h)
theorem eLX10_laysTall_2 {h : jx_H} {q : Nat} {S : MS} {l1 : Nat} {l2 : Int32} {l3 : Int32} (Jl1 : mJ l1) : LX10_laysTall_2 q (q + l1) l2 l3 (bput mK h q S) = (gLX10_laysTall_2 l1 l2 l3 S).map (Sum.map (fun s : Int32 × MS => (s.1, bput mK h q s.2)) (bput mK h q)) := by
  unfold LX10_laysTall_2 gLX10_laysTall_2
  simp only [gx_bs, gx_ms, gx_mn, gx_bn, gx_bm, gx_mb, gx_ite, gx_exL, gx_b2, gx_b2m, gx_b2mm, gx_sl, gx_sr, gx_id, eFX10_n, wLX10_laysTall_13, Jl1, mK_al, mK_as, mK_ob]
theorem wLX10_laysTall_2 {h : jx_H} {q : Nat} {S : MS} {l1 : Nat} {l2 : Int32} {c0 : Int32} (Jl1 : mJ l1) : itr (fun s : Int32 × jx_H => LX10_laysTall_2 q (q + l1) l2 s.1 s.2) (c0, bput mK h q S) = (itr (fun s : Int32 × MS => gLX10_laysTall_2 l1 l2 s.1 s.2) (c0, S)).map (bput mK h q) :=
  itr_map (φ := (fun s : Int32 × MS => (s.1, bput mK h q s.2))) (ψ := (bput mK h q)) (fun s => eLX10_laysTall_2 Jl1) (c0, S)

/-! FX10_laysTall -/
noncomputable def gFX10_laysTall (l1 : Nat) (l2 : Int32) (h : MS) : Option (MS) :=
itr (fun s : Int32 × MS => gLX10_laysTall_2 l1 l2 s.1 s.2) ((0 : Int32), h)
theorem eFX10_laysTall {h : jx_H} {q : Nat} {S : MS} {l1 : Nat} {l2 : Int32} (Jl1 : mJ l1) : FX10_laysTall q (q + l1) l2 (bput mK h q S) = (gFX10_laysTall l1 l2 S).map (bput mK h q) := by
  unfold FX10_laysTall gFX10_laysTall
  simp only [gx_bs, gx_ms, gx_mn, gx_bn, gx_bm, gx_mb, gx_ite, gx_exL, gx_b2, gx_b2m, gx_b2mm, gx_sl, gx_sr, gx_id, wLX10_laysTall_2, Jl1, mK_al, mK_as, mK_ob]
/-! FX10_times -/
noncomputable def gFX10_times (l1 : Int32) (l2 : Int32) (h : MS) : Option (Int32 × MS) :=
(gFX10_laysTables h).bind fun h2 =>
(gFX10_lessens 10 l1 h2).bind fun h5 =>
(gFX10_lessens 11 l2 h5).bind fun h8 =>
(gFX10_n h8).bind fun x11 =>
(gFX10_raises 10 x11 h8).bind fun h13 =>
(gFX10_laysTall 12 (0 : Int32) h13).bind fun h16 =>
(gFX10_n h16).bind fun x19 =>
(gFX10_raises 11 x19 h16).bind fun h21 =>
(gFX10_n h21).bind fun x24 =>
(gFX10_laysTall 12 x24 h21).bind fun h26 =>
(gFX10_n h26).bind fun x28 =>
(gFX10_reduces ((2 : Int32) * x28) h26).bind fun h30 =>
(gFX10_n h30).bind fun x32 =>
(some (h30.1 28)).bind fun x33 =>
some ((x32 - x33), h30)
theorem eFX10_times {h : jx_H} {q : Nat} {S : MS} {l1 : Int32} {l2 : Int32} : FX10_times q l1 l2 (bput mK h q S) = (gFX10_times l1 l2 S).map (fun s : Int32 × MS => (s.1, bput mK h q s.2)) := by
  unfold FX10_times gFX10_times
  simp only [gx_bs, gx_ms, gx_mn, gx_bn, gx_bm, gx_mb, gx_ite, gx_exL, gx_b2, gx_b2m, gx_b2mm, gx_sl, gx_sr, gx_id, eFX10_laysTables, eFX10_lessens, eFX10_n, eFX10_raises, eFX10_laysTall, eFX10_reduces, mJ_10, mJ_11, mJ_12, mK_al, mK_al10, mK_al11, mK_al12, mK_as, mK_as10, mK_as11, mK_as12, mK_gi28, mK_gr20, mK_gr21, mK_gr22, mK_ob]
/-! LX10_distinct_16 -/
noncomputable def gLX10_distinct_16 (l1 : Int32) (l2 : Int32) (h : MS) : Option ((Int32 × MS) ⊕ ((Int32 × MS) ⊕ (Int32 × MS))) :=
(gFX10_n h).bind fun x11 =>
if x11 ≤ l2 then
 exL (some (.inl ((l1 + (1 : Int32)), h)))
else
 (gFX10_cell l1 l2 h).bind fun x13 =>
 (gal mK h 1 ((4 : Int32) + l1)).bind fun x15 =>
 (gal mK h 1 ((4 : Int32) + l2)).bind fun x17 =>
 (gal mK h 1 ((16 : Int32) + l1)).bind fun x19 =>
 (gal mK h 1 ((16 : Int32) + l2)).bind fun x21 =>
 bind2 (gFX10_traceOf (x15 + x17) (x19 + x21) h) fun x23 h24 =>
 (gas mK h24 15 x13 x23).bind fun h25 =>
 some (.inl ((l2 + (1 : Int32)), h25))
theorem eLX10_distinct_16 {h : jx_H} {q : Nat} {S : MS} {l1 : Int32} {l2 : Int32} : LX10_distinct_16 q l1 l2 (bput mK h q S) = (gLX10_distinct_16 l1 l2 S).map (Sum.map (fun s : Int32 × MS => (s.1, bput mK h q s.2)) (Sum.map (fun s : Int32 × MS => (s.1, bput mK h q s.2)) (fun s : Int32 × MS => (s.1, bput mK h q s.2)))) := by
  unfold LX10_distinct_16 gLX10_distinct_16
  simp only [gx_bs, gx_ms, gx_mn, gx_bn, gx_bm, gx_mb, gx_ite, gx_exL, gx_b2, gx_b2m, gx_b2mm, gx_sl, gx_sr, gx_id, eFX10_n, eFX10_cell, eFX10_traceOf, mJ_1, mJ_15, mK_al, mK_al1, mK_al15, mK_as, mK_as1, mK_as15, mK_gr1, mK_gr25, mK_ob]
theorem wLX10_distinct_16 {h : jx_H} {q : Nat} {S : MS} {l1 : Int32} {c0 : Int32} : itr (fun s : Int32 × jx_H => LX10_distinct_16 q l1 s.1 s.2) (c0, bput mK h q S) = (itr (fun s : Int32 × MS => gLX10_distinct_16 l1 s.1 s.2) (c0, S)).map (Sum.map (fun s : Int32 × MS => (s.1, bput mK h q s.2)) (fun s : Int32 × MS => (s.1, bput mK h q s.2))) :=
  itr_map (φ := (fun s : Int32 × MS => (s.1, bput mK h q s.2))) (ψ := (Sum.map (fun s : Int32 × MS => (s.1, bput mK h q s.2)) (fun s : Int32 × MS => (s.1, bput mK h q s.2)))) (fun s => eLX10_distinct_16) (c0, S)

/-! LX10_distinct_6 -/
noncomputable def gLX10_distinct_6 (l1 : Int32) (h : MS) : Option ((Int32 × MS) ⊕ (Int32 × MS)) :=
(gFX10_n h).bind fun x4 =>
if x4 ≤ l1 then
 exL ((gFX10_n h).bind fun x6 =>
 (gFX10_reduces x6 h).bind fun h8 =>
 (some (h8.1 28)).bind fun x9 =>
 some (x9, h8))
else
 itr (fun s : Int32 × MS => gLX10_distinct_16 l1 s.1 s.2) ((0 : Int32), h)
theorem eLX10_distinct_6 {h : jx_H} {q : Nat} {S : MS} {l1 : Int32} : LX10_distinct_6 q l1 (bput mK h q S) = (gLX10_distinct_6 l1 S).map (Sum.map (fun s : Int32 × MS => (s.1, bput mK h q s.2)) (fun s : Int32 × MS => (s.1, bput mK h q s.2))) := by
  unfold LX10_distinct_6 gLX10_distinct_6
  simp only [gx_bs, gx_ms, gx_mn, gx_bn, gx_bm, gx_mb, gx_ite, gx_exL, gx_b2, gx_b2m, gx_b2mm, gx_sl, gx_sr, gx_id, eFX10_n, eFX10_reduces, wLX10_distinct_16, mK_al, mK_as, mK_gi28, mK_ob]
theorem wLX10_distinct_6 {h : jx_H} {q : Nat} {S : MS} {c0 : Int32} : itr (fun s : Int32 × jx_H => LX10_distinct_6 q s.1 s.2) (c0, bput mK h q S) = (itr (fun s : Int32 × MS => gLX10_distinct_6  s.1 s.2) (c0, S)).map (fun s : Int32 × MS => (s.1, bput mK h q s.2)) :=
  itr_map (φ := (fun s : Int32 × MS => (s.1, bput mK h q s.2))) (ψ := (fun s : Int32 × MS => (s.1, bput mK h q s.2))) (fun s => eLX10_distinct_6) (c0, S)

/-! FX10_distinct -/
noncomputable def gFX10_distinct (h : MS) : Option (Int32 × MS) :=
(gFX10_laysTables h).bind fun h2 =>
itr (fun s : Int32 × MS => gLX10_distinct_6 s.1 s.2) ((0 : Int32), h2)
theorem eFX10_distinct {h : jx_H} {q : Nat} {S : MS} : FX10_distinct q (bput mK h q S) = (gFX10_distinct  S).map (fun s : Int32 × MS => (s.1, bput mK h q s.2)) := by
  unfold FX10_distinct gFX10_distinct
  simp only [gx_bs, gx_ms, gx_mn, gx_bn, gx_bm, gx_mb, gx_ite, gx_exL, gx_b2, gx_b2m, gx_b2mm, gx_sl, gx_sr, gx_id, eFX10_laysTables, wLX10_distinct_6, mK_al, mK_as, mK_ob]
/-! LX10_applies_69 -/
noncomputable def gLX10_applies_69 (l2 : Int32) (h : MS) : Option ((Int32 × MS) ⊕ (MS)) :=
(gFX10_n h).bind fun x4 =>
if x4 ≤ l2 then
 exL (some h)
else
 (gal mK h 17 l2).bind fun x7 =>
 (gas mK h 16 l2 x7).bind fun h8 =>
 some (.inl ((l2 + (1 : Int32)), h8))
theorem eLX10_applies_69 {h : jx_H} {q : Nat} {S : MS} {l2 : Int32} : LX10_applies_69 q l2 (bput mK h q S) = (gLX10_applies_69 l2 S).map (Sum.map (fun s : Int32 × MS => (s.1, bput mK h q s.2)) (bput mK h q)) := by
  unfold LX10_applies_69 gLX10_applies_69
  simp only [gx_bs, gx_ms, gx_mn, gx_bn, gx_bm, gx_mb, gx_ite, gx_exL, gx_b2, gx_b2m, gx_b2mm, gx_sl, gx_sr, gx_id, eFX10_n, mJ_16, mJ_17, mK_al, mK_al16, mK_al17, mK_as, mK_as16, mK_as17, mK_gr26, mK_gr27, mK_ob]
theorem wLX10_applies_69 {h : jx_H} {q : Nat} {S : MS} {c0 : Int32} : itr (fun s : Int32 × jx_H => LX10_applies_69 q s.1 s.2) (c0, bput mK h q S) = (itr (fun s : Int32 × MS => gLX10_applies_69  s.1 s.2) (c0, S)).map (bput mK h q) :=
  itr_map (φ := (fun s : Int32 × MS => (s.1, bput mK h q s.2))) (ψ := (bput mK h q)) (fun s => eLX10_applies_69) (c0, S)

/-! LX10_applies_15 -/
noncomputable def gLX10_applies_15 (l1 : Nat) (l2 : Int32) (l3 : Int32) (l4 : Int32) (h : MS) : Option ((Int32 × Int32) ⊕ ((Int32 × MS) ⊕ (MS))) :=
(gFX10_n h).bind fun x11 =>
if x11 ≤ l4 then
 exL ((gFX10_p h).bind fun x14 =>
 if x14 = 0 then none else
 (gas mK h 17 l2 (l3 - l3 / x14 * x14)).bind fun h16 =>
 some (.inl ((l2 + (1 : Int32)), h16)))
else
 (gFX10_cell l2 l4 h).bind fun x17 =>
 (gal mK h l1 x17).bind fun x18 =>
 (gal mK h 16 l4).bind fun x20 =>
 some (.inl ((l3 + (x18 * x20)), (l4 + (1 : Int32))))
theorem eLX10_applies_15 {h : jx_H} {q : Nat} {S : MS} {l1 : Nat} {l2 : Int32} {l3 : Int32} {l4 : Int32} (Jl1 : mJ l1) : LX10_applies_15 q (q + l1) l2 l3 l4 (bput mK h q S) = (gLX10_applies_15 l1 l2 l3 l4 S).map (Sum.map id (Sum.map (fun s : Int32 × MS => (s.1, bput mK h q s.2)) (bput mK h q))) := by
  unfold LX10_applies_15 gLX10_applies_15
  simp only [gx_bs, gx_ms, gx_mn, gx_bn, gx_bm, gx_mb, gx_ite, gx_exL, gx_b2, gx_b2m, gx_b2mm, gx_sl, gx_sr, gx_id, eFX10_n, eFX10_p, eFX10_cell, Jl1, mJ_16, mJ_17, mK_al, mK_al16, mK_al17, mK_as, mK_as16, mK_as17, mK_gr26, mK_gr27, mK_ob]
theorem wLX10_applies_15 {h : jx_H} {q : Nat} {S : MS} {l1 : Nat} {l2 : Int32} {c0 : Int32} {c1 : Int32} (Jl1 : mJ l1) : itr (fun s : Int32 × Int32 => LX10_applies_15 q (q + l1) l2 s.1 s.2 (bput mK h q S)) (c0, c1) = (itr (fun s : Int32 × Int32 => gLX10_applies_15 l1 l2 s.1 s.2 S) (c0, c1)).map (Sum.map (fun s : Int32 × MS => (s.1, bput mK h q s.2)) (bput mK h q)) :=
  itr_map (φ := id) (ψ := (Sum.map (fun s : Int32 × MS => (s.1, bput mK h q s.2)) (bput mK h q))) (fun s => eLX10_applies_15 Jl1) (c0, c1)

/-! LX10_applies_2 -/
noncomputable def gLX10_applies_2 (l1 : Nat) (l2 : Int32) (h : MS) : Option ((Int32 × MS) ⊕ (MS)) :=
(gFX10_n h).bind fun x2 =>
if x2 ≤ l2 then
 exL (itr (fun s : Int32 × MS => gLX10_applies_69 s.1 s.2) ((0 : Int32), h))
else
 itr (fun s : Int32 × Int32 => gLX10_applies_15 l1 l2 s.1 s.2 h) ((0 : Int32), (0 : Int32))
theorem eLX10_applies_2 {h : jx_H} {q : Nat} {S : MS} {l1 : Nat} {l2 : Int32} (Jl1 : mJ l1) : LX10_applies_2 q (q + l1) l2 (bput mK h q S) = (gLX10_applies_2 l1 l2 S).map (Sum.map (fun s : Int32 × MS => (s.1, bput mK h q s.2)) (bput mK h q)) := by
  unfold LX10_applies_2 gLX10_applies_2
  simp only [gx_bs, gx_ms, gx_mn, gx_bn, gx_bm, gx_mb, gx_ite, gx_exL, gx_b2, gx_b2m, gx_b2mm, gx_sl, gx_sr, gx_id, eFX10_n, wLX10_applies_69, wLX10_applies_15, Jl1, mK_al, mK_as, mK_ob]
theorem wLX10_applies_2 {h : jx_H} {q : Nat} {S : MS} {l1 : Nat} {c0 : Int32} (Jl1 : mJ l1) : itr (fun s : Int32 × jx_H => LX10_applies_2 q (q + l1) s.1 s.2) (c0, bput mK h q S) = (itr (fun s : Int32 × MS => gLX10_applies_2 l1 s.1 s.2) (c0, S)).map (bput mK h q) :=
  itr_map (φ := (fun s : Int32 × MS => (s.1, bput mK h q s.2))) (ψ := (bput mK h q)) (fun s => eLX10_applies_2 Jl1) (c0, S)

/-! FX10_applies -/
noncomputable def gFX10_applies (l1 : Nat) (h : MS) : Option (MS) :=
itr (fun s : Int32 × MS => gLX10_applies_2 l1 s.1 s.2) ((0 : Int32), h)
theorem eFX10_applies {h : jx_H} {q : Nat} {S : MS} {l1 : Nat} (Jl1 : mJ l1) : FX10_applies q (q + l1) (bput mK h q S) = (gFX10_applies l1 S).map (bput mK h q) := by
  unfold FX10_applies gFX10_applies
  simp only [gx_bs, gx_ms, gx_mn, gx_bn, gx_bm, gx_mb, gx_ite, gx_exL, gx_b2, gx_b2m, gx_b2mm, gx_sl, gx_sr, gx_id, wLX10_applies_2, Jl1, mK_al, mK_as, mK_ob]
/-! BX10_laysNormal_22 -/
noncomputable def gBX10_laysNormal_22 (l1 : Int32) (l2 : Int32) (l3 : Int32) (s0 : Nat) (s1 : Int32) (s2 : Int32) (h : MS) : Option ((Int32 × MS) ⊕ (MS)) :=
(gas mK h s0 s1 s2).bind fun h1 =>
some (.inl ((l3 + (1 : Int32)), h1))
theorem eBX10_laysNormal_22 {h : jx_H} {q : Nat} {S : MS} {l1 : Int32} {l2 : Int32} {l3 : Int32} {s0 : Nat} {s1 : Int32} {s2 : Int32} (Js0 : mJ s0) : BX10_laysNormal_22 q l1 l2 l3 (q + s0) s1 s2 (bput mK h q S) = (gBX10_laysNormal_22 l1 l2 l3 s0 s1 s2 S).map (Sum.map (fun s : Int32 × MS => (s.1, bput mK h q s.2)) (bput mK h q)) := by
  unfold BX10_laysNormal_22 gBX10_laysNormal_22
  simp only [gx_bs, gx_ms, gx_mn, gx_bn, gx_bm, gx_mb, gx_ite, gx_exL, gx_b2, gx_b2m, gx_b2mm, gx_sl, gx_sr, gx_id, Js0, mK_al, mK_as, mK_ob]
/-! BX10_laysNormal_55 -/
noncomputable def gBX10_laysNormal_55 (l1 : Int32) (l2 : Int32) (l3 : Int32) (s1 : Nat) (h : MS) : Option ((Int32 × MS) ⊕ (MS)) :=
(gFX10_applies s1 h).bind fun h3 =>
some (.inl ((l3 + (1 : Int32)), h3))
theorem eBX10_laysNormal_55 {h : jx_H} {q : Nat} {S : MS} {l1 : Int32} {l2 : Int32} {l3 : Int32} {s1 : Nat} (Js1 : mJ s1) : BX10_laysNormal_55 q l1 l2 l3 q (q + s1) (bput mK h q S) = (gBX10_laysNormal_55 l1 l2 l3 s1 S).map (Sum.map (fun s : Int32 × MS => (s.1, bput mK h q s.2)) (bput mK h q)) := by
  unfold BX10_laysNormal_55 gBX10_laysNormal_55
  simp only [gx_bs, gx_ms, gx_mn, gx_bn, gx_bm, gx_mb, gx_ite, gx_exL, gx_b2, gx_b2m, gx_b2mm, gx_sl, gx_sr, gx_id, eFX10_applies, Js1, mK_al, mK_as, mK_ob]
/-! LX10_laysNormal_31 -/
noncomputable def gLX10_laysNormal_31 (l1 : Int32) (l2 : Int32) (l3 : Int32) (h : MS) : Option ((Int32 × MS) ⊕ (MS)) :=
if (l1 + l2) ≤ l3 then
 exL (some h)
else
 if l2 ≤ l3 then
  gBX10_laysNormal_55 l1 l2 l3 10 h
 else
  gBX10_laysNormal_55 l1 l2 l3 11 h
theorem eLX10_laysNormal_31 {h : jx_H} {q : Nat} {S : MS} {l1 : Int32} {l2 : Int32} {l3 : Int32} : LX10_laysNormal_31 q l1 l2 l3 (bput mK h q S) = (gLX10_laysNormal_31 l1 l2 l3 S).map (Sum.map (fun s : Int32 × MS => (s.1, bput mK h q s.2)) (bput mK h q)) := by
  unfold LX10_laysNormal_31 gLX10_laysNormal_31
  simp only [gx_bs, gx_ms, gx_mn, gx_bn, gx_bm, gx_mb, gx_ite, gx_exL, gx_b2, gx_b2m, gx_b2mm, gx_sl, gx_sr, gx_id, eBX10_laysNormal_55, mJ_10, mJ_11, mK_al, mK_al10, mK_al11, mK_as, mK_as10, mK_as11, mK_gr20, mK_gr21, mK_ob]
theorem wLX10_laysNormal_31 {h : jx_H} {q : Nat} {S : MS} {l1 : Int32} {l2 : Int32} {c0 : Int32} : itr (fun s : Int32 × jx_H => LX10_laysNormal_31 q l1 l2 s.1 s.2) (c0, bput mK h q S) = (itr (fun s : Int32 × MS => gLX10_laysNormal_31 l1 l2 s.1 s.2) (c0, S)).map (bput mK h q) :=
  itr_map (φ := (fun s : Int32 × MS => (s.1, bput mK h q s.2))) (ψ := (bput mK h q)) (fun s => eLX10_laysNormal_31) (c0, S)

/-! LX10_laysNormal_2 -/
noncomputable def gLX10_laysNormal_2 (l1 : Int32) (l2 : Int32) (l3 : Int32) (h : MS) : Option ((Int32 × MS) ⊕ (MS)) :=
if (12 : Int32) ≤ l3 then
 exL (itr (fun s : Int32 × MS => gLX10_laysNormal_31 l1 l2 s.1 s.2) ((0 : Int32), h))
else
 if l3 = 0 then
  gBX10_laysNormal_22 l1 l2 l3 16 l3 (1 : Int32) h
 else
  gBX10_laysNormal_22 l1 l2 l3 16 l3 (0 : Int32) h
theorem eLX10_laysNormal_2 {h : jx_H} {q : Nat} {S : MS} {l1 : Int32} {l2 : Int32} {l3 : Int32} : LX10_laysNormal_2 q l1 l2 l3 (bput mK h q S) = (gLX10_laysNormal_2 l1 l2 l3 S).map (Sum.map (fun s : Int32 × MS => (s.1, bput mK h q s.2)) (bput mK h q)) := by
  unfold LX10_laysNormal_2 gLX10_laysNormal_2
  simp only [gx_bs, gx_ms, gx_mn, gx_bn, gx_bm, gx_mb, gx_ite, gx_exL, gx_b2, gx_b2m, gx_b2mm, gx_sl, gx_sr, gx_id, wLX10_laysNormal_31, eBX10_laysNormal_22, mJ_16, mK_al, mK_al16, mK_as, mK_as16, mK_gr26, mK_ob]
theorem wLX10_laysNormal_2 {h : jx_H} {q : Nat} {S : MS} {l1 : Int32} {l2 : Int32} {c0 : Int32} : itr (fun s : Int32 × jx_H => LX10_laysNormal_2 q l1 l2 s.1 s.2) (c0, bput mK h q S) = (itr (fun s : Int32 × MS => gLX10_laysNormal_2 l1 l2 s.1 s.2) (c0, S)).map (bput mK h q) :=
  itr_map (φ := (fun s : Int32 × MS => (s.1, bput mK h q s.2))) (ψ := (bput mK h q)) (fun s => eLX10_laysNormal_2) (c0, S)

/-! FX10_laysNormal -/
noncomputable def gFX10_laysNormal (l1 : Int32) (l2 : Int32) (h : MS) : Option (MS) :=
itr (fun s : Int32 × MS => gLX10_laysNormal_2 l1 l2 s.1 s.2) ((0 : Int32), h)
theorem eFX10_laysNormal {h : jx_H} {q : Nat} {S : MS} {l1 : Int32} {l2 : Int32} : FX10_laysNormal q l1 l2 (bput mK h q S) = (gFX10_laysNormal l1 l2 S).map (bput mK h q) := by
  unfold FX10_laysNormal gFX10_laysNormal
  simp only [gx_bs, gx_ms, gx_mn, gx_bn, gx_bm, gx_mb, gx_ite, gx_exL, gx_b2, gx_b2m, gx_b2mm, gx_sl, gx_sr, gx_id, wLX10_laysNormal_2, mK_al, mK_as, mK_ob]
