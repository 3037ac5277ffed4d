/-! LX10_addsColumn_2 -/
noncomputable def gLX10_addsColumn_2 (l1 : Int32) (h : MS) : Option ((Int32 × MS) ⊕ (MS)) :=
(gFX10_n h).bind fun x2 =>
if x2 ≤ l1 then
 exL (some h)
else
 (gal mK h 19 l1).bind fun x5 =>
 (some (h.1 18)).bind fun x6 =>
 (gal mK h 16 l1).bind fun x8 =>
 (gFX10_p h).bind fun x10 =>
 if x10 = 0 then none else
 (gas mK h 19 l1 ((x5 + (x6 * x8)) - (x5 + (x6 * x8)) / x10 * x10)).bind fun h12 =>
 some (.inl ((l1 + (1 : Int32)), h12))
theorem eLX10_addsColumn_2 {h : jx_H} {q : Nat} {S : MS} {l1 : Int32} : LX10_addsColumn_2 q l1 (bput mK h q S) = (gLX10_addsColumn_2 l1 S).map (Sum.map (fun s : Int32 × MS => (s.1, bput mK h q s.2)) (bput mK h q)) := by
  unfold LX10_addsColumn_2 gLX10_addsColumn_2
  simp only [gx_bs, gx_ms, gx_mn, gx_bn, gx_bm, gx_mb, gx_ite, gx_exL, gx_b2, gx_b2m, gx_b2mm, gx_sl, gx_sr, gx_id, eFX10_n, eFX10_p, mJ_16, mJ_19, mK_al, mK_al16, mK_al19, mK_as, mK_as16, mK_as19, mK_gi18, mK_gr26, mK_gr31, mK_ob]
theorem wLX10_addsColumn_2 {h : jx_H} {q : Nat} {S : MS} {c0 : Int32} : itr (fun s : Int32 × jx_H => LX10_addsColumn_2 q s.1 s.2) (c0, bput mK h q S) = (itr (fun s : Int32 × MS => gLX10_addsColumn_2  s.1 s.2) (c0, S)).map (bput mK h q) :=
  itr_map (φ := (fun s : Int32 × MS => (s.1, bput mK h q s.2))) (ψ := (bput mK h q)) (fun s => eLX10_addsColumn_2) (c0, S)

/-! FX10_addsColumn -/
noncomputable def gFX10_addsColumn (h : MS) : Option (MS) :=
itr (fun s : Int32 × MS => gLX10_addsColumn_2 s.1 s.2) ((0 : Int32), h)
theorem eFX10_addsColumn {h : jx_H} {q : Nat} {S : MS} : FX10_addsColumn q (bput mK h q S) = (gFX10_addsColumn  S).map (bput mK h q) := by
  unfold FX10_addsColumn gFX10_addsColumn
  simp only [gx_bs, gx_ms, gx_mn, gx_bn, gx_bm, gx_mb, gx_ite, gx_exL, gx_b2, gx_b2m, gx_b2mm, gx_sl, gx_sr, gx_id, wLX10_addsColumn_2, mK_al, mK_as, mK_ob]
/-! BX10_reduce_150 -/
noncomputable def gBX10_reduce_150 (l3 : Int32) (s0 : Int32) (s1 : Int32) (h : MS) : Option ((Int32 × Int32 × MS) ⊕ (Int32 × MS)) :=
some (.inl ((s0 + s1), (l3 + (1 : Int32)), h))
theorem eBX10_reduce_150 {h : jx_H} {q : Nat} {S : MS} {l3 : Int32} {s0 : Int32} {s1 : Int32} : BX10_reduce_150 q l3 s0 s1 (bput mK h q S) = (gBX10_reduce_150 l3 s0 s1 S).map (Sum.map (fun s : Int32 × Int32 × MS => (s.1, s.2.1, bput mK h q s.2.2)) (fun s : Int32 × MS => (s.1, bput mK h q s.2))) := by
  unfold BX10_reduce_150 gBX10_reduce_150
  simp only [gx_bs, gx_ms, gx_mn, gx_bn, gx_bm, gx_mb, gx_ite, gx_exL, gx_b2, gx_b2m, gx_b2mm, gx_sl, gx_sr, gx_id, mK_al, mK_as, mK_ob]
/-! LX10_reduce_117 -/
noncomputable def gLX10_reduce_117 (l2 : Int32) (l3 : Int32) (h : MS) : Option ((Int32 × Int32 × MS) ⊕ (Int32 × MS)) :=
if (12 : Int32) ≤ l3 then
 exL (some (l2, h))
else
 (gal mK h 19 l3).bind fun x8 =>
 (gas mK h 18 l3 x8).bind fun h9 =>
 (gal mK h9 19 l3).bind fun x11 =>
 if x11 ≤ 0 then
  gBX10_reduce_150 l3 l2 (0 : Int32) h9
 else
  gBX10_reduce_150 l3 l2 (1 : Int32) h9
theorem eLX10_reduce_117 {h : jx_H} {q : Nat} {S : MS} {l2 : Int32} {l3 : Int32} : LX10_reduce_117 q l2 l3 (bput mK h q S) = (gLX10_reduce_117 l2 l3 S).map (Sum.map (fun s : Int32 × Int32 × MS => (s.1, s.2.1, bput mK h q s.2.2)) (fun s : Int32 × MS => (s.1, bput mK h q s.2))) := by
  unfold LX10_reduce_117 gLX10_reduce_117
  simp only [gx_bs, gx_ms, gx_mn, gx_bn, gx_bm, gx_mb, gx_ite, gx_exL, gx_b2, gx_b2m, gx_b2mm, gx_sl, gx_sr, gx_id, eBX10_reduce_150, mJ_18, mJ_19, mK_al, mK_al18, mK_al19, mK_as, mK_as18, mK_as19, mK_gr30, mK_gr31, mK_ob]
theorem wLX10_reduce_117 {h : jx_H} {q : Nat} {S : MS} {c0 : Int32} {c1 : Int32} : itr (fun s : Int32 × Int32 × jx_H => LX10_reduce_117 q s.1 s.2.1 s.2.2) (c0, c1, bput mK h q S) = (itr (fun s : Int32 × Int32 × MS => gLX10_reduce_117  s.1 s.2.1 s.2.2) (c0, c1, S)).map (fun s : Int32 × MS => (s.1, bput mK h q s.2)) :=
  itr_map (φ := (fun s : Int32 × Int32 × MS => (s.1, s.2.1, bput mK h q s.2.2))) (ψ := (fun s : Int32 × MS => (s.1, bput mK h q s.2))) (fun s => eLX10_reduce_117) (c0, c1, S)

/-! BX10_reduce_90 -/
noncomputable def gBX10_reduce_90 (s1 : Int32) (h : MS) : Option (Int32 × MS) :=
(gFX10_must s1 (1 : Int32) h).bind fun h2 =>
(some (gpi h2 10 (0 : Int32))).bind fun h3 =>
(some (gpi h3 0 (0 : Int32))).bind fun h4 =>
(some (h4.1 15)).bind fun x5 =>
if x5 ≤ 0 then
 itr (fun s : Int32 × Int32 × MS => gLX10_reduce_117 s.1 s.2.1 s.2.2) ((0 : Int32), (0 : Int32), h4)
else
 some ((-1 : Int32), h4)
theorem eBX10_reduce_90 {h : jx_H} {q : Nat} {S : MS} {s1 : Int32} : BX10_reduce_90 q q s1 (bput mK h q S) = (gBX10_reduce_90 s1 S).map (fun s : Int32 × MS => (s.1, bput mK h q s.2)) := by
  unfold BX10_reduce_90 gBX10_reduce_90
  simp only [gx_bs, gx_ms, gx_mn, gx_bn, gx_bm, gx_mb, gx_ite, gx_exL, gx_b2, gx_b2m, gx_b2mm, gx_sl, gx_sr, gx_id, eFX10_must, wLX10_reduce_117, mK_al, mK_as, mK_gi15, mK_ob, mK_pi0, mK_pi10]
/-! BX10_reduce_69 -/
noncomputable def gBX10_reduce_69 (h : MS) : Option ((Int32 × MS) ⊕ (Int32 × MS)) :=
bind2 (gFX10_hasComma h) fun x20 h21 =>
some (.inl (x20, h21))
theorem eBX10_reduce_69 {h : jx_H} {q : Nat} {S : MS} : BX10_reduce_69 q (bput mK h q S) = (gBX10_reduce_69  S).map (Sum.map (fun s : Int32 × MS => (s.1, bput mK h q s.2)) (fun s : Int32 × MS => (s.1, bput mK h q s.2))) := by
  unfold BX10_reduce_69 gBX10_reduce_69
  simp only [gx_bs, gx_ms, gx_mn, gx_bn, gx_bm, gx_mb, gx_ite, gx_exL, gx_b2, gx_b2m, gx_b2mm, gx_sl, gx_sr, gx_id, eFX10_hasComma, mK_al, mK_as, mK_ob]
/-! LX10_reduce_31 -/
noncomputable def gLX10_reduce_31 (l1 : Int32) (h : MS) : Option ((Int32 × MS) ⊕ (Int32 × MS)) :=
if l1 = 0 then
 exL ((some (h.1 13)).bind fun x22 =>
 if x22 = 0 then
  gBX10_reduce_90 (1 : Int32) h
 else
  gBX10_reduce_90 (0 : Int32) h)
else
 (gFX10_readTerm (20 : Int32) h).bind fun h25 =>
 bind2 (gFX10_reads (0 : Int32) (20 : Int32) h25) fun x27 h28 =>
 (some (h28.1 15)).bind fun x29 =>
 if x29 = 0 then
  (some (h28.1 19)).bind fun x30 =>
  (gFX10_laysNormal x30 x27 h28).bind fun h32 =>
  (gFX10_addsColumn h32).bind fun h34 =>
  gBX10_reduce_69 h34
 else
  gBX10_reduce_69 h28
theorem eLX10_reduce_31 {h : jx_H} {q : Nat} {S : MS} {l1 : Int32} : LX10_reduce_31 q l1 (bput mK h q S) = (gLX10_reduce_31 l1 S).map (Sum.map (fun s : Int32 × MS => (s.1, bput mK h q s.2)) (fun s : Int32 × MS => (s.1, bput mK h q s.2))) := by
  unfold LX10_reduce_31 gLX10_reduce_31
  simp only [gx_bs, gx_ms, gx_mn, gx_bn, gx_bm, gx_mb, gx_ite, gx_exL, gx_b2, gx_b2m, gx_b2mm, gx_sl, gx_sr, gx_id, eBX10_reduce_90, eFX10_readTerm, eFX10_reads, eFX10_laysNormal, eFX10_addsColumn, eBX10_reduce_69, mK_al, mK_as, mK_gi13, mK_gi15, mK_gi19, mK_ob]
theorem wLX10_reduce_31 {h : jx_H} {q : Nat} {S : MS} {c0 : Int32} : itr (fun s : Int32 × jx_H => LX10_reduce_31 q s.1 s.2) (c0, bput mK h q S) = (itr (fun s : Int32 × MS => gLX10_reduce_31  s.1 s.2) (c0, S)).map (fun s : Int32 × MS => (s.1, bput mK h q s.2)) :=
  itr_map (φ := (fun s : Int32 × MS => (s.1, bput mK h q s.2))) (ψ := (fun s : Int32 × MS => (s.1, bput mK h q s.2))) (fun s => eLX10_reduce_31) (c0, S)

/-! LX10_reduce_10 -/
noncomputable def gLX10_reduce_10 (l1 : Int32) (h : MS) : Option ((Int32 × MS) ⊕ (Int32 × MS)) :=
if (12 : Int32) ≤ l1 then
 exL (itr (fun s : Int32 × MS => gLX10_reduce_31 s.1 s.2) ((1 : Int32), h))
else
 (gas mK h 19 l1 (0 : Int32)).bind fun h38 =>
 some (.inl ((l1 + (1 : Int32)), h38))
theorem eLX10_reduce_10 {h : jx_H} {q : Nat} {S : MS} {l1 : Int32} : LX10_reduce_10 q l1 (bput mK h q S) = (gLX10_reduce_10 l1 S).map (Sum.map (fun s : Int32 × MS => (s.1, bput mK h q s.2)) (fun s : Int32 × MS => (s.1, bput mK h q s.2))) := by
  unfold LX10_reduce_10 gLX10_reduce_10
  simp only [gx_bs, gx_ms, gx_mn, gx_bn, gx_bm, gx_mb, gx_ite, gx_exL, gx_b2, gx_b2m, gx_b2mm, gx_sl, gx_sr, gx_id, wLX10_reduce_31, mJ_19, mK_al, mK_al19, mK_as, mK_as19, mK_gr31, mK_ob]
theorem wLX10_reduce_10 {h : jx_H} {q : Nat} {S : MS} {c0 : Int32} : itr (fun s : Int32 × jx_H => LX10_reduce_10 q s.1 s.2) (c0, bput mK h q S) = (itr (fun s : Int32 × MS => gLX10_reduce_10  s.1 s.2) (c0, S)).map (fun s : Int32 × MS => (s.1, bput mK h q s.2)) :=
  itr_map (φ := (fun s : Int32 × MS => (s.1, bput mK h q s.2))) (ψ := (fun s : Int32 × MS => (s.1, bput mK h q s.2))) (fun s => eLX10_reduce_10) (c0, S)

/-! FX10_reduce -/
noncomputable def gFX10_reduce (h : MS) : Option (Int32 × MS) :=
(gFX10_opensText h).bind fun h16 =>
(gFX10_laysTables h16).bind fun h18 =>
itr (fun s : Int32 × MS => gLX10_reduce_10 s.1 s.2) ((0 : Int32), h18)
theorem eFX10_reduce {h : jx_H} {q : Nat} {S : MS} : FX10_reduce q (bput mK h q S) = (gFX10_reduce  S).map (fun s : Int32 × MS => (s.1, bput mK h q s.2)) := by
  unfold FX10_reduce gFX10_reduce
  simp only [gx_bs, gx_ms, gx_mn, gx_bn, gx_bm, gx_mb, gx_ite, gx_exL, gx_b2, gx_b2m, gx_b2mm, gx_sl, gx_sr, gx_id, eFX10_opensText, eFX10_laysTables, wLX10_reduce_10, mK_al, mK_as, mK_ob]
/-! BX10_result_16 -/
noncomputable def gBX10_result_16 (l1 : Int32) (s1 : Int32) (h : MS) : Option (Int32 × MS) :=
(some (gpi h 0 s1)).bind fun h1 =>
(some (h1.1 0)).bind fun x2 =>
if x2 ≤ 0 then
 (gal mK h1 18 l1).bind fun x4 =>
 some (x4, h1)
else
 some ((0 : Int32), h1)
theorem eBX10_result_16 {h : jx_H} {q : Nat} {S : MS} {l1 : Int32} {s1 : Int32} : BX10_result_16 q l1 q s1 (bput mK h q S) = (gBX10_result_16 l1 s1 S).map (fun s : Int32 × MS => (s.1, bput mK h q s.2)) := by
  unfold BX10_result_16 gBX10_result_16
  simp only [gx_bs, gx_ms, gx_mn, gx_bn, gx_bm, gx_mb, gx_ite, gx_exL, gx_b2, gx_b2m, gx_b2mm, gx_sl, gx_sr, gx_id, mJ_18, mK_al, mK_al18, mK_as, mK_as18, mK_gi0, mK_gr30, mK_ob, mK_pi0]
/-! FX10_result -/
noncomputable def gFX10_result (l1 : Int32) (h : MS) : Option (Int32 × MS) :=
(gFX10_in l1 (0 : Int32) (11 : Int32) h).bind fun x6 =>
if x6 = 0 then
 gBX10_result_16 l1 (1 : Int32) h
else
 gBX10_result_16 l1 (0 : Int32) h
theorem eFX10_result {h : jx_H} {q : Nat} {S : MS} {l1 : Int32} : FX10_result q l1 (bput mK h q S) = (gFX10_result l1 S).map (fun s : Int32 × MS => (s.1, bput mK h q s.2)) := by
  unfold FX10_result gFX10_result
  simp only [gx_bs, gx_ms, gx_mn, gx_bn, gx_bm, gx_mb, gx_ite, gx_exL, gx_b2, gx_b2m, gx_b2mm, gx_sl, gx_sr, gx_id, eFX10_in, eBX10_result_16, mK_al, mK_as, mK_ob]
/-! LX10_laysPowers_16 -/
noncomputable def gLX10_laysPowers_16 (l1 : Int32) (l2 : Int32) (l3 : Int32) (h : MS) : Option ((Int32 × MS) ⊕ (MS)) :=
if (13 : Int32) ≤ l3 then
 exL (some h)
else
 (gal mK h 20 (l3 - (1 : Int32))).bind fun x7 =>
 (gFX10_p h).bind fun x9 =>
 if x9 = 0 then none else
 (gas mK h 20 l3 ((x7 * l1) - (x7 * l1) / x9 * x9)).bind fun h11 =>
 (gal mK h11 21 (l3 - (1 : Int32))).bind fun x14 =>
 (gFX10_p h11).bind fun x16 =>
 if x16 = 0 then none else
 (gas mK h11 21 l3 ((x14 * l2) - (x14 * l2) / x16 * x16)).bind fun h18 =>
 some (.inl ((l3 + (1 : Int32)), h18))
theorem eLX10_laysPowers_16 {h : jx_H} {q : Nat} {S : MS} {l1 : Int32} {l2 : Int32} {l3 : Int32} : LX10_laysPowers_16 q l1 l2 l3 (bput mK h q S) = (gLX10_laysPowers_16 l1 l2 l3 S).map (Sum.map (fun s : Int32 × MS => (s.1, bput mK h q s.2)) (bput mK h q)) := by
  unfold LX10_laysPowers_16 gLX10_laysPowers_16
  simp only [gx_bs, gx_ms, gx_mn, gx_bn, gx_bm, gx_mb, gx_ite, gx_exL, gx_b2, gx_b2m, gx_b2mm, gx_sl, gx_sr, gx_id, eFX10_p, mJ_20, mJ_21, mK_al, mK_al20, mK_al21, mK_as, mK_as20, mK_as21, mK_gr32, mK_gr33, mK_ob]
theorem wLX10_laysPowers_16 {h : jx_H} {q : Nat} {S : MS} {l1 : Int32} {l2 : Int32} {c0 : Int32} : itr (fun s : Int32 × jx_H => LX10_laysPowers_16 q l1 l2 s.1 s.2) (c0, bput mK h q S) = (itr (fun s : Int32 × MS => gLX10_laysPowers_16 l1 l2 s.1 s.2) (c0, S)).map (bput mK h q) :=
  itr_map (φ := (fun s : Int32 × MS => (s.1, bput mK h q s.2))) (ψ := (bput mK h q)) (fun s => eLX10_laysPowers_16) (c0, S)

/-! FX10_laysPowers -/
noncomputable def gFX10_laysPowers (l1 : Int32) (l2 : Int32) (h : MS) : Option (MS) :=
(gas mK h 20 (0 : Int32) (1 : Int32)).bind fun h2 =>
(gas mK h2 21 (0 : Int32) (1 : Int32)).bind fun h4 =>
itr (fun s : Int32 × MS => gLX10_laysPowers_16 l1 l2 s.1 s.2) ((1 : Int32), h4)
theorem eFX10_laysPowers {h : jx_H} {q : Nat} {S : MS} {l1 : Int32} {l2 : Int32} : FX10_laysPowers q l1 l2 (bput mK h q S) = (gFX10_laysPowers l1 l2 S).map (bput mK h q) := by
  unfold FX10_laysPowers gFX10_laysPowers
  simp only [gx_bs, gx_ms, gx_mn, gx_bn, gx_bm, gx_mb, gx_ite, gx_exL, gx_b2, gx_b2m, gx_b2mm, gx_sl, gx_sr, gx_id, wLX10_laysPowers_16, mJ_20, mJ_21, mK_al, mK_al20, mK_al21, mK_as, mK_as20, mK_as21, mK_gr32, mK_gr33, mK_ob]
/-! BX10_valueOf_98 -/
noncomputable def gBX10_valueOf_98 (l1 : Int32) (l3 : Int32) (s0 : Int32) (s1 : Int32) (h : MS) : Option ((Int32 × Int32) ⊕ (Int32)) :=
some (.inl ((s0 - s1), (l3 + (1 : Int32))))
theorem eBX10_valueOf_98 {h : jx_H} {q : Nat} {S : MS} {l1 : Int32} {l3 : Int32} {s0 : Int32} {s1 : Int32} : BX10_valueOf_98 q l1 l3 s0 s1 (bput mK h q S) = gBX10_valueOf_98 l1 l3 s0 s1 S := by
  unfold BX10_valueOf_98 gBX10_valueOf_98
  simp only [gx_bs, gx_ms, gx_mn, gx_bn, gx_bm, gx_mb, gx_ite, gx_exL, gx_b2, gx_b2m, gx_b2mm, gx_sl, gx_sr, gx_id, mK_al, mK_as, mK_ob]
/-! LX10_valueOf_32 -/
noncomputable def gLX10_valueOf_32 (l1 : Int32) (l2 : Int32) (l3 : Int32) (h : MS) : Option ((Int32 × Int32) ⊕ (Int32)) :=
(gFX10_n h).bind fun x10 =>
if x10 ≤ l3 then
 exL ((gFX10_mod l2 h).bind fun x12 =>
 some x12)
else
 (gFX10_ruleAt l1 l3 h).bind fun x14 =>
 (gal mK h 1 x14).bind fun x15 =>
 if x15 = 0 then
  gBX10_valueOf_98 l1 l3 l2 (0 : Int32) h
 else
  (gal mK h 1 ((4 : Int32) + l3)).bind fun x18 =>
  (gal mK h 20 x18).bind fun x19 =>
  (gal mK h 1 ((16 : Int32) + l3)).bind fun x22 =>
  (gal mK h 21 x22).bind fun x23 =>
  (gFX10_p h).bind fun x25 =>
  if x25 = 0 then none else
  gBX10_valueOf_98 l1 l3 l2 (x15 * ((x19 * x23) - (x19 * x23) / x25 * x25)) h
theorem eLX10_valueOf_32 {h : jx_H} {q : Nat} {S : MS} {l1 : Int32} {l2 : Int32} {l3 : Int32} : LX10_valueOf_32 q l1 l2 l3 (bput mK h q S) = gLX10_valueOf_32 l1 l2 l3 S := by
  unfold LX10_valueOf_32 gLX10_valueOf_32
  simp only [gx_bs, gx_ms, gx_mn, gx_bn, gx_bm, gx_mb, gx_ite, gx_exL, gx_b2, gx_b2m, gx_b2mm, gx_sl, gx_sr, gx_id, eFX10_n, eFX10_mod, eFX10_ruleAt, eBX10_valueOf_98, eFX10_p, mJ_1, mJ_20, mJ_21, mK_al, mK_al1, mK_al20, mK_al21, mK_as, mK_as1, mK_as20, mK_as21, mK_gr1, mK_gr32, mK_gr33, mK_ob]
/-! FX10_valueOf -/
noncomputable def gFX10_valueOf (l1 : Int32) (h : MS) : Option (Int32) :=
(gal mK h 1 ((28 : Int32) + l1)).bind fun x3 =>
(gal mK h 20 x3).bind fun x4 =>
(gal mK h 1 ((42 : Int32) + l1)).bind fun x7 =>
(gal mK h 21 x7).bind fun x8 =>
itr (fun s : Int32 × Int32 => gLX10_valueOf_32 l1 s.1 s.2 h) ((x4 * x8), (0 : Int32))
theorem eFX10_valueOf {h : jx_H} {q : Nat} {S : MS} {l1 : Int32} : FX10_valueOf q l1 (bput mK h q S) = gFX10_valueOf l1 S := by
  unfold FX10_valueOf gFX10_valueOf
  simp only [gx_bs, gx_ms, gx_mn, gx_bn, gx_bm, gx_mb, gx_ite, gx_exL, gx_b2, gx_b2m, gx_b2mm, gx_sl, gx_sr, gx_id, eLX10_valueOf_32, mJ_1, mJ_20, mJ_21, mK_al, mK_al1, mK_al20, mK_al21, mK_as, mK_as1, mK_as20, mK_as21, mK_gr1, mK_gr32, mK_gr33, mK_ob]
/-! BX10_isZero_40 -/
noncomputable def gBX10_isZero_40 (l4 : Int32) (s0 : Int32) (h : MS) : Option ((Int32 × Int32) ⊕ (Int32 × MS)) :=
some (.inl (s0, (l4 + (1 : Int32))))
theorem eBX10_isZero_40 {h : jx_H} {q : Nat} {S : MS} {l4 : Int32} {s0 : Int32} : BX10_isZero_40 q l4 s0 (bput mK h q S) = (gBX10_isZero_40 l4 s0 S).map (Sum.map id (fun s : Int32 × MS => (s.1, bput mK h q s.2))) := by
  unfold BX10_isZero_40 gBX10_isZero_40
  simp only [gx_bs, gx_ms, gx_mn, gx_bn, gx_bm, gx_mb, gx_ite, gx_exL, gx_b2, gx_b2m, gx_b2mm, gx_sl, gx_sr, gx_id, mK_al, mK_as, mK_ob]
/-! LX10_isZero_11 -/
noncomputable def gLX10_isZero_11 (l3 : Int32) (l4 : Int32) (h : MS) : Option ((Int32 × Int32) ⊕ (Int32 × MS)) :=
(gal mK h 1 (2 : Int32)).bind fun x4 =>
if x4 ≤ l4 then
 exL (if l3 = 0 ∨ l3 = 1 then some (l3, h) else none)
else
 if l3 = 0 then
  exL (if l3 = 0 ∨ l3 = 1 then some (l3, h) else none)
 else
  (gFX10_valueOf l4 h).bind fun x8 =>
  if x8 = 0 then
   gBX10_isZero_40 l4 (1 : Int32) h
  else
   gBX10_isZero_40 l4 (0 : Int32) h
theorem eLX10_isZero_11 {h : jx_H} {q : Nat} {S : MS} {l3 : Int32} {l4 : Int32} : LX10_isZero_11 q l3 l4 (bput mK h q S) = (gLX10_isZero_11 l3 l4 S).map (Sum.map id (fun s : Int32 × MS => (s.1, bput mK h q s.2))) := by
  unfold LX10_isZero_11 gLX10_isZero_11
  simp only [gx_bs, gx_ms, gx_mn, gx_bn, gx_bm, gx_mb, gx_ite, gx_exL, gx_b2, gx_b2m, gx_b2mm, gx_sl, gx_sr, gx_id, eFX10_valueOf, eBX10_isZero_40, mJ_1, mK_al, mK_al1, mK_as, mK_as1, mK_gr1, mK_ob]
theorem wLX10_isZero_11 {h : jx_H} {q : Nat} {S : MS} {c0 : Int32} {c1 : Int32} : itr (fun s : Int32 × Int32 => LX10_isZero_11 q s.1 s.2 (bput mK h q S)) (c0, c1) = (itr (fun s : Int32 × Int32 => gLX10_isZero_11  s.1 s.2 S) (c0, c1)).map (fun s : Int32 × MS => (s.1, bput mK h q s.2)) :=
  itr_map (φ := id) (ψ := (fun s : Int32 × MS => (s.1, bput mK h q s.2))) (fun s => eLX10_isZero_11) (c0, c1)

/-! FX10_isZero -/
noncomputable def gFX10_isZero (l1 : Int32) (l2 : Int32) (h : MS) : Option (Int32 × MS) :=
(gFX10_laysPowers l1 l2 h).bind fun h2 =>
itr (fun s : Int32 × Int32 => gLX10_isZero_11 s.1 s.2 h2) ((1 : Int32), (0 : Int32))
theorem eFX10_isZero {h : jx_H} {q : Nat} {S : MS} {l1 : Int32} {l2 : Int32} : FX10_isZero q l1 l2 (bput mK h q S) = (gFX10_isZero l1 l2 S).map (fun s : Int32 × MS => (s.1, bput mK h q s.2)) := by
  unfold FX10_isZero gFX10_isZero
  simp only [gx_bs, gx_ms, gx_mn, gx_bn, gx_bm, gx_mb, gx_ite, gx_exL, gx_b2, gx_b2m, gx_b2mm, gx_sl, gx_sr, gx_id, eFX10_laysPowers, wLX10_isZero_11, mK_al, mK_as, mK_ob]
/-! BX10_laysZeros_64 -/
noncomputable def gBX10_laysZeros_64 (l1 : Int32) (l2 : Int32) (h : MS) : Option ((Int32 × MS) ⊕ ((Int32 × MS) ⊕ (MS))) :=
some (.inl ((l2 + (1 : Int32)), h))
theorem eBX10_laysZeros_64 {h : jx_H} {q : Nat} {S : MS} {l1 : Int32} {l2 : Int32} : BX10_laysZeros_64 q l1 l2 (bput mK h q S) = (gBX10_laysZeros_64 l1 l2 S).map (Sum.map (fun s : Int32 × MS => (s.1, bput mK h q s.2)) (Sum.map (fun s : Int32 × MS => (s.1, bput mK h q s.2)) (bput mK h q))) := by
  unfold BX10_laysZeros_64 gBX10_laysZeros_64
  simp only [gx_bs, gx_ms, gx_mn, gx_bn, gx_bm, gx_mb, gx_ite, gx_exL, gx_b2, gx_b2m, gx_b2mm, gx_sl, gx_sr, gx_id, mK_al, mK_as, mK_ob]
/-! LX10_laysZeros_17 -/
noncomputable def gLX10_laysZeros_17 (l1 : Int32) (l2 : Int32) (h : MS) : Option ((Int32 × MS) ⊕ ((Int32 × MS) ⊕ (MS))) :=
(gFX10_p h).bind fun x5 =>
if x5 ≤ l2 then
 exL (some (.inl ((l1 + (1 : Int32)), h)))
else
 bind2 (gFX10_isZero l1 l2 h) fun x7 h8 =>
 if x7 = 0 then
  gBX10_laysZeros_64 l1 l2 h8
 else
  (some (h8.1 34)).bind fun x10 =>
  (gas mK h8 22 x10 l1).bind fun h11 =>
  (some (h11.1 34)).bind fun x13 =>
  (gas mK h11 23 x13 l2).bind fun h14 =>
  (some (h14.1 34)).bind fun x15 =>
  (some (gpi h14 34 (x15 + (1 : Int32)))).bind fun h16 =>
  gBX10_laysZeros_64 l1 l2 h16
theorem eLX10_laysZeros_17 {h : jx_H} {q : Nat} {S : MS} {l1 : Int32} {l2 : Int32} : LX10_laysZeros_17 q l1 l2 (bput mK h q S) = (gLX10_laysZeros_17 l1 l2 S).map (Sum.map (fun s : Int32 × MS => (s.1, bput mK h q s.2)) (Sum.map (fun s : Int32 × MS => (s.1, bput mK h q s.2)) (bput mK h q))) := by
  unfold LX10_laysZeros_17 gLX10_laysZeros_17
  simp only [gx_bs, gx_ms, gx_mn, gx_bn, gx_bm, gx_mb, gx_ite, gx_exL, gx_b2, gx_b2m, gx_b2mm, gx_sl, gx_sr, gx_id, eFX10_p, eFX10_isZero, eBX10_laysZeros_64, mJ_22, mJ_23, mK_al, mK_al22, mK_al23, mK_as, mK_as22, mK_as23, mK_gi34, mK_gr35, mK_gr36, mK_ob, mK_pi34]
theorem wLX10_laysZeros_17 {h : jx_H} {q : Nat} {S : MS} {l1 : Int32} {c0 : Int32} : itr (fun s : Int32 × jx_H => LX10_laysZeros_17 q l1 s.1 s.2) (c0, bput mK h q S) = (itr (fun s : Int32 × MS => gLX10_laysZeros_17 l1 s.1 s.2) (c0, S)).map (Sum.map (fun s : Int32 × MS => (s.1, bput mK h q s.2)) (bput mK h q)) :=
  itr_map (φ := (fun s : Int32 × MS => (s.1, bput mK h q s.2))) (ψ := (Sum.map (fun s : Int32 × MS => (s.1, bput mK h q s.2)) (bput mK h q))) (fun s => eLX10_laysZeros_17) (c0, S)

/-! LX10_laysZeros_7 -/
noncomputable def gLX10_laysZeros_7 (l1 : Int32) (h : MS) : Option ((Int32 × MS) ⊕ (MS)) :=
(gFX10_p h).bind fun x3 =>
if x3 ≤ l1 then
 exL (some h)
else
 itr (fun s : Int32 × MS => gLX10_laysZeros_17 l1 s.1 s.2) ((0 : Int32), h)
theorem eLX10_laysZeros_7 {h : jx_H} {q : Nat} {S : MS} {l1 : Int32} : LX10_laysZeros_7 q l1 (bput mK h q S) = (gLX10_laysZeros_7 l1 S).map (Sum.map (fun s : Int32 × MS => (s.1, bput mK h q s.2)) (bput mK h q)) := by
  unfold LX10_laysZeros_7 gLX10_laysZeros_7
  simp only [gx_bs, gx_ms, gx_mn, gx_bn, gx_bm, gx_mb, gx_ite, gx_exL, gx_b2, gx_b2m, gx_b2mm, gx_sl, gx_sr, gx_id, eFX10_p, wLX10_laysZeros_17, mK_al, mK_as, mK_ob]
theorem wLX10_laysZeros_7 {h : jx_H} {q : Nat} {S : MS} {c0 : Int32} : itr (fun s : Int32 × jx_H => LX10_laysZeros_7 q s.1 s.2) (c0, bput mK h q S) = (itr (fun s : Int32 × MS => gLX10_laysZeros_7  s.1 s.2) (c0, S)).map (bput mK h q) :=
  itr_map (φ := (fun s : Int32 × MS => (s.1, bput mK h q s.2))) (ψ := (bput mK h q)) (fun s => eLX10_laysZeros_7) (c0, S)

/-! FX10_laysZeros -/
noncomputable def gFX10_laysZeros (h : MS) : Option (MS) :=
(some (gpi h 34 (0 : Int32))).bind fun h1 =>
itr (fun s : Int32 × MS => gLX10_laysZeros_7 s.1 s.2) ((0 : Int32), h1)
theorem eFX10_laysZeros {h : jx_H} {q : Nat} {S : MS} : FX10_laysZeros q (bput mK h q S) = (gFX10_laysZeros  S).map (bput mK h q) := by
  unfold FX10_laysZeros gFX10_laysZeros
  simp only [gx_bs, gx_ms, gx_mn, gx_bn, gx_bm, gx_mb, gx_ite, gx_exL, gx_b2, gx_b2m, gx_b2mm, gx_sl, gx_sr, gx_id, wLX10_laysZeros_7, mK_al, mK_as, mK_ob, mK_pi34]
/-! LX10_allTimes_8 -/
noncomputable def gLX10_allTimes_8 (l1 : Int32) (l2 : Int32) (h : MS) : Option ((Int32 × Int32 × MS) ⊕ (Int32 × MS)) :=
(some (h.1 34)).bind fun x3 =>
if x3 ≤ l2 then
 exL (some (l1, h))
else
 (gal mK h 22 l2).bind fun x5 =>
 (gal mK h 23 l2).bind fun x7 =>
 bind2 (gFX10_times x5 x7 h) fun x9 h10 =>
 some (.inl ((l1 + x9), (l2 + (1 : Int32)), h10))
theorem eLX10_allTimes_8 {h : jx_H} {q : Nat} {S : MS} {l1 : Int32} {l2 : Int32} : LX10_allTimes_8 q l1 l2 (bput mK h q S) = (gLX10_allTimes_8 l1 l2 S).map (Sum.map (fun s : Int32 × Int32 × MS => (s.1, s.2.1, bput mK h q s.2.2)) (fun s : Int32 × MS => (s.1, bput mK h q s.2))) := by
  unfold LX10_allTimes_8 gLX10_allTimes_8
  simp only [gx_bs, gx_ms, gx_mn, gx_bn, gx_bm, gx_mb, gx_ite, gx_exL, gx_b2, gx_b2m, gx_b2mm, gx_sl, gx_sr, gx_id, eFX10_times, mJ_22, mJ_23, mK_al, mK_al22, mK_al23, mK_as, mK_as22, mK_as23, mK_gi34, mK_gr35, mK_gr36, mK_ob]
theorem wLX10_allTimes_8 {h : jx_H} {q : Nat} {S : MS} {c0 : Int32} {c1 : Int32} : itr (fun s : Int32 × Int32 × jx_H => LX10_allTimes_8 q s.1 s.2.1 s.2.2) (c0, c1, bput mK h q S) = (itr (fun s : Int32 × Int32 × MS => gLX10_allTimes_8  s.1 s.2.1 s.2.2) (c0, c1, S)).map (fun s : Int32 × MS => (s.1, bput mK h q s.2)) :=
  itr_map (φ := (fun s : Int32 × Int32 × MS => (s.1, s.2.1, bput mK h q s.2.2))) (ψ := (fun s : Int32 × MS => (s.1, bput mK h q s.2))) (fun s => eLX10_allTimes_8) (c0, c1, S)

/-! FX10_allTimes -/
noncomputable def gFX10_allTimes (h : MS) : Option (Int32 × MS) :=
(gFX10_laysZeros h).bind fun h2 =>
itr (fun s : Int32 × Int32 × MS => gLX10_allTimes_8 s.1 s.2.1 s.2.2) ((0 : Int32), (0 : Int32), h2)
theorem eFX10_allTimes {h : jx_H} {q : Nat} {S : MS} : FX10_allTimes q (bput mK h q S) = (gFX10_allTimes  S).map (fun s : Int32 × MS => (s.1, bput mK h q s.2)) := by
  unfold FX10_allTimes gFX10_allTimes
  simp only [gx_bs, gx_ms, gx_mn, gx_bn, gx_bm, gx_mb, gx_ite, gx_exL, gx_b2, gx_b2m, gx_b2mm, gx_sl, gx_sr, gx_id, eFX10_laysZeros, wLX10_allTimes_8, mK_al, mK_as, mK_ob]
/-! BX10_filled_43 -/
noncomputable def gBX10_filled_43 (l2 : Int32) (l3 : Int32) (s0 : Int32) (s1 : Int32) (h : MS) : Option ((Int32 × Int32) ⊕ ((Int32 × Int32) ⊕ (Int32))) :=
some (.inl ((s0 + s1), (l3 + (1 : Int32))))
theorem eBX10_filled_43 {h : jx_H} {q : Nat} {S : MS} {l2 : Int32} {l3 : Int32} {s0 : Int32} {s1 : Int32} : BX10_filled_43 q l2 l3 s0 s1 (bput mK h q S) = gBX10_filled_43 l2 l3 s0 s1 S := by
  unfold BX10_filled_43 gBX10_filled_43
  simp only [gx_bs, gx_ms, gx_mn, gx_bn, gx_bm, gx_mb, gx_ite, gx_exL, gx_b2, gx_b2m, gx_b2mm, gx_sl, gx_sr, gx_id, mK_al, mK_as, mK_ob]
/-! LX10_filled_16 -/
noncomputable def gLX10_filled_16 (l2 : Int32) (l1 : Int32) (l3 : Int32) (h : MS) : Option ((Int32 × Int32) ⊕ ((Int32 × Int32) ⊕ (Int32))) :=
(gFX10_n h).bind fun x4 =>
if x4 ≤ l3 then
 exL (some (.inl (l1, (l2 + (1 : Int32)))))
else
 (gFX10_ruleAt l2 l3 h).bind fun x6 =>
 (gal mK h 1 x6).bind fun x7 =>
 if x7 ≤ 0 then
  gBX10_filled_43 l2 l3 l1 (0 : Int32) h
 else
  gBX10_filled_43 l2 l3 l1 (1 : Int32) h
theorem eLX10_filled_16 {h : jx_H} {q : Nat} {S : MS} {l2 : Int32} {l1 : Int32} {l3 : Int32} : LX10_filled_16 q l2 l1 l3 (bput mK h q S) = gLX10_filled_16 l2 l1 l3 S := by
  unfold LX10_filled_16 gLX10_filled_16
  simp only [gx_bs, gx_ms, gx_mn, gx_bn, gx_bm, gx_mb, gx_ite, gx_exL, gx_b2, gx_b2m, gx_b2mm, gx_sl, gx_sr, gx_id, eFX10_n, eFX10_ruleAt, eBX10_filled_43, mJ_1, mK_al, mK_al1, mK_as, mK_as1, mK_gr1, mK_ob]
/-! LX10_filled_4 -/
noncomputable def gLX10_filled_4 (l1 : Int32) (l2 : Int32) (h : MS) : Option ((Int32 × Int32) ⊕ (Int32)) :=
(gal mK h 1 (2 : Int32)).bind fun x2 =>
if x2 ≤ l2 then
 exL (some l1)
else
 itr (fun s : Int32 × Int32 => gLX10_filled_16 l2 s.1 s.2 h) (l1, (0 : Int32))
theorem eLX10_filled_4 {h : jx_H} {q : Nat} {S : MS} {l1 : Int32} {l2 : Int32} : LX10_filled_4 q l1 l2 (bput mK h q S) = gLX10_filled_4 l1 l2 S := by
  unfold LX10_filled_4 gLX10_filled_4
  simp only [gx_bs, gx_ms, gx_mn, gx_bn, gx_bm, gx_mb, gx_ite, gx_exL, gx_b2, gx_b2m, gx_b2mm, gx_sl, gx_sr, gx_id, eLX10_filled_16, mJ_1, mK_al, mK_al1, mK_as, mK_as1, mK_gr1, mK_ob]
/-! FX10_filled -/
noncomputable def gFX10_filled (h : MS) : Option (Int32) :=
itr (fun s : Int32 × Int32 => gLX10_filled_4 s.1 s.2 h) ((0 : Int32), (0 : Int32))
theorem eFX10_filled {h : jx_H} {q : Nat} {S : MS} : FX10_filled q (bput mK h q S) = gFX10_filled  S := by
  unfold FX10_filled gFX10_filled
  simp only [gx_bs, gx_ms, gx_mn, gx_bn, gx_bm, gx_mb, gx_ite, gx_exL, gx_b2, gx_b2m, gx_b2mm, gx_sl, gx_sr, gx_id, eLX10_filled_4, mK_al, mK_as, mK_ob]
/-! BX10_movable_53 -/
noncomputable def gBX10_movable_53 (l1 : Int32) (l3 : Int32) (l4 : Int32) (s0 : Int32) (s1 : Int32) (h : MS) : Option ((Int32 × Int32) ⊕ ((Int32 × Int32) ⊕ (Int32))) :=
some (.inl ((s0 + s1), (l4 + (1 : Int32))))
theorem eBX10_movable_53 {h : jx_H} {q : Nat} {S : MS} {l1 : Int32} {l3 : Int32} {l4 : Int32} {s0 : Int32} {s1 : Int32} : BX10_movable_53 q l1 l3 l4 s0 s1 (bput mK h q S) = gBX10_movable_53 l1 l3 l4 s0 s1 S := by
  unfold BX10_movable_53 gBX10_movable_53
  simp only [gx_bs, gx_ms, gx_mn, gx_bn, gx_bm, gx_mb, gx_ite, gx_exL, gx_b2, gx_b2m, gx_b2mm, gx_sl, gx_sr, gx_id, mK_al, mK_as, mK_ob]
/-! BX10_movable_52 -/
noncomputable def gBX10_movable_52 (l1 : Int32) (l3 : Int32) (l4 : Int32) (s0 : Int32) (h : MS) : Option ((Int32 × Int32) ⊕ ((Int32 × Int32) ⊕ (Int32))) :=
gBX10_movable_53 l1 l3 l4 s0 (0 : Int32) h
theorem eBX10_movable_52 {h : jx_H} {q : Nat} {S : MS} {l1 : Int32} {l3 : Int32} {l4 : Int32} {s0 : Int32} : BX10_movable_52 q l1 l3 l4 s0 (bput mK h q S) = gBX10_movable_52 l1 l3 l4 s0 S := by
  unfold BX10_movable_52 gBX10_movable_52
  simp only [gx_bs, gx_ms, gx_mn, gx_bn, gx_bm, gx_mb, gx_ite, gx_exL, gx_b2, gx_b2m, gx_b2mm, gx_sl, gx_sr, gx_id, eBX10_movable_53, mK_al, mK_as, mK_ob]
/-! BX10_movable_48 -/
noncomputable def gBX10_movable_48 (l1 : Int32) (l3 : Int32) (l4 : Int32) (s0 : Int32) (h : MS) : Option ((Int32 × Int32) ⊕ ((Int32 × Int32) ⊕ (Int32))) :=
gBX10_movable_53 l1 l3 l4 s0 (1 : Int32) h
theorem eBX10_movable_48 {h : jx_H} {q : Nat} {S : MS} {l1 : Int32} {l3 : Int32} {l4 : Int32} {s0 : Int32} : BX10_movable_48 q l1 l3 l4 s0 (bput mK h q S) = gBX10_movable_48 l1 l3 l4 s0 S := by
  unfold BX10_movable_48 gBX10_movable_48
  simp only [gx_bs, gx_ms, gx_mn, gx_bn, gx_bm, gx_mb, gx_ite, gx_exL, gx_b2, gx_b2m, gx_b2mm, gx_sl, gx_sr, gx_id, eBX10_movable_53, mK_al, mK_as, mK_ob]
/-! LX10_movable_13 -/
noncomputable def gLX10_movable_13 (l1 : Int32) (l3 : Int32) (l2 : Int32) (l4 : Int32) (h : MS) : Option ((Int32 × Int32) ⊕ ((Int32 × Int32) ⊕ (Int32))) :=
if (11 : Int32) < l4 then
 exL (some (.inl (l2, (l3 + (1 : Int32)))))
else
 if l1 = 0 then
  (gFX10_canLeave l3 l4 h).bind fun x2 =>
  if x2 = 0 then
   gBX10_movable_52 l1 l3 l4 l2 h
  else
   gBX10_movable_48 l1 l3 l4 l2 h
 else
  (gFX10_canJoin l3 l4 h).bind fun x5 =>
  if x5 = 0 then
   gBX10_movable_52 l1 l3 l4 l2 h
  else
   gBX10_movable_48 l1 l3 l4 l2 h
theorem eLX10_movable_13 {h : jx_H} {q : Nat} {S : MS} {l1 : Int32} {l3 : Int32} {l2 : Int32} {l4 : Int32} : LX10_movable_13 q l1 l3 l2 l4 (bput mK h q S) = gLX10_movable_13 l1 l3 l2 l4 S := by
  unfold LX10_movable_13 gLX10_movable_13
  simp only [gx_bs, gx_ms, gx_mn, gx_bn, gx_bm, gx_mb, gx_ite, gx_exL, gx_b2, gx_b2m, gx_b2mm, gx_sl, gx_sr, gx_id, eFX10_canLeave, eBX10_movable_52, eBX10_movable_48, eFX10_canJoin, mK_al, mK_as, mK_ob]
/-! LX10_movable_4 -/
noncomputable def gLX10_movable_4 (l1 : Int32) (l2 : Int32) (l3 : Int32) (h : MS) : Option ((Int32 × Int32) ⊕ (Int32)) :=
if (11 : Int32) < l3 then
 exL (some l2)
else
 itr (fun s : Int32 × Int32 => gLX10_movable_13 l1 l3 s.1 s.2 h) (l2, (0 : Int32))
theorem eLX10_movable_4 {h : jx_H} {q : Nat} {S : MS} {l1 : Int32} {l2 : Int32} {l3 : Int32} : LX10_movable_4 q l1 l2 l3 (bput mK h q S) = gLX10_movable_4 l1 l2 l3 S := by
  unfold LX10_movable_4 gLX10_movable_4
  simp only [gx_bs, gx_ms, gx_mn, gx_bn, gx_bm, gx_mb, gx_ite, gx_exL, gx_b2, gx_b2m, gx_b2mm, gx_sl, gx_sr, gx_id, eLX10_movable_13, mK_al, mK_as, mK_ob]
/-! FX10_movable -/
noncomputable def gFX10_movable (l1 : Int32) (h : MS) : Option (Int32) :=
itr (fun s : Int32 × Int32 => gLX10_movable_4 l1 s.1 s.2 h) ((0 : Int32), (0 : Int32))
theorem eFX10_movable {h : jx_H} {q : Nat} {S : MS} {l1 : Int32} : FX10_movable q l1 (bput mK h q S) = gFX10_movable l1 S := by
  unfold FX10_movable gFX10_movable
  simp only [gx_bs, gx_ms, gx_mn, gx_bn, gx_bm, gx_mb, gx_ite, gx_exL, gx_b2, gx_b2m, gx_b2mm, gx_sl, gx_sr, gx_id, eLX10_movable_4, mK_al, mK_as, mK_ob]
/-! BX10_count_111 -/
noncomputable def gBX10_count_111 (l1 : Int32) (h : MS) : Option (Int32 × MS) :=
(gal mK h 1 l1).bind fun x2 =>
some (x2, h)
theorem eBX10_count_111 {h : jx_H} {q : Nat} {S : MS} {l1 : Int32} : BX10_count_111 q l1 (bput mK h q S) = (gBX10_count_111 l1 S).map (fun s : Int32 × MS => (s.1, bput mK h q s.2)) := by
  unfold BX10_count_111 gBX10_count_111
  simp only [gx_bs, gx_ms, gx_mn, gx_bn, gx_bm, gx_mb, gx_ite, gx_exL, gx_b2, gx_b2m, gx_b2mm, gx_sl, gx_sr, gx_id, mJ_1, mK_al, mK_al1, mK_as, mK_as1, mK_gr1, mK_ob]
/-! BX10_count_31 -/
noncomputable def gBX10_count_31 (l1 : Int32) (s0 : Int32) (h : MS) : Option (Int32 × MS) :=
if s0 = -1 then
 some ((0 : Int32), h)
else
if s0 = 0 then
 gBX10_count_111 l1 h
else
if s0 = 1 then
 gBX10_count_111 l1 h
else
if s0 = 2 then
 gBX10_count_111 l1 h
else
if s0 = 3 then
 (gFX10_filled h).bind fun x9 =>
 some (x9, h)
else
if s0 = 4 then
 (gal mK h 1 (3 : Int32)).bind fun x12 =>
 some (x12, h)
else
if s0 = 5 then
 (some (h.1 5)).bind fun x14 =>
 some (x14, h)
else
if s0 = 6 then
 (gFX10_movable (1 : Int32) h).bind fun x17 =>
 some (x17, h)
else
if s0 = 7 then
 (gFX10_movable (0 : Int32) h).bind fun x20 =>
 some (x20, h)
else
gBX10_count_111 l1 h
theorem eBX10_count_31 {h : jx_H} {q : Nat} {S : MS} {l1 : Int32} {s0 : Int32} : BX10_count_31 q l1 s0 (bput mK h q S) = (gBX10_count_31 l1 s0 S).map (fun s : Int32 × MS => (s.1, bput mK h q s.2)) := by
  unfold BX10_count_31 gBX10_count_31
  simp only [gx_bs, gx_ms, gx_mn, gx_bn, gx_bm, gx_mb, gx_ite, gx_exL, gx_b2, gx_b2m, gx_b2mm, gx_sl, gx_sr, gx_id, eBX10_count_111, eFX10_filled, eFX10_movable, mJ_1, mK_al, mK_al1, mK_as, mK_as1, mK_gi5, mK_gr1, mK_ob]
/-! BX10_count_16 -/
noncomputable def gBX10_count_16 (l1 : Int32) (s1 : Int32) (h : MS) : Option (Int32 × MS) :=
(some (gpi h 0 s1)).bind fun h21 =>
(some (h21.1 0)).bind fun x22 =>
if x22 ≤ 0 then
 gBX10_count_31 l1 l1 h21
else
 gBX10_count_31 l1 (-1 : Int32) h21
theorem eBX10_count_16 {h : jx_H} {q : Nat} {S : MS} {l1 : Int32} {s1 : Int32} : BX10_count_16 q l1 q s1 (bput mK h q S) = (gBX10_count_16 l1 s1 S).map (fun s : Int32 × MS => (s.1, bput mK h q s.2)) := by
  unfold BX10_count_16 gBX10_count_16
  simp only [gx_bs, gx_ms, gx_mn, gx_bn, gx_bm, gx_mb, gx_ite, gx_exL, gx_b2, gx_b2m, gx_b2mm, gx_sl, gx_sr, gx_id, eBX10_count_31, mK_al, mK_as, mK_gi0, mK_ob, mK_pi0]
/-! FX10_count -/
noncomputable def gFX10_count (l1 : Int32) (h : MS) : Option (Int32 × MS) :=
(gFX10_in l1 (0 : Int32) (7 : Int32) h).bind fun x24 =>
if x24 = 0 then
 gBX10_count_16 l1 (1 : Int32) h
else
 gBX10_count_16 l1 (0 : Int32) h
theorem eFX10_count {h : jx_H} {q : Nat} {S : MS} {l1 : Int32} : FX10_count q l1 (bput mK h q S) = (gFX10_count l1 S).map (fun s : Int32 × MS => (s.1, bput mK h q s.2)) := by
  unfold FX10_count gFX10_count
  simp only [gx_bs, gx_ms, gx_mn, gx_bn, gx_bm, gx_mb, gx_ite, gx_exL, gx_b2, gx_b2m, gx_b2mm, gx_sl, gx_sr, gx_id, eFX10_in, eBX10_count_16, mK_al, mK_as, mK_ob]
/-! BX10_changes_15 -/
noncomputable def gBX10_changes_15 (l1 : Int32) (s1 : Int32) (h : MS) : Option (Int32 × MS) :=
(some (gpi h 0 s1)).bind fun h1 =>
(some (h1.1 0)).bind fun x2 =>
if x2 ≤ 0 then
 (gal mK h1 7 l1).bind fun x4 =>
 some (x4, h1)
else
 some ((0 : Int32), h1)
theorem eBX10_changes_15 {h : jx_H} {q : Nat} {S : MS} {l1 : Int32} {s1 : Int32} : BX10_changes_15 q l1 q s1 (bput mK h q S) = (gBX10_changes_15 l1 s1 S).map (fun s : Int32 × MS => (s.1, bput mK h q s.2)) := by
  unfold BX10_changes_15 gBX10_changes_15
  simp only [gx_bs, gx_ms, gx_mn, gx_bn, gx_bm, gx_mb, gx_ite, gx_exL, gx_b2, gx_b2m, gx_b2mm, gx_sl, gx_sr, gx_id, mJ_7, mK_al, mK_al7, mK_as, mK_as7, mK_gi0, mK_gr8, mK_ob, mK_pi0]
/-! FX10_changes -/
noncomputable def gFX10_changes (l1 : Int32) (h : MS) : Option (Int32 × MS) :=
(gFX10_in l1 (0 : Int32) (5 : Int32) h).bind fun x6 =>
if x6 = 0 then
 gBX10_changes_15 l1 (1 : Int32) h
else
 gBX10_changes_15 l1 (0 : Int32) h
theorem eFX10_changes {h : jx_H} {q : Nat} {S : MS} {l1 : Int32} : FX10_changes q l1 (bput mK h q S) = (gFX10_changes l1 S).map (fun s : Int32 × MS => (s.1, bput mK h q s.2)) := by
  unfold FX10_changes gFX10_changes
  simp only [gx_bs, gx_ms, gx_mn, gx_bn, gx_bm, gx_mb, gx_ite, gx_exL, gx_b2, gx_b2m, gx_b2mm, gx_sl, gx_sr, gx_id, eFX10_in, eBX10_changes_15, mK_al, mK_as, mK_ob]
/-! FX10_isOnSide -/
noncomputable def gFX10_isOnSide (l0 : Int32) (l1 : Int32) (h : MS) : Option (Int32) :=
(gFX10_in l0 (0 : Int32) (11 : Int32) h).bind fun x1 =>
if x1 = 0 then
 some (0 : Int32)
else
 (gFX10_in l1 (0 : Int32) (11 : Int32) h).bind fun x2 =>
 if x2 = 0 then
  some (0 : Int32)
 else
  some (1 : Int32)
theorem eFX10_isOnSide {h : jx_H} {q : Nat} {S : MS} {l0 : Int32} {l1 : Int32} : FX10_isOnSide l0 l1 (bput mK h q S) = gFX10_isOnSide l0 l1 S := by
  unfold FX10_isOnSide gFX10_isOnSide
  simp only [gx_bs, gx_ms, gx_mn, gx_bn, gx_bm, gx_mb, gx_ite, gx_exL, gx_b2, gx_b2m, gx_b2mm, gx_sl, gx_sr, gx_id, eFX10_in, mK_al, mK_as, mK_ob]
/-! BX10_refusal_14 -/
noncomputable def gBX10_refusal_14 (l1 : Int32) (l2 : Int32) (s1 : Int32) (h : MS) : Option (Int32 × MS) :=
(some (gpi h 0 s1)).bind fun h1 =>
(some (h1.1 0)).bind fun x2 =>
if x2 ≤ 0 then
 (gFX10_hasIt l1 l2 h1).bind fun x4 =>
 if x4 = 0 then
  (gFX10_hasDivisors l1 l2 h1).bind fun x6 =>
  if x6 = 0 then
   some ((2 : Int32), h1)
  else
   (gFX10_n h1).bind fun x8 =>
   if x8 = (12 : Int32) then
    some ((3 : Int32), h1)
   else
    some ((0 : Int32), h1)
 else
  some ((1 : Int32), h1)
else
 some ((0 : Int32), h1)
theorem eBX10_refusal_14 {h : jx_H} {q : Nat} {S : MS} {l1 : Int32} {l2 : Int32} {s1 : Int32} : BX10_refusal_14 q l1 l2 q s1 (bput mK h q S) = (gBX10_refusal_14 l1 l2 s1 S).map (fun s : Int32 × MS => (s.1, bput mK h q s.2)) := by
  unfold BX10_refusal_14 gBX10_refusal_14
  simp only [gx_bs, gx_ms, gx_mn, gx_bn, gx_bm, gx_mb, gx_ite, gx_exL, gx_b2, gx_b2m, gx_b2mm, gx_sl, gx_sr, gx_id, eFX10_hasIt, eFX10_hasDivisors, eFX10_n, mK_al, mK_as, mK_gi0, mK_ob, mK_pi0]
/-! FX10_refusal -/
noncomputable def gFX10_refusal (l1 : Int32) (l2 : Int32) (h : MS) : Option (Int32 × MS) :=
(gFX10_isOnSide l1 l2 h).bind fun x13 =>
if x13 = 0 then
 gBX10_refusal_14 l1 l2 (1 : Int32) h
else
 gBX10_refusal_14 l1 l2 (0 : Int32) h
theorem eFX10_refusal {h : jx_H} {q : Nat} {S : MS} {l1 : Int32} {l2 : Int32} : FX10_refusal q l1 l2 (bput mK h q S) = (gFX10_refusal l1 l2 S).map (fun s : Int32 × MS => (s.1, bput mK h q s.2)) := by
  unfold FX10_refusal gFX10_refusal
  simp only [gx_bs, gx_ms, gx_mn, gx_bn, gx_bm, gx_mb, gx_ite, gx_exL, gx_b2, gx_b2m, gx_b2mm, gx_sl, gx_sr, gx_id, eFX10_isOnSide, eBX10_refusal_14, mK_al, mK_as, mK_ob]
/-! BX10_keeps_50 -/
noncomputable def gBX10_keeps_50 (l1 : Int32) (h : MS) : Option (MS) :=
(some (h.1 5)).bind fun x3 =>
(gFX10_copies 1 (0 : Int32) 4 ((248 : Int32) * x3) h).bind fun h4 =>
(some (h4.1 5)).bind fun x5 =>
(some (gpi h4 5 (x5 + (1 : Int32)))).bind fun h6 =>
(gal mK h6 7 l1).bind fun x8 =>
(gas mK h6 7 l1 (x8 + (1 : Int32))).bind fun h9 =>
some h9
theorem eBX10_keeps_50 {h : jx_H} {q : Nat} {S : MS} {l1 : Int32} : BX10_keeps_50 q l1 (bput mK h q S) = (gBX10_keeps_50 l1 S).map (bput mK h q) := by
  unfold BX10_keeps_50 gBX10_keeps_50
  simp only [gx_bs, gx_ms, gx_mn, gx_bn, gx_bm, gx_mb, gx_ite, gx_exL, gx_b2, gx_b2m, gx_b2mm, gx_sl, gx_sr, gx_id, eFX10_copies, mJ_1, mJ_4, mJ_7, mK_al, mK_al1, mK_al4, mK_al7, mK_as, mK_as1, mK_as4, mK_as7, mK_gi5, mK_gr1, mK_gr4, mK_gr8, mK_ob, mK_pi5]
/-! LX10_keeps_11 -/
noncomputable def gLX10_keeps_11 (l1 : Int32) (l2 : Int32) (h : MS) : Option ((Int32 × MS) ⊕ (MS)) :=
if (1736 : Int32) ≤ l2 then
 exL ((some (h.1 5)).bind fun x11 =>
 (some (gpi h 5 (x11 - (1 : Int32)))).bind fun h12 =>
 gBX10_keeps_50 l1 h12)
else
 (gal mK h 4 (l2 + (248 : Int32))).bind fun x15 =>
 (gas mK h 4 l2 x15).bind fun h16 =>
 some (.inl ((l2 + (1 : Int32)), h16))
theorem eLX10_keeps_11 {h : jx_H} {q : Nat} {S : MS} {l1 : Int32} {l2 : Int32} : LX10_keeps_11 q l1 l2 (bput mK h q S) = (gLX10_keeps_11 l1 l2 S).map (Sum.map (fun s : Int32 × MS => (s.1, bput mK h q s.2)) (bput mK h q)) := by
  unfold LX10_keeps_11 gLX10_keeps_11
  simp only [gx_bs, gx_ms, gx_mn, gx_bn, gx_bm, gx_mb, gx_ite, gx_exL, gx_b2, gx_b2m, gx_b2mm, gx_sl, gx_sr, gx_id, eBX10_keeps_50, mJ_4, mK_al, mK_al4, mK_as, mK_as4, mK_gi5, mK_gr4, mK_ob, mK_pi5]
theorem wLX10_keeps_11 {h : jx_H} {q : Nat} {S : MS} {l1 : Int32} {c0 : Int32} : itr (fun s : Int32 × jx_H => LX10_keeps_11 q l1 s.1 s.2) (c0, bput mK h q S) = (itr (fun s : Int32 × MS => gLX10_keeps_11 l1 s.1 s.2) (c0, S)).map (bput mK h q) :=
  itr_map (φ := (fun s : Int32 × MS => (s.1, bput mK h q s.2))) (ψ := (bput mK h q)) (fun s => eLX10_keeps_11) (c0, S)

/-! FX10_keeps -/
noncomputable def gFX10_keeps (l1 : Int32) (h : MS) : Option (MS) :=
(some (h.1 5)).bind fun x10 =>
if x10 = (8 : Int32) then
 itr (fun s : Int32 × MS => gLX10_keeps_11 l1 s.1 s.2) ((0 : Int32), h)
else
 gBX10_keeps_50 l1 h
theorem eFX10_keeps {h : jx_H} {q : Nat} {S : MS} {l1 : Int32} : FX10_keeps q l1 (bput mK h q S) = (gFX10_keeps l1 S).map (bput mK h q) := by
  unfold FX10_keeps gFX10_keeps
  simp only [gx_bs, gx_ms, gx_mn, gx_bn, gx_bm, gx_mb, gx_ite, gx_exL, gx_b2, gx_b2m, gx_b2mm, gx_sl, gx_sr, gx_id, wLX10_keeps_11, eBX10_keeps_50, mK_al, mK_as, mK_gi5, mK_ob]
/-! BX10_join_36 -/
noncomputable def gBX10_join_36 (l1 : Int32) (l2 : Int32) (s1 : Int32) (h : MS) : Option (Int32 × MS) :=
(some (gpi h 0 s1)).bind fun h1 =>
(some (h1.1 0)).bind fun x2 =>
if x2 ≤ 0 then
 (gFX10_keeps (0 : Int32) h1).bind fun h4 =>
 bind2 (gFX10_joins l1 l2 h4) fun x6 h7 =>
 some (x6, h7)
else
 some ((0 : Int32), h1)
theorem eBX10_join_36 {h : jx_H} {q : Nat} {S : MS} {l1 : Int32} {l2 : Int32} {s1 : Int32} : BX10_join_36 q l1 l2 q s1 (bput mK h q S) = (gBX10_join_36 l1 l2 s1 S).map (fun s : Int32 × MS => (s.1, bput mK h q s.2)) := by
  unfold BX10_join_36 gBX10_join_36
  simp only [gx_bs, gx_ms, gx_mn, gx_bn, gx_bm, gx_mb, gx_ite, gx_exL, gx_b2, gx_b2m, gx_b2mm, gx_sl, gx_sr, gx_id, eFX10_keeps, eFX10_joins, mK_al, mK_as, mK_gi0, mK_ob, mK_pi0]
/-! BX10_join_35 -/
noncomputable def gBX10_join_35 (l1 : Int32) (l2 : Int32) (h : MS) : Option (Int32 × MS) :=
gBX10_join_36 l1 l2 (2 : Int32) h
theorem eBX10_join_35 {h : jx_H} {q : Nat} {S : MS} {l1 : Int32} {l2 : Int32} : BX10_join_35 q l1 l2 q (bput mK h q S) = (gBX10_join_35 l1 l2 S).map (fun s : Int32 × MS => (s.1, bput mK h q s.2)) := by
  unfold BX10_join_35 gBX10_join_35
  simp only [gx_bs, gx_ms, gx_mn, gx_bn, gx_bm, gx_mb, gx_ite, gx_exL, gx_b2, gx_b2m, gx_b2mm, gx_sl, gx_sr, gx_id, eBX10_join_36, mK_al, mK_as, mK_ob]
/-! FX10_join -/
noncomputable def gFX10_join (l1 : Int32) (l2 : Int32) (h : MS) : Option (Int32 × MS) :=
(gFX10_isOnSide l1 l2 h).bind fun x9 =>
if x9 = 0 then
 gBX10_join_36 l1 l2 (1 : Int32) h
else
 (gFX10_canJoin l1 l2 h).bind fun x11 =>
 if x11 = 0 then
  gBX10_join_35 l1 l2 h
 else
  (gFX10_n h).bind fun x13 =>
  if (12 : Int32) ≤ x13 then
   gBX10_join_35 l1 l2 h
  else
   gBX10_join_36 l1 l2 (0 : Int32) h
theorem eFX10_join {h : jx_H} {q : Nat} {S : MS} {l1 : Int32} {l2 : Int32} : FX10_join q l1 l2 (bput mK h q S) = (gFX10_join l1 l2 S).map (fun s : Int32 × MS => (s.1, bput mK h q s.2)) := by
  unfold FX10_join gFX10_join
  simp only [gx_bs, gx_ms, gx_mn, gx_bn, gx_bm, gx_mb, gx_ite, gx_exL, gx_b2, gx_b2m, gx_b2mm, gx_sl, gx_sr, gx_id, eFX10_isOnSide, eBX10_join_36, eFX10_canJoin, eBX10_join_35, eFX10_n, mK_al, mK_as, mK_ob]
/-! BX10_leave_27 -/
noncomputable def gBX10_leave_27 (l1 : Int32) (l2 : Int32) (s1 : Int32) (h : MS) : Option (Int32 × MS) :=
(some (gpi h 0 s1)).bind fun h1 =>
(some (h1.1 0)).bind fun x2 =>
if x2 ≤ 0 then
 (gFX10_keeps (1 : Int32) h1).bind fun h4 =>
 bind2 (gFX10_leaves l1 l2 h4) fun x6 h7 =>
 some (x6, h7)
else
 some ((0 : Int32), h1)
theorem eBX10_leave_27 {h : jx_H} {q : Nat} {S : MS} {l1 : Int32} {l2 : Int32} {s1 : Int32} : BX10_leave_27 q l1 l2 q s1 (bput mK h q S) = (gBX10_leave_27 l1 l2 s1 S).map (fun s : Int32 × MS => (s.1, bput mK h q s.2)) := by
  unfold BX10_leave_27 gBX10_leave_27
  simp only [gx_bs, gx_ms, gx_mn, gx_bn, gx_bm, gx_mb, gx_ite, gx_exL, gx_b2, gx_b2m, gx_b2mm, gx_sl, gx_sr, gx_id, eFX10_keeps, eFX10_leaves, mK_al, mK_as, mK_gi0, mK_ob, mK_pi0]
/-! FX10_leave -/
noncomputable def gFX10_leave (l1 : Int32) (l2 : Int32) (h : MS) : Option (Int32 × MS) :=
(gFX10_isOnSide l1 l2 h).bind fun x9 =>
if x9 = 0 then
 gBX10_leave_27 l1 l2 (1 : Int32) h
else
 (gFX10_canLeave l1 l2 h).bind fun x11 =>
 if x11 = 0 then
  gBX10_leave_27 l1 l2 (2 : Int32) h
 else
  gBX10_leave_27 l1 l2 (0 : Int32) h
theorem eFX10_leave {h : jx_H} {q : Nat} {S : MS} {l1 : Int32} {l2 : Int32} : FX10_leave q l1 l2 (bput mK h q S) = (gFX10_leave l1 l2 S).map (fun s : Int32 × MS => (s.1, bput mK h q s.2)) := by
  unfold FX10_leave gFX10_leave
  simp only [gx_bs, gx_ms, gx_mn, gx_bn, gx_bm, gx_mb, gx_ite, gx_exL, gx_b2, gx_b2m, gx_b2mm, gx_sl, gx_sr, gx_id, eFX10_isOnSide, eBX10_leave_27, eFX10_canLeave, mK_al, mK_as, mK_ob]
/-! FX10_isMonomial -/
noncomputable def gFX10_isMonomial (l1 : Int32) (h : MS) : Option (Int32) :=
(gFX10_n h).bind fun x2 =>
(gFX10_in l1 (0 : Int32) (x2 - (1 : Int32)) h).bind fun x3 =>
if x3 = 0 ∨ x3 = 1 then some x3 else none
theorem eFX10_isMonomial {h : jx_H} {q : Nat} {S : MS} {l1 : Int32} : FX10_isMonomial q l1 (bput mK h q S) = gFX10_isMonomial l1 S := by
  unfold FX10_isMonomial gFX10_isMonomial
  simp only [gx_bs, gx_ms, gx_mn, gx_bn, gx_bm, gx_mb, gx_ite, gx_exL, gx_b2, gx_b2m, gx_b2mm, gx_sl, gx_sr, gx_id, eFX10_n, eFX10_in, mK_al, mK_as, mK_ob]
/-! FX10_isBorder -/
noncomputable def gFX10_isBorder (l1 : Int32) (h : MS) : Option (Int32) :=
(gal mK h 1 (2 : Int32)).bind fun x2 =>
(gFX10_in l1 (0 : Int32) (x2 - (1 : Int32)) h).bind fun x3 =>
if x3 = 0 ∨ x3 = 1 then some x3 else none
theorem eFX10_isBorder {h : jx_H} {q : Nat} {S : MS} {l1 : Int32} : FX10_isBorder q l1 (bput mK h q S) = gFX10_isBorder l1 S := by
  unfold FX10_isBorder gFX10_isBorder
  simp only [gx_bs, gx_ms, gx_mn, gx_bn, gx_bm, gx_mb, gx_ite, gx_exL, gx_b2, gx_b2m, gx_b2mm, gx_sl, gx_sr, gx_id, eFX10_in, mJ_1, mK_al, mK_al1, mK_as, mK_as1, mK_gr1, mK_ob]
/-! BX10_monomial_55 -/
noncomputable def gBX10_monomial_55 (l1 : Int32) (s0 : Nat) (s1 : Int32) (h : MS) : Option (Int32 × MS) :=
(gal mK h s0 (s1 + l1)).bind fun x1 =>
some (x1, h)
theorem eBX10_monomial_55 {h : jx_H} {q : Nat} {S : MS} {l1 : Int32} {s0 : Nat} {s1 : Int32} (Js0 : mJ s0) : BX10_monomial_55 l1 (q + s0) s1 (bput mK h q S) = (gBX10_monomial_55 l1 s0 s1 S).map (fun s : Int32 × MS => (s.1, bput mK h q s.2)) := by
  unfold BX10_monomial_55 gBX10_monomial_55
  simp only [gx_bs, gx_ms, gx_mn, gx_bn, gx_bm, gx_mb, gx_ite, gx_exL, gx_b2, gx_b2m, gx_b2mm, gx_sl, gx_sr, gx_id, Js0, mK_al, mK_as, mK_ob]
/-! BX10_monomial_27 -/
noncomputable def gBX10_monomial_27 (l1 : Int32) (l2 : Int32) (s1 : Int32) (h : MS) : Option (Int32 × MS) :=
(some (gpi h 0 s1)).bind fun h2 =>
(some (h2.1 0)).bind fun x3 =>
if x3 ≤ 0 then
 if l2 = 0 then
  gBX10_monomial_55 l1 1 (4 : Int32) h2
 else
  gBX10_monomial_55 l1 1 (16 : Int32) h2
else
 some ((0 : Int32), h2)
theorem eBX10_monomial_27 {h : jx_H} {q : Nat} {S : MS} {l1 : Int32} {l2 : Int32} {s1 : Int32} : BX10_monomial_27 q l1 l2 q s1 (bput mK h q S) = (gBX10_monomial_27 l1 l2 s1 S).map (fun s : Int32 × MS => (s.1, bput mK h q s.2)) := by
  unfold BX10_monomial_27 gBX10_monomial_27
  simp only [gx_bs, gx_ms, gx_mn, gx_bn, gx_bm, gx_mb, gx_ite, gx_exL, gx_b2, gx_b2m, gx_b2mm, gx_sl, gx_sr, gx_id, eBX10_monomial_55, mJ_1, mK_al, mK_al1, mK_as, mK_as1, mK_gi0, mK_gr1, mK_ob, mK_pi0]
/-! FX10_monomial -/
noncomputable def gFX10_monomial (l1 : Int32) (l2 : Int32) (h : MS) : Option (Int32 × MS) :=
(gFX10_isMonomial l1 h).bind fun x8 =>
if x8 = 0 then
 gBX10_monomial_27 l1 l2 (1 : Int32) h
else
 (gFX10_in l2 (0 : Int32) (1 : Int32) h).bind fun x9 =>
 if x9 = 0 then
  gBX10_monomial_27 l1 l2 (2 : Int32) h
 else
  gBX10_monomial_27 l1 l2 (0 : Int32) h
theorem eFX10_monomial {h : jx_H} {q : Nat} {S : MS} {l1 : Int32} {l2 : Int32} : FX10_monomial q l1 l2 (bput mK h q S) = (gFX10_monomial l1 l2 S).map (fun s : Int32 × MS => (s.1, bput mK h q s.2)) := by
  unfold FX10_monomial gFX10_monomial
  simp only [gx_bs, gx_ms, gx_mn, gx_bn, gx_bm, gx_mb, gx_ite, gx_exL, gx_b2, gx_b2m, gx_b2mm, gx_sl, gx_sr, gx_id, eFX10_isMonomial, eBX10_monomial_27, eFX10_in, mK_al, mK_as, mK_ob]
/-! BX10_border_56 -/
noncomputable def gBX10_border_56 (l1 : Int32) (s0 : Nat) (s1 : Int32) (h : MS) : Option (Int32 × MS) :=
(gal mK h s0 (s1 + l1)).bind fun x1 =>
some (x1, h)
theorem eBX10_border_56 {h : jx_H} {q : Nat} {S : MS} {l1 : Int32} {s0 : Nat} {s1 : Int32} (Js0 : mJ s0) : BX10_border_56 l1 (q + s0) s1 (bput mK h q S) = (gBX10_border_56 l1 s0 s1 S).map (fun s : Int32 × MS => (s.1, bput mK h q s.2)) := by
  unfold BX10_border_56 gBX10_border_56
  simp only [gx_bs, gx_ms, gx_mn, gx_bn, gx_bm, gx_mb, gx_ite, gx_exL, gx_b2, gx_b2m, gx_b2mm, gx_sl, gx_sr, gx_id, Js0, mK_al, mK_as, mK_ob]
/-! BX10_border_27 -/
noncomputable def gBX10_border_27 (l1 : Int32) (l2 : Int32) (s1 : Int32) (h : MS) : Option (Int32 × MS) :=
(some (gpi h 0 s1)).bind fun h2 =>
(some (h2.1 0)).bind fun x3 =>
if x3 ≤ 0 then
 if l2 = 0 then
  gBX10_border_56 l1 1 (28 : Int32) h2
 else
  gBX10_border_56 l1 1 (42 : Int32) h2
else
 some ((0 : Int32), h2)
theorem eBX10_border_27 {h : jx_H} {q : Nat} {S : MS} {l1 : Int32} {l2 : Int32} {s1 : Int32} : BX10_border_27 q l1 l2 q s1 (bput mK h q S) = (gBX10_border_27 l1 l2 s1 S).map (fun s : Int32 × MS => (s.1, bput mK h q s.2)) := by
  unfold BX10_border_27 gBX10_border_27
  simp only [gx_bs, gx_ms, gx_mn, gx_bn, gx_bm, gx_mb, gx_ite, gx_exL, gx_b2, gx_b2m, gx_b2mm, gx_sl, gx_sr, gx_id, eBX10_border_56, mJ_1, mK_al, mK_al1, mK_as, mK_as1, mK_gi0, mK_gr1, mK_ob, mK_pi0]
/-! FX10_border -/
noncomputable def gFX10_border (l1 : Int32) (l2 : Int32) (h : MS) : Option (Int32 × MS) :=
(gFX10_isBorder l1 h).bind fun x8 =>
if x8 = 0 then
 gBX10_border_27 l1 l2 (1 : Int32) h
else
 (gFX10_in l2 (0 : Int32) (1 : Int32) h).bind fun x9 =>
 if x9 = 0 then
  gBX10_border_27 l1 l2 (2 : Int32) h
 else
  gBX10_border_27 l1 l2 (0 : Int32) h
theorem eFX10_border {h : jx_H} {q : Nat} {S : MS} {l1 : Int32} {l2 : Int32} : FX10_border q l1 l2 (bput mK h q S) = (gFX10_border l1 l2 S).map (fun s : Int32 × MS => (s.1, bput mK h q s.2)) := by
  unfold FX10_border gFX10_border
  simp only [gx_bs, gx_ms, gx_mn, gx_bn, gx_bm, gx_mb, gx_ite, gx_exL, gx_b2, gx_b2m, gx_b2mm, gx_sl, gx_sr, gx_id, eFX10_isBorder, eBX10_border_27, eFX10_in, mK_al, mK_as, mK_ob]
/-! FX10_place -/
noncomputable def gFX10_place (l1 : Int32) (l2 : Int32) (h : MS) : Option (Int32 × MS) :=
(some (gpi h 0 (0 : Int32))).bind fun h1 =>
(gFX10_monomialAt l1 l2 h1).bind fun x3 =>
(gFX10_borderAt l1 l2 h1).bind fun x5 =>
if x3 = (-1 : Int32) then
 if x5 = (-1 : Int32) then
  some ((-1 : Int32), h1)
 else
  some (((100 : Int32) + x5), h1)
else
 some (x3, h1)
theorem eFX10_place {h : jx_H} {q : Nat} {S : MS} {l1 : Int32} {l2 : Int32} : FX10_place q l1 l2 (bput mK h q S) = (gFX10_place l1 l2 S).map (fun s : Int32 × MS => (s.1, bput mK h q s.2)) := by
  unfold FX10_place gFX10_place
  simp only [gx_bs, gx_ms, gx_mn, gx_bn, gx_bm, gx_mb, gx_ite, gx_exL, gx_b2, gx_b2m, gx_b2mm, gx_sl, gx_sr, gx_id, eFX10_monomialAt, eFX10_borderAt, mK_al, mK_as, mK_ob, mK_pi0]
/-! FX10_isNumber -/
noncomputable def gFX10_isNumber (l1 : Int32) (h : MS) : Option (Int32) :=
(gFX10_p h).bind fun x2 =>
(gFX10_in l1 (0 : Int32) (x2 - (1 : Int32)) h).bind fun x3 =>
if x3 = 0 ∨ x3 = 1 then some x3 else none
theorem eFX10_isNumber {h : jx_H} {q : Nat} {S : MS} {l1 : Int32} : FX10_isNumber q l1 (bput mK h q S) = gFX10_isNumber l1 S := by
  unfold FX10_isNumber gFX10_isNumber
  simp only [gx_bs, gx_ms, gx_mn, gx_bn, gx_bm, gx_mb, gx_ite, gx_exL, gx_b2, gx_b2m, gx_b2mm, gx_sl, gx_sr, gx_id, eFX10_p, eFX10_in, mK_al, mK_as, mK_ob]
/-! BX10_setRule_34 -/
noncomputable def gBX10_setRule_34 (l1 : Int32) (l2 : Int32) (l3 : Int32) (s1 : Int32) (h : MS) : Option (Int32 × MS) :=
(some (gpi h 0 s1)).bind fun h1 =>
(some (h1.1 0)).bind fun x2 =>
if x2 ≤ 0 then
 (gFX10_keeps (2 : Int32) h1).bind fun h4 =>
 (gFX10_ruleAt l1 l2 h4).bind fun x6 =>
 (gal mK h4 1 x6).bind fun x7 =>
 (gFX10_ruleAt l1 l2 h4).bind fun x9 =>
 (gas mK h4 1 x9 l3).bind fun h10 =>
 some (x7, h10)
else
 some ((0 : Int32), h1)
theorem eBX10_setRule_34 {h : jx_H} {q : Nat} {S : MS} {l1 : Int32} {l2 : Int32} {l3 : Int32} {s1 : Int32} : BX10_setRule_34 q l1 l2 l3 q s1 (bput mK h q S) = (gBX10_setRule_34 l1 l2 l3 s1 S).map (fun s : Int32 × MS => (s.1, bput mK h q s.2)) := by
  unfold BX10_setRule_34 gBX10_setRule_34
  simp only [gx_bs, gx_ms, gx_mn, gx_bn, gx_bm, gx_mb, gx_ite, gx_exL, gx_b2, gx_b2m, gx_b2mm, gx_sl, gx_sr, gx_id, eFX10_keeps, eFX10_ruleAt, mJ_1, mK_al, mK_al1, mK_as, mK_as1, mK_gi0, mK_gr1, mK_ob, mK_pi0]
/-! BX10_setRule_17 -/
noncomputable def gBX10_setRule_17 (l1 : Int32) (l2 : Int32) (l3 : Int32) (h : MS) : Option (Int32 × MS) :=
gBX10_setRule_34 l1 l2 l3 (1 : Int32) h
theorem eBX10_setRule_17 {h : jx_H} {q : Nat} {S : MS} {l1 : Int32} {l2 : Int32} {l3 : Int32} : BX10_setRule_17 q l1 l2 l3 q (bput mK h q S) = (gBX10_setRule_17 l1 l2 l3 S).map (fun s : Int32 × MS => (s.1, bput mK h q s.2)) := by
  unfold BX10_setRule_17 gBX10_setRule_17
  simp only [gx_bs, gx_ms, gx_mn, gx_bn, gx_bm, gx_mb, gx_ite, gx_exL, gx_b2, gx_b2m, gx_b2mm, gx_sl, gx_sr, gx_id, eBX10_setRule_34, mK_al, mK_as, mK_ob]
/-! FX10_setRule -/
noncomputable def gFX10_setRule (l1 : Int32) (l2 : Int32) (l3 : Int32) (h : MS) : Option (Int32 × MS) :=
(gFX10_isBorder l1 h).bind fun x13 =>
if x13 = 0 then
 gBX10_setRule_17 l1 l2 l3 h
else
 (gFX10_isMonomial l2 h).bind fun x15 =>
 if x15 = 0 then
  gBX10_setRule_17 l1 l2 l3 h
 else
  (gFX10_isNumber l3 h).bind fun x17 =>
  if x17 = 0 then
   gBX10_setRule_34 l1 l2 l3 (2 : Int32) h
  else
   gBX10_setRule_34 l1 l2 l3 (0 : Int32) h
theorem eFX10_setRule {h : jx_H} {q : Nat} {S : MS} {l1 : Int32} {l2 : Int32} {l3 : Int32} : FX10_setRule q l1 l2 l3 (bput mK h q S) = (gFX10_setRule l1 l2 l3 S).map (fun s : Int32 × MS => (s.1, bput mK h q s.2)) := by
  unfold FX10_setRule gFX10_setRule
  simp only [gx_bs, gx_ms, gx_mn, gx_bn, gx_bm, gx_mb, gx_ite, gx_exL, gx_b2, gx_b2m, gx_b2mm, gx_sl, gx_sr, gx_id, eFX10_isBorder, eBX10_setRule_17, eFX10_isMonomial, eFX10_isNumber, eBX10_setRule_34, mK_al, mK_as, mK_ob]
/-! BX10_rule_22 -/
noncomputable def gBX10_rule_22 (l1 : Int32) (l2 : Int32) (s1 : Int32) (h : MS) : Option (Int32 × MS) :=
(some (gpi h 0 s1)).bind fun h1 =>
(some (h1.1 0)).bind fun x2 =>
if x2 ≤ 0 then
 (gFX10_ruleAt l1 l2 h1).bind fun x4 =>
 (gal mK h1 1 x4).bind fun x5 =>
 some (x5, h1)
else
 some ((0 : Int32), h1)
theorem eBX10_rule_22 {h : jx_H} {q : Nat} {S : MS} {l1 : Int32} {l2 : Int32} {s1 : Int32} : BX10_rule_22 q l1 l2 q s1 (bput mK h q S) = (gBX10_rule_22 l1 l2 s1 S).map (fun s : Int32 × MS => (s.1, bput mK h q s.2)) := by
  unfold BX10_rule_22 gBX10_rule_22
  simp only [gx_bs, gx_ms, gx_mn, gx_bn, gx_bm, gx_mb, gx_ite, gx_exL, gx_b2, gx_b2m, gx_b2mm, gx_sl, gx_sr, gx_id, eFX10_ruleAt, mJ_1, mK_al, mK_al1, mK_as, mK_as1, mK_gi0, mK_gr1, mK_ob, mK_pi0]
/-! BX10_rule_21 -/
noncomputable def gBX10_rule_21 (l1 : Int32) (l2 : Int32) (h : MS) : Option (Int32 × MS) :=
gBX10_rule_22 l1 l2 (1 : Int32) h
theorem eBX10_rule_21 {h : jx_H} {q : Nat} {S : MS} {l1 : Int32} {l2 : Int32} : BX10_rule_21 q l1 l2 q (bput mK h q S) = (gBX10_rule_21 l1 l2 S).map (fun s : Int32 × MS => (s.1, bput mK h q s.2)) := by
  unfold BX10_rule_21 gBX10_rule_21
  simp only [gx_bs, gx_ms, gx_mn, gx_bn, gx_bm, gx_mb, gx_ite, gx_exL, gx_b2, gx_b2m, gx_b2mm, gx_sl, gx_sr, gx_id, eBX10_rule_22, mK_al, mK_as, mK_ob]
/-! FX10_rule -/
noncomputable def gFX10_rule (l1 : Int32) (l2 : Int32) (h : MS) : Option (Int32 × MS) :=
(gFX10_isBorder l1 h).bind fun x8 =>
if x8 = 0 then
 gBX10_rule_21 l1 l2 h
else
 (gFX10_isMonomial l2 h).bind fun x10 =>
 if x10 = 0 then
  gBX10_rule_21 l1 l2 h
 else
  gBX10_rule_22 l1 l2 (0 : Int32) h
theorem eFX10_rule {h : jx_H} {q : Nat} {S : MS} {l1 : Int32} {l2 : Int32} : FX10_rule q l1 l2 (bput mK h q S) = (gFX10_rule l1 l2 S).map (fun s : Int32 × MS => (s.1, bput mK h q s.2)) := by
  unfold FX10_rule gFX10_rule
  simp only [gx_bs, gx_ms, gx_mn, gx_bn, gx_bm, gx_mb, gx_ite, gx_exL, gx_b2, gx_b2m, gx_b2mm, gx_sl, gx_sr, gx_id, eFX10_isBorder, eBX10_rule_21, eFX10_isMonomial, eBX10_rule_22, mK_al, mK_as, mK_ob]
/-! BX10_value_34 -/
noncomputable def gBX10_value_34 (l1 : Int32) (l2 : Int32) (l3 : Int32) (s1 : Int32) (h : MS) : Option (Int32 × MS) :=
(some (gpi h 0 s1)).bind fun h1 =>
(some (h1.1 0)).bind fun x2 =>
if x2 ≤ 0 then
 (gFX10_laysPowers l2 l3 h1).bind fun h4 =>
 (gFX10_valueOf l1 h4).bind fun x6 =>
 some (x6, h4)
else
 some ((0 : Int32), h1)
theorem eBX10_value_34 {h : jx_H} {q : Nat} {S : MS} {l1 : Int32} {l2 : Int32} {l3 : Int32} {s1 : Int32} : BX10_value_34 q l1 l2 l3 q s1 (bput mK h q S) = (gBX10_value_34 l1 l2 l3 s1 S).map (fun s : Int32 × MS => (s.1, bput mK h q s.2)) := by
  unfold BX10_value_34 gBX10_value_34
  simp only [gx_bs, gx_ms, gx_mn, gx_bn, gx_bm, gx_mb, gx_ite, gx_exL, gx_b2, gx_b2m, gx_b2mm, gx_sl, gx_sr, gx_id, eFX10_laysPowers, eFX10_valueOf, mK_al, mK_as, mK_gi0, mK_ob, mK_pi0]
/-! BX10_value_33 -/
noncomputable def gBX10_value_33 (l1 : Int32) (l2 : Int32) (l3 : Int32) (h : MS) : Option (Int32 × MS) :=
gBX10_value_34 l1 l2 l3 (2 : Int32) h
theorem eBX10_value_33 {h : jx_H} {q : Nat} {S : MS} {l1 : Int32} {l2 : Int32} {l3 : Int32} : BX10_value_33 q l1 l2 l3 q (bput mK h q S) = (gBX10_value_33 l1 l2 l3 S).map (fun s : Int32 × MS => (s.1, bput mK h q s.2)) := by
  unfold BX10_value_33 gBX10_value_33
  simp only [gx_bs, gx_ms, gx_mn, gx_bn, gx_bm, gx_mb, gx_ite, gx_exL, gx_b2, gx_b2m, gx_b2mm, gx_sl, gx_sr, gx_id, eBX10_value_34, mK_al, mK_as, mK_ob]
/-! FX10_value -/
noncomputable def gFX10_value (l1 : Int32) (l2 : Int32) (l3 : Int32) (h : MS) : Option (Int32 × MS) :=
(gFX10_isBorder l1 h).bind fun x9 =>
if x9 = 0 then
 gBX10_value_34 l1 l2 l3 (1 : Int32) h
else
 (gFX10_isNumber l2 h).bind fun x11 =>
 if x11 = 0 then
  gBX10_value_33 l1 l2 l3 h
 else
  (gFX10_isNumber l3 h).bind fun x13 =>
  if x13 = 0 then
   gBX10_value_33 l1 l2 l3 h
  else
   gBX10_value_34 l1 l2 l3 (0 : Int32) h
theorem eFX10_value {h : jx_H} {q : Nat} {S : MS} {l1 : Int32} {l2 : Int32} {l3 : Int32} : FX10_value q l1 l2 l3 (bput mK h q S) = (gFX10_value l1 l2 l3 S).map (fun s : Int32 × MS => (s.1, bput mK h q s.2)) := by
  unfold FX10_value gFX10_value
  simp only [gx_bs, gx_ms, gx_mn, gx_bn, gx_bm, gx_mb, gx_ite, gx_exL, gx_b2, gx_b2m, gx_b2mm, gx_sl, gx_sr, gx_id, eFX10_isBorder, eBX10_value_34, eFX10_isNumber, eBX10_value_33, mK_al, mK_as, mK_ob]
/-! FX10_isVariable -/
noncomputable def gFX10_isVariable (l0 : Int32) (h : MS) : Option (Int32) :=
(gFX10_in l0 (0 : Int32) (1 : Int32) h).bind fun x1 =>
if x1 = 0 ∨ x1 = 1 then some x1 else none
theorem eFX10_isVariable {h : jx_H} {q : Nat} {S : MS} {l0 : Int32} : FX10_isVariable l0 (bput mK h q S) = gFX10_isVariable l0 S := by
  unfold FX10_isVariable gFX10_isVariable
  simp only [gx_bs, gx_ms, gx_mn, gx_bn, gx_bm, gx_mb, gx_ite, gx_exL, gx_b2, gx_b2m, gx_b2mm, gx_sl, gx_sr, gx_id, eFX10_in, mK_al, mK_as, mK_ob]
/-! BX10_table_64 -/
noncomputable def gBX10_table_64 (l2 : Int32) (l3 : Int32) (s0 : Nat) (h : MS) : Option (Int32 × MS) :=
(gFX10_cell l2 l3 h).bind fun x1 =>
(gal mK h s0 x1).bind fun x2 =>
some (x2, h)
theorem eBX10_table_64 {h : jx_H} {q : Nat} {S : MS} {l2 : Int32} {l3 : Int32} {s0 : Nat} (Js0 : mJ s0) : BX10_table_64 l2 l3 (q + s0) (bput mK h q S) = (gBX10_table_64 l2 l3 s0 S).map (fun s : Int32 × MS => (s.1, bput mK h q s.2)) := by
  unfold BX10_table_64 gBX10_table_64
  simp only [gx_bs, gx_ms, gx_mn, gx_bn, gx_bm, gx_mb, gx_ite, gx_exL, gx_b2, gx_b2m, gx_b2mm, gx_sl, gx_sr, gx_id, eFX10_cell, Js0, mK_al, mK_as, mK_ob]
/-! BX10_table_33 -/
noncomputable def gBX10_table_33 (l1 : Int32) (l2 : Int32) (l3 : Int32) (s1 : Int32) (h : MS) : Option (Int32 × MS) :=
(some (gpi h 0 s1)).bind fun h3 =>
(some (h3.1 0)).bind fun x4 =>
if x4 ≤ 0 then
 (gFX10_laysTables h3).bind fun h6 =>
 if l1 = 0 then
  gBX10_table_64 l2 l3 10 h6
 else
  gBX10_table_64 l2 l3 11 h6
else
 some ((0 : Int32), h3)
theorem eBX10_table_33 {h : jx_H} {q : Nat} {S : MS} {l1 : Int32} {l2 : Int32} {l3 : Int32} {s1 : Int32} : BX10_table_33 q l1 l2 l3 q s1 (bput mK h q S) = (gBX10_table_33 l1 l2 l3 s1 S).map (fun s : Int32 × MS => (s.1, bput mK h q s.2)) := by
  unfold BX10_table_33 gBX10_table_33
  simp only [gx_bs, gx_ms, gx_mn, gx_bn, gx_bm, gx_mb, gx_ite, gx_exL, gx_b2, gx_b2m, gx_b2mm, gx_sl, gx_sr, gx_id, eFX10_laysTables, eBX10_table_64, mJ_10, mJ_11, mK_al, mK_al10, mK_al11, mK_as, mK_as10, mK_as11, mK_gi0, mK_gr20, mK_gr21, mK_ob, mK_pi0]
/-! BX10_table_17 -/
noncomputable def gBX10_table_17 (l1 : Int32) (l2 : Int32) (l3 : Int32) (h : MS) : Option (Int32 × MS) :=
gBX10_table_33 l1 l2 l3 (1 : Int32) h
theorem eBX10_table_17 {h : jx_H} {q : Nat} {S : MS} {l1 : Int32} {l2 : Int32} {l3 : Int32} : BX10_table_17 q l1 l2 l3 q (bput mK h q S) = (gBX10_table_17 l1 l2 l3 S).map (fun s : Int32 × MS => (s.1, bput mK h q s.2)) := by
  unfold BX10_table_17 gBX10_table_17
  simp only [gx_bs, gx_ms, gx_mn, gx_bn, gx_bm, gx_mb, gx_ite, gx_exL, gx_b2, gx_b2m, gx_b2mm, gx_sl, gx_sr, gx_id, eBX10_table_33, mK_al, mK_as, mK_ob]
/-! FX10_table -/
noncomputable def gFX10_table (l1 : Int32) (l2 : Int32) (l3 : Int32) (h : MS) : Option (Int32 × MS) :=
(gFX10_isMonomial l2 h).bind fun x12 =>
if x12 = 0 then
 gBX10_table_17 l1 l2 l3 h
else
 (gFX10_isMonomial l3 h).bind fun x14 =>
 if x14 = 0 then
  gBX10_table_17 l1 l2 l3 h
 else
  (gFX10_isVariable l1 h).bind fun x15 =>
  if x15 = 0 then
   gBX10_table_33 l1 l2 l3 (2 : Int32) h
  else
   gBX10_table_33 l1 l2 l3 (0 : Int32) h
theorem eFX10_table {h : jx_H} {q : Nat} {S : MS} {l1 : Int32} {l2 : Int32} {l3 : Int32} : FX10_table q l1 l2 l3 (bput mK h q S) = (gFX10_table l1 l2 l3 S).map (fun s : Int32 × MS => (s.1, bput mK h q s.2)) := by
  unfold FX10_table gFX10_table
  simp only [gx_bs, gx_ms, gx_mn, gx_bn, gx_bm, gx_mb, gx_ite, gx_exL, gx_b2, gx_b2m, gx_b2mm, gx_sl, gx_sr, gx_id, eFX10_isMonomial, eBX10_table_17, eFX10_isVariable, eBX10_table_33, mK_al, mK_as, mK_ob]
/-! FX10_commutes -/
noncomputable def gFX10_commutes (h : MS) : Option (Int32 × MS) :=
(some (gpi h 0 (0 : Int32))).bind fun h1 =>
bind2 (gFX10_areFriends h1) fun x3 h4 =>
if x3 = 0 ∨ x3 = 1 then some (x3, h4) else none
theorem eFX10_commutes {h : jx_H} {q : Nat} {S : MS} : FX10_commutes q (bput mK h q S) = (gFX10_commutes  S).map (fun s : Int32 × MS => (s.1, bput mK h q s.2)) := by
  unfold FX10_commutes gFX10_commutes
  simp only [gx_bs, gx_ms, gx_mn, gx_bn, gx_bm, gx_mb, gx_ite, gx_exL, gx_b2, gx_b2m, gx_b2mm, gx_sl, gx_sr, gx_id, eFX10_areFriends, mK_al, mK_as, mK_ob, mK_pi0]
/-! BX10_clash_41 -/
noncomputable def gBX10_clash_41 (l1 : Int32) (l2 : Int32) (h : MS) : Option (Int32 × MS) :=
if l1 = (4 : Int32) then
 some (l2, h)
else
 some ((-1 : Int32), h)
theorem eBX10_clash_41 {h : jx_H} {q : Nat} {S : MS} {l1 : Int32} {l2 : Int32} : BX10_clash_41 l1 l2 (bput mK h q S) = (gBX10_clash_41 l1 l2 S).map (fun s : Int32 × MS => (s.1, bput mK h q s.2)) := by
  unfold BX10_clash_41 gBX10_clash_41
  simp only [gx_bs, gx_ms, gx_mn, gx_bn, gx_bm, gx_mb, gx_ite, gx_exL, gx_b2, gx_b2m, gx_b2mm, gx_sl, gx_sr, gx_id, mK_al, mK_as, mK_ob]
/-! LX10_clash_54 -/
noncomputable def gLX10_clash_54 (l1 : Int32) (l3 : Int32) (h : MS) : Option ((Int32) ⊕ (Int32 × MS)) :=
(gFX10_n h).bind fun x9 =>
if x9 = 0 then none else
(gFX10_n h).bind fun x12 =>
if x12 = 0 then none else
(gFX10_cell (l3 - l3 / x9 * x9) (l3 / x12) h).bind fun x14 =>
(gal mK h 13 x14).bind fun x15 =>
(gFX10_n h).bind fun x18 =>
if x18 = 0 then none else
(gFX10_n h).bind fun x21 =>
if x21 = 0 then none else
(gFX10_cell (l3 - l3 / x18 * x18) (l3 / x21) h).bind fun x23 =>
(gal mK h 14 x23).bind fun x24 =>
if x15 = x24 then
 some (.inl (l3 + (1 : Int32)))
else
 exL ((gFX10_n h).bind fun x26 =>
 if x26 = 0 then none else
 (gFX10_n h).bind fun x29 =>
 if x29 = 0 then none else
 (gFX10_cell (l3 - l3 / x26 * x26) (l3 / x29) h).bind fun x31 =>
 if l1 = 0 then
  (gFX10_n h).bind fun x42 =>
  if x42 = 0 then none else
  some ((l3 / x42), h)
 else
  if l1 = (1 : Int32) then
   (gFX10_n h).bind fun x38 =>
   if x38 = 0 then none else
   some ((l3 - l3 / x38 * x38), h)
  else
   if l1 = (2 : Int32) then
    (gal mK h 13 x31).bind fun x35 =>
    some (x35, h)
   else
    (gal mK h 14 x31).bind fun x33 =>
    some (x33, h))
theorem eLX10_clash_54 {h : jx_H} {q : Nat} {S : MS} {l1 : Int32} {l3 : Int32} : LX10_clash_54 q l1 l3 (bput mK h q S) = (gLX10_clash_54 l1 l3 S).map (Sum.map id (fun s : Int32 × MS => (s.1, bput mK h q s.2))) := by
  unfold LX10_clash_54 gLX10_clash_54
  simp only [gx_bs, gx_ms, gx_mn, gx_bn, gx_bm, gx_mb, gx_ite, gx_exL, gx_b2, gx_b2m, gx_b2mm, gx_sl, gx_sr, gx_id, eFX10_n, eFX10_cell, mJ_13, mJ_14, mK_al, mK_al13, mK_al14, mK_as, mK_as13, mK_as14, mK_gr23, mK_gr24, mK_ob]
theorem wLX10_clash_54 {h : jx_H} {q : Nat} {S : MS} {l1 : Int32} {c0 : Int32} : itr (fun s : Int32 => LX10_clash_54 q l1 s (bput mK h q S)) (c0) = (itr (fun s : Int32 => gLX10_clash_54 l1 s S) (c0)).map (fun s : Int32 × MS => (s.1, bput mK h q s.2)) :=
  itr_map (φ := id) (ψ := (fun s : Int32 × MS => (s.1, bput mK h q s.2))) (fun s => eLX10_clash_54) (c0)

/-! BX10_clash_15 -/
noncomputable def gBX10_clash_15 (l1 : Int32) (s1 : Int32) (h : MS) : Option (Int32 × MS) :=
(some (gpi h 0 s1)).bind fun h2 =>
(some (h2.1 0)).bind fun x3 =>
if x3 ≤ 0 then
 bind2 (gFX10_differences h2) fun x5 h6 =>
 if l1 = (4 : Int32) then
  gBX10_clash_41 l1 x5 h6
 else
  if x5 = 0 then
   gBX10_clash_41 l1 x5 h6
  else
   itr (fun s : Int32 => gLX10_clash_54 l1 s h6) (0 : Int32)
else
 some ((0 : Int32), h2)
theorem eBX10_clash_15 {h : jx_H} {q : Nat} {S : MS} {l1 : Int32} {s1 : Int32} : BX10_clash_15 q l1 q s1 (bput mK h q S) = (gBX10_clash_15 l1 s1 S).map (fun s : Int32 × MS => (s.1, bput mK h q s.2)) := by
  unfold BX10_clash_15 gBX10_clash_15
  simp only [gx_bs, gx_ms, gx_mn, gx_bn, gx_bm, gx_mb, gx_ite, gx_exL, gx_b2, gx_b2m, gx_b2mm, gx_sl, gx_sr, gx_id, eFX10_differences, eBX10_clash_41, wLX10_clash_54, mK_al, mK_as, mK_gi0, mK_ob, mK_pi0]
/-! FX10_clash -/
noncomputable def gFX10_clash (l1 : Int32) (h : MS) : Option (Int32 × MS) :=
(gFX10_in l1 (0 : Int32) (4 : Int32) h).bind fun x49 =>
if x49 = 0 then
 gBX10_clash_15 l1 (1 : Int32) h
else
 gBX10_clash_15 l1 (0 : Int32) h
theorem eFX10_clash {h : jx_H} {q : Nat} {S : MS} {l1 : Int32} : FX10_clash q l1 (bput mK h q S) = (gFX10_clash l1 S).map (fun s : Int32 × MS => (s.1, bput mK h q s.2)) := by
  unfold FX10_clash gFX10_clash
  simp only [gx_bs, gx_ms, gx_mn, gx_bn, gx_bm, gx_mb, gx_ite, gx_exL, gx_b2, gx_b2m, gx_b2mm, gx_sl, gx_sr, gx_id, eFX10_in, eBX10_clash_15, mK_al, mK_as, mK_ob]
/-! FX10_arePowers -/
noncomputable def gFX10_arePowers (l0 : Int32) (l1 : Int32) (h : MS) : Option (Int32) :=
(gFX10_in l0 (0 : Int32) (22 : Int32) h).bind fun x1 =>
if x1 = 0 then
 some (0 : Int32)
else
 (gFX10_in l1 (0 : Int32) (22 : Int32) h).bind fun x2 =>
 if x2 = 0 then
  some (0 : Int32)
 else
  some (1 : Int32)
theorem eFX10_arePowers {h : jx_H} {q : Nat} {S : MS} {l0 : Int32} {l1 : Int32} : FX10_arePowers l0 l1 (bput mK h q S) = gFX10_arePowers l0 l1 S := by
  unfold FX10_arePowers gFX10_arePowers
  simp only [gx_bs, gx_ms, gx_mn, gx_bn, gx_bm, gx_mb, gx_ite, gx_exL, gx_b2, gx_b2m, gx_b2mm, gx_sl, gx_sr, gx_id, eFX10_in, mK_al, mK_as, mK_ob]
/-! BX10_trace_14 -/
noncomputable def gBX10_trace_14 (l1 : Int32) (l2 : Int32) (s1 : Int32) (h : MS) : Option (Int32 × MS) :=
(some (gpi h 0 s1)).bind fun h1 =>
(some (h1.1 0)).bind fun x2 =>
if x2 ≤ 0 then
 (gFX10_laysTables h1).bind fun h4 =>
 bind2 (gFX10_traceOf l1 l2 h4) fun x6 h7 =>
 some (x6, h7)
else
 some ((0 : Int32), h1)
theorem eBX10_trace_14 {h : jx_H} {q : Nat} {S : MS} {l1 : Int32} {l2 : Int32} {s1 : Int32} : BX10_trace_14 q l1 l2 q s1 (bput mK h q S) = (gBX10_trace_14 l1 l2 s1 S).map (fun s : Int32 × MS => (s.1, bput mK h q s.2)) := by
  unfold BX10_trace_14 gBX10_trace_14
  simp only [gx_bs, gx_ms, gx_mn, gx_bn, gx_bm, gx_mb, gx_ite, gx_exL, gx_b2, gx_b2m, gx_b2mm, gx_sl, gx_sr, gx_id, eFX10_laysTables, eFX10_traceOf, mK_al, mK_as, mK_gi0, mK_ob, mK_pi0]
/-! FX10_trace -/
noncomputable def gFX10_trace (l1 : Int32) (l2 : Int32) (h : MS) : Option (Int32 × MS) :=
(gFX10_arePowers l1 l2 h).bind fun x9 =>
if x9 = 0 then
 gBX10_trace_14 l1 l2 (1 : Int32) h
else
 gBX10_trace_14 l1 l2 (0 : Int32) h
theorem eFX10_trace {h : jx_H} {q : Nat} {S : MS} {l1 : Int32} {l2 : Int32} : FX10_trace q l1 l2 (bput mK h q S) = (gFX10_trace l1 l2 S).map (fun s : Int32 × MS => (s.1, bput mK h q s.2)) := by
  unfold FX10_trace gFX10_trace
  simp only [gx_bs, gx_ms, gx_mn, gx_bn, gx_bm, gx_mb, gx_ite, gx_exL, gx_b2, gx_b2m, gx_b2mm, gx_sl, gx_sr, gx_id, eFX10_arePowers, eBX10_trace_14, mK_al, mK_as, mK_ob]
/-! BX10_normal_26 -/
noncomputable def gBX10_normal_26 (l1 : Int32) (l2 : Int32) (l3 : Int32) (s1 : Int32) (h : MS) : Option (Int32 × MS) :=
(some (gpi h 0 s1)).bind fun h1 =>
(some (h1.1 0)).bind fun x2 =>
if x2 ≤ 0 then
 (gFX10_laysTables h1).bind fun h4 =>
 (gFX10_laysNormal l1 l2 h4).bind fun h6 =>
 (gal mK h6 16 l3).bind fun x8 =>
 some (x8, h6)
else
 some ((0 : Int32), h1)
theorem eBX10_normal_26 {h : jx_H} {q : Nat} {S : MS} {l1 : Int32} {l2 : Int32} {l3 : Int32} {s1 : Int32} : BX10_normal_26 q l1 l2 l3 q s1 (bput mK h q S) = (gBX10_normal_26 l1 l2 l3 s1 S).map (fun s : Int32 × MS => (s.1, bput mK h q s.2)) := by
  unfold BX10_normal_26 gBX10_normal_26
  simp only [gx_bs, gx_ms, gx_mn, gx_bn, gx_bm, gx_mb, gx_ite, gx_exL, gx_b2, gx_b2m, gx_b2mm, gx_sl, gx_sr, gx_id, eFX10_laysTables, eFX10_laysNormal, mJ_16, mK_al, mK_al16, mK_as, mK_as16, mK_gi0, mK_gr26, mK_ob, mK_pi0]
/-! FX10_normal -/
noncomputable def gFX10_normal (l1 : Int32) (l2 : Int32) (l3 : Int32) (h : MS) : Option (Int32 × MS) :=
(gFX10_isMonomial l3 h).bind fun x11 =>
if x11 = 0 then
 gBX10_normal_26 l1 l2 l3 (1 : Int32) h
else
 (gFX10_arePowers l1 l2 h).bind fun x12 =>
 if x12 = 0 then
  gBX10_normal_26 l1 l2 l3 (2 : Int32) h
 else
  gBX10_normal_26 l1 l2 l3 (0 : Int32) h
theorem eFX10_normal {h : jx_H} {q : Nat} {S : MS} {l1 : Int32} {l2 : Int32} {l3 : Int32} : FX10_normal q l1 l2 l3 (bput mK h q S) = (gFX10_normal l1 l2 l3 S).map (fun s : Int32 × MS => (s.1, bput mK h q s.2)) := by
  unfold FX10_normal gFX10_normal
  simp only [gx_bs, gx_ms, gx_mn, gx_bn, gx_bm, gx_mb, gx_ite, gx_exL, gx_b2, gx_b2m, gx_b2mm, gx_sl, gx_sr, gx_id, eFX10_isMonomial, eBX10_normal_26, eFX10_arePowers, mK_al, mK_as, mK_ob]
/-! BX10_determinant_45 -/
noncomputable def gBX10_determinant_45 (s1 : Nat) (h : MS) : Option (Int32 × MS) :=
(gFX10_laysTall s1 (0 : Int32) h).bind fun h2 =>
(gFX10_n h2).bind fun x4 =>
(gFX10_reduces x4 h2).bind fun h6 =>
(some (h6.1 29)).bind fun x7 =>
some (x7, h6)
theorem eBX10_determinant_45 {h : jx_H} {q : Nat} {S : MS} {s1 : Nat} (Js1 : mJ s1) : BX10_determinant_45 q q (q + s1) (bput mK h q S) = (gBX10_determinant_45 s1 S).map (fun s : Int32 × MS => (s.1, bput mK h q s.2)) := by
  unfold BX10_determinant_45 gBX10_determinant_45
  simp only [gx_bs, gx_ms, gx_mn, gx_bn, gx_bm, gx_mb, gx_ite, gx_exL, gx_b2, gx_b2m, gx_b2mm, gx_sl, gx_sr, gx_id, eFX10_laysTall, eFX10_n, eFX10_reduces, Js1, mK_al, mK_as, mK_gi29, mK_ob]
/-! BX10_determinant_13 -/
noncomputable def gBX10_determinant_13 (l1 : Int32) (s1 : Int32) (h : MS) : Option (Int32 × MS) :=
(some (gpi h 0 s1)).bind fun h8 =>
(some (h8.1 0)).bind fun x9 =>
if x9 ≤ 0 then
 (gFX10_laysTables h8).bind fun h11 =>
 if l1 = 0 then
  gBX10_determinant_45 10 h11
 else
  gBX10_determinant_45 11 h11
else
 some ((0 : Int32), h8)
theorem eBX10_determinant_13 {h : jx_H} {q : Nat} {S : MS} {l1 : Int32} {s1 : Int32} : BX10_determinant_13 q l1 q s1 (bput mK h q S) = (gBX10_determinant_13 l1 s1 S).map (fun s : Int32 × MS => (s.1, bput mK h q s.2)) := by
  unfold BX10_determinant_13 gBX10_determinant_13
  simp only [gx_bs, gx_ms, gx_mn, gx_bn, gx_bm, gx_mb, gx_ite, gx_exL, gx_b2, gx_b2m, gx_b2mm, gx_sl, gx_sr, gx_id, eFX10_laysTables, eBX10_determinant_45, mJ_10, mJ_11, mK_al, mK_al10, mK_al11, mK_as, mK_as10, mK_as11, mK_gi0, mK_gr20, mK_gr21, mK_ob, mK_pi0]
/-! FX10_determinant -/
noncomputable def gFX10_determinant (l1 : Int32) (h : MS) : Option (Int32 × MS) :=
(gFX10_isVariable l1 h).bind fun x16 =>
if x16 = 0 then
 gBX10_determinant_13 l1 (1 : Int32) h
else
 gBX10_determinant_13 l1 (0 : Int32) h
theorem eFX10_determinant {h : jx_H} {q : Nat} {S : MS} {l1 : Int32} : FX10_determinant q l1 (bput mK h q S) = (gFX10_determinant l1 S).map (fun s : Int32 × MS => (s.1, bput mK h q s.2)) := by
  unfold FX10_determinant gFX10_determinant
  simp only [gx_bs, gx_ms, gx_mn, gx_bn, gx_bm, gx_mb, gx_ite, gx_exL, gx_b2, gx_b2m, gx_b2mm, gx_sl, gx_sr, gx_id, eFX10_isVariable, eBX10_determinant_13, mK_al, mK_as, mK_ob]
/-! BX10_kernel_52 -/
noncomputable def gBX10_kernel_52 (l2 : Int32) (s0 : Nat) (h : MS) : Option (Int32 × MS) :=
(gFX10_lessens s0 l2 h).bind fun h2 =>
(gFX10_laysTall s0 (0 : Int32) h2).bind fun h4 =>
(gFX10_n h4).bind fun x6 =>
(gFX10_reduces x6 h4).bind fun h8 =>
(gFX10_n h8).bind fun x10 =>
(some (h8.1 28)).bind fun x11 =>
some ((x10 - x11), h8)
theorem eBX10_kernel_52 {h : jx_H} {q : Nat} {S : MS} {l2 : Int32} {s0 : Nat} (Js0 : mJ s0) : BX10_kernel_52 q l2 (q + s0) (bput mK h q S) = (gBX10_kernel_52 l2 s0 S).map (fun s : Int32 × MS => (s.1, bput mK h q s.2)) := by
  unfold BX10_kernel_52 gBX10_kernel_52
  simp only [gx_bs, gx_ms, gx_mn, gx_bn, gx_bm, gx_mb, gx_ite, gx_exL, gx_b2, gx_b2m, gx_b2mm, gx_sl, gx_sr, gx_id, eFX10_lessens, eFX10_laysTall, eFX10_n, eFX10_reduces, Js0, mK_al, mK_as, mK_gi28, mK_ob]
/-! BX10_kernel_21 -/
noncomputable def gBX10_kernel_21 (l1 : Int32) (l2 : Int32) (s1 : Int32) (h : MS) : Option (Int32 × MS) :=
(some (gpi h 0 s1)).bind fun h12 =>
(some (h12.1 0)).bind fun x13 =>
if x13 ≤ 0 then
 (gFX10_laysTables h12).bind fun h15 =>
 if l1 = 0 then
  gBX10_kernel_52 l2 10 h15
 else
  gBX10_kernel_52 l2 11 h15
else
 some ((0 : Int32), h12)
theorem eBX10_kernel_21 {h : jx_H} {q : Nat} {S : MS} {l1 : Int32} {l2 : Int32} {s1 : Int32} : BX10_kernel_21 q l1 l2 q s1 (bput mK h q S) = (gBX10_kernel_21 l1 l2 s1 S).map (fun s : Int32 × MS => (s.1, bput mK h q s.2)) := by
  unfold BX10_kernel_21 gBX10_kernel_21
  simp only [gx_bs, gx_ms, gx_mn, gx_bn, gx_bm, gx_mb, gx_ite, gx_exL, gx_b2, gx_b2m, gx_b2mm, gx_sl, gx_sr, gx_id, eFX10_laysTables, eBX10_kernel_52, mJ_10, mJ_11, mK_al, mK_al10, mK_al11, mK_as, mK_as10, mK_as11, mK_gi0, mK_gr20, mK_gr21, mK_ob, mK_pi0]
/-! BX10_kernel_20 -/
noncomputable def gBX10_kernel_20 (l1 : Int32) (l2 : Int32) (h : MS) : Option (Int32 × MS) :=
gBX10_kernel_21 l1 l2 (1 : Int32) h
theorem eBX10_kernel_20 {h : jx_H} {q : Nat} {S : MS} {l1 : Int32} {l2 : Int32} : BX10_kernel_20 q l1 l2 q (bput mK h q S) = (gBX10_kernel_20 l1 l2 S).map (fun s : Int32 × MS => (s.1, bput mK h q s.2)) := by
  unfold BX10_kernel_20 gBX10_kernel_20
  simp only [gx_bs, gx_ms, gx_mn, gx_bn, gx_bm, gx_mb, gx_ite, gx_exL, gx_b2, gx_b2m, gx_b2mm, gx_sl, gx_sr, gx_id, eBX10_kernel_21, mK_al, mK_as, mK_ob]
/-! FX10_kernel -/
noncomputable def gFX10_kernel (l1 : Int32) (l2 : Int32) (h : MS) : Option (Int32 × MS) :=
(gFX10_isVariable l1 h).bind fun x20 =>
if x20 = 0 then
 gBX10_kernel_20 l1 l2 h
else
 (gFX10_isNumber l2 h).bind fun x22 =>
 if x22 = 0 then
  gBX10_kernel_20 l1 l2 h
 else
  gBX10_kernel_21 l1 l2 (0 : Int32) h
theorem eFX10_kernel {h : jx_H} {q : Nat} {S : MS} {l1 : Int32} {l2 : Int32} : FX10_kernel q l1 l2 (bput mK h q S) = (gFX10_kernel l1 l2 S).map (fun s : Int32 × MS => (s.1, bput mK h q s.2)) := by
  unfold FX10_kernel gFX10_kernel
  simp only [gx_bs, gx_ms, gx_mn, gx_bn, gx_bm, gx_mb, gx_ite, gx_exL, gx_b2, gx_b2m, gx_b2mm, gx_sl, gx_sr, gx_id, eFX10_isVariable, eBX10_kernel_20, eFX10_isNumber, eBX10_kernel_21, mK_al, mK_as, mK_ob]
/-! BX10_zeros_15 -/
noncomputable def gBX10_zeros_15 (l1 : Int32) (s1 : Int32) (h : MS) : Option (Int32 × MS) :=
(some (gpi h 0 s1)).bind fun h1 =>
(some (h1.1 0)).bind fun x2 =>
if x2 ≤ 0 then
 if l1 = 0 then
  (gFX10_laysZeros h1).bind fun h15 =>
  (some (h15.1 34)).bind fun x16 =>
  some (x16, h15)
 else
  bind2 (gFX10_areFriends h1) fun x4 h5 =>
  if x4 = 0 then
   some ((-1 : Int32), h5)
  else
   if l1 = (1 : Int32) then
    bind2 (gFX10_distinct h5) fun x10 h11 =>
    some (x10, h11)
   else
    bind2 (gFX10_allTimes h5) fun x7 h8 =>
    some (x7, h8)
else
 some ((0 : Int32), h1)
theorem eBX10_zeros_15 {h : jx_H} {q : Nat} {S : MS} {l1 : Int32} {s1 : Int32} : BX10_zeros_15 q l1 q s1 (bput mK h q S) = (gBX10_zeros_15 l1 s1 S).map (fun s : Int32 × MS => (s.1, bput mK h q s.2)) := by
  unfold BX10_zeros_15 gBX10_zeros_15
  simp only [gx_bs, gx_ms, gx_mn, gx_bn, gx_bm, gx_mb, gx_ite, gx_exL, gx_b2, gx_b2m, gx_b2mm, gx_sl, gx_sr, gx_id, eFX10_laysZeros, eFX10_areFriends, eFX10_distinct, eFX10_allTimes, mK_al, mK_as, mK_gi0, mK_gi34, mK_ob, mK_pi0]
/-! FX10_zeros -/
noncomputable def gFX10_zeros (l1 : Int32) (h : MS) : Option (Int32 × MS) :=
(gFX10_in l1 (0 : Int32) (2 : Int32) h).bind fun x19 =>
if x19 = 0 then
 gBX10_zeros_15 l1 (1 : Int32) h
else
 gBX10_zeros_15 l1 (0 : Int32) h
theorem eFX10_zeros {h : jx_H} {q : Nat} {S : MS} {l1 : Int32} : FX10_zeros q l1 (bput mK h q S) = (gFX10_zeros l1 S).map (fun s : Int32 × MS => (s.1, bput mK h q s.2)) := by
  unfold FX10_zeros gFX10_zeros
  simp only [gx_bs, gx_ms, gx_mn, gx_bn, gx_bm, gx_mb, gx_ite, gx_exL, gx_b2, gx_b2m, gx_b2mm, gx_sl, gx_sr, gx_id, eFX10_in, eBX10_zeros_15, mK_al, mK_as, mK_ob]
