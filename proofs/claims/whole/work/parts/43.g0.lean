/-! FX2_clear -/
noncomputable def gFX2_clear (H W : Nat) (l1 : Int32) (l2 : Int32) (h : MS) : Option (MS) :=
(some (h.1 0)).bind fun x1 =>
(some (gpi h 4 (if x1 < l1 then x1 else l1))).bind fun h2 =>
(some (h2.1 1)).bind fun x3 =>
(some (gpi h2 5 (if x3 < l2 then x3 else l2))).bind fun h4 =>
(gfl (xK H W) h4 1 (0 : Int32)).bind fun h6 =>
some h6
theorem eFX2_clear {H W : Nat} {h : jx_H} {q : Nat} {S : MS} {l1 : Int32} {l2 : Int32} : FX2_clear q l1 l2 (bput (xK H W) h q S) = (gFX2_clear H W l1 l2 S).map (bput (xK H W) h q) := by
  unfold FX2_clear gFX2_clear
  simp only [gx_bs, gx_ms, gx_mn, gx_bn, gx_bm, gx_mb, gx_ite, gx_exL, gx_b2, gx_b2m, gx_b2mm, gx_sl, gx_sr, gx_id, xK_ob, xK_gi0, xK_gi1, xK_gi4, xK_gi5, xK_gi6, xK_gr2, xK_gr3, xK_pi0, xK_pi1, xK_pi4, xK_pi5, xK_pi6, xK_al1, xK_as1, xK_fl1, xK_al2, xK_as2, xK_fl2]
/-! FX2_has -/
noncomputable def gFX2_has (H W : Nat) (l1 : Int32) (l2 : Int32) (h : MS) : Option (Int32) :=
if l1 < 0 then
 some (0 : Int32)
else
 (some (h.1 4)).bind fun x1 =>
 if x1 ≤ l1 then
  some (0 : Int32)
 else
  if l2 < 0 then
   some (0 : Int32)
  else
   (some (h.1 5)).bind fun x2 =>
   if x2 ≤ l2 then
    some (0 : Int32)
   else
    some (1 : Int32)
theorem eFX2_has {H W : Nat} {h : jx_H} {q : Nat} {S : MS} {l1 : Int32} {l2 : Int32} : FX2_has q l1 l2 (bput (xK H W) h q S) = gFX2_has H W l1 l2 S := by
  unfold FX2_has gFX2_has
  simp only [gx_bs, gx_ms, gx_mn, gx_bn, gx_bm, gx_mb, gx_ite, gx_exL, gx_b2, gx_b2m, gx_b2mm, gx_sl, gx_sr, gx_id, xK_ob, xK_gi0, xK_gi1, xK_gi4, xK_gi5, xK_gi6, xK_gr2, xK_gr3, xK_pi0, xK_pi1, xK_pi4, xK_pi5, xK_pi6, xK_al1, xK_as1, xK_fl1, xK_al2, xK_as2, xK_fl2]
/-! FX2_put -/
noncomputable def gFX2_put (H W : Nat) (l1 : Int32) (l2 : Int32) (l3 : Int32) (h : MS) : Option (MS) :=
(gFX2_has H W l1 l2 h).bind fun x2 =>
if x2 = 0 then
 some h
else
 (some (h.1 1)).bind fun x4 =>
 (gas (xK H W) h 1 ((l1 * x4) + l2) l3).bind fun h5 =>
 some h5
theorem eFX2_put {H W : Nat} {h : jx_H} {q : Nat} {S : MS} {l1 : Int32} {l2 : Int32} {l3 : Int32} : FX2_put q l1 l2 l3 (bput (xK H W) h q S) = (gFX2_put H W l1 l2 l3 S).map (bput (xK H W) h q) := by
  unfold FX2_put gFX2_put
  simp only [gx_bs, gx_ms, gx_mn, gx_bn, gx_bm, gx_mb, gx_ite, gx_exL, gx_b2, gx_b2m, gx_b2mm, gx_sl, gx_sr, gx_id, eFX2_has, xK_ob, xK_gi0, xK_gi1, xK_gi4, xK_gi5, xK_gi6, xK_gr2, xK_gr3, xK_pi0, xK_pi1, xK_pi4, xK_pi5, xK_pi6, xK_al1, xK_as1, xK_fl1, xK_al2, xK_as2, xK_fl2]
/-! LX4_moveTo_22 -/
noncomputable def gLX4_moveTo_22 (l1 : Int32) (l2 : Int32) (l4 : Int32) (h : MS) : Option ((Int32 × MS) ⊕ (MS)) :=
if (12 : Int32) < l4 then
 exL (some h)
else
 (gal pK h 1 (l4 - (1 : Int32))).bind fun x8 =>
 (some (h.1 2)).bind fun x9 =>
 (p_residue (x8 * l1) x9).bind fun x10 =>
 (gas pK h 1 l4 x10).bind fun h11 =>
 (gal pK h11 2 (l4 - (1 : Int32))).bind fun x14 =>
 (some (h11.1 2)).bind fun x15 =>
 (p_residue (x14 * l2) x15).bind fun x16 =>
 (gas pK h11 2 l4 x16).bind fun h17 =>
 some (.inl ((l4 + (1 : Int32)), h17))
theorem eLX4_moveTo_22 {h : jx_H} {q : Nat} {S : MS} {l1 : Int32} {l2 : Int32} {l4 : Int32} : LX4_moveTo_22 q l1 l2 l4 (bput pK h q S) = (gLX4_moveTo_22 l1 l2 l4 S).map (Sum.map (fun s : Int32 × MS => (s.1, bput pK h q s.2)) (bput pK h q)) := by
  unfold LX4_moveTo_22 gLX4_moveTo_22
  simp only [gx_bs, gx_ms, gx_mn, gx_bn, gx_bm, gx_mb, gx_ite, gx_exL, gx_b2, gx_b2m, gx_b2mm, gx_sl, gx_sr, gx_id, q_residue, pK_ob, pK_gi2, pK_gr0, pK_gr1, pK_pi2, pK_al1, pK_as1, pK_fl1, pK_al2, pK_as2, pK_fl2]
theorem wLX4_moveTo_22 {h : jx_H} {q : Nat} {S : MS} {l1 : Int32} {l2 : Int32} {c0 : Int32} : itr (fun s : Int32 × jx_H => LX4_moveTo_22 q l1 l2 s.1 s.2) (c0, bput pK h q S) = (itr (fun s : Int32 × MS => gLX4_moveTo_22 l1 l2 s.1 s.2) (c0, S)).map (bput pK h q) :=
  itr_map (φ := (fun s : Int32 × MS => (s.1, bput pK h q s.2))) (ψ := (bput pK h q)) (fun s => eLX4_moveTo_22) (c0, S)

/-! FX4_moveTo -/
noncomputable def gFX4_moveTo (l1 : Int32) (l2 : Int32) (l3 : Int32) (h : MS) : Option (MS) :=
(some (gpi h 2 l3)).bind fun h1 =>
(gas pK h1 1 (0 : Int32) (1 : Int32)).bind fun h3 =>
(gas pK h3 2 (0 : Int32) (1 : Int32)).bind fun h5 =>
itr (fun s : Int32 × MS => gLX4_moveTo_22 l1 l2 s.1 s.2) ((1 : Int32), h5)
theorem eFX4_moveTo {h : jx_H} {q : Nat} {S : MS} {l1 : Int32} {l2 : Int32} {l3 : Int32} : FX4_moveTo q l1 l2 l3 (bput pK h q S) = (gFX4_moveTo l1 l2 l3 S).map (bput pK h q) := by
  unfold FX4_moveTo gFX4_moveTo
  simp only [gx_bs, gx_ms, gx_mn, gx_bn, gx_bm, gx_mb, gx_ite, gx_exL, gx_b2, gx_b2m, gx_b2mm, gx_sl, gx_sr, gx_id, wLX4_moveTo_22, pK_ob, pK_gi2, pK_gr0, pK_gr1, pK_pi2, pK_al1, pK_as1, pK_fl1, pK_al2, pK_as2, pK_fl2]
/-! FX4_valueOfMonomial -/
noncomputable def gFX4_valueOfMonomial (l1 : Int32) (l2 : Int32) (h : MS) : Option (Int32) :=
(p_isOutside l1 (12 : Int32)).bind fun x1 =>
if x1 = 0 then
 (p_isOutside l2 (12 : Int32)).bind fun x2 =>
 if x2 = 0 then
  (gal pK h 1 l1).bind fun x4 =>
  (gal pK h 2 l2).bind fun x6 =>
  (some (h.1 2)).bind fun x7 =>
  (p_residue (x4 * x6) x7).bind fun x8 =>
  some x8
 else
  some (0 : Int32)
else
 some (0 : Int32)
theorem eFX4_valueOfMonomial {h : jx_H} {q : Nat} {S : MS} {l1 : Int32} {l2 : Int32} : FX4_valueOfMonomial q l1 l2 (bput pK h q S) = gFX4_valueOfMonomial l1 l2 S := by
  unfold FX4_valueOfMonomial gFX4_valueOfMonomial
  simp only [gx_bs, gx_ms, gx_mn, gx_bn, gx_bm, gx_mb, gx_ite, gx_exL, gx_b2, gx_b2m, gx_b2mm, gx_sl, gx_sr, gx_id, q_isOutside, q_residue, pK_ob, pK_gi2, pK_gr0, pK_gr1, pK_pi2, pK_al1, pK_as1, pK_fl1, pK_al2, pK_as2, pK_fl2]
/-! FX2_at -/
noncomputable def gFX2_at (H W : Nat) (l1 : Int32) (l2 : Int32) (h : MS) : Option (Int32) :=
(gFX2_has H W l1 l2 h).bind fun x2 =>
if x2 = 0 then
 some (0 : Int32)
else
 (some (h.1 1)).bind fun x4 =>
 (gal (xK H W) h 1 ((l1 * x4) + l2)).bind fun x5 =>
 some x5
theorem eFX2_at {H W : Nat} {h : jx_H} {q : Nat} {S : MS} {l1 : Int32} {l2 : Int32} : FX2_at q l1 l2 (bput (xK H W) h q S) = gFX2_at H W l1 l2 S := by
  unfold FX2_at gFX2_at
  simp only [gx_bs, gx_ms, gx_mn, gx_bn, gx_bm, gx_mb, gx_ite, gx_exL, gx_b2, gx_b2m, gx_b2mm, gx_sl, gx_sr, gx_id, eFX2_has, xK_ob, xK_gi0, xK_gi1, xK_gi4, xK_gi5, xK_gi6, xK_gr2, xK_gr3, xK_pi0, xK_pi1, xK_pi4, xK_pi5, xK_pi6, xK_al1, xK_as1, xK_fl1, xK_al2, xK_as2, xK_fl2]
/-! LX2_subtractRow_46 -/
noncomputable def gLX2_subtractRow_46 (H W : Nat) (l3 : Int32) (l4 : Int32) (l5 : Int32) (l6 : Int32) (l7 : Int32) (h : MS) : Option ((Int32 × MS) ⊕ (MS)) :=
(some (h.1 5)).bind fun x7 =>
if x7 ≤ l7 then
 exL (some h)
else
 (gal (xK H W) h 1 (l6 + l7)).bind fun x10 =>
 (gal (xK H W) h 1 (l5 + l7)).bind fun x12 =>
 (p_residue (x10 - (l3 * x12)) l4).bind fun x13 =>
 (gas (xK H W) h 1 (l6 + l7) x13).bind fun h14 =>
 some (.inl ((l7 + (1 : Int32)), h14))
theorem eLX2_subtractRow_46 {H W : Nat} {h : jx_H} {q : Nat} {S : MS} {l3 : Int32} {l4 : Int32} {l5 : Int32} {l6 : Int32} {l7 : Int32} : LX2_subtractRow_46 q l3 l4 l5 l6 l7 (bput (xK H W) h q S) = (gLX2_subtractRow_46 H W l3 l4 l5 l6 l7 S).map (Sum.map (fun s : Int32 × MS => (s.1, bput (xK H W) h q s.2)) (bput (xK H W) h q)) := by
  unfold LX2_subtractRow_46 gLX2_subtractRow_46
  simp only [gx_bs, gx_ms, gx_mn, gx_bn, gx_bm, gx_mb, gx_ite, gx_exL, gx_b2, gx_b2m, gx_b2mm, gx_sl, gx_sr, gx_id, q_residue, xK_ob, xK_gi0, xK_gi1, xK_gi4, xK_gi5, xK_gi6, xK_gr2, xK_gr3, xK_pi0, xK_pi1, xK_pi4, xK_pi5, xK_pi6, xK_al1, xK_as1, xK_fl1, xK_al2, xK_as2, xK_fl2]
theorem wLX2_subtractRow_46 {H W : Nat} {h : jx_H} {q : Nat} {S : MS} {l3 : Int32} {l4 : Int32} {l5 : Int32} {l6 : Int32} {c0 : Int32} : itr (fun s : Int32 × jx_H => LX2_subtractRow_46 q l3 l4 l5 l6 s.1 s.2) (c0, bput (xK H W) h q S) = (itr (fun s : Int32 × MS => gLX2_subtractRow_46 H W l3 l4 l5 l6 s.1 s.2) (c0, S)).map (bput (xK H W) h q) :=
  itr_map (φ := (fun s : Int32 × MS => (s.1, bput (xK H W) h q s.2))) (ψ := (bput (xK H W) h q)) (fun s => eLX2_subtractRow_46) (c0, S)

/-! FX2_subtractRow -/
noncomputable def gFX2_subtractRow (H W : Nat) (l1 : Int32) (l2 : Int32) (l3 : Int32) (l4 : Int32) (h : MS) : Option (MS) :=
(some (h.1 1)).bind fun x1 =>
(some (h.1 1)).bind fun x2 =>
(some (h.1 4)).bind fun x3 =>
(p_isOutside l1 (x3 - (1 : Int32))).bind fun x4 =>
if x4 = 0 then
 (some (h.1 4)).bind fun x5 =>
 (p_isOutside l2 (x5 - (1 : Int32))).bind fun x6 =>
 if x6 = 0 then
  itr (fun s : Int32 × MS => gLX2_subtractRow_46 H W l3 l4 (l2 * x1) (l1 * x2) s.1 s.2) ((0 : Int32), h)
 else
  some h
else
 some h
theorem eFX2_subtractRow {H W : Nat} {h : jx_H} {q : Nat} {S : MS} {l1 : Int32} {l2 : Int32} {l3 : Int32} {l4 : Int32} : FX2_subtractRow q l1 l2 l3 l4 (bput (xK H W) h q S) = (gFX2_subtractRow H W l1 l2 l3 l4 S).map (bput (xK H W) h q) := by
  unfold FX2_subtractRow gFX2_subtractRow
  simp only [gx_bs, gx_ms, gx_mn, gx_bn, gx_bm, gx_mb, gx_ite, gx_exL, gx_b2, gx_b2m, gx_b2mm, gx_sl, gx_sr, gx_id, q_isOutside, wLX2_subtractRow_46, xK_ob, xK_gi0, xK_gi1, xK_gi4, xK_gi5, xK_gi6, xK_gr2, xK_gr3, xK_pi0, xK_pi1, xK_pi4, xK_pi5, xK_pi6, xK_al1, xK_as1, xK_fl1, xK_al2, xK_as2, xK_fl2]
/-! BX2_clearColumn_42 -/
noncomputable def gBX2_clearColumn_42 (H W : Nat) (l1 : Int32) (l2 : Int32) (l3 : Int32) (l4 : Int32) (h : MS) : Option ((Int32 × MS) ⊕ (MS)) :=
some (.inl ((l4 + (1 : Int32)), h))
theorem eBX2_clearColumn_42 {H W : Nat} {h : jx_H} {q : Nat} {S : MS} {l1 : Int32} {l2 : Int32} {l3 : Int32} {l4 : Int32} : BX2_clearColumn_42 q l1 l2 l3 l4 (bput (xK H W) h q S) = (gBX2_clearColumn_42 H W l1 l2 l3 l4 S).map (Sum.map (fun s : Int32 × MS => (s.1, bput (xK H W) h q s.2)) (bput (xK H W) h q)) := by
  unfold BX2_clearColumn_42 gBX2_clearColumn_42
  simp only [gx_bs, gx_ms, gx_mn, gx_bn, gx_bm, gx_mb, gx_ite, gx_exL, gx_b2, gx_b2m, gx_b2mm, gx_sl, gx_sr, gx_id, xK_ob, xK_gi0, xK_gi1, xK_gi4, xK_gi5, xK_gi6, xK_gr2, xK_gr3, xK_pi0, xK_pi1, xK_pi4, xK_pi5, xK_pi6, xK_al1, xK_as1, xK_fl1, xK_al2, xK_as2, xK_fl2]
/-! LX2_clearColumn_3 -/
noncomputable def gLX2_clearColumn_3 (H W : Nat) (l1 : Int32) (l2 : Int32) (l3 : Int32) (l4 : Int32) (h : MS) : Option ((Int32 × MS) ⊕ (MS)) :=
(some (h.1 4)).bind fun x1 =>
if x1 ≤ l4 then
 exL (some h)
else
 (gFX2_at H W l4 l2 h).bind fun x3 =>
 if l4 = l1 then
  gBX2_clearColumn_42 H W l1 l2 l3 l4 h
 else
  if x3 = 0 then
   gBX2_clearColumn_42 H W l1 l2 l3 l4 h
  else
   (gFX2_subtractRow H W l4 l1 x3 l3 h).bind fun h5 =>
   gBX2_clearColumn_42 H W l1 l2 l3 l4 h5
theorem eLX2_clearColumn_3 {H W : Nat} {h : jx_H} {q : Nat} {S : MS} {l1 : Int32} {l2 : Int32} {l3 : Int32} {l4 : Int32} : LX2_clearColumn_3 q l1 l2 l3 l4 (bput (xK H W) h q S) = (gLX2_clearColumn_3 H W l1 l2 l3 l4 S).map (Sum.map (fun s : Int32 × MS => (s.1, bput (xK H W) h q s.2)) (bput (xK H W) h q)) := by
  unfold LX2_clearColumn_3 gLX2_clearColumn_3
  simp only [gx_bs, gx_ms, gx_mn, gx_bn, gx_bm, gx_mb, gx_ite, gx_exL, gx_b2, gx_b2m, gx_b2mm, gx_sl, gx_sr, gx_id, eFX2_at, eBX2_clearColumn_42, eFX2_subtractRow, xK_ob, xK_gi0, xK_gi1, xK_gi4, xK_gi5, xK_gi6, xK_gr2, xK_gr3, xK_pi0, xK_pi1, xK_pi4, xK_pi5, xK_pi6, xK_al1, xK_as1, xK_fl1, xK_al2, xK_as2, xK_fl2]
theorem wLX2_clearColumn_3 {H W : Nat} {h : jx_H} {q : Nat} {S : MS} {l1 : Int32} {l2 : Int32} {l3 : Int32} {c0 : Int32} : itr (fun s : Int32 × jx_H => LX2_clearColumn_3 q l1 l2 l3 s.1 s.2) (c0, bput (xK H W) h q S) = (itr (fun s : Int32 × MS => gLX2_clearColumn_3 H W l1 l2 l3 s.1 s.2) (c0, S)).map (bput (xK H W) h q) :=
  itr_map (φ := (fun s : Int32 × MS => (s.1, bput (xK H W) h q s.2))) (ψ := (bput (xK H W) h q)) (fun s => eLX2_clearColumn_3) (c0, S)

/-! FX2_clearColumn -/
noncomputable def gFX2_clearColumn (H W : Nat) (l1 : Int32) (l2 : Int32) (l3 : Int32) (h : MS) : Option (MS) :=
itr (fun s : Int32 × MS => gLX2_clearColumn_3 H W l1 l2 l3 s.1 s.2) ((0 : Int32), h)
theorem eFX2_clearColumn {H W : Nat} {h : jx_H} {q : Nat} {S : MS} {l1 : Int32} {l2 : Int32} {l3 : Int32} : FX2_clearColumn q l1 l2 l3 (bput (xK H W) h q S) = (gFX2_clearColumn H W l1 l2 l3 S).map (bput (xK H W) h q) := by
  unfold FX2_clearColumn gFX2_clearColumn
  simp only [gx_bs, gx_ms, gx_mn, gx_bn, gx_bm, gx_mb, gx_ite, gx_exL, gx_b2, gx_b2m, gx_b2mm, gx_sl, gx_sr, gx_id, wLX2_clearColumn_3, xK_ob, xK_gi0, xK_gi1, xK_gi4, xK_gi5, xK_gi6, xK_gr2, xK_gr3, xK_pi0, xK_pi1, xK_pi4, xK_pi5, xK_pi6, xK_al1, xK_as1, xK_fl1, xK_al2, xK_as2, xK_fl2]
/-! LX2_pivotRow_2 -/
noncomputable def gLX2_pivotRow_2 (H W : Nat) (l2 : Int32) (l3 : Int32) (h : MS) : Option ((Int32) ⊕ (Int32)) :=
(some (h.1 4)).bind fun x1 =>
if x1 ≤ l3 then
 exL (some (-1 : Int32))
else
 (gFX2_at H W l3 l2 h).bind fun x3 =>
 if x3 = 0 then
  some (.inl (l3 + (1 : Int32)))
 else
  exL (some l3)
theorem eLX2_pivotRow_2 {H W : Nat} {h : jx_H} {q : Nat} {S : MS} {l2 : Int32} {l3 : Int32} : LX2_pivotRow_2 q l2 l3 (bput (xK H W) h q S) = gLX2_pivotRow_2 H W l2 l3 S := by
  unfold LX2_pivotRow_2 gLX2_pivotRow_2
  simp only [gx_bs, gx_ms, gx_mn, gx_bn, gx_bm, gx_mb, gx_ite, gx_exL, gx_b2, gx_b2m, gx_b2mm, gx_sl, gx_sr, gx_id, eFX2_at, xK_ob, xK_gi0, xK_gi1, xK_gi4, xK_gi5, xK_gi6, xK_gr2, xK_gr3, xK_pi0, xK_pi1, xK_pi4, xK_pi5, xK_pi6, xK_al1, xK_as1, xK_fl1, xK_al2, xK_as2, xK_fl2]
/-! FX2_pivotRow -/
noncomputable def gFX2_pivotRow (H W : Nat) (l1 : Int32) (l2 : Int32) (h : MS) : Option (Int32) :=
itr (fun s : Int32 => gLX2_pivotRow_2 H W l2 s h) l1
theorem eFX2_pivotRow {H W : Nat} {h : jx_H} {q : Nat} {S : MS} {l1 : Int32} {l2 : Int32} : FX2_pivotRow q l1 l2 (bput (xK H W) h q S) = gFX2_pivotRow H W l1 l2 S := by
  unfold FX2_pivotRow gFX2_pivotRow
  simp only [gx_bs, gx_ms, gx_mn, gx_bn, gx_bm, gx_mb, gx_ite, gx_exL, gx_b2, gx_b2m, gx_b2mm, gx_sl, gx_sr, gx_id, eLX2_pivotRow_2, xK_ob, xK_gi0, xK_gi1, xK_gi4, xK_gi5, xK_gi6, xK_gr2, xK_gr3, xK_pi0, xK_pi1, xK_pi4, xK_pi5, xK_pi6, xK_al1, xK_as1, xK_fl1, xK_al2, xK_as2, xK_fl2]
/-! LX2_scaleRow_3 -/
noncomputable def gLX2_scaleRow_3 (H W : Nat) (l1 : Int32) (l2 : Int32) (l3 : Int32) (l4 : Int32) (h : MS) : Option ((Int32 × MS) ⊕ (MS)) :=
(some (h.1 5)).bind fun x1 =>
if x1 ≤ l4 then
 exL (some h)
else
 (gFX2_at H W l1 l4 h).bind fun x3 =>
 (p_residue (x3 * l2) l3).bind fun x4 =>
 (gFX2_put H W l1 l4 x4 h).bind fun h6 =>
 some (.inl ((l4 + (1 : Int32)), h6))
theorem eLX2_scaleRow_3 {H W : Nat} {h : jx_H} {q : Nat} {S : MS} {l1 : Int32} {l2 : Int32} {l3 : Int32} {l4 : Int32} : LX2_scaleRow_3 q l1 l2 l3 l4 (bput (xK H W) h q S) = (gLX2_scaleRow_3 H W l1 l2 l3 l4 S).map (Sum.map (fun s : Int32 × MS => (s.1, bput (xK H W) h q s.2)) (bput (xK H W) h q)) := by
  unfold LX2_scaleRow_3 gLX2_scaleRow_3
  simp only [gx_bs, gx_ms, gx_mn, gx_bn, gx_bm, gx_mb, gx_ite, gx_exL, gx_b2, gx_b2m, gx_b2mm, gx_sl, gx_sr, gx_id, eFX2_at, q_residue, eFX2_put, xK_ob, xK_gi0, xK_gi1, xK_gi4, xK_gi5, xK_gi6, xK_gr2, xK_gr3, xK_pi0, xK_pi1, xK_pi4, xK_pi5, xK_pi6, xK_al1, xK_as1, xK_fl1, xK_al2, xK_as2, xK_fl2]
theorem wLX2_scaleRow_3 {H W : Nat} {h : jx_H} {q : Nat} {S : MS} {l1 : Int32} {l2 : Int32} {l3 : Int32} {c0 : Int32} : itr (fun s : Int32 × jx_H => LX2_scaleRow_3 q l1 l2 l3 s.1 s.2) (c0, bput (xK H W) h q S) = (itr (fun s : Int32 × MS => gLX2_scaleRow_3 H W l1 l2 l3 s.1 s.2) (c0, S)).map (bput (xK H W) h q) :=
  itr_map (φ := (fun s : Int32 × MS => (s.1, bput (xK H W) h q s.2))) (ψ := (bput (xK H W) h q)) (fun s => eLX2_scaleRow_3) (c0, S)

/-! FX2_scaleRow -/
noncomputable def gFX2_scaleRow (H W : Nat) (l1 : Int32) (l2 : Int32) (l3 : Int32) (h : MS) : Option (MS) :=
itr (fun s : Int32 × MS => gLX2_scaleRow_3 H W l1 l2 l3 s.1 s.2) ((0 : Int32), h)
theorem eFX2_scaleRow {H W : Nat} {h : jx_H} {q : Nat} {S : MS} {l1 : Int32} {l2 : Int32} {l3 : Int32} : FX2_scaleRow q l1 l2 l3 (bput (xK H W) h q S) = (gFX2_scaleRow H W l1 l2 l3 S).map (bput (xK H W) h q) := by
  unfold FX2_scaleRow gFX2_scaleRow
  simp only [gx_bs, gx_ms, gx_mn, gx_bn, gx_bm, gx_mb, gx_ite, gx_exL, gx_b2, gx_b2m, gx_b2mm, gx_sl, gx_sr, gx_id, wLX2_scaleRow_3, xK_ob, xK_gi0, xK_gi1, xK_gi4, xK_gi5, xK_gi6, xK_gr2, xK_gr3, xK_pi0, xK_pi1, xK_pi4, xK_pi5, xK_pi6, xK_al1, xK_as1, xK_fl1, xK_al2, xK_as2, xK_fl2]
/-! LX2_swapRows_2 -/
noncomputable def gLX2_swapRows_2 (H W : Nat) (l1 : Int32) (l2 : Int32) (l3 : Int32) (h : MS) : Option ((Int32 × MS) ⊕ (MS)) :=
(some (h.1 5)).bind fun x1 =>
if x1 ≤ l3 then
 exL (some h)
else
 (gFX2_at H W l1 l3 h).bind fun x3 =>
 (gFX2_at H W l2 l3 h).bind fun x5 =>
 (gFX2_put H W l1 l3 x5 h).bind fun h7 =>
 (gFX2_put H W l2 l3 x3 h7).bind fun h9 =>
 some (.inl ((l3 + (1 : Int32)), h9))
theorem eLX2_swapRows_2 {H W : Nat} {h : jx_H} {q : Nat} {S : MS} {l1 : Int32} {l2 : Int32} {l3 : Int32} : LX2_swapRows_2 q l1 l2 l3 (bput (xK H W) h q S) = (gLX2_swapRows_2 H W l1 l2 l3 S).map (Sum.map (fun s : Int32 × MS => (s.1, bput (xK H W) h q s.2)) (bput (xK H W) h q)) := by
  unfold LX2_swapRows_2 gLX2_swapRows_2
  simp only [gx_bs, gx_ms, gx_mn, gx_bn, gx_bm, gx_mb, gx_ite, gx_exL, gx_b2, gx_b2m, gx_b2mm, gx_sl, gx_sr, gx_id, eFX2_at, eFX2_put, xK_ob, xK_gi0, xK_gi1, xK_gi4, xK_gi5, xK_gi6, xK_gr2, xK_gr3, xK_pi0, xK_pi1, xK_pi4, xK_pi5, xK_pi6, xK_al1, xK_as1, xK_fl1, xK_al2, xK_as2, xK_fl2]
theorem wLX2_swapRows_2 {H W : Nat} {h : jx_H} {q : Nat} {S : MS} {l1 : Int32} {l2 : Int32} {c0 : Int32} : itr (fun s : Int32 × jx_H => LX2_swapRows_2 q l1 l2 s.1 s.2) (c0, bput (xK H W) h q S) = (itr (fun s : Int32 × MS => gLX2_swapRows_2 H W l1 l2 s.1 s.2) (c0, S)).map (bput (xK H W) h q) :=
  itr_map (φ := (fun s : Int32 × MS => (s.1, bput (xK H W) h q s.2))) (ψ := (bput (xK H W) h q)) (fun s => eLX2_swapRows_2) (c0, S)

/-! FX2_swapRows -/
noncomputable def gFX2_swapRows (H W : Nat) (l1 : Int32) (l2 : Int32) (h : MS) : Option (MS) :=
itr (fun s : Int32 × MS => gLX2_swapRows_2 H W l1 l2 s.1 s.2) ((0 : Int32), h)
theorem eFX2_swapRows {H W : Nat} {h : jx_H} {q : Nat} {S : MS} {l1 : Int32} {l2 : Int32} : FX2_swapRows q l1 l2 (bput (xK H W) h q S) = (gFX2_swapRows H W l1 l2 S).map (bput (xK H W) h q) := by
  unfold FX2_swapRows gFX2_swapRows
  simp only [gx_bs, gx_ms, gx_mn, gx_bn, gx_bm, gx_mb, gx_ite, gx_exL, gx_b2, gx_b2m, gx_b2mm, gx_sl, gx_sr, gx_id, wLX2_swapRows_2, xK_ob, xK_gi0, xK_gi1, xK_gi4, xK_gi5, xK_gi6, xK_gr2, xK_gr3, xK_pi0, xK_pi1, xK_pi4, xK_pi5, xK_pi6, xK_al1, xK_as1, xK_fl1, xK_al2, xK_as2, xK_fl2]
/-! BX2_reduceRows_125 -/
noncomputable def gBX2_reduceRows_125 (H W : Nat) (l1 : Int32) (l2 : Int32) (l3 : Int32) (h : MS) : Option ((Int32 × Int32 × MS) ⊕ (Int32 × MS)) :=
some (.inl (l2, (l3 + (1 : Int32)), h))
theorem eBX2_reduceRows_125 {H W : Nat} {h : jx_H} {q : Nat} {S : MS} {l1 : Int32} {l2 : Int32} {l3 : Int32} : BX2_reduceRows_125 q l1 l2 l3 (bput (xK H W) h q S) = (gBX2_reduceRows_125 H W l1 l2 l3 S).map (Sum.map (fun s : Int32 × Int32 × MS => (s.1, s.2.1, bput (xK H W) h q s.2.2)) (fun s : Int32 × MS => (s.1, bput (xK H W) h q s.2))) := by
  unfold BX2_reduceRows_125 gBX2_reduceRows_125
  simp only [gx_bs, gx_ms, gx_mn, gx_bn, gx_bm, gx_mb, gx_ite, gx_exL, gx_b2, gx_b2m, gx_b2mm, gx_sl, gx_sr, gx_id, xK_ob, xK_gi0, xK_gi1, xK_gi4, xK_gi5, xK_gi6, xK_gr2, xK_gr3, xK_pi0, xK_pi1, xK_pi4, xK_pi5, xK_pi6, xK_al1, xK_as1, xK_fl1, xK_al2, xK_as2, xK_fl2]
/-! BX2_reduceRows_73 -/
noncomputable def gBX2_reduceRows_73 (H W : Nat) (l1 : Int32) (l2 : Int32) (l3 : Int32) (h : MS) : Option ((Int32 × Int32 × MS) ⊕ (Int32 × MS)) :=
(some (h.1 6)).bind fun x2 =>
(gFX2_at H W l2 l3 h).bind fun x4 =>
(p_residue (x2 * x4) l1).bind fun x5 =>
(some (gpi h 6 x5)).bind fun h6 =>
(gFX2_at H W l2 l3 h6).bind fun x8 =>
(p_inverse x8 l1).bind fun x9 =>
(gFX2_scaleRow H W l2 x9 l1 h6).bind fun h11 =>
(gFX2_clearColumn H W l2 l3 l1 h11).bind fun h13 =>
(gas (xK H W) h13 2 l2 l3).bind fun h15 =>
gBX2_reduceRows_125 H W l1 (l2 + (1 : Int32)) l3 h15
theorem eBX2_reduceRows_73 {H W : Nat} {h : jx_H} {q : Nat} {S : MS} {l1 : Int32} {l2 : Int32} {l3 : Int32} : BX2_reduceRows_73 q l1 l2 l3 (bput (xK H W) h q S) = (gBX2_reduceRows_73 H W l1 l2 l3 S).map (Sum.map (fun s : Int32 × Int32 × MS => (s.1, s.2.1, bput (xK H W) h q s.2.2)) (fun s : Int32 × MS => (s.1, bput (xK H W) h q s.2))) := by
  unfold BX2_reduceRows_73 gBX2_reduceRows_73
  simp only [gx_bs, gx_ms, gx_mn, gx_bn, gx_bm, gx_mb, gx_ite, gx_exL, gx_b2, gx_b2m, gx_b2mm, gx_sl, gx_sr, gx_id, eFX2_at, q_residue, q_inverse, eFX2_scaleRow, eFX2_clearColumn, eBX2_reduceRows_125, xK_ob, xK_gi0, xK_gi1, xK_gi4, xK_gi5, xK_gi6, xK_gr2, xK_gr3, xK_pi0, xK_pi1, xK_pi4, xK_pi5, xK_pi6, xK_al1, xK_as1, xK_fl1, xK_al2, xK_as2, xK_fl2]
/-! LX2_reduceRows_9 -/
noncomputable def gLX2_reduceRows_9 (H W : Nat) (l1 : Int32) (l2 : Int32) (l3 : Int32) (h : MS) : Option ((Int32 × Int32 × MS) ⊕ (Int32 × MS)) :=
(some (h.1 5)).bind fun x16 =>
if x16 ≤ l3 then
 exL (some (l2, h))
else
 (some (h.1 4)).bind fun x17 =>
 if x17 ≤ l2 then
  exL (some (l2, h))
 else
  (gFX2_pivotRow H W l2 l3 h).bind fun x19 =>
  if x19 = (-1 : Int32) then
   (some (gpi h 6 (0 : Int32))).bind fun h26 =>
   gBX2_reduceRows_125 H W l1 l2 l3 h26
  else
   if x19 = l2 then
    gBX2_reduceRows_73 H W l1 l2 l3 h
   else
    (gFX2_swapRows H W x19 l2 h).bind fun h21 =>
    (some (h21.1 6)).bind fun x22 =>
    (p_residue (-x22) l1).bind fun x23 =>
    (some (gpi h21 6 x23)).bind fun h24 =>
    gBX2_reduceRows_73 H W l1 l2 l3 h24
theorem eLX2_reduceRows_9 {H W : Nat} {h : jx_H} {q : Nat} {S : MS} {l1 : Int32} {l2 : Int32} {l3 : Int32} : LX2_reduceRows_9 q l1 l2 l3 (bput (xK H W) h q S) = (gLX2_reduceRows_9 H W l1 l2 l3 S).map (Sum.map (fun s : Int32 × Int32 × MS => (s.1, s.2.1, bput (xK H W) h q s.2.2)) (fun s : Int32 × MS => (s.1, bput (xK H W) h q s.2))) := by
  unfold LX2_reduceRows_9 gLX2_reduceRows_9
  simp only [gx_bs, gx_ms, gx_mn, gx_bn, gx_bm, gx_mb, gx_ite, gx_exL, gx_b2, gx_b2m, gx_b2mm, gx_sl, gx_sr, gx_id, eFX2_pivotRow, eBX2_reduceRows_125, eBX2_reduceRows_73, eFX2_swapRows, q_residue, xK_ob, xK_gi0, xK_gi1, xK_gi4, xK_gi5, xK_gi6, xK_gr2, xK_gr3, xK_pi0, xK_pi1, xK_pi4, xK_pi5, xK_pi6, xK_al1, xK_as1, xK_fl1, xK_al2, xK_as2, xK_fl2]
theorem wLX2_reduceRows_9 {H W : Nat} {h : jx_H} {q : Nat} {S : MS} {l1 : Int32} {c0 : Int32} {c1 : Int32} : itr (fun s : Int32 × Int32 × jx_H => LX2_reduceRows_9 q l1 s.1 s.2.1 s.2.2) (c0, c1, bput (xK H W) h q S) = (itr (fun s : Int32 × Int32 × MS => gLX2_reduceRows_9 H W l1 s.1 s.2.1 s.2.2) (c0, c1, S)).map (fun s : Int32 × MS => (s.1, bput (xK H W) h q s.2)) :=
  itr_map (φ := (fun s : Int32 × Int32 × MS => (s.1, s.2.1, bput (xK H W) h q s.2.2))) (ψ := (fun s : Int32 × MS => (s.1, bput (xK H W) h q s.2))) (fun s => eLX2_reduceRows_9) (c0, c1, S)

/-! FX2_reduceRows -/
noncomputable def gFX2_reduceRows (H W : Nat) (l1 : Int32) (h : MS) : Option (Int32 × MS) :=
(some (gpi h 6 (1 : Int32))).bind fun h1 =>
itr (fun s : Int32 × Int32 × MS => gLX2_reduceRows_9 H W l1 s.1 s.2.1 s.2.2) ((0 : Int32), (0 : Int32), h1)
theorem eFX2_reduceRows {H W : Nat} {h : jx_H} {q : Nat} {S : MS} {l1 : Int32} : FX2_reduceRows q l1 (bput (xK H W) h q S) = (gFX2_reduceRows H W l1 S).map (fun s : Int32 × MS => (s.1, bput (xK H W) h q s.2)) := by
  unfold FX2_reduceRows gFX2_reduceRows
  simp only [gx_bs, gx_ms, gx_mn, gx_bn, gx_bm, gx_mb, gx_ite, gx_exL, gx_b2, gx_b2m, gx_b2mm, gx_sl, gx_sr, gx_id, wLX2_reduceRows_9, xK_ob, xK_gi0, xK_gi1, xK_gi4, xK_gi5, xK_gi6, xK_gr2, xK_gr3, xK_pi0, xK_pi1, xK_pi4, xK_pi5, xK_pi6, xK_al1, xK_as1, xK_fl1, xK_al2, xK_as2, xK_fl2]
/-! FX5_contains -/
noncomputable def gFX5_contains (l1 : Int32) (l2 : Int32) (h : MS) : Option (Int32) :=
if l1 < 0 then
 some (0 : Int32)
else
 if (12 : Int32) < l1 then
  some (0 : Int32)
 else
  if l2 < 0 then
   some (0 : Int32)
  else
   (gal sK h 1 l1).bind fun x2 =>
   if x2 ≤ l2 then
    some (0 : Int32)
   else
    some (1 : Int32)
theorem eFX5_contains {h : jx_H} {q : Nat} {S : MS} {l1 : Int32} {l2 : Int32} : FX5_contains q l1 l2 (bput sK h q S) = gFX5_contains l1 l2 S := by
  unfold FX5_contains gFX5_contains
  simp only [gx_bs, gx_ms, gx_mn, gx_bn, gx_bm, gx_mb, gx_ite, gx_exL, gx_b2, gx_b2m, gx_b2mm, gx_sl, gx_sr, gx_id, sK_ob, sK_gi0, sK_gi2, sK_gi5, sK_gi9, sK_gr1, sK_gr3, sK_gr4, sK_gr6, sK_gr7, sK_gr8, sK_gr10, sK_gr11, sK_pi0, sK_pi2, sK_pi5, sK_pi9, sK_al1, sK_as1, sK_fl1, sK_al2, sK_as2, sK_fl2, sK_al3, sK_as3, sK_fl3, sK_al4, sK_as4, sK_fl4, sK_al5, sK_as5, sK_fl5, sK_al6, sK_as6, sK_fl6, sK_al7, sK_as7, sK_fl7, sK_al8, sK_as8, sK_fl8]
/-! BX5_listMonomial_73 -/
noncomputable def gBX5_listMonomial_73 (l1 : Int32) (l2 : Int32) (h : MS) : Option (MS) :=
(some (h.1 5)).bind fun x1 =>
if (13 : Int32) ≤ x1 then
 some h
else
 (some (h.1 5)).bind fun x3 =>
 (gas sK h 4 x3 l1).bind fun h4 =>
 (some (h4.1 5)).bind fun x6 =>
 (gas sK h4 5 x6 l2).bind fun h7 =>
 (some (h7.1 5)).bind fun x8 =>
 (some (gpi h7 5 (x8 + (1 : Int32)))).bind fun h9 =>
 some h9
theorem eBX5_listMonomial_73 {h : jx_H} {q : Nat} {S : MS} {l1 : Int32} {l2 : Int32} : BX5_listMonomial_73 q l1 l2 (bput sK h q S) = (gBX5_listMonomial_73 l1 l2 S).map (bput sK h q) := by
  unfold BX5_listMonomial_73 gBX5_listMonomial_73
  simp only [gx_bs, gx_ms, gx_mn, gx_bn, gx_bm, gx_mb, gx_ite, gx_exL, gx_b2, gx_b2m, gx_b2mm, gx_sl, gx_sr, gx_id, sK_ob, sK_gi0, sK_gi2, sK_gi5, sK_gi9, sK_gr1, sK_gr3, sK_gr4, sK_gr6, sK_gr7, sK_gr8, sK_gr10, sK_gr11, sK_pi0, sK_pi2, sK_pi5, sK_pi9, sK_al1, sK_as1, sK_fl1, sK_al2, sK_as2, sK_fl2, sK_al3, sK_as3, sK_fl3, sK_al4, sK_as4, sK_fl4, sK_al5, sK_as5, sK_fl5, sK_al6, sK_as6, sK_fl6, sK_al7, sK_as7, sK_fl7, sK_al8, sK_as8, sK_fl8]
/-! FX5_listMonomial -/
noncomputable def gFX5_listMonomial (l1 : Int32) (l2 : Int32) (h : MS) : Option (MS) :=
(gFX5_contains l1 l2 h).bind fun x12 =>
if x12 = 0 then
 (gFX5_contains (l1 - (1 : Int32)) l2 h).bind fun x14 =>
 if x14 = 0 then
  (gFX5_contains l1 (l2 - (1 : Int32)) h).bind fun x16 =>
  if x16 = 0 then
   some h
  else
   gBX5_listMonomial_73 l1 l2 h
 else
  gBX5_listMonomial_73 l1 l2 h
else
 (some (h.1 2)).bind fun x19 =>
 if (12 : Int32) ≤ x19 then
  some h
 else
  (some (h.1 2)).bind fun x21 =>
  (gas sK h 2 x21 l1).bind fun h22 =>
  (some (h22.1 2)).bind fun x24 =>
  (gas sK h22 3 x24 l2).bind fun h25 =>
  (some (h25.1 2)).bind fun x26 =>
  (some (gpi h25 2 (x26 + (1 : Int32)))).bind fun h27 =>
  some h27
theorem eFX5_listMonomial {h : jx_H} {q : Nat} {S : MS} {l1 : Int32} {l2 : Int32} : FX5_listMonomial q l1 l2 (bput sK h q S) = (gFX5_listMonomial l1 l2 S).map (bput sK h q) := by
  unfold FX5_listMonomial gFX5_listMonomial
  simp only [gx_bs, gx_ms, gx_mn, gx_bn, gx_bm, gx_mb, gx_ite, gx_exL, gx_b2, gx_b2m, gx_b2mm, gx_sl, gx_sr, gx_id, eFX5_contains, eBX5_listMonomial_73, sK_ob, sK_gi0, sK_gi2, sK_gi5, sK_gi9, sK_gr1, sK_gr3, sK_gr4, sK_gr6, sK_gr7, sK_gr8, sK_gr10, sK_gr11, sK_pi0, sK_pi2, sK_pi5, sK_pi9, sK_al1, sK_as1, sK_fl1, sK_al2, sK_as2, sK_fl2, sK_al3, sK_as3, sK_fl3, sK_al4, sK_as4, sK_fl4, sK_al5, sK_as5, sK_fl5, sK_al6, sK_as6, sK_fl6, sK_al7, sK_as7, sK_fl7, sK_al8, sK_as8, sK_fl8]
/-! LX5_listMonomials_20 -/
noncomputable def gLX5_listMonomials_20 (l1 : Int32) (l2 : Int32) (h : MS) : Option ((Int32 × MS) ⊕ ((Int32 × MS) ⊕ (MS))) :=
if l1 < l2 then
 exL (some (.inl ((l1 + (1 : Int32)), h)))
else
 (gFX5_listMonomial (l1 - l2) l2 h).bind fun h4 =>
 some (.inl ((l2 + (1 : Int32)), h4))
theorem eLX5_listMonomials_20 {h : jx_H} {q : Nat} {S : MS} {l1 : Int32} {l2 : Int32} : LX5_listMonomials_20 q l1 l2 (bput sK h q S) = (gLX5_listMonomials_20 l1 l2 S).map (Sum.map (fun s : Int32 × MS => (s.1, bput sK h q s.2)) (Sum.map (fun s : Int32 × MS => (s.1, bput sK h q s.2)) (bput sK h q))) := by
  unfold LX5_listMonomials_20 gLX5_listMonomials_20
  simp only [gx_bs, gx_ms, gx_mn, gx_bn, gx_bm, gx_mb, gx_ite, gx_exL, gx_b2, gx_b2m, gx_b2mm, gx_sl, gx_sr, gx_id, eFX5_listMonomial, sK_ob, sK_gi0, sK_gi2, sK_gi5, sK_gi9, sK_gr1, sK_gr3, sK_gr4, sK_gr6, sK_gr7, sK_gr8, sK_gr10, sK_gr11, sK_pi0, sK_pi2, sK_pi5, sK_pi9, sK_al1, sK_as1, sK_fl1, sK_al2, sK_as2, sK_fl2, sK_al3, sK_as3, sK_fl3, sK_al4, sK_as4, sK_fl4, sK_al5, sK_as5, sK_fl5, sK_al6, sK_as6, sK_fl6, sK_al7, sK_as7, sK_fl7, sK_al8, sK_as8, sK_fl8]
theorem wLX5_listMonomials_20 {h : jx_H} {q : Nat} {S : MS} {l1 : Int32} {c0 : Int32} : itr (fun s : Int32 × jx_H => LX5_listMonomials_20 q l1 s.1 s.2) (c0, bput sK h q S) = (itr (fun s : Int32 × MS => gLX5_listMonomials_20 l1 s.1 s.2) (c0, S)).map (Sum.map (fun s : Int32 × MS => (s.1, bput sK h q s.2)) (bput sK h q)) :=
  itr_map (φ := (fun s : Int32 × MS => (s.1, bput sK h q s.2))) (ψ := (Sum.map (fun s : Int32 × MS => (s.1, bput sK h q s.2)) (bput sK h q))) (fun s => eLX5_listMonomials_20) (c0, S)

/-! LX5_listMonomials_12 -/
noncomputable def gLX5_listMonomials_12 (l1 : Int32) (h : MS) : Option ((Int32 × MS) ⊕ (MS)) :=
if (12 : Int32) < l1 then
 exL (some h)
else
 itr (fun s : Int32 × MS => gLX5_listMonomials_20 l1 s.1 s.2) ((0 : Int32), h)
theorem eLX5_listMonomials_12 {h : jx_H} {q : Nat} {S : MS} {l1 : Int32} : LX5_listMonomials_12 q l1 (bput sK h q S) = (gLX5_listMonomials_12 l1 S).map (Sum.map (fun s : Int32 × MS => (s.1, bput sK h q s.2)) (bput sK h q)) := by
  unfold LX5_listMonomials_12 gLX5_listMonomials_12
  simp only [gx_bs, gx_ms, gx_mn, gx_bn, gx_bm, gx_mb, gx_ite, gx_exL, gx_b2, gx_b2m, gx_b2mm, gx_sl, gx_sr, gx_id, wLX5_listMonomials_20, sK_ob, sK_gi0, sK_gi2, sK_gi5, sK_gi9, sK_gr1, sK_gr3, sK_gr4, sK_gr6, sK_gr7, sK_gr8, sK_gr10, sK_gr11, sK_pi0, sK_pi2, sK_pi5, sK_pi9, sK_al1, sK_as1, sK_fl1, sK_al2, sK_as2, sK_fl2, sK_al3, sK_as3, sK_fl3, sK_al4, sK_as4, sK_fl4, sK_al5, sK_as5, sK_fl5, sK_al6, sK_as6, sK_fl6, sK_al7, sK_as7, sK_fl7, sK_al8, sK_as8, sK_fl8]
theorem wLX5_listMonomials_12 {h : jx_H} {q : Nat} {S : MS} {c0 : Int32} : itr (fun s : Int32 × jx_H => LX5_listMonomials_12 q s.1 s.2) (c0, bput sK h q S) = (itr (fun s : Int32 × MS => gLX5_listMonomials_12  s.1 s.2) (c0, S)).map (bput sK h q) :=
  itr_map (φ := (fun s : Int32 × MS => (s.1, bput sK h q s.2))) (ψ := (bput sK h q)) (fun s => eLX5_listMonomials_12) (c0, S)

/-! FX5_listMonomials -/
noncomputable def gFX5_listMonomials (h : MS) : Option (MS) :=
(some (gpi h 2 (0 : Int32))).bind fun h1 =>
(some (gpi h1 5 (0 : Int32))).bind fun h2 =>
itr (fun s : Int32 × MS => gLX5_listMonomials_12 s.1 s.2) ((0 : Int32), h2)
theorem eFX5_listMonomials {h : jx_H} {q : Nat} {S : MS} : FX5_listMonomials q (bput sK h q S) = (gFX5_listMonomials  S).map (bput sK h q) := by
  unfold FX5_listMonomials gFX5_listMonomials
  simp only [gx_bs, gx_ms, gx_mn, gx_bn, gx_bm, gx_mb, gx_ite, gx_exL, gx_b2, gx_b2m, gx_b2mm, gx_sl, gx_sr, gx_id, wLX5_listMonomials_12, sK_ob, sK_gi0, sK_gi2, sK_gi5, sK_gi9, sK_gr1, sK_gr3, sK_gr4, sK_gr6, sK_gr7, sK_gr8, sK_gr10, sK_gr11, sK_pi0, sK_pi2, sK_pi5, sK_pi9, sK_al1, sK_as1, sK_fl1, sK_al2, sK_as2, sK_fl2, sK_al3, sK_as3, sK_fl3, sK_al4, sK_as4, sK_fl4, sK_al5, sK_as5, sK_fl5, sK_al6, sK_as6, sK_fl6, sK_al7, sK_as7, sK_fl7, sK_al8, sK_as8, sK_fl8]
/-! FX5_hasCoefficient -/
noncomputable def gFX5_hasCoefficient (l1 : Int32) (l2 : Int32) (h : MS) : Option (Int32) :=
if l1 < 0 then
 some (0 : Int32)
else
 (some (h.1 5)).bind fun x1 =>
 if x1 ≤ l1 then
  some (0 : Int32)
 else
  if l2 < 0 then
   some (0 : Int32)
  else
   (some (h.1 2)).bind fun x2 =>
   if x2 ≤ l2 then
    some (0 : Int32)
   else
    some (1 : Int32)
theorem eFX5_hasCoefficient {h : jx_H} {q : Nat} {S : MS} {l1 : Int32} {l2 : Int32} : FX5_hasCoefficient q l1 l2 (bput sK h q S) = gFX5_hasCoefficient l1 l2 S := by
  unfold FX5_hasCoefficient gFX5_hasCoefficient
  simp only [gx_bs, gx_ms, gx_mn, gx_bn, gx_bm, gx_mb, gx_ite, gx_exL, gx_b2, gx_b2m, gx_b2mm, gx_sl, gx_sr, gx_id, sK_ob, sK_gi0, sK_gi2, sK_gi5, sK_gi9, sK_gr1, sK_gr3, sK_gr4, sK_gr6, sK_gr7, sK_gr8, sK_gr10, sK_gr11, sK_pi0, sK_pi2, sK_pi5, sK_pi9, sK_al1, sK_as1, sK_fl1, sK_al2, sK_as2, sK_fl2, sK_al3, sK_as3, sK_fl3, sK_al4, sK_as4, sK_fl4, sK_al5, sK_as5, sK_fl5, sK_al6, sK_as6, sK_fl6, sK_al7, sK_as7, sK_fl7, sK_al8, sK_as8, sK_fl8]
/-! FX5_setCoefficient -/
noncomputable def gFX5_setCoefficient (l1 : Int32) (l2 : Int32) (l3 : Int32) (h : MS) : Option (MS) :=
(gFX5_hasCoefficient l1 l2 h).bind fun x2 =>
if x2 = 0 then
 some h
else
 (gas sK h 6 ((l1 * (12 : Int32)) + l2) l3).bind fun h4 =>
 some h4
theorem eFX5_setCoefficient {h : jx_H} {q : Nat} {S : MS} {l1 : Int32} {l2 : Int32} {l3 : Int32} : FX5_setCoefficient q l1 l2 l3 (bput sK h q S) = (gFX5_setCoefficient l1 l2 l3 S).map (bput sK h q) := by
  unfold FX5_setCoefficient gFX5_setCoefficient
  simp only [gx_bs, gx_ms, gx_mn, gx_bn, gx_bm, gx_mb, gx_ite, gx_exL, gx_b2, gx_b2m, gx_b2mm, gx_sl, gx_sr, gx_id, eFX5_hasCoefficient, sK_ob, sK_gi0, sK_gi2, sK_gi5, sK_gi9, sK_gr1, sK_gr3, sK_gr4, sK_gr6, sK_gr7, sK_gr8, sK_gr10, sK_gr11, sK_pi0, sK_pi2, sK_pi5, sK_pi9, sK_al1, sK_as1, sK_fl1, sK_al2, sK_as2, sK_fl2, sK_al3, sK_as3, sK_fl3, sK_al4, sK_as4, sK_fl4, sK_al5, sK_as5, sK_fl5, sK_al6, sK_as6, sK_fl6, sK_al7, sK_as7, sK_fl7, sK_al8, sK_as8, sK_fl8]
/-! FX5_reset -/
noncomputable def gFX5_reset (h : MS) : Option (MS) :=
(some (gpi h 0 (31 : Int32))).bind fun h1 =>
(gfl sK h1 1 (0 : Int32)).bind fun h3 =>
(gas sK h3 1 (0 : Int32) (1 : Int32)).bind fun h5 =>
(gfl sK h5 6 (0 : Int32)).bind fun h7 =>
(some (gpi h7 9 (0 : Int32))).bind fun h8 =>
(gFX5_listMonomials h8).bind fun h10 =>
some h10
theorem eFX5_reset {h : jx_H} {q : Nat} {S : MS} : FX5_reset q (bput sK h q S) = (gFX5_reset  S).map (bput sK h q) := by
  unfold FX5_reset gFX5_reset
  simp only [gx_bs, gx_ms, gx_mn, gx_bn, gx_bm, gx_mb, gx_ite, gx_exL, gx_b2, gx_b2m, gx_b2mm, gx_sl, gx_sr, gx_id, eFX5_listMonomials, sK_ob, sK_gi0, sK_gi2, sK_gi5, sK_gi9, sK_gr1, sK_gr3, sK_gr4, sK_gr6, sK_gr7, sK_gr8, sK_gr10, sK_gr11, sK_pi0, sK_pi2, sK_pi5, sK_pi9, sK_al1, sK_as1, sK_fl1, sK_al2, sK_as2, sK_fl2, sK_al3, sK_as3, sK_fl3, sK_al4, sK_as4, sK_fl4, sK_al5, sK_as5, sK_fl5, sK_al6, sK_as6, sK_fl6, sK_al7, sK_as7, sK_fl7, sK_al8, sK_as8, sK_fl8]
/-! LX2_becomeIdentity_8 -/
noncomputable def gLX2_becomeIdentity_8 (H W : Nat) (l2 : Int32) (h : MS) : Option ((Int32 × MS) ⊕ (MS)) :=
(some (h.1 4)).bind fun x3 =>
if x3 ≤ l2 then
 exL (some h)
else
 (gFX2_put H W l2 l2 (1 : Int32) h).bind fun h5 =>
 some (.inl ((l2 + (1 : Int32)), h5))
theorem eLX2_becomeIdentity_8 {H W : Nat} {h : jx_H} {q : Nat} {S : MS} {l2 : Int32} : LX2_becomeIdentity_8 q l2 (bput (xK H W) h q S) = (gLX2_becomeIdentity_8 H W l2 S).map (Sum.map (fun s : Int32 × MS => (s.1, bput (xK H W) h q s.2)) (bput (xK H W) h q)) := by
  unfold LX2_becomeIdentity_8 gLX2_becomeIdentity_8
  simp only [gx_bs, gx_ms, gx_mn, gx_bn, gx_bm, gx_mb, gx_ite, gx_exL, gx_b2, gx_b2m, gx_b2mm, gx_sl, gx_sr, gx_id, eFX2_put, xK_ob, xK_gi0, xK_gi1, xK_gi4, xK_gi5, xK_gi6, xK_gr2, xK_gr3, xK_pi0, xK_pi1, xK_pi4, xK_pi5, xK_pi6, xK_al1, xK_as1, xK_fl1, xK_al2, xK_as2, xK_fl2]
theorem wLX2_becomeIdentity_8 {H W : Nat} {h : jx_H} {q : Nat} {S : MS} {c0 : Int32} : itr (fun s : Int32 × jx_H => LX2_becomeIdentity_8 q s.1 s.2) (c0, bput (xK H W) h q S) = (itr (fun s : Int32 × MS => gLX2_becomeIdentity_8 H W  s.1 s.2) (c0, S)).map (bput (xK H W) h q) :=
  itr_map (φ := (fun s : Int32 × MS => (s.1, bput (xK H W) h q s.2))) (ψ := (bput (xK H W) h q)) (fun s => eLX2_becomeIdentity_8) (c0, S)

/-! FX2_becomeIdentity -/
noncomputable def gFX2_becomeIdentity (H W : Nat) (l1 : Int32) (h : MS) : Option (MS) :=
(gFX2_clear H W l1 l1 h).bind fun h2 =>
itr (fun s : Int32 × MS => gLX2_becomeIdentity_8 H W s.1 s.2) ((0 : Int32), h2)
theorem eFX2_becomeIdentity {H W : Nat} {h : jx_H} {q : Nat} {S : MS} {l1 : Int32} : FX2_becomeIdentity q l1 (bput (xK H W) h q S) = (gFX2_becomeIdentity H W l1 S).map (bput (xK H W) h q) := by
  unfold FX2_becomeIdentity gFX2_becomeIdentity
  simp only [gx_bs, gx_ms, gx_mn, gx_bn, gx_bm, gx_mb, gx_ite, gx_exL, gx_b2, gx_b2m, gx_b2mm, gx_sl, gx_sr, gx_id, eFX2_clear, wLX2_becomeIdentity_8, xK_ob, xK_gi0, xK_gi1, xK_gi4, xK_gi5, xK_gi6, xK_gr2, xK_gr3, xK_pi0, xK_pi1, xK_pi4, xK_pi5, xK_pi6, xK_al1, xK_as1, xK_fl1, xK_al2, xK_as2, xK_fl2]
/-! LX2_becomeShifted_21 -/
noncomputable def gLX2_becomeShifted_21 (H W : Nat) (l2 : Int32) (l3 : Int32) (l4 : Int32) (h : MS) : Option ((Int32 × MS) ⊕ (MS)) :=
(some (h.1 4)).bind fun x7 =>
if x7 ≤ l4 then
 exL (some h)
else
 (gFX2_at H W l4 l4 h).bind fun x9 =>
 (p_residue (x9 - l2) l3).bind fun x10 =>
 (gFX2_put H W l4 l4 x10 h).bind fun h12 =>
 some (.inl ((l4 + (1 : Int32)), h12))
theorem eLX2_becomeShifted_21 {H W : Nat} {h : jx_H} {q : Nat} {S : MS} {l2 : Int32} {l3 : Int32} {l4 : Int32} : LX2_becomeShifted_21 q l2 l3 l4 (bput (xK H W) h q S) = (gLX2_becomeShifted_21 H W l2 l3 l4 S).map (Sum.map (fun s : Int32 × MS => (s.1, bput (xK H W) h q s.2)) (bput (xK H W) h q)) := by
  unfold LX2_becomeShifted_21 gLX2_becomeShifted_21
  simp only [gx_bs, gx_ms, gx_mn, gx_bn, gx_bm, gx_mb, gx_ite, gx_exL, gx_b2, gx_b2m, gx_b2mm, gx_sl, gx_sr, gx_id, eFX2_at, q_residue, eFX2_put, xK_ob, xK_gi0, xK_gi1, xK_gi4, xK_gi5, xK_gi6, xK_gr2, xK_gr3, xK_pi0, xK_pi1, xK_pi4, xK_pi5, xK_pi6, xK_al1, xK_as1, xK_fl1, xK_al2, xK_as2, xK_fl2]
theorem wLX2_becomeShifted_21 {H W : Nat} {h : jx_H} {q : Nat} {S : MS} {l2 : Int32} {l3 : Int32} {c0 : Int32} : itr (fun s : Int32 × jx_H => LX2_becomeShifted_21 q l2 l3 s.1 s.2) (c0, bput (xK H W) h q S) = (itr (fun s : Int32 × MS => gLX2_becomeShifted_21 H W l2 l3 s.1 s.2) (c0, S)).map (bput (xK H W) h q) :=
  itr_map (φ := (fun s : Int32 × MS => (s.1, bput (xK H W) h q s.2))) (ψ := (bput (xK H W) h q)) (fun s => eLX2_becomeShifted_21) (c0, S)

/-! FX7_byteAt -/
noncomputable def gFX7_byteAt (l1 : Int32) (h : MS) : Option (Int32) :=
if l1 < 0 then
 some (0 : Int32)
else
 (some (h.1 1)).bind fun x1 =>
 if x1 ≤ l1 then
  some (0 : Int32)
 else
  if (900 : Int32) ≤ l1 then
   some (0 : Int32)
  else
   (gal tK h 1 l1).bind fun x3 =>
   some (x3 &&& (255 : Int32))
theorem eFX7_byteAt {h : jx_H} {q : Nat} {S : MS} {l1 : Int32} : FX7_byteAt q l1 (bput tK h q S) = gFX7_byteAt l1 S := by
  unfold FX7_byteAt gFX7_byteAt
  simp only [gx_bs, gx_ms, gx_mn, gx_bn, gx_bm, gx_mb, gx_ite, gx_exL, gx_b2, gx_b2m, gx_b2mm, gx_sl, gx_sr, gx_id, tK_ob, tK_gi1, tK_gi2, tK_gi3, tK_gi4, tK_gi5, tK_gr0, tK_pi1, tK_pi2, tK_pi3, tK_pi4, tK_pi5, tK_al1, tK_as1]
/-! FX7_isDigit -/
noncomputable def gFX7_isDigit (l0 : Int32) (h : MS) : Option (Int32) :=
if l0 < (48 : Int32) then
 some (0 : Int32)
else
 if (57 : Int32) < l0 then
  some (0 : Int32)
 else
  some (1 : Int32)
theorem eFX7_isDigit {h : jx_H} {q : Nat} {S : MS} {l0 : Int32} : FX7_isDigit l0 (bput tK h q S) = gFX7_isDigit l0 S := by
  unfold FX7_isDigit gFX7_isDigit
  simp only [gx_bs, gx_ms, gx_mn, gx_bn, gx_bm, gx_mb, gx_ite, gx_exL, gx_b2, gx_b2m, gx_b2mm, gx_sl, gx_sr, gx_id, tK_ob, tK_gi1, tK_gi2, tK_gi3, tK_gi4, tK_gi5, tK_gr0, tK_pi1, tK_pi2, tK_pi3, tK_pi4, tK_pi5, tK_al1, tK_as1]
/-! FX7_isLetter -/
noncomputable def gFX7_isLetter (l0 : Int32) (h : MS) : Option (Int32) :=
if l0 < (97 : Int32) then
 some (0 : Int32)
else
 if (122 : Int32) < l0 then
  some (0 : Int32)
 else
  some (1 : Int32)
theorem eFX7_isLetter {h : jx_H} {q : Nat} {S : MS} {l0 : Int32} : FX7_isLetter l0 (bput tK h q S) = gFX7_isLetter l0 S := by
  unfold FX7_isLetter gFX7_isLetter
  simp only [gx_bs, gx_ms, gx_mn, gx_bn, gx_bm, gx_mb, gx_ite, gx_exL, gx_b2, gx_b2m, gx_b2mm, gx_sl, gx_sr, gx_id, tK_ob, tK_gi1, tK_gi2, tK_gi3, tK_gi4, tK_gi5, tK_gr0, tK_pi1, tK_pi2, tK_pi3, tK_pi4, tK_pi5, tK_al1, tK_as1]
/-! LX7_advance_153 -/
noncomputable def gLX7_advance_153 (h : MS) : Option ((MS) ⊕ (MS)) :=
(some (h.1 4)).bind fun x18 =>
(some (h.1 1)).bind fun x19 =>
if x19 ≤ x18 then
 exL (some h)
else
 (some (h.1 4)).bind fun x20 =>
 (gFX7_byteAt x20 h).bind fun x22 =>
 (gFX7_isDigit x22 h).bind fun x23 =>
 if x23 = 0 then
  exL (some h)
 else
  (some (h.1 5)).bind fun x24 =>
  (some (h.1 4)).bind fun x25 =>
  (gFX7_byteAt x25 h).bind fun x27 =>
  (some (gpi h 5 (if (100000 : Int32) < (((x24 * (10 : Int32)) + x27) - (48 : Int32)) then (100000 : Int32) else (((x24 * (10 : Int32)) + x27) - (48 : Int32))))).bind fun h28 =>
  (some (h28.1 4)).bind fun x29 =>
  (some (gpi h28 4 (x29 + (1 : Int32)))).bind fun h30 =>
  some (.inl h30)
theorem eLX7_advance_153 {h : jx_H} {q : Nat} {S : MS} : LX7_advance_153 q (bput tK h q S) = (gLX7_advance_153  S).map (Sum.map (bput tK h q) (bput tK h q)) := by
  unfold LX7_advance_153 gLX7_advance_153
  simp only [gx_bs, gx_ms, gx_mn, gx_bn, gx_bm, gx_mb, gx_ite, gx_exL, gx_b2, gx_b2m, gx_b2mm, gx_sl, gx_sr, gx_id, eFX7_byteAt, eFX7_isDigit, tK_ob, tK_gi1, tK_gi2, tK_gi3, tK_gi4, tK_gi5, tK_gr0, tK_pi1, tK_pi2, tK_pi3, tK_pi4, tK_pi5, tK_al1, tK_as1]
theorem wLX7_advance_153 {h : jx_H} {q : Nat} {S : MS} : itr (fun s : jx_H => LX7_advance_153 q  s) (bput tK h q S) = (itr (fun s : MS => gLX7_advance_153   s) (S)).map (bput tK h q) :=
  itr_map (φ := (bput tK h q)) (ψ := (bput tK h q)) (fun s => eLX7_advance_153) (S)

/-! LX7_advance_98 -/
noncomputable def gLX7_advance_98 (h : MS) : Option ((MS) ⊕ (MS)) :=
(some (h.1 4)).bind fun x35 =>
(some (h.1 1)).bind fun x36 =>
if x36 ≤ x35 then
 exL (some h)
else
 (some (h.1 4)).bind fun x37 =>
 (gFX7_byteAt x37 h).bind fun x39 =>
 (gFX7_isLetter x39 h).bind fun x40 =>
 if x40 = 0 then
  exL (some h)
 else
  (some (h.1 4)).bind fun x41 =>
  (some (gpi h 4 (x41 + (1 : Int32)))).bind fun h42 =>
  some (.inl h42)
theorem eLX7_advance_98 {h : jx_H} {q : Nat} {S : MS} : LX7_advance_98 q (bput tK h q S) = (gLX7_advance_98  S).map (Sum.map (bput tK h q) (bput tK h q)) := by
  unfold LX7_advance_98 gLX7_advance_98
  simp only [gx_bs, gx_ms, gx_mn, gx_bn, gx_bm, gx_mb, gx_ite, gx_exL, gx_b2, gx_b2m, gx_b2mm, gx_sl, gx_sr, gx_id, eFX7_byteAt, eFX7_isLetter, tK_ob, tK_gi1, tK_gi2, tK_gi3, tK_gi4, tK_gi5, tK_gr0, tK_pi1, tK_pi2, tK_pi3, tK_pi4, tK_pi5, tK_al1, tK_as1]
theorem wLX7_advance_98 {h : jx_H} {q : Nat} {S : MS} : itr (fun s : jx_H => LX7_advance_98 q  s) (bput tK h q S) = (itr (fun s : MS => gLX7_advance_98   s) (S)).map (bput tK h q) :=
  itr_map (φ := (bput tK h q)) (ψ := (bput tK h q)) (fun s => eLX7_advance_98) (S)

/-! BX7_advance_37 -/
noncomputable def gBX7_advance_37 (h : MS) : Option ((MS) ⊕ (MS)) :=
(some (h.1 4)).bind fun x48 =>
(some (gpi h 4 (x48 + (1 : Int32)))).bind fun h49 =>
some (.inl h49)
theorem eBX7_advance_37 {h : jx_H} {q : Nat} {S : MS} : BX7_advance_37 q (bput tK h q S) = (gBX7_advance_37  S).map (Sum.map (bput tK h q) (bput tK h q)) := by
  unfold BX7_advance_37 gBX7_advance_37
  simp only [gx_bs, gx_ms, gx_mn, gx_bn, gx_bm, gx_mb, gx_ite, gx_exL, gx_b2, gx_b2m, gx_b2mm, gx_sl, gx_sr, gx_id, tK_ob, tK_gi1, tK_gi2, tK_gi3, tK_gi4, tK_gi5, tK_gr0, tK_pi1, tK_pi2, tK_pi3, tK_pi4, tK_pi5, tK_al1, tK_as1]
/-! BX5_borderNumberOf_32 -/
noncomputable def gBX5_borderNumberOf_32 (l1 : Int32) (l2 : Int32) (l3 : Int32) (h : MS) : Option ((Int32) ⊕ (Int32)) :=
some (.inl (l3 + (1 : Int32)))
theorem eBX5_borderNumberOf_32 {h : jx_H} {q : Nat} {S : MS} {l1 : Int32} {l2 : Int32} {l3 : Int32} : BX5_borderNumberOf_32 q l1 l2 l3 (bput sK h q S) = gBX5_borderNumberOf_32 l1 l2 l3 S := by
  unfold BX5_borderNumberOf_32 gBX5_borderNumberOf_32
  simp only [gx_bs, gx_ms, gx_mn, gx_bn, gx_bm, gx_mb, gx_ite, gx_exL, gx_b2, gx_b2m, gx_b2mm, gx_sl, gx_sr, gx_id, sK_ob, sK_gi0, sK_gi2, sK_gi5, sK_gi9, sK_gr1, sK_gr3, sK_gr4, sK_gr6, sK_gr7, sK_gr8, sK_gr10, sK_gr11, sK_pi0, sK_pi2, sK_pi5, sK_pi9, sK_al1, sK_as1, sK_fl1, sK_al2, sK_as2, sK_fl2, sK_al3, sK_as3, sK_fl3, sK_al4, sK_as4, sK_fl4, sK_al5, sK_as5, sK_fl5, sK_al6, sK_as6, sK_fl6, sK_al7, sK_as7, sK_fl7, sK_al8, sK_as8, sK_fl8]
/-! LX5_borderNumberOf_2 -/
noncomputable def gLX5_borderNumberOf_2 (l1 : Int32) (l2 : Int32) (l3 : Int32) (h : MS) : Option ((Int32) ⊕ (Int32)) :=
(some (h.1 5)).bind fun x1 =>
if x1 ≤ l3 then
 exL (some (-1 : Int32))
else
 (gal sK h 4 l3).bind fun x3 =>
 if x3 = l1 then
  (gal sK h 5 l3).bind fun x5 =>
  if x5 = l2 then
   exL (some l3)
  else
   gBX5_borderNumberOf_32 l1 l2 l3 h
 else
  gBX5_borderNumberOf_32 l1 l2 l3 h
theorem eLX5_borderNumberOf_2 {h : jx_H} {q : Nat} {S : MS} {l1 : Int32} {l2 : Int32} {l3 : Int32} : LX5_borderNumberOf_2 q l1 l2 l3 (bput sK h q S) = gLX5_borderNumberOf_2 l1 l2 l3 S := by
  unfold LX5_borderNumberOf_2 gLX5_borderNumberOf_2
  simp only [gx_bs, gx_ms, gx_mn, gx_bn, gx_bm, gx_mb, gx_ite, gx_exL, gx_b2, gx_b2m, gx_b2mm, gx_sl, gx_sr, gx_id, eBX5_borderNumberOf_32, sK_ob, sK_gi0, sK_gi2, sK_gi5, sK_gi9, sK_gr1, sK_gr3, sK_gr4, sK_gr6, sK_gr7, sK_gr8, sK_gr10, sK_gr11, sK_pi0, sK_pi2, sK_pi5, sK_pi9, sK_al1, sK_as1, sK_fl1, sK_al2, sK_as2, sK_fl2, sK_al3, sK_as3, sK_fl3, sK_al4, sK_as4, sK_fl4, sK_al5, sK_as5, sK_fl5, sK_al6, sK_as6, sK_fl6, sK_al7, sK_as7, sK_fl7, sK_al8, sK_as8, sK_fl8]
/-! FX5_borderNumberOf -/
noncomputable def gFX5_borderNumberOf (l1 : Int32) (l2 : Int32) (h : MS) : Option (Int32) :=
itr (fun s : Int32 => gLX5_borderNumberOf_2 l1 l2 s h) (0 : Int32)
theorem eFX5_borderNumberOf {h : jx_H} {q : Nat} {S : MS} {l1 : Int32} {l2 : Int32} : FX5_borderNumberOf q l1 l2 (bput sK h q S) = gFX5_borderNumberOf l1 l2 S := by
  unfold FX5_borderNumberOf gFX5_borderNumberOf
  simp only [gx_bs, gx_ms, gx_mn, gx_bn, gx_bm, gx_mb, gx_ite, gx_exL, gx_b2, gx_b2m, gx_b2mm, gx_sl, gx_sr, gx_id, eLX5_borderNumberOf_2, sK_ob, sK_gi0, sK_gi2, sK_gi5, sK_gi9, sK_gr1, sK_gr3, sK_gr4, sK_gr6, sK_gr7, sK_gr8, sK_gr10, sK_gr11, sK_pi0, sK_pi2, sK_pi5, sK_pi9, sK_al1, sK_as1, sK_fl1, sK_al2, sK_as2, sK_fl2, sK_al3, sK_as3, sK_fl3, sK_al4, sK_as4, sK_fl4, sK_al5, sK_as5, sK_fl5, sK_al6, sK_as6, sK_fl6, sK_al7, sK_as7, sK_fl7, sK_al8, sK_as8, sK_fl8]
/-! FX5_coefficient -/
noncomputable def gFX5_coefficient (l1 : Int32) (l2 : Int32) (h : MS) : Option (Int32) :=
(gFX5_hasCoefficient l1 l2 h).bind fun x2 =>
if x2 = 0 then
 some (0 : Int32)
else
 (gal sK h 6 ((l1 * (12 : Int32)) + l2)).bind fun x4 =>
 some x4
theorem eFX5_coefficient {h : jx_H} {q : Nat} {S : MS} {l1 : Int32} {l2 : Int32} : FX5_coefficient q l1 l2 (bput sK h q S) = gFX5_coefficient l1 l2 S := by
  unfold FX5_coefficient gFX5_coefficient
  simp only [gx_bs, gx_ms, gx_mn, gx_bn, gx_bm, gx_mb, gx_ite, gx_exL, gx_b2, gx_b2m, gx_b2mm, gx_sl, gx_sr, gx_id, eFX5_hasCoefficient, sK_ob, sK_gi0, sK_gi2, sK_gi5, sK_gi9, sK_gr1, sK_gr3, sK_gr4, sK_gr6, sK_gr7, sK_gr8, sK_gr10, sK_gr11, sK_pi0, sK_pi2, sK_pi5, sK_pi9, sK_al1, sK_as1, sK_fl1, sK_al2, sK_as2, sK_fl2, sK_al3, sK_as3, sK_fl3, sK_al4, sK_as4, sK_fl4, sK_al5, sK_as5, sK_fl5, sK_al6, sK_as6, sK_fl6, sK_al7, sK_as7, sK_fl7, sK_al8, sK_as8, sK_fl8]
/-! BX5_numberOf_32 -/
noncomputable def gBX5_numberOf_32 (l1 : Int32) (l2 : Int32) (l3 : Int32) (h : MS) : Option ((Int32) ⊕ (Int32)) :=
some (.inl (l3 + (1 : Int32)))
theorem eBX5_numberOf_32 {h : jx_H} {q : Nat} {S : MS} {l1 : Int32} {l2 : Int32} {l3 : Int32} : BX5_numberOf_32 q l1 l2 l3 (bput sK h q S) = gBX5_numberOf_32 l1 l2 l3 S := by
  unfold BX5_numberOf_32 gBX5_numberOf_32
  simp only [gx_bs, gx_ms, gx_mn, gx_bn, gx_bm, gx_mb, gx_ite, gx_exL, gx_b2, gx_b2m, gx_b2mm, gx_sl, gx_sr, gx_id, sK_ob, sK_gi0, sK_gi2, sK_gi5, sK_gi9, sK_gr1, sK_gr3, sK_gr4, sK_gr6, sK_gr7, sK_gr8, sK_gr10, sK_gr11, sK_pi0, sK_pi2, sK_pi5, sK_pi9, sK_al1, sK_as1, sK_fl1, sK_al2, sK_as2, sK_fl2, sK_al3, sK_as3, sK_fl3, sK_al4, sK_as4, sK_fl4, sK_al5, sK_as5, sK_fl5, sK_al6, sK_as6, sK_fl6, sK_al7, sK_as7, sK_fl7, sK_al8, sK_as8, sK_fl8]
/-! LX5_numberOf_2 -/
noncomputable def gLX5_numberOf_2 (l1 : Int32) (l2 : Int32) (l3 : Int32) (h : MS) : Option ((Int32) ⊕ (Int32)) :=
(some (h.1 2)).bind fun x1 =>
if x1 ≤ l3 then
 exL (some (-1 : Int32))
else
 (gal sK h 2 l3).bind fun x3 =>
 if x3 = l1 then
  (gal sK h 3 l3).bind fun x5 =>
  if x5 = l2 then
   exL (some l3)
  else
   gBX5_numberOf_32 l1 l2 l3 h
 else
  gBX5_numberOf_32 l1 l2 l3 h
theorem eLX5_numberOf_2 {h : jx_H} {q : Nat} {S : MS} {l1 : Int32} {l2 : Int32} {l3 : Int32} : LX5_numberOf_2 q l1 l2 l3 (bput sK h q S) = gLX5_numberOf_2 l1 l2 l3 S := by
  unfold LX5_numberOf_2 gLX5_numberOf_2
  simp only [gx_bs, gx_ms, gx_mn, gx_bn, gx_bm, gx_mb, gx_ite, gx_exL, gx_b2, gx_b2m, gx_b2mm, gx_sl, gx_sr, gx_id, eBX5_numberOf_32, sK_ob, sK_gi0, sK_gi2, sK_gi5, sK_gi9, sK_gr1, sK_gr3, sK_gr4, sK_gr6, sK_gr7, sK_gr8, sK_gr10, sK_gr11, sK_pi0, sK_pi2, sK_pi5, sK_pi9, sK_al1, sK_as1, sK_fl1, sK_al2, sK_as2, sK_fl2, sK_al3, sK_as3, sK_fl3, sK_al4, sK_as4, sK_fl4, sK_al5, sK_as5, sK_fl5, sK_al6, sK_as6, sK_fl6, sK_al7, sK_as7, sK_fl7, sK_al8, sK_as8, sK_fl8]
/-! FX5_numberOf -/
noncomputable def gFX5_numberOf (l1 : Int32) (l2 : Int32) (h : MS) : Option (Int32) :=
itr (fun s : Int32 => gLX5_numberOf_2 l1 l2 s h) (0 : Int32)
theorem eFX5_numberOf {h : jx_H} {q : Nat} {S : MS} {l1 : Int32} {l2 : Int32} : FX5_numberOf q l1 l2 (bput sK h q S) = gFX5_numberOf l1 l2 S := by
  unfold FX5_numberOf gFX5_numberOf
  simp only [gx_bs, gx_ms, gx_mn, gx_bn, gx_bm, gx_mb, gx_ite, gx_exL, gx_b2, gx_b2m, gx_b2mm, gx_sl, gx_sr, gx_id, eLX5_numberOf_2, sK_ob, sK_gi0, sK_gi2, sK_gi5, sK_gi9, sK_gr1, sK_gr3, sK_gr4, sK_gr6, sK_gr7, sK_gr8, sK_gr10, sK_gr11, sK_pi0, sK_pi2, sK_pi5, sK_pi9, sK_al1, sK_as1, sK_fl1, sK_al2, sK_as2, sK_fl2, sK_al3, sK_as3, sK_fl3, sK_al4, sK_as4, sK_fl4, sK_al5, sK_as5, sK_fl5, sK_al6, sK_as6, sK_fl6, sK_al7, sK_as7, sK_fl7, sK_al8, sK_as8, sK_fl8]
/-! BX5_obstacle_43 -/
noncomputable def gBX5_obstacle_43 (h : MS) : Option (Int32) :=
(some (h.1 2)).bind fun x1 =>
if x1 < (12 : Int32) then
 some (0 : Int32)
else
 some (3 : Int32)
theorem eBX5_obstacle_43 {h : jx_H} {q : Nat} {S : MS} : BX5_obstacle_43 q (bput sK h q S) = gBX5_obstacle_43  S := by
  unfold BX5_obstacle_43 gBX5_obstacle_43
  simp only [gx_bs, gx_ms, gx_mn, gx_bn, gx_bm, gx_mb, gx_ite, gx_exL, gx_b2, gx_b2m, gx_b2mm, gx_sl, gx_sr, gx_id, sK_ob, sK_gi0, sK_gi2, sK_gi5, sK_gi9, sK_gr1, sK_gr3, sK_gr4, sK_gr6, sK_gr7, sK_gr8, sK_gr10, sK_gr11, sK_pi0, sK_pi2, sK_pi5, sK_pi9, sK_al1, sK_as1, sK_fl1, sK_al2, sK_as2, sK_fl2, sK_al3, sK_as3, sK_fl3, sK_al4, sK_as4, sK_fl4, sK_al5, sK_as5, sK_fl5, sK_al6, sK_as6, sK_fl6, sK_al7, sK_as7, sK_fl7, sK_al8, sK_as8, sK_fl8]
/-! BX5_obstacle_26 -/
noncomputable def gBX5_obstacle_26 (l1 : Int32) (l2 : Int32) (h : MS) : Option (Int32) :=
if l2 ≤ 0 then
 gBX5_obstacle_43 h
else
 (gFX5_contains l1 (l2 - (1 : Int32)) h).bind fun x4 =>
 if x4 = 0 then
  some (2 : Int32)
 else
  gBX5_obstacle_43 h
theorem eBX5_obstacle_26 {h : jx_H} {q : Nat} {S : MS} {l1 : Int32} {l2 : Int32} : BX5_obstacle_26 q l1 l2 (bput sK h q S) = gBX5_obstacle_26 l1 l2 S := by
  unfold BX5_obstacle_26 gBX5_obstacle_26
  simp only [gx_bs, gx_ms, gx_mn, gx_bn, gx_bm, gx_mb, gx_ite, gx_exL, gx_b2, gx_b2m, gx_b2mm, gx_sl, gx_sr, gx_id, eBX5_obstacle_43, eFX5_contains, sK_ob, sK_gi0, sK_gi2, sK_gi5, sK_gi9, sK_gr1, sK_gr3, sK_gr4, sK_gr6, sK_gr7, sK_gr8, sK_gr10, sK_gr11, sK_pi0, sK_pi2, sK_pi5, sK_pi9, sK_al1, sK_as1, sK_fl1, sK_al2, sK_as2, sK_fl2, sK_al3, sK_as3, sK_fl3, sK_al4, sK_as4, sK_fl4, sK_al5, sK_as5, sK_fl5, sK_al6, sK_as6, sK_fl6, sK_al7, sK_as7, sK_fl7, sK_al8, sK_as8, sK_fl8]
/-! FX5_obstacle -/
noncomputable def gFX5_obstacle (l1 : Int32) (l2 : Int32) (h : MS) : Option (Int32) :=
(gFX5_contains l1 l2 h).bind fun x8 =>
if x8 = 0 then
 if l1 ≤ 0 then
  gBX5_obstacle_26 l1 l2 h
 else
  (gFX5_contains (l1 - (1 : Int32)) l2 h).bind fun x10 =>
  if x10 = 0 then
   some (2 : Int32)
  else
   gBX5_obstacle_26 l1 l2 h
else
 some (1 : Int32)
theorem eFX5_obstacle {h : jx_H} {q : Nat} {S : MS} {l1 : Int32} {l2 : Int32} : FX5_obstacle q l1 l2 (bput sK h q S) = gFX5_obstacle l1 l2 S := by
  unfold FX5_obstacle gFX5_obstacle
  simp only [gx_bs, gx_ms, gx_mn, gx_bn, gx_bm, gx_mb, gx_ite, gx_exL, gx_b2, gx_b2m, gx_b2mm, gx_sl, gx_sr, gx_id, eFX5_contains, eBX5_obstacle_26, sK_ob, sK_gi0, sK_gi2, sK_gi5, sK_gi9, sK_gr1, sK_gr3, sK_gr4, sK_gr6, sK_gr7, sK_gr8, sK_gr10, sK_gr11, sK_pi0, sK_pi2, sK_pi5, sK_pi9, sK_al1, sK_as1, sK_fl1, sK_al2, sK_as2, sK_fl2, sK_al3, sK_as3, sK_fl3, sK_al4, sK_as4, sK_fl4, sK_al5, sK_as5, sK_fl5, sK_al6, sK_as6, sK_fl6, sK_al7, sK_as7, sK_fl7, sK_al8, sK_as8, sK_fl8]
/-! FX5_appendPoint -/
noncomputable def gFX5_appendPoint (l1 : Int32) (l2 : Int32) (h : MS) : Option (MS) :=
(some (h.1 9)).bind fun x1 =>
if (12 : Int32) ≤ x1 then
 some h
else
 (some (h.1 9)).bind fun x3 =>
 (gas sK h 7 x3 l1).bind fun h4 =>
 (some (h4.1 9)).bind fun x6 =>
 (gas sK h4 8 x6 l2).bind fun h7 =>
 (some (h7.1 9)).bind fun x8 =>
 (some (gpi h7 9 (x8 + (1 : Int32)))).bind fun h9 =>
 some h9
theorem eFX5_appendPoint {h : jx_H} {q : Nat} {S : MS} {l1 : Int32} {l2 : Int32} : FX5_appendPoint q l1 l2 (bput sK h q S) = (gFX5_appendPoint l1 l2 S).map (bput sK h q) := by
  unfold FX5_appendPoint gFX5_appendPoint
  simp only [gx_bs, gx_ms, gx_mn, gx_bn, gx_bm, gx_mb, gx_ite, gx_exL, gx_b2, gx_b2m, gx_b2mm, gx_sl, gx_sr, gx_id, sK_ob, sK_gi0, sK_gi2, sK_gi5, sK_gi9, sK_gr1, sK_gr3, sK_gr4, sK_gr6, sK_gr7, sK_gr8, sK_gr10, sK_gr11, sK_pi0, sK_pi2, sK_pi5, sK_pi9, sK_al1, sK_as1, sK_fl1, sK_al2, sK_as2, sK_fl2, sK_al3, sK_as3, sK_fl3, sK_al4, sK_as4, sK_fl4, sK_al5, sK_as5, sK_fl5, sK_al6, sK_as6, sK_fl6, sK_al7, sK_as7, sK_fl7, sK_al8, sK_as8, sK_fl8]
/-! BX5_hasPoint_32 -/
noncomputable def gBX5_hasPoint_32 (l1 : Int32) (l2 : Int32) (l3 : Int32) (h : MS) : Option ((Int32) ⊕ (Int32)) :=
some (.inl (l3 + (1 : Int32)))
theorem eBX5_hasPoint_32 {h : jx_H} {q : Nat} {S : MS} {l1 : Int32} {l2 : Int32} {l3 : Int32} : BX5_hasPoint_32 q l1 l2 l3 (bput sK h q S) = gBX5_hasPoint_32 l1 l2 l3 S := by
  unfold BX5_hasPoint_32 gBX5_hasPoint_32
  simp only [gx_bs, gx_ms, gx_mn, gx_bn, gx_bm, gx_mb, gx_ite, gx_exL, gx_b2, gx_b2m, gx_b2mm, gx_sl, gx_sr, gx_id, sK_ob, sK_gi0, sK_gi2, sK_gi5, sK_gi9, sK_gr1, sK_gr3, sK_gr4, sK_gr6, sK_gr7, sK_gr8, sK_gr10, sK_gr11, sK_pi0, sK_pi2, sK_pi5, sK_pi9, sK_al1, sK_as1, sK_fl1, sK_al2, sK_as2, sK_fl2, sK_al3, sK_as3, sK_fl3, sK_al4, sK_as4, sK_fl4, sK_al5, sK_as5, sK_fl5, sK_al6, sK_as6, sK_fl6, sK_al7, sK_as7, sK_fl7, sK_al8, sK_as8, sK_fl8]
/-! LX5_hasPoint_2 -/
noncomputable def gLX5_hasPoint_2 (l1 : Int32) (l2 : Int32) (l3 : Int32) (h : MS) : Option ((Int32) ⊕ (Int32)) :=
(some (h.1 9)).bind fun x1 =>
if x1 ≤ l3 then
 exL (some (0 : Int32))
else
 (gal sK h 7 l3).bind fun x3 =>
 if x3 = l1 then
  (gal sK h 8 l3).bind fun x5 =>
  if x5 = l2 then
   exL (some (1 : Int32))
  else
   gBX5_hasPoint_32 l1 l2 l3 h
 else
  gBX5_hasPoint_32 l1 l2 l3 h
theorem eLX5_hasPoint_2 {h : jx_H} {q : Nat} {S : MS} {l1 : Int32} {l2 : Int32} {l3 : Int32} : LX5_hasPoint_2 q l1 l2 l3 (bput sK h q S) = gLX5_hasPoint_2 l1 l2 l3 S := by
  unfold LX5_hasPoint_2 gLX5_hasPoint_2
  simp only [gx_bs, gx_ms, gx_mn, gx_bn, gx_bm, gx_mb, gx_ite, gx_exL, gx_b2, gx_b2m, gx_b2mm, gx_sl, gx_sr, gx_id, eBX5_hasPoint_32, sK_ob, sK_gi0, sK_gi2, sK_gi5, sK_gi9, sK_gr1, sK_gr3, sK_gr4, sK_gr6, sK_gr7, sK_gr8, sK_gr10, sK_gr11, sK_pi0, sK_pi2, sK_pi5, sK_pi9, sK_al1, sK_as1, sK_fl1, sK_al2, sK_as2, sK_fl2, sK_al3, sK_as3, sK_fl3, sK_al4, sK_as4, sK_fl4, sK_al5, sK_as5, sK_fl5, sK_al6, sK_as6, sK_fl6, sK_al7, sK_as7, sK_fl7, sK_al8, sK_as8, sK_fl8]
/-! FX5_hasPoint -/
noncomputable def gFX5_hasPoint (l1 : Int32) (l2 : Int32) (h : MS) : Option (Int32) :=
itr (fun s : Int32 => gLX5_hasPoint_2 l1 l2 s h) (0 : Int32)
theorem eFX5_hasPoint {h : jx_H} {q : Nat} {S : MS} {l1 : Int32} {l2 : Int32} : FX5_hasPoint q l1 l2 (bput sK h q S) = gFX5_hasPoint l1 l2 S := by
  unfold FX5_hasPoint gFX5_hasPoint
  simp only [gx_bs, gx_ms, gx_mn, gx_bn, gx_bm, gx_mb, gx_ite, gx_exL, gx_b2, gx_b2m, gx_b2mm, gx_sl, gx_sr, gx_id, eLX5_hasPoint_2, sK_ob, sK_gi0, sK_gi2, sK_gi5, sK_gi9, sK_gr1, sK_gr3, sK_gr4, sK_gr6, sK_gr7, sK_gr8, sK_gr10, sK_gr11, sK_pi0, sK_pi2, sK_pi5, sK_pi9, sK_al1, sK_as1, sK_fl1, sK_al2, sK_as2, sK_fl2, sK_al3, sK_as3, sK_fl3, sK_al4, sK_as4, sK_fl4, sK_al5, sK_as5, sK_fl5, sK_al6, sK_as6, sK_fl6, sK_al7, sK_as7, sK_fl7, sK_al8, sK_as8, sK_fl8]
/-! LX5_clearRule_2 -/
noncomputable def gLX5_clearRule_2 (l1 : Int32) (l2 : Int32) (h : MS) : Option ((Int32 × MS) ⊕ (MS)) :=
(some (h.1 2)).bind fun x1 =>
if x1 ≤ l2 then
 exL (some h)
else
 (gFX5_setCoefficient l1 l2 (0 : Int32) h).bind fun h3 =>
 some (.inl ((l2 + (1 : Int32)), h3))
theorem eLX5_clearRule_2 {h : jx_H} {q : Nat} {S : MS} {l1 : Int32} {l2 : Int32} : LX5_clearRule_2 q l1 l2 (bput sK h q S) = (gLX5_clearRule_2 l1 l2 S).map (Sum.map (fun s : Int32 × MS => (s.1, bput sK h q s.2)) (bput sK h q)) := by
  unfold LX5_clearRule_2 gLX5_clearRule_2
  simp only [gx_bs, gx_ms, gx_mn, gx_bn, gx_bm, gx_mb, gx_ite, gx_exL, gx_b2, gx_b2m, gx_b2mm, gx_sl, gx_sr, gx_id, eFX5_setCoefficient, sK_ob, sK_gi0, sK_gi2, sK_gi5, sK_gi9, sK_gr1, sK_gr3, sK_gr4, sK_gr6, sK_gr7, sK_gr8, sK_gr10, sK_gr11, sK_pi0, sK_pi2, sK_pi5, sK_pi9, sK_al1, sK_as1, sK_fl1, sK_al2, sK_as2, sK_fl2, sK_al3, sK_as3, sK_fl3, sK_al4, sK_as4, sK_fl4, sK_al5, sK_as5, sK_fl5, sK_al6, sK_as6, sK_fl6, sK_al7, sK_as7, sK_fl7, sK_al8, sK_as8, sK_fl8]
theorem wLX5_clearRule_2 {h : jx_H} {q : Nat} {S : MS} {l1 : Int32} {c0 : Int32} : itr (fun s : Int32 × jx_H => LX5_clearRule_2 q l1 s.1 s.2) (c0, bput sK h q S) = (itr (fun s : Int32 × MS => gLX5_clearRule_2 l1 s.1 s.2) (c0, S)).map (bput sK h q) :=
  itr_map (φ := (fun s : Int32 × MS => (s.1, bput sK h q s.2))) (ψ := (bput sK h q)) (fun s => eLX5_clearRule_2) (c0, S)

/-! FX5_clearRule -/
noncomputable def gFX5_clearRule (l1 : Int32) (h : MS) : Option (MS) :=
itr (fun s : Int32 × MS => gLX5_clearRule_2 l1 s.1 s.2) ((0 : Int32), h)
theorem eFX5_clearRule {h : jx_H} {q : Nat} {S : MS} {l1 : Int32} : FX5_clearRule q l1 (bput sK h q S) = (gFX5_clearRule l1 S).map (bput sK h q) := by
  unfold FX5_clearRule gFX5_clearRule
  simp only [gx_bs, gx_ms, gx_mn, gx_bn, gx_bm, gx_mb, gx_ite, gx_exL, gx_b2, gx_b2m, gx_b2mm, gx_sl, gx_sr, gx_id, wLX5_clearRule_2, sK_ob, sK_gi0, sK_gi2, sK_gi5, sK_gi9, sK_gr1, sK_gr3, sK_gr4, sK_gr6, sK_gr7, sK_gr8, sK_gr10, sK_gr11, sK_pi0, sK_pi2, sK_pi5, sK_pi9, sK_al1, sK_as1, sK_fl1, sK_al2, sK_as2, sK_fl2, sK_al3, sK_as3, sK_fl3, sK_al4, sK_as4, sK_fl4, sK_al5, sK_as5, sK_fl5, sK_al6, sK_as6, sK_fl6, sK_al7, sK_as7, sK_fl7, sK_al8, sK_as8, sK_fl8]
/-! BX5_isCorner_17 -/
noncomputable def gBX5_isCorner_17 (l1 : Int32) (l2 : Int32) (h : MS) : Option (Int32) :=
(gFX5_contains (l1 + (1 : Int32)) l2 h).bind fun x2 =>
if x2 = 0 then
 (gFX5_contains l1 (l2 + (1 : Int32)) h).bind fun x4 =>
 if x4 = 0 then
  some (1 : Int32)
 else
  some (0 : Int32)
else
 some (0 : Int32)
theorem eBX5_isCorner_17 {h : jx_H} {q : Nat} {S : MS} {l1 : Int32} {l2 : Int32} : BX5_isCorner_17 q l1 l2 (bput sK h q S) = gBX5_isCorner_17 l1 l2 S := by
  unfold BX5_isCorner_17 gBX5_isCorner_17
  simp only [gx_bs, gx_ms, gx_mn, gx_bn, gx_bm, gx_mb, gx_ite, gx_exL, gx_b2, gx_b2m, gx_b2mm, gx_sl, gx_sr, gx_id, eFX5_contains, sK_ob, sK_gi0, sK_gi2, sK_gi5, sK_gi9, sK_gr1, sK_gr3, sK_gr4, sK_gr6, sK_gr7, sK_gr8, sK_gr10, sK_gr11, sK_pi0, sK_pi2, sK_pi5, sK_pi9, sK_al1, sK_as1, sK_fl1, sK_al2, sK_as2, sK_fl2, sK_al3, sK_as3, sK_fl3, sK_al4, sK_as4, sK_fl4, sK_al5, sK_as5, sK_fl5, sK_al6, sK_as6, sK_fl6, sK_al7, sK_as7, sK_fl7, sK_al8, sK_as8, sK_fl8]
/-! FX5_isCorner -/
noncomputable def gFX5_isCorner (l1 : Int32) (l2 : Int32) (h : MS) : Option (Int32) :=
(gFX5_contains l1 l2 h).bind fun x8 =>
if x8 = 0 then
 some (0 : Int32)
else
 if 0 < l1 then
  gBX5_isCorner_17 l1 l2 h
 else
  if l2 ≤ 0 then
   some (0 : Int32)
  else
   gBX5_isCorner_17 l1 l2 h
theorem eFX5_isCorner {h : jx_H} {q : Nat} {S : MS} {l1 : Int32} {l2 : Int32} : FX5_isCorner q l1 l2 (bput sK h q S) = gFX5_isCorner l1 l2 S := by
  unfold FX5_isCorner gFX5_isCorner
  simp only [gx_bs, gx_ms, gx_mn, gx_bn, gx_bm, gx_mb, gx_ite, gx_exL, gx_b2, gx_b2m, gx_b2mm, gx_sl, gx_sr, gx_id, eFX5_contains, eBX5_isCorner_17, sK_ob, sK_gi0, sK_gi2, sK_gi5, sK_gi9, sK_gr1, sK_gr3, sK_gr4, sK_gr6, sK_gr7, sK_gr8, sK_gr10, sK_gr11, sK_pi0, sK_pi2, sK_pi5, sK_pi9, sK_al1, sK_as1, sK_fl1, sK_al2, sK_as2, sK_fl2, sK_al3, sK_as3, sK_fl3, sK_al4, sK_as4, sK_fl4, sK_al5, sK_as5, sK_fl5, sK_al6, sK_as6, sK_fl6, sK_al7, sK_as7, sK_fl7, sK_al8, sK_as8, sK_fl8]
/-! BX5_candidates_54 -/
noncomputable def gBX5_candidates_54 (l1 : Int32) (l2 : Int32) (h : MS) : Option ((Int32 × Int32) ⊕ (Int32)) :=
some (.inl (l1, (l2 + (1 : Int32))))
theorem eBX5_candidates_54 {h : jx_H} {q : Nat} {S : MS} {l1 : Int32} {l2 : Int32} : BX5_candidates_54 q l1 l2 (bput sK h q S) = gBX5_candidates_54 l1 l2 S := by
  unfold BX5_candidates_54 gBX5_candidates_54
  simp only [gx_bs, gx_ms, gx_mn, gx_bn, gx_bm, gx_mb, gx_ite, gx_exL, gx_b2, gx_b2m, gx_b2mm, gx_sl, gx_sr, gx_id, sK_ob, sK_gi0, sK_gi2, sK_gi5, sK_gi9, sK_gr1, sK_gr3, sK_gr4, sK_gr6, sK_gr7, sK_gr8, sK_gr10, sK_gr11, sK_pi0, sK_pi2, sK_pi5, sK_pi9, sK_al1, sK_as1, sK_fl1, sK_al2, sK_as2, sK_fl2, sK_al3, sK_as3, sK_fl3, sK_al4, sK_as4, sK_fl4, sK_al5, sK_as5, sK_fl5, sK_al6, sK_as6, sK_fl6, sK_al7, sK_as7, sK_fl7, sK_al8, sK_as8, sK_fl8]
/-! LX5_candidates_4 -/
noncomputable def gLX5_candidates_4 (l1 : Int32) (l2 : Int32) (h : MS) : Option ((Int32 × Int32) ⊕ (Int32)) :=
(some (h.1 5)).bind fun x1 =>
if x1 ≤ l2 then
 exL (some l1)
else
 (gal sK h 4 l2).bind fun x3 =>
 (gal sK h 5 l2).bind fun x5 =>
 if (11 : Int32) < x3 then
  gBX5_candidates_54 l1 l2 h
 else
  if (11 : Int32) < x5 then
   gBX5_candidates_54 l1 l2 h
  else
   (gFX5_obstacle x3 x5 h).bind fun x7 =>
   if x7 = (2 : Int32) then
    gBX5_candidates_54 l1 l2 h
   else
    gBX5_candidates_54 (l1 + (1 : Int32)) l2 h
theorem eLX5_candidates_4 {h : jx_H} {q : Nat} {S : MS} {l1 : Int32} {l2 : Int32} : LX5_candidates_4 q l1 l2 (bput sK h q S) = gLX5_candidates_4 l1 l2 S := by
  unfold LX5_candidates_4 gLX5_candidates_4
  simp only [gx_bs, gx_ms, gx_mn, gx_bn, gx_bm, gx_mb, gx_ite, gx_exL, gx_b2, gx_b2m, gx_b2mm, gx_sl, gx_sr, gx_id, eBX5_candidates_54, eFX5_obstacle, sK_ob, sK_gi0, sK_gi2, sK_gi5, sK_gi9, sK_gr1, sK_gr3, sK_gr4, sK_gr6, sK_gr7, sK_gr8, sK_gr10, sK_gr11, sK_pi0, sK_pi2, sK_pi5, sK_pi9, sK_al1, sK_as1, sK_fl1, sK_al2, sK_as2, sK_fl2, sK_al3, sK_as3, sK_fl3, sK_al4, sK_as4, sK_fl4, sK_al5, sK_as5, sK_fl5, sK_al6, sK_as6, sK_fl6, sK_al7, sK_as7, sK_fl7, sK_al8, sK_as8, sK_fl8]
/-! FX5_candidates -/
noncomputable def gFX5_candidates (h : MS) : Option (Int32) :=
itr (fun s : Int32 × Int32 => gLX5_candidates_4 s.1 s.2 h) ((0 : Int32), (0 : Int32))
theorem eFX5_candidates {h : jx_H} {q : Nat} {S : MS} : FX5_candidates q (bput sK h q S) = gFX5_candidates  S := by
  unfold FX5_candidates gFX5_candidates
  simp only [gx_bs, gx_ms, gx_mn, gx_bn, gx_bm, gx_mb, gx_ite, gx_exL, gx_b2, gx_b2m, gx_b2mm, gx_sl, gx_sr, gx_id, eLX5_candidates_4, sK_ob, sK_gi0, sK_gi2, sK_gi5, sK_gi9, sK_gr1, sK_gr3, sK_gr4, sK_gr6, sK_gr7, sK_gr8, sK_gr10, sK_gr11, sK_pi0, sK_pi2, sK_pi5, sK_pi9, sK_al1, sK_as1, sK_fl1, sK_al2, sK_as2, sK_fl2, sK_al3, sK_as3, sK_fl3, sK_al4, sK_as4, sK_fl4, sK_al5, sK_as5, sK_fl5, sK_al6, sK_as6, sK_fl6, sK_al7, sK_as7, sK_fl7, sK_al8, sK_as8, sK_fl8]
/-! BX5_corners_34 -/
noncomputable def gBX5_corners_34 (l1 : Int32) (l2 : Int32) (h : MS) : Option ((Int32 × Int32) ⊕ (Int32)) :=
some (.inl (l1, (l2 + (1 : Int32))))
theorem eBX5_corners_34 {h : jx_H} {q : Nat} {S : MS} {l1 : Int32} {l2 : Int32} : BX5_corners_34 q l1 l2 (bput sK h q S) = gBX5_corners_34 l1 l2 S := by
  unfold BX5_corners_34 gBX5_corners_34
  simp only [gx_bs, gx_ms, gx_mn, gx_bn, gx_bm, gx_mb, gx_ite, gx_exL, gx_b2, gx_b2m, gx_b2mm, gx_sl, gx_sr, gx_id, sK_ob, sK_gi0, sK_gi2, sK_gi5, sK_gi9, sK_gr1, sK_gr3, sK_gr4, sK_gr6, sK_gr7, sK_gr8, sK_gr10, sK_gr11, sK_pi0, sK_pi2, sK_pi5, sK_pi9, sK_al1, sK_as1, sK_fl1, sK_al2, sK_as2, sK_fl2, sK_al3, sK_as3, sK_fl3, sK_al4, sK_as4, sK_fl4, sK_al5, sK_as5, sK_fl5, sK_al6, sK_as6, sK_fl6, sK_al7, sK_as7, sK_fl7, sK_al8, sK_as8, sK_fl8]
/-! LX5_corners_4 -/
noncomputable def gLX5_corners_4 (l1 : Int32) (l2 : Int32) (h : MS) : Option ((Int32 × Int32) ⊕ (Int32)) :=
(some (h.1 2)).bind fun x1 =>
if x1 ≤ l2 then
 exL (some l1)
else
 (gal sK h 2 l2).bind fun x3 =>
 (gal sK h 3 l2).bind fun x5 =>
 (gFX5_isCorner x3 x5 h).bind fun x7 =>
 if x7 = 0 then
  gBX5_corners_34 l1 l2 h
 else
  gBX5_corners_34 (l1 + (1 : Int32)) l2 h
theorem eLX5_corners_4 {h : jx_H} {q : Nat} {S : MS} {l1 : Int32} {l2 : Int32} : LX5_corners_4 q l1 l2 (bput sK h q S) = gLX5_corners_4 l1 l2 S := by
  unfold LX5_corners_4 gLX5_corners_4
  simp only [gx_bs, gx_ms, gx_mn, gx_bn, gx_bm, gx_mb, gx_ite, gx_exL, gx_b2, gx_b2m, gx_b2mm, gx_sl, gx_sr, gx_id, eFX5_isCorner, eBX5_corners_34, sK_ob, sK_gi0, sK_gi2, sK_gi5, sK_gi9, sK_gr1, sK_gr3, sK_gr4, sK_gr6, sK_gr7, sK_gr8, sK_gr10, sK_gr11, sK_pi0, sK_pi2, sK_pi5, sK_pi9, sK_al1, sK_as1, sK_fl1, sK_al2, sK_as2, sK_fl2, sK_al3, sK_as3, sK_fl3, sK_al4, sK_as4, sK_fl4, sK_al5, sK_as5, sK_fl5, sK_al6, sK_as6, sK_fl6, sK_al7, sK_as7, sK_fl7, sK_al8, sK_as8, sK_fl8]
/-! FX5_corners -/
noncomputable def gFX5_corners (h : MS) : Option (Int32) :=
itr (fun s : Int32 × Int32 => gLX5_corners_4 s.1 s.2 h) ((0 : Int32), (0 : Int32))
theorem eFX5_corners {h : jx_H} {q : Nat} {S : MS} : FX5_corners q (bput sK h q S) = gFX5_corners  S := by
  unfold FX5_corners gFX5_corners
  simp only [gx_bs, gx_ms, gx_mn, gx_bn, gx_bm, gx_mb, gx_ite, gx_exL, gx_b2, gx_b2m, gx_b2mm, gx_sl, gx_sr, gx_id, eLX5_corners_4, sK_ob, sK_gi0, sK_gi2, sK_gi5, sK_gi9, sK_gr1, sK_gr3, sK_gr4, sK_gr6, sK_gr7, sK_gr8, sK_gr10, sK_gr11, sK_pi0, sK_pi2, sK_pi5, sK_pi9, sK_al1, sK_as1, sK_fl1, sK_al2, sK_as2, sK_fl2, sK_al3, sK_as3, sK_fl3, sK_al4, sK_as4, sK_fl4, sK_al5, sK_as5, sK_fl5, sK_al6, sK_as6, sK_fl6, sK_al7, sK_as7, sK_fl7, sK_al8, sK_as8, sK_fl8]
/-! BX5_coefficientsNotZero_34 -/
noncomputable def gBX5_coefficientsNotZero_34 (l1 : Int32) (l2 : Int32) (l3 : Int32) (h : MS) : Option ((Int32 × Int32) ⊕ ((Int32 × Int32) ⊕ (Int32))) :=
some (.inl (l1, (l3 + (1 : Int32))))
theorem eBX5_coefficientsNotZero_34 {h : jx_H} {q : Nat} {S : MS} {l1 : Int32} {l2 : Int32} {l3 : Int32} : BX5_coefficientsNotZero_34 q l1 l2 l3 (bput sK h q S) = gBX5_coefficientsNotZero_34 l1 l2 l3 S := by
  unfold BX5_coefficientsNotZero_34 gBX5_coefficientsNotZero_34
  simp only [gx_bs, gx_ms, gx_mn, gx_bn, gx_bm, gx_mb, gx_ite, gx_exL, gx_b2, gx_b2m, gx_b2mm, gx_sl, gx_sr, gx_id, sK_ob, sK_gi0, sK_gi2, sK_gi5, sK_gi9, sK_gr1, sK_gr3, sK_gr4, sK_gr6, sK_gr7, sK_gr8, sK_gr10, sK_gr11, sK_pi0, sK_pi2, sK_pi5, sK_pi9, sK_al1, sK_as1, sK_fl1, sK_al2, sK_as2, sK_fl2, sK_al3, sK_as3, sK_fl3, sK_al4, sK_as4, sK_fl4, sK_al5, sK_as5, sK_fl5, sK_al6, sK_as6, sK_fl6, sK_al7, sK_as7, sK_fl7, sK_al8, sK_as8, sK_fl8]
/-! LX5_coefficientsNotZero_14 -/
noncomputable def gLX5_coefficientsNotZero_14 (l2 : Int32) (l1 : Int32) (l3 : Int32) (h : MS) : Option ((Int32 × Int32) ⊕ ((Int32 × Int32) ⊕ (Int32))) :=
(some (h.1 2)).bind fun x2 =>
if x2 ≤ l3 then
 exL (some (.inl (l1, (l2 + (1 : Int32)))))
else
 (gFX5_coefficient l2 l3 h).bind fun x4 =>
 if x4 = 0 then
  gBX5_coefficientsNotZero_34 l1 l2 l3 h
 else
  gBX5_coefficientsNotZero_34 (l1 + (1 : Int32)) l2 l3 h
theorem eLX5_coefficientsNotZero_14 {h : jx_H} {q : Nat} {S : MS} {l2 : Int32} {l1 : Int32} {l3 : Int32} : LX5_coefficientsNotZero_14 q l2 l1 l3 (bput sK h q S) = gLX5_coefficientsNotZero_14 l2 l1 l3 S := by
  unfold LX5_coefficientsNotZero_14 gLX5_coefficientsNotZero_14
  simp only [gx_bs, gx_ms, gx_mn, gx_bn, gx_bm, gx_mb, gx_ite, gx_exL, gx_b2, gx_b2m, gx_b2mm, gx_sl, gx_sr, gx_id, eFX5_coefficient, eBX5_coefficientsNotZero_34, sK_ob, sK_gi0, sK_gi2, sK_gi5, sK_gi9, sK_gr1, sK_gr3, sK_gr4, sK_gr6, sK_gr7, sK_gr8, sK_gr10, sK_gr11, sK_pi0, sK_pi2, sK_pi5, sK_pi9, sK_al1, sK_as1, sK_fl1, sK_al2, sK_as2, sK_fl2, sK_al3, sK_as3, sK_fl3, sK_al4, sK_as4, sK_fl4, sK_al5, sK_as5, sK_fl5, sK_al6, sK_as6, sK_fl6, sK_al7, sK_as7, sK_fl7, sK_al8, sK_as8, sK_fl8]
/-! LX5_coefficientsNotZero_4 -/
noncomputable def gLX5_coefficientsNotZero_4 (l1 : Int32) (l2 : Int32) (h : MS) : Option ((Int32 × Int32) ⊕ (Int32)) :=
(some (h.1 5)).bind fun x1 =>
if x1 ≤ l2 then
 exL (some l1)
else
 itr (fun s : Int32 × Int32 => gLX5_coefficientsNotZero_14 l2 s.1 s.2 h) (l1, (0 : Int32))
theorem eLX5_coefficientsNotZero_4 {h : jx_H} {q : Nat} {S : MS} {l1 : Int32} {l2 : Int32} : LX5_coefficientsNotZero_4 q l1 l2 (bput sK h q S) = gLX5_coefficientsNotZero_4 l1 l2 S := by
  unfold LX5_coefficientsNotZero_4 gLX5_coefficientsNotZero_4
  simp only [gx_bs, gx_ms, gx_mn, gx_bn, gx_bm, gx_mb, gx_ite, gx_exL, gx_b2, gx_b2m, gx_b2mm, gx_sl, gx_sr, gx_id, eLX5_coefficientsNotZero_14, sK_ob, sK_gi0, sK_gi2, sK_gi5, sK_gi9, sK_gr1, sK_gr3, sK_gr4, sK_gr6, sK_gr7, sK_gr8, sK_gr10, sK_gr11, sK_pi0, sK_pi2, sK_pi5, sK_pi9, sK_al1, sK_as1, sK_fl1, sK_al2, sK_as2, sK_fl2, sK_al3, sK_as3, sK_fl3, sK_al4, sK_as4, sK_fl4, sK_al5, sK_as5, sK_fl5, sK_al6, sK_as6, sK_fl6, sK_al7, sK_as7, sK_fl7, sK_al8, sK_as8, sK_fl8]
/-! FX5_coefficientsNotZero -/
noncomputable def gFX5_coefficientsNotZero (h : MS) : Option (Int32) :=
itr (fun s : Int32 × Int32 => gLX5_coefficientsNotZero_4 s.1 s.2 h) ((0 : Int32), (0 : Int32))
theorem eFX5_coefficientsNotZero {h : jx_H} {q : Nat} {S : MS} : FX5_coefficientsNotZero q (bput sK h q S) = gFX5_coefficientsNotZero  S := by
  unfold FX5_coefficientsNotZero gFX5_coefficientsNotZero
  simp only [gx_bs, gx_ms, gx_mn, gx_bn, gx_bm, gx_mb, gx_ite, gx_exL, gx_b2, gx_b2m, gx_b2mm, gx_sl, gx_sr, gx_id, eLX5_coefficientsNotZero_4, sK_ob, sK_gi0, sK_gi2, sK_gi5, sK_gi9, sK_gr1, sK_gr3, sK_gr4, sK_gr6, sK_gr7, sK_gr8, sK_gr10, sK_gr11, sK_pi0, sK_pi2, sK_pi5, sK_pi9, sK_al1, sK_as1, sK_fl1, sK_al2, sK_as2, sK_fl2, sK_al3, sK_as3, sK_fl3, sK_al4, sK_as4, sK_fl4, sK_al5, sK_as5, sK_fl5, sK_al6, sK_as6, sK_fl6, sK_al7, sK_as7, sK_fl7, sK_al8, sK_as8, sK_fl8]
/-! BX5_deletePoint_50 -/
noncomputable def gBX5_deletePoint_50 (h : MS) : Option (MS) :=
(some (h.1 9)).bind fun x1 =>
(some (gpi h 9 (x1 - (1 : Int32)))).bind fun h2 =>
some h2
theorem eBX5_deletePoint_50 {h : jx_H} {q : Nat} {S : MS} : BX5_deletePoint_50 q (bput sK h q S) = (gBX5_deletePoint_50  S).map (bput sK h q) := by
  unfold BX5_deletePoint_50 gBX5_deletePoint_50
  simp only [gx_bs, gx_ms, gx_mn, gx_bn, gx_bm, gx_mb, gx_ite, gx_exL, gx_b2, gx_b2m, gx_b2mm, gx_sl, gx_sr, gx_id, sK_ob, sK_gi0, sK_gi2, sK_gi5, sK_gi9, sK_gr1, sK_gr3, sK_gr4, sK_gr6, sK_gr7, sK_gr8, sK_gr10, sK_gr11, sK_pi0, sK_pi2, sK_pi5, sK_pi9, sK_al1, sK_as1, sK_fl1, sK_al2, sK_as2, sK_fl2, sK_al3, sK_as3, sK_fl3, sK_al4, sK_as4, sK_fl4, sK_al5, sK_as5, sK_fl5, sK_al6, sK_as6, sK_fl6, sK_al7, sK_as7, sK_fl7, sK_al8, sK_as8, sK_fl8]
/-! LX5_deletePoint_2 -/
noncomputable def gLX5_deletePoint_2 (l2 : Int32) (h : MS) : Option ((Int32 × MS) ⊕ (MS)) :=
if l2 < 0 then
 exL (gBX5_deletePoint_50 h)
else
 (some (h.1 9)).bind fun x3 =>
 if (x3 - (1 : Int32)) ≤ l2 then
  exL (gBX5_deletePoint_50 h)
 else
  (gal sK h 7 (l2 + (1 : Int32))).bind fun x6 =>
  (gas sK h 7 l2 x6).bind fun h7 =>
  (gal sK h7 8 (l2 + (1 : Int32))).bind fun x10 =>
  (gas sK h7 8 l2 x10).bind fun h11 =>
  some (.inl ((l2 + (1 : Int32)), h11))
theorem eLX5_deletePoint_2 {h : jx_H} {q : Nat} {S : MS} {l2 : Int32} : LX5_deletePoint_2 q l2 (bput sK h q S) = (gLX5_deletePoint_2 l2 S).map (Sum.map (fun s : Int32 × MS => (s.1, bput sK h q s.2)) (bput sK h q)) := by
  unfold LX5_deletePoint_2 gLX5_deletePoint_2
  simp only [gx_bs, gx_ms, gx_mn, gx_bn, gx_bm, gx_mb, gx_ite, gx_exL, gx_b2, gx_b2m, gx_b2mm, gx_sl, gx_sr, gx_id, eBX5_deletePoint_50, sK_ob, sK_gi0, sK_gi2, sK_gi5, sK_gi9, sK_gr1, sK_gr3, sK_gr4, sK_gr6, sK_gr7, sK_gr8, sK_gr10, sK_gr11, sK_pi0, sK_pi2, sK_pi5, sK_pi9, sK_al1, sK_as1, sK_fl1, sK_al2, sK_as2, sK_fl2, sK_al3, sK_as3, sK_fl3, sK_al4, sK_as4, sK_fl4, sK_al5, sK_as5, sK_fl5, sK_al6, sK_as6, sK_fl6, sK_al7, sK_as7, sK_fl7, sK_al8, sK_as8, sK_fl8]
theorem wLX5_deletePoint_2 {h : jx_H} {q : Nat} {S : MS} {c0 : Int32} : itr (fun s : Int32 × jx_H => LX5_deletePoint_2 q s.1 s.2) (c0, bput sK h q S) = (itr (fun s : Int32 × MS => gLX5_deletePoint_2  s.1 s.2) (c0, S)).map (bput sK h q) :=
  itr_map (φ := (fun s : Int32 × MS => (s.1, bput sK h q s.2))) (ψ := (bput sK h q)) (fun s => eLX5_deletePoint_2) (c0, S)

/-! FX5_deletePoint -/
noncomputable def gFX5_deletePoint (l1 : Int32) (h : MS) : Option (MS) :=
itr (fun s : Int32 × MS => gLX5_deletePoint_2 s.1 s.2) (l1, h)
theorem eFX5_deletePoint {h : jx_H} {q : Nat} {S : MS} {l1 : Int32} : FX5_deletePoint q l1 (bput sK h q S) = (gFX5_deletePoint l1 S).map (bput sK h q) := by
  unfold FX5_deletePoint gFX5_deletePoint
  simp only [gx_bs, gx_ms, gx_mn, gx_bn, gx_bm, gx_mb, gx_ite, gx_exL, gx_b2, gx_b2m, gx_b2mm, gx_sl, gx_sr, gx_id, wLX5_deletePoint_2, sK_ob, sK_gi0, sK_gi2, sK_gi5, sK_gi9, sK_gr1, sK_gr3, sK_gr4, sK_gr6, sK_gr7, sK_gr8, sK_gr10, sK_gr11, sK_pi0, sK_pi2, sK_pi5, sK_pi9, sK_al1, sK_as1, sK_fl1, sK_al2, sK_as2, sK_fl2, sK_al3, sK_as3, sK_fl3, sK_al4, sK_as4, sK_fl4, sK_al5, sK_as5, sK_fl5, sK_al6, sK_as6, sK_fl6, sK_al7, sK_as7, sK_fl7, sK_al8, sK_as8, sK_fl8]
/-! FX7_append -/
noncomputable def gFX7_append (l1 : Int32) (h : MS) : Option (MS) :=
(some (h.1 1)).bind fun x1 =>
if (900 : Int32) ≤ x1 then
 some h
else
 (some (h.1 1)).bind fun x3 =>
 (gas tK h 1 x3 (vp_nar .byte l1)).bind fun h4 =>
 (some (h4.1 1)).bind fun x5 =>
 (some (gpi h4 1 (x5 + (1 : Int32)))).bind fun h6 =>
 some h6
theorem eFX7_append {h : jx_H} {q : Nat} {S : MS} {l1 : Int32} : FX7_append q l1 (bput tK h q S) = (gFX7_append l1 S).map (bput tK h q) := by
  unfold FX7_append gFX7_append
  simp only [gx_bs, gx_ms, gx_mn, gx_bn, gx_bm, gx_mb, gx_ite, gx_exL, gx_b2, gx_b2m, gx_b2mm, gx_sl, gx_sr, gx_id, tK_ob, tK_gi1, tK_gi2, tK_gi3, tK_gi4, tK_gi5, tK_gr0, tK_pi1, tK_pi2, tK_pi3, tK_pi4, tK_pi5, tK_al1, tK_as1]
/-! LX7_isWord_28 -/
noncomputable def gLX7_isWord_28 (l1 : Nat) (l2 : Int32) (h : MS) : Option ((Int32) ⊕ (Int32)) :=
(sl_n l1).bind fun x5 =>
if x5 ≤ l2 then
 exL (some (1 : Int32))
else
 (some (h.1 3)).bind fun x6 =>
 (gFX7_byteAt (x6 + l2) h).bind fun x8 =>
 (sl_c l1 l2).bind fun x9 =>
 if x8 = x9 then
  some (.inl (l2 + (1 : Int32)))
 else
  exL (some (0 : Int32))
theorem eLX7_isWord_28 {h : jx_H} {q : Nat} {S : MS} {l1 : Nat} {l2 : Int32} : LX7_isWord_28 q l1 l2 (bput tK h q S) = gLX7_isWord_28 l1 l2 S := by
  unfold LX7_isWord_28 gLX7_isWord_28
  simp only [gx_bs, gx_ms, gx_mn, gx_bn, gx_bm, gx_mb, gx_ite, gx_exL, gx_b2, gx_b2m, gx_b2mm, gx_sl, gx_sr, gx_id, eFX7_byteAt, tK_ob, tK_gi1, tK_gi2, tK_gi3, tK_gi4, tK_gi5, tK_gr0, tK_pi1, tK_pi2, tK_pi3, tK_pi4, tK_pi5, tK_al1, tK_as1]
/-! FX7_isWord -/
noncomputable def gFX7_isWord (l1 : Nat) (h : MS) : Option (Int32) :=
(some (h.1 2)).bind fun x1 =>
if x1 = (1 : Int32) then
 (some (h.1 4)).bind fun x2 =>
 (some (h.1 3)).bind fun x3 =>
 (sl_n l1).bind fun x4 =>
 if (x2 - x3) = x4 then
  itr (fun s : Int32 => gLX7_isWord_28 l1 s h) (0 : Int32)
 else
  some (0 : Int32)
else
 some (0 : Int32)
theorem eFX7_isWord {h : jx_H} {q : Nat} {S : MS} {l1 : Nat} : FX7_isWord q l1 (bput tK h q S) = gFX7_isWord l1 S := by
  unfold FX7_isWord gFX7_isWord
  simp only [gx_bs, gx_ms, gx_mn, gx_bn, gx_bm, gx_mb, gx_ite, gx_exL, gx_b2, gx_b2m, gx_b2mm, gx_sl, gx_sr, gx_id, eLX7_isWord_28, tK_ob, tK_gi1, tK_gi2, tK_gi3, tK_gi4, tK_gi5, tK_gr0, tK_pi1, tK_pi2, tK_pi3, tK_pi4, tK_pi5, tK_al1, tK_as1]
