/-! calls: undo, save, restore -/
section
variable {h h1 : jx_H} {a : Nat} {c c' : Cf} {d d' : Nat} {U : Nat → Cf} {V : Nat → Option Cf} {cnt : Nat → Int32} {L : Nat} {b : Nat → Nat} {e1 e2 : Int32} {res : Nat → Int32} {M M' S' : MS}
/-- the State is another one, what is derived is forgotten -/
theorem c_back (C : CLS h a c d U V cnt L b e1 e2 res) (s : h1.1 = h.1) (e : ∀ x, x ≠ a + 29 → (x < a + 1 ∨ a + 9 < x) → h1.2 x = h.2 x) (HS1 : bH sK h1 (a + 1) S') (sS1 : STc S' c') (ok' : okC c') (DY : DYN h1 a d' U V) (hd : d' ≤ 8) (oU : ∀ k, k < d' → okC (U k)) : ∃ h2, FX9_forgetDerived a h1 = some h2 ∧ isO h1 a 9 = some () ∧ CLS h2 a c' d' U V cnt L b e1 e2 res ∧ (∀ x, a + 103 ≤ x → x ≤ a + 128 → h2.2 x = h.2 x) ∧ h2.2 (a + 29) = h1.2 (a + 29) := by
  obtain ⟨⟨B, sz⟩, -, ⟨⟨S1, H1⟩, S2, H2⟩, -, -, ec, D, ⟨F, G⟩, P, er, g, eg⟩ := id C
  obtain ⟨⟨kn, df, cc, cr, TO0, -⟩, kz, fd, ds, za, zb, zm, ZO0, -⟩ := D.to
  have B1 : BB h1 a := B.fr (e a (by omega) (by omega))
  obtain ⟨h2, w1, w2, w3, w4, w5⟩ := h_forget (kn := kn) (df := df) (cc := cc) (cr := cr) (kz := kz) (fd := fd) (ds := ds) B1 (by show _ = _; rw [e _ (by omega) (by omega)]; exact TO0) (by show _ = _; rw [e _ (by omega) (by omega)]; exact ZO0)
  have low : ∀ x, x ≠ a + 29 → (x < a + 1 ∨ a + 9 < x) → x ≠ a + 35 → x ≠ a + 68 → h2.2 x = h.2 x := fun x x1 x2 x3 x4 => by rw [w3 x x3 x4, e x x1 x2]
  have up : ∀ {q : Nat} {S : MS}, a + 9 < q → q + 8 < a + 29 → bH sK h q S → bH sK h2 q S := fun {q} _ hq hq2 H => H.same fun x x1 x2 => by
    have x2 : x ≤ q + 8 := x2
    exact low x (by omega) (by omega) (by omega) (by omega)
  refine ⟨h2, w1, B1.ob, ⟨⟨B.fr (low a (by omega) (by omega) (by omega) (by omega)), by omega⟩, ⟨⟨S', HS1.same fun x x1 x2 => ?_, sS1⟩, ok'⟩, ⟨⟨S1, up (by omega) (by omega) H1⟩, S2, up (by omega) (by omega) H2⟩, ⟨hd, oU⟩, DY.fr (fun x hx => w3 x (by omega) (by omega)) (by omega), ?_, D.new w4 w5 (fun x x1 x2 x3 x4 => low x (by omega) (by omega) x3 x4) (fun ft mt => mt.fr (fun x hx => low x (by omega) (by omega) (by omega) (by omega)) (by omega)), ⟨?_, G.same fun x x1 x2 => low x (by omega) (by omega) (by omega) (by omega)⟩, P.fr (fun x hx => low x (by omega) (by omega) (by omega) (by omega)), ?_, g, ?_⟩, fun x x1 x2 => low x (by omega) (by omega) (by omega) (by omega), w3 _ (by omega) (by omega)⟩
  · have x2 : x ≤ a + 1 + 8 := x2
    exact w3 x (by omega) (by omega)
  · rw [low _ (by omega) (by omega) (by omega) (by omega)]; exact ec
  · show _ = _
    rw [low _ (by omega) (by omega) (by omega) (by omega)]; exact F
  · rw [low _ (by omega) (by omega) (by omega) (by omega)]; exact er
  · rw [low _ (by omega) (by omega) (by omega) (by omega)]; exact eg
/-- what is owed after a call without a value -/
def VVT (a : Nat) (P : String → Prop) (e0 : String) (G : jx_H → Option jx_H) (r : jx_H ⊕ (String × jx_H)) : Prop :=
  (∀ E h1, r = .inr (E, h1) → P E) ∧ ∀ (r' : Option Value) (h' : jx_H), ((∃ h1, r = .inl h1 ∧ some (.int 0) = r' ∧ h1 = h') ∨ (∃ E h1 sz, r = .inr (E, h1) ∧ some (.int (jx_cd e0 E)) = r' ∧ h1.1 ≤ sz ∧ h' = (sz, h1.2))) → ∃ (z : Int32), r' = some (.int z) ∧ ∃ (h2 : jx_H) (t : Int32), isO h' (a + 103) 10 = some () ∧ G h' = some h2 ∧ isO h2 (a + 103) 10 = some () ∧ FX10_thrown (a + 103) h2 = some t ∧ t = z ∧ INV a (a + 103) (a + 128) h2
theorem vv_val {P : String → Prop} {e0 : String} {G : jx_H → Option jx_H} {g : MS → Option MS} (eG : ∀ h S, G (bput mK h (a + 103) S) = (g S).map (bput mK h (a + 103))) (O : OUT h1 (a + 128)) (HM : bH mK h1 (a + 103) M) (eg : g M = some M') (t0 : M'.1 0 = nI 0) (C : CLS h1 a c d U V cnt L b e1 e2 res) (R : REF M' c d U V cnt L b e1 e2 res) : VVT a P e0 G (.inl h1) := by
  refine ⟨fun E h' e => (by cases e), ?_⟩
  rintro r' h' (⟨h1', x1, x2, x3⟩ | ⟨E, h1', sz, x1, -⟩)
  · cases x1
    obtain rfl := x3
    obtain ⟨g', eo⟩ := O
    have cell : (bput mK h1 (a + 103) M').2 (a + 128) = some (.inl (.long, 1, .inr (.inl g'))) := by
      rw [bp_else (by show a + 128 < a + 103 ∨ a + 103 + 24 < a + 128; omega)]
      exact eo
    refine ⟨0, x2.symm, bput mK h1 (a + 103) M', 0, mk_ob HM, HM.run (F := G) (by rw [eG, eg, gx_ms]), mk_ob bH.put, ?_, rfl, rfl, rfl, ⟨_, cell⟩, M', c, d, U, V, cnt, L, b, e1, e2, res, bH.put, C.fr (fun x hx => bp_else (by show x < a + 103 ∨ a + 103 + 24 < x; omega)) (Nat.le_refl _), R⟩
    rw [eFX10_thrown]
    unfold gFX10_thrown
    rw [gx_bs, t0, n0]
  · cases x1
theorem vv_thr {P : String → Prop} {e0 E : String} {G : jx_H → Option jx_H} {g : MS → Option MS} {k : Nat} (eG : ∀ h S, G (bput mK h (a + 103) S) = (g S).map (bput mK h (a + 103))) (O : OUT h1 (a + 128)) (HM : bH mK h1 (a + 103) M) (hE : P E) (hk : jx_cd e0 E = nI k) (eg : g M = some M') (t0 : M'.1 0 = nI k) (C : CLS h1 a c d U V cnt L b e1 e2 res) (R : REF M' c d U V cnt L b e1 e2 res) : VVT a P e0 G (.inr (E, h1)) := by
  refine ⟨fun E h' e => by cases e; exact hE, ?_⟩
  rintro r' h' (⟨h1', x1, -⟩ | ⟨E', h1', sz, x1, x2, x3, rfl⟩)
  · cases x1
  · cases x1
    have HM2 : bH mK ((sz, h1.2) : jx_H) (a + 103) M := HM.sz
    obtain ⟨g', eo⟩ := O
    have cell : (bput mK ((sz, h1.2) : jx_H) (a + 103) M').2 (a + 128) = some (.inl (.long, 1, .inr (.inl g'))) := by
      rw [bp_else (by show a + 128 < a + 103 ∨ a + 103 + 24 < a + 128; omega)]
      exact eo
    refine ⟨nI k, by rw [← x2, hk], bput mK ((sz, h1.2) : jx_H) (a + 103) M', nI k, mk_ob HM2, HM2.run (F := G) (by rw [eG, eg, gx_ms]), mk_ob bH.put, ?_, rfl, rfl, rfl, ⟨_, cell⟩, M', c, d, U, V, cnt, L, b, e1, e2, res, bH.put, C.fr (fun x hx => bp_else (by show x < a + 103 ∨ a + 103 + 24 < x; omega)) x3, R⟩
    rw [eFX10_thrown]
    unfold gFX10_thrown
    rw [gx_bs, t0]
theorem save39 {g : jx_H} {fs : Nat → Option Nat} {k q : Nat} {S Q : MS} (B : BB g a) (es : g.2 (a + 28) = some (qs 2 fs)) (hk : k < 2) (hf : fs k = some q) (HS : bH sK g (a + 1) S) (HQ : bH sK g q Q) (ap : apart sK sK (a + 1) q) : BX9_save_39 a (nI k) g = some (.inl (bput sK g q (cpS Q S))) := by
  unfold BX9_save_39
  rw [B.g3, gx_bs, hql_q es hk (by omega), hf, gx_bs, B.g0, gx_bs, oc_s, HQ.o5, gx_bs, s_copyFrom HS HQ ap, gx_bs]
end
section
variable {a m o : Nat}
theorem o_undo : St_undo (INV a m o) a m := by
  rintro h ⟨rfl, rfl, O, M, c, d, U, V, cnt, L, b, e1, e2, res, HM, C, R⟩
  obtain ⟨⟨B, sz⟩, ⟨⟨S, HS, sS⟩, ok⟩, -, ⟨h8, oU⟩, ⟨nx, f, fs, hn, HI, RU, RA, es, SV⟩, -⟩ := id C
  have gd : hgi h (a + 29) 1 2 = some (nI d) := hgi_ob HI.1 rfl
  by_cases h0 : d = 0
  · subst h0
    obtain ⟨v1, v2⟩ := vt_plain (G := FX10_undo (a + 103)) (g := gFX10_undo) (v := m1) (M' := gpi M 0 (nI 0)) (fun h S => eFX10_undo) O HM (m_undo0 R.2.1.1) C R.t0
    refine ⟨m1, h, B.ob, ?_, v1, v2⟩
    unfold FX9_undo
    rw [n0, n1, nm1, B.g4, gx_bs, gd, gx_bs, if_pos rfl]
  · obtain ⟨q, Q, q1, q2, q3⟩ := RU (d - 1) (by omega)
    rw [slot_last hn (by omega) h8] at q1
    have qlo := RA.1 _ q (Nat.mod_lt _ (by omega)) q1
    obtain ⟨h1, k1, k2, k3, k4, k5⟩ := s_bringBack HI hn (by omega) h8 HS q1 q2 (Or.inr (by show a + 1 + 8 < q; omega)) (Or.inr (by omega))
    have oc' : okC (U (d - 1)) := oU (d - 1) (by omega)
    have kf : ∀ x, x ≠ a + 29 → (x < a + 1 ∨ a + 9 < x) → h1.2 x = h.2 x := fun x x1 x2 => k5 x x1 (by omega)
    have DY : DYN h1 a (d - 1) U V := by
      refine ⟨(nx + 7) % 8, f, fs, Nat.mod_lt _ (by omega), k3, fun k hk => ?_, ⟨fun j q hj hq => ?_, RA.2⟩, by rw [kf _ (by omega) (by omega)]; exact es, SV.1, fun k v hk hv => ?_, SV.2.2⟩
      · obtain ⟨q, S, x1, x2, x3⟩ := RU k (by omega)
        refine ⟨q, S, by rw [slot_dn hn (by omega) h8 hk]; exact x1, x2.same fun x y1 _ => ?_, x3⟩
        have := (RA.1 _ q slot_lt x1).2.1
        exact kf x (by omega) (by omega)
      · obtain ⟨⟨T, x1⟩, x2, x3⟩ := RA.1 j q hj hq
        exact ⟨⟨T, x1.same fun x y1 _ => kf x (by omega) (by omega)⟩, x2, by omega⟩
      · obtain ⟨x1, q, S, x2, x3, x4, x5, x6, x7⟩ := SV.2.1 k v hk hv
        exact ⟨x1, q, S, x2, x3.same fun x y1 _ => kf x (by omega) (by omega), x4, x5, by omega, x7⟩
    obtain ⟨h2, w1, w0, C2, w3, w4⟩ := c_back C k2 kf k4 (q3.cp (T := S) oc') oc' DY (by omega) (fun k hk => oU k (by omega))
    have B2 : BB h2 a := C2.B
    have gd2 : hgi h2 (a + 29) 1 2 = some (nI (d - 1)) := hgi_ob (by rw [w4]; exact k3.1) rfl
    obtain ⟨g, u1, u2⟩ := m_undo R.2.1.1 (by omega) h8
    have R2 : REF (((upd (upd M.1 0 (nI 0)) 5 (nI (d - 1)), setA M.2 1 g) : MS)) (U (d - 1)) (d - 1) U V cnt L b e1 e2 res := by
      obtain ⟨x1, ⟨x2, x3⟩, ⟨x4, x5⟩, x6, ⟨x7, x8⟩, ⟨x9, x10⟩, x11⟩ := R
      refine ⟨by rw [mp2, setA_s]; exact (x3 (d - 1) (by omega)).fr oc' fun q hq => u2 q hq, ⟨by rw [mp1, upd_s], fun k hk => by rw [mp2, setA_o (by decide)]; exact x3 k (by omega)⟩, ⟨by rw [mp2, setA_o (by decide)]; exact x4, by rw [mp2, setA_o (by decide), setA_o (by decide)]; exact x5⟩, by rw [mp2, setA_o (by decide)]; exact x6, ⟨⟨x7.1, by rw [mp1, upd_o (by decide), upd_o (by decide)]; exact x7.2.1, by rw [mp2, setA_o (by decide)]; exact x7.2.2⟩, by unfold WD; rw [mp2, setA_o (by decide)]; exact x8⟩, ⟨by rw [mp1, upd_o (by decide), upd_o (by decide)]; exact x9, by rw [mp1, upd_o (by decide), upd_o (by decide)]; exact x10⟩, by rw [mp2, setA_o (by decide)]; exact x11⟩
    obtain ⟨v1, v2⟩ := vt_plain (G := FX10_undo (a + 103)) (g := gFX10_undo) (fun h S => eFX10_undo) (O.keep fun x x1 x2 => w3 x x1 x2) (mkeep HM fun x x1 x2 => w3 x x1 x2) u1 C2 R2
    refine ⟨_, h2, B.ob, ?_, v1, v2⟩
    unfold FX9_undo
    rw [n0, B.g4, gx_bs, gd, gx_bs, if_neg (by rw [nI_eqN (by omega) (by omega)]; exact h0), gx_bs, B.g0, gx_bs, isO_ob HI.1, gx_bs, k1, gx_bs, w0, gx_bs, w1, gx_bs, B2.g4, gx_bs, gd2, gx_bs]
theorem o_restore : St_restore (INV a m o) a m := by
  rintro h x ⟨rfl, rfl, O, M, c, d, U, V, cnt, L, b, e1, e2, res, HM, C, R⟩
  obtain ⟨⟨B, sz⟩, ⟨⟨S, HS, sS⟩, ok⟩, -, ⟨h8, oU⟩, ⟨nx, f, fs, hn, HI, RU, RA, es, SV⟩, -⟩ := id C
  by_cases ho : outB x 1 = false
  · obtain ⟨k, hk, rfl⟩ := outB_f (by omega) ho
    have hl := hql_q es (show k < 2 by omega) (by omega)
    cases hv : V k with
    | none =>
      rw [SV.1 k (by omega) hv] at hl
      have r6 := R.2.2.1.1 k (by omega) hv
      refine ⟨.inr ("java/lang/IllegalStateException", h), ?_, B.ob, vv_thr (G := FX10_restore (a + 103) (nI k)) (g := gFX10_restore (nI k)) (M' := gpi M 0 (nI 2)) (k := 2) (fun h S => eFX10_restore) O HM (Or.inr rfl) (cd2 (by decide)) ?_ (by rw [gpi_1, upd_s]) C R.t0⟩
      · unfold FX9_restore
        rw [n0, n2, if_neg (by rw [nI_lt0 (by omega)]; exact id), if_pos (by rw [nI_ltN (by omega) (by omega)]; omega), B.g3, gx_bs, hl, gx_bs, oc_n]
      · unfold gFX10_restore gBX10_restore_28
        rw [n0, n1, m_in, gx_bs, ho, if_neg (by rw [bI_0]; decide), mK_a6 (by omega), gx_bs, r6, if_pos rfl, gx_bs, gpi_1, n2, upd_s, gx_bs, if_neg (by rw [nI_leN (by omega) (by omega)]; omega)]
    | some v =>
      obtain ⟨ov, q, Q, y2, y3, y4, y5, y6, y7⟩ := SV.2.1 k v (by omega) hv
      obtain ⟨r6, r5⟩ := R.2.2.1.2 k v (by omega) hv
      rw [y2] at hl
      have cp := s_copyFrom y3 HS (Or.inr (by show a + 1 + 8 < q; omega))
      have HI1 : (bput sK h (a + 1) (cpS S Q)).2 (a + 29) = some (.inr (1, hisO (a + 29) nx d)) := by rw [bp_else (by show a + 29 < a + 1 ∨ a + 1 + 8 < a + 29; omega)]; exact HI.1
      have p2 : hp (bput sK h (a + 1) (cpS S Q)) (a + 29) 1 2 (.int (nI 0)) = some ((bput sK h (a + 1) (cpS S Q)).1, jx_up (bput sK h (a + 1) (cpS S Q)).2 (a + 29) (.inr (1, hisO (a + 29) nx 0))) := hp_ob HI1 (Nat.le_of_ble_eq_true rfl)
      obtain ⟨h1, hh1⟩ : ∃ h1 : jx_H, h1 = ((bput sK h (a + 1) (cpS S Q)).1, jx_up (bput sK h (a + 1) (cpS S Q)).2 (a + 29) (.inr (1, hisO (a + 29) nx 0))) := ⟨_, rfl⟩
      have kf : ∀ x, x ≠ a + 29 → (x < a + 1 ∨ a + 9 < x) → h1.2 x = h.2 x := fun x x1 x2 => by
        rw [hh1]
        show jx_up _ (a + 29) _ x = _
        rw [up_o x1, bp_else (by show x < a + 1 ∨ a + 1 + 8 < x; omega)]
      have HS1 : bH sK h1 (a + 1) (cpS S Q) := (bH.put (K := sK) (h := h) (q := a + 1) (S := cpS S Q)).same fun x x1 x2 => by
        have x2 : x ≤ a + 1 + 8 := x2
        rw [hh1]
        exact up_o (by omega)
      have DY : DYN h1 a 0 U V := by
        refine ⟨nx, f, fs, hn, ⟨by rw [hh1]; exact up_s, by rw [kf _ (by omega) (by omega)]; exact HI.2⟩, fun k hk => by omega, ⟨fun j q hj hq => ?_, RA.2⟩, by rw [kf _ (by omega) (by omega)]; exact es, SV.1, fun k v hk hv => ?_, SV.2.2⟩
        · obtain ⟨⟨T, x1⟩, x2, x3⟩ := RA.1 j q hj hq
          exact ⟨⟨T, x1.same fun x y1 _ => kf x (by omega) (by omega)⟩, x2, by rw [hh1]; exact x3⟩
        · obtain ⟨x1, q, S, x2, x3, x4, x5, x6, x7⟩ := SV.2.1 k v hk hv
          exact ⟨x1, q, S, x2, x3.same fun x y1 _ => kf x (by omega) (by omega), x4, x5, by rw [hh1]; exact x6, x7⟩
      obtain ⟨h2, w1, w0, C2, w3, w4⟩ := c_back C (by rw [hh1]; rfl) kf HS1 (y4.cp (T := S) ov) ov DY (by omega) (fun k hk => by omega)
      obtain ⟨g, u1, u2⟩ := m_restore (S := M) (k := k) hk (fun z => by rw [r6, nI_eqN (by omega) (by omega)] at z; omega)
      have Bc : BB (bput sK h (a + 1) (cpS S Q)) a := B.fr (bp_else (by show a < a + 1 ∨ a + 1 + 8 < a; omega))
      refine ⟨.inl h2, ?_, B.ob, vv_val (G := FX10_restore (a + 103) (nI k)) (g := gFX10_restore (nI k)) (fun h S => eFX10_restore) (O.keep fun x x1 x2 => w3 x x1 x2) (mkeep HM fun x x1 x2 => w3 x x1 x2) u1 (by rw [mp1, upd_o (by decide), upd_s]) C2 ?_⟩
      · unfold FX9_restore
        rw [n0, n2, if_neg (by rw [nI_lt0 (by omega)]; exact id), if_pos (by rw [nI_ltN (by omega) (by omega)]; omega), B.g3, gx_bs, hl, gx_bs, oc_s, B.g0, gx_bs, gx_bs, hl, gx_bs, oc_s, HS.o5, gx_bs, cp, gx_bs, Bc.g4, gx_bs, p2, gx_bs, ← hh1, w0, gx_bs, w1, gx_bs]
      · obtain ⟨x1, ⟨x2, x3⟩, ⟨x4, x5⟩, x6, ⟨x7, x8⟩, ⟨x9, x10⟩, x11⟩ := R
        exact ⟨by rw [mp2, setA_s]; exact r5.fr ov fun q hq => u2 q hq, ⟨by rw [mp1, upd_s], fun k hk => by omega⟩, ⟨by rw [mp2, setA_o (by decide)]; exact x4, by rw [mp2, setA_o (by decide), setA_o (by decide)]; exact x5⟩, by rw [mp2, setA_o (by decide)]; exact x6, ⟨⟨x7.1, by rw [mp1, upd_o (by decide), upd_o (by decide)]; exact x7.2.1, by rw [mp2, setA_o (by decide)]; exact x7.2.2⟩, by unfold WD; rw [mp2, setA_o (by decide)]; exact x8⟩, ⟨by rw [mp1, upd_o (by decide), upd_o (by decide)]; exact x9, by rw [mp1, upd_o (by decide), upd_o (by decide)]; exact x10⟩, by rw [mp2, setA_o (by decide)]; exact x11⟩
  · have ho' : outB x 1 = true := by simpa using ho
    refine ⟨.inr ("java/lang/IllegalArgumentException", h), ?_, B.ob, vv_thr (G := FX10_restore (a + 103) x) (g := gFX10_restore x) (M' := gpi M 0 (nI 1)) (k := 1) (fun h S => eFX10_restore) O HM (Or.inl rfl) cd1 ?_ (by rw [gpi_1, upd_s]) C R.t0⟩
    · unfold FX9_restore BX9_restore_9
      rcases i_cases x with hx | ⟨k, hk, rfl⟩
      · rw [n0, if_pos hx]
      · rw [outB_k hk (by omega)] at ho'
        have := of_decide_eq_true ho'
        rw [n0, n2, if_neg (by rw [nI_lt0 (by omega)]; exact id), if_neg (by rw [nI_ltN (by omega) (by omega)]; omega)]
    · unfold gFX10_restore gBX10_restore_28
      rw [n0, n1, m_in, gx_bs, ho', if_pos (by rw [bI_0]; rfl), gx_bs, gpi_1, upd_s, gx_bs, if_neg (by rw [nI_leN (by omega) (by omega)]; omega)]
theorem nar_1 : vp_nar .boolean (1 : Int32) = nI 1 := by
  have k := nar_b true
  rw [show bI true = nI 1 from rfl, ← n1] at k
  rw [k, n1]
def vup (V : Nat → Option Cf) (k : Nat) (c : Cf) : Nat → Option Cf := fun j => if j = k then some c else V j
theorem vup_p {V : Nat → Option Cf} {k j : Nat} {c : Cf} (e : j = k) : vup V k c j = some c := if_pos e
theorem vup_n {V : Nat → Option Cf} {k j : Nat} {c : Cf} (e : ¬ j = k) : vup V k c j = V j := if_neg e
theorem o_save : St_save (INV a m o) a m := by
  rintro h x ⟨rfl, rfl, O, M, c, d, U, V, cnt, L, b, e1, e2, res, HM, C, R⟩
  obtain ⟨⟨B, sz⟩, ⟨⟨S, HS, sS⟩, ok⟩, ⟨⟨S1, H1⟩, S2, H2⟩, ⟨h8, oU⟩, ⟨nx, f, fs, hn, HI, RU, RA, es, SV⟩, ec, D, ⟨F, G⟩, P, er, g0, eg⟩ := id C
  by_cases ho : outB x 1 = false
  · obtain ⟨k, hk, rfl⟩ := outB_f (by omega) ho
    have fsV : ∀ j q, j < 2 → fs j = some q → ∃ v Q, V j = some v ∧ bH sK h q Q ∧ a + 128 < q ∧ q + 8 < h.1 ∧ ∀ i, i < 8 → f i ≠ some q := fun j q hj hq => by
      cases hv : V j with
      | none =>
        rw [SV.1 j hj hv] at hq
        cases hq
      | some v =>
        obtain ⟨x1, q', Q, x2, x3, x4, x5, x6, x7⟩ := SV.2.1 j v hj hv
        rw [hq] at x2
        cases x2
        exact ⟨v, Q, rfl, x3, x5, x6, x7⟩
    have fin : ∀ (h' : jx_H) (fs' : Nat → Option Nat) (q : Nat) (Q : MS), (∀ x, x ≤ a + 128 → x ≠ a + 28 → h'.2 x = h.2 x) → h.1 ≤ h'.1 → h'.2 (a + 28) = some (qs 2 fs') → (∀ q' S', a + 128 < q' → q' + 8 < h.1 → q' ≠ q → bH sK h q' S' → bH sK h' q' S') → (∀ q', a + 128 < q' → q' + 2 < h.1 → SH h q' 12 12 → SH h' q' 12 12) → bH sK h' q Q → STc Q c → a + 128 < q → q + 8 < h'.1 → (∀ j, j < 8 → f j ≠ some q) → fs' k = some q → (∀ j, j < 2 → j ≠ k → fs' j = fs j ∧ fs j ≠ some q) → CLS h' a c d U (vup V k c) cnt L b e1 e2 res := by
      intro h' fs' q Q low s es' kS kM HQ sQ q1 q2 q3 q4 q5
      have up : ∀ {q : Nat} {S : MS}, q + 8 < a + 28 → bH sK h q S → bH sK h' q S := fun {q} _ hq H => H.same fun x x1 x2 => by
        have x2 : x ≤ q + 8 := x2
        exact low x (by omega) (by omega)
      obtain ⟨ds, ft, T, X, ⟨P0, hP⟩, Z, hds, e15, MA⟩ := D
      refine ⟨⟨B.fr (low a (by omega) (by omega)), by omega⟩, ⟨⟨S, up (by omega) HS, sS⟩, ok⟩, ⟨⟨S1, up (by omega) H1⟩, S2, up (by omega) H2⟩, ⟨h8, oU⟩, ⟨nx, f, fs', hn, ⟨by rw [low _ (by omega) (by omega)]; exact HI.1, by rw [low _ (by omega) (by omega)]; exact HI.2⟩, fun i hi => ?_, ⟨fun j q' hj hq => ?_, RA.2⟩, es', fun j hj hv => ?_, fun j v hj hv => ?_, fun q' hq => ?_⟩, by rw [low _ (by omega) (by omega)]; exact ec, ⟨ds, ft, T.same fun x _ _ => low x (by omega) (by omega), X.same fun x _ _ => low x (by omega) (by omega), ⟨P0, hP.same fun x x1 x2 => by have x2 : x ≤ a + 32 + 2 := x2; exact low x (by omega) (by omega)⟩, Z.same fun x _ _ => low x (by omega) (by omega), hds, by rw [low _ (by omega) (by omega)]; exact e15, ⟨fun j q' hj hq => ?_, MA.2⟩⟩, ⟨by show _ = _; rw [low _ (by omega) (by omega)]; exact F, G.same fun x x1 x2 => low x (by omega) (by omega)⟩, P.fr (fun x hx => low x (by omega) (by omega)), by rw [low _ (by omega) (by omega)]; exact er, g0, by rw [low _ (by omega) (by omega)]; exact eg⟩
      · obtain ⟨q', Q', x1, x2, x3⟩ := RU i hi
        have y := RA.1 _ q' slot_lt x1
        exact ⟨q', Q', x1, kS q' Q' y.2.1 y.2.2 (fun z => q3 _ slot_lt (by rw [← z]; exact x1)) x2, x3⟩
      · obtain ⟨⟨T', x1⟩, x2, x3⟩ := RA.1 j q' hj hq
        exact ⟨⟨T', kS q' T' x2 x3 (fun z => q3 j hj (by rw [← z]; exact hq)) x1⟩, x2, by omega⟩
      · by_cases e : j = k
        · rw [vup_p e] at hv; cases hv
        · rw [vup_n e] at hv
          rw [(q5 j hj e).1]
          exact SV.1 j hj hv
      · by_cases e : j = k
        · rw [vup_p e] at hv
          cases hv
          exact ⟨ok, q, Q, by rw [e]; exact q4, HQ, sQ, q1, q2, q3⟩
        · rw [vup_n e] at hv
          obtain ⟨x1, q', Q', x2, x3, x4, x5, x6, x7⟩ := SV.2.1 j v hj hv
          exact ⟨x1, q', Q', by rw [(q5 j hj e).1]; exact x2, kS q' Q' x5 x6 (fun z => (q5 j hj e).2 (by rw [← z]; exact x2)) x3, x4, x5, by omega, x7⟩
      · by_cases e : k = 0
        · subst e
          rw [q4] at hq
          cases hq
          rw [(q5 1 (by omega) (by omega)).1]
          exact (q5 1 (by omega) (by omega)).2
        · obtain rfl : k = 1 := by omega
          rw [(q5 0 (by omega) (by omega)).1] at hq
          rw [q4]
          intro z
          cases z
          exact (q5 0 (by omega) (by omega)).2 hq
      · obtain ⟨x1, x2, x3⟩ := MA.1 j q' hj hq
        exact ⟨kM q' x2 x3 x1, x2, by omega⟩
    obtain ⟨g, u1, u2, u3⟩ := m_save (S := M) (k := k) hk
    have R2 : REF (((upd M.1 0 (nI 0), setA (setA M.2 5 g) 6 (upd (M.2 6) k (vp_nar .boolean (1 : Int32)))) : MS)) c d U (vup V k c) cnt L b e1 e2 res := by
      obtain ⟨x1, ⟨x2, x3⟩, ⟨x4, x5⟩, x6, ⟨x7, x8⟩, ⟨x9, x10⟩, x11⟩ := id R
      refine ⟨by rw [mp2, setA_o (by decide), setA_o (by decide)]; exact x1, ⟨by rw [mp1, upd_o (by decide)]; exact x2, by rw [mp2, setA_o (by decide), setA_o (by decide)]; exact x3⟩, ⟨fun j hj hv => ?_, fun j v hj hv => ?_⟩, by rw [mp2, setA_o (by decide), setA_o (by decide)]; exact x6, ⟨⟨x7.1, by rw [mp1, upd_o (by decide)]; exact x7.2.1, by rw [mp2, setA_o (by decide), setA_o (by decide)]; exact x7.2.2⟩, by unfold WD; rw [mp2, setA_o (by decide), setA_o (by decide)]; exact x8⟩, ⟨by rw [mp1, upd_o (by decide)]; exact x9, by rw [mp1, upd_o (by decide)]; exact x10⟩, by rw [mp2, setA_o (by decide), setA_o (by decide)]; exact x11⟩
      · by_cases e : j = k
        · rw [vup_p e] at hv; cases hv
        · rw [vup_n e] at hv
          rw [mp2, setA_s, upd_o e]
          exact x4 j hj hv
      · rw [mp2, setA_s, setA_o (by decide), setA_s]
        by_cases e : j = k
        · rw [vup_p e] at hv
          cases hv
          rw [e, upd_s]
          exact ⟨nar_1, x1.fr ok fun q hq => u2 q hq⟩
        · rw [vup_n e] at hv
          rw [upd_o e]
          obtain ⟨y1, y2⟩ := x5 j v hj hv
          refine ⟨y1, y2.fr (SV.2.1 j v hj hv).1 fun q hq => u3 _ ?_⟩
          omega
    have hl := hql_q es (show k < 2 by omega) (by omega)
    cases hf : fs k with
    | some q =>
      rw [hf] at hl
      obtain ⟨v, Q, hv, HQ, y1, y2, y3⟩ := fsV k q (by omega) hf
      have sv := save39 B es (show k < 2 by omega) hf HS HQ (Or.inl (by show a + 1 + 8 < q; omega))
      have fr : ∀ x, (x < q ∨ q + 8 < x) → (bput sK h q (cpS Q S)).2 x = h.2 x := fun x hx => bp_else (by show x < q ∨ q + 8 < x; omega)
      refine ⟨.inl (bput sK h q (cpS Q S)), ?_, B.ob, vv_val (G := FX10_save (a + 103) (nI k)) (g := gFX10_save (nI k)) (fun h S => eFX10_save) (O.keep fun x x1 x2 => fr x (by omega)) (mkeep HM fun x x1 x2 => fr x (by omega)) u1 (by rw [mp1, upd_s]) (fin _ fs q (cpS Q S) (fun x x1 x2 => fr x (by omega)) (Nat.le_refl _) (by rw [fr _ (by omega)]; exact es) (fun q' S' z1 z2 z3 H => ?_) (fun q' z1 z2 H => ?_) bH.put (sS.cp ok) y1 y2 y3 hf (fun j hj hne => ⟨rfl, fun z => ?_⟩)) R2⟩
      · unfold FX9_save
        rw [n0, n2, if_neg (by rw [nI_lt0 (by omega)]; exact id), if_pos (by rw [nI_ltN (by omega) (by omega)]; omega), B.g3, gx_bs, hl, gx_bs, oc_s, sv]
      · exact H.fr (st_st H HQ z3)
      · have := mt_off HQ H
        exact H.same fun x x1 x2 => fr x (by omega)
      · by_cases e : k = 0
        · subst e
          obtain rfl : j = 1 := by omega
          exact SV.2.2 q hf z
        · obtain rfl : k = 1 := by omega
          obtain rfl : j = 0 := by omega
          exact SV.2.2 q z hf
    | none =>
      rw [hf] at hl
      obtain ⟨T, eT, -⟩ := s_new (h := h)
      have g1 : (bput sK (h.1 + 9, h.2) h.1 T).2 (a + 28) = some (qs 2 fs) := by rw [bp_else (K := sK) (by show a + 28 < h.1 ∨ h.1 + 8 < a + 28; omega)]; exact es
      have hq2 := hqs_q g1 (show k < 2 by omega) (by omega) (sK_ob (h := (h.1 + 9, h.2)) (q := h.1) (S := T))
      obtain ⟨h2, hh2⟩ : ∃ h2 : jx_H, h2 = ((bput sK (h.1 + 9, h.2) h.1 T).1, jx_up (bput sK (h.1 + 9, h.2) h.1 T).2 (a + 28) (qs 2 (va_up fs k (some h.1)))) := ⟨_, rfl⟩
      have fr2 : ∀ x, x < h.1 → x ≠ a + 28 → h2.2 x = h.2 x := fun x x1 x2 => by
        rw [hh2]
        show jx_up _ (a + 28) _ x = _
        rw [up_o x2, bp_else (K := sK) (Or.inl x1)]
      have e28 : h2.2 (a + 28) = some (qs 2 (va_up fs k (some h.1))) := by rw [hh2]; exact up_s
      have HT : bH sK h2 h.1 T := (bH.put (K := sK) (h := (h.1 + 9, h.2)) (q := h.1) (S := T)).same fun x x1 x2 => by
        rw [hh2]
        exact up_o (by omega)
      have HS2 : bH sK h2 (a + 1) S := HS.same fun x x1 x2 => by have x2 : x ≤ a + 1 + 8 := x2; exact fr2 x (by omega) (by omega)
      have B2 : BB h2 a := B.fr (fr2 a (by omega) (by omega))
      have vk : va_up fs k (some h.1) k = some h.1 := by unfold va_up; rw [if_pos rfl]
      have vo : ∀ j, j ≠ k → va_up fs k (some h.1) j = fs j := fun j hj => by unfold va_up; rw [if_neg hj]
      have sv := save39 B2 e28 (show k < 2 by omega) vk HS2 HT (Or.inl (by show a + 1 + 8 < h.1; omega))
      have fr : ∀ x, x < h.1 → x ≠ a + 28 → (bput sK h2 h.1 (cpS T S)).2 x = h.2 x := fun x x1 x2 => by rw [bp_else (K := sK) (Or.inl x1), fr2 x x1 x2]
      have s2 : (bput sK h2 h.1 (cpS T S)).1 = h.1 + 9 := by rw [hh2]; rfl
      refine ⟨.inl (bput sK h2 h.1 (cpS T S)), ?_, B.ob, vv_val (G := FX10_save (a + 103) (nI k)) (g := gFX10_save (nI k)) (fun h S => eFX10_save) (O.keep fun x x1 x2 => fr x (by omega) (by omega)) (mkeep HM fun x x1 x2 => fr x (by omega) (by omega)) u1 (by rw [mp1, upd_s]) (fin _ (va_up fs k (some h.1)) h.1 (cpS T S) (fun x x1 x2 => fr x (by omega) x2) (by omega) (by rw [bp_else (K := sK) (Or.inl (by omega))]; exact e28) (fun q' S' z1 z2 z3 H => H.same fun x x1 x2 => ?_) (fun q' z1 z2 H => H.same fun x x1 x2 => fr x (by omega) (by omega)) bH.put (sS.cp ok) sz (by omega) (fun j hj z => ?_) vk (fun j hj hne => ⟨vo j hne, fun z => ?_⟩)) R2⟩
      · unfold FX9_save
        rw [n0, n2, if_neg (by rw [nI_lt0 (by omega)]; exact id), if_pos (by rw [nI_ltN (by omega) (by omega)]; omega), B.g3, gx_bs, hl, gx_bs, oc_n, gx_bs]
        show ((some (hno h 5 fsX5)).bind fun h11 => (FX5_init h.1 h11).bind fun h12 => (hqs h12 "BorderBasis$State" 5 (a + 28) (nI k) h.1).bind fun h13 => BX9_save_39 a (nI k) h13) = _
        rw [gx_bs, eT, gx_bs, hq2, gx_bs, ← hh2, sv]
      · have x2 : x ≤ q' + 8 := x2
        exact fr x (by omega) (by omega)
      · have := (RA.1 j h.1 hj z).2.2
        omega
      · obtain ⟨v, Q, -, -, -, y2, -⟩ := fsV j h.1 hj z
        omega
  · have ho' : outB x 1 = true := by simpa using ho
    refine ⟨.inr ("java/lang/IllegalArgumentException", h), ?_, B.ob, vv_thr (G := FX10_save (a + 103) x) (g := gFX10_save x) (M' := gpi M 0 (nI 1)) (k := 1) (fun h S => eFX10_save) O HM rfl cd1 ?_ (by rw [gpi_1, upd_s]) C R.t0⟩
    · unfold FX9_save BX9_save_9
      rcases i_cases x with hx | ⟨k, hk, rfl⟩
      · rw [n0, if_pos hx]
      · rw [outB_k hk (by omega)] at ho'
        have := of_decide_eq_true ho'
        rw [n0, n2, if_neg (by rw [nI_lt0 (by omega)]; exact id), if_neg (by rw [nI_ltN (by omega) (by omega)]; omega)]
    · unfold gFX10_save gBX10_save_15
      rw [n0, n1, m_in, gx_bs, ho', if_pos (by rw [bI_0]; rfl), gx_bs, gpi_1, upd_s, gx_bs, if_neg (by rw [nI_leN (by omega) (by omega)]; omega)]
end
