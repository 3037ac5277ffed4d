/-! the parser: prime, join and point, on both sides -/
/-- what a statement may change -/
def sch (h h' : jx_H) (a : Nat) : Prop := h'.1 = h.1 ∧ ∀ x, (x < a + 10 ∨ a + 18 < x) → (x < a + 88 ∨ a + 99 < x) → h'.2 x = h.2 x
def srch (S S' : MS) : Prop := (∀ q, ¬ (11 ≤ q ∧ q ≤ 19) → S'.1 q = S.1 q) ∧ ∀ j, j ≠ 1 → j ≠ 3 → S'.2 j = S.2 j
theorem sch.rf {h : jx_H} {a : Nat} : sch h h a := ⟨rfl, fun _ _ _ => rfl⟩
theorem sch.tr {h h1 h2 : jx_H} {a : Nat} (x : sch h h1 a) (y : sch h1 h2 a) : sch h h2 a := ⟨y.1.trans x.1, fun q a1 a2 => (y.2 q a1 a2).trans (x.2 q a1 a2)⟩
theorem tch.s {h h' : jx_H} {a : Nat} (x : tch h h' a) : sch h h' a := ⟨x.1, fun q a1 a2 => x.2 q (by omega) (by omega) (by omega)⟩
theorem srch.rf {S : MS} : srch S S := ⟨fun _ _ => rfl, fun _ _ _ => rfl⟩
theorem srch.tr {S T U : MS} (x : srch S T) (y : srch T U) : srch S U := ⟨fun q h => (y.1 q h).trans (x.1 q h), fun j a b => (y.2 j a b).trans (x.2 j a b)⟩
theorem rch.s {S S' : MS} (x : rch S S') : srch S S' := ⟨x.2, fun j _ _ => by rw [x.1]⟩
/-- both sides stand in one setup -/
def SIM (h : jx_H) (S : MS) (a : Nat) (F : Nat → Int32) (L : Nat) (b : Nat → Nat) (t : Tok) (c : Cf) : Prop := TKR h S a F L b t ∧ (∃ U, bH sK h (a + 91) U ∧ STc U c) ∧ (∃ W, bH sK h (a + 10) W) ∧ RCc (S.2 1) c ∧ okC c
def stB (h : jx_H) (a : Nat) : Prop := (∃ U, bH sK h (a + 91) U) ∧ ∃ W, bH sK h (a + 10) W
def stOK (h h' : jx_H) (S S' : MS) (a L : Nat) (b : Nat → Nat) (t : Tok) : Prop := ∃ F' t' c', sch h h' a ∧ srch S S' ∧ SIM h' S' a F' L b t' c' ∧ t.2.1 + 1 ≤ t'.2.1
def stER (h h' : jx_H) (S S' : MS) (a L : Nat) (b : Nat → Nat) : Prop := sch h h' a ∧ srch S S' ∧ ERR h' S' a L b ∧ stB h' a
theorem stB.t {h h' : jx_H} {a : Nat} (B : stB h a) (x : tch h h' a) : stB h' a := by
  obtain ⟨⟨U, hU⟩, W, hW⟩ := B
  exact ⟨⟨U, hU.same fun q q1 q2 => by have q2 : q ≤ a + 91 + 8 := q2; exact x.2 q (by omega) (by omega) (by omega)⟩, W, hW.same fun q q1 q2 => by have q2 : q ≤ a + 10 + 8 := q2; exact x.2 q (by omega) (by omega) (by omega)⟩
theorem SIM.b {h : jx_H} {S : MS} {a L : Nat} {F : Nat → Int32} {b : Nat → Nat} {t : Tok} {c : Cf} (R : SIM h S a F L b t c) : stB h a := ⟨⟨_, R.2.1.choose_spec.1⟩, R.2.2.1⟩
/-- tokens were read, the setup is the same -/
theorem SIM.t {h h' : jx_H} {S S' : MS} {a L : Nat} {F F' : Nat → Int32} {b : Nat → Nat} {t t' : Tok} {c : Cf} (R : SIM h S a F L b t c) (x : tch h h' a) (y : rch S S') (k : TKR h' S' a F' L b t') : SIM h' S' a F' L b t' c := by
  obtain ⟨-, ⟨U, hU, sU⟩, ⟨W, hW⟩, rc, oc'⟩ := R
  exact ⟨k, ⟨U, hU.same fun q q1 q2 => by have q2 : q ≤ a + 91 + 8 := q2; exact x.2 q (by omega) (by omega) (by omega), sU⟩, ⟨W, hW.same fun q q1 q2 => by have q2 : q ≤ a + 10 + 8 := q2; exact x.2 q (by omega) (by omega) (by omega)⟩, by rw [y.1]; exact rc, oc'⟩
theorem gb {α β : Type} {o : Option α} {x : α} {f : α → Option β} (e : o = some x) : o.bind f = f x := by rw [e, gx_bs]
/-- a text and its tokens after a change of the setup on both sides -/
theorem TKR.fr {h h' : jx_H} {S S' : MS} {a L : Nat} {F : Nat → Int32} {b : Nat → Nat} {t : Tok} (R : TKR h S a F L b t) (e : ∀ x, a + 88 ≤ x → x ≤ a + 90 → h'.2 x = h.2 x) (e1 : S'.1 = S.1) (e8 : S'.2 8 = S.2 8) (e9 : S'.2 9 = S.2 9) : TKR h' S' a F L b t := by
  obtain ⟨P, ⟨T, HT, H, hN⟩, ok, Hr, W, hr, he, e16, f4, f5⟩ := R
  refine ⟨P.fr (e _ (by omega) (by omega)), ⟨T, HT.same fun x x1 x2 => by have x2 : x ≤ a + 88 + 1 := x2; exact e x (by omega) (by omega), H, hN⟩, ok, ⟨Hr.1, by rw [e1]; exact Hr.2.1, by rw [e8]; exact Hr.2.2⟩, by unfold WD; rw [e9]; exact W, by unfold rNow; rw [e1]; exact hr, by rw [e1]; exact he, by rw [e1]; exact e16, f4, f5⟩
theorem rb_bd {M0 B0 M B : List (Nat × Nat)} {r0 : Nat → Nat → Nat} {p : Nat} (h0 : 0 < p) (hr : ∀ b k, b < B0.length → k < M0.length → r0 b k < p) (b k : Nat) : rb M0 B0 r0 M B b k < p := by
  unfold rb
  split
  · rename_i hc
    refine hr _ _ ?_ ?_
    · first | exact List.idxOf_lt_length_of_mem hc.1 | exact List.idxOf_lt_length_of_mem hc.2
    · first | exact List.idxOf_lt_length_of_mem hc.2 | exact List.idxOf_lt_length_of_mem hc.1
  · exact h0
theorem okC.up {c : Cf} (o : okC c) {i v : Nat} (w : wfh (uph c.2.1 i v)) : okC (c.1, uph c.2.1 i v, rbh c.2.1 c.2.2.1 (uph c.2.1 i v), c.2.2.2) := ⟨o.1, w, fun b k _ _ => rb_bd (by have := prs_b c.1 o.1; omega) o.2.2.1 b k, o.2.2.2⟩
section
variable {h : jx_H} {S : MS} {a L : Nat} {F : Nat → Int32} {b : Nat → Nat} {t : Tok} {c : Cf}
/-- an error of the class at a number, of the reference at the same place -/
theorem err2 {h : jx_H} {S : MS} {F : Nat → Int32} {c p : Nat} (P : PO h a F) (HT : ∃ T, bH tK h (a + 88) T ∧ cTx T L b) (he : S.1 15 = nI 0) (hs : S.1 12 = nI p) (hp : p ≤ L) (h1 : 1 ≤ c) (h5 : c ≤ 5) : ∃ h', FX3_fail (a + 90) (nI c) (nI p) h = some (nI 0, h') ∧ tch h h' a ∧ gFX10_must (nI 0) (nI c) S = some (gpi (gpi S 15 (nI c)) 16 (nI p)) ∧ rch S (gpi (gpi S 15 (nI c)) 16 (nI p)) ∧ ERR h' (gpi (gpi S 15 (nI c)) 16 (nI p)) a L b := by
  obtain ⟨T, HT, H⟩ := HT
  obtain ⟨h', f1, f2, f3, f4⟩ := c_fail P (c := nI c) (p := nI p)
  exact ⟨h', f1, f3, m_must0 he hs, ⟨by rw [gpi_2, gpi_2], fun q hq => by rw [gpi_1, gpi_1, upd_o (by omega), upd_o (by omega)]⟩, _, c, p, f2, ⟨T, f4 HT, H⟩, h1, h5, hp, by rw [upd_o (by decide), upd_s], by rw [upd_s], by rw [gpi_1, gpi_1, upd_o (by decide), upd_s], by rw [gpi_1, upd_s]⟩
/-- a setup's State changes: what must be said of it -/
theorem SIM.mk2 {h' : jx_H} {S' : MS} {U' W' : MS} {c' : Cf} (R : SIM h S a F L b t c) (e : ∀ x, (x < a + 10 ∨ a + 18 < x) → (x < a + 91 ∨ a + 99 < x) → h'.2 x = h.2 x) (hU : bH sK h' (a + 91) U') (sU : STc U' c') (hW : bH sK h' (a + 10) W') (e1 : S'.1 = S.1) (er : ∀ j, j ≠ 1 → j ≠ 3 → S'.2 j = S.2 j) (rc : RCc (S'.2 1) c') (oc' : okC c') : SIM h' S' a F L b t c' := ⟨R.1.fr (fun x x1 x2 => e x (by omega) (by omega)) e1 (er 8 (by decide) (by decide)) (er 9 (by decide) (by decide)), ⟨U', hU, sU⟩, ⟨W', hW⟩, rc, oc'⟩
theorem both_join (R : SIM h S a F L b t c) (hn : (Lm c.2.1).length < 12) (ht0 : t.1 ≠ 0) :
    (∃ h' S', FX3_readJoin (a + 90) h = some (nI 1, h') ∧ (gFX10_goesOn S).bind gFX10_readJoin = some S' ∧ stOK h h' S S' a L b t) ∨ (∃ h' S', FX3_readJoin (a + 90) h = some (nI 0, h') ∧ (gFX10_goesOn S).bind gFX10_readJoin = some S' ∧ stER h h' S S' a L b) := by
  obtain ⟨K, ⟨U, hU, sU⟩, ⟨W, hW⟩, rc, oc'⟩ := id R
  have pb := prs_b c.1 oc'.1
  have w := oc'.2.1
  have lm := oc'.2.2.2.1
  have l := Lm_len w
  obtain ⟨h1, S1, a1, a2, a3, a4, a5, a6⟩ := both_next K
  have R1 := R.t a2 a4 a5
  have adv0 : t.2.1 + 1 ≤ (lexAt b L t.2.2.1).2.1 := by
    have := lex_adv (b := b) (L := L) K.2.2.1.2.1
    have := K.2.2.1.2.2.2.1 ht0
    omega
  have g2 : hgi h (a + 91) 5 2 = some (nI (Lm c.2.1).length) := by rw [← sU.2.2.1.1]; exact hU.i2
  obtain ⟨T0, HT0, -, -⟩ := id K.2.1
  have cls : FX3_readJoin (a + 90) h = bind2 (FX3_takeNumber (a + 90) (nI 11) h1) fun x7 h8 => if x7 = 0 then some ((0 : Int32), h8) else (isO h8 (a + 90) 3).bind fun _ => bind2 (FX3_takeNumber (a + 90) (nI 11) h8) fun x10 h11 => if x10 = 0 then some ((0 : Int32), h11) else (hgr h11 (a + 90) 3 2).bind fun x12 => (hgi h11 (a + 90) 3 6).bind fun x13 => (hgi h11 (a + 90) 3 7).bind fun x14 => (isO h11 x12 5).bind fun _ => (FX5_obstacle x12 x13 x14 h11).bind fun x16 => if x16 = 0 then (hgr h11 (a + 90) 3 2).bind fun x17 => (hgi h11 (a + 90) 3 6).bind fun x18 => (hgr h11 (a + 90) 3 1).bind fun x19 => (isO h11 x17 5).bind fun _ => (FX5_changeHeight x17 x18 (1 : Int32) x19 h11).bind fun h21 => some ((1 : Int32), h21) else (hgi h11 (a + 90) 3 9).bind fun x22 => (isO h11 (a + 90) 3).bind fun _ => bind2 (FX3_fail (a + 90) (4 : Int32) x22 h11) fun x24 h25 => if x24 = 0 ∨ x24 = 1 then some (x24, h25) else none := by
    unfold FX3_readJoin
    rw [K.1.g2, gx_bs, g2, gx_bs, n12, if_pos (by rw [nI_ltN (by omega) (by omega)]; exact hn), K.1.g0, gx_bs, HT0.o7, gx_bs, a1, gx_bs, a5.1.ob, gx_bs, n11]
  rw [cls, gb a3]
  -- the end of the reference's reading, when there is an error
  have refE : ∀ (V : MS) (x : Int32) (e : Nat), V.1 15 = nI e → 0 < e → e ≤ 5 → gBX10_readJoin_35 x V = some V := by
    intro V x e he h0 h5
    unfold gBX10_readJoin_35 gBX10_readJoin_40
    rw [m_mustE he h0 h5, gx_bs, m_readsE he h0 h5, b2s, gx_bs, he, if_neg (by rw [n0, nI_eqN (by omega) (by omega)]; omega)]
  by_cases g1 : goodN (lexAt b L t.2.2.1) 0 11
  · obtain ⟨h2, S2, b1, b2, b3, b4, b5, b6⟩ := c_takeOK a5 (lim := 11) (by omega) g1
    have R2 := R1.t b2 b4 b5
    generalize hiv : (lexAt b L t.2.2.1).2.2.2.1 = i at b1 b3 b5 R2
    have hi : i ≤ 11 := by rw [← hiv]; exact g1.2.2
    have adv1 : (lexAt b L t.2.2.1).2.1 ≤ (lexAt b L (lexAt b L t.2.2.1).2.2.1).2.1 := by
      have := lex_adv (b := b) (L := L) a5.2.2.1.2.1
      have := a5.2.2.1.1
      omega
    generalize lexAt b L (lexAt b L t.2.2.1).2.2.1 = u at b5 R2 adv1
    rw [b1, b2s, if_neg (by rw [n0, nI_eqN (by omega) (by omega)]; omega), b5.1.ob, gx_bs]
    by_cases g2' : goodN u 0 11
    · obtain ⟨h3, S3, d1, d2, d3, d4, d5, d6⟩ := c_takeOK b5 (lim := 11) (by omega) g2'
      have R3 := R2.t d2 d4 d5
      have q3 := good_r (lo := 0) b5.2.2.1 (show (11 : Nat) ≤ 9999 by omega) g2'.1
      have eqn : u.2.2.2.1 = u.2.2.2.2 := q3.2.1 g2'.2.2
      generalize hjv : u.2.2.2.1 = j at d1 d3 d5 R3 eqn
      have hj : j ≤ 11 := by rw [← hjv]; exact g2'.2.2
      have adv2 : u.2.1 ≤ (lexAt b L u.2.2.1).2.1 := by
        have := lex_adv (b := b) (L := L) b5.2.2.1.2.1
        have := b5.2.2.1.1
        omega
      obtain ⟨K3, ⟨U3, hU3, sU3⟩, ⟨W3, hW3⟩, rc3, -⟩ := id R3
      have f6 : hgi h3 (a + 90) 3 6 = some (nI i) := by rw [K3.1.gi (by omega), upd_o (by decide), upd_o (by decide), upd_s, upd_o (by decide), upd_s]
      have f7 : hgi h3 (a + 90) 3 7 = some (nI j) := by rw [K3.1.gi (by omega), upd_o (by decide), upd_s]
      have f9 : hgi h3 (a + 90) 3 9 = some (nI u.2.1) := by rw [K3.1.gi (by omega), upd_s]
      have ob : FX5_obstacle (a + 91) (nI i) (nI j) h3 = some (nI (obst c.2.1 i j)) := by rw [hU3.run (F := FX5_obstacle (a + 91) (nI i) (nI j)) eFX5_obstacle, s_obstacle sU3 w (by omega) (by omega)]
      have cj := g_canJoin (S := S2) (i := i) (j := j) R2.2.2.2.1.2.1 l.2.1 (Lm_small w) (by omega) (by omega)
      rw [joinB_eq w] at cj
      have obl : obst c.2.1 i j ≤ 3 := by unfold obst; split; omega; split; omega; split <;> omega
      rw [d1, b2s, if_neg (by rw [n0, nI_eqN (by omega) (by omega)]; omega), K3.1.g2, gx_bs, f6, gx_bs, f7, gx_bs, hU3.o5, gx_bs, ob, gx_bs]
      have ref2 : gFX10_readJoin S1 = if bI (joinB c.2.1 i j) = 0 then gBX10_readJoin_40 (nI i) (0 : Int32) S2 else gBX10_readJoin_35 (nI i) S2 := by
        unfold gFX10_readJoin
        rw [n0, n11, b3, b2s, m_looksOK b5.2.2.2.2.2.1 b5.2.2.1 (by omega) (by omega) g2', gx_bs, gx_bs, b5.2.2.2.2.2.2.1, if_neg (by rw [nI_ltN (by omega) (by omega)]; omega), gx_bs, b5.2.2.2.2.2.1.2.2.2 g2'.1, ← eqn, cj, gx_bs]
      rw [ref2]
      have oj := obst_join (i := i) (j := j) w
      by_cases hJ : joinB c.2.1 i j = true
      · left
        obtain ⟨ej, hu⟩ := join_up w hi hJ hn
        have ho : obst c.2.1 i j = 0 := oj.mpr ⟨hJ, hn⟩
        subst ej
        obtain ⟨U4, k1, k2⟩ := s_changeHeight hU3 hW3 (Or.inr (by show a + 10 + 8 < a + 91; omega)) w sU3 lm (i := i) (v := c.2.1 i + 1) (st := nI 1) hi (wfh_up w hu) (nI_add _ _)
        obtain ⟨gg, j1, j2⟩ := g_joins (S := S3) w rc3 lm hu
        rw [ho, if_pos (by rw [n0]), hJ, if_neg (by rw [bF]; decide), gx_bs, gx_bs, K3.1.g1, gx_bs, hU3.o5, gx_bs, n1, k1, gx_bs]
        refine ⟨_, _, rfl, ?_, _, (lexAt b L u.2.2.1), (c.1, uph c.2.1 i (c.2.1 i + 1), rbh c.2.1 c.2.2.1 (uph c.2.1 i (c.2.1 i + 1)), c.2.2.2), ?_, ?_, R3.mk2 (U' := U4) (W' := cpS W3 U3) ?_ bH.put k2 ?_ rfl (S' := ((S3.1, setA (setA S3.2 3 (cpy3 S3)) 1 gg) : MS)) ?_ ?_ (oc'.up (wfh_up w hu)), by omega⟩
        · unfold gBX10_readJoin_35 gBX10_readJoin_40
          rw [n1, m_must1, gx_bs, n0, n11, d3, b2s, gx_bs, d5.2.2.2.2.2.2.1, if_pos rfl, j1, b2s]
        · refine ((a2.tr b2).tr d2).s.tr ⟨rfl, fun x x1 x2 => ?_⟩
          rw [bp_else (by show x < a + 91 ∨ a + 91 + 8 < x; omega), bp_else (by show x < a + 10 ∨ a + 10 + 8 < x; omega)]
        · refine ((a4.tr b4).tr d4).s.tr ⟨fun _ _ => rfl, fun q q1 q3' => ?_⟩
          rw [mp2, setA_o q1, setA_o q3']
        · intro x x1 x2
          rw [bp_else (by show x < a + 91 ∨ a + 91 + 8 < x; omega), bp_else (by show x < a + 10 ∨ a + 10 + 8 < x; omega)]
        · exact (bH.put (K := sK) (S := cpS W3 U3)).fr (Or.inl (by show a + 10 + 8 < a + 91; omega))
        · intro q q1 q3'
          rw [mp2, setA_o q1, setA_o q3']
        · rw [mp2, setA_s]; exact j2
      · right
        have hJf : joinB c.2.1 i j = false := by simpa using hJ
        have ho : obst c.2.1 i j ≠ 0 := fun z => by
          have := (oj.mp z).1
          rw [hJf] at this
          cases this
        obtain ⟨h4, e1, e2, e3, e4, e5⟩ := err2 (c := 4) (p := u.2.1) K3.1 (K3.2.1.imp fun _ z => ⟨z.1, z.2.1⟩) b5.2.2.2.2.2.2.1 b5.2.2.2.2.2.1.2.1 (by have := b5.2.2.1.1; have := b5.2.2.1.2.1; omega) (by omega) (by omega)
        refine ⟨h4, _, ?_, ?_, (((a2.tr b2).tr d2).tr e2).s, ((a4.tr b4).tr e4).s, e5, R3.b.t e2⟩
        · rw [if_neg (by rw [n0, nI_eqN (by omega) (by omega)]; exact ho), f9, gx_bs, K3.1.ob, gx_bs, n4, e1, b2s, if_pos (Or.inl (by rw [n0]))]
        · obtain ⟨F9, c9, p9, -, -, q1, q2, -, -, -, q3, -⟩ := id e5
          rw [hJf, if_pos (by rw [bF])]
          unfold gBX10_readJoin_40
          rw [n0, n4, e3, gx_bs, m_readsE q3 (by omega) q2, b2s, gx_bs, q3, if_neg (by rw [nI_eqN (by omega) (by omega)]; omega)]
    · right
      obtain ⟨h3, S3, d1, d2, d3, d4, d5, d6⟩ := c_takeNO b5 (lim := 11) (by omega) g2'
      obtain ⟨F9, c9, p9, -, -, q1, q2, -, -, -, q3, -⟩ := id d6
      refine ⟨h3, S3, by rw [d1, b2s, if_pos (by rw [n0]), n0], ?_, ((a2.tr b2).tr d2).s, ((a4.tr b4).tr d5).s, d6, R2.b.t d2⟩
      unfold gFX10_readJoin
      rw [n0, n11, b3, b2s, d3, gx_bs, gx_bs, q3, if_pos (by rw [nI_ltN (by omega) (by omega)]; omega)]
      exact refE S3 (nI i) c9 q3 (by omega) q2
  · right
    obtain ⟨h2, S2, b1, b2, b3, b4, b5, b6⟩ := c_takeNO a5 (lim := 11) (by omega) g1
    obtain ⟨F9, c9, p9, -, -, q1, q2, -, -, -, q3, -⟩ := id b6
    refine ⟨h2, S2, by rw [b1, b2s, if_pos (by rw [n0]), n0], ?_, (a2.tr b2).s, (a4.tr b5).s, b6, R1.b.t b2⟩
    unfold gFX10_readJoin
    rw [n0, n11, b4, b2s, m_looksE q3 (by omega) q2, gx_bs, gx_bs, q3, if_pos (by rw [nI_ltN (by omega) (by omega)]; omega)]
    exact refE S2 (nI 0) c9 q3 (by omega) q2
end
