/-! call: misfits, whole -/
def misN (r r' : Nat → Nat → Nat) (n nb : Nat) : Nat := sm (fun b => if eqF (r b) (r' b) n = true then 0 else 1) nb
theorem misN_s {r r' : Nat → Nat → Nat} {n nb : Nat} : misN r r' n (nb + 1) = misN r r' n nb + (if eqF (r nb) (r' nb) n = true then 0 else 1) := rfl
theorem misN_le {r r' : Nat → Nat → Nat} {n : Nat} : ∀ nb, misN r r' n nb ≤ nb
  | 0 => Nat.le_refl _
  | k + 1 => by
    rw [misN_s]
    have := misN_le (r := r) (r' := r') (n := n) k
    split <;> omega
theorem h_otherR {h : jx_H} {q q' : Nat} {S S' : MS} {c c' : Cf} (HS : bH sK h q S) (HS' : bH sK h q' S') (sS : STc S c) (sS' : STc S' c') (ok : okC c) (ok' : okC c') (e : c.2.1 = c'.2.1) {b : Nat} (hb : b < (Lb c.2.1).length) : FX5_hasOtherRule q q' (nI b) h = some (bI (!eqF (c.2.2.1 b) (c'.2.2.1 b) (Lm c.2.1).length)) := by
  have l := Lm_len ok.2.1
  have pb := prs_b c.1 ok.1
  have pb' := prs_b c'.1 ok'.1
  have g2 : hgi h q 5 2 = some (nI (Lm c.2.1).length) := by rw [← sS.2.2.1.1]; exact HS.i2
  unfold FX5_hasOtherRule
  rw [n0]
  refine itr_val (Lm c.2.1).length (fun k s => s = nI k ∧ ∀ i, i < k → c.2.2.1 b i = c'.2.2.1 b i) ⟨rfl, fun i hi => by omega⟩ ?_ ?_
  · rintro k s hk ⟨rfl, hq⟩
    have e1 : FX5_coefficient q (nI b) (nI k) h = some (nI (c.2.2.1 b k)) := by rw [HS.run (F := FX5_coefficient q (nI b) (nI k)) eFX5_coefficient, s_coef sS ok.2.1 hb hk]
    have e2 : FX5_coefficient q' (nI b) (nI k) h = some (nI (c'.2.2.1 b k)) := by rw [HS'.run (F := FX5_coefficient q' (nI b) (nI k)) eFX5_coefficient, s_coef sS' ok'.2.1 (by rw [← e]; exact hb) (by rw [← e]; exact hk)]
    have b1 := ok.2.2.1 b k hb hk
    have b2 := ok'.2.2.1 b k (by rw [← e]; exact hb) (by rw [← e]; exact hk)
    unfold LX5_hasOtherRule_2
    rw [g2, gx_bs, if_neg (by rw [nI_leN (by omega) (by omega)]; omega), HS.o5, gx_bs, e1, gx_bs, HS'.o5, gx_bs, e2, gx_bs]
    by_cases y : c.2.2.1 b k = c'.2.2.1 b k
    · left
      rw [if_pos (by rw [y]), n1, nI_add]
      refine ⟨_, rfl, rfl, fun i hi => ?_⟩
      by_cases z : i = k
      · rw [z]; exact y
      · exact hq i (by omega)
    · right
      rw [if_neg (by rw [nI_eqN (by omega) (by omega)]; exact y), eqF_f fun z => y (z k hk), n1]
      rfl
  · rintro s ⟨rfl, hq⟩
    unfold LX5_hasOtherRule_2
    rw [g2, gx_bs, if_pos (by rw [nI_leN (by omega) (by omega)]; omega), eqF_i.mpr hq, n0]
    rfl
theorem h_others {h : jx_H} {q q' : Nat} {S S' : MS} {c c' : Cf} (HS : bH sK h q S) (HS' : bH sK h q' S') (sS : STc S c) (sS' : STc S' c') (ok : okC c) (ok' : okC c') (e : c.2.1 = c'.2.1) : FX5_otherRules q q' h = some (nI (misN c.2.2.1 c'.2.2.1 (Lm c.2.1).length (Lb c.2.1).length)) := by
  have l := Lm_len ok.2.1
  have g5 : hgi h q 5 5 = some (nI (Lb c.2.1).length) := by rw [← sS.2.2.1.2.1]; exact HS.i5
  unfold FX5_otherRules
  rw [n0]
  refine itr_val (Lb c.2.1).length (fun b s => s = (nI (misN c.2.2.1 c'.2.2.1 (Lm c.2.1).length b), nI b)) rfl ?_ ?_
  · rintro b s hb rfl
    left
    have o := h_otherR HS HS' sS sS' ok ok' e hb
    unfold LX5_otherRules_4 BX5_otherRules_24
    dsimp only
    rw [n0, n1, g5, gx_bs, if_neg (by rw [nI_leN (by omega) (by omega)]; omega), HS.o5, gx_bs, o, gx_bs, nI_add, nI_add, misN_s]
    cases z : eqF (c.2.2.1 b) (c'.2.2.1 b) (Lm c.2.1).length with
    | true =>
      rw [if_pos (by rw [bI_0]; rfl), if_pos rfl, Nat.add_zero]
      exact ⟨_, rfl, rfl⟩
    | false =>
      rw [if_neg (by rw [bI_0]; decide), if_neg (by decide)]
      exact ⟨_, rfl, rfl⟩
  · rintro s rfl
    unfold LX5_otherRules_4
    dsimp only
    rw [g5, gx_bs, if_pos (by rw [nI_leN (by omega) (by omega)]; omega)]
    rfl
/-- the reference counts the rules that differ -/
theorem m_mis {S : MS} {ht : Nat → Nat} {p p' : Nat} {r r' : Nat → Nat → Nat} {pts pts' : List (Nat × Nat)} (w : wfh ht) (H1 : RC (S.2 1) p' ht r' pts') (H2 : RC (S.2 2) p ht r pts) (b1 : ∀ b k, b < (Lb ht).length → k < (Lm ht).length → r b k < 1000) (b2 : ∀ b k, b < (Lb ht).length → k < (Lm ht).length → r' b k < 1000) : gBX10_misfits_45 (nI 0) S = gBX10_misfits_136 (nI (misN r r' (Lm ht).length (Lb ht).length)) S := by
  have l := Lm_len w
  have Hn : gFX10_n S = some (nI (Lm ht).length) := g_n H1.2.1
  have ex : ∃ t, gBX10_misfits_136 (nI (misN r r' (Lm ht).length (Lb ht).length)) S = some t := by
    unfold gBX10_misfits_136
    rw [n0, g_copies (j0 := 2) (j1 := 1) (a := 0) (b := 0) (N0 := 248) (N1 := 248) rfl rfl (by omega) (by omega) (by omega) (by omega) (by omega), gx_bs]
    exact ⟨_, rfl⟩
  obtain ⟨t, ht'⟩ := ex
  rw [ht']
  unfold gBX10_misfits_45
  rw [n0]
  refine itr_val (Lb ht).length (fun b s => s = (nI (misN r r' (Lm ht).length b), nI b)) rfl ?_ ?_
  · rintro b s hb rfl
    left
    have ml := misN_le (r := r) (r' := r') (n := (Lm ht).length) b
    unfold gLX10_misfits_48
    dsimp only
    rw [n0, n1, nm1, n2, mK_a1 (by omega), gx_bs, H1.2.2.1.1, if_neg (by rw [nI_leN (by omega) (by omega)]; omega), if_neg (by rw [nI_ne_m1 (by omega)]; exact id)]
    refine ⟨_, itr_val (Lm ht).length (fun k s => s = (bI (eqF (r b) (r' b) k), nI k)) rfl ?_ ?_, rfl⟩
    · rintro k s hk rfl
      left
      have v1 := H1.2.2.2.2.1 b k hb hk
      have v2 := H2.2.2.2.2.1 b k hb hk
      have y1 := b1 b k hb hk
      have y2 := b2 b k hb hk
      have ra : gFX10_ruleAt (nI b) (nI k) S = some (nI (56 + 12 * b + k)) := by
        unfold gFX10_ruleAt
        rw [n56, n12, nI_mul, nI_add, nI_add]
      unfold gLX10_misfits_68 gBX10_misfits_110 gBX10_misfits_111
      dsimp only
      rw [Hn, gx_bs, if_neg (by rw [nI_leN (by omega) (by omega)]; omega), n0, n1, nI_add, ra, gx_bs, mK_a1 (by omega), gx_bs, gx_bs, gal_ok (N := 248) (show mK.2.2.2.1 2 = 248 from rfl) (by omega) (by omega), gx_bs, Nat.add_assoc, v1, v2]
      refine ⟨_, ?_, rfl⟩
      show _ = some (Sum.inl (bI (eqF (r b) (r' b) k && decide (r b k = r' b k)), nI (k + 1)))
      cases eqF (r b) (r' b) k with
      | false => rw [if_pos bI_f]; rfl
      | true =>
        rw [if_neg (by rw [bI_0]; decide)]
        by_cases z : r' b k = r b k
        · rw [if_pos (by rw [z]), decide_eq_true z.symm]; rfl
        · rw [if_neg (by rw [nI_eqN (by omega) (by omega)]; exact z), decide_eq_false fun q => z q.symm]; rfl
    · rintro s rfl
      unfold gLX10_misfits_68 gBX10_misfits_128
      dsimp only
      rw [Hn, gx_bs, if_pos (by rw [nI_leN (by omega) (by omega)]; omega), n0, n1, nI_add, nI_add, nI_add, misN_s]
      cases eqF (r b) (r' b) (Lm ht).length with
      | true => rw [if_neg (by rw [bI_0]; decide), if_pos rfl]; rfl
      | false => rw [if_pos bI_f, if_neg (by decide)]; rfl
  · rintro s rfl
    unfold gLX10_misfits_48
    dsimp only
    rw [n2, mK_a1 (by omega), gx_bs, H1.2.2.1.1, if_pos (by rw [nI_leN (by omega) (by omega)]; omega), ht']
    rfl
theorem m_mis_no {S : MS} : ∀ nb, S.2 1 2 = nI nb → nb < 1000 → gBX10_misfits_45 m1 S = gBX10_misfits_136 m1 S := by
  intro nb e l
  have ex : ∃ t, gBX10_misfits_136 m1 S = some t := by
    unfold gBX10_misfits_136
    rw [n0, g_copies (j0 := 2) (j1 := 1) (a := 0) (b := 0) (N0 := 248) (N1 := 248) rfl rfl (by omega) (by omega) (by omega) (by omega) (by omega), gx_bs]
    exact ⟨_, rfl⟩
  obtain ⟨t, ht'⟩ := ex
  rw [ht']
  unfold gBX10_misfits_45
  rw [n0]
  refine itr_val 0 (fun b s => s = (m1, nI 0)) rfl (fun k s hk => by omega) ?_
  rintro s rfl
  unfold gLX10_misfits_48
  dsimp only
  rw [n1, nm1, n2, mK_a1 (by omega), gx_bs, e]
  by_cases z : nb ≤ 0
  · rw [if_pos (by rw [nI_leN (by omega) (by omega)]; omega), ht']
    rfl
  · rw [if_neg (by rw [nI_leN (by omega) (by omega)]; omega), if_pos rfl, ht']
    rfl
section
variable {a m o : Nat}
theorem o_misfits : St_misfits (INV a m o) a m := by
  rintro h ⟨rfl, rfl, O, M, c, d, U, V, cnt, L, b, e1, e2, res, HM, C, R⟩
  obtain ⟨⟨B, sz⟩, ⟨⟨S, HS, sS⟩, ok⟩, -, ⟨h8, oU⟩, -⟩ := id C
  have w := ok.2.1
  have l := Lm_len w
  have lp := ok.2.2.2.1
  have pb := prs_b c.1 ok.1
  have g9 : hgi h (a + 1) 5 9 = some (nI c.2.2.2.length) := by rw [← sS.2.2.2.2.1]; exact HS.i9
  have r3 : gal mK (gpi M 0 (nI 0)) 1 (nI 3) = some (nI c.2.2.2.length) := by rw [mK_a1 (by omega), gpi_2, R.1.2.2.2.1]
  by_cases h0 : c.2.2.2.length = 0
  · obtain ⟨v1, v2⟩ := vt_plain (G := FX10_misfits (a + 103)) (g := gFX10_misfits) (v := m1) (M' := gpi M 0 (nI 0)) (fun h S => eFX10_misfits) O HM (by
      unfold gFX10_misfits
      rw [n0, n1, nm1, n3, gx_bs, r3, gx_bs, if_pos (by rw [h0])]) C R.t0
    refine ⟨m1, h, B.ob, ?_, v1, v2⟩
    unfold FX9_misfits
    rw [n0, n1, nm1, B.g0, gx_bs, g9, gx_bs, if_pos (by rw [h0])]
  · have h1 : 1 ≤ c.2.2.2.length := by omega
    have of := ok.fit h1
    have wf : wfh (fitH c.1 c.2.2.2) := of.2.1
    have lf := Lm_len wf
    obtain ⟨h3, T, w1, C3, w3, w4, HT, sT, HS3, o84⟩ := c_fit C h1 HS sS
    have B3 : BB h3 a := C3.B
    have si := h_sameI HS3 HT sS sT w of.2.1
    have O3 : OUT h3 (a + 128) := O.keep fun x _ _ => w3 x (by omega)
    have M3 : bH mK h3 (a + 103) M := mkeep HM fun x _ _ => w3 x (by omega)
    -- the reference
    obtain ⟨K, hK⟩ : ∃ K : MS, K = (((gpi M 0 (nI 0)).1, setA (gpi M 0 (nI 0)).2 2 (fun q => if 0 ≤ q ∧ q < 0 + 248 then (gpi M 0 (nI 0)).2 1 (0 + (q - 0)) else (gpi M 0 (nI 0)).2 2 q)) : MS) := ⟨_, rfl⟩
    have k1 : K.2 1 = M.2 1 := by rw [hK, mp2, setA_o (by decide), gpi_2]
    have k2 : RCc (K.2 2) c := by
      refine R.1.fr ok fun q hq => ?_
      rw [hK, mp2, setA_s, gpi_2]
      show (if _ then _ else _) = _
      rw [if_pos (by omega), Nat.zero_add, Nat.sub_zero]
    obtain ⟨T1, j1, j2, j3, j4⟩ := m_fits (S := K) ok.1 ok.2.2.2 h1 (by rw [k1]; exact R.1)
    have t2 : RCc (T1.2 2) c := by rw [j4 2 (by decide) (by decide) (by decide) (by decide) (by decide)]; exact k2
    have sm' := m_sameM (S := T1) (A := Lm (fitH c.1 c.2.2.2)) (B := Lm c.2.1) j2.2.1 t2.2.1 lf.2.1 l.2.1 (Lm_small of.2.1) (Lm_small w)
    have i1 : T1.1 = upd M.1 0 (nI 0) := by rw [j3, hK, mp1, gpi_1]
    have rows : ∀ j, j ≠ 1 → j ≠ 2 → j ≠ 15 → j ≠ 20 → j ≠ 21 → j ≠ 24 → T1.2 j = M.2 j := fun j x1 x2 x3 x4 x5 x6 => by rw [j4 j x1 x3 x4 x5 x6, hK, mp2, setA_o x2, gpi_2]
    have ref : gFX10_misfits M = if bI (decide (Lm (fitH c.1 c.2.2.2) = Lm c.2.1)) = nI 0 then gBX10_misfits_45 m1 T1 else gBX10_misfits_45 (nI 0) T1 := by
      unfold gFX10_misfits
      rw [n0, n1, nm1, n3, gx_bs, r3, gx_bs, if_neg (by rw [nI_eqN (by omega) (by omega)]; exact h0), g_copies (S := gpi M 0 (nI 0)) (j0 := 1) (j1 := 2) (a := 0) (b := 0) (N0 := 248) (N1 := 248) rfl rfl (by omega) (by omega) (by omega) (by omega) (by omega), gx_bs, ← hK, j1, gx_bs, sm', gx_bs]
    have back : ∀ v, ∃ T2 : MS, gBX10_misfits_136 v T1 = some (v, T2) ∧ REF T2 c d U V cnt L b e1 e2 res := fun v => by
      refine ⟨_, by
        unfold gBX10_misfits_136
        rw [n0, g_copies (j0 := 2) (j1 := 1) (a := 0) (b := 0) (N0 := 248) (N1 := 248) rfl rfl (by omega) (by omega) (by omega) (by omega) (by omega), gx_bs], R.r1 (by rw [mp1]; exact i1) ?_ fun b hb => by rw [mp2, setA_o (by omega)]; exact rows b (by omega) (by omega) (by omega) (by omega) (by omega) (by omega)⟩
      rw [mp2, setA_s]
      refine t2.fr ok fun q hq => ?_
      show (if _ then _ else _) = _
      rw [if_pos (by omega), Nat.zero_add, Nat.sub_zero]
    have cls : FX9_misfits a h = if bI (eqH c.2.1 (fitH c.1 c.2.2.2)) = nI 0 then some (m1, h3) else (FX5_otherRules (a + 1) (a + 19) h3).bind fun x15 => some (x15, h3) := by
      unfold FX9_misfits
      rw [n0, n1, nm1, B.g0, gx_bs, g9, gx_bs, if_neg (by rw [nI_eqN (by omega) (by omega)]; exact h0), B.g9, gx_bs, gx_bs, B.g2, gx_bs, o84, gx_bs, w1, gx_bs, B3.g0, gx_bs, B3.g2, gx_bs, HS3.o5, gx_bs]
      rw [show FX5_hasSameIdeal (a + 1) (a + 19) h3 = some (bI (eqH c.2.1 (fitH c.1 c.2.2.2))) from si, gx_bs, gx_bs, gx_bs, HS3.o5, gx_bs]
    cases z : eqH c.2.1 (fitH c.1 c.2.2.2) with
    | true =>
      have e : c.2.1 = fitH c.1 c.2.2.2 := eqH_t w of.2.1 z
      have ot := h_others HS3 HT sS sT ok of e
      have b2 : ∀ b k, b < (Lb c.2.1).length → k < (Lm c.2.1).length → fitR c.1 c.2.2.2 b k < 1000 := fun b k hb hk => by
        have := of.2.2.1 b k (by show b < (Lb (fitH c.1 c.2.2.2)).length; rw [← e]; exact hb) (by show k < (Lm (fitH c.1 c.2.2.2)).length; rw [← e]; exact hk)
        have : fitR c.1 c.2.2.2 b k < c.1 := this
        omega
      have mm := m_mis (S := T1) (ht := c.2.1) (r := c.2.2.1) (r' := fitR c.1 c.2.2.2) w (by rw [e]; exact j2) t2 (fun b k hb hk => by have := ok.2.2.1 b k hb hk; omega) b2
      obtain ⟨T2, q1, q2⟩ := back (nI (misN c.2.2.1 (fitR c.1 c.2.2.2) (Lm c.2.1).length (Lb c.2.1).length))
      obtain ⟨v1, v2⟩ := vt_plain (G := FX10_misfits (a + 103)) (g := gFX10_misfits) (M' := T2) (fun h S => eFX10_misfits) O3 M3 (by
        rw [ref, decide_eq_true (by rw [e]), if_neg (by rw [bI_0]; decide), mm, q1]) C3 q2
      refine ⟨_, h3, B.ob, ?_, v1, v2⟩
      rw [cls, z, if_neg (by rw [bI_0]; decide)]
      rw [show FX5_otherRules (a + 1) (a + 19) h3 = some (nI (misN c.2.2.1 (fitR c.1 c.2.2.2) (Lm c.2.1).length (Lb c.2.1).length)) from ot, gx_bs]
    | false =>
      have ne : ¬ Lm (fitH c.1 c.2.2.2) = Lm c.2.1 := fun q => by
        have e : ∀ i, i < 13 → c.2.1 i = fitH c.1 c.2.2.2 i := fun i _ => by
          have k : ∀ j, j < fitH c.1 c.2.2.2 i ↔ j < c.2.1 i := fun j => by rw [← mem_Lm wf, ← mem_Lm w, q]
          have k1 := k (c.2.1 i)
          have k2 := k (fitH c.1 c.2.2.2 i)
          omega
        have : eqH c.2.1 (fitH c.1 c.2.2.2) = true := eqF_i.mpr e
        rw [z] at this
        cases this
      obtain ⟨T2, q1, q2⟩ := back m1
      obtain ⟨v1, v2⟩ := vt_plain (G := FX10_misfits (a + 103)) (g := gFX10_misfits) (v := m1) (M' := T2) (fun h S => eFX10_misfits) O3 M3 (by
        rw [ref, decide_eq_false ne, if_pos bI_f, m_mis_no _ j2.2.2.1.1 (by omega), q1]) C3 q2
      refine ⟨_, h3, B.ob, ?_, v1, v2⟩
      rw [cls, z, if_pos bI_f]
end
