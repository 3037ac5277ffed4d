/-! the class's State: rules that stay, heights that change -/
theorem s_inherit {hh : jx_H} {q0 q1 : Nat} {S0 S1 : MS} {p1 : Nat} {h0 h1 : Nat → Nat} {r1 : Nat → Nat → Nat} {pts1 : List (Nat × Nat)} (H1 : bH sK hh q1 S1) (d : apart sK sK q1 q0) (w0 : wfh h0) (w1 : wfh h1) (R1 : ST S1 p1 h1 r1 pts1) (z1 : S0.1 2 = nI (Lm h0).length) (z2 : S0.1 5 = nI (Lb h0).length) (z3 : row2 (S0.2 2) (S0.2 3) (Lm h0)) (z4 : row2 (S0.2 4) (S0.2 5) (Lb h0)) :
    ∃ g, FX5_inheritRules q0 q1 (bput sK hh q0 S0) = some (bput sK hh q0 ((S0.1, setA S0.2 6 g) : MS)) ∧ ∀ b k, b < (Lb h0).length → k < (Lm h0).length → g (12 * b + k) = nI (rbh h1 r1 h0 b k) := by
  have l0 := Lm_len w0
  have l1 := Lm_len w1
  have sM := Lm_small w0
  have sB := Lb_small w0
  unfold FX5_inheritRules
  rw [sK_gr8, gx_bs, sK_fl6, sK_f6, gx_ms, gx_bs]
  have eO : ∀ {U : MS}, isO (bput sK hh q0 U) q1 5 = some () := fun {U} => isO_ob (H1.fr d (S' := U)).1
  -- the rows so far
  let P : (Nat → Int32) → Nat → Nat → Prop := fun g b k => (∀ b' k', b' < b → k' < (Lm h0).length → g (12 * b' + k') = nI (rbh h1 r1 h0 b' k')) ∧ (∀ k', k' < k → g (12 * b + k') = nI (rbh h1 r1 h0 b k')) ∧ (∀ k', k ≤ k' → k' < 12 → b < 13 → g (12 * b + k') = nI 0) ∧ ∀ b' k', b < b' → b' < 13 → k' < 12 → g (12 * b' + k') = nI 0
  have key : ∃ t, itr (fun s : Int32 × jx_H => LX5_inheritRules_10 q0 q1 s.1 s.2) ((0 : Int32), bput sK hh q0 ((S0.1, setA S0.2 6 (fun k => if k < 156 then (0 : Int32) else S0.2 6 k)) : MS)) = some t ∧ ∃ g, t = bput sK hh q0 ((S0.1, setA S0.2 6 g) : MS) ∧ ∀ b k, b < (Lb h0).length → k < (Lm h0).length → g (12 * b + k) = nI (rbh h1 r1 h0 b k) := by
    refine itr_run (Lb h0).length (fun b s => ∃ g, s = (nI b, bput sK hh q0 ((S0.1, setA S0.2 6 g) : MS)) ∧ P g b 0) ?_ ?_ ?_
    · refine ⟨_, by rw [n0], fun b' k' h => by omega, fun k' h => by omega, fun k' _ h _ => ?_, fun b' k' _ h2 h3 => ?_⟩
      · show (if _ then _ else _) = _
        rw [if_pos (by omega)]
      · show (if _ then _ else _) = _
        rw [if_pos (by omega)]
    · rintro b s hb ⟨g, rfl, hP⟩
      left
      have e4 := z4 b hb
      have e5 := sB b
      have ex : FX5_borderNumberOf q1 (nI (mx (Lb h0) b)) (nI (my (Lb h0) b)) (bput sK hh q0 ((S0.1, setA S0.2 6 g) : MS)) = some (ixI (Lb h1) ((Lb h0).getD b (0, 0))) := by
        rw [(H1.fr d).run (F := FX5_borderNumberOf q1 (nI (mx (Lb h0) b)) (nI (my (Lb h0) b))) eFX5_borderNumberOf]
        exact s_borderNumberOf R1 w1 (by omega) (by omega)
      have pre : LX5_inheritRules_10 q0 q1 (nI b) (bput sK hh q0 ((S0.1, setA S0.2 6 g) : MS)) = itr (fun s : Int32 × jx_H => LX5_inheritRules_38 q0 q1 (nI b) (ixI (Lb h1) ((Lb h0).getD b (0, 0))) s.1 s.2) ((0 : Int32), bput sK hh q0 ((S0.1, setA S0.2 6 g) : MS)) := by
        unfold LX5_inheritRules_10
        simp (disch := omega) only [sK_gi5, gx_bs, z2, nI_leN, sK_gr6, sK_gr7, sK_al4, sK_al5, sK_a4, sK_a5]
        simp (disch := decide) only [setA_o]
        rw [if_neg (by omega), eO, gx_bs, e4.1, e4.2, ex, gx_bs]
      rw [pre]
      have inner : ∃ t, itr (fun s : Int32 × jx_H => LX5_inheritRules_38 q0 q1 (nI b) (ixI (Lb h1) ((Lb h0).getD b (0, 0))) s.1 s.2) ((0 : Int32), bput sK hh q0 ((S0.1, setA S0.2 6 g) : MS)) = some t ∧ ∃ g, t = Sum.inl (nI (b + 1), bput sK hh q0 ((S0.1, setA S0.2 6 g) : MS)) ∧ P g (b + 1) 0 := by
        by_cases hB : (Lb h0).getD b (0, 0) ∈ Lb h1
        · have hc := List.idxOf_lt_length_of_mem hB
          rw [ixI_mem hB]
          refine itr_run (Lm h0).length (fun k s => ∃ g, s = (nI k, bput sK hh q0 ((S0.1, setA S0.2 6 g) : MS)) ∧ P g b k) ⟨g, by rw [n0], hP⟩ ?_ ?_
          · rintro k s hk ⟨g, rfl, k1, k2, k3, k4⟩
            left
            have e3 := z3 k hk
            have e6 := sM k
            have ey : FX5_numberOf q1 (nI (mx (Lm h0) k)) (nI (my (Lm h0) k)) (bput sK hh q0 ((S0.1, setA S0.2 6 g) : MS)) = some (ixI (Lm h1) ((Lm h0).getD k (0, 0))) := by
              rw [(H1.fr d).run (F := FX5_numberOf q1 (nI (mx (Lm h0) k)) (nI (my (Lm h0) k))) eFX5_numberOf]
              exact s_numberOf R1 w1 (by omega) (by omega)
            have ez : FX5_coefficient q1 (nI ((Lb h1).idxOf ((Lb h0).getD b (0, 0)))) (ixI (Lm h1) ((Lm h0).getD k (0, 0))) (bput sK hh q0 ((S0.1, setA S0.2 6 g) : MS)) = some (nI (rbh h1 r1 h0 b k)) := by
              rw [(H1.fr d).run (F := FX5_coefficient q1 (nI ((Lb h1).idxOf ((Lb h0).getD b (0, 0)))) (ixI (Lm h1) ((Lm h0).getD k (0, 0)))) eFX5_coefficient]
              unfold rbh rb
              by_cases hM : (Lm h0).getD k (0, 0) ∈ Lm h1
              · have hm := List.idxOf_lt_length_of_mem hM
                rw [ixI_mem hM, s_coef R1 w1 hc hm, if_pos ⟨hB, hM⟩]
              · unfold ixI
                rw [if_neg hM, s_coef_m, if_neg (fun z => hM z.2)]
            unfold LX5_inheritRules_38
            simp (disch := omega) only [sK_gi2, gx_bs, z1, nI_leN, sK_gr3, sK_gr4, sK_al2, sK_al3, sK_a2, sK_a3, n1, nm1, nI_ne_m1]
            simp (disch := decide) only [setA_o]
            rw [if_neg (by omega), if_neg (by simp), eO, gx_bs, e3.1, e3.2, ey, gx_bs, sK_gr8, gx_bs, gx_bs, ez, gx_bs]
            simp (disch := omega) only [n12, nI_mul, nI_add, sK_as6, sK_s6, gx_ms, gx_bs, setA_s, setA_2, show b * 12 + k = 12 * b + k by omega]
            refine ⟨_, rfl, _, rfl, ?_, ?_, ?_, ?_⟩
            · intro b' k' q1 q2
              rw [upd_o (by omega)]
              exact k1 b' k' q1 q2
            · intro k' q1
              by_cases q2 : k' = k
              · subst q2; rw [upd_s]
              · rw [upd_o (by omega)]
                exact k2 k' (by omega)
            · intro k' q1 q2 q0'
              rw [upd_o (by omega)]
              exact k3 k' (by omega) q2 q0'
            · intro b' k' q1 q2 q3
              rw [upd_o (by omega)]
              exact k4 b' k' q1 q2 q3
          · rintro s ⟨g, rfl, k1, k2, k3, k4⟩
            unfold LX5_inheritRules_38 BX5_inheritRules_97
            simp (disch := omega) only [sK_gi2, gx_bs, z1, nI_leN, n1, nI_add]
            rw [if_pos (Nat.le_refl _)]
            refine ⟨_, rfl, g, rfl, ?_, fun k' h => by omega, ?_, ?_⟩
            · intro b' k' q1 q2
              by_cases q3 : b' = b
              · subst q3; exact k2 k' q2
              · exact k1 b' k' (by omega) q2
            · intro k' q1 q2 q3
              exact k4 (b + 1) k' (by omega) q3 q2
            · intro b' k' q1 q2 q3
              exact k4 b' k' (by omega) q2 q3
        · have ei : ixI (Lb h1) ((Lb h0).getD b (0, 0)) = m1 := if_neg hB
          rw [ei]
          obtain ⟨k1, k2, k3, k4⟩ := hP
          refine itr_run 0 (fun k s => s = (nI 0, bput sK hh q0 ((S0.1, setA S0.2 6 g) : MS))) (by rw [n0]) (fun k s h => by omega) ?_
          rintro s rfl
          unfold LX5_inheritRules_38 BX5_inheritRules_97
          simp (disch := omega) only [sK_gi2, gx_bs, z1, nI_leN, n1, nm1, nI_add]
          rw [if_neg (by omega), if_pos trivial]
          refine ⟨_, rfl, g, rfl, ?_, fun k' h => by omega, ?_, ?_⟩
          · intro b' k' q1 q2
            by_cases q3 : b' = b
            · subst q3
              rw [k3 k' (by omega) (by omega) (by omega)]
              unfold rbh rb
              rw [if_neg (fun z => hB z.1)]
            · exact k1 b' k' (by omega) q2
          · intro k' q1 q2 q3
            exact k4 (b + 1) k' (by omega) q3 q2
          · intro b' k' q1 q2 q3
            exact k4 b' k' (by omega) q2 q3
      obtain ⟨t, e, g2, rfl, h2⟩ := inner
      exact ⟨_, e, g2, rfl, h2⟩
    · rintro s ⟨g, rfl, k1, k2, k3, k4⟩
      unfold LX5_inheritRules_10
      simp (disch := omega) only [sK_gi5, gx_bs, z2, nI_leN]
      rw [if_pos (Nat.le_refl _)]
      exact ⟨_, rfl, g, rfl, fun b k hb hk => k1 b k hb hk⟩
  obtain ⟨t, e, g, rfl, h⟩ := key
  exact ⟨g, e, h⟩
