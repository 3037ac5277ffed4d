/-! the reference: a monomial leaves; changes are kept -/
theorem ixI_mem {M : List (Nat × Nat)} {p : Nat × Nat} (h : p ∈ M) : ixI M p = nI (M.idxOf p) := if_pos h
theorem erase_at (M : List (Nat × Nat)) (c q : Nat) : (M.eraseIdx c).getD q (0, 0) = if q < c then M.getD q (0, 0) else M.getD (q + 1) (0, 0) := by
  simp only [List.getD_eq_getElem?_getD, List.getElem?_eraseIdx]
  split <;> rfl
theorem g_leaves {S : MS} {p : Nat} {ht : Nat → Nat} {r : Nat → Nat → Nat} {pts : List (Nat × Nat)} (w : wfh ht) (H : RC (S.2 1) p ht r pts) (lp : pts.length ≤ 12) {i : Nat} (hu : canDn ht i = true) :
    ∃ g, gFX10_leaves (nI i) (nI (ht i - 1)) S = some (nI ((Lm ht).idxOf (i, ht i - 1)), ((S.1, setA (setA S.2 3 (cpy3 S)) 1 g) : MS)) ∧ RC g p (uph ht i (ht i - 1)) (rbh ht r (uph ht i (ht i - 1))) pts := by
  have wu := wfh_dn w hu
  have a := Lm_a w
  have l := Lm_len w
  have lu := Lm_len wu
  have b := Lm_c w hu
  have hi : i < 12 ∧ 1 ≤ ht i ∧ ht i ≤ 12 := by
    simp only [canDn, Bool.and_eq_true, decide_eq_true_eq] at hu
    have := w.deg (i := i)
    refine ⟨by omega, by omega, by omega⟩
  have hmem : (i, ht i - 1) ∈ Lm ht := (mem_Lm w).mpr (by omega)
  have hc : (Lm ht).idxOf (i, ht i - 1) < (Lm ht).length := List.idxOf_lt_length_of_mem hmem
  unfold gFX10_leaves
  rw [g_copies13]
  simp only [Option.bind_some]
  have hM1 : NowM (((S.1, setA S.2 3 (cpy3 S)) : MS).2 1) (Lm ht) := by show NowM ((setA S.2 3 (cpy3 S)) 1) _; rw [setA_o (by decide)]; exact H.2.1
  rw [g_monIx hM1 l.2.1 (Lm_small w) (by omega) (by omega), ixI_mem hmem]
  simp only [Option.bind_some]
  generalize hcc : (Lm ht).idxOf (i, ht i - 1) = c at hc b
  have key : ∃ t, itr (fun s : Int32 × MS => gLX10_leaves_23 (nI c) s.1 s.2) (nI c, ((S.1, setA S.2 3 (cpy3 S)) : MS)) = some t ∧ ∃ g, t = (nI c, ((S.1, setA (setA S.2 3 (cpy3 S)) 1 g) : MS)) ∧ RC g p (uph ht i (ht i - 1)) (rbh ht r (uph ht i (ht i - 1))) pts := by
    refine itr_run ((Lm ht).length - 1 - c) (fun k s => ∃ g, s = (nI (c + k), ((S.1, setA (setA S.2 3 (cpy3 S)) 1 g) : MS)) ∧ (∀ q, q < c + k → q < 12 → g (4 + q) = nI (mx (Lm (uph ht i (ht i - 1))) q) ∧ g (16 + q) = nI (my (Lm (uph ht i (ht i - 1))) q)) ∧ (∀ q, c + k ≤ q → q < 12 → g (4 + q) = S.2 1 (4 + q) ∧ g (16 + q) = S.2 1 (16 + q)) ∧ ∀ q, ¬ (4 ≤ q ∧ q < 28) → g q = S.2 1 q) ?_ ?_ ?_
    · refine ⟨S.2 1, ?_, ?_, fun q _ _ => ⟨rfl, rfl⟩, fun q _ => rfl⟩
      · rw [Nat.add_zero]
        refine Prod.ext rfl (Prod.ext rfl ?_)
        show setA S.2 3 (cpy3 S) = setA (setA S.2 3 (cpy3 S)) 1 (S.2 1)
        funext q
        unfold setA
        by_cases h1 : q = 1
        · subst h1; rfl
        · rw [if_neg h1]
      · intro q h1 h2
        rw [← b]
        unfold mx my
        rw [erase_at, if_pos (by omega)]
        exact H.2.1.2 q (by omega)
    · rintro k s hk ⟨g, rfl, h1, h2, h3⟩
      left
      have e0 : (setA (setA S.2 3 (cpy3 S)) 1 g) 1 = g := setA_s
      have hn : gFX10_n ((S.1, setA (setA S.2 3 (cpy3 S)) 1 g) : MS) = some (nI (Lm ht).length) := by
        unfold gFX10_n
        simp (disch := omega) only [n1, mK_a1, e0, h3 1 (by omega), H.2.1.1, Option.bind_some]
      unfold gLX10_leaves_23
      rw [hn]
      simp (disch := omega) only [n4, n16, n1, nI_add, nI_leN, Option.bind_some, mK_a1, mK_s1, e0, setA_s, setA_2, upd_o]
      rw [if_neg (by omega)]
      refine ⟨_, rfl, _, rfl, ?_, ?_, ?_⟩
      · intro q q1 q2
        by_cases q3 : q = c + k
        · subst q3
          have z := h2 (c + k + 1) (by omega) (by omega)
          have z2 := H.2.1.2 (c + k + 1) (by omega)
          rw [upd_o (by omega), upd_s, upd_s, show 4 + (c + k) + 1 = 4 + (c + k + 1) by omega, show 16 + (c + k) + 1 = 16 + (c + k + 1) by omega, z.1, z.2, z2.1, z2.2, ← b]
          unfold mx my
          rw [erase_at, if_neg (by omega)]
          exact ⟨rfl, rfl⟩
        · rw [upd_o (by omega), upd_o (by omega), upd_o (by omega), upd_o (by omega)]
          exact h1 q (by omega) q2
      · intro q q1 q2
        rw [upd_o (by omega), upd_o (by omega), upd_o (by omega), upd_o (by omega)]
        exact h2 q (by omega) q2
      · intro q q1
        rw [upd_o (by omega), upd_o (by omega)]
        exact h3 q q1
    · rintro s ⟨g, rfl, h1, h2, h3⟩
      have e0 : (setA (setA S.2 3 (cpy3 S)) 1 g) 1 = g := setA_s
      have hn : gFX10_n ((S.1, setA (setA S.2 3 (cpy3 S)) 1 g) : MS) = some (nI (Lm ht).length) := by
        unfold gFX10_n
        simp (disch := omega) only [n1, mK_a1, e0, h3 1 (by omega), H.2.1.1, Option.bind_some]
      have elen : (Lm (uph ht i (ht i - 1))).length = (Lm ht).length - 1 := by
        rw [← b, List.length_eraseIdx, if_pos hc]
      unfold gLX10_leaves_23
      rw [hn]
      simp (disch := omega) only [n1, nI_add, nI_sub, nI_leN, Option.bind_some, mK_a1, mK_s1, e0, setA_s, setA_2, h3 1 (by omega), H.2.1.1]
      rw [if_pos (by omega)]
      generalize hS : ((S.1, setA (setA S.2 3 (cpy3 S)) 1 (upd g 1 (nI ((Lm ht).length - 1)))) : MS) = S2
      have e1 : S2.2 1 = upd g 1 (nI ((Lm ht).length - 1)) := by subst hS; show (setA (setA S.2 3 (cpy3 S)) 1 (upd g 1 (nI ((Lm ht).length - 1)))) 1 = _; exact setA_s
      have e3 : S2.2 3 = cpy3 S := by
        subst hS
        show (setA (setA S.2 3 (cpy3 S)) 1 (upd g 1 (nI ((Lm ht).length - 1)))) 3 = _
        rw [setA_o (by decide), setA_s]
      have hM2 : NowM (S2.2 1) (Lm (uph ht i (ht i - 1))) := by
        rw [e1]
        refine ⟨by rw [upd_s, elen], fun q hq => ?_⟩
        rw [upd_o (by omega), upd_o (by omega)]
        exact h1 q (by omega) (by omega)
      have R3 : NowR (S2.2 3) p (Lm ht) (Lb ht) r pts := by
        rw [e3]
        exact RC.fr H w lp (fun q hq => cpy3_at hq)
      have z : ∀ q, q = 0 ∨ q = 3 ∨ 28 ≤ q → S2.2 1 q = S.2 1 q := by
        intro q hq
        rw [e1, upd_o (by omega), h3 q (by omega)]
      obtain ⟨g2, k1, k2⟩ := g_laysAgain R3 hM2 a.1 a.2.1 (Lm_small w) (Lb_small w) l.2.1 (by omega) (Lm_ok wu) (by rw [(Lm_a wu).2.2.1]; exact lu.2.2.2.1) (p := p) (pts := pts)
        (by rw [z 0 (by omega)]; exact H.1)
        (by rw [z 3 (by omega)]; exact H.2.2.2.1)
        (by intro k hk; rw [z _ (by omega), z _ (by omega)]; exact H.2.2.2.2.2 k hk) lp
      rw [k1]
      refine ⟨_, rfl, g2, ?_, ?_⟩
      · subst hS
        show (_, ((S.1, setA (setA (setA S.2 3 (cpy3 S)) 1 _) 1 g2) : MS)) = _
        rw [setA_2]
      · rw [(Lm_a wu).2.2.1] at k2
        exact k2
  obtain ⟨t, f1, g, rfl, f2⟩ := key
  exact ⟨g, f1, f2⟩
theorem n1736 : (1736 : Int32) = nI 1736 := by decide +kernel
theorem upd_2 {f : Nat → Int32} {k : Nat} {x y : Int32} : upd (upd f k x) k y = upd f k y := by
  funext b
  simp only [upd]
  split <;> rfl
theorem keeps_fin {k : Nat} (hk : k < 6) (T : MS) (e : Nat) (he : T.1 5 = nI e) (h : e < 8) : gBX10_keeps_50 (nI k) T = some ((upd T.1 5 (nI (e + 1)), setA (setA T.2 4 (fun q => if 248 * e ≤ q ∧ q < 248 * e + 248 then T.2 1 (0 + (q - 248 * e)) else T.2 4 q)) 7 (upd (T.2 7) k (T.2 7 k + nI 1))) : MS) := by
  unfold gBX10_keeps_50
  simp (disch := omega) only [he, Option.bind_some, n248, nI_mul, n0]
  rw [g_copies (N0 := 248) (N1 := 1984) rfl rfl (by omega) (by omega) (by omega) (by omega) (by omega)]
  simp (disch := omega) only [he, Option.bind_some, n1, nI_add, mK_a7, mK_s7, gpi_1, gpi_2]
  rw [setA_o (show 7 ≠ 4 by decide)]
theorem keeps_end {T : MS} (hd : T.1 5 = nI 8) {k : Nat} (hk : k < 6) : gLX10_keeps_11 (nI k) (nI 1736) T = some (.inr ((upd (gpi T 5 (nI 7)).1 5 (nI (7 + 1)), setA (setA (gpi T 5 (nI 7)).2 4 (fun q => if 248 * 7 ≤ q ∧ q < 248 * 7 + 248 then (gpi T 5 (nI 7)).2 1 (0 + (q - 248 * 7)) else (gpi T 5 (nI 7)).2 4 q)) 7 (upd ((gpi T 5 (nI 7)).2 7) k ((gpi T 5 (nI 7)).2 7 k + nI 1))) : MS)) := by
  unfold gLX10_keeps_11
  rw [if_pos (by rw [n1736]; exact Int32.le_refl _), hd, Option.bind_some, n1, nI_sub (by omega), Option.bind_some, keeps_fin hk _ 7 (by rw [gpi_1, upd_s]) (by omega)]
  rfl
theorem keeps_loop {S : MS} (hd : S.1 5 = nI 8) {k : Nat} (hk : k < 6) : ∃ t, itr (fun s : Int32 × MS => gLX10_keeps_11 (nI k) s.1 s.2) ((0 : Int32), S) = some t ∧ ∃ u0 : Nat → Int32, t = ((upd S.1 5 (nI 8), setA (setA S.2 4 (fun q => if 248 * 7 ≤ q ∧ q < 248 * 7 + 248 then S.2 1 (0 + (q - 248 * 7)) else u0 q)) 7 (upd (S.2 7) k (S.2 7 k + nI 1))) : MS) ∧ ∀ q, q < 1736 → u0 q = S.2 4 (q + 248) := by
  generalize hN : 1736 = N
  refine itr_run N (fun c s => ∃ u, s = (nI c, ((S.1, setA S.2 4 u) : MS)) ∧ (∀ q, q < c → u q = S.2 4 (q + 248)) ∧ ∀ q, c ≤ q → u q = S.2 4 q) ?_ ?_ ?_
  · exact ⟨S.2 4, by rw [n0, setA_id], fun q h => by omega, fun q _ => rfl⟩
  · rintro c s hc ⟨u, rfl, h1, h2⟩
    left
    unfold gLX10_keeps_11
    rw [if_neg (by rw [n1736, nI_leN (by omega) (by omega)]; omega)]
    simp (disch := omega) only [n248, n1, nI_add, gx_bs, mK_a4, mK_s4, setA_s, setA_2]
    refine ⟨_, rfl, _, rfl, ?_, ?_⟩
    · intro q hq
      by_cases h3 : q = c
      · subst h3
        rw [upd_s, h2 _ (by omega)]
      · rw [upd_o h3]
        exact h1 q (by omega)
    · intro q hq
      rw [upd_o (by omega)]
      exact h2 q (by omega)
  · rintro s ⟨u, rfl, h1, h2⟩
    subst hN
    rw [keeps_end (T := ((S.1, setA S.2 4 u) : MS)) hd hk]
    refine ⟨_, rfl, u, ?_, h1⟩
    rw [gpi_1, gpi_2, upd_2]
    generalize 248 * 7 = z
    show ((upd S.1 5 (nI (7 + 1)), setA (setA (setA S.2 4 u) 4 (fun q => if z ≤ q ∧ q < z + 248 then (setA S.2 4 u) 1 (0 + (q - z)) else (setA S.2 4 u) 4 q)) 7 (upd ((setA S.2 4 u) 7) k ((setA S.2 4 u) 7 k + nI 1))) : MS) = _
    rw [setA_2, setA_s, setA_o (show 1 ≠ 4 by decide), setA_o (show 7 ≠ 4 by decide)]
theorem g_keeps {S : MS} {d : Nat} (hd : S.1 5 = nI d) (h8 : d ≤ 8) {k : Nat} (hk : k < 6) :
    ∃ u, gFX10_keeps (nI k) S = some ((upd S.1 5 (nI (min d 7 + 1)), setA (setA S.2 4 u) 7 (upd (S.2 7) k (S.2 7 k + nI 1))) : MS) ∧ (∀ q, q < 248 → u (248 * min d 7 + q) = S.2 1 q) ∧ (d = 8 → ∀ q, q < 1736 → u q = S.2 4 (q + 248)) ∧ (d < 8 → ∀ q, q < 248 * d → u q = S.2 4 q) := by
  unfold gFX10_keeps
  rw [hd]
  simp (disch := omega) only [Option.bind_some, n8, nI_eqN]
  by_cases h : d = 8
  · subst h
    rw [if_pos rfl]
    obtain ⟨t, f1, u0, rfl, f2⟩ := keeps_loop hd hk
    have em : min 8 7 = 7 := by decide
    rw [em]
    refine ⟨_, f1, ?_, ?_, fun z => absurd z (by decide)⟩
    · intro q hq
      show (if 248 * 7 ≤ 248 * 7 + q ∧ 248 * 7 + q < 248 * 7 + 248 then S.2 1 (0 + (248 * 7 + q - 248 * 7)) else u0 (248 * 7 + q)) = S.2 1 q
      rw [if_pos (by omega), show 0 + (248 * 7 + q - 248 * 7) = q by omega]
    · intro _ q hq
      show (if 248 * 7 ≤ q ∧ q < 248 * 7 + 248 then S.2 1 (0 + (q - 248 * 7)) else u0 q) = _
      rw [if_neg (by omega)]
      exact f2 q hq
  · rw [if_neg h, keeps_fin hk S d hd (by omega)]
    have em : min d 7 = d := by omega
    rw [em]
    refine ⟨_, rfl, ?_, fun z => by omega, ?_⟩
    · intro q hq
      show (if 248 * d ≤ 248 * d + q ∧ 248 * d + q < 248 * d + 248 then S.2 1 (0 + (248 * d + q - 248 * d)) else S.2 4 (248 * d + q)) = S.2 1 q
      rw [if_pos (by omega), show 0 + (248 * d + q - 248 * d) = q by omega]
    · intro _ q hq
      show (if 248 * d ≤ q ∧ q < 248 * d + 248 then S.2 1 (0 + (q - 248 * d)) else S.2 4 q) = _
      rw [if_neg (by omega)]
