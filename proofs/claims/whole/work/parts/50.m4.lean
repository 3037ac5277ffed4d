/-! the reference: the rules that stay; a monomial joins -/
def lastI (M : List (Nat × Nat)) (p : Nat × Nat) : Nat → Int32
  | 0 => m1
  | n + 1 => if M.getD n (0, 0) = p then nI n else lastI M p n
theorem lastI_take {M : List (Nat × Nat)} {p : Nat × Nat} (hM : M.Nodup) : ∀ n, n ≤ M.length → lastI M p n = if p ∈ M.take n then nI (M.idxOf p) else m1
  | 0, _ => by simp [lastI]
  | n + 1, h => by
    have hn : n < M.length := by omega
    have e : M.getD n (0, 0) = M[n] := by simp [List.getD_eq_getElem?_getD, hn]
    have et : M.take (n + 1) = M.take n ++ [M[n]] := by rw [List.take_append_getElem]
    unfold lastI
    rw [e]
    by_cases hp : M[n] = p
    · rw [if_pos hp, if_pos (by rw [et]; exact List.mem_append_right _ (List.mem_singleton.mpr hp.symm))]
      congr 1
      rw [← hp]
      exact (List.Nodup.idxOf_getElem hM n hn).symm
    · rw [if_neg hp, lastI_take hM n (by omega)]
      have : (p ∈ M.take (n + 1)) ↔ p ∈ M.take n := by
        rw [et, List.mem_append, List.mem_singleton]
        constructor
        · rintro (h | h)
          · exact h
          · exact absurd h.symm hp
        · exact Or.inl
      by_cases h2 : p ∈ M.take n
      · rw [if_pos h2, if_pos (this.mpr h2)]
      · rw [if_neg h2, if_neg (fun z => h2 (this.mp z))]
theorem lastI_ix {M : List (Nat × Nat)} {p : Nat × Nat} (hM : M.Nodup) : lastI M p M.length = ixI M p := by
  rw [lastI_take hM _ (Nat.le_refl _), List.take_length]
  rfl
def rb (M0 B0 : List (Nat × Nat)) (r0 : Nat → Nat → Nat) (M B : List (Nat × Nat)) (b k : Nat) : Nat := if B.getD b (0, 0) ∈ B0 ∧ M.getD k (0, 0) ∈ M0 then r0 (B0.idxOf (B.getD b (0, 0))) (M0.idxOf (M.getD k (0, 0))) else 0
theorem pair_eq {p q : Nat × Nat} : (p.1 = q.1 ∧ p.2 = q.2) ↔ p = q := by
  constructor
  · rintro ⟨h1, h2⟩; exact Prod.ext h1 h2
  · rintro rfl; exact ⟨rfl, rfl⟩
theorem g_ruleBefore {S : MS} {p0 : Nat} {M0 B0 M B : List (Nat × Nat)} {r0 : Nat → Nat → Nat} {pts0 : List (Nat × Nat)} (H0 : NowR (S.2 3) p0 M0 B0 r0 pts0) (HM : NowM (S.2 1) M) (HB : NowB (S.2 1) B) (nM : M0.Nodup) (nB : B0.Nodup) (s0 : small M0) (s1 : small B0) (s2 : small M) (s3 : small B) (l0 : M0.length ≤ 12) (l1 : B0.length ≤ 14) (l2 : M.length ≤ 12) (l3 : B.length ≤ 14) {b k : Nat} (hb : b < B.length) (hk : k < M.length) :
    gFX10_ruleBefore (nI b) (nI k) S = some (nI (rb M0 B0 r0 M B b k)) := by
  obtain ⟨-, HM0, HB0, -, Hr, -⟩ := H0
  have eb := HB.2 b hb
  have ek := HM.2 k hk
  unfold gFX10_ruleBefore
  rw [n1, nm1, n0]
  refine itr_val B0.length (fun n s => s = (lastI B0 (B.getD b (0, 0)) n, nI n)) rfl ?_ ?_
  · rintro n s hn rfl
    left
    refine ⟨_, ?_, rfl⟩
    have en := HB0.2 n hn
    unfold gLX10_ruleBefore_5 gBX10_ruleBefore_65 gBX10_ruleBefore_66
    simp (disch := omega) only [n2, n28, n42, n1, mK_a3, mK_a1, HB0.1, Option.bind_some, nI_leN, nI_add, en.1, en.2, eb.1, eb.2]
    have z1 := s1 n
    have z2 := s3 b
    rw [if_neg (by omega)]
    simp (disch := omega) only [nI_eqN]
    show _ = some (Sum.inl ((if B0.getD n (0, 0) = B.getD b (0, 0) then nI n else lastI B0 (B.getD b (0, 0)) n), nI (n + 1)))
    by_cases h1 : mx B0 n = mx B b
    · by_cases h2 : my B0 n = my B b
      · rw [if_pos h1, if_pos h2, if_pos (pair_eq.mp ⟨h1, h2⟩)]
      · rw [if_pos h1, if_neg h2, if_neg (fun z => h2 (pair_eq.mpr z).2)]
    · rw [if_neg h1, if_neg (fun z => h1 (pair_eq.mpr z).1)]
  · rintro s rfl
    have z3 : ∀ v : Int32, itr (fun s : Int32 × Int32 => gLX10_ruleBefore_79 (nI k) v s.1 s.2 S) ((-1 : Int32), (0 : Int32)) = (if v = m1 then some (nI 0) else if ixI M0 (M.getD k (0, 0)) = m1 then some (nI 0) else (gFX10_ruleAt v (ixI M0 (M.getD k (0, 0))) S).bind fun x6 => (gal mK S 3 x6).bind fun x7 => some x7) := by
      intro v
      have fin : ∃ t, itr (fun s : Int32 × Int32 => gLX10_ruleBefore_79 (nI k) v s.1 s.2 S) ((-1 : Int32), (0 : Int32)) = t := ⟨_, rfl⟩
      have hb1 : gLX10_ruleBefore_79 (nI k) v (ixI M0 (M.getD k (0, 0))) (nI M0.length) S = exL (if v = m1 then some (nI 0) else if ixI M0 (M.getD k (0, 0)) = m1 then some (nI 0) else (gFX10_ruleAt v (ixI M0 (M.getD k (0, 0))) S).bind fun x6 => (gal mK S 3 x6).bind fun x7 => some x7) := by
        unfold gLX10_ruleBefore_79
        simp (disch := omega) only [n1, n0, nm1, mK_a3, HM0.1, Option.bind_some, nI_leN]
        rw [if_pos (Nat.le_refl _)]
      have step : ∀ n, n < M0.length → gLX10_ruleBefore_79 (nI k) v (lastI M0 (M.getD k (0, 0)) n) (nI n) S = some (Sum.inl (lastI M0 (M.getD k (0, 0)) (n + 1), nI (n + 1))) := by
        intro n hn
        have en := HM0.2 n hn
        unfold gLX10_ruleBefore_79 gBX10_ruleBefore_137 gBX10_ruleBefore_139
        simp (disch := omega) only [n4, n16, n1, mK_a3, mK_a1, HM0.1, Option.bind_some, nI_leN, nI_add, en.1, en.2, ek.1, ek.2]
        have z1 := s0 n
        have z2 := s2 k
        rw [if_neg (by omega)]
        simp (disch := omega) only [nI_eqN]
        show _ = some (Sum.inl ((if M0.getD n (0, 0) = M.getD k (0, 0) then nI n else lastI M0 (M.getD k (0, 0)) n), nI (n + 1)))
        by_cases h1 : mx M0 n = mx M k
        · by_cases h2 : my M0 n = my M k
          · rw [if_pos h1, if_pos h2, if_pos (pair_eq.mp ⟨h1, h2⟩)]
          · rw [if_pos h1, if_neg h2, if_neg (fun z => h2 (pair_eq.mpr z).2)]
        · rw [if_neg h1, if_neg (fun z => h1 (pair_eq.mpr z).1)]
      have run : ∀ n, n ≤ M0.length → itr (fun s : Int32 × Int32 => gLX10_ruleBefore_79 (nI k) v s.1 s.2 S) ((-1 : Int32), (0 : Int32)) = itr (fun s : Int32 × Int32 => gLX10_ruleBefore_79 (nI k) v s.1 s.2 S) (lastI M0 (M.getD k (0, 0)) n, nI n) := by
        intro n
        induction n with
        | zero => intro _; rw [n1, nm1, n0]; rfl
        | succ n ih => intro h; rw [ih (by omega)]; exact itr_inl (step n (by omega))
      rw [run _ (Nat.le_refl _), lastI_ix nM]
      cases e : (if v = m1 then some (nI 0) else if ixI M0 (M.getD k (0, 0)) = m1 then some (nI 0) else (gFX10_ruleAt v (ixI M0 (M.getD k (0, 0))) S).bind fun x6 => (gal mK S 3 x6).bind fun x7 => some x7) with
      | some t => exact itr_inr (by rw [hb1, e]; rfl)
      | none =>
        cases e2 : itr (fun s : Int32 × Int32 => gLX10_ruleBefore_79 (nI k) v s.1 s.2 S) (ixI M0 (M.getD k (0, 0)), nI M0.length) with
        | none => rfl
        | some t =>
          obtain ⟨n, hn⟩ := itr_iff.mp e2
          cases n with
          | zero => cases hn
          | succ n => unfold itrN at hn; rw [hb1, e] at hn; cases hn
    unfold gLX10_ruleBefore_5
    simp (disch := omega) only [n2, mK_a3, HB0.1, Option.bind_some, nI_leN]
    rw [if_pos (Nat.le_refl _), z3, lastI_ix nB]
    simp only [ixI_m1 (M := B0) (p := B.getD b (0, 0)) (show B0.length < 2 ^ 31 by omega), ixI_m1 (M := M0) (p := M.getD k (0, 0)) (show M0.length < 2 ^ 31 by omega)]
    unfold rb
    by_cases h1 : B.getD b (0, 0) ∈ B0
    · by_cases h2 : M.getD k (0, 0) ∈ M0
      · rw [if_neg (by simpa using h1), if_neg (by simpa using h2), if_pos ⟨h1, h2⟩]
        unfold ixI gFX10_ruleAt
        have q1 := List.idxOf_lt_length_of_mem h1
        have q2 := List.idxOf_lt_length_of_mem h2
        have := Hr _ _ q1 q2
        rw [if_pos h1, if_pos h2]
        simp (disch := omega) only [n56, n12, nI_mul, nI_add, Option.bind_some, mK_a3, Nat.add_assoc, this]
        rfl
      · rw [if_neg (by simpa using h1), if_pos h2, if_neg (fun z => h2 z.2)]
        rfl
    · rw [if_pos h1, if_neg (fun z => h1 z.1)]
      rfl
theorem g_laysAgain {S : MS} {p p0 : Nat} {M0 B0 M : List (Nat × Nat)} {r0 : Nat → Nat → Nat} {pts0 pts : List (Nat × Nat)} (H0 : NowR (S.2 3) p0 M0 B0 r0 pts0) (HM : NowM (S.2 1) M) (nM : M0.Nodup) (nB : B0.Nodup) (s0 : small M0) (s1 : small B0) (l0 : M0.length ≤ 12) (l1 : B0.length ≤ 14) (ok : okB M) (lB : (laysB M).length ≤ 13) (hp : S.2 1 0 = nI p) (h3 : S.2 1 3 = nI pts.length) (hpt : rowR (S.2 1) 224 236 pts) (lp : pts.length ≤ 12) :
    ∃ g, gFX10_laysAgain S = some (S.1, setA S.2 1 g) ∧ NowR g p M (laysB M) (rb M0 B0 r0 M (laysB M)) pts := by
  obtain ⟨g, e, hM, hB, hz, hf⟩ := g_laysBorder HM ok
  have l12 := ok.1
  have sB : small (laysB M) := Bk_small ok _
  unfold gFX10_laysAgain
  rw [e]
  simp only [Option.bind_some]
  have key : ∃ t, itr (fun s : Int32 × MS => gLX10_laysAgain_6 s.1 s.2) ((0 : Int32), ((S.1, setA S.2 1 g) : MS)) = some t ∧ ∃ g, t = ((S.1, setA S.2 1 g) : MS) ∧ NowR g p M (laysB M) (rb M0 B0 r0 M (laysB M)) pts := by
    let fr : (Nat → Int32) → Prop := fun g1 => ∀ q, ¬ (56 ≤ q ∧ q < 224) → g1 q = g q
    have frM : ∀ g1, fr g1 → NowM g1 M := fun g1 h => hM.fr l12 (fun q a b => h q (by omega))
    have frB : ∀ g1, fr g1 → NowB g1 (laysB M) := fun g1 h => ⟨by rw [h 2 (by omega)]; exact hB.1, fun k hk => by rw [h (28 + k) (by omega), h (42 + k) (by omega)]; exact hB.2 k hk⟩
    refine itr_run (laysB M).length (fun b s => ∃ g1, s = (nI b, ((S.1, setA S.2 1 g1) : MS)) ∧ fr g1 ∧ ∀ b' k', b' < b → k' < M.length → g1 (56 + (12 * b' + k')) = nI (rb M0 B0 r0 M (laysB M) b' k')) ?_ ?_ ?_
    · exact ⟨g, by rw [n0], fun q _ => rfl, fun b' k' h => by omega⟩
    · rintro b s hb ⟨g1, rfl, h1, h2⟩
      left
      unfold gLX10_laysAgain_6
      have e0 : ∀ g2, (setA S.2 1 g2) 1 = g2 := fun g2 => setA_s
      simp (disch := omega) only [n2, mK_a1, e0, (frB g1 h1).1, Option.bind_some, nI_leN]
      rw [if_neg (by omega)]
      have inner : ∃ t, itr (fun s : Int32 × MS => gLX10_laysAgain_18 (nI b) s.1 s.2) ((0 : Int32), ((S.1, setA S.2 1 g1) : MS)) = some t ∧ ∃ g2, t = Sum.inl (nI (b + 1), ((S.1, setA S.2 1 g2) : MS)) ∧ fr g2 ∧ ∀ b' k', b' < b + 1 → k' < M.length → g2 (56 + (12 * b' + k')) = nI (rb M0 B0 r0 M (laysB M) b' k') := by
        refine itr_run M.length (fun k s => ∃ g2, s = (nI k, ((S.1, setA S.2 1 g2) : MS)) ∧ fr g2 ∧ (∀ b' k', b' < b → k' < M.length → g2 (56 + (12 * b' + k')) = nI (rb M0 B0 r0 M (laysB M) b' k')) ∧ ∀ k', k' < k → g2 (56 + (12 * b + k')) = nI (rb M0 B0 r0 M (laysB M) b k')) ?_ ?_ ?_
        · exact ⟨g1, by rw [n0], h1, h2, fun k' h => by omega⟩
        · rintro k s hk ⟨g2, rfl, k1, k2, k3⟩
          left
          have hM2 : NowM (((S.1, setA S.2 1 g2) : MS).2 1) M := by show NowM ((setA S.2 1 g2) 1) M; rw [e0]; exact frM g2 k1
          have hB2 : NowB (((S.1, setA S.2 1 g2) : MS).2 1) (laysB M) := by show NowB ((setA S.2 1 g2) 1) _; rw [e0]; exact frB g2 k1
          have hR2 : NowR (((S.1, setA S.2 1 g2) : MS).2 3) p0 M0 B0 r0 pts0 := by show NowR ((setA S.2 1 g2) 3) _ _ _ _ _; rw [setA_o (by decide)]; exact H0
          unfold gLX10_laysAgain_18
          rw [g_n hM2, g_ruleBefore hR2 hM2 hB2 nM nB s0 s1 ok.small sB l0 l1 l12 (by omega) hb hk]
          unfold gFX10_ruleAt
          simp (disch := omega) only [n56, n12, n1, nI_mul, nI_add, Option.bind_some, nI_leN, mK_s1, e0, setA_2]
          rw [if_neg (by omega)]
          refine ⟨_, rfl, _, rfl, ?_, ?_, ?_⟩
          · intro q hq
            rw [upd_o (by omega)]
            exact k1 q hq
          · intro b' k' hb' hk'
            rw [upd_o (by omega)]
            exact k2 b' k' hb' hk'
          · intro k' hk'
            by_cases h : k' = k
            · subst h
              rw [show 56 + (12 * b + k') = 56 + 12 * b + k' by omega, upd_s]
            · rw [upd_o (by omega)]
              exact k3 k' (by omega)
        · rintro s ⟨g2, rfl, k1, k2, k3⟩
          have hM2 : NowM (((S.1, setA S.2 1 g2) : MS).2 1) M := by show NowM ((setA S.2 1 g2) 1) M; rw [e0]; exact frM g2 k1
          unfold gLX10_laysAgain_18
          rw [g_n hM2]
          simp (disch := omega) only [Option.bind_some, nI_leN, n1, nI_add]
          rw [if_pos (Nat.le_refl _)]
          refine ⟨_, rfl, g2, rfl, k1, fun b' k' hb' hk' => ?_⟩
          by_cases h : b' = b
          · subst h; exact k3 k' hk'
          · exact k2 b' k' (by omega) hk'
      obtain ⟨t, e1, g2, rfl, k1, k2⟩ := inner
      rw [e1]
      exact ⟨_, rfl, g2, rfl, k1, k2⟩
    · rintro s ⟨g1, rfl, h1, h2⟩
      have e0 : (setA S.2 1 g1) 1 = g1 := setA_s
      unfold gLX10_laysAgain_6
      simp (disch := omega) only [n2, mK_a1, e0, (frB g1 h1).1, Option.bind_some, nI_leN]
      rw [if_pos (Nat.le_refl _)]
      refine ⟨_, rfl, g1, rfl, ?_, frM g1 h1, frB g1 h1, ?_, h2, ?_⟩
      · rw [h1 0 (by omega), hf 0 (by omega) (by omega)]; exact hp
      · rw [h1 3 (by omega), hf 3 (by omega) (by omega)]; exact h3
      · intro k hk
        rw [h1 (224 + k) (by omega), h1 (236 + k) (by omega), hf _ (by omega) (by omega), hf _ (by omega) (by omega)]
        exact hpt k hk
  obtain ⟨t, e1, g2, rfl, h⟩ := key
  exact ⟨g2, e1, h⟩
