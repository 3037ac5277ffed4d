/-! the reference: a rule solved whole -/
/-- the equations: the pivots' columns, the border monomial's -/
def sW (p : Nat) (pts : List (Nat × Nat)) (pv : Nat → Nat) (cb : Nat) : Nat → Nat → Nat := fun q k => if k < pts.length then valM p pts q (pv k) else valM p pts q cb
section
variable {S : MS} {p : Nat} {pts : List (Nat × Nat)}
theorem m_solves {rr : Nat → Nat → Nat} {b : Nat} (hp : p ∈ prs) (hpts : pin pts p) (h1 : 1 ≤ pts.length) (H : RC (S.2 1) p (fitH p pts) rr pts) (hb : b < (Lb (fitH p pts)).length) :
    ∃ T, gFX10_solves (nI b) S = some T ∧ RC (T.2 1) p (fitH p pts) (fun b' k => if b' = b then fitR p pts b k else rr b' k) pts ∧ T.1 = S.1 ∧ ∀ j, j ≠ 1 → j ≠ 20 → j ≠ 21 → j ≠ 24 → T.2 j = S.2 j := by
  have pb := prs_b p hp
  have lm := hpts.1
  obtain ⟨w, hL, hrk, hlen⟩ := fit_all hp hpts h1
  have HR := fit_RD (pts := pts) hp
  rw [hrk] at HR
  have hfR : ∀ k, fitR p pts b k = (fitT p pts).2.2.1 k (colN ((Lb (fitH p pts)).getD b (0, 0))) := fun _ => rfl
  generalize (fitT p pts).2.2.2 = pv at HR hL
  generalize (fitT p pts).2.2.1 = B at HR hfR
  have hMat : ∀ k, k < pts.length → mx (Lm (fitH p pts)) k = (dec (pv k)).1 ∧ my (Lm (fitH p pts)) k = (dec (pv k)).2 := fun k hk => by
    unfold mx my
    rw [hL, getD_map hk]
    exact ⟨rfl, rfl⟩
  have bmem := Lb_mem hb
  have bsm := Lb_at w hb
  have cb : colN ((Lb (fitH p pts)).getD b (0, 0)) < tri (pts.length + 1) := by
    have := deg_b w bmem
    rw [hlen] at this
    exact col_C this
  have hW0 : bdM (sW p pts pv (colN ((Lb (fitH p pts)).getD b (0, 0)))) pts.length (pts.length + 1) p := by
    intro q k _ _
    unfold sW
    split
    · exact Nat.mod_lt _ (by omega)
    · exact Nat.mod_lt _ (by omega)
  have wM : ∀ q k, k < pts.length → sW p pts pv (colN ((Lb (fitH p pts)).getD b (0, 0))) q k = mvN p (mx pts q) (my pts q) (mx (Lm (fitH p pts)) k) (my (Lm (fitH p pts)) k) := fun q k hk => by
    unfold sW valM
    rw [if_pos hk, (hMat k hk).1, (hMat k hk).2]
  have wB : ∀ q, sW p pts pv (colN ((Lb (fitH p pts)).getD b (0, 0))) q pts.length = mvN p (mx pts q) (my pts q) (mx (Lb (fitH p pts)) b) (my (Lb (fitH p pts)) b) := fun q => by
    unfold sW valM
    rw [if_neg (Nat.lt_irrefl _), dec_col]
    rfl
  generalize hW : sW p pts pv (colN ((Lb (fitH p pts)).getD b (0, 0))) = W at hW0 wM wB
  -- what stays while the equations are laid
  have okS : ∀ {T : MS}, only S T (fun j => j = 20 ∨ j = 21 ∨ j = 24) → T.2 1 = S.2 1 := fun o => o.2 1 (by decide)
  have HpS : S.2 1 0 = nI p := H.1
  have fill : ∃ T1, only S T1 (fun j => j = 20 ∨ j = 21 ∨ j = 24) ∧ TR (T1.2 24) pts.length W ∧ gFX10_solves (nI b) S = itr (fun s : Int32 × MS => gLX10_solves_106 (nI b) (nI pts.length) s.1 s.2) (nI 0, T1) := by
    -- a row of equations
    have row : ∀ q T, q < pts.length → only S T (fun j => j = 20 ∨ j = 21 ∨ j = 24) → (∀ q' k, q' < q → k < 13 → (k < pts.length ∨ k = 12) → T.2 24 (13 * q' + k) = nI (W q' (lc pts.length k))) → ∃ T', itr (fun s : Int32 × MS => gLX10_solves_15 (nI b) (nI pts.length) (nI q) s.1 s.2) (nI 0, T) = some (.inl (nI (q + 1), T')) ∧ only S T' (fun j => j = 20 ∨ j = 21 ∨ j = 24) ∧ ∀ q' k, q' < q + 1 → k < 13 → (k < pts.length ∨ k = 12) → T'.2 24 (13 * q' + k) = nI (W q' (lc pts.length k)) := by
      intro q T hq oT hT
      have key : ∃ t, itr (fun s : Int32 × MS => gLX10_solves_15 (nI b) (nI pts.length) (nI q) s.1 s.2) (nI 0, T) = some t ∧ ∃ T', t = .inl (nI (q + 1), T') ∧ only S T' (fun j => j = 20 ∨ j = 21 ∨ j = 24) ∧ ∀ q' k, q' < q + 1 → k < 13 → (k < pts.length ∨ k = 12) → T'.2 24 (13 * q' + k) = nI (W q' (lc pts.length k)) := by
        refine itr_run pts.length (fun k s => ∃ U, s = (nI k, U) ∧ only S U (fun j => j = 20 ∨ j = 21 ∨ j = 24) ∧ (∀ q' k', q' < q → k' < 13 → (k' < pts.length ∨ k' = 12) → U.2 24 (13 * q' + k') = nI (W q' (lc pts.length k'))) ∧ ∀ k', k' < k → U.2 24 (13 * q + k') = nI (W q k')) ⟨T, rfl, oT, hT, fun k' h => by omega⟩ ?_ ?_
        · rintro k s hk ⟨U, rfl, oU, u1, u2⟩
          left
          have m1' := H.2.1.2 k (by omega)
          have ml := Lm_at w (k := k) (by omega)
          obtain ⟨V, v1, v2⟩ := m_valueAt (S := U) (pts := pts) (by rw [okS oU]; exact HpS) (by rw [okS oU]; exact H.2.2.2.2.2) (by omega) (by omega) hpts (show mx (Lm (fitH p pts)) k ≤ 12 by omega) (show my (Lm (fitH p pts)) k ≤ 12 by omega) hq
          unfold gLX10_solves_15
          dsimp only
          rw [if_neg (by rw [nI_leN (by omega) (by omega)]; omega), n4, n16, nI_add, nI_add, mK_a1 (by omega), gx_bs, mK_a1 (by omega), gx_bs, okS oU, m1'.1, m1'.2, v1, b2s, n13, nI_mul, nI_add, mK_s24 (by omega), gx_bs, n1, nI_add, ← wM q k hk]
          refine ⟨_, rfl, _, rfl, ⟨by rw [mp1, v2.1]; exact oU.1, fun j hj => ?_⟩, fun q' k' hq' hk' h => ?_, fun k' hk' => ?_⟩
          · rw [mp2, setA_o (by omega), v2.2 j (by omega)]; exact oU.2 j hj
          · rw [mp2, setA_s, upd_o (by omega), v2.2 24 (by decide)]; exact u1 q' k' hq' hk' h
          · rw [mp2, setA_s]
            by_cases e : k' = k
            · rw [e, upd_s]
            · rw [upd_o (by omega), v2.2 24 (by decide)]; exact u2 k' (by omega)
        · rintro s ⟨U, rfl, oU, u1, u2⟩
          have m1' := H.2.2.1.2 b hb
          have lb := (Lm_len w).2.2.2.1
          obtain ⟨V, v1, v2⟩ := m_valueAt (S := U) (pts := pts) (by rw [okS oU]; exact HpS) (by rw [okS oU]; exact H.2.2.2.2.2) (by omega) (by omega) hpts (show mx (Lb (fitH p pts)) b ≤ 12 by omega) (show my (Lb (fitH p pts)) b ≤ 12 by omega) hq
          unfold gLX10_solves_15
          dsimp only
          rw [if_pos (by rw [nI_leN (by omega) (by omega)]; omega), n28, n42, nI_add, nI_add, mK_a1 (by omega), gx_bs, mK_a1 (by omega), gx_bs, okS oU, m1'.1, m1'.2, v1, b2s, n13, n12, nI_mul, nI_add, mK_s24 (by omega), gx_bs, n1, nI_add, ← wB q]
          refine ⟨_, rfl, _, rfl, ⟨by rw [mp1, v2.1]; exact oU.1, fun j hj => ?_⟩, fun q' k' hq' hk' h => ?_⟩
          · rw [mp2, setA_o (by omega), v2.2 j (by omega)]; exact oU.2 j hj
          · rw [mp2, setA_s]
            by_cases e : q' = q ∧ k' = 12
            · rw [e.1, e.2, upd_s]
              unfold lc
              rw [if_pos rfl]
            · rw [upd_o (by omega), v2.2 24 (by decide)]
              by_cases eq : q' = q
              · have hk2 : k' ≠ 12 := fun z => e ⟨eq, z⟩
                rw [eq, u2 k' (by omega)]
                unfold lc
                rw [if_neg hk2]
              · exact u1 q' k' (by omega) hk' h
      obtain ⟨t, i1, T', rfl, i2, i3⟩ := key
      exact ⟨T', i1, i2, i3⟩
    have all : ∀ n q T, q + n = pts.length → only S T (fun j => j = 20 ∨ j = 21 ∨ j = 24) → (∀ q' k, q' < q → k < 13 → (k < pts.length ∨ k = 12) → T.2 24 (13 * q' + k) = nI (W q' (lc pts.length k))) → ∃ T1, only S T1 (fun j => j = 20 ∨ j = 21 ∨ j = 24) ∧ TR (T1.2 24) pts.length W ∧ itr (fun s : Int32 × MS => gLX10_solves_7 (nI b) (nI pts.length) s.1 s.2) (nI q, T) = itr (fun s : Int32 × MS => gLX10_solves_106 (nI b) (nI pts.length) s.1 s.2) (nI 0, T1) := by
      intro n
      induction n with
      | zero =>
        intro q T hq oT hT
        obtain rfl : q = pts.length := by omega
        refine ⟨T, oT, fun q k h1 h2 h3 => hT q k h1 h2 h3, itr_exL ?_⟩
        unfold gLX10_solves_7
        dsimp only
        rw [if_pos (by rw [nI_leN (by omega) (by omega)]; omega), n0]
      | succ n ih =>
        intro q T hq oT hT
        obtain ⟨T', r1, r2, r3⟩ := row q T (by omega) oT hT
        obtain ⟨T1, s1, s2, s3⟩ := ih (q + 1) T' (by omega) r2 r3
        refine ⟨T1, s1, s2, ?_⟩
        rw [← s3]
        refine itr_inl ?_
        unfold gLX10_solves_7
        dsimp only
        rw [if_neg (by rw [nI_leN (by omega) (by omega)]; omega), n0, r1]
    obtain ⟨T1, s1, s2, s3⟩ := all pts.length 0 S (by omega) ⟨rfl, fun _ _ => rfl⟩ (fun q' k h => by omega)
    refine ⟨T1, s1, s2, ?_⟩
    unfold gFX10_solves
    rw [g_n H.2.1, gx_bs, hlen, n0, s3]
  obtain ⟨T1, o1, t1, hrun⟩ := fill
  have HpT : T1.2 1 0 = nI p := by rw [okS o1]; exact HpS
  have self : T1 = ((T1.1, setA T1.2 24 (T1.2 24)) : MS) := setA_id.symm
  have cols : ∃ g W', TR g pts.length W' ∧ EC p pts.length (pts.length + 1) pts.length pts.length W' (fun k => k) ∧ rIn p pts.length (pts.length + 1) W' W ∧ itr (fun s : Int32 × MS => gLX10_solves_106 (nI b) (nI pts.length) s.1 s.2) (nI 0, T1) = itr (fun s : Int32 × MS => gLX10_solves_345 (nI b) (nI pts.length) s.1 s.2) (nI 0, ((T1.1, setA T1.2 24 g) : MS)) := by
    have all : ∀ n c g V, c + n = pts.length → TR g pts.length V → EC p pts.length (pts.length + 1) c c V (fun k => k) → rIn p pts.length (pts.length + 1) V W → ∃ g' W', TR g' pts.length W' ∧ EC p pts.length (pts.length + 1) pts.length pts.length W' (fun k => k) ∧ rIn p pts.length (pts.length + 1) W' W ∧ itr (fun s : Int32 × MS => gLX10_solves_106 (nI b) (nI pts.length) s.1 s.2) (nI c, ((T1.1, setA T1.2 24 g) : MS)) = itr (fun s : Int32 × MS => gLX10_solves_345 (nI b) (nI pts.length) s.1 s.2) (nI 0, ((T1.1, setA T1.2 24 g') : MS)) := by
      intro n
      induction n with
      | zero =>
        intro c g V hc hT hE hF
        obtain rfl : c = pts.length := by omega
        refine ⟨g, V, hT, hE, hF, itr_exL ?_⟩
        unfold gLX10_solves_106
        dsimp only
        rw [if_pos (by rw [nI_leN (by omega) (by omega)]; omega), n0]
      | succ n ih =>
        intro c g V hc hT hE hF
        have hex : ¬ ∀ r, c ≤ r → r < pts.length → V r c = 0 := by
          intro hz
          refine HR.new2 (by omega) (k := c) (N := c) (x := fun k => V k c) (f := pv) (by omega) (fun m hm => HR.1.2.2.2.1 m c hm (by omega)) fun s hs => ?_
          have h1 := hE.comb (by omega) hF (j := c) (by omega) hz hs
          have e1 : ∀ k, k ≤ c → W s k = valM p pts s (pv k) := fun k hk => by
            rw [← hW]
            unfold sW
            rw [if_pos (by omega)]
          rw [e1 c (Nat.le_refl _)] at h1
          rw [h1]
          congr 1
          exact sm_congr c fun k hk => by rw [e1 k (by omega)]
        obtain ⟨g', V', s1, s2, s3, s4⟩ := m_sCol (S := T1) (b := b) HpT hp lm hE hF hT (by omega) hex
        obtain ⟨g2, W', u1, u2, u3, u4⟩ := ih (c + 1) g' V' (by omega) s2 s3 s4
        exact ⟨g2, W', u1, u2, u3, by rw [← u4]; exact itr_inl s1⟩
    obtain ⟨g, W', u1, u2, u3, u4⟩ := all pts.length 0 (T1.2 24) W (by omega) t1 ⟨hW0, by omega, fun k hk => by omega, fun k k' _ h => by omega, fun k r hk => by omega, fun r j _ _ h => by omega, fun r j h => by omega⟩ rIn.rf
    rw [← self] at u4
    exact ⟨g, W', u1, u2, u3, u4⟩
  obtain ⟨g, W', c1, c2, c3, c4⟩ := cols
  -- the solution
  have sol : ∀ k, k < pts.length → W' k pts.length = B k (colN ((Lb (fitH p pts)).getD b (0, 0))) := by
    intro k hk
    have e1 : ∀ k s, k < pts.length → W s k = valM p pts s (pv k) := fun k s hk => by
      rw [← hW]
      unfold sW
      rw [if_pos hk]
    have e2 : ∀ s, W s pts.length = valM p pts s (colN ((Lb (fitH p pts)).getD b (0, 0))) := fun s => by
      rw [← hW]
      unfold sW
      rw [if_neg (Nat.lt_irrefl _)]
    have := HR.uniq (by omega) (x := fun k => W' k pts.length) (y := fun k => B k (colN ((Lb (fitH p pts)).getD b (0, 0)))) (fun s hs => by
      have h1 := c2.comb (by omega) c3 (j := pts.length) (by omega) (fun r h1 h2 => by omega) hs
      rw [e2 s, HR.comb hs cb] at h1
      rw [h1]
      congr 1
      exact (sm_congr pts.length fun k hk => by rw [e1 k s hk]).symm) hk
    rw [Nat.mod_eq_of_lt (c2.1 k pts.length hk (by omega)), Nat.mod_eq_of_lt (HR.1.1 k _ hk cb)] at this
    exact this
  have lb := (Lm_len w).2.2.2.1
  have fin : ∃ x, itr (fun s : Int32 × MS => gLX10_solves_345 (nI b) (nI pts.length) s.1 s.2) (nI 0, ((T1.1, setA T1.2 24 g) : MS)) = some x ∧ ∃ u, x = ((T1.1, setA (setA T1.2 24 g) 1 u) : MS) ∧ RC u p (fitH p pts) (fun b' k => if b' = b ∧ k < pts.length then fitR p pts b k else rr b' k) pts := by
    refine itr_run pts.length (fun k s => ∃ u, s = (nI k, ((T1.1, setA (setA T1.2 24 g) 1 u) : MS)) ∧ RC u p (fitH p pts) (fun b' j => if b' = b ∧ j < k then fitR p pts b j else rr b' j) pts) ⟨S.2 1, ?_, ?_⟩ ?_ ?_
    · refine Prod.ext rfl (Prod.ext rfl ?_)
      show setA T1.2 24 g = setA (setA T1.2 24 g) 1 (S.2 1)
      funext j
      by_cases e : j = 1
      · rw [e, setA_s, setA_o (by decide), okS o1]
      · rw [setA_o e]
    · have : (fun b' j => if b' = b ∧ j < 0 then fitR p pts b j else rr b' j) = rr := by
        funext b' j
        rw [if_neg (by omega)]
      rw [this]
      exact H
    · rintro k s hk ⟨u, rfl, hu⟩
      left
      have g1 := c1 k 12 hk (by omega) (Or.inr rfl)
      have hl : lc pts.length 12 = pts.length := by unfold lc; rw [if_pos rfl]
      rw [hl, sol k hk, ← hfR] at g1
      have hset := m_setRule (S := ((T1.1, setA (setA T1.2 24 g) 1 u) : MS)) (by rw [mp2, setA_s]; exact hu) w (v := fitR p pts b k) hb (show k < (Lm (fitH p pts)).length by omega) lm
      rw [mp2, setA_s] at hset
      unfold gLX10_solves_345 gFX10_ruleAt
      dsimp only
      rw [if_neg (by rw [nI_leN (by omega) (by omega)]; omega), n56, n12, n13, nI_mul, nI_add, nI_add, gx_bs, nI_mul, nI_add, mK_a24 (by omega), gx_bs]
      have g2 : ((T1.1, setA (setA T1.2 24 g) 1 u) : MS).2 24 (13 * k + 12) = nI (fitR p pts b k) := by rw [mp2, setA_o (by decide), setA_s, g1]
      rw [g2, mK_s1 (by omega), gx_bs, n1, nI_add]
      refine ⟨_, rfl, upd u (56 + 12 * b + k) (nI (fitR p pts b k)), ?_, ?_⟩
      · simp only [mp1, mp2, setA_s, setA_2]
      · have : (fun b' j => if b' = b ∧ j < k + 1 then fitR p pts b j else rr b' j) = (fun b' j => if b' = b ∧ j = k then fitR p pts b k else (fun b' j => if b' = b ∧ j < k then fitR p pts b j else rr b' j) b' j) := by
          funext b' j
          dsimp only
          by_cases e1 : b' = b ∧ j = k
          · rw [if_pos e1, if_pos (by omega), e1.2]
          · rw [if_neg e1]
            by_cases e2 : b' = b ∧ j < k
            · rw [if_pos e2, if_pos (by omega)]
            · rw [if_neg e2, if_neg (by omega)]
        rw [this]
        exact hset
    · rintro s ⟨u, rfl, hu⟩
      unfold gLX10_solves_345
      dsimp only
      rw [if_pos (by rw [nI_leN (by omega) (by omega)]; omega)]
      exact ⟨_, rfl, u, rfl, hu⟩
  obtain ⟨x, f1, u, rfl, f2⟩ := fin
  refine ⟨_, by rw [hrun, c4]; exact f1, ?_, by rw [mp1]; exact o1.1, fun j j1 j2 j3 j4 => ?_⟩
  · rw [mp2, setA_s]
    refine ⟨f2.1, f2.2.1, f2.2.2.1, f2.2.2.2.1, fun b' k hb' hk => ?_, f2.2.2.2.2.2⟩
    rw [f2.2.2.2.2.1 b' k hb' hk]
    dsimp only
    by_cases e : b' = b
    · rw [if_pos ⟨e, by omega⟩, if_pos e]
    · rw [if_neg (by omega), if_neg e]
  · rw [mp2, setA_o j1, setA_o j4]
    exact o1.2 j (by omega)
end
