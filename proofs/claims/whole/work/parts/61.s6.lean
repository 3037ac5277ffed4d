/-! points and coefficients, of both sides -/
def pin (pts : List (Nat × Nat)) (p : Nat) : Prop := pts.length ≤ 12 ∧ pts.Nodup ∧ ∀ q ∈ pts, q.1 < p ∧ q.2 < p
theorem row2.erase {f g f' g' : Nat → Int32} {L : List (Nat × Nat)} {c : Nat} (H : row2 f g L) (hc : c < L.length) (h1 : ∀ q, q < c → f' q = f q ∧ g' q = g q) (h2 : ∀ q, c ≤ q → q + 1 < L.length → f' q = f (q + 1) ∧ g' q = g (q + 1)) : row2 f' g' (L.eraseIdx c) := by
  intro k hk
  rw [List.length_eraseIdx, if_pos hc] at hk
  unfold mx my
  rw [erase_at]
  by_cases h : k < c
  · rw [if_pos h, (h1 k h).1, (h1 k h).2]; exact H k (by omega)
  · rw [if_neg h, (h2 k (by omega) (by omega)).1, (h2 k (by omega) (by omega)).2]; exact H (k + 1) (by omega)
section
variable {S : MS} {p : Nat} {ht : Nat → Nat} {r : Nat → Nat → Nat} {pts : List (Nat × Nat)}
theorem s_hasPoint (H : ST S p ht r pts) (lp : pts.length ≤ 12) (sp : small pts) {a b : Nat} (ha : a < 2 ^ 31) (hb : b < 2 ^ 31) : gFX5_hasPoint (nI a) (nI b) S = some (bI (decide ((a, b) ∈ pts))) := by
  have e : ∀ k, k < pts.length → ((S.2 7 k = nI a ∧ S.2 8 k = nI b) ↔ pts.getD k (0, 0) = (a, b)) := by
    intro k hk
    have h := H.2.2.2.2.2 k hk
    have s := sp k
    rw [h.1, h.2, nI_eqN (by omega) ha, nI_eqN (by omega) hb]
    exact pair_eq (p := (mx pts k, my pts k)) (q := (a, b))
  unfold gFX5_hasPoint
  rw [n0]
  refine itr_val pts.length (fun k s => s = nI k ∧ ∀ q, q < k → pts.getD q (0, 0) ≠ (a, b)) ⟨rfl, fun q h => by omega⟩ ?_ ?_
  · rintro k s hk ⟨rfl, hq⟩
    unfold gLX5_hasPoint_2 gBX5_hasPoint_32
    simp (disch := omega) only [gx_bs, H.2.2.2.2.1, nI_leN, n1, nI_add, sK_a7, sK_a8]
    rw [if_neg (by omega)]
    have e' := e k hk
    by_cases h : S.2 7 k = nI a ∧ S.2 8 k = nI b
    · right
      rw [if_pos h.1, if_pos h.2]
      have hm : (a, b) ∈ pts := by
        rw [← e'.mp h, List.getD_eq_getElem?_getD, List.getElem?_eq_getElem hk]
        exact List.getElem_mem hk
      rw [decide_eq_true hm]
      rfl
    · left
      have : (if S.2 7 k = nI a then if S.2 8 k = nI b then (exL (some (nI 1)) : Option (Int32 ⊕ Int32)) else some (Sum.inl (nI (k + 1))) else some (Sum.inl (nI (k + 1)))) = some (Sum.inl (nI (k + 1))) := by
        by_cases h1 : S.2 7 k = nI a
        · rw [if_pos h1, if_neg (fun z => h ⟨h1, z⟩)]
        · rw [if_neg h1]
      rw [this]
      refine ⟨_, rfl, rfl, fun q hq2 => ?_⟩
      by_cases h3 : q = k
      · subst h3; exact fun z => h (e'.mpr z)
      · exact hq q (by omega)
  · rintro s ⟨rfl, hq⟩
    unfold gLX5_hasPoint_2
    simp (disch := omega) only [gx_bs, H.2.2.2.2.1, nI_leN, n0]
    rw [if_pos (Nat.le_refl _)]
    have hm : ¬ (a, b) ∈ pts := by
      intro z
      obtain ⟨k, hk, e2⟩ := List.getElem_of_mem z
      refine hq k hk ?_
      rw [List.getD_eq_getElem?_getD, List.getElem?_eq_getElem hk, e2]
      rfl
    rw [decide_eq_false hm]
    rfl
theorem s_appendPoint (H : ST S p ht r pts) (lp : pts.length < 12) (a b : Nat) : ∃ T, gFX5_appendPoint (nI a) (nI b) S = some T ∧ ST T p ht r (pts ++ [(a, b)]) := by
  unfold gFX5_appendPoint
  simp (disch := omega) only [gx_bs, H.2.2.2.2.1, n12, n1, nI_leN, nI_add, sK_s7, sK_s8]
  rw [if_neg (by omega)]
  refine ⟨_, rfl, ?_⟩
  unfold ST hts
  simp (disch := decide) only [gpi_1, gpi_2, upd_o, upd_s, setA_s, setA_o]
  refine ⟨H.1, H.2.1, H.2.2.1, H.2.2.2.1, by rw [List.length_append]; rfl, H.2.2.2.2.2.snoc a b⟩
theorem s_deletePoint (H : ST S p ht r pts) (lp : pts.length ≤ 12) {c : Nat} (hc : c < pts.length) : ∃ T, gFX5_deletePoint (nI c) S = some T ∧ ST T p ht r (pts.eraseIdx c) := by
  unfold gFX5_deletePoint
  refine itr_run (pts.length - 1 - c) (fun k s => ∃ f g, s = (nI (c + k), ((S.1, setA (setA S.2 7 f) 8 g) : MS)) ∧ (∀ q, q < c → f q = S.2 7 q ∧ g q = S.2 8 q) ∧ (∀ q, c ≤ q → q < c + k → f q = S.2 7 (q + 1) ∧ g q = S.2 8 (q + 1)) ∧ ∀ q, c + k ≤ q → f q = S.2 7 q ∧ g q = S.2 8 q) ?_ ?_ ?_
  · refine ⟨S.2 7, S.2 8, ?_, fun q _ => ⟨rfl, rfl⟩, fun q h1 h2 => by omega, fun q _ => ⟨rfl, rfl⟩⟩
    rw [Nat.add_zero]
    refine Prod.ext rfl (Prod.ext rfl ?_)
    funext b
    show S.2 b = setA (setA S.2 7 (S.2 7)) 8 (S.2 8) b
    unfold setA
    by_cases h1 : b = 8
    · subst h1; rfl
    · rw [if_neg h1]
      by_cases h2 : b = 7
      · subst h2; rfl
      · rw [if_neg h2]
  · rintro k s hk ⟨f, g, rfl, h1, h2, h3⟩
    left
    have e7 : (setA (setA S.2 7 f) 8 g) 7 = f := by rw [setA_o (by decide), setA_s]
    have c78 : ∀ {A : Nat → Nat → Int32} {u v w : Nat → Int32}, setA (setA (setA A 7 u) 8 v) 7 w = setA (setA A 7 w) 8 v := by
      intro A u v w
      funext b
      unfold setA
      by_cases z : b = 7
      · subst z; rfl
      · rw [if_neg z, if_neg z]
        by_cases z2 : b = 8
        · rw [if_pos z2, if_pos z2]
        · rw [if_neg z2, if_neg z2, if_neg z]
    unfold gLX5_deletePoint_2
    simp (disch := omega) only [gx_bs, H.2.2.2.2.1, n0, n1, nI_lt0, nI_sub, nI_leN, nI_add, sK_a7, sK_a8, sK_s7, sK_s8, e7, c78, setA_s, setA_2]
    rw [if_neg (by simp), if_neg (by omega)]
    refine ⟨_, rfl, _, _, rfl, ?_, ?_, ?_⟩
    · intro q hq
      rw [upd_o (by omega), upd_o (by omega)]
      exact h1 q hq
    · intro q q1 q2
      by_cases q3 : q = c + k
      · subst q3
        rw [upd_s, upd_s]
        exact h3 (c + k + 1) (by omega)
      · rw [upd_o (by omega), upd_o (by omega)]
        exact h2 q q1 (by omega)
    · intro q hq
      rw [upd_o (by omega), upd_o (by omega)]
      exact h3 q (by omega)
  · rintro s ⟨f, g, rfl, h1, h2, h3⟩
    unfold gLX5_deletePoint_2 gBX5_deletePoint_50
    simp (disch := omega) only [gx_bs, H.2.2.2.2.1, n0, n1, nI_lt0, nI_sub, nI_leN]
    rw [if_neg (by simp), if_pos (by omega)]
    refine ⟨_, rfl, ?_⟩
    unfold ST hts
    simp (disch := decide) only [gpi_1, gpi_2, upd_o, upd_s, setA_s, setA_o]
    refine ⟨H.1, H.2.1, H.2.2.1, H.2.2.2.1, by rw [List.length_eraseIdx, if_pos hc], H.2.2.2.2.2.erase hc h1 fun q q1 q2 => h2 q q1 (by omega)⟩
theorem s_setCoef (H : ST S p ht r pts) (w : wfh ht) {b k v : Nat} (hb : b < (Lb ht).length) (hk : k < (Lm ht).length) : ∃ T, gFX5_setCoefficient (nI b) (nI k) (nI v) S = some T ∧ ST T p ht (fun b' k' => if b' = b ∧ k' = k then v else r b' k') pts := by
  have l := Lm_len w
  unfold gFX5_setCoefficient
  rw [s_has H w (by omega) (by omega), decide_eq_true hb, decide_eq_true hk, gx_bs, n0, if_neg (by rw [Bool.and_true, bI_0]; decide)]
  simp (disch := omega) only [n12, nI_mul, nI_add, sK_s6, gx_bs, show b * 12 + k = 12 * b + k by omega]
  refine ⟨_, rfl, ?_⟩
  unfold ST hts
  simp (disch := decide) only [setA_s, setA_o]
  refine ⟨H.1, H.2.1, H.2.2.1, fun b' k' hb' hk' => ?_, H.2.2.2.2.1, H.2.2.2.2.2⟩
  by_cases h : b' = b ∧ k' = k
  · rw [if_pos h, h.1, h.2, upd_s]
  · rw [if_neg h, upd_o (by omega)]
    exact H.2.2.2.1 b' k' hb' hk'
theorem m_pointAt (H : RC (S.2 1) p ht r pts) (lp : pts.length ≤ 12) (sp : small pts) {a b : Nat} (ha : a < 2 ^ 31) (hb : b < 2 ^ 31) : gFX10_pointAt (nI a) (nI b) S = some (ixI pts (a, b)) := by
  have h3 := H.2.2.2.1
  have hp := H.2.2.2.2.2
  rw [← fnd_ix (f := fun k => S.2 1 (224 + k)) (g := fun k => S.2 1 (236 + k)) ha hb sp hp]
  unfold gFX10_pointAt
  rw [n0]
  refine itr_fnd (fun k hk => ?_) ?_
  · unfold gLX10_pointAt_2 gBX10_pointAt_42
    simp (disch := omega) only [gx_bs, n3, n224, n236, n1, nI_add, mK_a1, h3, nI_leN]
    rw [if_neg (by omega)]
    by_cases h1 : S.2 1 (224 + k) = nI a
    · by_cases h2 : S.2 1 (236 + k) = nI b
      · rw [if_pos h1, if_pos h2, if_pos ⟨h1, h2⟩]; rfl
      · rw [if_pos h1, if_neg h2, if_neg (fun z => h2 z.2)]
    · rw [if_neg h1, if_neg (fun z => h1 z.1)]
  · unfold gLX10_pointAt_2
    simp (disch := omega) only [gx_bs, n3, mK_a1, h3, nI_leN]
    rw [if_pos (Nat.le_refl _)]
    rfl
theorem m_putsPoint (H : RC (S.2 1) p ht r pts) (w : wfh ht) (lp : pts.length < 12) (a b : Nat) : ∃ g, gFX10_putsPoint (nI a) (nI b) S = some (nI pts.length, ((S.1, setA S.2 1 g) : MS)) ∧ RC g p ht r (pts ++ [(a, b)]) := by
  have l := Lm_len w
  obtain ⟨h0, hM, hB, h3, hr, hp⟩ := H
  unfold gFX10_putsPoint
  simp (disch := omega) only [gx_bs, n3, n224, n236, n1, nI_add, mK_a1, mK_s1, h3, setA_s, setA_2, upd_o]
  refine ⟨_, rfl, ?_, ⟨?_, fun k hk => ?_⟩, ⟨?_, fun k hk => ?_⟩, ?_, fun b k hb hk => ?_, fun k hk => ?_⟩
  · rw [upd_o (by omega), upd_o (by omega), upd_o (by omega)]; exact h0
  · rw [upd_o (by omega), upd_o (by omega), upd_o (by omega)]; exact hM.1
  · have := hM.2 k hk
    rw [upd_o (by omega), upd_o (by omega), upd_o (by omega), upd_o (by omega), upd_o (by omega), upd_o (by omega)]; exact this
  · rw [upd_o (by omega), upd_o (by omega), upd_o (by omega)]; exact hB.1
  · have := hB.2 k hk
    rw [upd_o (by omega), upd_o (by omega), upd_o (by omega), upd_o (by omega), upd_o (by omega), upd_o (by omega)]; exact this
  · rw [upd_s, List.length_append]; rfl
  · rw [upd_o (by omega), upd_o (by omega), upd_o (by omega)]; exact hr b k hb hk
  · rw [List.length_append] at hk
    have hk : k < pts.length + 1 := hk
    unfold mx my
    rw [upd_o (by omega), upd_o (show 236 + k ≠ 3 by omega)]
    by_cases e : k = pts.length
    · subst e
      rw [upd_o (by omega), upd_s, upd_s]
      simp
    · have := hp k (by omega)
      unfold mx my at this
      rw [upd_o (by omega), upd_o (by omega), upd_o (by omega), upd_o (by omega), this.1, this.2]
      simp only [List.getD_eq_getElem?_getD, List.getElem?_append_left (show k < pts.length by omega)]
      exact ⟨trivial, trivial⟩
theorem m_setRule (H : RC (S.2 1) p ht r pts) (w : wfh ht) {b k v : Nat} (hb : b < (Lb ht).length) (hk : k < (Lm ht).length) (lp : pts.length ≤ 12) : RC (upd (S.2 1) (56 + 12 * b + k) (nI v)) p ht (fun b' k' => if b' = b ∧ k' = k then v else r b' k') pts := by
  have l := Lm_len w
  obtain ⟨h0, hM, hB, h3, hr, hp⟩ := H
  refine ⟨?_, ⟨?_, fun k' hk' => ?_⟩, ⟨?_, fun k' hk' => ?_⟩, ?_, fun b' k' hb' hk' => ?_, fun k' hk' => ?_⟩
  · rw [upd_o (by omega)]; exact h0
  · rw [upd_o (by omega)]; exact hM.1
  · rw [upd_o (by omega), upd_o (by omega)]; exact hM.2 k' hk'
  · rw [upd_o (by omega)]; exact hB.1
  · rw [upd_o (by omega), upd_o (by omega)]; exact hB.2 k' hk'
  · rw [upd_o (by omega)]; exact h3
  · show upd _ _ _ _ = nI (if _ then _ else _)
    by_cases h : b' = b ∧ k' = k
    · rw [if_pos h, h.1, h.2, show 56 + (12 * b + k) = 56 + 12 * b + k by omega, upd_s]
    · rw [if_neg h, upd_o (by omega)]; exact hr b' k' hb' hk'
  · rw [upd_o (by omega), upd_o (by omega)]; exact hp k' hk'
end
