/-! a heap has a block; blocks side by side -/
def bH (K : BK) (h : jx_H) (q : Nat) (S : MS) : Prop := h.2 q = some (.inr (K.1, K.2.1 q S.1)) ∧ ∀ j, 1 ≤ j ∧ j ≤ K.2.2.2.2 → h.2 (q + j) = some (.inl (K.2.2.1 j, K.2.2.2.1 j, .inl (S.2 j)))
def apart (K K' : BK) (q q' : Nat) : Prop := q + K.2.2.2.2 < q' ∨ q' + K'.2.2.2.2 < q
theorem bH.put {K : BK} {h : jx_H} {q : Nat} {S : MS} : bH K (bput K h q S) q S := ⟨bp_ob, fun _ hj => bp_ar hj⟩
theorem bH.eq {K : BK} {h : jx_H} {q : Nat} {S : MS} (H : bH K h q S) : bput K h q S = h := by
  refine Prod.ext rfl ?_
  funext a
  show (if a = q then _ else if q < a ∧ a ≤ q + K.2.2.2.2 then _ else _) = _
  by_cases h1 : a = q
  · rw [if_pos h1, h1, H.1]
  · rw [if_neg h1]
    by_cases h2 : q < a ∧ a ≤ q + K.2.2.2.2
    · rw [if_pos h2]
      have := H.2 (a - q) (by omega)
      rw [show q + (a - q) = a by omega] at this
      exact this.symm
    · rw [if_neg h2]
theorem bH.fr {K K' : BK} {h : jx_H} {q q' : Nat} {S S' : MS} (H : bH K h q S) (d : apart K K' q q') : bH K (bput K' h q' S') q S := by
  unfold apart at d
  exact ⟨by rw [bp_else (by omega)]; exact H.1, fun j hj => by rw [bp_else (by omega)]; exact H.2 j hj⟩
theorem bput_2 {K : BK} {h : jx_H} {q : Nat} {S S' : MS} : bput K (bput K h q S) q S' = bput K h q S' := by
  refine Prod.ext rfl ?_
  funext a
  show (if a = q then _ else if q < a ∧ a ≤ q + K.2.2.2.2 then _ else if a = q then _ else if q < a ∧ a ≤ q + K.2.2.2.2 then _ else _) = (if a = q then _ else if q < a ∧ a ≤ q + K.2.2.2.2 then _ else _)
  by_cases h1 : a = q
  · rw [if_pos h1, if_pos h1]
  · simp only [if_neg h1]
    by_cases h2 : q < a ∧ a ≤ q + K.2.2.2.2
    · rw [if_pos h2, if_pos h2]
    · simp only [if_neg h2]
/-- the room of a heap may grow, nothing else -/
theorem bH.sz {K : BK} {h : jx_H} {q : Nat} {S : MS} {n : Nat} (H : bH K h q S) : bH K (n, h.2) q S := H
/-- any answer of a block's own method is one of the heap -/
theorem bH.run {K : BK} {h : jx_H} {q : Nat} {S : MS} {T : Type} {F : jx_H → T} {G : T} (H : bH K h q S) (e : F (bput K h q S) = G) : F h = G := by rw [H.eq] at e; exact e
theorem bH.hcp {K K' : BK} {h : jx_H} {q q' j j' n N N' : Nat} {S S' : MS} (H : bH K h q S) (H' : bH K' h q' S') (hj : 1 ≤ j ∧ j ≤ K.2.2.2.2) (hj' : 1 ≤ j' ∧ j' ≤ K'.2.2.2.2) (t : K.2.2.1 j = .int) (t' : K'.2.2.1 j' = .int) (hN : K.2.2.2.1 j = N) (hN' : K'.2.2.2.1 j' = N') (h1 : n ≤ N) (h2 : n ≤ N') (h3 : n < 2 ^ 31) : hcp h (q + j) (nI 0) (q' + j') (nI 0) (nI n) = some (bput K' h q' (S'.1, setA S'.2 j' (va_cpy (S.2 j) (S'.2 j') 0 0 n))) := by
  have e0 := H.2 j hj
  have e1 := H'.2 j' hj'
  rw [t, hN] at e0
  rw [t', hN'] at e1
  rw [hcp_ar e0 e1 h1 h2 h3]
  have := bp_upa (K := K') (h := h) (q := q') (j := j') (S := S') (g := va_cpy (S.2 j) (S'.2 j') 0 0 n) hj'
  rw [t', hN', H'.eq] at this
  exact congrArg some (Prod.ext rfl this)
/-- what copyFrom leaves in the target -/
def cpS (T S : MS) : MS := (upd (upd (upd (upd T.1 0 (S.1 0)) 2 (S.1 2)) 5 (S.1 5)) 9 (S.1 9), setA (setA (setA (setA (setA (setA (setA (setA T.2 1 (va_cpy (S.2 1) (T.2 1) 0 0 13)) 2 (va_cpy (S.2 2) (T.2 2) 0 0 12)) 3 (va_cpy (S.2 3) (T.2 3) 0 0 12)) 4 (va_cpy (S.2 4) (T.2 4) 0 0 13)) 5 (va_cpy (S.2 5) (T.2 5) 0 0 13)) 6 (va_cpy (S.2 6) (T.2 6) 0 0 156)) 7 (va_cpy (S.2 7) (T.2 7) 0 0 12)) 8 (va_cpy (S.2 8) (T.2 8) 0 0 12))
theorem s_copyFrom {h : jx_H} {q q' : Nat} {S T : MS} (HS : bH sK h q S) (HT : bH sK h q' T) (d : apart sK sK q q') : FX5_copyFrom q' q h = some (bput sK h q' (cpS T S)) := by
  have G : ∀ {n : Nat} {U : MS}, (sK.2.1 q S.1)[n]? = some (.int (S.1 n)) → hgi (bput sK h q' U) q 5 n = some (S.1 n) := fun hx => hgi_ob (HS.fr d).1 hx
  have R : ∀ {n r : Nat} {U : MS}, (sK.2.1 q S.1)[n]? = some (.ref r) → hgr (bput sK h q' U) q 5 n = some r := fun hx => hgr_ob (HS.fr d).1 hx
  have C : ∀ {j n N : Nat} {U : MS}, 1 ≤ j ∧ j ≤ 8 → sK.2.2.2.1 j = N → n ≤ N → n < 2 ^ 31 → hcp (bput sK h q' U) (q + j) (nI 0) (q' + j) (nI 0) (nI n) = some (bput sK h q' (U.1, setA U.2 j (va_cpy (S.2 j) (U.2 j) 0 0 n))) := by
    intro j n N U hj hN h1 h2
    rw [bH.hcp (HS.fr d) (bH.put (S := U)) hj hj rfl rfl hN hN h1 h1 h2, bput_2]
  refine HT.run (F := FX5_copyFrom q' q) ?_
  unfold FX5_copyFrom
  rw [n0, n13, n12, n156]
  rw [G rfl, gx_bs, sK_pi0, gx_bs, G rfl, gx_bs, sK_pi2, gx_bs, G rfl, gx_bs, sK_pi5, gx_bs, G rfl, gx_bs, sK_pi9, gx_bs]
  rw [R (r := q + 1) rfl, gx_bs, sK_gr1, gx_bs, C (j := 1) (N := 13) ⟨by omega, by omega⟩ rfl (by omega) (by omega), gx_bs]
  rw [R (r := q + 2) rfl, gx_bs, sK_gr3, gx_bs, C (j := 2) (N := 12) ⟨by omega, by omega⟩ rfl (by omega) (by omega), gx_bs]
  rw [R (r := q + 3) rfl, gx_bs, sK_gr4, gx_bs, C (j := 3) (N := 12) ⟨by omega, by omega⟩ rfl (by omega) (by omega), gx_bs]
  rw [R (r := q + 4) rfl, gx_bs, sK_gr6, gx_bs, C (j := 4) (N := 13) ⟨by omega, by omega⟩ rfl (by omega) (by omega), gx_bs]
  rw [R (r := q + 5) rfl, gx_bs, sK_gr7, gx_bs, C (j := 5) (N := 13) ⟨by omega, by omega⟩ rfl (by omega) (by omega), gx_bs]
  rw [R (r := q + 6) rfl, gx_bs, sK_gr8, gx_bs, C (j := 6) (N := 156) ⟨by omega, by omega⟩ rfl (by omega) (by omega), gx_bs]
  rw [R (r := q + 7) rfl, gx_bs, sK_gr10, gx_bs, C (j := 7) (N := 12) ⟨by omega, by omega⟩ rfl (by omega) (by omega), gx_bs]
  rw [R (r := q + 8) rfl, gx_bs, sK_gr11, gx_bs, C (j := 8) (N := 12) ⟨by omega, by omega⟩ rfl (by omega) (by omega), gx_bs]
  rfl
/-- the State object stands for a prime, heights, rules and points -/
def ST (S : MS) (p : Nat) (ht : Nat → Nat) (r : Nat → Nat → Nat) (pts : List (Nat × Nat)) : Prop := S.1 0 = nI p ∧ hts S ht ∧ (S.1 2 = nI (Lm ht).length ∧ S.1 5 = nI (Lb ht).length ∧ row2 (S.2 2) (S.2 3) (Lm ht) ∧ row2 (S.2 4) (S.2 5) (Lb ht)) ∧ (∀ b k, b < (Lb ht).length → k < (Lm ht).length → S.2 6 (12 * b + k) = nI (r b k)) ∧ S.1 9 = nI pts.length ∧ row2 (S.2 7) (S.2 8) pts
theorem row2.fr {f g f' g' : Nat → Int32} {L : List (Nat × Nat)} (H : row2 f g L) (h : ∀ k, k < L.length → f' k = f k ∧ g' k = g k) : row2 f' g' L := fun k hk => by rw [(h k hk).1, (h k hk).2]; exact H k hk
theorem va_cpy_lt {f g : Nat → Int32} {n k : Nat} (h : k < n) : va_cpy f g 0 0 n k = f k := by
  unfold va_cpy
  rw [if_pos (by omega), Nat.zero_add, Nat.sub_zero]
theorem ST.cp {S T : MS} {p : Nat} {ht : Nat → Nat} {r : Nat → Nat → Nat} {pts : List (Nat × Nat)} (w : wfh ht) (lp : pts.length ≤ 12) (H : ST S p ht r pts) : ST (cpS T S) p ht r pts := by
  obtain ⟨h0, h1, ⟨h2, h3, h4, h5⟩, h6, h7, h8⟩ := H
  have l := Lm_len w
  unfold cpS ST hts
  simp (disch := decide) only [upd_o, upd_s, setA_s, setA_o]
  refine ⟨h0, fun k hk => ?_, ⟨h2, h3, h4.fr fun k hk => ⟨?_, ?_⟩, h5.fr fun k hk => ⟨?_, ?_⟩⟩, fun b k hb hk => ?_, h7, h8.fr fun k hk => ⟨?_, ?_⟩⟩
  · rw [va_cpy_lt hk]; exact h1 k hk
  · exact va_cpy_lt (by omega)
  · exact va_cpy_lt (by omega)
  · exact va_cpy_lt (by omega)
  · exact va_cpy_lt (by omega)
  · rw [va_cpy_lt (by omega)]; exact h6 b k hb hk
  · exact va_cpy_lt (by omega)
  · exact va_cpy_lt (by omega)
