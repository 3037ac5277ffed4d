/-! the class's State: a height changes; a new State -/
def outB (x : Int32) (n : Nat) : Bool := decide (x < nI 0) || !decide (x ≤ nI n)
theorem p_out {x : Int32} {n : Nat} : p_isOutside x (nI n) = some (bI (outB x n)) := by
  unfold p_isOutside FX9_isOutside outB
  rw [n0, n1]
  by_cases h1 : x < nI 0
  · rw [if_pos h1, decide_eq_true h1]; rfl
  · rw [if_neg h1, decide_eq_false h1]
    by_cases h2 : x ≤ nI n
    · rw [if_pos h2, decide_eq_true h2]; rfl
    · rw [if_neg h2, decide_eq_false h2]; rfl
theorem outB_in {k n : Nat} (h : k ≤ n) (hn : n < 2 ^ 31) : outB (nI k) n = false := by
  unfold outB
  rw [decide_eq_false (by rw [nI_lt0 (by omega)]; exact id), decide_eq_true (by rw [nI_leN (by omega) hn]; exact h)]
  rfl
/-- a number that is not outside is one of 0 to n -/
theorem outB_f {x : Int32} {n : Nat} (hn : n < 2 ^ 31) (h : outB x n = false) : ∃ k, k ≤ n ∧ x = nI k := by
  unfold outB at h
  rw [Bool.or_eq_false_iff, decide_eq_false_iff_not, Bool.not_eq_false', decide_eq_true_eq] at h
  obtain ⟨h1, h2⟩ := h
  have e0 : (nI 0).toInt = 0 := nI_toInt (by decide)
  have en : (nI n).toInt = n := nI_toInt hn
  rw [Int32.lt_iff_toInt_lt] at h1
  rw [Int32.le_iff_toInt_le] at h2
  refine ⟨x.toInt.toNat, by omega, ?_⟩
  apply Int32.toInt_inj.mp
  rw [nI_toInt (by omega)]
  omega
theorem s_changeHeight {h : jx_H} {q0 q1 : Nat} {S T : MS} {p : Nat} {ht : Nat → Nat} {r : Nat → Nat → Nat} {pts : List (Nat × Nat)} (HS : bH sK h q0 S) (HT : bH sK h q1 T) (d : apart sK sK q0 q1) (w : wfh ht) (R : ST S p ht r pts) (lp : pts.length ≤ 12) {i v : Nat} {st : Int32} (hi : i ≤ 11) (wv : wfh (uph ht i v)) (hv : nI (ht i) + st = nI v) :
    ∃ S', FX5_changeHeight q0 (nI i) st q1 h = some (bput sK (bput sK h q1 (cpS T S)) q0 S') ∧ ST S' p (uph ht i v) (rbh ht r (uph ht i v)) pts := by
  have d' : apart sK sK q1 q0 := d.symm
  unfold FX5_changeHeight
  rw [n11, q_isOutside, p_out, outB_in hi (by omega), gx_bs, n0, if_pos bI_f]
  have eo : isO h q1 5 = some () := isO_ob HT.1
  rw [eo, gx_bs, s_copyFrom HS HT d, gx_bs]
  have H2 : bH sK (bput sK h q1 (cpS T S)) q0 S := HS.fr d
  have H1 : bH sK (bput sK h q1 (cpS T S)) q1 (cpS T S) := bH.put
  have R1 : ST (cpS T S) p ht r pts := R.cp w lp
  generalize bput sK h q1 (cpS T S) = h3 at H1 H2
  obtain ⟨U, hU⟩ : ∃ U : MS, U = (S.1, setA S.2 1 (upd (S.2 1) i (nI v))) := ⟨_, rfl⟩
  have hts : hts U (uph ht i v) := by
    intro k hk
    subst hU
    show (setA S.2 1 (upd (S.2 1) i (nI v))) 1 k = _
    rw [setA_s]
    unfold uph
    by_cases e : k = i
    · subst e; rw [upd_s, if_pos rfl]
    · rw [upd_o e, if_neg e]; exact R.2.1 k hk
  obtain ⟨V, e1, e2, e3⟩ := s_listMonomials wv hts
  obtain ⟨g, e4, e5⟩ := s_inherit (hh := h3) (q0 := q0) (S0 := V) H1 d' wv w R1 e3.1 e3.2.1 e3.2.2.1 e3.2.2.2
  have run : (hgr h3 q0 5 1).bind (fun x4 => (hal h3 .int x4 (nI i)).bind fun x5 => (has h3 .int x4 (nI i) (x5 + st)).bind fun h6 => (isO h6 q0 5).bind fun _ => (FX5_listMonomials q0 h6).bind fun h8 => (isO h8 q0 5).bind fun _ => (FX5_inheritRules q0 q1 h8).bind fun h10 => some h10) = some (bput sK h3 q0 ((V.1, setA V.2 6 g) : MS)) := by
    rw [← H2.eq]
    rw [sK_gr1, gx_bs, sK_al1, sK_a1 (by omega), gx_bs, R.2.1 i (by omega), hv, sK_as1, sK_s1 (by omega), gx_ms, gx_bs, ← hU, sK_ob, gx_bs, eFX5_listMonomials, e1, gx_ms, gx_bs, sK_ob, gx_bs]
    rw [H2.eq, e4, gx_bs]
  rw [run]
  refine ⟨_, rfl, ?_⟩
  have f1 : V.1 0 = S.1 0 := by rw [e2.1, hU]
  have f2 : V.1 9 = S.1 9 := by rw [e2.2.1, hU]
  have f3 : V.2 1 = U.2 1 := e2.2.2 1 (Or.inl rfl)
  have f7 : V.2 7 = S.2 7 := by rw [e2.2.2 7 (by omega), hU]; show (setA S.2 1 (upd (S.2 1) i (nI v))) 7 = _; rw [setA_o (by decide)]
  have f8 : V.2 8 = S.2 8 := by rw [e2.2.2 8 (by omega), hU]; show (setA S.2 1 (upd (S.2 1) i (nI v))) 8 = _; rw [setA_o (by decide)]
  unfold ST
  show V.1 0 = _ ∧ _ ∧ (V.1 2 = _ ∧ V.1 5 = _ ∧ row2 (setA V.2 6 g 2) (setA V.2 6 g 3) _ ∧ row2 (setA V.2 6 g 4) (setA V.2 6 g 5) _) ∧ (∀ b k, _ → _ → setA V.2 6 g 6 (12 * b + k) = _) ∧ V.1 9 = _ ∧ row2 (setA V.2 6 g 7) (setA V.2 6 g 8) _
  rw [setA_o (by decide), setA_o (by decide), setA_o (by decide), setA_o (by decide), setA_s, setA_o (by decide), setA_o (by decide), f1, f2, f7, f8]
  refine ⟨R.1, fun k hk => ?_, e3, e5, R.2.2.2.2.1, R.2.2.2.2.2⟩
  show (setA V.2 6 g) 1 k = _
  rw [setA_o (by decide), f3]
  exact hts k hk
