/-! the class's History: eight States in a ring -/
def qs (n : Nat) (f : Nat → Option Nat) : jx_E := .inl (.object "BorderBasis$State", n, .inr (.inr (.inr (.inr f))))
theorem hql_q {h : jx_H} {a n k : Nat} {f : Nat → Option Nat} (e : h.2 a = some (qs n f)) (hk : k < n) (hn : n < 2 ^ 31) : hql h "BorderBasis$State" a (nI k) = some (f k) := by
  unfold hql
  rw [e]
  show (if _ ∧ _ then some (f (nI k).toNatClampNeg) else none) = _
  rw [if_pos ⟨rfl, nI_in hk hn⟩, nI_clamp (by omega)]
theorem hqs_q {h : jx_H} {a n k v : Nat} {f : Nat → Option Nat} (e : h.2 a = some (qs n f)) (hk : k < n) (hn : n < 2 ^ 31) (ho : isO h v 5 = some ()) : hqs h "BorderBasis$State" 5 a (nI k) v = some (h.1, jx_up h.2 a (qs n (va_up f k (some v)))) := by
  unfold hqs
  rw [e]
  show (if _ ∧ _ ∧ _ then some (h.1, jx_up h.2 a (.inl (.object "BorderBasis$State", n, .inr (.inr (.inr (.inr (va_up f (nI k).toNatClampNeg (some v)))))))) else none) = _
  rw [if_pos ⟨rfl, nI_in hk hn, ho⟩, nI_clamp (by omega)]
  rfl
theorem ring_up {k : Nat} (h : k < 8) : (nI k + nI 1) - (nI k + nI 1) / nI 8 * nI 8 = nI ((k + 1) % 8) := by
  have hc : k = 0 ∨ k = 1 ∨ k = 2 ∨ k = 3 ∨ k = 4 ∨ k = 5 ∨ k = 6 ∨ k = 7 := by omega
  rcases hc with rfl | rfl | rfl | rfl | rfl | rfl | rfl | rfl <;> decide +kernel
theorem ring_dn {k : Nat} (h : k < 8) : ((nI k + nI 8) - nI 1) - ((nI k + nI 8) - nI 1) / nI 8 * nI 8 = nI ((k + 7) % 8) := by
  have hc : k = 0 ∨ k = 1 ∨ k = 2 ∨ k = 3 ∨ k = 4 ∨ k = 5 ∨ k = 6 ∨ k = 7 := by omega
  rcases hc with rfl | rfl | rfl | rfl | rfl | rfl | rfl | rfl <;> decide +kernel
def hisO (ah : Nat) (nx d : Nat) : List Value := [.ref (ah + 1), .int (nI nx), .int (nI d)]
/-- the History object: its next place, its depth, its States -/
def HIS (h : jx_H) (ah nx d : Nat) (f : Nat → Option Nat) : Prop := h.2 ah = some (.inr (1, hisO ah nx d)) ∧ h.2 (ah + 1) = some (qs 8 f)
theorem remember28 {h : jx_H} {ah q0 q nx d : Nat} {f : Nat → Option Nat} {S T : MS} (HI : HIS h ah nx d f) (hn : nx < 8) (hd : d ≤ 8) (HS : bH sK h q0 S) (HT : bH sK h q T) (hq : f nx = some q) (d1 : apart sK sK q0 q) (d2 : ah + 1 < q ∨ q + 8 < ah) :
    ∃ h', BX1_remember_28 ah q0 h = some h' ∧ h'.1 = h.1 ∧ HIS h' ah ((nx + 1) % 8) (min (d + 1) 8) f ∧ bH sK h' q (cpS T S) ∧ ∀ x, x ≠ ah → (x < q ∨ q + 8 < x) → h'.2 x = h.2 x := by
  obtain ⟨e0, e1⟩ := HI
  have eo : isO h q 5 = some () := isO_ob HT.1
  have g0 : (bput sK h q (cpS T S)).2 ah = some (.inr (1, hisO ah nx d)) := by rw [bp_else (K := sK) (by show ah < q ∨ q + 8 < ah; omega)]; exact e0
  unfold BX1_remember_28
  rw [hgr_ob (x := ah + 1) e0 rfl, gx_bs, hgi_ob (x := nI nx) e0 rfl, gx_bs, hql_q e1 hn (by omega), hq, gx_bs]
  show ∃ h', ((isO h q 5).bind fun _ => (FX5_copyFrom q q0 h).bind fun h6 => (hgi h6 ah 1 1).bind fun x7 => (hp h6 ah 1 1 (.int ((x7 + (1 : Int32)) - (x7 + (1 : Int32)) / (8 : Int32) * (8 : Int32)))).bind fun h8 => (hgi h8 ah 1 2).bind fun x9 => (hp h8 ah 1 2 (.int (if (8 : Int32) < (x9 + (1 : Int32)) then (8 : Int32) else (x9 + (1 : Int32))))).bind fun h10 => some h10) = some h' ∧ _
  rw [eo, gx_bs, s_copyFrom HS HT d1, gx_bs, hgi_ob (x := nI nx) g0 rfl, gx_bs, n1, n8, ring_up hn]
  rw [hp_ob g0 (Nat.le_of_ble_eq_true rfl), gx_bs]
  have g1 : ((bput sK h q (cpS T S)).1, jx_up (bput sK h q (cpS T S)).2 ah (.inr (1, (hisO ah nx d).set 1 (.int (nI ((nx + 1) % 8)))))).2 ah = some (.inr (1, [.ref (ah + 1), .int (nI ((nx + 1) % 8)), .int (nI d)])) := up_s
  have e8 : (if nI 8 < nI d + nI 1 then nI 8 else nI d + nI 1) = nI (min (d + 1) 8) := by
    simp (disch := omega) only [nI_add, nI_ltN]
    by_cases h : d = 8
    · subst h; rfl
    · rw [if_neg (by omega)]
      congr 1
      omega
  rw [hgi_ob (x := nI d) g1 rfl, gx_bs, hp_ob g1 (Nat.le_of_ble_eq_true rfl), gx_bs, e8]
  refine ⟨_, rfl, rfl, ⟨up_s, ?_⟩, ⟨?_, fun j hj => ?_⟩, fun x x1 x2 => ?_⟩
  · show jx_up (jx_up _ ah _) ah _ (ah + 1) = _
    rw [up_o (by omega), up_o (by omega), bp_else (K := sK) (by show ah + 1 < q ∨ q + 8 < ah + 1; omega)]
    exact e1
  · show jx_up (jx_up _ ah _) ah _ q = _
    rw [up_o (by omega), up_o (by omega)]
    exact bp_ob
  · have hj : 1 ≤ j ∧ j ≤ 8 := hj
    show jx_up (jx_up _ ah _) ah _ (q + j) = _
    rw [up_o (by omega), up_o (by omega)]
    exact bp_ar (K := sK) hj
  · show jx_up (jx_up _ ah _) ah _ x = _
    rw [up_o x1, up_o x1, bp_else (K := sK) x2]
theorem s_remember {h : jx_H} {ah q0 nx d : Nat} {f : Nat → Option Nat} {S : MS} (HI : HIS h ah nx d f) (hn : nx < 8) (hd : d ≤ 8) (HS : bH sK h q0 S) (hq : ∀ q, f nx = some q → (∃ T, bH sK h q T) ∧ apart sK sK q0 q ∧ (ah + 1 < q ∨ q + 8 < ah)) (b1 : ah + 1 < h.1) (b2 : q0 + 8 < h.1) :
    (∃ h' q T, FX1_remember ah q0 h = some h' ∧ f nx = some q ∧ h'.1 = h.1 ∧ HIS h' ah ((nx + 1) % 8) (min (d + 1) 8) f ∧ bH sK h' q (cpS T S) ∧ (∀ x, x ≠ ah → (x < q ∨ q + 8 < x) → h'.2 x = h.2 x)) ∨
    ∃ h' q T, FX1_remember ah q0 h = some h' ∧ f nx = none ∧ q = h.1 ∧ h'.1 = h.1 + 9 ∧ HIS h' ah ((nx + 1) % 8) (min (d + 1) 8) (va_up f nx (some q)) ∧ bH sK h' q (cpS T S) ∧ (∀ x, x ≠ ah → x ≠ ah + 1 → (x < q ∨ q + 8 < x) → h'.2 x = h.2 x) := by
  obtain ⟨e0, e1⟩ := HI
  have pre : FX1_remember ah q0 h = oc (f nx) ((hgr h ah 1 0).bind fun x15 => (hgi h ah 1 1).bind fun x16 => (hnw h 5 fsX5).bind fun h17 => (FX5_init h.1 h17).bind fun h18 => (hqs h18 "BorderBasis$State" 5 x15 x16 h.1).bind fun h19 => BX1_remember_28 ah q0 h19) (fun _ => BX1_remember_28 ah q0 h) := by
    unfold FX1_remember
    rw [hgr_ob (x := ah + 1) e0 rfl, gx_bs, hgi_ob (x := nI nx) e0 rfl, gx_bs, hql_q e1 hn (by omega), gx_bs]
  rw [pre]
  cases hf : f nx with
  | some q =>
    left
    obtain ⟨⟨T, HT⟩, d1, d2⟩ := hq q hf
    obtain ⟨h', a1, a2, a3, a4, a5⟩ := remember28 ⟨e0, e1⟩ hn hd HS HT hf d1 d2
    exact ⟨h', q, T, a1, rfl, a2, a3, a4, a5⟩
  | none =>
    right
    obtain ⟨T, eT, -⟩ := s_new (h := h)
    have g1 : (bput sK (h.1 + 9, h.2) h.1 T).2 (ah + 1) = some (qs 8 f) := by rw [bp_else (K := sK) (Or.inl b1)]; exact e1
    have g0 : (bput sK (h.1 + 9, h.2) h.1 T).2 ah = some (.inr (1, hisO ah nx d)) := by rw [bp_else (K := sK) (Or.inl (by omega))]; exact e0
    have gS : bH sK (bput sK (h.1 + 9, h.2) h.1 T) q0 S := (HS.sz (n := h.1 + 9)).fr (Or.inl b2)
    have run : ((hgr h ah 1 0).bind fun x15 => (hgi h ah 1 1).bind fun x16 => (hnw h 5 fsX5).bind fun h17 => (FX5_init h.1 h17).bind fun h18 => (hqs h18 "BorderBasis$State" 5 x15 x16 h.1).bind fun h19 => BX1_remember_28 ah q0 h19) = BX1_remember_28 ah q0 ((bput sK (h.1 + 9, h.2) h.1 T).1, jx_up (bput sK (h.1 + 9, h.2) h.1 T).2 (ah + 1) (qs 8 (va_up f nx (some h.1)))) := by
      rw [hgr_ob (x := ah + 1) e0 rfl, gx_bs, hgi_ob (x := nI nx) e0 rfl, gx_bs]
      show (some (hno h 5 fsX5)).bind _ = _
      rw [gx_bs, eT, gx_bs, hqs_q g1 hn (by omega) sK_ob, gx_bs]
    show ∃ h' q T, ((hgr h ah 1 0).bind fun x15 => (hgi h ah 1 1).bind fun x16 => (hnw h 5 fsX5).bind fun h17 => (FX5_init h.1 h17).bind fun h18 => (hqs h18 "BorderBasis$State" 5 x15 x16 h.1).bind fun h19 => BX1_remember_28 ah q0 h19) = some h' ∧ _
    rw [run]
    generalize hG : bput sK (h.1 + 9, h.2) h.1 T = G at *
    have hG1 : G.1 = h.1 + 9 := by rw [← hG]; rfl
    have HT : bH sK G h.1 T := by rw [← hG]; exact bH.put
    have up : ∀ {q : Nat} {S : MS}, q + 8 < ah + 1 ∨ ah + 1 < q → bH sK G q S → bH sK (G.1, jx_up G.2 (ah + 1) (qs 8 (va_up f nx (some h.1)))) q S := by
      intro q S hq H
      exact ⟨by show jx_up G.2 _ _ q = _; rw [up_o (by omega)]; exact H.1, fun j hj => by
        have hj : 1 ≤ j ∧ j ≤ 8 := hj
        show jx_up G.2 _ _ (q + j) = _; rw [up_o (by omega)]; exact H.2 j hj⟩
    have hS0 : q0 + 8 < ah + 1 ∨ ah + 1 < q0 := by
      rcases Nat.lt_or_ge (q0 + 8) (ah + 1) with z | z
      · exact Or.inl z
      · rcases Nat.lt_or_ge (ah + 1) q0 with z2 | z2
        · exact Or.inr z2
        · exfalso
          by_cases z3 : ah + 1 = q0
          · have := HS.1
            rw [← z3, e1] at this
            exact absurd this (by simp [qs])
          · have := HS.2 (ah + 1 - q0) ⟨by omega, by show ah + 1 - q0 ≤ 8; omega⟩
            rw [show q0 + (ah + 1 - q0) = ah + 1 by omega, e1] at this
            simp [qs] at this
    obtain ⟨h', a1, a2, a3, a4, a5⟩ := remember28 (h := (G.1, jx_up G.2 (ah + 1) (qs 8 (va_up f nx (some h.1))))) (ah := ah) (q0 := q0) (q := h.1) (nx := nx) (d := d) (f := va_up f nx (some h.1)) (S := S) (T := T)
      ⟨by show jx_up G.2 (ah + 1) _ ah = _; rw [up_o (by omega)]; exact g0, up_s⟩ hn hd (up hS0 gS) (up (by omega) HT) (by simp [va_up]) (Or.inl b2) (Or.inl b1)
    refine ⟨h', h.1, T, a1, rfl, rfl, by rw [a2]; exact hG1, a3, a4, fun x x1 x2 x3 => ?_⟩
    rw [a5 x x1 x3]
    show jx_up G.2 (ah + 1) _ x = _
    rw [up_o x2, ← hG, bp_else (K := sK) x3]
