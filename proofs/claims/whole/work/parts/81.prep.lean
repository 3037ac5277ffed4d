/-! the class: products compared; tables prepared -/
def clashP (n : Nat) (A B : Nat → Nat → Nat) (cc cr : Int32) : Prop := ∃ c0 r0, c0 < n ∧ r0 < n ∧ cc = nI c0 ∧ cr = nI r0 ∧ A r0 c0 ≠ B r0 c0 ∧ ∀ c r, (c < c0 ∨ (c = c0 ∧ r < r0)) → r < n → A r c = B r c
def dB (A B : Nat → Nat → Nat) (r c : Nat) : Nat := b1 (!decide (A r c = B r c))
def cntC (n : Nat) (A B : Nat → Nat → Nat) (col row : Nat) : Nat := sm (fun c => sm (fun r => dB A B r c) n) col + sm (fun r => dB A B r col) row
/-- how far the comparison has come, and what it has found -/
def cmpP (n : Nat) (A B : Nat → Nat → Nat) (col row : Nat) (df cc cr : Int32) : Prop := df = nI (cntC n A B col row) ∧ ((cntC n A B col row = 0 ∧ ∀ c r, (c < col ∨ (c = col ∧ r < row)) → r < n → A r c = B r c) ∨ (0 < cntC n A B col row ∧ clashP n A B cc cr))
theorem cntC_row {n : Nat} {A B : Nat → Nat → Nat} {col row : Nat} : cntC n A B col (row + 1) = cntC n A B col row + dB A B row col := by
  unfold cntC
  show _ + (sm (fun r => dB A B r col) row + dB A B row col) = _
  omega
theorem cntC_col {n : Nat} {A B : Nat → Nat → Nat} {col : Nat} : cntC n A B (col + 1) 0 = cntC n A B col n := by
  unfold cntC
  show sm (fun c => sm (fun r => dB A B r c) n) col + sm (fun r => dB A B r col) n + 0 = _
  rfl
theorem cntC_all {n : Nat} {A B : Nat → Nat → Nat} : cntC n A B n 0 = difN n A B := by
  unfold cntC difN
  show sm (fun c => sm (fun r => dB A B r c) n) n + 0 = _
  rw [Nat.add_zero]
  exact sm_swap (fun r c => dB A B r c) n n
theorem h_compare {h : jx_H} {t st : Nat} {kn df cc cr : Int32} {S : MS} {n p : Nat} {A B : Nat → Nat → Nat} (T : TO h t st kn df cc cr) (HS : bH sK h st S) (Hn : S.1 2 = nI n) (hn : n ≤ 12) (dst : st + 8 < t ∨ t < st) (MA : HM h (t + 7) 12 12 n n A) (MB : HM h (t + 10) 12 12 n n B) (hp : p < 1000) (hA : bdM A n n p) (hB : bdM B n n p) :
    ∃ h' cc' cr', FX6_compareProducts t h = some h' ∧ exc h h' t t ∧ TO h' t st kn (nI (difN n A B)) cc' cr' ∧ (difN n A B ≠ 0 → clashP n A B cc' cr') := by
  have hcnt : ∀ col row, col < n → row ≤ n → cntC n A B col row ≤ 156 := by
    intro col row h1 h2
    have d1 : ∀ r c, dB A B r c ≤ 1 := fun r c => by unfold dB b1; split <;> omega
    have e1 : sm (fun c => sm (fun r => dB A B r c) n) col ≤ col * 12 := sm_bound col fun c _ => by
      have := sm_bound (f := fun r => dB A B r c) (K := 1) n fun r _ => d1 r c
      show sm (fun r => dB A B r c) n ≤ 12
      omega
    have e2 : sm (fun r => dB A B r col) row ≤ row * 1 := sm_bound row fun r _ => d1 r col
    unfold cntC
    omega
  unfold FX6_compareProducts
  rw [hp_ob T (Nat.le_of_ble_eq_true rfl), gx_bs, n0]
  have key : ∃ x, itr (fun s : Int32 × jx_H => LX6_compareProducts_7 t s.1 s.2) (nI 0, ((h.1, jx_up h.2 t (.inr (6, (taO t st kn df cc cr).set 14 (.int (nI 0))))) : jx_H)) = some x ∧ ∃ cc' cr', exc h x t t ∧ TO x t st kn (nI (difN n A B)) cc' cr' ∧ (difN n A B ≠ 0 → clashP n A B cc' cr') := by
    refine itr_run n (fun col s => ∃ hh df' cc' cr', s = (nI col, hh) ∧ exc h hh t t ∧ TO hh t st kn df' cc' cr' ∧ cmpP n A B col 0 df' cc' cr') ?_ ?_ ?_
    · refine ⟨_, nI 0, cc, cr, rfl, ⟨rfl, fun x hx => up_o (by omega)⟩, up_s, rfl, Or.inl ⟨rfl, fun c r h => by omega⟩⟩
    · rintro col s hcol ⟨hh, df', cc', cr', rfl, e1, e2, e3⟩
      left
      have fS : bH sK hh st S := HS.ex e1 (by show st + 8 < t ∨ t < st; omega)
      have gr0 : hgr hh t 6 0 = some st := hgr_ob e2 rfl
      have gi2 : hgi hh st 5 2 = some (nI n) := by rw [← Hn]; exact hgi_ob fS.1 rfl
      have inner : ∃ x, itr (fun s : Int32 × jx_H => LX6_compareProducts_20 t (nI col) s.1 s.2) (nI 0, hh) = some x ∧ ∃ hh df' cc' cr', x = .inl (nI (col + 1), hh) ∧ exc h hh t t ∧ TO hh t st kn df' cc' cr' ∧ cmpP n A B (col + 1) 0 df' cc' cr' := by
        refine itr_run n (fun row s => ∃ hh df' cc' cr', s = (nI row, hh) ∧ exc h hh t t ∧ TO hh t st kn df' cc' cr' ∧ cmpP n A B col row df' cc' cr') ⟨hh, df', cc', cr', rfl, e1, e2, e3⟩ ?_ ?_
        · rintro row s hrow ⟨g, df', cc', cr', rfl, e1, e2, e3⟩
          left
          have fS : bH sK g st S := HS.ex e1 (by show st + 8 < t ∨ t < st; omega)
          have gr0 : hgr g t 6 0 = some st := hgr_ob e2 rfl
          have gi2 : hgi g st 5 2 = some (nI n) := by rw [← Hn]; exact hgi_ob fS.1 rfl
          have gr3 : hgr g t 6 3 = some (t + 7) := hgr_ob e2 rfl
          have gr4 : hgr g t 6 4 = some (t + 10) := hgr_ob e2 rfl
          have FA := MA.ex e1 (by omega)
          have FB := MB.ex e1 (by omega)
          have bA := hA row col hrow hcol
          have bB := hB row col hrow hcol
          have hc := hcnt col row hcol (by omega)
          obtain ⟨e3a, e3b⟩ := e3
          unfold LX6_compareProducts_20
          dsimp only
          rw [gr0, gx_bs, gi2, gx_bs, if_neg (by rw [nI_leN (by omega) (by omega)]; omega), gr3, gx_bs, FA.ob, gx_bs, FA.at z1212 hrow hcol, gx_bs, gr4, gx_bs, FB.ob, gx_bs, FB.at z1212 hrow hcol, gx_bs]
          by_cases hd : A row col = B row col
          · have d0 : dB A B row col = 0 := by unfold dB; rw [decide_eq_true hd]; rfl
            rw [if_pos (by rw [hd])]
            unfold BX6_compareProducts_79
            rw [n1, nI_add]
            refine ⟨_, rfl, g, df', cc', cr', rfl, e1, e2, by rw [cntC_row, d0]; exact e3a, ?_⟩
            rw [cntC_row, d0, Nat.add_zero]
            rcases e3b with ⟨z1, z2⟩ | z
            · refine Or.inl ⟨z1, fun c r hcr hr => ?_⟩
              by_cases hx : c = col ∧ r = row
              · rw [hx.1, hx.2]; exact hd
              · exact z2 c r (by omega) hr
            · exact Or.inr z
          · have d1 : dB A B row col = 1 := by unfold dB; rw [decide_eq_false hd]; rfl
            rw [if_neg (by rw [nI_eqN (by omega) (by omega)]; exact hd), hgi_ob (x := df') e2 rfl, gx_bs, e3a]
            have fin : ∀ (g' : jx_H) (cc2 cr2 : Int32), exc h g' t t → TO g' t st kn (nI (cntC n A B col row)) cc2 cr2 → clashP n A B cc2 cr2 → ∃ s', BX6_compareProducts_69 t (nI col) (nI row) g' = some (.inl s') ∧ ∃ hh df' cc' cr', s' = (nI (row + 1), hh) ∧ exc h hh t t ∧ TO hh t st kn df' cc' cr' ∧ cmpP n A B col (row + 1) df' cc' cr' := by
              intro g' cc2 cr2 f1 f2 f3
              unfold BX6_compareProducts_69 BX6_compareProducts_79
              rw [hgi_ob (x := nI (cntC n A B col row)) f2 rfl, gx_bs, hp_ob f2 (Nat.le_of_ble_eq_true rfl), gx_bs, n1, nI_add, nI_add]
              refine ⟨_, rfl, _, nI (cntC n A B col row + 1), cc2, cr2, rfl, ⟨f1.1, fun x hx => ?_⟩, up_s, by rw [cntC_row, d1], Or.inr ⟨by rw [cntC_row, d1]; omega, f3⟩⟩
              show jx_up g'.2 t _ x = _
              rw [up_o (by omega)]
              exact f1.2 x hx
            rcases e3b with ⟨z1, z2⟩ | ⟨z1, z2⟩
            · rw [z1, if_pos (by rw [n0]), hp_ob e2 (Nat.le_of_ble_eq_true rfl), gx_bs]
              have u1 : ((g.1, jx_up g.2 t (.inr (6, (taO t st kn df' cc' cr').set 15 (.int (nI col))))) : jx_H).2 t = some (.inr (6, taO t st kn df' (nI col) cr')) := up_s
              rw [hp_ob u1 (Nat.le_of_ble_eq_true rfl), gx_bs]
              refine fin _ (nI col) (nI row) ⟨e1.1, fun x hx => ?_⟩ ?_ ⟨col, row, hcol, hrow, rfl, rfl, hd, fun c r hcr hr => z2 c r hcr hr⟩
              · show jx_up (jx_up g.2 t _) t _ x = _
                rw [up_o (by omega), up_o (by omega)]
                exact e1.2 x hx
              · show jx_up (jx_up g.2 t _) t _ t = _
                rw [up_s, e3a]
                rfl
            · rw [if_neg (by rw [n0, nI_eqN (by omega) (by omega)]; omega)]
              rw [e3a] at e2
              exact fin g cc' cr' e1 e2 z2
        · rintro s ⟨g, df', cc', cr', rfl, e1, e2, e3⟩
          have fS : bH sK g st S := HS.ex e1 (by show st + 8 < t ∨ t < st; omega)
          have gr0 : hgr g t 6 0 = some st := hgr_ob e2 rfl
          have gi2 : hgi g st 5 2 = some (nI n) := by rw [← Hn]; exact hgi_ob fS.1 rfl
          unfold LX6_compareProducts_20
          dsimp only
          rw [gr0, gx_bs, gi2, gx_bs, if_pos (by rw [nI_leN (by omega) (by omega)]; omega), n1, nI_add]
          refine ⟨_, rfl, g, df', cc', cr', rfl, e1, e2, by rw [cntC_col]; exact e3.1, ?_⟩
          rw [cntC_col]
          rcases e3.2 with ⟨z1, z2⟩ | z
          · exact Or.inl ⟨z1, fun c r hcr hr => z2 c r (by omega) hr⟩
          · exact Or.inr z
      obtain ⟨x, f1, g, df2, cc2, cr2, rfl, f2, f3, f4⟩ := inner
      unfold LX6_compareProducts_7
      dsimp only
      rw [gr0, gx_bs, gi2, gx_bs, if_neg (by rw [nI_leN (by omega) (by omega)]; omega), n0, f1]
      exact ⟨_, rfl, g, df2, cc2, cr2, rfl, f2, f3, f4⟩
    · rintro s ⟨hh, df', cc', cr', rfl, e1, e2, e3⟩
      have fS : bH sK hh st S := HS.ex e1 (by show st + 8 < t ∨ t < st; omega)
      have gr0 : hgr hh t 6 0 = some st := hgr_ob e2 rfl
      have gi2 : hgi hh st 5 2 = some (nI n) := by rw [← Hn]; exact hgi_ob fS.1 rfl
      unfold LX6_compareProducts_7
      dsimp only
      rw [gr0, gx_bs, gi2, gx_bs, if_pos (by rw [nI_leN (by omega) (by omega)]; omega)]
      rw [cmpP, cntC_all] at e3
      refine ⟨_, rfl, cc', cr', e1, by rw [← e3.1]; exact e2, fun hne => ?_⟩
      rcases e3.2 with ⟨z1, -⟩ | z
      · exact absurd z1 hne
      · exact z.2
  obtain ⟨x, f1, cc', cr', f2, f3, f4⟩ := key
  exact ⟨x, cc', cr', f1, f2, f3, f4⟩
