/-! the reference: elimination of its tall rows -/
def TL (g : Nat → Int32) (R n : Nat) (A : Nat → Nat → Nat) : Prop := ∀ r c, r < R → c < n → g (12 * r + c) = nI (A r c)
theorem m_cell {r c : Nat} {S : MS} : gFX10_cell (nI r) (nI c) S = some (nI (12 * r + c)) := by
  unfold gFX10_cell
  rw [n12, nI_mul, nI_add]
theorem m_swap {S : MS} {i j : Nat} (hi : i < 24) (hj : j < 24) : ∃ g, gFX10_swapsRows (nI i) (nI j) S = some ((S.1, setA S.2 15 g) : MS) ∧ ∀ r c, r < 24 → c < 12 → g (12 * r + c) = if r = i then S.2 15 (12 * j + c) else if r = j then S.2 15 (12 * i + c) else S.2 15 (12 * r + c) := by
  unfold gFX10_swapsRows
  rw [n0]
  have key : ∃ t, itr (fun s : Int32 × MS => gLX10_swapsRows_2 (nI i) (nI j) s.1 s.2) (nI 0, S) = some t ∧ ∃ g, t = ((S.1, setA S.2 15 g) : MS) ∧ ∀ r c, r < 24 → c < 12 → g (12 * r + c) = if r = i then S.2 15 (12 * j + c) else if r = j then S.2 15 (12 * i + c) else S.2 15 (12 * r + c) := by
    refine itr_run 12 (fun k s => ∃ g, s = (nI k, ((S.1, setA S.2 15 g) : MS)) ∧ ∀ r c, r < 24 → c < 12 → g (12 * r + c) = if c < k then (if r = i then S.2 15 (12 * j + c) else if r = j then S.2 15 (12 * i + c) else S.2 15 (12 * r + c)) else S.2 15 (12 * r + c)) ⟨S.2 15, by rw [setA_id], fun r c _ _ => by rw [if_neg (by omega)]⟩ ?_ ?_
    · rintro k s hk ⟨g, rfl, hg⟩
      left
      have g1 := hg i k hi hk
      have g2 := hg j k hj hk
      rw [if_neg (by omega)] at g1 g2
      unfold gLX10_swapsRows_2
      dsimp only
      rw [if_neg (by rw [n12, nI_leN (by omega) (by omega)]; omega), m_cell, gx_bs, mK_a15 (by omega), gx_bs, gx_bs, m_cell, gx_bs, mK_a15 (by omega), gx_bs, mK_s15 (by omega), gx_bs, m_cell, gx_bs, mK_s15 (by omega), gx_bs]
      simp only [mp1, mp2, setA_s, setA_2]
      rw [n1, nI_add, g1, g2]
      refine ⟨_, rfl, _, rfl, fun r c hr hc => ?_⟩
      by_cases hc2 : c = k
      · subst hc2
        rw [if_pos (by omega)]
        by_cases h1 : r = j
        · subst h1
          rw [upd_s]
          by_cases h2 : r = i
          · rw [if_pos h2, h2]
          · rw [if_neg h2, if_pos rfl]
        · rw [upd_o (by omega)]
          by_cases h2 : r = i
          · subst h2; rw [upd_s, if_pos rfl]
          · rw [upd_o (by omega), hg r c hr hc, if_neg (by omega), if_neg h2, if_neg h1]
      · rw [upd_o (by omega), upd_o (by omega), hg r c hr hc]
        by_cases h : c < k
        · rw [if_pos h, if_pos (show c < k + 1 by omega)]
        · rw [if_neg h, if_neg (show ¬ c < k + 1 by omega)]
    · rintro s ⟨g, rfl, hg⟩
      unfold gLX10_swapsRows_2
      dsimp only
      rw [if_pos (by rw [n12, nI_leN (by omega) (by omega)]; omega)]
      exact ⟨_, rfl, g, rfl, fun r c hr hc => by rw [hg r c hr hc, if_pos hc]⟩
  obtain ⟨t, e, g, rfl, h⟩ := key
  exact ⟨g, e, h⟩
def elimM (A : Nat → Nat → Nat) (q c b p : Nat) : Nat → Nat → Nat := fun r k => if q < r ∧ c ≤ k ∧ 0 < A r c * b % p then rsd ((A r k : Int) - (A r c * b % p * A q k : Nat)) p else A r k
def redG (p R : Nat) : Nat → Nat → Nat → Nat → (Nat → Nat → Nat) → Nat × Nat × (Nat → Nat → Nat)
  | 0, rk, _, d, A => (rk, d, A)
  | n + 1, rk, col, d, A => match pivF A col (R - rk) rk with
    | none => redG p R n rk (col + 1) 0 A
    | some f => redG p R n (rk + 1) (col + 1) ((if f = rk then d else rsd (-(d : Int)) p) * swapM A f rk rk col % p) (elimM (swapM A f rk) rk col (invF (swapM A f rk rk col) p) p)
theorem bd_elim {A : Nat → Nat → Nat} {R n q c b p : Nat} (h : bdM A R n p) (h0 : 0 < p) : bdM (elimM A q c b p) R n p := by
  intro r k hr hk
  unfold elimM
  split
  · exact rsd_lt h0
  · exact h r k hr hk
/-- rows below the pivot are lessened, one after the other -/
theorem m_elim {S : MS} {I : Nat → Int32} {g0 : Nat → Int32} {A : Nat → Nat → Nat} {R n p q c b : Nat} (Hp : S.2 1 0 = nI p) (Hn : S.2 1 1 = nI n) (hp2 : 2 ≤ p) (hp : p < 1000) (hn : n ≤ 12) (hR : R ≤ 24) (hT : TL g0 R n A) (hA : bdM A R n p) (hI : I 28 = nI q) (hq : q < R) (hc : c < n) (hb : b < p) :
    ∃ g, itr (fun s : Int32 × MS => gLX10_reduces_146 (nI R) (nI c) (nI b) s.1 s.2) (nI (q + 1), ((I, setA S.2 15 g0) : MS)) = some (.inl (nI (c + 1), ((upd I 28 (nI (q + 1)), setA S.2 15 g) : MS))) ∧ TL g R n (elimM A q c b p) := by
  have key : ∃ t, itr (fun s : Int32 × MS => gLX10_reduces_146 (nI R) (nI c) (nI b) s.1 s.2) (nI (q + 1), ((I, setA S.2 15 g0) : MS)) = some t ∧ ∃ g, t = .inl (nI (c + 1), ((upd I 28 (nI (q + 1)), setA S.2 15 g) : MS)) ∧ TL g R n (elimM A q c b p) := by
    refine itr_run (R - (q + 1)) (fun k s => ∃ g, s = (nI (q + 1 + k), ((I, setA S.2 15 g) : MS)) ∧ ∀ r c', r < R → c' < n → g (12 * r + c') = nI (if r < q + 1 + k then elimM A q c b p r c' else A r c')) ?_ ?_ ?_
    · refine ⟨g0, rfl, fun r c' hr hc' => ?_⟩
      rw [hT r c' hr hc']
      by_cases h : r < q + 1 + 0
      · rw [if_pos h]
        unfold elimM
        rw [if_neg (by omega)]
      · rw [if_neg h]
    · rintro k s hk ⟨g, rfl, hg⟩
      left
      generalize hx : q + 1 + k = x at *
      have hxR : x < R := by omega
      have g1 := hg x c hxR hc
      rw [if_neg (by omega)] at g1
      have hb1 := mul_lt_k hp (hA x c hxR hc) hb
      have ht : A x c * b % p < p := Nat.mod_lt _ (by omega)
      have hp' : gFX10_p ((I, setA S.2 15 g) : MS) = some (nI p) := g_p (by rw [mp2, setA_o (by decide)]; exact Hp)
      unfold gLX10_reduces_146
      dsimp only
      rw [if_neg (by rw [nI_leN (by omega) (by omega)]; omega), m_cell, gx_bs, mK_a15 (by omega), gx_bs]
      simp only [mp1, mp2, setA_s]
      rw [g1, hp', gx_bs, if_neg (by rw [n0, nI_eqN (by omega) (by omega)]; omega), nI_mul, pk_rem (by omega) (by omega) (by omega)]
      have inner : ∃ t, itr (fun s : Int32 × MS => gLX10_reduces_176 (nI R) (nI c) (nI b) (nI x) (nI (A x c * b % p)) s.1 s.2) (nI c, ((I, setA S.2 15 g) : MS)) = some t ∧ ∃ g', t = .inl (nI (x + 1), ((I, setA S.2 15 g') : MS)) ∧ ∀ r c', r < R → c' < n → g' (12 * r + c') = nI (if r < x + 1 then elimM A q c b p r c' else A r c') := by
        have fin : ∀ g' : Nat → Int32, (∀ r c', r < R → c' < n → g' (12 * r + c') = nI (if r < x + 1 then elimM A q c b p r c' else A r c')) → (exL (gBX10_reduces_242 (nI R) (nI c) (nI b) (nI x) (I, setA S.2 15 g')) : Option ((Int32 × MS) ⊕ ((Int32 × MS) ⊕ ((Int32 × MS) ⊕ (MS))))) = some (.inr (.inl (nI (x + 1), ((I, setA S.2 15 g') : MS)))) := by
          intro g' _
          unfold gBX10_reduces_242
          rw [n1, nI_add]
          rfl
        have nn : ∀ g' : Nat → Int32, gFX10_n ((I, setA S.2 15 g') : MS) = some (nI n) := by
          intro g'
          unfold gFX10_n
          rw [n1, mK_a1 (by omega), gx_bs, mp2, setA_o (by decide), Hn]
        by_cases hz : A x c * b % p = 0
        · have same : ∀ r c', r < R → c' < n → g (12 * r + c') = nI (if r < x + 1 then elimM A q c b p r c' else A r c') := by
            intro r c' hr hc'
            rw [hg r c' hr hc']
            congr 1
            by_cases h : r < x
            · rw [if_pos h, if_pos (by omega)]
            · rw [if_neg h]
              by_cases h2 : r = x
              · subst h2
                rw [if_pos (by omega)]
                unfold elimM
                rw [if_neg (by omega)]
              · rw [if_neg (by omega)]
          refine itr_run 0 (fun _ s => s = (nI c, ((I, setA S.2 15 g) : MS))) rfl (fun k s h => by omega) ?_
          rintro s rfl
          unfold gLX10_reduces_176
          dsimp only
          rw [nn, gx_bs, if_neg (by rw [nI_leN (by omega) (by omega)]; omega), hz, if_pos (by rw [n0, nI_leN (by omega) (by omega)]; omega), fin g same]
          exact ⟨_, rfl, g, rfl, same⟩
        · refine itr_run (n - c) (fun k2 s => ∃ g', s = (nI (c + k2), ((I, setA S.2 15 g') : MS)) ∧ ∀ r c', r < R → c' < n → g' (12 * r + c') = nI (if r < x ∨ (r = x ∧ c' < c + k2) then elimM A q c b p r c' else A r c')) ?_ ?_ ?_
          · refine ⟨g, rfl, fun r c' hr hc' => ?_⟩
            rw [hg r c' hr hc']
            congr 1
            by_cases h : r < x
            · rw [if_pos h, if_pos (Or.inl h)]
            · rw [if_neg h]
              by_cases h2 : r = x ∧ c' < c + 0
              · rw [if_pos (Or.inr h2)]
                unfold elimM
                rw [if_neg (by omega)]
              · rw [if_neg (by omega)]
          · rintro k2 s hk2 ⟨g', rfl, hg'⟩
            left
            generalize hy : c + k2 = y at *
            have hyn : y < n := by omega
            have j1 := hg' x y hxR hyn
            have j2 := hg' q y hq hyn
            rw [if_neg (by omega)] at j1
            have eqq : elimM A q c b p q y = A q y := by
              unfold elimM
              rw [if_neg (by omega)]
            rw [if_pos (by omega), eqq] at j2
            have hb2 := mul_lt_k hp ht (hA q y hq hyn)
            have hb3 := hA x y hxR hyn
            have hzz : (nI (A x y) - nI (A x c * b % p * A q y)).toInt = (A x y : Int) - (A x c * b % p * A q y : Nat) := pk_sub_toInt (by omega) (by omega)
            have hm : gFX10_mod (nI (A x y) - nI (A x c * b % p * A q y)) ((I, setA S.2 15 g') : MS) = some (nI (rsd ((A x y : Int) - (A x c * b % p * A q y : Nat)) p)) := m_mod (by rw [mp2, setA_o (by decide)]; exact Hp) hzz (by omega) (by omega) (by omega)
            unfold gLX10_reduces_176
            dsimp only
            rw [nn, gx_bs, if_neg (by rw [nI_leN (by omega) (by omega)]; omega), if_neg (by rw [n0, nI_leN (by omega) (by omega)]; omega), m_cell, gx_bs, gx_bs, mK_a15 (by omega), gx_bs, hI, gx_bs, m_cell, gx_bs, mK_a15 (by omega), gx_bs]
            simp only [mp1, mp2, setA_s]
            rw [j1, j2, nI_mul, hm, gx_bs, mK_s15 (by omega), gx_bs]
            simp only [mp1, mp2, setA_s, setA_2]
            rw [n1, nI_add]
            rw [show c + (k2 + 1) = y + 1 by omega]
            refine ⟨_, rfl, _, rfl, fun r c' hr hc' => ?_⟩
            by_cases h : r = x ∧ c' = y
            · rw [h.1, h.2, upd_s, if_pos (by omega)]
              unfold elimM
              rw [if_pos (by omega)]
            · rw [upd_o (by omega), hg' r c' hr hc']
              congr 1
              by_cases h2 : r < x ∨ (r = x ∧ c' < y)
              · rw [if_pos h2, if_pos (by omega)]
              · rw [if_neg h2, if_neg (by omega)]
          · rintro s ⟨g', rfl, hg'⟩
            have same : ∀ r c', r < R → c' < n → g' (12 * r + c') = nI (if r < x + 1 then elimM A q c b p r c' else A r c') := by
              intro r c' hr hc'
              rw [hg' r c' hr hc']
              congr 1
              by_cases h : r < x + 1
              · rw [if_pos h, if_pos (by omega)]
              · rw [if_neg h, if_neg (by omega)]
            unfold gLX10_reduces_176
            dsimp only
            rw [nn, gx_bs, if_pos (by rw [nI_leN (by omega) (by omega)]; omega), fin g' same]
            exact ⟨_, rfl, g', rfl, same⟩
      obtain ⟨t, e, g', rfl, hg2⟩ := inner
      rw [show q + 1 + (k + 1) = x + 1 by omega]
      exact ⟨_, e, g', rfl, hg2⟩
    · rintro s ⟨g, rfl, hg⟩
      unfold gLX10_reduces_146 gBX10_reduces_258
      dsimp only
      rw [if_pos (by rw [nI_leN (by omega) (by omega)]; omega), gx_bs, hI, gx_bs, n1, nI_add, nI_add]
      refine ⟨_, rfl, g, rfl, fun r c' hr hc' => ?_⟩
      rw [hg r c' hr hc', if_pos (by omega)]
  obtain ⟨t, e, g, rfl, h⟩ := key
  exact ⟨g, e, h⟩
