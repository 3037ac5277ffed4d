/-! the reference: rank and determinant of its tall rows -/
theorem TL.fr {g : Nat → Int32} {R n : Nat} {A B : Nat → Nat → Nat} (H : TL g R n A) (h : ∀ r c, r < R → c < n → A r c = B r c) : TL g R n B := fun r c hr hc => by rw [H r c hr hc, h r c hr hc]
theorem m_reduces {S : MS} {A : Nat → Nat → Nat} {R n p : Nat} (Hp : S.2 1 0 = nI p) (Hn : S.2 1 1 = nI n) (hp2 : 2 ≤ p) (hp : p < 1000) (hn : n ≤ 12) (hR : R ≤ 24) (hT : TL (S.2 15) R n A) (hA : bdM A R n p) :
    ∃ I g, gFX10_reduces (nI R) S = some ((I, setA S.2 15 g) : MS) ∧ I 28 = nI (redG p R n 0 0 1 A).1 ∧ I 29 = nI (redG p R n 0 0 1 A).2.1 ∧ ∀ q, q ≠ 28 → q ≠ 29 → I q = S.1 q := by
  unfold gFX10_reduces
  rw [gx_bs, gx_bs, n0, n1]
  generalize hF : redG p R n 0 0 1 A = F
  have key : ∃ t, itr (fun s : Int32 × MS => gLX10_reduces_12 (nI R) s.1 s.2) (nI 0, gpi (gpi S 28 (nI 0)) 29 (nI 1)) = some t ∧ ∃ I g, t = ((I, setA S.2 15 g) : MS) ∧ I 28 = nI F.1 ∧ I 29 = nI F.2.1 ∧ ∀ q, q ≠ 28 → q ≠ 29 → I q = S.1 q := by
    refine itr_run n (fun k s => ∃ rk d B I g, s = (nI k, ((I, setA S.2 15 g) : MS)) ∧ TL g R n B ∧ bdM B R n p ∧ I 28 = nI rk ∧ I 29 = nI d ∧ d < p ∧ rk ≤ R ∧ (∀ q, q ≠ 28 → q ≠ 29 → I q = S.1 q) ∧ redG p R (n - k) rk k d B = F) ?_ ?_ ?_
    · refine ⟨0, 1, A, upd (upd S.1 28 (nI 0)) 29 (nI 1), S.2 15, ?_, hT, hA, by rw [upd_o (by decide), upd_s], by rw [upd_s], by omega, by omega, fun q h1 h2 => by rw [upd_o h2, upd_o h1], hF⟩
      refine Prod.ext rfl (Prod.ext rfl ?_)
      show S.2 = setA S.2 15 (S.2 15)
      funext b
      unfold setA
      by_cases h : b = 15
      · rw [if_pos h, h]
      · rw [if_neg h]
    · rintro k s hk ⟨rk, d, B, I, g, rfl, hg, hB, i28, i29, hd, hrk, hfr, hred⟩
      left
      obtain ⟨m, hm⟩ : ∃ m, n - k = m + 1 := ⟨n - k - 1, by omega⟩
      have hm' : n - (k + 1) = m := by omega
      rw [hm] at hred
      unfold redG at hred
      have nn : gFX10_n ((I, setA S.2 15 g) : MS) = some (nI n) := by
        unfold gFX10_n
        rw [n1, mK_a1 (by omega), gx_bs, mp2, setA_o (by decide), Hn]
      have pp : ∀ (I' : Nat → Int32) (g' : Nat → Int32), gFX10_p ((I', setA S.2 15 g') : MS) = some (nI p) := fun I' g' => g_p (by rw [mp2, setA_o (by decide)]; exact Hp)
      -- the rest of the column, from a place on
      have core : ∀ (I' : Nat → Int32) (g' : Nat → Int32) (d1 : Nat) (B1 : Nat → Nat → Nat), TL g' R n B1 → bdM B1 R n p → I' 28 = nI rk → I' 29 = nI d1 → d1 < p → rk < R → ∃ g2, gBX10_reduces_92 (nI R) (nI k) ((I', setA S.2 15 g') : MS) = some (.inl (nI (k + 1), ((upd (upd I' 29 (nI (d1 * B1 rk k % p))) 28 (nI (rk + 1)), setA S.2 15 g2) : MS))) ∧ TL g2 R n (elimM B1 rk k (invF (B1 rk k) p) p) := by
        intro I' g' d1 B1 h1 h2 h3 h4 h5 h6
        have hb := h2 rk k h6 hk
        have hmul := mul_lt_k hp h5 hb
        have hI : upd I' 29 (nI (d1 * B1 rk k % p)) 28 = nI rk := by rw [upd_o (by decide)]; exact h3
        have hi : gFX10_inverse (nI (B1 rk k)) ((upd I' 29 (nI (d1 * B1 rk k % p)), setA S.2 15 g') : MS) = some (nI (invF (B1 rk k) p)) := m_inv (by rw [mp2, setA_o (by decide)]; exact Hp) hp2 (by omega) hb
        obtain ⟨g2, e1, e2⟩ := m_elim (S := S) (I := upd I' 29 (nI (d1 * B1 rk k % p))) (c := k) Hp Hn hp2 hp hn hR h1 h2 hI h6 hk (b := invF (B1 rk k) p) (Nat.mod_lt _ (by omega))
        refine ⟨g2, ?_, e2⟩
        unfold gBX10_reduces_92
        rw [gx_bs, gx_bs]
        dsimp only
        rw [h3, h4, m_cell, gx_bs, mK_a15 (by omega), gx_bs]
        simp only [mp2, setA_s]
        rw [h1 rk k h6 hk, pp, gx_bs, if_neg (by rw [n0, nI_eqN (by omega) (by omega)]; omega), nI_mul, pk_rem (by omega) (by omega) (by omega), gx_bs]
        show ((some (upd I' 29 (nI (d1 * B1 rk k % p)) 28)).bind _) = _
        rw [hI, gx_bs]
        show ((gFX10_cell (nI rk) (nI k) ((upd I' 29 (nI (d1 * B1 rk k % p)), setA S.2 15 g') : MS)).bind fun x14 => (gal mK ((upd I' 29 (nI (d1 * B1 rk k % p)), setA S.2 15 g') : MS) 15 x14).bind fun x15 => (gFX10_inverse x15 ((upd I' 29 (nI (d1 * B1 rk k % p)), setA S.2 15 g') : MS)).bind fun x17 => (some (upd I' 29 (nI (d1 * B1 rk k % p)) 28)).bind fun x18 => itr (fun s : Int32 × MS => gLX10_reduces_146 (nI R) (nI k) x17 s.1 s.2) ((x18 + (1 : Int32)), ((upd I' 29 (nI (d1 * B1 rk k % p)), setA S.2 15 g') : MS))) = _
        rw [m_cell, gx_bs, mK_a15 (by omega), gx_bs]
        simp only [mp2, setA_s]
        rw [h1 rk k h6 hk, hi, gx_bs, hI, gx_bs, n1, nI_add]
        exact e1
      have all : ∃ w, gBX10_reduces_49 (nI R) (nI k) (nI (match pivF B k (R - rk) rk with | some f => f | none => R)) ((I, setA S.2 15 g) : MS) = some (.inl w) ∧ ∃ rk d B I g, w = (nI (k + 1), ((I, setA S.2 15 g) : MS)) ∧ TL g R n B ∧ bdM B R n p ∧ I 28 = nI rk ∧ I 29 = nI d ∧ d < p ∧ rk ≤ R ∧ (∀ q, q ≠ 28 → q ≠ 29 → I q = S.1 q) ∧ redG p R (n - (k + 1)) rk (k + 1) d B = F := by
        rw [hm']
        cases hf : pivF B k (R - rk) rk with
        | none =>
          rw [hf] at hred
          dsimp only at hred ⊢
          unfold gBX10_reduces_49 gBX10_reduces_258
          rw [if_pos rfl, gx_bs, n0, n1, nI_add]
          exact ⟨_, rfl, rk, 0, B, _, g, rfl, hg, hB, by rw [upd_o (by decide)]; exact i28, by rw [upd_s], by omega, hrk, fun q h1 h2 => by rw [upd_o h2]; exact hfr q h1 h2, hred⟩
        | some f =>
          rw [hf] at hred
          dsimp only at hred ⊢
          have pf := pivF_some hf
          have hfR : f < R := by omega
          unfold gBX10_reduces_49
          rw [if_neg (by rw [nI_eqN (by omega) (by omega)]; omega)]
          dsimp only
          rw [i28, gx_bs, gx_bs]
          by_cases hfr2 : f = rk
          · rw [if_pos (by rw [hfr2])]
            rw [if_pos hfr2] at hred
            have e0 : swapM B f rk = B := by rw [hfr2, swapM_same]
            rw [e0] at hred
            obtain ⟨g2, e1, e2⟩ := core I g d B hg hB i28 i29 hd (by omega)
            rw [e1]
            exact ⟨_, rfl, rk + 1, _, _, _, g2, rfl, e2, bd_elim hB (by omega), by rw [upd_s], by rw [upd_o (by decide), upd_s], Nat.mod_lt _ (by omega), by omega, fun q h1 h2 => by rw [upd_o h1, upd_o h2]; exact hfr q h1 h2, hred⟩
          · rw [if_neg (by rw [nI_eqN (by omega) (by omega)]; exact hfr2)]
            rw [if_neg hfr2] at hred
            obtain ⟨g1, e1, e2⟩ := m_swap (S := ((I, setA S.2 15 g) : MS)) (i := f) (j := rk) (by omega) (by omega)
            rw [mp1, mp2, setA_2] at e1
            simp only [mp2, setA_s] at e2
            have hT1 : TL g1 R n (swapM B f rk) := by
              intro r c hr hc
              rw [e2 r c (by omega) (by omega)]
              unfold swapM
              by_cases q1 : r = f
              · rw [if_pos q1, if_pos q1]; exact hg rk c (by omega) hc
              · rw [if_neg q1, if_neg q1]
                by_cases q2 : r = rk
                · rw [if_pos q2, if_pos q2]; exact hg f c hfR hc
                · rw [if_neg q2, if_neg q2]; exact hg r c hr hc
            have hz : (-(nI d)).toInt = -(d : Int) := nI_neg_toInt (by omega)
            have hmd : gFX10_mod (-(nI d)) ((I, setA S.2 15 g1) : MS) = some (nI (rsd (-(d : Int)) p)) := m_mod (by rw [mp2, setA_o (by decide)]; exact Hp) hz (by omega) (by omega) (by omega)
            obtain ⟨g2, e3, e4⟩ := core (upd I 29 (nI (rsd (-(d : Int)) p))) g1 (rsd (-(d : Int)) p) (swapM B f rk) hT1 (bd_swap hB hfR (by omega)) (by rw [upd_o (by decide)]; exact i28) (by rw [upd_s]) (rsd_lt (by omega)) (by omega)
            rw [e1, gx_bs, gx_bs]
            dsimp only
            rw [i29, hmd, gx_bs, gx_bs]
            show ∃ w, gBX10_reduces_92 (nI R) (nI k) ((upd I 29 (nI (rsd (-(d : Int)) p)), setA S.2 15 g1) : MS) = some (.inl w) ∧ _
            rw [e3]
            exact ⟨_, rfl, rk + 1, _, _, _, g2, rfl, e4, bd_elim (bd_swap hB hfR (by omega)) (by omega), by rw [upd_s], by rw [upd_o (by decide), upd_s], Nat.mod_lt _ (by omega), by omega, fun q h1 h2 => by rw [upd_o h1, upd_o h2, upd_o h2]; exact hfr q h1 h2, hred⟩
      obtain ⟨w, hw, hw2⟩ := all
      have loop : itr (fun s : Int32 => gLX10_reduces_25 (nI R) (nI k) s ((I, setA S.2 15 g) : MS)) (nI rk) = some (.inl w) := by
        refine itr_val (R - rk) (fun j s => s = nI (rk + j) ∧ pivF B k (R - rk) rk = pivF B k (R - rk - j) (rk + j)) ⟨rfl, rfl⟩ ?_ ?_
        · rintro j s hj ⟨rfl, e⟩
          have hb := hB (rk + j) k (by omega) hk
          obtain ⟨y, hy⟩ : ∃ y, R - rk - j = y + 1 := ⟨R - rk - j - 1, by omega⟩
          rw [hy] at e
          have e2 : pivF B k (y + 1) (rk + j) = if B (rk + j) k = 0 then pivF B k y (rk + j + 1) else some (rk + j) := rfl
          rw [e2] at e
          unfold gLX10_reduces_25
          rw [if_neg (by rw [nI_leN (by omega) (by omega)]; omega), m_cell, gx_bs, mK_a15 (by omega), gx_bs, mp2, setA_s, hg (rk + j) k (by omega) hk]
          by_cases h : B (rk + j) k = 0
          · left
            rw [if_pos (by rw [n0, h]), n1, nI_add]
            rw [if_pos h] at e
            exact ⟨_, rfl, rfl, by rw [e, show R - rk - (j + 1) = y by omega]; rfl⟩
          · right
            rw [if_neg (by rw [n0, nI_eqN (by omega) (by omega)]; exact h)]
            rw [if_neg h] at e
            rw [e] at hw
            dsimp only at hw
            rw [hw]
            rfl
        · rintro s ⟨rfl, e⟩
          unfold gLX10_reduces_25
          have e3 : pivF B k (R - rk) rk = none := by rw [e, Nat.sub_self]; rfl
          rw [e3] at hw
          dsimp only at hw
          rw [if_pos (by rw [nI_leN (by omega) (by omega)]; omega), show rk + (R - rk) = R by omega, hw]
          rfl
      unfold gLX10_reduces_12
      dsimp only
      rw [nn, gx_bs, if_neg (by rw [nI_leN (by omega) (by omega)]; omega), gx_bs, i28, loop]
      exact ⟨_, rfl, hw2⟩
    · rintro s ⟨rk, d, B, I, g, rfl, hg, hB, i28, i29, hd, hrk, hfr, hred⟩
      rw [Nat.sub_self] at hred
      unfold redG at hred
      have nn : gFX10_n ((I, setA S.2 15 g) : MS) = some (nI n) := by
        unfold gFX10_n
        rw [n1, mK_a1 (by omega), gx_bs, mp2, setA_o (by decide), Hn]
      unfold gLX10_reduces_12
      dsimp only
      rw [nn, gx_bs, if_pos (by rw [nI_leN (by omega) (by omega)]; omega), ← hred]
      exact ⟨_, rfl, I, g, rfl, i28, i29, hfr⟩
  obtain ⟨t, e, I, g, rfl, h⟩ := key
  exact ⟨I, g, e, h⟩
