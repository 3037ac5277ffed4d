/-! the reference: one column solved, all of them -/
section
variable {S : MS} {p m : Nat}
theorem m_sClear {g0 : Nat → Int32} {X : Nat → Nat → Nat} {b c : Nat} (Hp : S.2 1 0 = nI p) (h0 : 0 < p) (hp : p < 1000) (hm : m ≤ 12) (hX : bdM X m (m + 1) p) (H : TR g0 m X) (hc : c < m) :
    ∃ g, itr (fun s : Int32 × MS => gLX10_solves_234 (nI b) (nI m) (nI c) s.1 s.2) (nI 0, ((S.1, setA S.2 24 g0) : MS)) = some (.inl (nI (c + 1), ((S.1, setA S.2 24 g) : MS))) ∧ TR g m (clearM X c c p) := by
  have cc : ∀ k, clearM X c c p c k = X c k := fun k => by unfold clearM; rw [if_pos (Or.inl rfl)]
  have key : ∃ t, itr (fun s : Int32 × MS => gLX10_solves_234 (nI b) (nI m) (nI c) s.1 s.2) (nI 0, ((S.1, setA S.2 24 g0) : MS)) = some t ∧ ∃ g, t = .inl (nI (c + 1), ((S.1, setA S.2 24 g) : MS)) ∧ TR g m (clearM X c c p) := by
    refine itr_run m (fun r s => ∃ g, s = (nI r, ((S.1, setA S.2 24 g) : MS)) ∧ ∀ q k, q < m → k < 13 → (k < m ∨ k = 12) → g (13 * q + k) = nI (if q < r then clearM X c c p q (lc m k) else X q (lc m k))) ⟨g0, rfl, fun q k hq hk h => by rw [if_neg (by omega)]; exact H q k hq hk h⟩ ?_ ?_
    · rintro r s hr ⟨g, rfl, hg⟩
      left
      -- a row that stays
      have stay : ∀ t : Nat, (t = 0) → (∀ k, clearM X c c p r k = X r k) → ∃ s', gBX10_solves_262 (nI b) (nI m) (nI c) (nI r) (nI t) ((S.1, setA S.2 24 g) : MS) = some (.inl s') ∧ ∃ g, s' = (nI (r + 1), ((S.1, setA S.2 24 g) : MS)) ∧ ∀ q k, q < m → k < 13 → (k < m ∨ k = 12) → g (13 * q + k) = nI (if q < r + 1 then clearM X c c p q (lc m k) else X q (lc m k)) := by
        rintro t rfl hsame
        refine ⟨(nI (r + 1), ((S.1, setA S.2 24 g) : MS)), ?_, g, rfl, fun q k hq hk h => ?_⟩
        · unfold gBX10_solves_262
          rw [n0]
          refine itr_exL ?_
          unfold gLX10_solves_267 gBX10_solves_331
          dsimp only
          rw [n13, if_neg (by rw [nI_leN (by omega) (by omega)]; omega), n0, if_pos (by rw [nI_leN (by omega) (by omega)]; omega), n1, nI_add]
        · rw [hg q k hq hk h]
          by_cases e : q = r
          · rw [e, if_neg (Nat.lt_irrefl r), if_pos (by omega), hsame]
          · by_cases hlt : q < r
            · rw [if_pos hlt, if_pos (by omega)]
            · rw [if_neg hlt, if_neg (by omega)]
      unfold gLX10_solves_234
      dsimp only
      rw [if_neg (by rw [nI_leN (by omega) (by omega)]; omega)]
      by_cases hrc : r = c
      · rw [if_pos (by rw [hrc]), n0]
        refine stay 0 rfl fun k => ?_
        rw [hrc, cc]
      · have hl : lc m c = c := by unfold lc; rw [if_neg (by omega)]
        have g1 := hg r c hr (by omega) (Or.inl hc)
        rw [if_neg (Nat.lt_irrefl r), hl] at g1
        rw [if_neg (by rw [nI_eqN (by omega) (by omega)]; exact hrc), n13, nI_mul, nI_add, mK_a24 (by omega), gx_bs, mp2, setA_s, g1]
        by_cases hz : X r c = 0
        · rw [hz]
          refine stay 0 rfl fun k => ?_
          unfold clearM
          rw [if_pos (Or.inr hz)]
        · have hb1 := hX r c hr (by omega)
          have inner : ∃ t, itr (fun s : Int32 × MS => gLX10_solves_267 (nI b) (nI m) (nI c) (nI r) (nI (X r c)) s.1 s.2) (nI 0, ((S.1, setA S.2 24 g) : MS)) = some t ∧ ∃ s', t = .inl s' ∧ ∃ g, s' = (nI (r + 1), ((S.1, setA S.2 24 g) : MS)) ∧ ∀ q k, q < m → k < 13 → (k < m ∨ k = 12) → g (13 * q + k) = nI (if q < r + 1 then clearM X c c p q (lc m k) else X q (lc m k)) := by
            refine itr_run 13 (fun k s => ∃ g, s = (nI k, ((S.1, setA S.2 24 g) : MS)) ∧ ∀ q k', q < m → k' < 13 → (k' < m ∨ k' = 12) → g (13 * q + k') = nI (if q < r ∨ (q = r ∧ k' < k) then clearM X c c p q (lc m k') else X q (lc m k'))) ⟨g, rfl, fun q k' hq hk' h => by
              rw [hg q k' hq hk' h]
              by_cases e : q < r
              · rw [if_pos e, if_pos (Or.inl e)]
              · rw [if_neg e, if_neg (by omega)]⟩ ?_ ?_
            · rintro k s hk ⟨g', rfl, hg'⟩
              left
              have step : ∃ v, gFX10_mod (g' (13 * r + k) - nI (X r c) * g' (13 * c + k)) ((S.1, setA S.2 24 g') : MS) = some v ∧ ((k < m ∨ k = 12) → v = nI (clearM X c c p r (lc m k))) := by
                have HpT : ((S.1, setA S.2 24 g') : MS).2 1 0 = nI p := by rw [mp2, setA_o (by decide)]; exact Hp
                by_cases h : k < m ∨ k = 12
                · have j1 := hg' r k hr hk h
                  have j2 := hg' c k hc hk h
                  rw [if_neg (by omega)] at j1
                  have j2' : g' (13 * c + k) = nI (X c (lc m k)) := by
                    rw [j2]
                    by_cases e : c < r ∨ (c = r ∧ k < k)
                    · rw [if_pos e, cc]
                    · rw [if_neg e]
                  have b2 := hX r (lc m k) hr (lc_lt h)
                  have b3 := hX c (lc m k) hc (lc_lt h)
                  have b4 := mul_lt_k hp hb1 b3
                  have hzz : (nI (X r (lc m k)) - nI (X r c * X c (lc m k))).toInt = (X r (lc m k) : Int) - (X r c * X c (lc m k) : Nat) := pk_sub_toInt (by omega) (by omega)
                  refine ⟨nI (rsd ((X r (lc m k) : Int) - (X r c * X c (lc m k) : Nat)) p), ?_, fun _ => ?_⟩
                  · rw [j1, j2', nI_mul]
                    exact m_mod HpT hzz h0 (by omega) (by omega)
                  · unfold clearM
                    rw [if_neg (by omega)]
                · obtain ⟨v, hv⟩ := m_modT (x := g' (13 * r + k) - nI (X r c) * g' (13 * c + k)) HpT h0 hp
                  exact ⟨v, hv, fun z => absurd z h⟩
              obtain ⟨v, v1, v2⟩ := step
              unfold gLX10_solves_267
              dsimp only
              rw [n13, if_neg (by rw [nI_leN (by omega) (by omega)]; omega), n0, if_neg (by rw [nI_leN (by omega) (by omega)]; omega), nI_mul, nI_add, mK_a24 (by omega), gx_bs, nI_mul, nI_add, mK_a24 (by omega), gx_bs]
              simp only [mp2, setA_s]
              rw [v1, gx_bs, mK_s24 (by omega), gx_bs]
              simp only [mp1, mp2, setA_s, setA_2]
              rw [n1, nI_add]
              refine ⟨_, rfl, _, rfl, fun q k' hq hk' h => ?_⟩
              by_cases e : q = r ∧ k' = k
              · rw [e.1, e.2, upd_s, if_pos (by omega)]
                rw [e.2] at h
                exact v2 h
              · rw [upd_o (by omega), hg' q k' hq hk' h]
                by_cases e2 : q < r ∨ (q = r ∧ k' < k)
                · rw [if_pos e2, if_pos (by omega)]
                · rw [if_neg e2, if_neg (by omega)]
            · rintro s ⟨g', rfl, hg'⟩
              unfold gLX10_solves_267 gBX10_solves_331
              dsimp only
              rw [n13, if_pos (by rw [nI_leN (by omega) (by omega)]; omega), n1, nI_add]
              refine ⟨_, rfl, _, rfl, g', rfl, fun q k' hq hk' h => ?_⟩
              rw [hg' q k' hq hk' h]
              by_cases e2 : q < r + 1
              · rw [if_pos (by omega), if_pos e2]
              · rw [if_neg (by omega), if_neg e2]
          obtain ⟨t, i1, s', rfl, i2⟩ := inner
          unfold gBX10_solves_262
          rw [n0, i1]
          exact ⟨s', rfl, i2⟩
    · rintro s ⟨g, rfl, hg⟩
      unfold gLX10_solves_234
      dsimp only
      rw [if_pos (by rw [nI_leN (by omega) (by omega)]; omega), n1, nI_add]
      refine ⟨_, rfl, g, rfl, fun q k hq hk h => ?_⟩
      rw [hg q k hq hk h, if_pos hq]
  obtain ⟨t, k1, g, rfl, k2⟩ := key
  exact ⟨g, k1, k2⟩
/-- a column: its pivot found, its rows changed -/
theorem m_sCol {g0 : Nat → Int32} {W A : Nat → Nat → Nat} {b c : Nat} (Hp : S.2 1 0 = nI p) (hp : p ∈ prs) (hm : m ≤ 12) (HE : EC p m (m + 1) c c W (fun k => k)) (HF : rIn p m (m + 1) W A) (H : TR g0 m W) (hc : c < m) (hex : ¬ ∀ r, c ≤ r → r < m → W r c = 0) :
    ∃ g W', gLX10_solves_106 (nI b) (nI m) (nI c) ((S.1, setA S.2 24 g0) : MS) = some (.inl (nI (c + 1), ((S.1, setA S.2 24 g) : MS))) ∧ TR g m W' ∧ EC p m (m + 1) (c + 1) (c + 1) W' (fun k => k) ∧ rIn p m (m + 1) W' A := by
  have pb := prs_b p hp
  have hW := HE.1
  have HpT : ∀ g : Nat → Int32, ((S.1, setA S.2 24 g) : MS).2 1 0 = nI p := fun g => by rw [mp2, setA_o (by decide)]; exact Hp
  have hl : lc m c = c := by unfold lc; rw [if_neg (by omega)]
  -- the pivot
  have hpf : ∃ f, pivF W c (m - c) c = some f := by
    cases hf : pivF W c (m - c) c with
    | some f => exact ⟨f, rfl⟩
    | none => exact absurd (fun r h1 h2 => pivF_none hf r h1 (by omega)) hex
  obtain ⟨f, hf⟩ := hpf
  have pf := pivF_some hf
  have hfm : f < m := by omega
  have st := ec_step hp HE (show c < m + 1 by omega) hc pf.1 hfm pf.2.2
  have idp : (fun k => if k = c then c else (fun k => k) k) = fun k => k := by
    funext k
    by_cases e : k = c
    · rw [if_pos e, e]
    · rw [if_neg e]
  rw [idp] at st
  have w0 : swapM W f c c c = W f c := by
    unfold swapM
    by_cases e : c = f
    · rw [if_pos e, e]
    · rw [if_neg e, if_pos rfl]
  have hby : invF (W f c) p < p := Nat.mod_lt _ (by omega)
  obtain ⟨g1, a1, a2⟩ := m_sSwap (S := S) (b := b) Hp (by omega) (by omega) hm hW H hc hfm hby
  obtain ⟨g2, b1, b2⟩ := m_sClear (S := S) (b := b) Hp (by omega) (by omega) hm (bd_scale (i := c) (f := invF (W f c) p) (bd_swap hW hfm hc) (by omega)) a2 hc
  rw [w0] at st
  refine ⟨g2, _, ?_, b2, st.1, st.2.2.tr HF⟩
  have loop : itr (fun s : Int32 => gLX10_solves_114 (nI b) (nI m) (nI c) s ((S.1, setA S.2 24 g0) : MS)) (nI c) = some (.inl (nI (c + 1), ((S.1, setA S.2 24 g2) : MS))) := by
    refine itr_val (f - c) (fun j s => s = nI (c + j)) rfl ?_ ?_
    · rintro j s hj rfl
      left
      have hzr : W (c + j) c = 0 := by
        have key : ∀ n r, pivF W c n r = some f → ∀ q, r ≤ q → q < f → W q c = 0 := by
          intro n
          induction n with
          | zero => intro r h; cases h
          | succ n ih =>
            intro r h q h1 h2
            unfold pivF at h
            by_cases e : W r c = 0
            · rw [if_pos e] at h
              by_cases eq : q = r
              · rw [eq]; exact e
              · exact ih (r + 1) h q (by omega) h2
            · rw [if_neg e] at h
              cases h
              omega
        exact key _ c hf (c + j) (by omega) (by omega)
      have g3 := H (c + j) c (by omega) (by omega) (Or.inl hc)
      rw [hl, hzr] at g3
      unfold gLX10_solves_114
      rw [n13, nI_mul, nI_add, mK_a24 (by omega), gx_bs, mp2, setA_s, g3, n0, if_pos rfl, n1, nI_add]
      exact ⟨_, rfl, rfl⟩
    · rintro s rfl
      have g3 := H f c hfm (by omega) (Or.inl hc)
      rw [hl] at g3
      have hi : gFX10_inverse (nI (W f c)) ((S.1, setA S.2 24 g0) : MS) = some (nI (invF (W f c) p)) := m_inv (HpT g0) (by omega) (by omega) (hW f c hfm (by omega))
      have hb := hW f c hfm (show c < m + 1 by omega)
      unfold gLX10_solves_114
      rw [show c + (f - c) = f by omega, n13, nI_mul, nI_add, mK_a24 (by omega), gx_bs]
      simp only [mp2, setA_s]
      rw [g3, if_neg (by rw [n0, nI_eqN (by omega) (by omega)]; exact pf.2.2), gx_bs, hi, gx_bs, n0, a1, b1]
      rfl
  unfold gLX10_solves_106
  rw [if_neg (by rw [nI_leN (by omega) (by omega)]; omega)]
  exact loop
end
