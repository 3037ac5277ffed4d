/-! the class's Matrix: elimination -/
def redF (p R C : Nat) : Nat → Nat → Nat → Nat → (Nat → Nat → Nat) → (Nat → Nat) → Nat × Nat × (Nat → Nat → Nat) × (Nat → Nat)
  | 0, rk, _, d, A, pv => (rk, d, A, pv)
  | n + 1, rk, col, d, A, pv => if R ≤ rk then (rk, d, A, pv) else match pivF A col (R - rk) rk with
    | none => redF p R C n rk (col + 1) 0 A pv
    | some f => redF p R C n (rk + 1) (col + 1) ((if f = rk then d else rsd (-(d : Int)) p) * swapM A f rk rk col % p) (clearM (scaleM (swapM A f rk) rk (invF (swapM A f rk rk col) p) p) rk col p) (fun k => if k = rk then col else pv k)
theorem swapM_same {A : Nat → Nat → Nat} {i : Nat} : swapM A i i = A := by
  funext r c
  unfold swapM
  split
  · next h => rw [h]
  · rfl
theorem nI_neg_toInt {d : Nat} (h : d < 2 ^ 31) : (-(nI d)).toInt = -(d : Int) := by
  rw [Int32.toInt_neg, nI_toInt h]
  exact bm_id (by omega) (by omega)
section
variable {H W R C : Nat} {A : Nat → Nat → Nat}
theorem bd_swap {p i j : Nat} (h : bdM A R C p) (hi : i < R) (hj : j < R) : bdM (swapM A i j) R C p := by
  intro r c hr hc
  unfold swapM
  split
  · exact h j c hj hc
  · split
    · exact h i c hi hc
    · exact h r c hr hc
theorem bd_scale {p i f : Nat} (h : bdM A R C p) (h0 : 0 < p) : bdM (scaleM A i f p) R C p := by
  intro r c hr hc
  unfold scaleM
  split
  · exact Nat.mod_lt _ h0
  · exact h r c hr hc
theorem bd_clear {p q c : Nat} (h : bdM A R C p) (h0 : 0 < p) : bdM (clearM A q c p) R C p := by
  intro r c' hr hc
  unfold clearM
  split
  · exact h r c' hr hc
  · exact rsd_lt h0
theorem MX.fld {S : MS} {n : Nat} {v : Int32} (M : MX H W S R C A) (hn : n = 6) : MX H W (gpi S n v) R C A := by
  subst hn
  obtain ⟨m0, m1, m4, m5, m6, m7, m8⟩ := M
  refine ⟨?_, ?_, ?_, ?_, m6, m7, m8⟩ <;> rw [gpi_1, upd_o (by decide)] <;> assumption
theorem MX.piv {S : MS} {g : Nat → Int32} (M : MX H W S R C A) : MX H W (S.1, setA S.2 2 g) R C A := by
  obtain ⟨m0, m1, m4, m5, m6, m7, m8⟩ := M
  refine ⟨m0, m1, m4, m5, m6, m7, fun r c hr hc => ?_⟩
  rw [mp2, setA_o (by decide)]
  exact m8 r c hr hc
theorem x_reduce (z : SZ H W) {S : MS} (M : MX H W S R C A) {p : Nat} (hp2 : 2 ≤ p) (hp : p < 1000) (hA : bdM A R C p) :
    ∃ T, gFX2_reduceRows H W (nI p) S = some (nI (redF p R C C 0 0 1 A (fun _ => 0)).1, T) ∧ MX H W T R C (redF p R C C 0 0 1 A (fun _ => 0)).2.2.1 ∧ T.1 6 = nI (redF p R C C 0 0 1 A (fun _ => 0)).2.1 ∧ ∀ k, k < (redF p R C C 0 0 1 A (fun _ => 0)).1 → T.2 2 k = nI ((redF p R C C 0 0 1 A (fun _ => 0)).2.2.2 k) := by
  have sm := M.small z
  have hH := M.2.2.2.2.1
  unfold gFX2_reduceRows
  rw [gx_bs, n0, n1]
  generalize hF : redF p R C C 0 0 1 A (fun _ => 0) = F
  have key : ∃ t, itr (fun s : Int32 × Int32 × MS => gLX2_reduceRows_9 H W (nI p) s.1 s.2.1 s.2.2) (nI 0, nI 0, gpi S 6 (nI 1)) = some t ∧ ∃ T, t = (nI F.1, T) ∧ MX H W T R C F.2.2.1 ∧ T.1 6 = nI F.2.1 ∧ ∀ k, k < F.1 → T.2 2 k = nI (F.2.2.2 k) := by
    refine itr_run C (fun k s => ∃ rk d B pv U, s = (nI rk, nI k, U) ∧ MX H W U R C B ∧ bdM B R C p ∧ U.1 6 = nI d ∧ d < p ∧ rk ≤ R ∧ (∀ q, q < rk → U.2 2 q = nI (pv q)) ∧ redF p R C (C - k) rk k d B pv = F) ?_ ?_ ?_
    · exact ⟨0, 1, A, fun _ => 0, gpi S 6 (nI 1), rfl, M.fld rfl, hA, by rw [gpi_1, upd_s], by omega, by omega, fun q h => by omega, hF⟩
    · rintro k s hk ⟨rk, d, B, pv, U, rfl, hU, hB, u6, hd, hrk, hpv, hred⟩
      obtain ⟨n, hn⟩ : ∃ n, C - k = n + 1 := ⟨C - k - 1, by omega⟩
      have hn' : C - (k + 1) = n := by omega
      rw [hn] at hred
      unfold redF at hred
      unfold gLX2_reduceRows_9
      rw [gx_bs]
      dsimp only
      rw [hU.2.2.2.1, if_neg (by rw [nI_leN (by omega) (by omega)]; omega), gx_bs, hU.2.2.1]
      by_cases h : R ≤ rk
      · right
        rw [if_pos h] at hred
        rw [if_pos (by rw [nI_leN (by omega) (by omega)]; exact h), ← hred]
        exact ⟨_, rfl, U, rfl, hU, u6, hpv⟩
      · left
        rw [if_neg h] at hred
        rw [if_neg (by rw [nI_leN (by omega) (by omega)]; exact h), x_pivot z hU (by omega) hk hp hB, gx_bs]
        cases hf : pivF B k (R - rk) rk with
        | none =>
          rw [hf] at hred
          dsimp only at hred ⊢
          unfold gBX2_reduceRows_125
          rw [if_pos (by rw [n1, nm1]), gx_bs, n0, n1, nI_add]
          refine ⟨_, rfl, rk, 0, B, pv, _, rfl, hU.fld rfl, hB, by rw [gpi_1, upd_s], by omega, hrk, hpv, ?_⟩
          rw [hn']
          exact hred
        | some f =>
          rw [hf] at hred
          dsimp only at hred ⊢
          have pf := pivF_some hf
          have hfR : f < R := by omega
          have hBs := bd_swap (i := f) (j := rk) hB hfR (by omega)
          have hinv : invF (swapM B f rk rk k) p < p := Nat.mod_lt _ (by omega)
          have core : ∀ (V : MS) (d1 : Nat), MX H W V R C (swapM B f rk) → V.1 6 = nI d1 → d1 < p → (∀ q, q < rk → V.2 2 q = nI (pv q)) → ∃ s', gBX2_reduceRows_73 H W (nI p) (nI rk) (nI k) V = some (.inl s') ∧ ∃ X, s' = (nI (rk + 1), nI (k + 1), X) ∧ MX H W X R C (clearM (scaleM (swapM B f rk) rk (invF (swapM B f rk rk k) p) p) rk k p) ∧ X.1 6 = nI (d1 * swapM B f rk rk k % p) ∧ ∀ q, q < rk + 1 → X.2 2 q = nI (if q = rk then k else pv q) := by
            intro V d1 hV v6 hd1 hpv1
            have hm := mul_lt_k hp hd1 (hBs rk k (by omega) hk)
            have hV2 : MX H W (gpi V 6 (nI (d1 * swapM B f rk rk k % p))) R C (swapM B f rk) := hV.fld rfl
            obtain ⟨Y, y1, y2, y3, y4⟩ := x_scale z hV2 (i := rk) (f := invF (swapM B f rk rk k) p) (by omega) hp (by omega) hBs hinv
            obtain ⟨X, x1, x2, x3, x4⟩ := x_clearCol z y2 (q := rk) (c := k) (by omega) hk hp (by omega) (bd_scale hBs (by omega))
            unfold gBX2_reduceRows_73 gBX2_reduceRows_125
            rw [gx_bs, v6, x_at z hV (by omega) hk, gx_bs, nI_mul, p_resN (by omega) (by omega) (by omega), gx_bs, gx_bs, x_at z hV2 (by omega) hk, gx_bs, p_inv hp2 (by omega) (hBs rk k (by omega) hk), gx_bs, y1, gx_bs, x1, gx_bs, x_s2 z (by omega), gx_bs, n1, nI_add, nI_add]
            refine ⟨_, rfl, _, rfl, x2.piv, ?_, fun q hq => ?_⟩
            · rw [mp1, x3, y3, gpi_1, upd_s]
            · rw [mp2, setA_s]
              by_cases hq2 : q = rk
              · rw [if_pos hq2, hq2, upd_s]
              · rw [if_neg hq2, upd_o hq2, x4, y4, gpi_2]
                exact hpv1 q (by omega)
          rw [if_neg (by rw [n1, nm1, nI_ne_m1 (by omega)]; exact id)]
          by_cases hfr : f = rk
          · rw [if_pos (by rw [hfr])]
            rw [if_pos hfr] at hred
            obtain ⟨s', c1, X, rfl, c2, c3, c4⟩ := core U d (by rw [hfr, swapM_same]; exact hU) u6 hd hpv
            rw [c1]
            refine ⟨_, rfl, rk + 1, _, _, _, X, rfl, c2, bd_clear (bd_scale hBs (by omega)) (by omega), c3, Nat.mod_lt _ (by omega), by omega, c4, ?_⟩
            rw [hn']
            exact hred
          · rw [if_neg (by rw [nI_eqN (by omega) (by omega)]; exact hfr)]
            rw [if_neg hfr] at hred
            obtain ⟨V, v1, v2, v3, v4⟩ := x_swap z hU (i := f) (j := rk) hfR (by omega)
            have v6 : V.1 6 = nI d := by rw [v3]; exact u6
            have hz : (-(nI d)).toInt = -(d : Int) := nI_neg_toInt (by omega)
            rw [v1, gx_bs, gx_bs, v6, p_res hz (by omega) (by omega) (by omega), gx_bs, gx_bs]
            obtain ⟨s', c1, X, rfl, c2, c3, c4⟩ := core (gpi V 6 (nI (rsd (-(d : Int)) p))) (rsd (-(d : Int)) p) (v2.fld rfl) (by rw [gpi_1, upd_s]) (rsd_lt (by omega)) (fun q hq => by rw [gpi_2, v4]; exact hpv q hq)
            rw [c1]
            refine ⟨_, rfl, rk + 1, _, _, _, X, rfl, c2, bd_clear (bd_scale hBs (by omega)) (by omega), c3, Nat.mod_lt _ (by omega), by omega, c4, ?_⟩
            rw [hn']
            exact hred
    · rintro s ⟨rk, d, B, pv, U, rfl, hU, hB, u6, hd, hrk, hpv, hred⟩
      rw [Nat.sub_self] at hred
      unfold redF at hred
      unfold gLX2_reduceRows_9
      rw [gx_bs]
      dsimp only
      rw [hU.2.2.2.1, if_pos (by rw [nI_leN (by omega) (by omega)]; omega), ← hred]
      exact ⟨_, rfl, U, rfl, hU, u6, hpv⟩
  obtain ⟨t, e, T, rfl, h⟩ := key
  exact ⟨T, e, h⟩
end
