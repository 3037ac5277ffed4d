/-! the reference: the rule of a border monomial, solved -/
/-- columns that are zero below the rank are combinations of the pivot columns -/
theorem EC.comb {p R C rk col : Nat} {A B : Nat → Nat → Nat} {pv : Nat → Nat} (H : EC p R C rk col B pv) (hcol : col ≤ C) (hF : rIn p R C B A) {j : Nat} (hj : j < C) (hz : ∀ r, rk ≤ r → r < R → B r j = 0) {s : Nat} (hs : s < R) : A s j % p = sm (fun k => B k j * A s (pv k)) rk % p := by
  obtain ⟨hB, hrk, hpv, hmono, hunit, hzero, hech⟩ := H
  obtain ⟨F, hF⟩ := hF
  have e1 : ∀ k, k < rk → A s (pv k) % p = F s k % p := by
    intro k hk
    rw [hF s (pv k) hs (by have := hpv k hk; omega), sm_congr R (g := fun r => F s r * (if r = k then 1 else 0)) fun r hr => by rw [hunit k r hk hr], sm_del, if_pos (by omega)]
  rw [hF s j hs hj, sm_cut hrk fun k h1 h2 => by rw [hz k h1 h2, Nat.mul_zero]]
  rw [sm_lin (e := fun k => B k j) (a := fun k => A s (pv k)) (b := fun k => F s k) e1]
  congr 1
  exact sm_congr rk fun k _ => Nat.mul_comm _ _
theorem RD.uniq {p R C rk : Nat} {A B : Nat → Nat → Nat} {pv : Nat → Nat} (h0 : 0 < p) (H : RD p R C A B rk pv) {x y : Nat → Nat} (h : ∀ s, s < R → sm (fun k => x k * A s (pv k)) rk % p = sm (fun k => y k * A s (pv k)) rk % p) {k : Nat} (hk : k < rk) : x k % p = y k % p := by
  have := H.ind (x := fun k => x k + (p - y k % p)) (fun s hs => by
    rw [sm_congr rk (g := fun k => x k * A s (pv k) + (p - y k % p) * A s (pv k)) fun k _ => Nat.add_mul _ _ _, sm_add, Nat.add_mod, h s hs, ← Nat.add_mod, ← sm_add]
    refine sm_z fun k _ => ?_
    rw [← Nat.add_mul, Nat.mul_mod, neg_mod h0, Nat.zero_mul, Nat.zero_mod]) hk
  have e : (x k + (p - y k % p) + y k) % p = x k % p := by
    rw [Nat.add_assoc, Nat.add_comm (p - y k % p), Nat.add_mod, neg_mod h0, Nat.add_zero, Nat.mod_mod]
  rw [← e, Nat.add_mod, this, Nat.zero_add, Nat.mod_mod]
theorem m_modT {S : MS} {p : Nat} {x : Int32} (Hp : S.2 1 0 = nI p) (h0 : 0 < p) (hp : p < 1000) : ∃ y, gFX10_mod x S = some y := by
  unfold gFX10_mod
  rw [g_p Hp, gx_bs, if_neg (by rw [n0, nI_eqN (by omega) (by omega)]; omega)]
  by_cases h : 0 ≤ x - x / nI p * nI p
  · exact ⟨_, by rw [if_pos h]⟩
  · exact ⟨_, by rw [if_neg h, gx_bs]⟩
/-- rows of thirteen: m columns, and the last one -/
def lc (m k : Nat) : Nat := if k = 12 then m else k
def TR (g : Nat → Int32) (m : Nat) (W : Nat → Nat → Nat) : Prop := ∀ q k, q < m → k < 13 → (k < m ∨ k = 12) → g (13 * q + k) = nI (W q (lc m k))
theorem lc_lt {m k : Nat} (h : k < m ∨ k = 12) : lc m k < m + 1 := by
  unfold lc
  split <;> omega
theorem TR.congr {g : Nat → Int32} {m : Nat} {W W' : Nat → Nat → Nat} (H : TR g m W) (e : ∀ q k, q < m → k < m + 1 → W q k = W' q k) : TR g m W' := fun q k hq hk h => by rw [H q k hq hk h, e q _ hq (lc_lt h)]
section
variable {S : MS} {p m : Nat}
theorem itr_exL {σ T : Type} {body : σ → Option (σ ⊕ T)} {s : σ} {o : Option T} (e : body s = exL o) : itr body s = o := by
  cases o with
  | some t => exact itr_inr e
  | none =>
    cases hy : itr body s with
    | none => rfl
    | some t =>
      exfalso
      obtain ⟨n, hn⟩ := itr_iff.mp hy
      cases n with
      | zero => simp [itrN] at hn
      | succ n =>
        unfold itrN at hn
        rw [e] at hn
        cases hn
/-- two rows change places, and one is scaled -/
theorem m_sSwap {g0 : Nat → Int32} {W : Nat → Nat → Nat} {b c f by' : Nat} (Hp : S.2 1 0 = nI p) (h0 : 0 < p) (hp : p < 1000) (hm : m ≤ 12) (hW : bdM W m (m + 1) p) (H : TR g0 m W) (hc : c < m) (hf : f < m) (hby : by' < p) :
    ∃ g, itr (fun s : Int32 × MS => gLX10_solves_156 (nI b) (nI m) (nI c) (nI f) (nI by') s.1 s.2) (nI 0, ((S.1, setA S.2 24 g0) : MS)) = itr (fun s : Int32 × MS => gLX10_solves_234 (nI b) (nI m) (nI c) s.1 s.2) (nI 0, ((S.1, setA S.2 24 g) : MS)) ∧ TR g m (scaleM (swapM W f c) c by' p) := by
  -- the loop up to its end, then whatever follows
  have key : ∀ n k, k + n = 13 → ∀ g : Nat → Int32, (∀ q k', q < m → k' < 13 → (k' < m ∨ k' = 12) → g (13 * q + k') = nI (if k' < k then scaleM (swapM W f c) c by' p q (lc m k') else W q (lc m k'))) → ∃ g', itr (fun s : Int32 × MS => gLX10_solves_156 (nI b) (nI m) (nI c) (nI f) (nI by') s.1 s.2) (nI k, ((S.1, setA S.2 24 g) : MS)) = itr (fun s : Int32 × MS => gLX10_solves_156 (nI b) (nI m) (nI c) (nI f) (nI by') s.1 s.2) (nI 13, ((S.1, setA S.2 24 g') : MS)) ∧ TR g' m (scaleM (swapM W f c) c by' p) := by
    intro n
    induction n with
    | zero =>
      intro k hk g hg
      obtain rfl : k = 13 := by omega
      exact ⟨g, rfl, fun q k' hq hk' h => by rw [hg q k' hq hk' h, if_pos hk']⟩
    | succ n ih =>
      intro k hk g hg
      have hp' : gFX10_p ((S.1, setA S.2 24 g) : MS) = some (nI p) := g_p (by rw [mp2, setA_o (by decide)]; exact Hp)
      have step : ∃ v, gLX10_solves_156 (nI b) (nI m) (nI c) (nI f) (nI by') (nI k) ((S.1, setA S.2 24 g) : MS) = some (.inl (nI (k + 1), ((S.1, setA S.2 24 (upd (upd g (13 * f + k) (g (13 * c + k))) (13 * c + k) v)) : MS))) ∧ ((k < m ∨ k = 12) → v = nI (W f (lc m k) * by' % p)) := by
        refine ⟨(g (13 * f + k) * nI by') - (g (13 * f + k) * nI by') / nI p * nI p, ?_, fun h => ?_⟩
        · unfold gLX10_solves_156
          rw [n13, if_neg (by rw [nI_leN (by omega) (by omega)]; omega), nI_mul, nI_add, mK_a24 (by omega), gx_bs, hp', gx_bs, if_neg (by rw [n0, nI_eqN (by omega) (by omega)]; omega), nI_mul, nI_add, mK_a24 (by omega), gx_bs, mK_s24 (by omega), gx_bs]
          simp only [mp1, mp2, setA_s, setA_2]
          rw [mK_s24 (by omega), gx_bs, n1, nI_add]
          simp only [mp1, mp2, setA_s, setA_2]
        · have hb := hW f (lc m k) hf (lc_lt h)
          have hmul := mul_lt_k hp hb hby
          rw [hg f k hf (by omega) h, if_neg (Nat.lt_irrefl k), nI_mul, pk_rem (by omega) (by omega) (by omega)]
      obtain ⟨v, e1, e2⟩ := step
      obtain ⟨g', i1, i2⟩ := ih (k + 1) (by omega) (upd (upd g (13 * f + k) (g (13 * c + k))) (13 * c + k) v) fun q k' hq hk' h => by
        by_cases ek : k' = k
        · subst ek
          rw [if_pos (by omega)]
          by_cases eq : q = c
          · rw [eq, upd_s, e2 h]
            congr 1
            unfold scaleM swapM
            rw [if_pos rfl]
            by_cases ecf : c = f
            · rw [if_pos ecf, ecf]
            · rw [if_neg ecf, if_pos rfl]
          · rw [upd_o (by omega)]
            by_cases eqf : q = f
            · rw [eqf, upd_s, hg c k' hc hk' h, if_neg (Nat.lt_irrefl k')]
              congr 1
              unfold scaleM swapM
              rw [if_neg (by omega), if_pos rfl]
            · rw [upd_o (by omega), hg q k' hq hk' h, if_neg (Nat.lt_irrefl k')]
              congr 1
              unfold scaleM swapM
              rw [if_neg eq, if_neg eqf, if_neg eq]
        · rw [upd_o (by omega), upd_o (by omega), hg q k' hq hk' h]
          by_cases hlt : k' < k
          · rw [if_pos hlt, if_pos (by omega)]
          · rw [if_neg hlt, if_neg (by omega)]
      refine ⟨g', ?_, i2⟩
      rw [← i1]
      exact itr_inl e1
  obtain ⟨g', k1, k2⟩ := key 13 0 rfl g0 fun q k' hq hk' h => by rw [if_neg (by omega)]; exact H q k' hq hk' h
  refine ⟨g', ?_, k2⟩
  rw [k1]
  refine itr_exL ?_
  unfold gLX10_solves_156
  dsimp only
  rw [n13, if_pos (by rw [nI_leN (by omega) (by omega)]; omega), n0]
end
