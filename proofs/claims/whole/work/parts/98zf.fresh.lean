/-! the reference: the monomials that points take -/
theorem getD_map {f : Nat → Nat × Nat} {n k : Nat} (h : k < n) : ((List.range n).map f).getD k (0, 0) = f k := by
  rw [List.getD_eq_getElem?_getD, List.getElem?_map, List.getElem?_range h]
  rfl
theorem mem_map_range {f : Nat → Nat × Nat} {n : Nat} {q : Nat × Nat} : q ∈ (List.range n).map f ↔ ∃ k, k < n ∧ f k = q := by
  rw [List.mem_map]
  constructor
  · rintro ⟨k, h1, h2⟩
    exact ⟨k, List.mem_range.mp h1, h2⟩
  · rintro ⟨k, h1, h2⟩
    exact ⟨k, List.mem_range.mpr h1, h2⟩
/-- what a fit leaves as it was: prime, points; only scratch changes besides -/
def fitP (S : MS) (p : Nat) (pts : List (Nat × Nat)) : Prop := S.2 1 0 = nI p ∧ S.2 1 3 = nI pts.length ∧ rowR (S.2 1) 224 236 pts
section
variable {S : MS} {p : Nat} {pts : List (Nat × Nat)}
/-- rows: the monomials taken, then a new one -/
def frA (p : Nat) (pts L : List (Nat × Nat)) (q : Nat × Nat) : Nat → Nat → Nat := fun k c => if k < L.length then mvN p (mx pts c) (my pts c) (mx L k) (my L k) else mvN p (mx pts c) (my pts c) q.1 q.2
theorem m_isFresh {L : List (Nat × Nat)} {i j : Nat} (FP : fitP S p pts) (HM : NowM (S.2 1) L) (hp2 : 2 ≤ p) (hp : p < 1000) (hpts : pin pts p) (hL : L.length < 12) (sL : ∀ k, k < L.length → mx L k ≤ 12 ∧ my L k ≤ 12) (hi : i ≤ 12) (hj : j ≤ 12) :
    ∃ T, gFX10_isFresh (nI i) (nI j) S = some (bI (decide ((redG p (L.length + 1) pts.length 0 0 1 (frA p pts L (i, j))).1 = L.length + 1)), T) ∧ only S T (fun b => b = 15 ∨ b = 20 ∨ b = 21) := by
  have lm := hpts.1
  have okF : ∀ {T : MS}, only S T (fun b => b = 15 ∨ b = 20 ∨ b = 21) → fitP T p pts ∧ NowM (T.2 1) L := fun o => by
    unfold fitP
    rw [o.2 1 (by decide)]
    exact ⟨FP, HM⟩
  unfold gFX10_isFresh
  rw [n3, mK_a1 (by omega), gx_bs, FP.2.1, n0]
  have key : ∃ x, itr (fun s : Int32 × MS => gLX10_isFresh_10 (nI i) (nI j) (nI pts.length) s.1 s.2) (nI 0, S) = some x ∧ ∃ T, x = (bI (decide ((redG p (L.length + 1) pts.length 0 0 1 (frA p pts L (i, j))).1 = L.length + 1)), T) ∧ only S T (fun b => b = 15 ∨ b = 20 ∨ b = 21) := by
    refine itr_run (L.length + 1) (fun k s => ∃ T, s = (nI k, T) ∧ only S T (fun b => b = 15 ∨ b = 20 ∨ b = 21) ∧ ∀ x c, x < k → c < pts.length → T.2 15 (12 * x + c) = nI (frA p pts L (i, j) x c)) ⟨S, rfl, only.rf, fun x c hx => by omega⟩ ?_ ?_
    · rintro k s hk ⟨T, rfl, o, hT⟩
      left
      have inner : ∃ x, itr (fun s : Int32 × MS => gLX10_isFresh_22 (nI i) (nI j) (nI pts.length) (nI k) s.1 s.2) (nI 0, T) = some x ∧ ∃ U, x = .inl (nI (k + 1), U) ∧ only S U (fun b => b = 15 ∨ b = 20 ∨ b = 21) ∧ ∀ x c, x < k + 1 → c < pts.length → U.2 15 (12 * x + c) = nI (frA p pts L (i, j) x c) := by
        refine itr_run pts.length (fun q s => ∃ U, s = (nI q, U) ∧ only S U (fun b => b = 15 ∨ b = 20 ∨ b = 21) ∧ ∀ x c, (x < k ∨ (x = k ∧ c < q)) → c < pts.length → U.2 15 (12 * x + c) = nI (frA p pts L (i, j) x c)) ⟨T, rfl, o, fun x c hx hc => hT x c (hx.resolve_right fun z => Nat.not_lt_zero _ z.2) hc⟩ ?_ ?_
        · rintro q s hq ⟨U, rfl, oU, hU⟩
          left
          obtain ⟨F1, M1⟩ := okF oU
          have fin : ∀ (V : MS), only U V (fun b => b = 20 ∨ b = 21) → ∃ s', gBX10_isFresh_84 (nI i) (nI j) (nI pts.length) (nI k) (nI q) 15 (nI (12 * k + q)) (nI (frA p pts L (i, j) k q)) V = some (.inl s') ∧ ∃ U, s' = (nI (q + 1), U) ∧ only S U (fun b => b = 15 ∨ b = 20 ∨ b = 21) ∧ ∀ x c, (x < k ∨ (x = k ∧ c < q + 1)) → c < pts.length → U.2 15 (12 * x + c) = nI (frA p pts L (i, j) x c) := by
            intro V oV
            unfold gBX10_isFresh_84
            rw [mK_s15 (by omega), gx_bs, n1, nI_add]
            refine ⟨_, rfl, _, rfl, ⟨by rw [mp1, oV.1]; exact oU.1, fun b hb => ?_⟩, fun x c hx hc => ?_⟩
            · rw [mp2, setA_o (by omega), oV.2 b (by omega)]
              exact oU.2 b hb
            · rw [mp2, setA_s]
              by_cases e : x = k ∧ c = q
              · rw [e.1, e.2, upd_s]
              · rw [upd_o (by omega), oV.2 15 (by decide)]
                exact hU x c (by omega) hc
          unfold gLX10_isFresh_22
          dsimp only
          rw [if_neg (by rw [nI_leN (by omega) (by omega)]; omega), m_cell, gx_bs, g_n M1, gx_bs]
          by_cases hkn : k < L.length
          · obtain ⟨V, v1, v2⟩ := m_valueAt (S := U) F1.1 F1.2.2 hp2 hp hpts (sL k hkn).1 (sL k hkn).2 hq
            have mk := M1.2 k hkn
            rw [if_neg (by rw [nI_leN (by omega) (by omega)]; omega), n4, n16, nI_add, nI_add, mK_a1 (by omega), gx_bs, mK_a1 (by omega), gx_bs, mk.1, mk.2, v1, b2s]
            have := fin V v2
            unfold frA at this ⊢
            rw [if_pos hkn] at this
            exact this
          · obtain ⟨V, v1, v2⟩ := m_valueAt (S := U) F1.1 F1.2.2 hp2 hp hpts hi hj hq
            rw [if_pos (by rw [nI_leN (by omega) (by omega)]; omega), v1, b2s]
            have := fin V v2
            unfold frA at this ⊢
            rw [if_neg hkn] at this
            exact this
        · rintro s ⟨U, rfl, oU, hU⟩
          unfold gLX10_isFresh_22
          dsimp only
          rw [if_pos (by rw [nI_leN (by omega) (by omega)]; omega), n1, nI_add]
          exact ⟨_, rfl, U, rfl, oU, fun x c hx hc => hU x c (by omega) hc⟩
      obtain ⟨x, i1, U, rfl, i2⟩ := inner
      obtain ⟨F1, M1⟩ := okF o
      unfold gLX10_isFresh_10
      dsimp only
      rw [g_n M1, gx_bs, if_neg (by rw [nI_ltN (by omega) (by omega)]; omega), n0, i1]
      exact ⟨_, rfl, U, rfl, i2⟩
    · rintro s ⟨T, rfl, o, hT⟩
      obtain ⟨F1, M1⟩ := okF o
      have bA : bdM (frA p pts L (i, j)) (L.length + 1) pts.length p := by
        intro a b _ _
        unfold frA
        split
        · exact Nat.mod_lt _ (by omega)
        · exact Nat.mod_lt _ (by omega)
      obtain ⟨g, r1⟩ := m_rankOf (S := T) (R := L.length + 1) (n := pts.length) F1.1 hp2 hp lm (by omega) (fun x c hx hc => hT x c hx hc) bA
      have M2 : NowM (((T.1, setA T.2 15 g) : MS).2 1) L := by rw [mp2, setA_o (by decide)]; exact M1
      have rle : (redG p (L.length + 1) pts.length 0 0 1 (frA p pts L (i, j))).1 < 2 ^ 30 := by
        have key : ∀ (n rk col d : Nat) (A : Nat → Nat → Nat), (redG p (L.length + 1) n rk col d A).1 ≤ rk + n := by
          intro n
          induction n with
          | zero => intro rk col d A; exact Nat.le_refl _
          | succ n ih =>
            intro rk col d A
            unfold redG
            cases pivF A col (L.length + 1 - rk) rk with
            | none => have := ih rk (col + 1) 0 A; dsimp only; omega
            | some f => dsimp only; refine Nat.le_trans (ih _ _ _ _) (by omega)
        have := key pts.length 0 0 1 (frA p pts L (i, j))
        omega
      unfold gLX10_isFresh_10
      dsimp only
      rw [g_n M1, gx_bs, if_pos (by rw [nI_ltN (by omega) (by omega)]; omega), gx_bs, n1, nI_add, r1, b2s, g_n M2, gx_bs, nI_add]
      refine ⟨(bI (decide ((redG p (L.length + 1) pts.length 0 0 1 (frA p pts L (i, j))).1 = L.length + 1)), ((T.1, setA T.2 15 g) : MS)), ?_, _, rfl, ⟨by rw [mp1]; exact o.1, fun b hb => by rw [mp2, setA_o (by omega)]; exact o.2 b hb⟩⟩
      by_cases e : (redG p (L.length + 1) pts.length 0 0 1 (frA p pts L (i, j))).1 = L.length + 1
      · rw [if_pos (by rw [e]), decide_eq_true e]
        rfl
      · rw [if_neg (by rw [nI_eqN (by omega) (by omega)]; exact e), decide_eq_false e, n0]
        rfl
  obtain ⟨x, k1, T, rfl, k2⟩ := key
  exact ⟨T, k1, k2⟩
/-- a monomial after all others is put at the end -/
theorem m_placedEnd {L : List (Nat × Nat)} {i j : Nat} (HM : NowM (S.2 1) L) (hL : L.length < 12) (hs : small L) (hi : i < 1000) (hj : j < 1000) (ha : ∀ q ∈ L, aheadB (i, j) q = false) :
    ∃ g, gFX10_placed (nI i) (nI j) S = some (nI L.length, ((S.1, setA S.2 1 g) : MS)) ∧ NowM g (L ++ [(i, j)]) ∧ ∀ q, q ≠ 1 → ¬ (4 ≤ q ∧ q < 4 + 12) → ¬ (16 ≤ q ∧ q < 16 + 12) → g q = S.2 1 q := by
  have pos : posF (i, j) L L.length = L.length := by
    cases hn : L.length with
    | zero => rfl
    | succ n =>
      unfold posF
      have mem : L.getD n (0, 0) ∈ L := by
        rw [List.getD_eq_getElem?_getD, List.getElem?_eq_getElem (show n < L.length by omega)]
        exact List.getElem_mem _
      rw [ha _ mem, if_neg (by decide)]
  have hins : ins (i, j) L = L ++ [(i, j)] := by
    unfold ins
    rw [pos, List.take_length, List.drop_length]
  obtain ⟨t, e1, g, rfl, e2, e3, e4⟩ := placed_loop (S := S) (i := i) (j := j) hL hs hi hj HM.2 HM.1
  rw [pos] at e1
  rw [hins] at e2
  refine ⟨g, ?_, ⟨by rw [List.length_append]; exact e3, e2⟩, e4⟩
  unfold gFX10_placed
  rw [g_n HM, gx_bs]
  exact e1
end
section
variable {p : Nat} {pts : List (Nat × Nat)}
/-- whether a monomial is new, by its column -/
theorem fresh_iff (hp : p ∈ prs) (hpts : pin pts p) {B : Nat → Nat → Nat} {pv : Nat → Nat} {rk : Nat} (H : RD p pts.length (tri (pts.length + 1)) (valM p pts) B rk pv) {k c : Nat} (hk : k < rk) (hc : c < tri (pts.length + 1)) (hle : c ≤ pv k) (hlt : ∀ i, i < k → pv i < c) :
    ((redG p (k + 1) pts.length 0 0 1 (frA p pts ((List.range k).map fun i => dec (pv i)) (dec c))).1 = k + 1) ↔ pv k = c := by
  have pb := prs_b p hp
  have bA : bdM (frA p pts ((List.range k).map fun i => dec (pv i)) (dec c)) (k + 1) pts.length p := by
    intro a b _ _
    unfold frA
    split
    · exact Nat.mod_lt _ (by omega)
    · exact Nat.mod_lt _ (by omega)
  rw [← rank_same hp bA]
  have RA := red_RD (d := 1) (pv := fun _ => 0) hp bA
  generalize (redF p (k + 1) pts.length pts.length 0 0 1 (frA p pts ((List.range k).map fun i => dec (pv i)) (dec c)) (fun _ => 0)).2.2.1 = B2 at RA
  generalize (redF p (k + 1) pts.length pts.length 0 0 1 (frA p pts ((List.range k).map fun i => dec (pv i)) (dec c)) (fun _ => 0)).2.2.2 = pv2 at RA
  generalize (redF p (k + 1) pts.length pts.length 0 0 1 (frA p pts ((List.range k).map fun i => dec (pv i)) (dec c)) (fun _ => 0)).1 = rk2 at RA
  have len : ((List.range k).map fun i => dec (pv i)).length = k := by rw [List.length_map, List.length_range]
  have rowS : ∀ s q, s < k → frA p pts ((List.range k).map fun i => dec (pv i)) (dec c) s q = valM p pts q (pv s) := by
    intro s q hs
    unfold frA valM mx my
    rw [len, if_pos hs, getD_map hs]
  have rowK : ∀ q, frA p pts ((List.range k).map fun i => dec (pv i)) (dec c) k q = valM p pts q c := by
    intro q
    unfold frA valM
    rw [len, if_neg (Nat.lt_irrefl k)]
  constructor
  · intro hr
    refine Classical.byContradiction fun hne => ?_
    -- column c is a combination of the pivots ahead
    have hgt : c < pv k := by omega
    have := RA.dep hp (μ := fun s => B s c) fun q hq => by
      rw [rowK, H.comb hq hc, sm_cut (m := k) (by omega) fun m h1 h2 => by
        have h3 : c < pv m := by
          by_cases e : m = k
          · rw [e]; exact hgt
          · have := H.1.2.2.2.1 k m (by omega) h2; omega
        rw [H.above h2 h3, Nat.zero_mul]]
      congr 1
      exact sm_congr k fun s hs => by rw [rowS s q hs]
    omega
  · intro hpk
    refine RA.full hp fun l hl s hs => ?_
    have := H.ind (x := fun m => if m < k + 1 then l m else 0) (fun q hq => by
      rw [sm_cut (m := k + 1) (by omega) fun m h1 _ => by rw [if_neg (by omega), Nat.zero_mul]]
      rw [← hl q hq]
      congr 1
      refine sm_congr (k + 1) fun m hm => ?_
      rw [if_pos hm]
      by_cases e : m = k
      · rw [e, rowK, hpk]
      · rw [rowS m q (by omega)]) (show s < rk by omega)
    rw [if_pos hs] at this
    exact this
end
