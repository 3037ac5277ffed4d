/-! the reference: its tables laid; normal forms -/
theorem nbr {ht : Nat → Nat} (w : wfh ht) {i j : Nat} (h : j < ht i) : ((i + 1, j) ∈ Lm ht ∨ (i + 1, j) ∈ Lb ht) ∧ ((i, j + 1) ∈ Lm ht ∨ (i, j + 1) ∈ Lb ht) := by
  rw [mem_Lm w, mem_Lm w, mem_Lb w, mem_Lb w, Nat.add_sub_cancel, Nat.add_sub_cancel]
  constructor
  · by_cases h2 : j < ht (i + 1)
    · exact Or.inl h2
    · exact Or.inr ⟨h2, Or.inl ⟨by omega, h⟩⟩
  · by_cases h2 : j + 1 < ht i
    · exact Or.inl h2
    · exact Or.inr ⟨h2, Or.inr ⟨by omega, h⟩⟩
/-- the table of a step: a column for each monomial -/
def tabM (ht : Nat → Nat) (r : Nat → Nat → Nat) (di dj : Nat) : Nat → Nat → Nat := fun row k => if (mx (Lm ht) k + di, my (Lm ht) k + dj) ∈ Lm ht then (if row = (Lm ht).idxOf (mx (Lm ht) k + di, my (Lm ht) k + dj) then 1 else 0) else r ((Lb ht).idxOf (mx (Lm ht) k + di, my (Lm ht) k + dj)) row
theorem Lm_mem {ht : Nat → Nat} {k : Nat} (hk : k < (Lm ht).length) : (mx (Lm ht) k, my (Lm ht) k) ∈ Lm ht := by
  show (Lm ht).getD k (0, 0) ∈ Lm ht
  rw [List.getD_eq_getElem?_getD, List.getElem?_eq_getElem hk]
  exact List.getElem_mem hk
theorem stepB {ht : Nat → Nat} (w : wfh ht) {di dj k : Nat} (hd : (di = 1 ∧ dj = 0) ∨ (di = 0 ∧ dj = 1)) (hk : k < (Lm ht).length) (h : ¬ (mx (Lm ht) k + di, my (Lm ht) k + dj) ∈ Lm ht) : (mx (Lm ht) k + di, my (Lm ht) k + dj) ∈ Lb ht := by
  have hm := (mem_Lm w).mp (Lm_mem hk)
  have nb := nbr w hm
  rcases hd with ⟨rfl, rfl⟩ | ⟨rfl, rfl⟩
  · exact nb.1.resolve_left h
  · exact nb.2.resolve_left h
theorem bd_tab {ht : Nat → Nat} (w : wfh ht) {r : Nat → Nat → Nat} {p di dj : Nat} (hd : (di = 1 ∧ dj = 0) ∨ (di = 0 ∧ dj = 1)) (hp : 2 ≤ p) (hr : ∀ b k, b < (Lb ht).length → k < (Lm ht).length → r b k < p) : bdM (tabM ht r di dj) (Lm ht).length (Lm ht).length p := by
  intro row k hrow hk
  unfold tabM
  split
  · split <;> omega
  · next h => exact hr _ _ (List.idxOf_lt_length_of_mem (stepB w hd hk h)) hrow
section
variable {S : MS} {p : Nat} {ht : Nat → Nat} {r : Nat → Nat → Nat} {pts : List (Nat × Nat)}
theorem m_laysTable (H : RC (S.2 1) p ht r pts) (w : wfh ht) {j di dj : Nat} (hd : (di = 1 ∧ dj = 0) ∨ (di = 0 ∧ dj = 1)) (L : mK.2.2.2.1 j = 144) (hj : j ≠ 1) :
    ∃ g, gFX10_laysTable j (nI di) (nI dj) S = some ((S.1, setA S.2 j g) : MS) ∧ TL g (Lm ht).length (Lm ht).length (tabM ht r di dj) := by
  have l := Lm_len w
  have Hn := H.2.1.1
  have HM : ∀ {g : Nat → Int32}, NowM (((S.1, setA S.2 j g) : MS).2 1) (Lm ht) := by intro g; rw [mp2, setA_o (Ne.symm hj)]; exact H.2.1
  have HB : ∀ {g : Nat → Int32}, NowB (((S.1, setA S.2 j g) : MS).2 1) (Lb ht) := by intro g; rw [mp2, setA_o (Ne.symm hj)]; exact H.2.2.1
  unfold gFX10_laysTable
  have K : ∀ a, a < (Lm ht).length → mx (Lm ht) a < 12 ∧ my (Lm ht) a < 12 := fun a ha => Lm_at w ha
  obtain ⟨g, e, h1, -⟩ := grid (S := S) (j := j) (n := (Lm ht).length) (m := (Lm ht).length) (ix := fun a b => 12 * b + a) (V := fun k row => nI (tabM ht r di dj row k)) (outer := fun l4 h => gLX10_laysTable_3 j (nI di) (nI dj) l4 h) (inner := fun l4 l8 h => gLX10_laysTable_52 j (nI di) (nI dj) l4 (nI (mx (Lm ht) l4.toNatClampNeg + di)) (nI (my (Lm ht) l4.toNatClampNeg + dj)) (ixI (Lm ht) (mx (Lm ht) l4.toNatClampNeg + di, my (Lm ht) l4.toNatClampNeg + dj)) l8 h)
    (fun a b a' b' ha _ ha' _ e => by
      have e : 12 * b' + a' = 12 * b + a := e
      omega)
    (fun a g ha => by
      show gLX10_laysTable_3 j (nI di) (nI dj) (nI a) _ = _
      have hM := H.2.1.2 a ha
      have k := K a ha
      unfold gLX10_laysTable_3
      rw [fr_n Hn hj, gx_bs, if_neg (by rw [nI_leN (by omega) (by omega)]; omega), n4, n16, nI_add, nI_add, mK_a1 (by omega), gx_bs, mK_a1 (by omega), gx_bs, n0]
      simp only [mp2]
      rw [setA_o (Ne.symm hj), hM.1, hM.2, nI_add, nI_add, g_monIx HM l.2.1 (Lm_small w) (by omega) (by omega), gx_bs, nI_clamp (by omega)])
    (fun g => by
      show gLX10_laysTable_3 j (nI di) (nI dj) (nI (Lm ht).length) _ = _
      unfold gLX10_laysTable_3
      rw [fr_n Hn hj, gx_bs, if_pos (by rw [nI_leN (by omega) (by omega)]; omega)]
      rfl)
    (fun a b g ha hb => by
      show gLX10_laysTable_52 j (nI di) (nI dj) (nI a) (nI (mx (Lm ht) (nI a).toNatClampNeg + di)) (nI (my (Lm ht) (nI a).toNatClampNeg + dj)) (ixI (Lm ht) (mx (Lm ht) (nI a).toNatClampNeg + di, my (Lm ht) (nI a).toNatClampNeg + dj)) (nI b) _ = _
      have k := K a ha
      rw [nI_clamp (by omega)]
      unfold gLX10_laysTable_52 gBX10_laysTable_108
      rw [fr_n Hn hj, gx_bs, if_neg (by rw [nI_leN (by omega) (by omega)]; omega), m_cell, gx_bs, n1, nm1, nI_add]
      have hset : ∀ v : Nat, gas mK ((S.1, setA S.2 j g) : MS) j (nI (12 * b + a)) (nI v) = some ((S.1, setA S.2 j (upd g (12 * b + a) (nI v))) : MS) := by
        intro v
        rw [gas_ok (N := 144) L (by omega) (by omega)]
        simp only [mp1, mp2, setA_s, setA_2]
      unfold tabM
      by_cases hm : (mx (Lm ht) a + di, my (Lm ht) a + dj) ∈ Lm ht
      · have hi := List.idxOf_lt_length_of_mem hm
        rw [ixI_mem hm, if_neg (by rw [nI_ne_m1 (by omega)]; exact id), if_pos hm]
        by_cases hz : b = (Lm ht).idxOf (mx (Lm ht) a + di, my (Lm ht) a + dj)
        · rw [if_pos (by rw [hz]), if_pos hz, hset, gx_bs]
        · rw [if_neg (by rw [nI_eqN (by omega) (by omega)]; exact hz), if_neg hz, n0, hset, gx_bs]
      · have hb2 := stepB w hd ha hm
        have hi := List.idxOf_lt_length_of_mem hb2
        have e1 : ixI (Lm ht) (mx (Lm ht) a + di, my (Lm ht) a + dj) = m1 := if_neg hm
        have er := H.2.2.2.2.1 _ b hi hb
        rw [e1, if_pos rfl, if_neg hm, g_borIx HB (by omega) (Lb_small w) (by omega) (by omega), gx_bs, ixI_mem hb2]
        unfold gFX10_ruleAt
        rw [n56, n12, nI_mul, nI_add, nI_add, gx_bs, mK_a1 (by omega), gx_bs]
        simp only [mp2]
        rw [setA_o (Ne.symm hj), Nat.add_assoc, er, hset, gx_bs])
    (fun a g ha => by
      show gLX10_laysTable_52 j (nI di) (nI dj) (nI a) _ _ _ (nI (Lm ht).length) _ = _
      unfold gLX10_laysTable_52
      rw [fr_n Hn hj, gx_bs, if_pos (by rw [nI_leN (by omega) (by omega)]; omega), n1, nI_add]
      rfl)
  exact ⟨g, e, fun row k hrow hk => h1 k row hk hrow⟩
theorem m_laysTables (H : RC (S.2 1) p ht r pts) (w : wfh ht) :
    ∃ T, gFX10_laysTables S = some T ∧ only S T (fun b => b = 10 ∨ b = 11) ∧ TL (T.2 10) (Lm ht).length (Lm ht).length (tabM ht r 1 0) ∧ TL (T.2 11) (Lm ht).length (Lm ht).length (tabM ht r 0 1) := by
  obtain ⟨g, e1, e2⟩ := m_laysTable (j := 10) H w (Or.inl ⟨rfl, rfl⟩) L10 (by decide)
  obtain ⟨g2, e3, e4⟩ := m_laysTable (S := ((S.1, setA S.2 10 g) : MS)) (j := 11) (by rw [mp2, setA_o (by decide)]; exact H) w (Or.inr ⟨rfl, rfl⟩) L11 (by decide)
  unfold gFX10_laysTables
  rw [n1, n0, e1, gx_bs, e3, gx_bs]
  refine ⟨_, rfl, ⟨rfl, fun b hb => ?_⟩, ?_, ?_⟩
  · rw [mp2, mp2, setA_o (fun z => hb (Or.inr z)), setA_o (fun z => hb (Or.inl z))]
  · rw [mp2, mp2, setA_o (by decide), setA_s]; exact e2
  · rw [mp2, setA_s]; exact e4
end
def mulV (n p : Nat) (A : Nat → Nat → Nat) (v : Nat → Nat) : Nat → Nat := fun r => sm (fun c => A r c * v c) n % p
def VL (g : Nat → Int32) (n : Nat) (v : Nat → Nat) : Prop := ∀ k, k < n → g k = nI (v k)
def bdV (v : Nat → Nat) (n p : Nat) : Prop := ∀ k, k < n → v k < p
section
variable {S : MS} {n p : Nat}
theorem m_applies (Hp : S.2 1 0 = nI p) (Hn : S.2 1 1 = nI n) (h0 : 0 < p) (hp : p < 1000) (hn : n ≤ 12) {j : Nat} (L : mK.2.2.2.1 j = 144) (d1 : j ≠ 16) (d2 : j ≠ 17) {A : Nat → Nat → Nat} {v : Nat → Nat} (TA : TL (S.2 j) n n A) (TV : VL (S.2 16) n v) (hA : bdM A n n p) (hv : bdV v n p) :
    ∃ T, gFX10_applies j S = some T ∧ only S T (fun b => b = 16 ∨ b = 17) ∧ VL (T.2 16) n (mulV n p A v) ∧ ∀ k, n ≤ k → T.2 16 k = S.2 16 k := by
  unfold gFX10_applies
  have sb : ∀ r, r < n → sm (fun c => A r c * v c) n < 16000000 := by
    intro r hr
    have := sm_bound (f := fun c => A r c * v c) (K := 1000000) n (fun k hk => by
      have := mul_lt_k hp (hA r k hr hk) (hv k hk)
      show A r k * v k ≤ 1000000
      omega)
    omega
  refine itr_run n (fun k s => ∃ g, s = (nI k, ((S.1, setA S.2 17 g) : MS)) ∧ ∀ r, r < k → g r = nI (mulV n p A v r)) ⟨S.2 17, by rw [n0, setA_id], fun r h => by omega⟩ ?_ ?_
  · rintro k s hk ⟨g, rfl, hg⟩
    left
    unfold gLX10_applies_2
    dsimp only
    rw [fr_n Hn (by decide), gx_bs, if_neg (by rw [nI_leN (by omega) (by omega)]; omega), n0]
    rw [itr_sum (f := fun c => A k c * v c) (N := n) (out := fun c => .inl (nI (k + 1), ((S.1, setA S.2 17 (upd g k (nI c - nI c / nI p * nI p))) : MS))) ?_ ?_ 0]
    · rw [Nat.zero_add, pk_rem (by have := sb k hk; omega) h0 (by omega)]
      refine ⟨_, rfl, _, rfl, fun r hr => ?_⟩
      by_cases h : r = k
      · rw [h, upd_s]; rfl
      · rw [upd_o h]; exact hg r (by omega)
    · intro c q hq
      unfold gLX10_applies_15
      dsimp only
      rw [fr_n Hn (by decide), gx_bs, if_neg (by rw [nI_leN (by omega) (by omega)]; omega), m_cell, gx_bs, gal_ok (N := 144) L (by omega) (by omega), gx_bs, mK_a16 (by omega), gx_bs]
      simp only [mp2]
      rw [setA_o d2, setA_o (by decide), TA k q hk hq, TV q hq, nI_mul, n1, nI_add, nI_add]
    · intro c
      unfold gLX10_applies_15
      dsimp only
      rw [fr_n Hn (by decide), gx_bs, if_pos (by rw [nI_leN (by omega) (by omega)]; omega), fr_p Hp (by decide), gx_bs, if_neg (by rw [n0, nI_eqN (by omega) (by omega)]; omega), mK_s17 (by omega), gx_bs]
      simp only [mp1, mp2, setA_s, setA_2]
      rw [n1, nI_add]
      rfl
  · rintro s ⟨g, rfl, hg⟩
    have fin : ∃ t, itr (fun s : Int32 × MS => gLX10_applies_69 s.1 s.2) (nI 0, ((S.1, setA S.2 17 g) : MS)) = some t ∧ only S t (fun b => b = 16 ∨ b = 17) ∧ VL (t.2 16) n (mulV n p A v) ∧ ∀ k, n ≤ k → t.2 16 k = S.2 16 k := by
      refine itr_run n (fun k s => ∃ u, s = (nI k, ((S.1, setA (setA S.2 17 g) 16 u) : MS)) ∧ (∀ r, r < k → u r = nI (mulV n p A v r)) ∧ ∀ q, k ≤ q → u q = S.2 16 q) ?_ ?_ ?_
      · refine ⟨S.2 16, ?_, fun r h => by omega, fun q _ => rfl⟩
        refine Prod.ext rfl (Prod.ext rfl ?_)
        show setA S.2 17 g = setA (setA S.2 17 g) 16 (S.2 16)
        funext b
        unfold setA
        by_cases h : b = 16
        · subst h; rfl
        · rw [if_neg h]
      · rintro k s hk ⟨u, rfl, hu, hu2⟩
        left
        unfold gLX10_applies_69
        dsimp only
        rw [show gFX10_n ((S.1, setA (setA S.2 17 g) 16 u) : MS) = some (nI n) from fr_n (S := ((S.1, setA S.2 17 g) : MS)) (by rw [mp2, setA_o (by decide)]; exact Hn) (by decide), gx_bs, if_neg (by rw [nI_leN (by omega) (by omega)]; omega), mK_a17 (by omega), gx_bs, mK_s16 (by omega), gx_bs]
        simp only [mp1, mp2, setA_s, setA_2]
        rw [setA_o (by decide), setA_s, hg k hk, n1, nI_add]
        refine ⟨_, rfl, _, rfl, fun r hr => ?_, fun q hq => ?_⟩
        · by_cases h : r = k
          · rw [h, upd_s]
          · rw [upd_o h]; exact hu r (by omega)
        · rw [upd_o (by omega)]; exact hu2 q (by omega)
      · rintro s ⟨u, rfl, hu, hu2⟩
        unfold gLX10_applies_69
        dsimp only
        rw [show gFX10_n ((S.1, setA (setA S.2 17 g) 16 u) : MS) = some (nI n) from fr_n (S := ((S.1, setA S.2 17 g) : MS)) (by rw [mp2, setA_o (by decide)]; exact Hn) (by decide), gx_bs, if_pos (by rw [nI_leN (by omega) (by omega)]; omega)]
        refine ⟨_, rfl, ⟨rfl, fun b hb => ?_⟩, ?_, fun k hk => ?_⟩
        · rw [mp2, setA_o (fun z => hb (Or.inl z)), setA_o (fun z => hb (Or.inr z))]
        · rw [mp2, setA_s]; exact hu
        · rw [mp2, setA_s]; exact hu2 k hk
    obtain ⟨t, f1, f2⟩ := fin
    unfold gLX10_applies_2
    dsimp only
    rw [fr_n Hn (by decide), gx_bs, if_pos (by rw [nI_leN (by omega) (by omega)]; omega), n0, f1]
    exact ⟨t, rfl, f2⟩
end
