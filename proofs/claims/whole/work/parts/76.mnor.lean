/-! the reference: normal forms of monomials, differences of the products -/
def itV (n p : Nat) (A : Nat → Nat → Nat) (v : Nat → Nat) : Nat → Nat → Nat
  | 0 => v
  | e + 1 => mulV n p A (itV n p A v e)
def e0V : Nat → Nat := fun k => if k = 0 then 1 else 0
theorem bd_mulV {n p : Nat} {A : Nat → Nat → Nat} {v : Nat → Nat} (h0 : 0 < p) : bdV (mulV n p A v) n p := fun _ _ => Nat.mod_lt _ h0
theorem bd_itV {n p : Nat} {A : Nat → Nat → Nat} {v : Nat → Nat} (h0 : 0 < p) (hv : bdV v n p) : ∀ e, bdV (itV n p A v e) n p
  | 0 => hv
  | _ + 1 => bd_mulV h0
theorem bd_e0 {n p : Nat} (hp : 2 ≤ p) : bdV e0V n p := fun k _ => by unfold e0V; split <;> omega
def norV (n p : Nat) (X Y : Nat → Nat → Nat) (i j : Nat) : Nat → Nat := itV n p X (itV n p Y e0V j) i
/-- after k of the steps -/
def norK (n p : Nat) (X Y : Nat → Nat → Nat) (j k : Nat) : Nat → Nat := itV n p X (itV n p Y e0V (min k j)) (k - j)
theorem norK_step {n p : Nat} {X Y : Nat → Nat → Nat} {j k : Nat} : norK n p X Y j (k + 1) = mulV n p (if k < j then Y else X) (norK n p X Y j k) := by
  unfold norK
  by_cases h : k < j
  · rw [if_pos h, show min (k + 1) j = min k j + 1 by omega, show k + 1 - j = 0 by omega, show k - j = 0 by omega]
    rfl
  · rw [if_neg h, show min (k + 1) j = min k j by omega, show k + 1 - j = k - j + 1 by omega]
    rfl
section
variable {S : MS} {n p : Nat}
theorem m_laysNormal (Hp : S.2 1 0 = nI p) (Hn : S.2 1 1 = nI n) (hp2 : 2 ≤ p) (hp : p < 1000) (hn : n ≤ 12) {X Y : Nat → Nat → Nat} (TX : TL (S.2 10) n n X) (TY : TL (S.2 11) n n Y) (hX : bdM X n n p) (hY : bdM Y n n p) {i j : Nat} (hi : i < 1000) (hj : j < 1000) :
    ∃ T, gFX10_laysNormal (nI i) (nI j) S = some T ∧ only S T (fun b => b = 16 ∨ b = 17) ∧ VL (T.2 16) n (norV n p X Y i j) ∧ ∀ k, n ≤ k → k < 12 → T.2 16 k = nI (e0V k) := by
  unfold gFX10_laysNormal
  refine itr_run 12 (fun k s => ∃ u, s = (nI k, ((S.1, setA S.2 16 u) : MS)) ∧ ∀ q, q < k → u q = nI (e0V q)) ⟨S.2 16, by rw [n0, setA_id], fun q h => by omega⟩ ?_ ?_
  · rintro k s hk ⟨u, rfl, hu⟩
    left
    unfold gLX10_laysNormal_2 gBX10_laysNormal_22
    dsimp only
    rw [if_neg (by rw [n12, nI_leN (by omega) (by omega)]; omega), mK_s16 hk, mK_s16 hk, gx_bs, gx_bs]
    simp only [mp1, mp2, setA_s, setA_2]
    rw [n1, n0, nI_add]
    by_cases h : k = 0
    · rw [if_pos (by rw [h])]
      refine ⟨_, rfl, _, rfl, fun q hq => ?_⟩
      by_cases h2 : q = k
      · rw [h2, upd_s]; unfold e0V; rw [if_pos h]
      · rw [upd_o h2]; exact hu q (by omega)
    · rw [if_neg (by rw [nI_eqN (by omega) (by omega)]; exact h)]
      refine ⟨_, rfl, _, rfl, fun q hq => ?_⟩
      by_cases h2 : q = k
      · rw [h2, upd_s]; unfold e0V; rw [if_neg h]
      · rw [upd_o h2]; exact hu q (by omega)
  · rintro s ⟨u, rfl, hu⟩
    have run : ∃ T, itr (fun s : Int32 × MS => gLX10_laysNormal_31 (nI i) (nI j) s.1 s.2) (nI 0, ((S.1, setA S.2 16 u) : MS)) = some T ∧ only S T (fun b => b = 16 ∨ b = 17) ∧ VL (T.2 16) n (norV n p X Y i j) ∧ ∀ k, n ≤ k → k < 12 → T.2 16 k = nI (e0V k) := by
      refine itr_run (i + j) (fun k s => ∃ T, s = (nI k, T) ∧ only S T (fun b => b = 16 ∨ b = 17) ∧ VL (T.2 16) n (norK n p X Y j k) ∧ ∀ k, n ≤ k → k < 12 → T.2 16 k = nI (e0V k)) ?_ ?_ ?_
      · refine ⟨_, rfl, only.set.mono fun b hb => Or.inl hb, fun q hq => ?_, fun q _ hq => ?_⟩
        · rw [mp2, setA_s]
          unfold norK
          rw [Nat.zero_min, Nat.zero_sub]
          exact hu q (by omega)
        · rw [mp2, setA_s]; exact hu q hq
      · rintro k s hk ⟨T, rfl, h1, h2, h3⟩
        left
        have q1 : T.2 1 = S.2 1 := h1.2 1 (by decide)
        have q10 : T.2 10 = S.2 10 := h1.2 10 (by decide)
        have q11 : T.2 11 = S.2 11 := h1.2 11 (by decide)
        have hv : bdV (norK n p X Y j k) n p := bd_itV (by omega) (bd_itV (by omega) (bd_e0 hp2) _) _
        unfold gLX10_laysNormal_31 gBX10_laysNormal_55
        dsimp only
        rw [nI_add, if_neg (by rw [nI_leN (by omega) (by omega)]; omega)]
        by_cases h : k < j
        · rw [if_neg (by rw [nI_leN (by omega) (by omega)]; omega)]
          obtain ⟨U, u1, u2, u3, u4⟩ := m_applies (S := T) (j := 11) (by rw [q1]; exact Hp) (by rw [q1]; exact Hn) (by omega) hp hn L11 (by decide) (by decide) (by rw [q11]; exact TY) h2 hY hv
          rw [u1, gx_bs, n1, nI_add]
          refine ⟨_, rfl, U, rfl, h1.tr u2, ?_, fun q hq hq2 => by rw [u4 q hq]; exact h3 q hq hq2⟩
          rw [norK_step, if_pos h]
          exact u3
        · rw [if_pos (by rw [nI_leN (by omega) (by omega)]; omega)]
          obtain ⟨U, u1, u2, u3, u4⟩ := m_applies (S := T) (j := 10) (by rw [q1]; exact Hp) (by rw [q1]; exact Hn) (by omega) hp hn L10 (by decide) (by decide) (by rw [q10]; exact TX) h2 hX hv
          rw [u1, gx_bs, n1, nI_add]
          refine ⟨_, rfl, U, rfl, h1.tr u2, ?_, fun q hq hq2 => by rw [u4 q hq]; exact h3 q hq hq2⟩
          rw [norK_step, if_neg h]
          exact u3
      · rintro s ⟨T, rfl, h1, h2, h3⟩
        unfold gLX10_laysNormal_31
        dsimp only
        rw [nI_add, if_pos (by rw [nI_leN (by omega) (by omega)]; omega)]
        refine ⟨T, rfl, h1, ?_, h3⟩
        unfold norK at h2
        rw [show min (i + j) j = j by omega, show i + j - j = i by omega] at h2
        exact h2
    obtain ⟨T, e, h⟩ := run
    unfold gLX10_laysNormal_2
    dsimp only
    rw [if_pos (by rw [n12, nI_leN (by omega) (by omega)]; omega), n0, e]
    exact ⟨T, rfl, h⟩
def difN (n : Nat) (A B : Nat → Nat → Nat) : Nat := sm (fun r => sm (fun c => b1 (!decide (A r c = B r c))) n) n
theorem m_differences {pc : Nat} {ht : Nat → Nat} {r : Nat → Nat → Nat} {pts : List (Nat × Nat)} (H : RC (S.2 1) pc ht r pts) (w : wfh ht) (hp2 : 2 ≤ pc) (hp : pc < 1000) (hr : ∀ b k, b < (Lb ht).length → k < (Lm ht).length → r b k < pc) :
    ∃ T, gFX10_differences S = some (nI (difN (Lm ht).length (mulM (Lm ht).length pc (tabM ht r 1 0) (tabM ht r 0 1)) (mulM (Lm ht).length pc (tabM ht r 0 1) (tabM ht r 1 0))), T) ∧ only S T (fun b => b = 10 ∨ b = 11 ∨ b = 13 ∨ b = 14) ∧ TL (T.2 10) (Lm ht).length (Lm ht).length (tabM ht r 1 0) ∧ TL (T.2 11) (Lm ht).length (Lm ht).length (tabM ht r 0 1) ∧ TL (T.2 13) (Lm ht).length (Lm ht).length (mulM (Lm ht).length pc (tabM ht r 1 0) (tabM ht r 0 1)) ∧ TL (T.2 14) (Lm ht).length (Lm ht).length (mulM (Lm ht).length pc (tabM ht r 0 1) (tabM ht r 1 0)) := by
  have l := Lm_len w
  obtain ⟨T1, a1, a2, a3, a4⟩ := m_laysTables H w
  have q1 : T1.2 1 = S.2 1 := a2.2 1 (by decide)
  have hX := bd_tab (p := pc) (r := r) w (Or.inl ⟨rfl, rfl⟩) hp2 hr
  have hY := bd_tab (p := pc) (r := r) w (Or.inr ⟨rfl, rfl⟩) hp2 hr
  have Hp1 : T1.2 1 0 = nI pc := by rw [q1]; exact H.1
  have Hn1 : T1.2 1 1 = nI (Lm ht).length := by rw [q1]; exact H.2.1.1
  obtain ⟨g, b1', b2⟩ := m_mul (S := T1) (j1 := 10) (j2 := 11) (j3 := 13) Hp1 Hn1 (by omega) hp l.2.1 L10 L11 L13 (by decide) (by decide) (by decide) a3 a4 hX hY
  have Hp2 : ((T1.1, setA T1.2 13 g) : MS).2 1 0 = nI pc := by rw [mp2, setA_o (by decide)]; exact Hp1
  have Hn2 : ((T1.1, setA T1.2 13 g) : MS).2 1 1 = nI (Lm ht).length := by rw [mp2, setA_o (by decide)]; exact Hn1
  obtain ⟨g2, c1, c2⟩ := m_mul (S := ((T1.1, setA T1.2 13 g) : MS)) (j1 := 11) (j2 := 10) (j3 := 14) Hp2 Hn2 (by omega) hp l.2.1 L11 L10 L14 (by decide) (by decide) (by decide) (by rw [mp2, setA_o (by decide)]; exact a4) (by rw [mp2, setA_o (by decide)]; exact a3) hY hX
  rw [mp1, mp2] at c1
  generalize hXY : mulM (Lm ht).length pc (tabM ht r 1 0) (tabM ht r 0 1) = XY at *
  generalize hYX : mulM (Lm ht).length pc (tabM ht r 0 1) (tabM ht r 1 0) = YX at *
  have bXY : bdM XY (Lm ht).length (Lm ht).length pc := by rw [← hXY]; exact bd_mul (by omega)
  have bYX : bdM YX (Lm ht).length (Lm ht).length pc := by rw [← hYX]; exact bd_mul (by omega)
  generalize hT : ((T1.1, setA (setA T1.2 13 g) 14 g2) : MS) = T at c1
  have t1 : T.2 1 = S.2 1 := by rw [← hT, mp2, setA_o (by decide), setA_o (by decide)]; exact q1
  have t10 : T.2 10 = T1.2 10 := by rw [← hT, mp2, setA_o (by decide), setA_o (by decide)]
  have t11 : T.2 11 = T1.2 11 := by rw [← hT, mp2, setA_o (by decide), setA_o (by decide)]
  have t13 : T.2 13 = g := by rw [← hT, mp2, setA_o (by decide), setA_s]
  have t14 : T.2 14 = g2 := by rw [← hT, mp2, setA_s]
  have nn : gFX10_n T = some (nI (Lm ht).length) := g_n (by rw [t1]; exact H.2.1)
  unfold gFX10_differences
  rw [a1, gx_bs, b1', gx_bs, c1, gx_bs, n0]
  rw [itr_sum (f := fun r => sm (fun c => b1 (!decide (XY r c = YX r c))) (Lm ht).length) (N := (Lm ht).length) (out := fun c => (nI c, T)) ?_ ?_ 0, Nat.zero_add]
  · refine ⟨T, rfl, ⟨?_, fun b hb => ?_⟩, by rw [t10]; exact a3, by rw [t11]; exact a4, by rw [t13]; exact b2, by rw [t14]; exact c2⟩
    · rw [← hT]; exact a2.1
    · rw [← hT, mp2, setA_o (fun z => hb (by omega)), setA_o (fun z => hb (by omega))]
      exact a2.2 b (fun z => hb (by omega))
  · intro c a ha
    unfold gLX10_differences_40
    dsimp only
    rw [nn, gx_bs, if_neg (by rw [nI_leN (by omega) (by omega)]; omega), n0]
    rw [itr_sum (f := fun c => b1 (!decide (XY a c = YX a c))) (N := (Lm ht).length) (out := fun c => Sum.inl (nI c, nI (a + 1))) ?_ ?_ c]
    · intro c b hb
      have z1 := bXY a b ha hb
      have z2 := bYX a b ha hb
      unfold gLX10_differences_50 gBX10_differences_87
      dsimp only
      rw [nn, gx_bs, if_neg (by rw [nI_leN (by omega) (by omega)]; omega), m_cell, gx_bs, gal_ok (N := 144) L13 (by omega) (by omega), gx_bs, gx_bs, gal_ok (N := 144) L14 (by omega) (by omega), gx_bs, t13, t14, b2 a b ha hb, c2 a b ha hb, n0, n1, nI_add, nI_add, nI_add]
      by_cases h : XY a b = YX a b
      · rw [if_pos (by rw [h]), decide_eq_true h]; rfl
      · rw [if_neg (by rw [nI_eqN (by omega) (by omega)]; exact h), decide_eq_false h]; rfl
    · intro c
      unfold gLX10_differences_50
      dsimp only
      rw [nn, gx_bs, if_pos (by rw [nI_leN (by omega) (by omega)]; omega), n1, nI_add]
      rfl
  · intro c
    unfold gLX10_differences_40
    dsimp only
    rw [nn, gx_bs, if_pos (by rw [nI_leN (by omega) (by omega)]; omega)]
    rfl
end
