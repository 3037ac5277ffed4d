/-! the reference: powers, traces, tables less a number, tall rows -/
def powR (n p : Nat) (A : Nat → Nat → Nat) : Nat → Nat → Nat → Nat
  | 0 => oneM
  | e + 1 => mulM n p A (powR n p A e)
def mulIt (n p : Nat) (A B : Nat → Nat → Nat) : Nat → Nat → Nat → Nat
  | 0 => B
  | e + 1 => mulM n p A (mulIt n p A B e)
theorem bd_one {n p : Nat} (hp : 2 ≤ p) : bdM oneM n n p := by
  intro r c _ _
  unfold oneM
  split <;> omega
theorem bd_pow {n p : Nat} {A : Nat → Nat → Nat} (hp : 2 ≤ p) : ∀ e, bdM (powR n p A e) n n p
  | 0 => bd_one hp
  | _ + 1 => bd_mul (by omega)
theorem bd_it {n p : Nat} {A B : Nat → Nat → Nat} (hp : 2 ≤ p) (hB : bdM B n n p) : ∀ e, bdM (mulIt n p A B e) n n p
  | 0 => hB
  | _ + 1 => bd_mul (by omega)
theorem L10 : mK.2.2.2.1 10 = 144 := rfl
theorem L11 : mK.2.2.2.1 11 = 144 := rfl
theorem L12 : mK.2.2.2.1 12 = 144 := rfl
theorem L13 : mK.2.2.2.1 13 = 144 := rfl
theorem L14 : mK.2.2.2.1 14 = 144 := rfl
/-- only some rows of the reference have changed -/
def only (S T : MS) (P : Nat → Prop) : Prop := T.1 = S.1 ∧ ∀ b, ¬ P b → T.2 b = S.2 b
theorem only.rf {S : MS} {P : Nat → Prop} : only S S P := ⟨rfl, fun _ _ => rfl⟩
theorem only.tr {S T U : MS} {P : Nat → Prop} (h1 : only S T P) (h2 : only T U P) : only S U P := ⟨h2.1.trans h1.1, fun b hb => (h2.2 b hb).trans (h1.2 b hb)⟩
theorem only.mono {S T : MS} {P Q : Nat → Prop} (h : only S T P) (w : ∀ b, P b → Q b) : only S T Q := ⟨h.1, fun b hb => h.2 b fun z => hb (w b z)⟩
theorem only.set {S : MS} {j : Nat} {g : Nat → Int32} : only S ((S.1, setA S.2 j g) : MS) (fun b => b = j) := ⟨rfl, fun b hb => by rw [mp2, setA_o hb]⟩
section
variable {S : MS} {n p : Nat}
/-- a table times the first row of cells, into it -/
theorem m_step (Hp : S.2 1 0 = nI p) (Hn : S.2 1 1 = nI n) (hp2 : 2 ≤ p) (hp : p < 1000) (hn : n ≤ 12) {j : Nat} (L : mK.2.2.2.1 j = 144) (d1 : j ≠ 14) {A B : Nat → Nat → Nat} (TA : TL (S.2 j) n n A) (TB : TL (S.2 12) n n B) (hA : bdM A n n p) (hB : bdM B n n p) :
    ∃ T, (gFX10_multiplies j 12 14 S).bind (fun h7 => gFX10_copiesCells 14 12 h7) = some T ∧ only S T (fun b => b = 12 ∨ b = 14) ∧ TL (T.2 12) n n (mulM n p A B) := by
  obtain ⟨g, e1, e2⟩ := m_mul (j3 := 14) Hp Hn (by omega) hp hn L L12 L14 (by decide) d1 (by decide) TA TB hA hB
  obtain ⟨g2, e3, e4⟩ := m_copiesCells (S := ((S.1, setA S.2 14 g) : MS)) L14 L12 (by decide)
  rw [e1, gx_bs, e3]
  refine ⟨_, rfl, ⟨rfl, fun b hb => ?_⟩, fun r c hr hc => ?_⟩
  · rw [mp2, setA_o (fun z => hb (Or.inl z)), mp2, setA_o (fun z => hb (Or.inr z))]
  · rw [mp2, setA_s, e4 _ (by omega), mp2, setA_s]
    exact e2 r c hr hc
theorem m_raises (Hp : S.2 1 0 = nI p) (Hn : S.2 1 1 = nI n) (hp2 : 2 ≤ p) (hp : p < 1000) (hn : n ≤ 12) {j : Nat} (L : mK.2.2.2.1 j = 144) (d1 : j ≠ 14) (d2 : j ≠ 12) {A : Nat → Nat → Nat} (TA : TL (S.2 j) n n A) (hA : bdM A n n p) {e : Nat} (he : e < 1000) :
    ∃ T, gFX10_raises j (nI e) S = some T ∧ only S T (fun b => b = 12 ∨ b = 14) ∧ TL (T.2 12) n n (powR n p A e) := by
  obtain ⟨g, e1, e2⟩ := m_laysOne (S := S) L12
  unfold gFX10_raises
  rw [e1, gx_bs, n0]
  refine itr_run e (fun k s => ∃ T, s = (nI k, T) ∧ only S T (fun b => b = 12 ∨ b = 14) ∧ TL (T.2 12) n n (powR n p A k)) ?_ ?_ ?_
  · refine ⟨_, rfl, only.set.mono fun b hb => Or.inl hb, fun r c hr hc => ?_⟩
    rw [mp2, setA_s]
    exact e2 r c (by omega) (by omega)
  · rintro k s hk ⟨T, rfl, h1, h2⟩
    left
    have q1 : T.2 1 = S.2 1 := h1.2 1 (by decide)
    have qj : T.2 j = S.2 j := h1.2 j (by omega)
    obtain ⟨U, u1, u2, u3⟩ := m_step (S := T) (by rw [q1]; exact Hp) (by rw [q1]; exact Hn) hp2 hp hn L d1 (by rw [qj]; exact TA) h2 hA (bd_pow hp2 k)
    unfold gLX10_raises_10
    dsimp only
    rw [if_neg (by rw [nI_leN (by omega) (by omega)]; omega)]
    have run : ((gFX10_multiplies j 12 14 T).bind fun h7 => (gFX10_copiesCells 14 12 h7).bind fun h11 => some (Sum.inl ((nI k + (1 : Int32)), h11))) = (some (Sum.inl (nI (k + 1), U)) : Option ((Int32 × MS) ⊕ MS)) := by
      cases h : gFX10_multiplies j 12 14 T with
      | none => rw [h] at u1; cases u1
      | some V =>
        rw [h, gx_bs] at u1
        rw [gx_bs, u1, gx_bs, n1, nI_add]
    rw [run]
    exact ⟨_, rfl, U, rfl, h1.tr u2, u3⟩
  · rintro s ⟨T, rfl, h1, h2⟩
    unfold gLX10_raises_10
    dsimp only
    rw [if_pos (by rw [nI_leN (by omega) (by omega)]; omega)]
    exact ⟨T, rfl, h1, h2⟩
def trM (n p : Nat) (A : Nat → Nat → Nat) : Nat := sm (fun k => A k k) n % p
theorem m_traceOf (Hp : S.2 1 0 = nI p) (Hn : S.2 1 1 = nI n) (hp2 : 2 ≤ p) (hp : p < 1000) (hn : n ≤ 12) {X Y : Nat → Nat → Nat} (TX : TL (S.2 10) n n X) (TY : TL (S.2 11) n n Y) (hX : bdM X n n p) (hY : bdM Y n n p) {i j : Nat} (hi : i < 1000) (hj : j < 1000) :
    ∃ T, gFX10_traceOf (nI i) (nI j) S = some (nI (trM n p (mulIt n p X (powR n p Y j) i)), T) ∧ only S T (fun b => b = 12 ∨ b = 14) := by
  obtain ⟨T0, t1, t2, t3⟩ := m_raises (j := 11) Hp Hn hp2 hp hn L11 (by decide) (by decide) TY hY hj
  unfold gFX10_traceOf
  rw [t1, gx_bs, n0]
  have key : ∃ t, itr (fun s : Int32 × MS => gLX10_traceOf_11 (nI i) s.1 s.2) (nI 0, T0) = some t ∧ ∃ T, t = (nI (trM n p (mulIt n p X (powR n p Y j) i)), T) ∧ only S T (fun b => b = 12 ∨ b = 14) := by
    refine itr_run i (fun k s => ∃ T, s = (nI k, T) ∧ only S T (fun b => b = 12 ∨ b = 14) ∧ TL (T.2 12) n n (mulIt n p X (powR n p Y j) k)) ⟨T0, rfl, t2, t3⟩ ?_ ?_
    · rintro k s hk ⟨T, rfl, h1, h2⟩
      left
      have q1 : T.2 1 = S.2 1 := h1.2 1 (by decide)
      have qj : T.2 10 = S.2 10 := h1.2 10 (by omega)
      obtain ⟨U, u1, u2, u3⟩ := m_step (S := T) (by rw [q1]; exact Hp) (by rw [q1]; exact Hn) hp2 hp hn L10 (by decide) (by rw [qj]; exact TX) h2 hX (bd_it hp2 (bd_pow hp2 j) k)
      unfold gLX10_traceOf_11
      dsimp only
      rw [if_neg (by rw [nI_leN (by omega) (by omega)]; omega)]
      have run : ((gFX10_multiplies 10 12 14 T).bind fun h17 => (gFX10_copiesCells 14 12 h17).bind fun h21 => some (Sum.inl ((nI k + (1 : Int32)), h21))) = (some (Sum.inl (nI (k + 1), U)) : Option ((Int32 × MS) ⊕ (Int32 × MS))) := by
        cases h : gFX10_multiplies 10 12 14 T with
        | none => rw [h] at u1; cases u1
        | some V =>
          rw [h, gx_bs] at u1
          rw [gx_bs, u1, gx_bs, n1, nI_add]
      rw [run]
      exact ⟨_, rfl, U, rfl, h1.tr u2, u3⟩
    · rintro s ⟨T, rfl, h1, h2⟩
      have q1 : T.2 1 = S.2 1 := h1.2 1 (by decide)
      have nn : gFX10_n T = some (nI n) := by
        unfold gFX10_n
        rw [n1, mK_a1 (by omega), gx_bs, q1, Hn]
      have pp : gFX10_p T = some (nI p) := g_p (by rw [q1]; exact Hp)
      have hb := bd_it (A := X) hp2 (bd_pow (n := n) (A := Y) hp2 j) i
      have hs : sm (fun k => mulIt n p X (powR n p Y j) i k k) n ≤ n * 1000 := sm_bound n fun k hk => by have := hb k k hk hk; omega
      unfold gLX10_traceOf_11
      dsimp only
      rw [if_pos (by rw [nI_leN (by omega) (by omega)]; omega), n0]
      rw [itr_sum (f := fun k => mulIt n p X (powR n p Y j) i k k) (N := n) (out := fun c => (nI c - nI c / nI p * nI p, T)) ?_ ?_ 0]
      · rw [Nat.zero_add, pk_rem (by omega) (by omega) (by omega)]
        exact ⟨_, rfl, T, rfl, h1⟩
      · intro c k hk
        unfold gLX10_traceOf_55
        rw [nn, gx_bs, if_neg (by rw [nI_leN (by omega) (by omega)]; omega), m_cell, gx_bs, gal_ok (N := 144) L12 (by omega) (by omega), gx_bs, h2 k k hk hk, n1, nI_add, nI_add]
      · intro c
        unfold gLX10_traceOf_55
        rw [nn, gx_bs, if_pos (by rw [nI_leN (by omega) (by omega)]; omega), pp, gx_bs, if_neg (by rw [n0, nI_eqN (by omega) (by omega)]; omega)]
        rfl
  obtain ⟨t, e, T, rfl, h⟩ := key
  exact ⟨T, e, h⟩
def lessM (A : Nat → Nat → Nat) (v p : Nat) : Nat → Nat → Nat := fun r c => if r = c then rsd ((A r c : Int) - (v : Nat)) p else A r c
theorem bd_less {A : Nat → Nat → Nat} {v : Nat} (h0 : 0 < p) (hA : bdM A n n p) : bdM (lessM A v p) n n p := by
  intro r c hr hc
  unfold lessM
  split
  · exact rsd_lt h0
  · exact hA r c hr hc
theorem m_lessens (Hp : S.2 1 0 = nI p) (Hn : S.2 1 1 = nI n) (h0 : 0 < p) (hp : p < 1000) (hn : n ≤ 12) {j : Nat} (L : mK.2.2.2.1 j = 144) (hj : j ≠ 1) {A : Nat → Nat → Nat} (TA : TL (S.2 j) n n A) (hA : bdM A n n p) {v : Nat} (hv : v < p) :
    ∃ g, gFX10_lessens j (nI v) S = some ((S.1, setA S.2 j g) : MS) ∧ TL g n n (lessM A v p) := by
  unfold gFX10_lessens
  have key : ∃ t, itr (fun s : Int32 × MS => gLX10_lessens_2 j (nI v) s.1 s.2) ((0 : Int32), S) = some t ∧ ∃ g, t = ((S.1, setA S.2 j g) : MS) ∧ TL g n n (lessM A v p) := by
    refine itr_run n (fun k s => ∃ g, s = (nI k, ((S.1, setA S.2 j g) : MS)) ∧ TL g n n (fun r c => if r < k then lessM A v p r c else A r c)) ⟨S.2 j, by rw [n0, setA_id], fun r c hr hc => by rw [TA r c hr hc]; dsimp only; rw [if_neg (show ¬ r < 0 by omega)]⟩ ?_ ?_
    · rintro k s hk ⟨g, rfl, hg⟩
      left
      have g1 := hg k k hk hk
      dsimp only at g1
      rw [if_neg (by omega)] at g1
      have hb := hA k k hk hk
      have hz : (nI (A k k) - nI v).toInt = (A k k : Int) - (v : Nat) := pk_sub_toInt (by omega) (by omega)
      have hm : gFX10_mod (nI (A k k) - nI v) ((S.1, setA S.2 j g) : MS) = some (nI (rsd ((A k k : Int) - (v : Nat)) p)) := m_mod (by rw [mp2, setA_o (Ne.symm hj)]; exact Hp) hz h0 (by omega) (by omega)
      unfold gLX10_lessens_2
      dsimp only
      rw [fr_n Hn hj, gx_bs, if_neg (by rw [nI_leN (by omega) (by omega)]; omega), m_cell, gx_bs, gx_bs, gal_ok (N := 144) L (by omega) (by omega), gx_bs]
      simp only [mp2, setA_s]
      rw [g1, hm, gx_bs, gas_ok (N := 144) L (by omega) (by omega), gx_bs]
      simp only [mp1, mp2, setA_s, setA_2]
      rw [n1, nI_add]
      refine ⟨_, rfl, _, rfl, fun r c hr hc => ?_⟩
      dsimp only
      by_cases h : r = k ∧ c = k
      · rw [h.1, h.2, upd_s, if_pos (by omega)]
        unfold lessM
        rw [if_pos rfl]
      · rw [upd_o (by omega), hg r c hr hc]
        dsimp only
        congr 1
        by_cases h2 : r < k
        · rw [if_pos h2, if_pos (by omega)]
        · rw [if_neg h2]
          by_cases h3 : r = k
          · rw [if_pos (by omega)]
            unfold lessM
            rw [if_neg (by omega)]
          · rw [if_neg (by omega)]
    · rintro s ⟨g, rfl, hg⟩
      unfold gLX10_lessens_2
      dsimp only
      rw [fr_n Hn hj, gx_bs, if_pos (by rw [nI_leN (by omega) (by omega)]; omega)]
      exact ⟨_, rfl, g, rfl, hg.fr fun r c hr _ => by rw [if_pos hr]⟩
  obtain ⟨t, e, g, rfl, h⟩ := key
  exact ⟨g, e, h⟩
theorem m_laysTall (Hn : S.2 1 1 = nI n) (hn : n ≤ 12) {j w : Nat} (hw : w ≤ 12) (L : mK.2.2.2.1 j = 144) (hj : j ≠ 15) {A : Nat → Nat → Nat} (TA : TL (S.2 j) n n A) :
    ∃ g, gFX10_laysTall j (nI w) S = some ((S.1, setA S.2 15 g) : MS) ∧ (∀ r c, r < n → c < n → g (12 * (w + r) + c) = nI (A r c)) ∧ ∀ r c, (r < w ∨ w + n ≤ r) → c < 12 → g (12 * r + c) = S.2 15 (12 * r + c) := by
  unfold gFX10_laysTall
  obtain ⟨g, e, h1, h2⟩ := grid (S := S) (j := 15) (n := n) (m := n) (ix := fun a b => 12 * (w + a) + b) (V := fun r c => nI (A r c)) (outer := fun l3 h => gLX10_laysTall_2 j (nI w) l3 h) (inner := fun l3 l4 h => gLX10_laysTall_13 j (nI w) l3 l4 h)
    (fun a b a' b' _ hb _ hb' e => by
      have e : 12 * (w + a') + b' = 12 * (w + a) + b := e
      omega)
    (fun a g ha => by
      show gLX10_laysTall_2 j (nI w) (nI a) _ = _
      unfold gLX10_laysTall_2
      rw [fr_n Hn (by decide), gx_bs, if_neg (by rw [nI_leN (by omega) (by omega)]; omega), n0])
    (fun g => by
      show gLX10_laysTall_2 j (nI w) (nI n) _ = _
      unfold gLX10_laysTall_2
      rw [fr_n Hn (by decide), gx_bs, if_pos (by rw [nI_leN (by omega) (by omega)]; omega)]
      rfl)
    (fun a b g ha hb => by
      show gLX10_laysTall_13 j (nI w) (nI a) (nI b) _ = _
      unfold gLX10_laysTall_13
      rw [fr_n Hn (by decide), gx_bs, if_neg (by rw [nI_leN (by omega) (by omega)]; omega), nI_add, m_cell, gx_bs, m_cell, gx_bs, gal_ok (N := 144) L (by omega) (by omega), gx_bs, mK_s15 (by omega), gx_bs]
      simp only [mp1, mp2, setA_s, setA_2]
      rw [setA_o hj, TA a b ha hb, n1, nI_add])
    (fun a g ha => by
      show gLX10_laysTall_13 j (nI w) (nI a) (nI n) _ = _
      unfold gLX10_laysTall_13
      rw [fr_n Hn (by decide), gx_bs, if_pos (by rw [nI_leN (by omega) (by omega)]; omega), n1, nI_add]
      rfl)
  refine ⟨g, e, fun r c hr hc => h1 r c hr hc, fun r c hr hc => h2 _ fun a b ha hb e => ?_⟩
  have e : 12 * r + c = 12 * (w + a) + b := e
  omega
end
