/-! the parser: prime and point, on both sides -/
theorem prs_13 : ∀ v, v < 98 → 13 ≤ v → (v ∈ prs ↔ ∀ d, d < 13 → 2 ≤ d → v % d ≠ 0) := by decide +kernel
theorem prs_10 : ∀ v, v < 98 → 13 ≤ v → (v ∈ prs ↔ ∀ d, d < 10 → 2 ≤ d → v % d ≠ 0) := by decide +kernel
theorem p_prime {v : Nat} (hv : v ≤ 97) : p_isPrimeAllowed (nI v) = some (bI (decide (v ∈ prs))) := by
  unfold p_isPrimeAllowed FX9_isPrimeAllowed
  rw [n13, n97]
  by_cases h13 : v < 13
  · rw [if_pos (by rw [nI_ltN (by omega) (by omega)]; exact h13), decide_eq_false (fun z => by have := prs_b v z; omega), n0]
    rfl
  · rw [if_neg (by rw [nI_ltN (by omega) (by omega)]; exact h13), if_pos (by rw [nI_leN (by omega) (by omega)]; exact hv), n2]
    have fact := prs_13 v (by omega) (by omega)
    refine itr_val 11 (fun k s => s = nI (2 + k) ∧ ∀ d, d < 2 + k → 2 ≤ d → v % d ≠ 0) ⟨rfl, fun d h1 h2 => by omega⟩ ?_ ?_
    · rintro k s hk ⟨rfl, e⟩
      unfold LX9_isPrimeAllowed_16
      rw [n13, if_neg (by rw [nI_leN (by omega) (by omega)]; omega), n0, if_neg (by rw [nI_eqN (by omega) (by omega)]; omega), pk_rem (by omega) (by omega) (by omega)]
      by_cases hz : v % (2 + k) = 0
      · right
        rw [if_pos (by rw [hz]), decide_eq_false (fun z => (fact.mp z) (2 + k) (by omega) (by omega) hz)]
        rfl
      · left
        rw [if_neg (by rw [nI_eqN (by have := Nat.mod_lt v (show 0 < 2 + k by omega); omega) (by omega)]; exact hz), n1, nI_add]
        refine ⟨_, rfl, rfl, fun d h1 h2 => ?_⟩
        by_cases ed : d = 2 + k
        · rw [ed]; exact hz
        · exact e d (by omega) h2
    · rintro s ⟨rfl, e⟩
      unfold LX9_isPrimeAllowed_16
      rw [n13, if_pos (by rw [nI_leN (by omega) (by omega)]; omega), decide_eq_true (fact.mpr fun d h1 h2 => e d (by omega) h2), n1]
      rfl
section
variable {h : jx_H} {S : MS} {a L : Nat} {F : Nat → Int32} {b : Nat → Nat} {t : Tok} {c : Cf}
theorem m_isPrime {v : Nat} (hv : v ≤ 97) (h13 : 13 ≤ v) : gFX10_isPrime (nI v) S = some (bI (decide (v ∈ prs))) := by
  have fact := prs_10 v (by omega) (by omega)
  unfold gFX10_isPrime
  rw [n13, n97, m_inN (by omega) (by omega) (by omega), gx_bs, decide_eq_true h13, decide_eq_true hv, n2]
  refine itr_val 8 (fun k s => ∃ z : Bool, s = (bI z, nI (2 + k)) ∧ (z = true ↔ ∀ d, d < 2 + k → 2 ≤ d → v % d ≠ 0)) ⟨true, rfl, ⟨fun _ d h1 h2 => by omega, fun _ => rfl⟩⟩ ?_ ?_
  · rintro k s hk ⟨z, rfl, hz⟩
    left
    have nxt : ∀ z' : Bool, (z' = true ↔ ∀ d, d < 2 + (k + 1) → 2 ≤ d → v % d ≠ 0) → ∃ s', gBX10_isPrime_32 (nI v) (nI (2 + k)) (bI z') S = some (.inl s') ∧ ∃ z : Bool, s' = (bI z, nI (2 + (k + 1))) ∧ (z = true ↔ ∀ d, d < 2 + (k + 1) → 2 ≤ d → v % d ≠ 0) := by
      intro z' hz'
      unfold gBX10_isPrime_32
      rw [n1, nI_add]
      exact ⟨_, rfl, z', rfl, hz'⟩
    unfold gLX10_isPrime_11 gBX10_isPrime_31
    dsimp only
    rw [n10, if_neg (by rw [nI_leN (by omega) (by omega)]; omega), n0]
    cases z with
    | false =>
      rw [if_pos bI_f]
      exact nxt false ⟨fun q => by (cases q), fun q => hz.mpr fun d h1 h2 => q d (by omega) h2⟩
    | true =>
      have hz2 := hz.mp rfl
      rw [if_neg (by rw [bI_0]; decide), if_neg (by rw [nI_eqN (by omega) (by omega)]; omega), pk_rem (by omega) (by omega) (by omega)]
      by_cases hx : v % (2 + k) = 0
      · rw [if_pos (by rw [hx])]
        exact nxt false ⟨fun q => by (cases q), fun q => absurd hx (q (2 + k) (by omega) (by omega))⟩
      · rw [if_neg (by rw [nI_eqN (by have := Nat.mod_lt v (show 0 < 2 + k by omega); omega) (by omega)]; exact hx), n1]
        refine nxt true ⟨fun _ d h1 h2 => ?_, fun _ => rfl⟩
        by_cases ed : d = 2 + k
        · rw [ed]; exact hx
        · exact hz2 d (by omega) h2
  · rintro s ⟨z, rfl, hz⟩
    have : z = decide (v ∈ prs) := by
      cases z with
      | true => exact (decide_eq_true (fact.mpr fun d h1 h2 => hz.mp rfl d (by omega) h2)).symm
      | false =>
        refine (decide_eq_false fun q => ?_).symm
        have := hz.mpr fun d h1 h2 => fact.mp q d (by omega) h2
        cases this
    unfold gLX10_isPrime_11
    dsimp only
    rw [n10, if_pos (by rw [nI_leN (by omega) (by omega)]; omega), bI_01, this]
    rfl
theorem both_prime (R : SIM h S a F L b t c) (hc : c = (31, ht0, (fun _ _ => 0), [])) (ht0' : t.1 ≠ 0) :
    (∃ h' S', FX3_readPrime (a + 90) h = some (nI 1, h') ∧ (gFX10_goesOn S).bind gFX10_readPrime = some S' ∧ stOK h h' S S' a L b t) ∨ (∃ h' S', FX3_readPrime (a + 90) h = some (nI 0, h') ∧ (gFX10_goesOn S).bind gFX10_readPrime = some S' ∧ stER h h' S S' a L b) := by
  obtain ⟨K, ⟨U, hU, sU⟩, ⟨W, hW⟩, rc, oc'⟩ := id R
  obtain ⟨h1, S1, a1, a2, a3, a4, a5, a6⟩ := both_next K
  have R1 := R.t a2 a4 a5
  have adv0 : t.2.1 + 1 ≤ (lexAt b L t.2.2.1).2.1 := by
    have := lex_adv (b := b) (L := L) K.2.2.1.2.1
    have := K.2.2.1.2.2.2.1 ht0'
    omega
  obtain ⟨T0, HT0, -, -⟩ := id K.2.1
  have cls : FX3_readPrime (a + 90) h = bind2 (FX3_takeNumber (a + 90) (nI 97) h1) fun x5 h6 => if x5 = 0 then some ((0 : Int32), h6) else (hgi h6 (a + 90) 3 7).bind fun x7 => (FX9_isPrimeAllowed x7 h6).bind fun x8 => if x8 = 0 then (hgi h6 (a + 90) 3 9).bind fun x12 => (isO h6 (a + 90) 3).bind fun _ => bind2 (FX3_fail (a + 90) (2 : Int32) x12 h6) fun x14 h15 => if x14 = 0 ∨ x14 = 1 then some (x14, h15) else none else (hgr h6 (a + 90) 3 2).bind fun x9 => (hgi h6 (a + 90) 3 7).bind fun x10 => (_root_.Jvm.Pilot.CBorderBasisLaw_law_r2185_396265.hp h6 x9 5 0 (.int x10)).bind fun h11 => some ((1 : Int32), h11) := by
    unfold FX3_readPrime
    rw [K.1.g0, gx_bs, HT0.o7, gx_bs, a1, gx_bs, a5.1.ob, gx_bs, n97]
  rw [cls, gb a3]
  have refE : ∀ (V : MS) (e : Nat), V.1 15 = nI e → 0 < e → e ≤ 5 → gBX10_readPrime_27 V = some V := by
    intro V e he h0 h5
    unfold gBX10_readPrime_27 gBX10_readPrime_32
    rw [m_mustE he h0 h5, gx_bs, m_readsE he h0 h5, b2s, gx_bs, he, if_neg (by rw [n0, nI_eqN (by omega) (by omega)]; omega)]
  by_cases g1 : goodN (lexAt b L t.2.2.1) 0 97
  · obtain ⟨h2, S2, b1, b2, b3, b4, b5, b6⟩ := c_takeOK a5 (lim := 97) (by omega) g1
    have R2 := R1.t b2 b4 b5
    have q1 := good_r (lo := 13) a5.2.2.1 (show (97 : Nat) ≤ 9999 by omega) g1.1
    have eqn := q1.2.1 g1.2.2
    have hv97 := g1.2.2
    have adv1 : (lexAt b L t.2.2.1).2.1 ≤ (lexAt b L (lexAt b L t.2.2.1).2.2.1).2.1 := by
      have := lex_adv (b := b) (L := L) a5.2.2.1.2.1
      have := a5.2.2.1.1
      omega
    have hg1 := g1.1
    have now1 := a5.2.2.2.2.2.1
    have ok1 := a5.2.2.1
    generalize hu : lexAt b L t.2.2.1 = u at b1 b3 b5 R2 adv0 adv1 eqn hv97 hg1 now1 ok1
    obtain ⟨K2, ⟨U2, hU2, sU2⟩, ⟨W2, hW2⟩, rc2, -⟩ := id R2
    have f7 : hgi h2 (a + 90) 3 7 = some (nI u.2.2.2.1) := by rw [K2.1.gi (by omega), upd_o (by decide), upd_s]
    have f9 : hgi h2 (a + 90) 3 9 = some (nI u.2.1) := by rw [K2.1.gi (by omega), upd_s]
    rw [b1, b2s, if_neg (by rw [n0, nI_eqN (by omega) (by omega)]; omega), f7, gx_bs, q_isPrimeAllowed, p_prime hv97, gx_bs]
    by_cases hpr : u.2.2.2.1 ∈ prs
    · left
      have pb := prs_b _ hpr
      have lk : gFX10_looks (nI 13) (nI 97) S1 = some S1 := m_looksOK now1 ok1 (by omega) (by omega) ⟨hg1, pb.1, pb.2⟩
      have rd : gFX10_reads (nI 13) (nI 97) S1 = some (nI u.2.2.2.1, S2) := by
        have lk0 : gFX10_looks (nI 0) (nI 97) S1 = some S1 := m_looksOK now1 ok1 (by omega) (by omega) ⟨hg1, Nat.zero_le _, pb.2⟩
        unfold gFX10_reads at b3 ⊢
        rw [lk0, gx_bs, gx_bs, a5.2.2.2.2.2.2.1, if_pos (by rw [n0, nI_leN (by omega) (by omega)]; omega), gx_bs] at b3
        rw [lk, gx_bs, gx_bs, a5.2.2.2.2.2.2.1, if_pos (by rw [n0, nI_leN (by omega) (by omega)]; omega), gx_bs]
        exact b3
      rw [decide_eq_true hpr, if_neg (by rw [bF]; decide), K2.1.g2, gx_bs, gx_bs]
      have hpp : _root_.Jvm.Pilot.CBorderBasisLaw_law_r2185_396265.hp h2 (a + 91) 5 0 (.int (nI u.2.2.2.1)) = some (bput sK h2 (a + 91) (gpi U2 0 (nI u.2.2.2.1))) := by
        have := sK_pi0 (h := h2) (q := a + 91) (S := U2) (v := nI u.2.2.2.1)
        rw [hU2.eq] at this
        exact this
      rw [hpp, gx_bs, n1]
      subst hc
      refine ⟨_, _, rfl, ?_, _, (lexAt b L u.2.2.1), (u.2.2.2.1, ht0, (fun _ _ => 0), []), ?_, ?_, R2.mk2 (U' := gpi U2 0 (nI u.2.2.2.1)) (W' := W2) (S' := ((S2.1, setA S2.2 1 (upd (S2.2 1) 0 (nI u.2.2.2.1))) : MS)) ?_ bH.put ?_ ?_ rfl ?_ ?_ ⟨hpr, wfh_0, fun _ _ _ _ => by show 0 < _; omega, ⟨by show 0 ≤ 12; omega, List.nodup_nil, fun q hq => by (cases hq)⟩⟩, by omega⟩
      · unfold gFX10_readPrime
        rw [n13, n97, lk, gx_bs, gx_bs, a5.2.2.2.2.2.2.1, n0, if_neg (by rw [nI_ltN (by omega) (by omega)]; omega), gx_bs, now1.2.2.2 hg1, ← eqn, m_isPrime hv97 pb.1, gx_bs, decide_eq_true hpr, if_neg (by rw [bI_0]; decide)]
        unfold gBX10_readPrime_27 gBX10_readPrime_32
        rw [n1, m_must1, gx_bs, n13, n97, rd, b2s, gx_bs, b5.2.2.2.2.2.2.1, if_pos (by rw [n0]), n0, mK_s1 (by omega), gx_bs]
      · refine (a2.tr b2).s.tr ⟨rfl, fun x x1 x2 => ?_⟩
        rw [bp_else (by show x < a + 91 ∨ a + 91 + 8 < x; omega)]
      · refine (a4.tr b4).s.tr ⟨fun _ _ => rfl, fun q q1 q3' => ?_⟩
        rw [mp2, setA_o q1]
      · intro x x1 x2
        rw [bp_else (by show x < a + 91 ∨ a + 91 + 8 < x; omega)]
      · obtain ⟨z1, z2, z3, z4, z5, z6⟩ := sU2
        exact ⟨by rw [gpi_1, upd_s], z2, z3, z4, z5, z6⟩
      · exact hW2.fr (Or.inl (by show a + 10 + 8 < a + 91; omega))
      · intro q q1 q3'
        rw [mp2, setA_o q1]
      · rw [mp2, setA_s]
        obtain ⟨z1, z2, z3, z4, z5, z6⟩ := rc2
        refine ⟨upd_s, ⟨by rw [upd_o (by omega)]; exact z2.1, fun k hk => ?_⟩, ⟨by rw [upd_o (by omega)]; exact z3.1, fun k hk => ?_⟩, by rw [upd_o (by omega)]; exact z4, fun b k hb hk => by rw [upd_o (by omega)]; exact z5 b k hb hk, fun k hk => by (cases hk)⟩
        · rw [upd_o (by omega), upd_o (by omega)]; exact z2.2 k hk
        · rw [upd_o (by omega), upd_o (by omega)]; exact z3.2 k hk
    · right
      rw [decide_eq_false hpr, if_pos (by rw [bF]), f9, gx_bs, K2.1.ob, gx_bs, n2]
      -- the reference may miss it by range, or by divisors: the same error
      obtain ⟨h3, e1, e2, e3, e4, e5⟩ := err2 (c := 2) (p := u.2.1) K2.1 (K2.2.1.imp fun _ z => ⟨z.1, z.2.1⟩) a5.2.2.2.2.2.2.1 now1.2.1 (by have := ok1.1; have := ok1.2.1; omega) (by omega) (by omega)
      refine ⟨h3, gpi (gpi S1 15 (nI 2)) 16 (nI u.2.1), by rw [e1, b2s, if_pos (Or.inl (by rw [n0]))], ?_, ((a2.tr b2).tr e2).s, (a4.tr e4).s, e5, R2.b.t e2⟩
      obtain ⟨F9, c9, p9, -, -, r1, r2, -, -, -, r3, -⟩ := id e5
      unfold gFX10_readPrime
      rw [n13, n97]
      by_cases h13 : 13 ≤ u.2.2.2.1
      · rw [m_looksOK now1 ok1 (by omega) (by omega) ⟨hg1, h13, hv97⟩, gx_bs, gx_bs, a5.2.2.2.2.2.2.1, n0, if_neg (by rw [nI_ltN (by omega) (by omega)]; omega), gx_bs, now1.2.2.2 hg1, ← eqn, m_isPrime hv97 h13, gx_bs, decide_eq_false hpr, if_pos bI_f]
        unfold gBX10_readPrime_32
        rw [n0, n2, e3, gx_bs, m_readsE r3 (by omega) r2, b2s, gx_bs, r3, if_neg (by rw [nI_eqN (by omega) (by omega)]; omega)]
      · have lk := m_looksNO now1 ok1 a5.2.2.2.2.2.2.1 (show (97 : Nat) ≤ 9999 by omega) (show (13 : Nat) ≤ 9999 by omega) (fun z => h13 z.2.1)
        rw [if_pos hg1] at lk
        rw [lk, gx_bs, gx_bs, r3, if_pos (by rw [n0, nI_ltN (by omega) (by omega)]; omega)]
        exact refE _ c9 r3 (by omega) r2
  · right
    obtain ⟨h2, S2, b1, b2, b3, b4, b5, b6⟩ := c_takeNO a5 (lim := 97) (by omega) g1
    obtain ⟨F9, c9, p9, -, -, q1, q2, -, -, -, q3, -⟩ := id b6
    have lk0 := m_looksNO a5.2.2.2.2.2.1 a5.2.2.1 a5.2.2.2.2.2.2.1 (show (97 : Nat) ≤ 9999 by omega) (show (0 : Nat) ≤ 9999 by omega) g1
    have lk := m_looksNO a5.2.2.2.2.2.1 a5.2.2.1 a5.2.2.2.2.2.2.1 (show (97 : Nat) ≤ 9999 by omega) (show (13 : Nat) ≤ 9999 by omega) (fun z => g1 ⟨z.1, Nat.zero_le _, z.2.2⟩)
    rw [b3] at lk0
    rw [← lk0] at lk
    refine ⟨h2, S2, by rw [b1, b2s, if_pos (by rw [n0]), n0], ?_, (a2.tr b2).s, (a4.tr b5).s, b6, R1.b.t b2⟩
    unfold gFX10_readPrime
    rw [n13, n97, lk, gx_bs, gx_bs, q3, if_pos (by rw [n0, nI_ltN (by omega) (by omega)]; omega)]
    exact refE S2 c9 q3 (by omega) q2
theorem both_point (R : SIM h S a F L b t c) (hn : c.2.2.2.length < 12) (ht0' : t.1 ≠ 0) :
    (∃ h' S', FX3_readPoint (a + 90) h = some (nI 1, h') ∧ (gFX10_goesOn S).bind gFX10_readPoint = some S' ∧ stOK h h' S S' a L b t) ∨ (∃ h' S', FX3_readPoint (a + 90) h = some (nI 0, h') ∧ (gFX10_goesOn S).bind gFX10_readPoint = some S' ∧ stER h h' S S' a L b) := by
  obtain ⟨K, ⟨U, hU, sU⟩, ⟨W, hW⟩, rc, oc'⟩ := id R
  have pb := prs_b c.1 oc'.1
  have w := oc'.2.1
  have lm := oc'.2.2.2.1
  have sp : small c.2.2.2 := small_mem fun q hq => by have := oc'.2.2.2.2.2 q hq; omega
  obtain ⟨h1, S1, a1, a2, a3, a4, a5, a6⟩ := both_next K
  have R1 := R.t a2 a4 a5
  have adv0 : t.2.1 + 1 ≤ (lexAt b L t.2.2.1).2.1 := by
    have := lex_adv (b := b) (L := L) K.2.2.1.2.1
    have := K.2.2.1.2.2.2.1 ht0'
    omega
  have g9 : hgi h (a + 91) 5 9 = some (nI c.2.2.2.length) := by rw [← sU.2.2.2.2.1]; exact hU.i9
  have gpr : ∀ {hh : jx_H} {V : MS} {G : Nat → Int32} {v : Tok}, SIM hh V a G L b v c → hgi hh (a + 91) 5 0 = some (nI c.1) := by
    rintro hh V G v ⟨-, ⟨Q, hQ, sQ⟩, -⟩
    rw [← sQ.1]
    exact hQ.i0
  have gpm : ∀ {hh : jx_H} {V : MS} {G : Nat → Int32} {v : Tok}, SIM hh V a G L b v c → gFX10_p V = some (nI c.1) := fun z => g_p z.2.2.2.1.1
  obtain ⟨T0, HT0, -, -⟩ := id K.2.1
  have lim : nI c.1 - nI 1 = nI (c.1 - 1) := nI_sub (by omega)
  have cls : FX3_readPoint (a + 90) h = bind2 (FX3_takeNumber (a + 90) (nI (c.1 - 1)) h1) fun x9 h10 => if x9 = 0 then some ((0 : Int32), h10) else (hgr h10 (a + 90) 3 2).bind fun x11 => (hgi h10 x11 5 0).bind fun x12 => (isO h10 (a + 90) 3).bind fun _ => bind2 (FX3_takeNumber (a + 90) (x12 - (1 : Int32)) h10) fun x14 h15 => if x14 = 0 then some ((0 : Int32), h15) else (hgr h15 (a + 90) 3 2).bind fun x16 => (hgi h15 (a + 90) 3 6).bind fun x17 => (hgi h15 (a + 90) 3 7).bind fun x18 => (isO h15 x16 5).bind fun _ => (FX5_hasPoint x16 x17 x18 h15).bind fun x20 => if x20 = 0 then (hgr h15 (a + 90) 3 2).bind fun x21 => (hgi h15 (a + 90) 3 6).bind fun x22 => (hgi h15 (a + 90) 3 7).bind fun x23 => (isO h15 x21 5).bind fun _ => (FX5_appendPoint x21 x22 x23 h15).bind fun h25 => some ((1 : Int32), h25) else (hgi h15 (a + 90) 3 9).bind fun x26 => (isO h15 (a + 90) 3).bind fun _ => bind2 (FX3_fail (a + 90) (5 : Int32) x26 h15) fun x28 h29 => if x28 = 0 ∨ x28 = 1 then some (x28, h29) else none := by
    unfold FX3_readPoint
    rw [K.1.g2, gx_bs, g9, gx_bs, n12, if_pos (by rw [nI_ltN (by omega) (by omega)]; exact hn), K.1.g0, gx_bs, HT0.o7, gx_bs, a1, gx_bs, a5.1.g2, gx_bs, gpr R1, gx_bs, a5.1.ob, gx_bs, n1, lim]
  rw [cls, gb a3]
  have refE : ∀ (V : MS) (x : Int32) (e : Nat), V.1 15 = nI e → 0 < e → e ≤ 5 → V.2 1 0 = nI c.1 → gBX10_readPoint_44 x V = some V := by
    intro V x e he h0 h5 hV
    unfold gBX10_readPoint_44 gBX10_readPoint_49
    rw [m_mustE he h0 h5, gx_bs, g_p hV, gx_bs, m_readsE he h0 h5, b2s, gx_bs, he, if_neg (by rw [n0, nI_eqN (by omega) (by omega)]; omega)]
  by_cases g1 : goodN (lexAt b L t.2.2.1) 0 (c.1 - 1)
  · obtain ⟨h2, S2, b1, b2, b3, b4, b5, b6⟩ := c_takeOK a5 (lim := c.1 - 1) (by omega) g1
    have R2 := R1.t b2 b4 b5
    generalize hiv : (lexAt b L t.2.2.1).2.2.2.1 = i at b1 b3 b5 R2
    have hi : i < c.1 := by have := g1.2.2; rw [hiv] at this; omega
    have adv1 : (lexAt b L t.2.2.1).2.1 ≤ (lexAt b L (lexAt b L t.2.2.1).2.2.1).2.1 := by
      have := lex_adv (b := b) (L := L) a5.2.2.1.2.1
      have := a5.2.2.1.1
      omega
    generalize lexAt b L (lexAt b L t.2.2.1).2.2.1 = u at b5 R2 adv1
    rw [b1, b2s, if_neg (by rw [n0, nI_eqN (by omega) (by omega)]; omega), b5.1.g2, gx_bs, gpr R2, gx_bs, b5.1.ob, gx_bs, n1, lim]
    by_cases g2' : goodN u 0 (c.1 - 1)
    · obtain ⟨h3, S3, d1, d2, d3, d4, d5, d6⟩ := c_takeOK b5 (lim := c.1 - 1) (by omega) g2'
      have R3 := R2.t d2 d4 d5
      have q3 := good_r (lo := 0) b5.2.2.1 (show c.1 - 1 ≤ 9999 by omega) g2'.1
      have eqn : u.2.2.2.1 = u.2.2.2.2 := q3.2.1 g2'.2.2
      generalize hjv : u.2.2.2.1 = j at d1 d3 d5 R3 eqn
      have hj : j < c.1 := by have := g2'.2.2; rw [hjv] at this; omega
      have adv2 : u.2.1 ≤ (lexAt b L u.2.2.1).2.1 := by
        have := lex_adv (b := b) (L := L) b5.2.2.1.2.1
        have := b5.2.2.1.1
        omega
      obtain ⟨K3, ⟨U3, hU3, sU3⟩, ⟨W3, hW3⟩, rc3, -⟩ := id R3
      have f6 : hgi h3 (a + 90) 3 6 = some (nI i) := by rw [K3.1.gi (by omega), upd_o (by decide), upd_o (by decide), upd_s, upd_o (by decide), upd_s]
      have f7 : hgi h3 (a + 90) 3 7 = some (nI j) := by rw [K3.1.gi (by omega), upd_o (by decide), upd_s]
      have f9 : hgi h3 (a + 90) 3 9 = some (nI u.2.1) := by rw [K3.1.gi (by omega), upd_s]
      have hp' : FX5_hasPoint (a + 91) (nI i) (nI j) h3 = some (bI (decide ((i, j) ∈ c.2.2.2))) := by rw [hU3.run (F := FX5_hasPoint (a + 91) (nI i) (nI j)) eFX5_hasPoint, s_hasPoint sU3 lm sp (by omega) (by omega)]
      have pa := m_pointAt (S := S2) R2.2.2.2.1 lm sp (a := i) (b := j) (by omega) (by omega)
      rw [d1, b2s, if_neg (by rw [n0, nI_eqN (by omega) (by omega)]; omega), K3.1.g2, gx_bs, f6, gx_bs, f7, gx_bs, hU3.o5, gx_bs, hp', gx_bs]
      have ref2 : gFX10_readPoint S1 = if ixI c.2.2.2 (i, j) = (-1 : Int32) then gBX10_readPoint_44 (nI i) S2 else gBX10_readPoint_49 (nI i) (0 : Int32) S2 := by
        unfold gFX10_readPoint
        rw [gpm R1, gx_bs, n1, lim, n0, b3, b2s, gpm R2, gx_bs, lim, m_looksOK b5.2.2.2.2.2.1 b5.2.2.1 (by omega) (by omega) g2', gx_bs, gx_bs, b5.2.2.2.2.2.2.1, if_neg (by rw [nI_ltN (by omega) (by omega)]; omega), gx_bs, b5.2.2.2.2.2.1.2.2.2 g2'.1, ← eqn, pa, gx_bs]
      rw [ref2]
      by_cases hmem : (i, j) ∈ c.2.2.2
      · right
        obtain ⟨h4, e1, e2, e3, e4, e5⟩ := err2 (c := 5) (p := u.2.1) K3.1 (K3.2.1.imp fun _ z => ⟨z.1, z.2.1⟩) b5.2.2.2.2.2.2.1 b5.2.2.2.2.2.1.2.1 (by have := b5.2.2.1.1; have := b5.2.2.1.2.1; omega) (by omega) (by omega)
        obtain ⟨F9, c9, p9, -, -, q1, q2, -, -, -, q3', -⟩ := id e5
        refine ⟨h4, _, ?_, ?_, (((a2.tr b2).tr d2).tr e2).s, ((a4.tr b4).tr e4).s, e5, R3.b.t e2⟩
        · rw [decide_eq_true hmem, if_neg (by rw [bF]; decide), f9, gx_bs, K3.1.ob, gx_bs, n5, e1, b2s, if_pos (Or.inl (by rw [n0]))]
        · unfold ixI
          rw [if_pos hmem, n1, nm1, if_neg (by rw [nI_ne_m1 (by have := idx_lt hmem; omega)]; exact id)]
          unfold gBX10_readPoint_49
          have hV : (gpi (gpi S2 15 (nI 5)) 16 (nI u.2.1)).2 1 0 = nI c.1 := by rw [gpi_2, gpi_2]; exact R2.2.2.2.1.1
          rw [n0, n5, e3, gx_bs, g_p hV, gx_bs, m_readsE q3' (by omega) q2, b2s, gx_bs, q3', if_neg (by rw [nI_eqN (by omega) (by omega)]; omega)]
      · left
        obtain ⟨U4, k1, k2⟩ := s_appendPoint sU3 hn i j
        have k3 : FX5_appendPoint (a + 91) (nI i) (nI j) h3 = some (bput sK h3 (a + 91) U4) := by rw [hU3.run (F := FX5_appendPoint (a + 91) (nI i) (nI j)) eFX5_appendPoint, k1, gx_ms]
        obtain ⟨gg, j1, j2⟩ := m_putsPoint (S := S3) rc3 w hn i j
        rw [decide_eq_false hmem, if_pos (by rw [bF]), gx_bs, gx_bs, gx_bs, hU3.o5, gx_bs, k3, gx_bs]
        refine ⟨_, _, rfl, ?_, _, (lexAt b L u.2.2.1), (c.1, c.2.1, c.2.2.1, c.2.2.2 ++ [(i, j)]), ?_, ?_, R3.mk2 (U' := U4) (W' := W3) (S' := ((S3.1, setA S3.2 1 gg) : MS)) ?_ bH.put k2 ?_ rfl ?_ ?_ ⟨oc'.1, oc'.2.1, oc'.2.2.1, ?_, ?_, ?_⟩, by omega⟩
        · unfold ixI
          rw [if_neg hmem, n1, nm1, if_pos rfl]
          unfold gBX10_readPoint_44 gBX10_readPoint_49
          rw [n1, m_must1, gx_bs, gpm R2, gx_bs, lim, n0, d3, b2s, gx_bs, d5.2.2.2.2.2.2.1, if_pos rfl, j1, b2s]
        · refine ((a2.tr b2).tr d2).s.tr ⟨rfl, fun x x1 x2 => ?_⟩
          rw [bp_else (by show x < a + 91 ∨ a + 91 + 8 < x; omega)]
        · refine ((a4.tr b4).tr d4).s.tr ⟨fun _ _ => rfl, fun q q1 q3' => ?_⟩
          rw [mp2, setA_o q1]
        · intro x x1 x2
          rw [bp_else (by show x < a + 91 ∨ a + 91 + 8 < x; omega)]
        · exact hW3.fr (Or.inl (by show a + 10 + 8 < a + 91; omega))
        · intro q q1 q3'
          rw [mp2, setA_o q1]
        · rw [mp2, setA_s]; exact j2
        · show (c.2.2.2 ++ [(i, j)]).length ≤ 12
          rw [List.length_append]
          show c.2.2.2.length + 1 ≤ 12
          omega
        · show (c.2.2.2 ++ [(i, j)]).Nodup
          rw [List.nodup_append]
          refine ⟨oc'.2.2.2.2.1, by simp, fun x hx y hy e => ?_⟩
          rw [List.mem_singleton.mp hy] at e
          rw [e] at hx
          exact hmem hx
        · intro q hq
          have hq : q ∈ c.2.2.2 ++ [(i, j)] := hq
          rw [List.mem_append] at hq
          rcases hq with hq | hq
          · exact oc'.2.2.2.2.2 q hq
          · rw [List.mem_singleton.mp hq]
            exact ⟨hi, hj⟩
    · right
      obtain ⟨h3, S3, d1, d2, d3, d4, d5, d6⟩ := c_takeNO b5 (lim := c.1 - 1) (by omega) g2'
      obtain ⟨F9, c9, p9, -, -, q1, q2, -, -, -, q3, -⟩ := id d6
      refine ⟨h3, S3, by rw [d1, b2s, if_pos (by rw [n0]), n0], ?_, ((a2.tr b2).tr d2).s, ((a4.tr b4).tr d5).s, d6, R2.b.t d2⟩
      unfold gFX10_readPoint
      rw [gpm R1, gx_bs, n1, lim, n0, b3, b2s, gpm R2, gx_bs, lim, d3, gx_bs, gx_bs, q3, if_pos (by rw [nI_ltN (by omega) (by omega)]; omega)]
      exact refE S3 (nI i) c9 q3 (by omega) q2 (by rw [d5.1]; exact R2.2.2.2.1.1)
  · right
    obtain ⟨h2, S2, b1, b2, b3, b4, b5, b6⟩ := c_takeNO a5 (lim := c.1 - 1) (by omega) g1
    obtain ⟨F9, c9, p9, -, -, q1, q2, -, -, -, q3, -⟩ := id b6
    have hV : S2.2 1 0 = nI c.1 := by rw [b5.1]; exact R1.2.2.2.1.1
    refine ⟨h2, S2, by rw [b1, b2s, if_pos (by rw [n0]), n0], ?_, (a2.tr b2).s, (a4.tr b5).s, b6, R1.b.t b2⟩
    unfold gFX10_readPoint
    rw [gpm R1, gx_bs, n1, lim, n0, b4, b2s, g_p hV, gx_bs, lim, m_looksE q3 (by omega) q2, gx_bs, gx_bs, q3, if_pos (by rw [nI_ltN (by omega) (by omega)]; omega)]
    exact refE S2 (nI 0) c9 q3 (by omega) q2 hV
end
