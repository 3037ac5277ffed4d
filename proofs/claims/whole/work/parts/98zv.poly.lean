/-! the parser: a polynomial, on both sides -/
/-- one cell more -/
def cUp (p : Nat) (C : Nat → Nat → Nat) (i j v : Nat) : Nat → Nat → Nat := fun a b => if a = i ∧ b = j then (C a b + v) % p else C a b
theorem polV_up {n p : Nat} {X Y : Nat → Nat → Nat} {C : Nat → Nat → Nat} {i j v k : Nat} (hi : i < 21) (hj : j < 21) : polV n p X Y (cUp p C i j v) k = (polV n p X Y C k + v * norV n p X Y i j k) % p := by
  unfold polV
  rw [Nat.mod_add_mod]
  have e1 : ∀ a b, (cUp p C i j v a b * norV n p X Y a b k) % p = (C a b * norV n p X Y a b k + (if a = i then (if b = j then v * norV n p X Y i j k else 0) else 0)) % p := by
    intro a b
    unfold cUp
    by_cases ha : a = i
    · by_cases hb : b = j
      · rw [if_pos ⟨ha, hb⟩, if_pos ha, if_pos hb, Nat.mod_mul_mod, Nat.add_mul, ha, hb]
      · rw [if_neg (by omega), if_pos ha, if_neg hb, Nat.add_zero]
    · rw [if_neg (by omega), if_neg ha, Nat.add_zero]
  have e2 : sm (fun a => sm (fun b => cUp p C i j v a b * norV n p X Y a b k) 21) 21 % p = sm (fun a => sm (fun b => C a b * norV n p X Y a b k) 21 + (if a = i then v * norV n p X Y i j k else 0)) 21 % p := by
    refine sm_modc fun a _ => ?_
    have e3 : sm (fun b => C a b * norV n p X Y a b k) 21 + (if a = i then v * norV n p X Y i j k else 0) = sm (fun b => C a b * norV n p X Y a b k + (if a = i then (if b = j then v * norV n p X Y i j k else 0) else 0)) 21 := by
      rw [sm_add]
      congr 1
      by_cases ha : a = i
      · rw [if_pos ha]
        have := sm_one (fun _ => v * norV n p X Y i j k) j 21
        rw [if_pos hj] at this
        refine this.symm.trans (sm_congr 21 fun b _ => ?_)
        rw [if_pos ha]
        by_cases hb : b = j
        · rw [if_pos hb, if_pos hb.symm, Nat.one_mul]
        · rw [if_neg hb, if_neg (fun z => hb z.symm), Nat.zero_mul]
      · rw [if_neg ha]
        refine ((sm_congr 21 fun b _ => ?_).trans (sm_zero 21)).symm
        rw [if_neg ha]
    rw [e3]
    exact sm_modc fun b _ => e1 a b
  rw [e2, sm_add]
  congr 2
  have := sm_one (fun _ => v * norV n p X Y i j k) i 21
  rw [if_pos hi] at this
  refine Eq.trans (sm_congr 21 fun a _ => ?_) this
  by_cases ha : a = i
  · rw [if_pos ha, if_pos ha.symm, Nat.one_mul]
  · rw [if_neg ha, if_neg (fun z => ha z.symm), Nat.zero_mul]
/-- the reference adds a column -/
theorem m_addsColumn {S : MS} {n p v : Nat} {w s : Nat → Nat} (Hp : S.2 1 0 = nI p) (Hn : S.2 1 1 = nI n) (hn : n ≤ 12) (h0 : 0 < p) (hp : p < 1000) (hv : S.1 18 = nI v) (vp : v < p) (hw : VL (S.2 16) n w) (bw : bdV w n p) (hs : VL (S.2 19) n s) (bs : bdV s n p) :
    ∃ T, gFX10_addsColumn S = some T ∧ only S T (fun b => b = 19) ∧ VL (T.2 19) n (fun k => (s k + v * w k) % p) ∧ ∀ k, n ≤ k → T.2 19 k = S.2 19 k := by
  unfold gFX10_addsColumn
  refine itr_run n (fun k u => ∃ f, u = (nI k, ((S.1, setA S.2 19 f) : MS)) ∧ (∀ q, q < k → f q = nI ((s q + v * w q) % p)) ∧ ∀ q, k ≤ q → f q = S.2 19 q) ⟨S.2 19, by rw [n0, setA_id], fun q h => by omega, fun _ _ => rfl⟩ ?_ ?_
  · rintro k u hk ⟨f, rfl, k1, k2⟩
    left
    have Hn' : gFX10_n ((S.1, setA S.2 19 f) : MS) = some (nI n) := by
      unfold gFX10_n
      rw [n1, mK_a1 (by omega), gx_bs, mp2, setA_o (by decide), Hn]
    have Hp' : gFX10_p ((S.1, setA S.2 19 f) : MS) = some (nI p) := g_p (by rw [mp2, setA_o (by decide)]; exact Hp)
    have vw : v * w k < 1000000 := mul_lt_k hp vp (bw k hk)
    have sk := bs k hk
    unfold gLX10_addsColumn_2
    dsimp only
    rw [Hn', gx_bs, if_neg (by rw [nI_leN (by omega) (by omega)]; omega), mK_a19 (by omega), gx_bs, gx_bs, mK_a16 (by omega), gx_bs, Hp', gx_bs, n0, if_neg (by rw [nI_eqN (by omega) (by omega)]; omega)]
    simp only [mp1, mp2, setA_s, setA_o (show (16 : Nat) ≠ 19 by decide)]
    rw [k2 k (Nat.le_refl _), hs k hk, hv, hw k hk, nI_mul, nI_add, pk_rem (by omega) h0 (by omega), mK_s19 (by omega), gx_bs, n1, nI_add]
    simp only [mp1, mp2, setA_s, setA_2]
    refine ⟨_, rfl, _, rfl, fun q hq => ?_, fun q hq => ?_⟩
    · by_cases e : q = k
      · rw [e, upd_s]
      · rw [upd_o e]; exact k1 q (by omega)
    · rw [upd_o (by omega)]; exact k2 q (by omega)
  · rintro u ⟨f, rfl, k1, k2⟩
    have Hn' : gFX10_n ((S.1, setA S.2 19 f) : MS) = some (nI n) := by
      unfold gFX10_n
      rw [n1, mK_a1 (by omega), gx_bs, mp2, setA_o (by decide), Hn]
    unfold gLX10_addsColumn_2
    dsimp only
    rw [Hn', gx_bs, if_pos (by rw [nI_leN (by omega) (by omega)]; omega)]
    refine ⟨_, rfl, ⟨rfl, fun b hb => by rw [mp2, setA_o hb]⟩, fun k hk => ?_, fun k hk => ?_⟩
    · rw [mp2, setA_s]; exact k1 k hk
    · rw [mp2, setA_s]; exact k2 k hk

section
variable {h : jx_H} {S : MS} {a L n p : Nat} {F : Nat → Int32} {b : Nat → Nat} {t : Tok} {X Y C : Nat → Nat → Nat}
def pch (h h' : jx_H) (a : Nat) : Prop := h'.1 = h.1 ∧ ∀ x, x ≠ a + 88 → x ≠ a + 89 → x ≠ a + 90 → x ≠ a + 100 → h'.2 x = h.2 x
def prch (S S' : MS) : Prop := (∀ q, ¬ (11 ≤ q ∧ q ≤ 19) → S'.1 q = S.1 q) ∧ ∀ j, j ≠ 16 → j ≠ 17 → j ≠ 19 → S'.2 j = S.2 j
theorem pch.rf : pch h h a := ⟨rfl, fun _ _ _ _ _ => rfl⟩
theorem pch.tr {h1 h2 : jx_H} (x : pch h h1 a) (y : pch h1 h2 a) : pch h h2 a := ⟨y.1.trans x.1, fun q a1 a2 a3 a4 => (y.2 q a1 a2 a3 a4).trans (x.2 q a1 a2 a3 a4)⟩
theorem tch.pp {h' : jx_H} (x : tch h h' a) : pch h h' a := ⟨x.1, fun q a1 a2 a3 _ => x.2 q a1 a2 a3⟩
theorem prch.rf : prch S S := ⟨fun _ _ => rfl, fun _ _ _ _ => rfl⟩
theorem prch.tr {T U : MS} (x : prch S T) (y : prch T U) : prch S U := ⟨fun q h => (y.1 q h).trans (x.1 q h), fun j a1 a2 a3 => (y.2 j a1 a2 a3).trans (x.2 j a1 a2 a3)⟩
theorem rch.pp {S' : MS} (x : rch S S') : prch S S' := ⟨x.2, fun j _ _ _ => by rw [x.1]⟩
/-- the polynomial's cells, the reference's sums -/
def PL (h : jx_H) (S : MS) (a n p : Nat) (X Y C : Nat → Nat → Nat) : Prop := (∃ g, h.2 (a + 100) = some (ar 441 g) ∧ ∀ i j, i < 21 → j < 21 → g (21 * i + j) = nI (C i j) ∧ C i j < p) ∧ S.2 1 0 = nI p ∧ S.2 1 1 = nI n ∧ TL (S.2 10) n n X ∧ TL (S.2 11) n n Y ∧ (∀ k, k < n → S.2 19 k = nI (polV n p X Y C k)) ∧ ∀ k, n ≤ k → k < 12 → S.2 19 k = nI 0
theorem PL.tt {h' : jx_H} {S' : MS} (H : PL h S a n p X Y C) (x : tch h h' a) (y : rch S S') : PL h' S' a n p X Y C := by
  obtain ⟨⟨g, g1, g2⟩, H⟩ := H
  exact ⟨⟨g, by rw [x.2 _ (by omega) (by omega) (by omega)]; exact g1, g2⟩, by rw [y.1]; exact H⟩
/-- the end of the reference's reading -/
theorem m_reduceE {V : MS} {e : Nat} (he : V.1 15 = nI e) (h0 : 0 < e) (h5 : e ≤ 5) : itr (fun s : Int32 × MS => gLX10_reduce_31 s.1 s.2) (nI 0, V) = gBX10_reduce_90 (nI 1) V := by
  refine itr_exL ?_
  have g : ∀ s, gBX10_reduce_90 s V = gBX10_reduce_90 (nI 1) V := fun s => by
    unfold gBX10_reduce_90
    rw [m_mustE (x := s) he h0 h5, m_must1]
  unfold gLX10_reduce_31
  dsimp only
  rw [if_pos (by rw [n0]), gx_bs, g]
  congr 1
  split <;> first | rfl | exact g _
theorem m_commaE {V : MS} {e : Nat} (he : V.1 15 = nI e) (h0 : 0 < e) (h5 : e ≤ 5) : gBX10_reduce_69 V = some (.inl (nI 0, V)) := by
  unfold gBX10_reduce_69 gFX10_hasComma gBX10_hasComma_19 gBX10_hasComma_20
  rw [gx_bs, he, if_neg (by rw [n0, nI_eqN (by omega) (by omega)]; omega), if_pos rfl, if_pos (Or.inl rfl), b2s, n0]
theorem both_poly (hp : p ∈ prs) (hn : n ≤ 12) (bX : bdM X n n p) (bY : bdM Y n n p) : ∀ (m : Nat) (h : jx_H) (S : MS) (F : Nat → Int32) (t : Tok) (C : Nat → Nat → Nat) (d : Nat), L < t.2.1 + m → TKR h S a F L b t → PL h S a n p X Y C → 2 * d ≤ t.2.1 →
    (∃ h' S' F' t' C', itr (fun s : Int32 × jx_H => LX3_readPolynomial_14 (a + 90) (nI p) s.1 s.2) (nI d, h) = some (nI 1, h') ∧ itr (fun s : Int32 × MS => gLX10_reduce_31 s.1 s.2) (nI 1, S) = gBX10_reduce_90 (nI 1) S' ∧ pch h h' a ∧ prch S S' ∧ TKR h' S' a F' L b t' ∧ PL h' S' a n p X Y C') ∨ (∃ h' S', itr (fun s : Int32 × jx_H => LX3_readPolynomial_14 (a + 90) (nI p) s.1 s.2) (nI d, h) = some (nI 0, h') ∧ itr (fun s : Int32 × MS => gLX10_reduce_31 s.1 s.2) (nI 1, S) = gBX10_reduce_90 (nI 1) S' ∧ pch h h' a ∧ prch S S' ∧ ERR h' S' a L b ∧ ∃ g, h'.2 (a + 100) = some (ar 441 g))
  | 0, h, S, F, t, C, d, hm, K, _, _ => by
    have := K.2.2.1.1
    have := K.2.2.1.2.1
    omega
  | m + 1, h, S, F, t, C, d, hm, K, Q, hd => by
    have pb := prs_b p hp
    have tl := K.2.2.1
    have hL := K.2.2.2.1.1.1
    have t6 := tl.1
    have tL := tl.2.1
    obtain ⟨⟨g0, q1, q2⟩, Hp, Hn, TX', TY', hs, hz⟩ := id Q
    rcases both_term K (lim := 20) (by omega) hp Hp with ⟨h1, S1, S2, a1, a2, F1, t1, neg, cv, i, j, st, c1, c2, c3, c4, c5, c6, c7, c8, c9, c10, c11, c12, c13, c14, c15, c16, c17, c18, c19, c20, c21, c22⟩ | ⟨h1, S1, a1, a2, a3, a4, a5, -⟩
    · have cfb : cfN p neg cv < p := rsd_lt (by omega)
      generalize cfN p neg cv = v at c4 c5 c15 cfb
      obtain ⟨⟨g1, r1, r2⟩, Hp2, Hn2, TX2, TY2, hs2, hz2⟩ := id (Q.tt c1 c3)
      have gc := r2 i j (by omega) (by omega)
      -- the class
      have f6 : hgi h1 (a + 90) 3 6 = some (nI i) := by rw [c12.1.gi (by omega), c13]
      have f7 : hgi h1 (a + 90) 3 7 = some (nI j) := by rw [c12.1.gi (by omega), c14]
      have f8 : hgi h1 (a + 90) 3 8 = some (nI v) := by rw [c12.1.gi (by omega), c15]
      obtain ⟨h2, hh2⟩ : ∃ h2 : jx_H, h2 = (h1.1, jx_up h1.2 (a + 100) (ar 441 (upd g1 (21 * i + j) (nI ((C i j + v) % p))))) := ⟨_, rfl⟩
      have e2 : ∀ x, x ≠ a + 100 → h2.2 x = h1.2 x := fun x q => by rw [hh2]; exact up_o q
      have cls : LX3_readPolynomial_14 (a + 90) (nI p) (nI d) h = BX3_readPolynomial_80 (a + 90) (nI p) (nI d) h2 := by
        unfold LX3_readPolynomial_14
        rw [n900, if_neg (by rw [nI_leN (by omega) (by omega)]; omega), K.1.ob, gx_bs, n20, a1, b2s, if_neg (by rw [n0, nI_eqN (by omega) (by omega)]; omega), f6, gx_bs, f7, gx_bs, n21, nI_mul, nI_add, show i * 21 + j = 21 * i + j by omega, n0, if_neg (by rw [nI_lt0 (by omega)]; exact id), c12.1.g3, gx_bs, hlen_ar r1, gx_bs, if_neg (by rw [nI_leN (by omega) (by omega)]; omega), gx_bs, gx_bs, hal_ar r1 (by omega) (by omega), gx_bs, f8, gx_bs, gc.1, nI_add, q_residue, p_resN (by omega) (by omega) (by omega), gx_bs, has_ar r1 (by omega) (by omega), gx_bs, hh2]
      -- the reference
      obtain ⟨S3, u1, u2, u3, u4⟩ := m_laysNormal (S := S2) Hp2 Hn2 (by omega) (by omega) hn TX2 TY2 bX bY (i := i) (j := j) (by omega) (by omega)
      have bnv : bdV (norV n p X Y i j) n p := bd_itV (by omega) (bd_itV (by omega) (bd_e0 (by omega)) j) i
      obtain ⟨S4, v1, v2, v3, v4⟩ := m_addsColumn (S := S3) (n := n) (p := p) (v := v) (w := norV n p X Y i j) (s := polV n p X Y C) (by rw [u2.2 1 (by decide)]; exact Hp2) (by rw [u2.2 1 (by decide)]; exact Hn2) hn (by omega) (by omega) (by rw [u2.1]; exact c5) cfb u3 bnv (by rw [u2.2 19 (by decide)]; exact hs2) (fun k _ => Nat.mod_lt _ (by omega))
      have rr : ∀ k, k ≠ 16 → k ≠ 17 → k ≠ 19 → S4.2 k = S2.2 k := fun k k1 k2 k3 => by rw [v2.2 k k3, u2.2 k (by omega)]
      have ri : S4.1 = S2.1 := by rw [v2.1, u2.1]
      have ref : gLX10_reduce_31 (nI 1) S = gBX10_reduce_69 S4 := by
        unfold gLX10_reduce_31
        rw [n0, if_neg (by rw [nI_eqN (by omega) (by omega)]; omega), n20, a2, gx_bs, c11, b2s, gx_bs, c12.2.2.2.2.2.2.1, if_pos rfl, gx_bs, c7, u1, gx_bs, v1, gx_bs]
      -- both stand alike
      have K2 : TKR h2 S4 a F1 L b t1 := c12.fr (fun x x1 x2 => e2 x (by omega)) ri (rr 8 (by decide) (by decide) (by decide)) (rr 9 (by decide) (by decide) (by decide))
      have Q2 : PL h2 S4 a n p X Y (cUp p C i j v) := by
        refine ⟨⟨_, by rw [hh2]; exact up_s, fun x y hx hy => ?_⟩, by rw [rr 1 (by decide) (by decide) (by decide)]; exact Hp2, by rw [rr 1 (by decide) (by decide) (by decide)]; exact Hn2, by rw [rr 10 (by decide) (by decide) (by decide)]; exact TX2, by rw [rr 11 (by decide) (by decide) (by decide)]; exact TY2, fun k hk => ?_, fun k hk hk2 => ?_⟩
        · unfold cUp
          by_cases e : x = i ∧ y = j
          · rw [if_pos e, e.1, e.2, upd_s]
            exact ⟨rfl, Nat.mod_lt _ (by omega)⟩
          · rw [if_neg e, upd_o (by omega)]
            exact r2 x y hx hy
        · rw [v3 k hk, polV_up (by omega) (by omega)]
        · rw [v4 k hk, u2.2 19 (by decide)]; exact hz2 k hk hk2
      have P2 : pch h h2 a := c1.pp.tr ⟨by rw [hh2], fun x x1 x2 x3 x4 => e2 x x4⟩
      have R2 : prch S S4 := c3.pp.tr ⟨fun q _ => by rw [ri], rr⟩
      obtain ⟨T2, HT2, -, hN2⟩ := id K2.2.1
      have k6 := K2.2.2.1.2.2.1
      have ck := cK_lt k6
      by_cases e0 : t1.1 = 0
      · left
        refine ⟨h2, S4, F1, t1, _, itr_exL ?_, ?_, P2, R2, K2, Q2⟩
        · dsimp only
          rw [cls]
          unfold BX3_readPolynomial_80
          rw [K2.1.g0, gx_bs, HT2.t2, gx_bs, hN2.1, e0, n0, if_pos (show nI (cK 0) = nI 0 from rfl), n1]
        · have z1 : gBX10_reduce_69 S4 = some (.inl (nI 0, S4)) := by
            unfold gBX10_reduce_69 gFX10_hasComma gBX10_hasComma_19 gBX10_hasComma_20
            rw [gx_bs, K2.2.2.2.2.2.2.1, if_pos (by rw [n0]), gx_bs, K2.2.2.2.2.2.1.1, e0, n4, if_neg (by rw [nI_eqN (by omega) (by omega)]; omega), if_pos rfl, if_pos (Or.inl rfl), b2s, n0]
          rw [itr_inl (s' := (nI 0, S4)) (by dsimp only; rw [ref, z1])]
          refine itr_exL ?_
          unfold gLX10_reduce_31
          dsimp only
          rw [if_pos (by rw [n0]), gx_bs, K2.2.2.2.2.2.1.1, e0, if_pos (by rw [n0]), n1]
      · by_cases e4 : t1.1 = 4
        · obtain ⟨h3, S3', w1, w2, w3, w4, w5, w6⟩ := c_symOK K2 (Or.inr rfl) e4
          have adv := lex_adv (b := b) (L := L) K2.2.2.1.2.1
          have adv2 := K2.2.2.1.1
          have adv3 := K2.2.2.1.2.2.2.1 e0
          have ih := both_poly hp hn bX bY m h3 S3' F1 (lexAt b L t1.2.2.1) (cUp p C i j v) (d + 1) (by omega) w5 (Q2.tt w2 w4) (by omega)
          have s1 : itr (fun s : Int32 × jx_H => LX3_readPolynomial_14 (a + 90) (nI p) s.1 s.2) (nI d, h) = itr (fun s : Int32 × jx_H => LX3_readPolynomial_14 (a + 90) (nI p) s.1 s.2) (nI (d + 1), h3) := by
            refine itr_inl ?_
            dsimp only
            rw [cls]
            unfold BX3_readPolynomial_80
            rw [K2.1.g0, gx_bs, HT2.t2, gx_bs, hN2.1, n0, e4, if_neg (by decide), K2.1.ob, gx_bs, n44, show nI 44 = nI (cK 4) from rfl, w1, b2s, if_neg (by rw [nI_eqN (by omega) (by omega)]; omega), n1, nI_add]
          have s2 : itr (fun s : Int32 × MS => gLX10_reduce_31 s.1 s.2) (nI 1, S) = itr (fun s : Int32 × MS => gLX10_reduce_31 s.1 s.2) (nI 1, S3') := by
            refine itr_inl ?_
            dsimp only
            rw [ref]
            unfold gBX10_reduce_69 gFX10_hasComma gBX10_hasComma_20
            rw [gx_bs, K2.2.2.2.2.2.2.1, n0, if_pos rfl, gx_bs, K2.2.2.2.2.2.1.1, e4, n4, if_pos rfl, n1, if_neg (by rw [nI_eqN (by omega) (by omega)]; omega), w3, gx_bs, if_pos (Or.inr rfl), b2s]
          rw [s1, s2]
          rcases ih with ⟨h', S', F', t', C', x1, x2, x3, x4, x5, x6⟩ | ⟨h', S', x1, x2, x3, x4, x5, x6⟩
          · exact Or.inl ⟨h', S', F', t', C', x1, x2, (P2.tr w2.pp).tr x3, (R2.tr w4.pp).tr x4, x5, x6⟩
          · exact Or.inr ⟨h', S', x1, x2, (P2.tr w2.pp).tr x3, (R2.tr w4.pp).tr x4, x5, x6⟩
        · right
          obtain ⟨h3, S3', w1, w2, w3, w4, w5⟩ := c_symNO K2 (Or.inr rfl) e4
          obtain ⟨F9, c9, p9, -, -, z1, z2, -, -, -, z3, -⟩ := id w5
          refine ⟨h3, S3', itr_exL ?_, ?_, P2.tr w2.pp, R2.tr w4.pp, w5, _, by rw [w2.2 _ (by omega) (by omega) (by omega), hh2]; exact up_s⟩
          · dsimp only
            rw [cls]
            unfold BX3_readPolynomial_80
            rw [K2.1.g0, gx_bs, HT2.t2, gx_bs, hN2.1, n0, if_neg (fun z => e0 (cK_ne k6 (by omega) (by rw [nI_eqN (by omega) (by omega)] at z; exact z.trans rfl))), K2.1.ob, gx_bs, n44, show nI 44 = nI (cK 4) from rfl, w1, b2s, if_pos rfl]
          · have y1 : gBX10_reduce_69 S4 = some (.inl (nI 0, S4)) := by
              unfold gBX10_reduce_69 gFX10_hasComma gBX10_hasComma_19 gBX10_hasComma_20
              rw [gx_bs, K2.2.2.2.2.2.2.1, if_pos (by rw [n0]), gx_bs, K2.2.2.2.2.2.1.1, n4, if_neg (by rw [nI_eqN (by omega) (by omega)]; exact e4), if_pos rfl, if_pos (Or.inl rfl), b2s, n0]
            rw [itr_inl (s' := (nI 0, S4)) (by dsimp only; rw [ref, y1])]
            refine itr_exL ?_
            unfold gLX10_reduce_31
            dsimp only
            rw [if_pos (by rw [n0]), gx_bs, K2.2.2.2.2.2.1.1, if_neg (by rw [n0, nI_eqN (by omega) (by omega)]; exact e0)]
            unfold gBX10_reduce_90
            rw [n0, n1, w3, m_must1]
    · right
      obtain ⟨F9, c9, p9, -, -, z1, z2, -, -, -, z3, -⟩ := id a5
      refine ⟨h1, S1, itr_exL ?_, ?_, a3.pp, a4.pp, a5, g0, by rw [a3.2 _ (by omega) (by omega) (by omega)]; exact q1⟩
      · unfold LX3_readPolynomial_14
        dsimp only
        rw [n900, if_neg (by rw [nI_leN (by omega) (by omega)]; omega), K.1.ob, gx_bs, n20, a1, b2s, if_pos (by rw [n0]), n0]
      · have y1 : gLX10_reduce_31 (nI 1) S = some (.inl (nI 0, S1)) := by
          unfold gLX10_reduce_31
          rw [n0, if_neg (by rw [nI_eqN (by omega) (by omega)]; omega), n20, a2, gx_bs, m_readsE z3 (by omega) z2, b2s, gx_bs, z3, if_neg (by rw [nI_eqN (by omega) (by omega)]; omega), m_commaE z3 (by omega) z2]
        rw [itr_inl (s' := (nI 0, S1)) (by dsimp only; rw [y1]), m_reduceE z3 (by omega) z2]
end
