/-! matrices of the class in a heap: rows copied, a shift, powers, traces -/
theorem hcp_at {h : jx_H} {a0 a N0 N1 n sp dp : Nat} {f g : Nat → Int32} (e0 : h.2 a0 = some (.inl (.int, N0, .inl f))) (e1 : h.2 a = some (.inl (.int, N1, .inl g))) (h0 : sp + n ≤ N0) (h1 : dp + n ≤ N1) (z0 : N0 < 2 ^ 31) (z1 : N1 < 2 ^ 31) : hcp h a0 (nI sp) a (nI dp) (nI n) = some (h.1, jx_up h.2 a (.inl (.int, N1, .inl (va_cpy f g sp dp n)))) := by
  unfold hcp
  rw [e0, e1]
  have c1 : (nI sp).toNatClampNeg = sp := nI_clamp (by omega)
  have c2 : (nI dp).toNatClampNeg = dp := nI_clamp (by omega)
  have c3 : (nI n).toNatClampNeg = n := nI_clamp (by omega)
  show (if _ ∧ _ ∧ _ ∧ _ ∧ _ ∧ _ ∧ _ then some (h.1, jx_up h.2 a (.inl (.int, N1, .inl (va_cpy f g (nI sp).toNatClampNeg (nI dp).toNatClampNeg (nI n).toNatClampNeg)))) else none) = _
  rw [c1, c2, c3, if_pos ⟨rfl, rfl, nI_pos (by omega), nI_pos (by omega), nI_pos (by omega), h0, h1⟩]
theorem h_copyRows {h : jx_H} {q0 q1 H0 W0 H1 W1 R0 R1 n f0 : Nat} {A B : Nat → Nat → Nat} (z0 : SZ H0 W0) (z1 : SZ H1 W1) (M0 : HM h q0 H0 W0 R0 n B) (M1 : HM h q1 H1 W1 R1 n A) (d : off q1 q0) (hR : f0 + R1 ≤ R0) (hn : 0 < n) :
    ∃ h', FX2_copyRows q0 q1 (nI f0) h = some h' ∧ exc h h' q0 (q0 + 2) ∧ HM h' q0 H0 W0 R0 n (fun r c => if f0 ≤ r ∧ r < f0 + R1 then A (r - f0) c else B r c) := by
  have le0 := M0.le
  have le1 := M1.le
  have zz0 := z0
  have zz1 := z1
  obtain ⟨y1, y2, y3⟩ := zz0
  obtain ⟨x1, x2, x3⟩ := zz1
  have e4 := M0.gi4
  have e5 := M0.gi5
  obtain ⟨S, s1, s2⟩ := M0
  obtain ⟨T, t1, t2⟩ := M1
  have fr : ∀ U : MS, bH (xK H1 W1) (bput (xK H0 W0) h q0 U) q1 T := fun U => t1.ex exc.bput d
  have e4' := hgi_ob (h := h) (q := 4) (x := nI R1) t1.1 (by show (some (Value.int (T.1 4))) = _; rw [t2.2.2.1])
  have e5' := hgi_ob (h := h) (q := 5) (x := nI n) t1.1 (by show (some (Value.int (T.1 5))) = _; rw [t2.2.2.2.1])
  have g4 : hgi h q1 2 4 = some (nI R1) := e4'
  have g5 : hgi h q1 2 5 = some (nI n) := e5'
  unfold FX2_copyRows
  rw [g4, gx_bs, e4, gx_bs, g5, gx_bs, e5, gx_bs, nI_sub (by omega)]
  have m1' : (if nI (R0 - f0) < nI R1 then nI (R0 - f0) else nI R1) = nI R1 := if_neg (by rw [nI_ltN (by omega) (by omega)]; omega)
  have m2' : (if nI n < nI n then nI n else nI n) = nI n := by split <;> rfl
  rw [m1', m2', n0]
  refine itr_run R1 (fun k s => ∃ g, s = (nI k, bput (xK H0 W0) h q0 ((S.1, setA S.2 1 g) : MS)) ∧ ∀ r c, r < R0 → c < n → g (r * W0 + c) = nI (if f0 ≤ r ∧ r < f0 + k then A (r - f0) c else B r c)) ?_ ?_ ?_
  · refine ⟨S.2 1, ?_, fun r c hr hc => by rw [if_neg (by omega)]; exact s2.2.2.2.2.2.2 r c hr hc⟩
    have eS : ((S.1, setA S.2 1 (S.2 1)) : MS) = S := setA_id
    rw [eS, s1.eq]
  · rintro k s hk ⟨g, rfl, hg⟩
    left
    have i1 : k * W1 + n ≤ H1 * W1 := by
      have := Nat.mul_le_mul_right W1 (show k + 1 ≤ H1 by omega)
      rw [Nat.succ_mul] at this
      omega
    have i2 : (f0 + k) * W0 + n ≤ H0 * W0 := by
      have := Nat.mul_le_mul_right W0 (show f0 + k + 1 ≤ H0 by omega)
      rw [Nat.succ_mul] at this
      omega
    have c0 : (bput (xK H0 W0) h q0 ((S.1, setA S.2 1 g) : MS)).2 (q0 + 1) = some (.inl (.int, H0 * W0, .inl g)) := by
      have := bp_ar (K := xK H0 W0) (h := h) (q := q0) (j := 1) (S := ((S.1, setA S.2 1 g) : MS)) ⟨by omega, by show 1 ≤ 2; omega⟩
      rw [xK_1 z0] at this
      simp only [mp2, setA_s] at this
      exact this
    have c1 : (bput (xK H0 W0) h q0 ((S.1, setA S.2 1 g) : MS)).2 (q1 + 1) = some (.inl (.int, H1 * W1, .inl (T.2 1))) := by
      have := (fr (S.1, setA S.2 1 g)).2 1 ⟨by omega, by show 1 ≤ 2; omega⟩
      rw [xK_1 z1] at this
      exact this
    have w1 : hgi (bput (xK H0 W0) h q0 ((S.1, setA S.2 1 g) : MS)) q1 2 1 = some (nI W1) := by rw [← t2.2.1]; exact hgi_ob (fr _).1 rfl
    have r1 : hgr (bput (xK H0 W0) h q0 ((S.1, setA S.2 1 g) : MS)) q1 2 2 = some (q1 + 1) := hgr_ob (fr _).1 rfl
    unfold LX2_copyRows_30
    dsimp only
    rw [if_neg (by rw [nI_leN (by omega) (by omega)]; omega), if_neg (by rw [n0, nI_lt0 (by omega)]; exact id), if_neg (by rw [n0, nI_leN (by omega) (by omega)]; omega), r1, gx_bs, w1, gx_bs, xK_gr2, gx_bs, xK_gi1, gx_bs, mp1, s2.2.1, nI_mul, nI_add, nI_mul, hcp_at c1 c0 i1 i2 (by omega) (by omega), gx_bs, n1, nI_add]
    have up : (((bput (xK H0 W0) h q0 ((S.1, setA S.2 1 g) : MS)).1, jx_up (bput (xK H0 W0) h q0 ((S.1, setA S.2 1 g) : MS)).2 (q0 + 1) (.inl (.int, H0 * W0, .inl (va_cpy (T.2 1) g (k * W1) ((f0 + k) * W0) n)))) : jx_H) = bput (xK H0 W0) h q0 ((S.1, setA S.2 1 (va_cpy (T.2 1) g (k * W1) ((f0 + k) * W0) n)) : MS) := by
      have := bp_upa (K := xK H0 W0) (h := h) (q := q0) (j := 1) (S := ((S.1, setA S.2 1 g) : MS)) (g := va_cpy (T.2 1) g (k * W1) ((f0 + k) * W0) n) ⟨by omega, by show 1 ≤ 2; omega⟩
      rw [xK_1 z0] at this
      refine Prod.ext rfl ?_
      refine Eq.trans this ?_
      show (bput (xK H0 W0) h q0 ((S.1, setA (setA S.2 1 g) 1 (va_cpy (T.2 1) g (k * W1) ((f0 + k) * W0) n)) : MS)).2 = _
      rw [setA_2]
    rw [up]
    refine ⟨_, rfl, _, rfl, fun r c hr hc => ?_⟩
    unfold va_cpy
    by_cases h1 : r = f0 + k
    · subst h1
      rw [if_pos (by omega), if_pos (by omega), show k * W1 + ((f0 + k) * W0 + c - (f0 + k) * W0) = k * W1 + c by omega, t2.2.2.2.2.2.2 k c hk hc, show f0 + k - f0 = k by omega]
    · have : ¬ ((f0 + k) * W0 ≤ r * W0 + c ∧ r * W0 + c < (f0 + k) * W0 + n) := by
        intro z
        rcases Nat.lt_trichotomy r (f0 + k) with h2 | h2 | h2
        · have := Nat.mul_le_mul_right W0 h2
          rw [Nat.succ_mul] at this
          omega
        · exact h1 h2
        · have := Nat.mul_le_mul_right W0 h2
          rw [Nat.succ_mul] at this
          omega
      rw [if_neg this, hg r c hr hc]
      congr 1
      by_cases h2 : f0 ≤ r ∧ r < f0 + k
      · rw [if_pos h2, if_pos (by omega)]
      · rw [if_neg h2, if_neg (by omega)]
  · rintro s ⟨g, rfl, hg⟩
    unfold LX2_copyRows_30
    dsimp only
    rw [if_pos (by rw [nI_leN (by omega) (by omega)]; omega)]
    exact ⟨_, rfl, exc.bput, _, bH.put, s2.cells hg⟩
/-- a whole square is copied -/
theorem h_copyAll {h : jx_H} {q0 q1 H0 W0 H1 W1 n : Nat} {A B : Nat → Nat → Nat} (z0 : SZ H0 W0) (z1 : SZ H1 W1) (M0 : HM h q0 H0 W0 n n B) (M1 : HM h q1 H1 W1 n n A) (d : off q1 q0) (hn : 0 < n) : ∃ h', FX2_copyRows q0 q1 (nI 0) h = some h' ∧ exc h h' q0 (q0 + 2) ∧ HM h' q0 H0 W0 n n A := by
  obtain ⟨h', e, e1, e2⟩ := h_copyRows (f0 := 0) z0 z1 M0 M1 d (by omega) hn
  exact ⟨h', e, e1, e2.congr fun r c hr _ => by rw [if_pos (by omega)]; rfl⟩
theorem h_shift {h : jx_H} {q0 q1 H0 W0 H1 W1 n v p : Nat} {A : Nat → Nat → Nat} (z0 : SZ H0 W0) (z1 : SZ H1 W1) (M0 : SH h q0 H0 W0) (M1 : HM h q1 H1 W1 n n A) (d : off q1 q0) (hn : 0 < n) (n0' : n ≤ H0) (n1' : n ≤ W0) (h0 : 0 < p) (hp : p < 1000) (hA : bdM A n n p) (hv : v < p) :
    ∃ h', FX2_becomeShifted q0 q1 (nI v) (nI p) h = some h' ∧ exc h h' q0 (q0 + 2) ∧ HM h' q0 H0 W0 n n (lessM A v p) := by
  obtain ⟨T, t1, t2⟩ := h_clear z0 M0 n0' n1'
  have Mc : HM (bput (xK H0 W0) h q0 T) q0 H0 W0 n n (fun _ _ => 0) := ⟨T, bH.put, t2⟩
  have M1c : HM (bput (xK H0 W0) h q0 T) q1 H1 W1 n n A := M1.ex exc.bput d
  obtain ⟨h2, a1, a2, a3⟩ := h_copyAll z0 z1 Mc M1c d hn
  have zz0 := z0
  obtain ⟨y1, y2, y3⟩ := zz0
  unfold FX2_becomeShifted
  rw [M1.gi4, gx_bs, M1.gi5, gx_bs, M0.ob, gx_bs, t1, gx_bs, Mc.ob, gx_bs, n0, a1, gx_bs]
  have ex2 : exc h h2 q0 (q0 + 2) := exc.bput.tr a2
  obtain ⟨S, s1, s2⟩ := a3
  have eS : bput (xK H0 W0) h2 q0 S = h2 := s1.eq
  have key : ∃ t, itr (fun s : Int32 × jx_H => LX2_becomeShifted_21 q0 (nI v) (nI p) s.1 s.2) (nI 0, h2) = some t ∧ exc h2 t q0 (q0 + 2) ∧ HM t q0 H0 W0 n n (lessM A v p) := by
    refine itr_run n (fun k s => ∃ U, s = (nI k, bput (xK H0 W0) h2 q0 U) ∧ MX H0 W0 U n n (fun r c => if r < k then lessM A v p r c else A r c)) ⟨S, by rw [eS], s2.congr fun r c _ _ => by rw [if_neg (by omega)]⟩ ?_ ?_
    · rintro k s hk ⟨U, rfl, hU⟩
      left
      have hb := hA k k hk hk
      have hz : (nI (A k k) - nI v).toInt = (A k k : Int) - (v : Nat) := pk_sub_toInt (by omega) (by omega)
      obtain ⟨V, v1, v2, -⟩ := x_put (v := rsd ((A k k : Int) - (v : Nat)) p) z0 hU hk hk
      unfold LX2_becomeShifted_21
      dsimp only
      rw [xK_gi4, gx_bs, hU.2.2.1, if_neg (by rw [nI_leN (by omega) (by omega)]; omega), xK_ob, gx_bs, eFX2_at, x_at z0 hU hk hk, gx_bs]
      rw [if_neg (show ¬ k < k by omega), q_residue, p_res hz h0 (by omega) (by omega), gx_bs, gx_bs, eFX2_put, v1, gx_ms, gx_bs, n1, nI_add]
      refine ⟨_, rfl, V, rfl, v2.congr fun r c hr hc => ?_⟩
      unfold up2
      dsimp only
      by_cases h1 : r = k ∧ c = k
      · rw [if_pos h1, h1.1, h1.2, if_pos (show k < k + 1 by omega)]
        unfold lessM
        rw [if_pos rfl]
      · rw [if_neg h1]
        by_cases h2 : r < k
        · rw [if_pos h2, if_pos (show r < k + 1 by omega)]
        · rw [if_neg h2]
          by_cases h3 : r = k
          · rw [if_pos (show r < k + 1 by omega)]
            unfold lessM
            rw [if_neg (by omega)]
          · rw [if_neg (show ¬ r < k + 1 by omega)]
    · rintro s ⟨U, rfl, hU⟩
      unfold LX2_becomeShifted_21
      dsimp only
      rw [xK_gi4, gx_bs, hU.2.2.1, if_pos (by rw [nI_leN (by omega) (by omega)]; omega)]
      exact ⟨_, rfl, exc.bput, U, bH.put, hU.congr fun r c hr _ => by rw [if_pos hr]⟩
  obtain ⟨t, e, e1, e2⟩ := key
  exact ⟨t, e, ex2.tr e1, e2⟩
theorem HM.bd {h : jx_H} {q H W n p : Nat} {A B : Nat → Nat → Nat} (_ : HM h q H W n n A) (hb : bdM B n n p) (e : eqM n A B) : bdM A n n p := fun r c hr hc => by rw [e r c hr hc]; exact hb r c hr hc
/-- the power by squares is the power -/
theorem h_power {h : jx_H} {q0 q1 q3 n p e : Nat} {A : Nat → Nat → Nat} {H W : Nat} (z : SZ H W) (M0 : SH h q0 H W) (M1 : HM h q1 H W n n A) (M3 : SH h q3 H W) (d01 : off q0 q1) (d03 : off q0 q3) (d13 : off q1 q3) (hn : 0 < n) (hn2 : n ≤ 12) (nH : n ≤ H) (nW : n ≤ W) (hp2 : 2 ≤ p) (hp : p < 1000) (hA : bdM A n n p) (he : e < 1000) :
    ∃ h', FX2_becomePower q0 q1 (nI e) q3 (nI p) h = some h' ∧ h'.1 = h.1 ∧ (∀ x, (x < q0 ∨ q0 + 2 < x) → (x < q1 ∨ q1 + 2 < x) → (x < q3 ∨ q3 + 2 < x) → h'.2 x = h.2 x) ∧ HM h' q0 H W n n (powR n p A e) ∧ SH h' q1 H W ∧ SH h' q3 H W := by
  obtain ⟨h1, a1, a2, a3⟩ := h_identity z M0 nH nW
  have zz := z
  obtain ⟨y1, y2, y3⟩ := zz
  have hpw := fun x => bd_pow (n := n) (p := p) (A := A) hp2 x
  unfold FX2_becomePower
  rw [M1.gi4, gx_bs, M0.ob, gx_bs, a1, gx_bs]
  have s10 : off q1 q0 := d01.symm
  have s30 : off q3 q0 := d03.symm
  have s31 : off q3 q1 := d13.symm
  have step : ∀ (k : Nat) (s : Int32 × jx_H), k < 10 → (∃ hh rest x y T B, s = (nI rest, hh) ∧ hh.1 = h.1 ∧ (∀ a, (a < q0 ∨ q0 + 2 < a) → (a < q1 ∨ q1 + 2 < a) → (a < q3 ∨ q3 + 2 < a) → hh.2 a = h.2 a) ∧ HM hh q0 H W n n T ∧ HM hh q1 H W n n B ∧ SH hh q3 H W ∧ eqM n T (powR n p A x) ∧ (1 ≤ rest → eqM n B (powR n p A y)) ∧ x + y * rest = e ∧ rest < 2 ^ (10 - k)) → (∃ s', LX2_becomePower_11 q0 q1 q3 (nI p) s.1 s.2 = some (.inl s') ∧ (∃ hh rest x y T B, s' = (nI rest, hh) ∧ hh.1 = h.1 ∧ (∀ a, (a < q0 ∨ q0 + 2 < a) → (a < q1 ∨ q1 + 2 < a) → (a < q3 ∨ q3 + 2 < a) → hh.2 a = h.2 a) ∧ HM hh q0 H W n n T ∧ HM hh q1 H W n n B ∧ SH hh q3 H W ∧ eqM n T (powR n p A x) ∧ (1 ≤ rest → eqM n B (powR n p A y)) ∧ x + y * rest = e ∧ rest < 2 ^ (10 - (k + 1)))) ∨ ∃ t, LX2_becomePower_11 q0 q1 q3 (nI p) s.1 s.2 = some (.inr t) ∧ t.1 = h.1 ∧ (∀ a, (a < q0 ∨ q0 + 2 < a) → (a < q1 ∨ q1 + 2 < a) → (a < q3 ∨ q3 + 2 < a) → t.2 a = h.2 a) ∧ HM t q0 H W n n (powR n p A e) ∧ SH t q1 H W ∧ SH t q3 H W := by
    rintro k s hk ⟨hh, rest, x, y, T, B, rfl, b1, b2, b3, b4, b5, b6, b7, b8, b9⟩
    have hr : rest < 2 ^ 10 := Nat.lt_of_lt_of_le b9 (Nat.pow_le_pow_right (by omega) (by omega))
    have ea : nI rest &&& (1 : Int32) = nI (rest % 2 ^ 1) := pk_andN (by omega) 1 rfl
    have es : nI rest >>> ((1 : Int32) &&& 31) = nI (rest / 2 ^ 1) := pk_shrN (by omega) _ 1 rfl
    dsimp only
    by_cases h0 : rest = 0
    · right
      subst h0
      unfold LX2_becomePower_11
      rw [if_pos (by rw [n0, nI_leN (by omega) (by omega)]; omega)]
      refine ⟨hh, rfl, b1, b2, ?_, b4.sh, b5⟩
      rw [Nat.mul_zero, Nat.add_zero] at b8
      rw [← b8]
      exact b3.congr b6
    · left
      have bT := b3.bd (hpw x) b6
      have bB := b4.bd (hpw y) (b7 (by omega))
      have hp3 : rest / 2 ^ 1 < 2 ^ (10 - (k + 1)) := by
        have : 2 ^ (10 - k) = 2 ^ (10 - (k + 1)) * 2 := by rw [← Nat.pow_succ]; congr 1; omega
        rw [this] at b9
        rw [Nat.pow_one]
        omega
      have hm := Nat.div_add_mod rest 2
      -- the second half: the base is squared
      have half : ∀ (g : jx_H) (x' : Nat) (T' : Nat → Nat → Nat), g.1 = h.1 → (∀ a, (a < q0 ∨ q0 + 2 < a) → (a < q1 ∨ q1 + 2 < a) → (a < q3 ∨ q3 + 2 < a) → g.2 a = h.2 a) → HM g q0 H W n n T' → HM g q1 H W n n B → SH g q3 H W → eqM n T' (powR n p A x') → x' + 2 * y * (rest / 2) = e → ∃ s', BX2_becomePower_38 q0 q1 q3 (nI p) (nI rest) g = some (.inl s') ∧ (∃ hh rest x y T B, s' = (nI rest, hh) ∧ hh.1 = h.1 ∧ (∀ a, (a < q0 ∨ q0 + 2 < a) → (a < q1 ∨ q1 + 2 < a) → (a < q3 ∨ q3 + 2 < a) → hh.2 a = h.2 a) ∧ HM hh q0 H W n n T ∧ HM hh q1 H W n n B ∧ SH hh q3 H W ∧ eqM n T (powR n p A x) ∧ (1 ≤ rest → eqM n B (powR n p A y)) ∧ x + y * rest = e ∧ rest < 2 ^ (10 - (k + 1))) := by
        intro g x' T' c1 c2 c3 c4 c5 c6 c7
        unfold BX2_becomePower_38 BX2_becomePower_58
        rw [es]
        by_cases hle : rest ≤ 1
        · rw [if_pos (by rw [n1, nI_leN (by omega) (by omega)]; exact hle)]
          have : rest / 2 = 0 := by omega
          refine ⟨_, rfl, g, rest / 2 ^ 1, x', 2 * y, T', B, rfl, c1, c2, c3, c4, c5, c6, fun z => by rw [Nat.pow_one] at z; omega, by rw [Nat.pow_one]; exact c7, hp3⟩
        · rw [if_neg (by rw [n1, nI_leN (by omega) (by omega)]; exact hle)]
          obtain ⟨g1, f1, f2, f3⟩ := h_product z z z c5 c4 c4 d13 d13 hn2 nH nW (by omega) hp bB bB
          obtain ⟨g2, f4, f5, f6⟩ := h_copyAll z z (c4.ex f2 d13) f3 s31 hn
          rw [c5.ob, gx_bs, f1, gx_bs, (c4.ex f2 d13).ob, gx_bs, n0, f4, gx_bs]
          refine ⟨_, rfl, g2, rest / 2 ^ 1, x', 2 * y, T', mulM n p B B, rfl, by rw [f5.1, f2.1, c1], fun a a1 a2 a3 => by rw [f5.2 a a2, f2.2 a a3]; exact c2 a a1 a2 a3, (c3.ex f2 d03).ex f5 d01, f6, f3.sh.ex f5 s31, c6, fun _ => ?_, by rw [Nat.pow_one]; exact c7, hp3⟩
          rw [Nat.two_mul]
          exact (mulM_congr (b7 (by omega)) (b7 (by omega))).tr (pow_addM hp2 y y)
      unfold LX2_becomePower_11
      rw [if_neg (by rw [n0, nI_leN (by omega) (by omega)]; omega), ea]
      by_cases hb : rest % 2 = 1
      · rw [if_pos (by rw [Nat.pow_one, hb, n1])]
        obtain ⟨g1, f1, f2, f3⟩ := h_product z z z b5 b3 b4 d03 d13 hn2 nH nW (by omega) hp bT bB
        obtain ⟨g2, f4, f5, f6⟩ := h_copyAll z z (b3.ex f2 d03) f3 s30 hn
        rw [b5.ob, gx_bs, f1, gx_bs, (b3.ex f2 d03).ob, gx_bs, n0, f4, gx_bs]
        refine half g2 (x + y) (mulM n p T B) (by rw [f5.1, f2.1, b1]) (fun a a1 a2 a3 => by rw [f5.2 a a1, f2.2 a a3]; exact b2 a a1 a2 a3) f6 ((b4.ex f2 d13).ex f5 s10) (f3.sh.ex f5 s30) ((mulM_congr b6 (b7 (by omega))).tr (pow_addM hp2 x y)) ?_
        have e1 : y * rest = y * (2 * (rest / 2)) + y := by
          conv => lhs; rw [← hm, hb]
          rw [Nat.mul_add, Nat.mul_one]
        have e2 : 2 * y * (rest / 2) = y * (2 * (rest / 2)) := by rw [Nat.mul_comm 2 y, Nat.mul_assoc]
        omega
      · rw [if_neg (by rw [n1, nI_eqN (by omega) (by omega), Nat.pow_one]; exact hb)]
        refine half hh x T b1 b2 b3 b4 b5 b6 ?_
        have e1 : y * rest = y * (2 * (rest / 2)) := by
          conv => lhs; rw [← hm, show rest % 2 = 0 by omega]
          rfl
        have e2 : 2 * y * (rest / 2) = y * (2 * (rest / 2)) := by rw [Nat.mul_comm 2 y, Nat.mul_assoc]
        omega
  refine itr_run 10 (fun k s => ∃ hh rest x y T B, s = (nI rest, hh) ∧ hh.1 = h.1 ∧ (∀ a, (a < q0 ∨ q0 + 2 < a) → (a < q1 ∨ q1 + 2 < a) → (a < q3 ∨ q3 + 2 < a) → hh.2 a = h.2 a) ∧ HM hh q0 H W n n T ∧ HM hh q1 H W n n B ∧ SH hh q3 H W ∧ eqM n T (powR n p A x) ∧ (1 ≤ rest → eqM n B (powR n p A y)) ∧ x + y * rest = e ∧ rest < 2 ^ (10 - k)) ?_ step ?_
  · exact ⟨h1, e, 0, 1, oneM, A, rfl, a2.1, fun a q1 _ _ => a2.2 a q1, a3, M1.ex a2 s10, M3.ex a2 s30, eqM.rf, fun _ => (pow_oneM hA).sy, by omega, by omega⟩
  · rintro s ⟨hh, rest, x, y, T, B, rfl, b1, b2, b3, b4, b5, b6, b7, b8, b9⟩
    obtain rfl : rest = 0 := by
      rw [Nat.sub_self, Nat.pow_zero] at b9
      omega
    unfold LX2_becomePower_11
    dsimp only
    rw [if_pos (by rw [n0, nI_leN (by omega) (by omega)]; omega)]
    refine ⟨hh, rfl, b1, b2, ?_, b4.sh, b5⟩
    rw [Nat.mul_zero, Nat.add_zero] at b8
    rw [← b8]
    exact b3.congr b6
