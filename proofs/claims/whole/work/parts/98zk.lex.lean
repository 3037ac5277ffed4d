/-! the text: tokens of both sides -/
def runP (P : Nat → Bool) (b : Nat → Nat) : Nat → Nat → Nat
  | 0, i => i
  | n + 1, i => if P (b i) then runP P b n (i + 1) else i
theorem runP_spec {P : Nat → Bool} {b : Nat → Nat} : ∀ n i, i ≤ runP P b n i ∧ runP P b n i ≤ i + n ∧ (∀ k, i ≤ k → k < runP P b n i → P (b k) = true) ∧ (runP P b n i < i + n → P (b (runP P b n i)) = false)
  | 0, i => ⟨Nat.le_refl _, Nat.le_refl _, fun k h1 h2 => by have h2 : k < i := h2; omega, fun h => by have h : i < i + 0 := h; omega⟩
  | n + 1, i => by
    have ih := runP_spec (P := P) (b := b) n (i + 1)
    unfold runP
    cases h : P (b i) with
    | false =>
      rw [if_neg (by decide)]
      exact ⟨Nat.le_refl _, by omega, fun k h1 h2 => by omega, fun _ => h⟩
    | true =>
      rw [if_pos rfl]
      refine ⟨by omega, by omega, fun k h1 h2 => ?_, fun hlt => ih.2.2.2 (by omega)⟩
      by_cases e : k = i
      · rw [e]; exact h
      · exact ih.2.2.1 k (by omega) h2
def wsp (c : Nat) : Bool := decide (c = 32) || decide (c = 10)
theorem wsp_f {c : Nat} (h : wsp c = false) : c ≠ 32 ∧ c ≠ 10 := by
  constructor
  · rintro rfl; cases h
  · rintro rfl; cases h
def let' (c : Nat) : Bool := decide (97 ≤ c) && decide (c ≤ 122)
def dig (c : Nat) : Bool := decide (48 ≤ c) && decide (c ≤ 57)
def numC (b : Nat → Nat) (s : Nat) : Nat → Nat
  | 0 => 0
  | k + 1 => min (numC b s k * 10 + (b (s + k) - 48)) 100000
def numR (b : Nat → Nat) (s : Nat) : Nat → Nat
  | 0 => 0
  | k + 1 => if 10000 < numR b s k then numR b s k else 10 * numR b s k + (b (s + k) - 48)
/-- a token: its kind, where it begins and ends, its number as each side has it -/
abbrev Tok : Type := Nat × Nat × Nat × Nat × Nat
def symK (c : Nat) : Nat := if c = 59 then 3 else if c = 44 then 4 else if c = 45 then 5 else 6
def lexAt (b : Nat → Nat) (L i : Nat) : Tok :=
  if L ≤ runP wsp b (L - i) i then (0, runP wsp b (L - i) i, runP wsp b (L - i) i, 0, 0)
  else if let' (b (runP wsp b (L - i) i)) then (1, runP wsp b (L - i) i, runP let' b (L - runP wsp b (L - i) i) (runP wsp b (L - i) i), 0, 0)
  else if dig (b (runP wsp b (L - i) i)) then (2, runP wsp b (L - i) i, runP dig b (L - runP wsp b (L - i) i) (runP wsp b (L - i) i), numC b (runP wsp b (L - i) i) (runP dig b (L - runP wsp b (L - i) i) (runP wsp b (L - i) i) - runP wsp b (L - i) i), numR b (runP wsp b (L - i) i) (runP dig b (L - runP wsp b (L - i) i) (runP wsp b (L - i) i) - runP wsp b (L - i) i))
  else (symK (b (runP wsp b (L - i) i)), runP wsp b (L - i) i, runP wsp b (L - i) i + 1, 0, 0)
/-- both numbers are one, or both too large for any limit -/
def numQ (c r : Nat) : Prop := (c = r ∧ r ≤ 10000) ∨ (10000 < c ∧ c ≤ 100000 ∧ 10000 < r ∧ r ≤ 100099)
theorem num_q {b : Nat → Nat} {s : Nat} : ∀ n, (∀ k, k < n → dig (b (s + k)) = true) → numQ (numC b s n) (numR b s n)
  | 0, _ => Or.inl ⟨rfl, by show 0 ≤ 10000; omega⟩
  | n + 1, h => by
    have ih := num_q n fun k hk => h k (by omega)
    have hd : b (s + n) ≤ 57 := by
      have := h n (by omega)
      unfold dig at this
      simp at this
      exact this.2
    unfold numQ numC numR
    unfold numQ at ih
    generalize numC b s n = c at ih ⊢
    generalize numR b s n = r at ih ⊢
    rcases ih with ⟨h1, h2⟩ | ⟨h1, h2, h3, h4⟩
    · rw [if_neg (by omega), h1]
      by_cases hx : r * 10 + (b (s + n) - 48) ≤ 10000
      · left; omega
      · right; omega
    · rw [if_pos h3]
      right; omega
theorem lex_ok {b : Nat → Nat} {L i : Nat} (hi : i ≤ L) : i ≤ (lexAt b L i).2.1 ∧ (lexAt b L i).2.1 ≤ (lexAt b L i).2.2.1 ∧ (lexAt b L i).2.2.1 ≤ L ∧ ((lexAt b L i).1 ≠ 0 → (lexAt b L i).2.1 < (lexAt b L i).2.2.1) ∧ (lexAt b L i).1 ≤ 6 ∧ ((lexAt b L i).1 = 2 → numQ (lexAt b L i).2.2.2.1 (lexAt b L i).2.2.2.2) := by
  obtain ⟨s1, s2, s3, s4⟩ := runP_spec (P := wsp) (b := b) (L - i) i
  unfold lexAt
  generalize runP wsp b (L - i) i = s at s1 s2 s3 s4
  by_cases h0 : L ≤ s
  · rw [if_pos h0]
    exact ⟨s1, Nat.le_refl _, by show s ≤ L; omega, fun z => absurd rfl z, by show 0 ≤ 6; omega, fun z => by cases z⟩
  · rw [if_neg h0]
    by_cases h1 : let' (b s) = true
    · rw [if_pos h1]
      obtain ⟨t1, t2, t3, t4⟩ := runP_spec (P := let') (b := b) (L - s) s
      refine ⟨s1, t1, by show runP let' b (L - s) s ≤ L; omega, fun _ => ?_, by show 1 ≤ 6; omega, fun z => by cases z⟩
      show s < runP let' b (L - s) s
      refine Classical.byContradiction fun z => ?_
      have e : runP let' b (L - s) s = s := by omega
      have := t4 (by omega)
      rw [e, h1] at this
      cases this
    · rw [if_neg h1]
      by_cases h2 : dig (b s) = true
      · rw [if_pos h2]
        obtain ⟨t1, t2, t3, t4⟩ := runP_spec (P := dig) (b := b) (L - s) s
        refine ⟨s1, t1, by show runP dig b (L - s) s ≤ L; omega, fun _ => ?_, by show 2 ≤ 6; omega, fun _ => num_q _ fun k hk => t3 (s + k) (by omega) (by omega)⟩
        show s < runP dig b (L - s) s
        refine Classical.byContradiction fun z => ?_
        have e : runP dig b (L - s) s = s := by omega
        have := t4 (by omega)
        rw [e, h2] at this
        cases this
      · rw [if_neg h2]
        refine ⟨s1, by show s ≤ s + 1; omega, by show s + 1 ≤ L; omega, fun _ => by show s < s + 1; omega, ?_, fun z => ?_⟩
        · show symK (b s) ≤ 6
          unfold symK
          split
          · omega
          · split
            · omega
            · split <;> omega
        · have z : symK (b s) = 2 := z
          unfold symK at z
          split at z
          · omega
          · split at z
            · omega
            · split at z <;> omega
/-- bytes as the rows hold them -/
def bR (v : Nat) : Int32 := if v < 128 then nI v else nI v - nI 256
theorem bR_and : ∀ v, v < 256 → bR v &&& 255 = nI v := by decide +kernel
theorem bR_eq : ∀ v, v < 256 → ∀ c, c < 128 → (bR v = nI c ↔ v = c) := by decide +kernel
theorem n48 : (48 : Int32) = nI 48 := by decide +kernel
theorem n57 : (57 : Int32) = nI 57 := by decide +kernel
theorem n122 : (122 : Int32) = nI 122 := by decide +kernel
theorem n32 : (32 : Int32) = nI 32 := by decide +kernel
theorem n59 : (59 : Int32) = nI 59 := by decide +kernel
theorem n44 : (44 : Int32) = nI 44 := by decide +kernel
theorem n45 : (45 : Int32) = nI 45 := by decide +kernel
theorem n900 : (900 : Int32) = nI 900 := by decide +kernel
theorem n100k : (100000 : Int32) = nI 100000 := by decide +kernel
theorem n10k : (10000 : Int32) = nI 10000 := by decide +kernel
theorem n999 : (999 : Int32) = nI 999 := by decide +kernel
def TXb (L : Nat) (b : Nat → Nat) : Prop := L ≤ 900 ∧ ∀ k, k < L → b k < 256
/-- the class's Text: its length and bytes -/
def cTx (T : MS) (L : Nat) (b : Nat → Nat) : Prop := TXb L b ∧ T.1 1 = nI L ∧ ∀ k, k < L → T.2 1 k = bR (b k)
/-- the reference's text -/
def rTx (S : MS) (L : Nat) (b : Nat → Nat) : Prop := TXb L b ∧ S.1 10 = nI L ∧ ∀ k, k < L → S.2 8 k = bR (b k)
section
variable {T : MS} {L : Nat} {b : Nat → Nat}
theorem c_byte (H : cTx T L b) {k : Nat} (hk : k < L) : gFX7_byteAt (nI k) T = some (nI (b k)) := by
  have hL := H.1.1
  unfold gFX7_byteAt
  rw [n0, if_neg (by rw [nI_lt0 (by omega)]; exact id), gx_bs, H.2.1, if_neg (by rw [nI_leN (by omega) (by omega)]; omega), n900, if_neg (by rw [nI_leN (by omega) (by omega)]; omega), tK_a1 (by omega), gx_bs, H.2.2 k hk, bR_and _ (H.1.2 k hk)]
theorem c_byte0 (H : cTx T L b) {k : Nat} (hk : L ≤ k) (h2 : k < 2 ^ 31) : gFX7_byteAt (nI k) T = some (nI 0) := by
  have hL := H.1.1
  unfold gFX7_byteAt
  rw [n0, if_neg (by rw [nI_lt0 h2]; exact id), gx_bs, H.2.1, if_pos (by rw [nI_leN (by omega) h2]; omega)]
theorem c_let {v : Nat} (hv : v < 256) : gFX7_isLetter (nI v) T = some (bI (let' v)) := by
  unfold gFX7_isLetter let'
  rw [n97, n122, n0, n1]
  by_cases h1 : v < 97
  · rw [if_pos (by rw [nI_ltN (by omega) (by omega)]; exact h1), decide_eq_false (show ¬ 97 ≤ v by omega)]
    rfl
  · rw [if_neg (by rw [nI_ltN (by omega) (by omega)]; exact h1), decide_eq_true (show 97 ≤ v by omega)]
    by_cases h2 : 122 < v
    · rw [if_pos (by rw [nI_ltN (by omega) (by omega)]; exact h2), decide_eq_false (show ¬ v ≤ 122 by omega)]
      rfl
    · rw [if_neg (by rw [nI_ltN (by omega) (by omega)]; exact h2), decide_eq_true (show v ≤ 122 by omega)]
      rfl
theorem c_dig {v : Nat} (hv : v < 256) : gFX7_isDigit (nI v) T = some (bI (dig v)) := by
  unfold gFX7_isDigit dig
  rw [n48, n57, n0, n1]
  by_cases h1 : v < 48
  · rw [if_pos (by rw [nI_ltN (by omega) (by omega)]; exact h1), decide_eq_false (show ¬ 48 ≤ v by omega)]
    rfl
  · rw [if_neg (by rw [nI_ltN (by omega) (by omega)]; exact h1), decide_eq_true (show 48 ≤ v by omega)]
    by_cases h2 : 57 < v
    · rw [if_pos (by rw [nI_ltN (by omega) (by omega)]; exact h2), decide_eq_false (show ¬ v ≤ 57 by omega)]
      rfl
    · rw [if_neg (by rw [nI_ltN (by omega) (by omega)]; exact h2), decide_eq_true (show v ≤ 57 by omega)]
      rfl
def cK (k : Nat) : Nat := if k = 3 then 59 else if k = 4 then 44 else if k = 5 then 45 else if k = 6 then 3 else k
/-- the class has read a token -/
def cTk (T T' : MS) (t : Tok) : Prop := T'.2 = T.2 ∧ T'.1 1 = T.1 1 ∧ T'.1 2 = nI (cK t.1) ∧ T'.1 3 = nI t.2.1 ∧ T'.1 4 = nI t.2.2.1 ∧ (t.1 = 2 → T'.1 5 = nI t.2.2.2.1)
theorem cTk.tx {T' : MS} {t : Tok} (h : cTk T T' t) (H : cTx T L b) : cTx T' L b := ⟨H.1, by rw [h.2.1]; exact H.2.1, by rw [h.1]; exact H.2.2⟩
theorem c_advance {h : jx_H} {q i : Nat} (H : cTx T L b) (hi : i ≤ L) (e4 : T.1 4 = nI i) : ∃ T', FX7_advance q (bput tK h q T) = some (bput tK h q T') ∧ cTk T T' (lexAt b L i) := by
  have hL := H.1.1
  obtain ⟨s1, s2, s3, s4⟩ := runP_spec (P := wsp) (b := b) (L - i) i
  -- from the token's beginning on
  have tail : ∀ U : MS, U.2 = T.2 → U.1 1 = T.1 1 → U.1 4 = nI (runP wsp b (L - i) i) → ∃ T', BX7_advance_50 q (bput tK h q U) = some (bput tK h q T') ∧ cTk T T' (lexAt b L i) := by
    intro U u1 u2 u3
    unfold lexAt
    generalize runP wsp b (L - i) i = s at s1 s2 s3 s4 u3
    have HU : ∀ V : MS, V.2 = T.2 → V.1 1 = T.1 1 → cTx V L b := fun V v1 v2 => ⟨H.1, by rw [v2]; exact H.2.1, by rw [v1]; exact H.2.2⟩
    unfold BX7_advance_50
    rw [tK_gi4, gx_bs, u3, tK_pi3, gx_bs, tK_gi4, gx_bs, gpi_1, upd_o (by decide), u3, tK_ob, gx_bs, eFX7_byteAt]
    have H3 := HU (gpi U 3 (nI s)) (by rw [gpi_2, u1]) (by rw [gpi_1, upd_o (by decide), u2])
    by_cases h0 : L ≤ s
    · rw [c_byte0 H3 h0 (by omega), gx_bs, gx_bs, tK_gi1, gx_bs, H3.2.1, if_neg (by rw [nI_ltN (by omega) (by omega)]; omega), n0, tK_pi2, gx_bs, if_pos h0]
      refine ⟨_, rfl, ?_, ?_, ?_, ?_, ?_, fun z => by cases z⟩
      · rw [gpi_2, gpi_2, u1]
      · rw [gpi_1, gpi_1, upd_o (by decide), upd_o (by decide), u2]
      · rw [gpi_1, upd_s]; rfl
      · rw [gpi_1, gpi_1, upd_o (by decide), upd_s]
      · rw [gpi_1, gpi_1, upd_o (by decide), upd_o (by decide), u3]
    · have hb := H.1.2 s (by omega)
      rw [c_byte H3 (by omega), gx_bs, gx_bs, tK_gi1, gx_bs, H3.2.1, if_pos (by rw [nI_ltN (by omega) (by omega)]; omega), eFX7_isLetter, c_let hb, gx_bs, if_neg h0]
      by_cases h1 : let' (b s) = true
      · obtain ⟨t1, t2, t3, t4⟩ := runP_spec (P := let') (b := b) (L - s) s
        rw [h1, if_neg (by rw [bF]; decide), if_pos rfl, n1, tK_pi2, gx_bs]
        have loop : ∃ x, itr (fun s : jx_H => LX7_advance_98 q s) (bput tK h q (gpi (gpi U 3 (nI s)) 2 (nI 1))) = some x ∧ ∃ T', x = bput tK h q T' ∧ T'.2 = T.2 ∧ T'.1 1 = T.1 1 ∧ T'.1 2 = nI 1 ∧ T'.1 3 = nI s ∧ T'.1 4 = nI (runP let' b (L - s) s) := by
          refine itr_run (runP let' b (L - s) s - s) (fun j x => ∃ V, x = bput tK h q V ∧ V.2 = T.2 ∧ V.1 1 = T.1 1 ∧ V.1 2 = nI 1 ∧ V.1 3 = nI s ∧ V.1 4 = nI (s + j)) ⟨_, rfl, by rw [gpi_2, gpi_2, u1], by rw [gpi_1, gpi_1, upd_o (by decide), upd_o (by decide), u2], by rw [gpi_1, upd_s], by rw [gpi_1, gpi_1, upd_o (by decide), upd_s], by rw [gpi_1, gpi_1, upd_o (by decide), upd_o (by decide), u3]; rfl⟩ ?_ ?_
          · rintro j x hj ⟨V, rfl, v1, v2, v3, v4, v5⟩
            left
            have HV := HU V v1 v2
            have hc := t3 (s + j) (by omega) (by omega)
            unfold LX7_advance_98
            rw [tK_gi4, gx_bs, v5, tK_gi1, gx_bs, HV.2.1, if_neg (by rw [nI_leN (by omega) (by omega)]; omega), gx_bs, tK_ob, gx_bs, eFX7_byteAt, c_byte HV (by omega), gx_bs, eFX7_isLetter, c_let (H.1.2 _ (by omega)), gx_bs, hc, if_neg (by rw [bF]; decide), gx_bs, n1, nI_add, tK_pi4, gx_bs]
            exact ⟨_, rfl, _, rfl, by rw [gpi_2, v1], by rw [gpi_1, upd_o (by decide), v2], by rw [gpi_1, upd_o (by decide), v3], by rw [gpi_1, upd_o (by decide), v4], by rw [gpi_1, upd_s]; rfl⟩
          · rintro x ⟨V, rfl, v1, v2, v3, v4, v5⟩
            have HV := HU V v1 v2
            rw [show s + (runP let' b (L - s) s - s) = runP let' b (L - s) s by omega] at v5
            unfold LX7_advance_98
            rw [tK_gi4, gx_bs, v5, tK_gi1, gx_bs, HV.2.1]
            by_cases he : L ≤ runP let' b (L - s) s
            · rw [if_pos (by rw [nI_leN (by omega) (by omega)]; exact he)]
              exact ⟨_, rfl, V, rfl, v1, v2, v3, v4, v5⟩
            · rw [if_neg (by rw [nI_leN (by omega) (by omega)]; exact he), gx_bs, tK_ob, gx_bs, eFX7_byteAt, c_byte HV (by omega), gx_bs, eFX7_isLetter, c_let (H.1.2 _ (by omega)), gx_bs, t4 (by omega), if_pos (by rw [bF])]
              exact ⟨_, rfl, V, rfl, v1, v2, v3, v4, v5⟩
        obtain ⟨x, x1, T', rfl, x2, x3, x4, x5, x6⟩ := loop
        exact ⟨T', x1, x2, x3, x4, x5, x6, fun z => by cases z⟩
      · have h1' : let' (b s) = false := by simpa using h1
        rw [h1', if_pos (by rw [bF]), if_neg (show ¬ (false = true) by decide), eFX7_isDigit, c_dig hb, gx_bs]
        by_cases h2 : dig (b s) = true
        · obtain ⟨t1, t2, t3, t4⟩ := runP_spec (P := dig) (b := b) (L - s) s
          rw [h2, if_neg (by rw [bF]; decide), if_pos rfl, n2, tK_pi2, gx_bs, n0, tK_pi5, gx_bs]
          have loop : ∃ x, itr (fun s : jx_H => LX7_advance_153 q s) (bput tK h q (gpi (gpi (gpi U 3 (nI s)) 2 (nI 2)) 5 (nI 0))) = some x ∧ ∃ T', x = bput tK h q T' ∧ T'.2 = T.2 ∧ T'.1 1 = T.1 1 ∧ T'.1 2 = nI 2 ∧ T'.1 3 = nI s ∧ T'.1 4 = nI (runP dig b (L - s) s) ∧ T'.1 5 = nI (numC b s (runP dig b (L - s) s - s)) := by
            refine itr_run (runP dig b (L - s) s - s) (fun j x => ∃ V, x = bput tK h q V ∧ V.2 = T.2 ∧ V.1 1 = T.1 1 ∧ V.1 2 = nI 2 ∧ V.1 3 = nI s ∧ V.1 4 = nI (s + j) ∧ V.1 5 = nI (numC b s j)) ⟨_, rfl, by rw [gpi_2, gpi_2, gpi_2, u1], by rw [gpi_1, gpi_1, gpi_1, upd_o (by decide), upd_o (by decide), upd_o (by decide), u2], by rw [gpi_1, gpi_1, upd_o (by decide), upd_s], by rw [gpi_1, gpi_1, gpi_1, upd_o (by decide), upd_o (by decide), upd_s], by rw [gpi_1, gpi_1, gpi_1, upd_o (by decide), upd_o (by decide), upd_o (by decide), u3]; rfl, by rw [gpi_1, upd_s]; rfl⟩ ?_ ?_
            · rintro j x hj ⟨V, rfl, v1, v2, v3, v4, v5, v6⟩
              left
              have HV := HU V v1 v2
              have hc := t3 (s + j) (by omega) (by omega)
              have hq := num_q (b := b) (s := s) j fun k hk => t3 (s + k) (by omega) (by omega)
              have hd : 48 ≤ b (s + j) ∧ b (s + j) ≤ 57 := by
                unfold dig at hc
                simpa using hc
              have hc100 : numC b s j ≤ 100000 := by
                unfold numQ at hq
                omega
              have hval : (if nI 100000 < nI (numC b s j) * nI 10 + nI (b (s + j)) - nI 48 then nI 100000 else nI (numC b s j) * nI 10 + nI (b (s + j)) - nI 48) = nI (numC b s (j + 1)) := by
                rw [nI_mul, nI_add, nI_sub (by omega)]
                show _ = nI (min (numC b s j * 10 + (b (s + j) - 48)) 100000)
                by_cases hx : 100000 < numC b s j * 10 + b (s + j) - 48
                · rw [if_pos (by rw [nI_ltN (by omega) (by omega)]; exact hx)]
                  congr 1
                  omega
                · rw [if_neg (by rw [nI_ltN (by omega) (by omega)]; exact hx)]
                  congr 1
                  omega
              unfold LX7_advance_153
              rw [tK_gi4, gx_bs, v5, tK_gi1, gx_bs, HV.2.1, if_neg (by rw [nI_leN (by omega) (by omega)]; omega), gx_bs, tK_ob, gx_bs, eFX7_byteAt, c_byte HV (by omega), gx_bs, eFX7_isDigit, c_dig (H.1.2 _ (by omega)), gx_bs, hc, if_neg (by rw [bF]; decide), tK_gi5, gx_bs, v6, gx_bs, gx_bs, eFX7_byteAt, c_byte HV (by omega), gx_bs, n100k, n10, n48, hval, tK_pi5, gx_bs, tK_gi4, gx_bs, gpi_1, upd_o (by decide), v5, n1, nI_add, tK_pi4, gx_bs]
              exact ⟨_, rfl, _, rfl, by rw [gpi_2, gpi_2, v1], by rw [gpi_1, gpi_1, upd_o (by decide), upd_o (by decide), v2], by rw [gpi_1, gpi_1, upd_o (by decide), upd_o (by decide), v3], by rw [gpi_1, gpi_1, upd_o (by decide), upd_o (by decide), v4], by rw [gpi_1, upd_s]; rfl, by rw [gpi_1, gpi_1, upd_o (by decide), upd_s]⟩
            · rintro x ⟨V, rfl, v1, v2, v3, v4, v5, v6⟩
              have HV := HU V v1 v2
              rw [show s + (runP dig b (L - s) s - s) = runP dig b (L - s) s by omega] at v5
              unfold LX7_advance_153
              rw [tK_gi4, gx_bs, v5, tK_gi1, gx_bs, HV.2.1]
              by_cases he : L ≤ runP dig b (L - s) s
              · rw [if_pos (by rw [nI_leN (by omega) (by omega)]; exact he)]
                exact ⟨_, rfl, V, rfl, v1, v2, v3, v4, v5, v6⟩
              · rw [if_neg (by rw [nI_leN (by omega) (by omega)]; exact he), gx_bs, tK_ob, gx_bs, eFX7_byteAt, c_byte HV (by omega), gx_bs, eFX7_isDigit, c_dig (H.1.2 _ (by omega)), gx_bs, t4 (by omega), if_pos (by rw [bF])]
                exact ⟨_, rfl, V, rfl, v1, v2, v3, v4, v5, v6⟩
          obtain ⟨x, x1, T', rfl, x2, x3, x4, x5, x6, x7⟩ := loop
          exact ⟨T', x1, x2, x3, x4, x5, x6, fun _ => x7⟩
        · have h2' : dig (b s) = false := by simpa using h2
          rw [h2', if_pos (by rw [bF]), if_neg (show ¬ (false = true) by decide)]
          have sym : ∀ k : Nat, BX7_advance_243 q q (nI k) (bput tK h q (gpi U 3 (nI s))) = some (bput tK h q (gpi (gpi (gpi U 3 (nI s)) 2 (nI k)) 4 (nI (s + 1)))) := by
            intro k
            unfold BX7_advance_243
            rw [tK_pi2, gx_bs, tK_gi4, gx_bs, gpi_1, gpi_1, upd_o (by decide), upd_o (by decide), u3, n1, nI_add, tK_pi4, gx_bs]
          have fin : ∀ k m : Nat, k = cK m → m ≠ 2 → cTk T (gpi (gpi (gpi U 3 (nI s)) 2 (nI k)) 4 (nI (s + 1))) (m, s, s + 1, 0, 0) := by
            rintro k m rfl hm
            refine ⟨?_, ?_, ?_, ?_, ?_, fun z => absurd z hm⟩
            · rw [gpi_2, gpi_2, gpi_2, u1]
            · rw [gpi_1, gpi_1, gpi_1, upd_o (by decide), upd_o (by decide), upd_o (by decide), u2]
            · rw [gpi_1, gpi_1, upd_o (by decide), upd_s]
            · rw [gpi_1, gpi_1, gpi_1, upd_o (by decide), upd_o (by decide), upd_s]
            · rw [gpi_1, upd_s]
          unfold BX7_advance_238
          unfold symK
          rw [n59, n44, n45, n3]
          by_cases c1 : b s = 59
          · rw [if_pos (by rw [c1]), if_pos c1, sym, c1]
            exact ⟨_, rfl, fin 59 3 rfl (by omega)⟩
          · rw [if_neg (by rw [nI_eqN (by omega) (by omega)]; exact c1), if_neg c1]
            by_cases c2 : b s = 44
            · rw [if_pos (by rw [c2]), if_pos c2, sym, c2]
              exact ⟨_, rfl, fin 44 4 rfl (by omega)⟩
            · rw [if_neg (by rw [nI_eqN (by omega) (by omega)]; exact c2), if_neg c2]
              by_cases c3 : b s = 45
              · rw [if_pos (by rw [c3]), if_pos c3, sym, c3]
                exact ⟨_, rfl, fin 45 5 rfl (by omega)⟩
              · rw [if_neg (by rw [nI_eqN (by omega) (by omega)]; exact c3), if_neg c3, sym]
                exact ⟨_, rfl, fin 3 6 rfl (by omega)⟩
  -- spaces
  have loop : ∃ x, itr (fun s : jx_H => LX7_advance_0 q s) (bput tK h q T) = some x ∧ ∃ T', x = bput tK h q T' ∧ cTk T T' (lexAt b L i) := by
    refine itr_run (runP wsp b (L - i) i - i) (fun j x => ∃ V, x = bput tK h q V ∧ V.2 = T.2 ∧ V.1 1 = T.1 1 ∧ V.1 4 = nI (i + j)) ⟨T, rfl, rfl, rfl, by rw [e4]; rfl⟩ ?_ ?_
    · rintro j x hj ⟨V, rfl, v1, v2, v3⟩
      left
      have HV : cTx V L b := ⟨H.1, by rw [v2]; exact H.2.1, by rw [v1]; exact H.2.2⟩
      have hc := s3 (i + j) (by omega) (by omega)
      have hb := H.1.2 (i + j) (by omega)
      have go : BX7_advance_37 q (bput tK h q V) = some (.inl (bput tK h q (gpi V 4 (nI (i + j + 1))))) := by
        unfold BX7_advance_37
        rw [tK_gi4, gx_bs, v3, n1, nI_add, tK_pi4, gx_bs]
      unfold LX7_advance_0
      rw [tK_gi4, gx_bs, v3, tK_gi1, gx_bs, HV.2.1, if_neg (by rw [nI_leN (by omega) (by omega)]; omega), gx_bs, tK_ob, gx_bs, eFX7_byteAt, c_byte HV (by omega), gx_bs, n32, go]
      refine ⟨bput tK h q (gpi V 4 (nI (i + j + 1))), ?_, _, rfl, by rw [gpi_2, v1], by rw [gpi_1, upd_o (by decide), v2], by rw [gpi_1, upd_s]; rfl⟩
      unfold wsp at hc
      by_cases c1 : b (i + j) = 32
      · rw [if_pos (by rw [c1])]
      · rw [if_neg (by rw [nI_eqN (by omega) (by omega)]; exact c1), gx_bs, gx_bs, eFX7_byteAt, c_byte HV (by omega), gx_bs, n10]
        have c2 : b (i + j) = 10 := by simpa [c1] using hc
        rw [if_pos (by rw [c2])]
    · rintro x ⟨V, rfl, v1, v2, v3⟩
      rw [show i + (runP wsp b (L - i) i - i) = runP wsp b (L - i) i by omega] at v3
      have HV : cTx V L b := ⟨H.1, by rw [v2]; exact H.2.1, by rw [v1]; exact H.2.2⟩
      obtain ⟨T', r1, r2⟩ := tail V v1 v2 v3
      unfold LX7_advance_0
      rw [tK_gi4, gx_bs, v3, tK_gi1, gx_bs, HV.2.1, r1]
      by_cases he : L ≤ runP wsp b (L - i) i
      · rw [if_pos (by rw [nI_leN (by omega) (by omega)]; exact he)]
        exact ⟨_, rfl, T', rfl, r2⟩
      · have hc := s4 (by omega)
        have hb := H.1.2 (runP wsp b (L - i) i) (by omega)
        obtain ⟨c1, c2⟩ := wsp_f hc
        rw [if_neg (by rw [nI_leN (by omega) (by omega)]; exact he), gx_bs, tK_ob, gx_bs, eFX7_byteAt, c_byte HV (by omega), gx_bs, n32, if_neg (by rw [nI_eqN (by omega) (by omega)]; exact c1), gx_bs, gx_bs, eFX7_byteAt, c_byte HV (by omega), gx_bs, n10, if_neg (by rw [nI_eqN (by omega) (by omega)]; exact c2)]
        exact ⟨_, rfl, T', rfl, r2⟩
  obtain ⟨x, x1, T', rfl, x2⟩ := loop
  exact ⟨T', x1, x2⟩
end
