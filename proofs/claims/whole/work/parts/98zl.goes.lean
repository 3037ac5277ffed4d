/-! the reference: its next token -/
/-- the reference has read a token -/
def rTk (S S' : MS) (t : Tok) : Prop := S'.2 = S.2 ∧ (∀ q, ¬ (11 ≤ q ∧ q ≤ 14) → S'.1 q = S.1 q) ∧ S'.1 13 = nI t.1 ∧ S'.1 12 = nI t.2.1 ∧ S'.1 11 = nI t.2.2.1 ∧ (t.1 = 2 → S'.1 14 = nI t.2.2.2.2)
section
variable {S : MS} {L : Nat} {b : Nat → Nat}
theorem rTk.tx {S' : MS} {t : Tok} (h : rTk S S' t) (H : rTx S L b) : rTx S' L b := ⟨H.1, by rw [h.2.1 10 (by omega)]; exact H.2.1, by rw [h.1]; exact H.2.2⟩
theorem m_see {k : Nat} (H : rTx S L b) (e : S.1 11 = nI k) (hk : k < 2 ^ 31) : gFX10_see S = some (if L ≤ k then m1 else nI (b k)) := by
  have hL := H.1.1
  unfold gFX10_see
  rw [gx_bs, gx_bs, e, H.2.1]
  by_cases h : L ≤ k
  · rw [if_pos (by rw [nI_leN (by omega) hk]; exact h), if_pos h, n1, nm1]
  · rw [if_neg (by rw [nI_leN (by omega) hk]; exact h), if_neg h, gx_bs, mK_a8 (by omega), gx_bs, H.2.2 k (by omega), bR_and _ (H.1.2 k (by omega))]
theorem m_inN {v lo hi : Nat} (h1 : v < 2 ^ 31) (h2 : lo < 2 ^ 31) (h3 : hi < 2 ^ 31) : gFX10_in (nI v) (nI lo) (nI hi) S = some (bI (decide (lo ≤ v) && decide (v ≤ hi))) := by
  unfold gFX10_in
  by_cases a : v < lo
  · rw [if_pos (by rw [nI_ltN h1 h2]; exact a), decide_eq_false (show ¬ lo ≤ v by omega)]
    rfl
  · rw [if_neg (by rw [nI_ltN h1 h2]; exact a), decide_eq_true (show lo ≤ v by omega)]
    by_cases c : hi < v
    · rw [if_pos (by rw [nI_ltN h3 h1]; exact c), decide_eq_false (show ¬ v ≤ hi by omega)]
      rfl
    · rw [if_neg (by rw [nI_ltN h3 h1]; exact c), decide_eq_true (show v ≤ hi by omega)]
      rfl
theorem m_inM {lo hi : Nat} (h2 : lo < 2 ^ 31) : gFX10_in m1 (nI lo) (nI hi) S = some (bI false) := by
  unfold gFX10_in
  rw [if_pos]
  · rfl
  · have e := m1_toInt
    have : (m1 < nI lo) ↔ m1.toInt < (nI lo).toInt := Int32.lt_iff_toInt_lt
    rw [this, e, nI_toInt h2]
    omega
theorem bI_01 {b : Bool} : (if bI b = 0 ∨ bI b = 1 then some (bI b) else none : Option Int32) = some (bI b) := by
  cases b
  · rw [if_pos (Or.inl (by rw [n0]; rfl))]
  · rw [if_pos (Or.inr (by rw [n1]; rfl))]
theorem m_small {k : Nat} (H : rTx S L b) (e : S.1 11 = nI k) (hk : k < 2 ^ 31) : gFX10_isSmall S = some (bI (if L ≤ k then false else let' (b k))) := by
  unfold gFX10_isSmall
  rw [m_see H e hk, gx_bs, n97, n122]
  by_cases h : L ≤ k
  · rw [if_pos h, if_pos h, m_inM (by omega), gx_bs, bI_01]
  · have hb := H.1.2 k (by omega)
    rw [if_neg h, if_neg h, m_inN (by omega) (by omega) (by omega), gx_bs, bI_01]
    rfl
theorem m_digit {k : Nat} (H : rTx S L b) (e : S.1 11 = nI k) (hk : k < 2 ^ 31) : gFX10_isDigit S = some (bI (if L ≤ k then false else dig (b k))) := by
  unfold gFX10_isDigit
  rw [m_see H e hk, gx_bs, n48, n57]
  by_cases h : L ≤ k
  · rw [if_pos h, if_pos h, m_inM (by omega), gx_bs, bI_01]
  · have hb := H.1.2 k (by omega)
    rw [if_neg h, if_neg h, m_inN (by omega) (by omega) (by omega), gx_bs, bI_01]
    rfl
theorem m_goesOn {i : Nat} (H : rTx S L b) (hi : i ≤ L) (e11 : S.1 11 = nI i) : ∃ S', gFX10_goesOn S = some S' ∧ rTk S S' (lexAt b L i) := by
  have hL := H.1.1
  obtain ⟨s1, s2, s3, s4⟩ := runP_spec (P := wsp) (b := b) (L - i) i
  have HU : ∀ V : MS, V.2 = S.2 → (∀ q, ¬ (11 ≤ q ∧ q ≤ 14) → V.1 q = S.1 q) → rTx V L b := fun V v1 v2 => ⟨H.1, by rw [v2 10 (by omega)]; exact H.2.1, by rw [v1]; exact H.2.2⟩
  -- after the letters: the digits, when it is a number
  have noNum : ∀ V : MS, V.1 13 ≠ nI 2 → itr (fun s : MS => gLX10_goesOn_140 s) V = some V := by
    intro V hV
    refine itr_exL ?_
    unfold gLX10_goesOn_140
    rw [gx_bs, n2, if_neg hV]
  have noWord : ∀ V : MS, V.1 13 ≠ nI 1 → itr (fun s : MS => gLX10_goesOn_112 s) V = itr (fun s : MS => gLX10_goesOn_140 s) V := by
    intro V hV
    refine itr_exL ?_
    unfold gLX10_goesOn_112
    rw [gx_bs, n1, if_neg hV]
  have tail : ∀ U : MS, U.2 = S.2 → (∀ q, ¬ (11 ≤ q ∧ q ≤ 14) → U.1 q = S.1 q) → U.1 11 = nI (runP wsp b (L - i) i) → ∃ S', ((some (U.1 11)).bind fun x34 => (some (gpi U 12 x34)).bind fun h35 => (gFX10_see h35).bind fun x37 => if x37 = (-1 : Int32) then gBX10_goesOn_82 (0 : Int32) h35 else (gFX10_isSmall h35).bind fun x39 => if x39 = 0 then (gFX10_isDigit h35).bind fun x41 => if x41 = 0 then (gFX10_see h35).bind fun x43 => (gFX10_signOf x43 h35).bind fun x45 => gBX10_goesOn_82 x45 h35 else gBX10_goesOn_82 (2 : Int32) h35 else gBX10_goesOn_82 (1 : Int32) h35) = some S' ∧ rTk S S' (lexAt b L i) := by
    intro U u1 u2 u3
    unfold lexAt
    generalize runP wsp b (L - i) i = s at s1 s2 s3 s4 u3
    rw [gx_bs, gx_bs, u3]
    have H3 := HU (gpi U 12 (nI s)) (by rw [gpi_2, u1]) (fun q hq => by rw [gpi_1, upd_o (by omega), u2 q hq])
    have e3 : (gpi U 12 (nI s)).1 11 = nI s := by rw [gpi_1, upd_o (by decide), u3]
    rw [m_see H3 e3 (by omega), gx_bs, m_small H3 e3 (by omega), m_digit H3 e3 (by omega)]
    -- one token kind from its beginning
    have b82 : ∀ k : Nat, k ≤ 6 → gBX10_goesOn_82 (nI k) (gpi U 12 (nI s)) = itr (fun s : MS => gLX10_goesOn_112 s) (gpi (gpi (gpi (gpi U 12 (nI s)) 13 (nI k)) 14 (nI 0)) 11 (nI (s + if k < 3 then 0 else 1))) := by
      intro k hk
      unfold gBX10_goesOn_82 gBX10_goesOn_108
      rw [n0, n1, n3]
      have e11 : (gpi (gpi (gpi U 12 (nI s)) 13 (nI k)) 14 (nI 0)).1 11 = nI s := by rw [gpi_1, gpi_1, gpi_1, upd_o (by decide), upd_o (by decide), upd_o (by decide), u3]
      have e13 : (gpi (gpi (gpi U 12 (nI s)) 13 (nI k)) 14 (nI 0)).1 13 = nI k := by rw [gpi_1, gpi_1, upd_o (by decide), upd_s]
      rw [gx_bs, gx_bs, gx_bs, gx_bs, e11, e13, gx_bs, gx_bs]
      by_cases hk3 : k < 3
      · rw [if_pos (by rw [nI_ltN (by omega) (by omega)]; exact hk3), if_pos hk3, nI_add]
      · rw [if_neg (by rw [nI_ltN (by omega) (by omega)]; exact hk3), if_neg hk3, nI_add]
    have base : ∀ k m : Nat, (gpi (gpi (gpi (gpi U 12 (nI s)) 13 (nI k)) 14 (nI 0)) 11 (nI m)).2 = S.2 ∧ (∀ q, ¬ (11 ≤ q ∧ q ≤ 14) → (gpi (gpi (gpi (gpi U 12 (nI s)) 13 (nI k)) 14 (nI 0)) 11 (nI m)).1 q = S.1 q) ∧ (gpi (gpi (gpi (gpi U 12 (nI s)) 13 (nI k)) 14 (nI 0)) 11 (nI m)).1 13 = nI k ∧ (gpi (gpi (gpi (gpi U 12 (nI s)) 13 (nI k)) 14 (nI 0)) 11 (nI m)).1 12 = nI s ∧ (gpi (gpi (gpi (gpi U 12 (nI s)) 13 (nI k)) 14 (nI 0)) 11 (nI m)).1 11 = nI m ∧ (gpi (gpi (gpi (gpi U 12 (nI s)) 13 (nI k)) 14 (nI 0)) 11 (nI m)).1 14 = nI 0 := by
      intro k m
      simp only [gpi_1, gpi_2]
      refine ⟨u1, fun q hq => ?_, ?_, ?_, upd_s, ?_⟩
      · rw [upd_o (by omega), upd_o (by omega), upd_o (by omega), upd_o (by omega), u2 q hq]
      · rw [upd_o (by decide), upd_o (by decide), upd_s]
      · rw [upd_o (by decide), upd_o (by decide), upd_o (by decide), upd_s]
      · rw [upd_o (by decide), upd_s]
    by_cases h0 : L ≤ s
    · rw [if_pos h0, if_pos (by rw [n1, nm1]), if_pos h0, n0, b82 0 (by omega)]
      obtain ⟨b1, b2, b3, b4, b5, b6⟩ := base 0 (s + if 0 < 3 then 0 else 1)
      rw [noWord _ (by rw [b3, Ne, nI_eqN (by omega) (by omega)]; omega), noNum _ (by rw [b3, Ne, nI_eqN (by omega) (by omega)]; omega)]
      exact ⟨_, rfl, b1, b2, b3, b4, by rw [b5]; rfl, fun z => by cases z⟩
    · have hb := H.1.2 s (by omega)
      rw [if_neg h0, if_neg (by rw [n1, nm1, nI_ne_m1 (by omega)]; exact id), if_neg h0, if_neg h0, if_neg h0, gx_bs]
      by_cases h1 : let' (b s) = true
      · obtain ⟨t1, t2, t3, t4⟩ := runP_spec (P := let') (b := b) (L - s) s
        rw [h1, if_neg (by rw [bF]; decide), if_pos rfl, n1, b82 1 (by omega)]
        obtain ⟨b1, b2, b3, b4, b5, b6⟩ := base 1 (s + if 1 < 3 then 0 else 1)
        generalize gpi (gpi (gpi (gpi U 12 (nI s)) 13 (nI 1)) 14 (nI 0)) 11 (nI (s + if 1 < 3 then 0 else 1)) = V0 at b1 b2 b3 b4 b5 b6
        have b5 : V0.1 11 = nI s := b5
        refine itr_run (runP let' b (L - s) s - s) (fun j V => V.2 = S.2 ∧ (∀ q, ¬ (11 ≤ q ∧ q ≤ 14) → V.1 q = S.1 q) ∧ V.1 13 = nI 1 ∧ V.1 12 = nI s ∧ V.1 11 = nI (s + j)) ⟨b1, b2, b3, b4, by rw [b5]; rfl⟩ ?_ ?_
        · rintro j V hj ⟨v1, v2, v3, v4, v5⟩
          left
          have hc := t3 (s + j) (by omega) (by omega)
          unfold gLX10_goesOn_112
          rw [gx_bs, n1, if_pos v3, m_small (HU V v1 v2) v5 (by omega), gx_bs, if_neg (show ¬ L ≤ s + j by omega), hc, if_neg (by rw [bF]; decide), gx_bs, gx_bs, v5, nI_add]
          exact ⟨_, rfl, by rw [gpi_2, v1], fun q hq => by rw [gpi_1, upd_o (by omega), v2 q hq], by rw [gpi_1, upd_o (by decide), v3], by rw [gpi_1, upd_o (by decide), v4], by rw [gpi_1, upd_s]; rfl⟩
        · rintro V ⟨v1, v2, v3, v4, v5⟩
          rw [show s + (runP let' b (L - s) s - s) = runP let' b (L - s) s by omega] at v5
          have hs : (if L ≤ runP let' b (L - s) s then false else let' (b (runP let' b (L - s) s))) = false := by
            by_cases he : L ≤ runP let' b (L - s) s
            · rw [if_pos he]
            · rw [if_neg he]; exact t4 (by omega)
          unfold gLX10_goesOn_112
          rw [gx_bs, n1, if_pos v3, m_small (HU V v1 v2) v5 (by omega), gx_bs, hs, if_pos (by rw [bF]), noNum V (by rw [v3, Ne, nI_eqN (by omega) (by omega)]; omega)]
          exact ⟨V, rfl, v1, v2, v3, v4, v5, fun z => by cases z⟩
      · have h1' : let' (b s) = false := by simpa using h1
        rw [h1', if_pos (by rw [bF]), if_neg (show ¬ (false = true) by decide), gx_bs]
        by_cases h2 : dig (b s) = true
        · obtain ⟨t1, t2, t3, t4⟩ := runP_spec (P := dig) (b := b) (L - s) s
          rw [h2, if_neg (by rw [bF]; decide), if_pos rfl, n2, b82 2 (by omega)]
          obtain ⟨b1, b2, b3, b4, b5, b6⟩ := base 2 (s + if 2 < 3 then 0 else 1)
          generalize gpi (gpi (gpi (gpi U 12 (nI s)) 13 (nI 2)) 14 (nI 0)) 11 (nI (s + if 2 < 3 then 0 else 1)) = V0 at b1 b2 b3 b4 b5 b6
          have b5 : V0.1 11 = nI s := b5
          rw [noWord V0 (by rw [b3, Ne, nI_eqN (by omega) (by omega)]; omega)]
          refine itr_run (runP dig b (L - s) s - s) (fun j V => V.2 = S.2 ∧ (∀ q, ¬ (11 ≤ q ∧ q ≤ 14) → V.1 q = S.1 q) ∧ V.1 13 = nI 2 ∧ V.1 12 = nI s ∧ V.1 11 = nI (s + j) ∧ V.1 14 = nI (numR b s j)) ⟨b1, b2, b3, b4, by rw [b5]; rfl, b6⟩ ?_ ?_
          · rintro j V hj ⟨v1, v2, v3, v4, v5, v6⟩
            left
            have hc := t3 (s + j) (by omega) (by omega)
            have hq := num_q (b := b) (s := s) j fun k hk => t3 (s + k) (by omega) (by omega)
            have hd : 48 ≤ b (s + j) ∧ b (s + j) ≤ 57 := by
              have hc' := hc
              unfold dig at hc'
              simpa using hc'
            have hr : numR b s j ≤ 100099 := by
              unfold numQ at hq
              omega
            unfold gLX10_goesOn_140
            rw [gx_bs, n2, if_pos v3, m_digit (HU V v1 v2) v5 (by omega), gx_bs, if_neg (show ¬ L ≤ s + j by omega), hc, if_neg (by rw [bF]; decide), gx_bs, v6, n10k]
            by_cases hle : numR b s j ≤ 10000
            · rw [if_pos (by rw [nI_leN (by omega) (by omega)]; exact hle), gx_bs, m_see (HU V v1 v2) v5 (by omega), gx_bs, if_neg (show ¬ L ≤ s + j by omega)]
              unfold gBX10_goesOn_188
              rw [n10, n48, nI_mul, nI_add, nI_sub (by omega), gx_bs, gx_bs, gpi_1, upd_o (by decide), v5, n1, nI_add, gx_bs]
              refine ⟨_, rfl, by rw [gpi_2, gpi_2, v1], fun q hq => by rw [gpi_1, gpi_1, upd_o (by omega), upd_o (by omega), v2 q hq], by rw [gpi_1, gpi_1, upd_o (by decide), upd_o (by decide), v3], by rw [gpi_1, gpi_1, upd_o (by decide), upd_o (by decide), v4], by rw [gpi_1, upd_s]; rfl, ?_⟩
              rw [gpi_1, gpi_1, upd_o (by decide), upd_s]
              show _ = nI (if 10000 < numR b s j then numR b s j else 10 * numR b s j + (b (s + j) - 48))
              rw [if_neg (by omega)]
              congr 1
              omega
            · rw [if_neg (by rw [nI_leN (by omega) (by omega)]; exact hle), gx_bs]
              unfold gBX10_goesOn_188
              rw [gx_bs, gx_bs, gpi_1, upd_o (by decide), v5, n1, nI_add, gx_bs]
              refine ⟨_, rfl, by rw [gpi_2, gpi_2, v1], fun q hq => by rw [gpi_1, gpi_1, upd_o (by omega), upd_o (by omega), v2 q hq], by rw [gpi_1, gpi_1, upd_o (by decide), upd_o (by decide), v3], by rw [gpi_1, gpi_1, upd_o (by decide), upd_o (by decide), v4], by rw [gpi_1, upd_s]; rfl, ?_⟩
              rw [gpi_1, gpi_1, upd_o (by decide), upd_s]
              show _ = nI (if 10000 < numR b s j then numR b s j else 10 * numR b s j + (b (s + j) - 48))
              rw [if_pos (by omega)]
          · rintro V ⟨v1, v2, v3, v4, v5, v6⟩
            rw [show s + (runP dig b (L - s) s - s) = runP dig b (L - s) s by omega] at v5
            have hs : (if L ≤ runP dig b (L - s) s then false else dig (b (runP dig b (L - s) s))) = false := by
              by_cases he : L ≤ runP dig b (L - s) s
              · rw [if_pos he]
              · rw [if_neg he]; exact t4 (by omega)
            unfold gLX10_goesOn_140
            rw [gx_bs, n2, if_pos v3, m_digit (HU V v1 v2) v5 (by omega), gx_bs, hs, if_pos (by rw [bF])]
            exact ⟨V, rfl, v1, v2, v3, v4, v5, fun _ => v6⟩
        · have h2' : dig (b s) = false := by simpa using h2
          have sgn : gFX10_signOf (nI (b s)) (gpi U 12 (nI s)) = some (nI (symK (b s))) := by
            unfold gFX10_signOf symK
            rw [n59, n44, n45, n3, n4, n5, n6]
            by_cases c1 : b s = 59
            · rw [if_pos (by rw [c1]), if_pos c1]
            · rw [if_neg (by rw [nI_eqN (by omega) (by omega)]; exact c1), if_neg c1]
              by_cases c2 : b s = 44
              · rw [if_pos (by rw [c2]), if_pos c2]
              · rw [if_neg (by rw [nI_eqN (by omega) (by omega)]; exact c2), if_neg c2]
                by_cases c3 : b s = 45
                · rw [if_pos (by rw [c3]), if_pos c3]
                · rw [if_neg (by rw [nI_eqN (by omega) (by omega)]; exact c3), if_neg c3]
          have hsy : 3 ≤ symK (b s) ∧ symK (b s) ≤ 6 := by
            unfold symK
            split
            · omega
            · split
              · omega
              · split <;> omega
          rw [h2', if_pos (by rw [bF]), if_neg (show ¬ (false = true) by decide), gx_bs, sgn, gx_bs, b82 _ hsy.2]
          obtain ⟨b1, b2, b3, b4, b5, b6⟩ := base (symK (b s)) (s + if symK (b s) < 3 then 0 else 1)
          rw [noWord _ (by rw [b3, Ne, nI_eqN (by omega) (by omega)]; omega), noNum _ (by rw [b3, Ne, nI_eqN (by omega) (by omega)]; omega)]
          refine ⟨_, rfl, b1, b2, b3, b4, ?_, fun z => ?_⟩
          · rw [b5, if_neg (by omega)]
          · have z : symK (b s) = 2 := z
            omega
  unfold gFX10_goesOn
  refine itr_run (runP wsp b (L - i) i - i) (fun j V => V.2 = S.2 ∧ (∀ q, ¬ (11 ≤ q ∧ q ≤ 14) → V.1 q = S.1 q) ∧ V.1 11 = nI (i + j)) ⟨rfl, fun _ _ => rfl, by rw [e11]; rfl⟩ ?_ ?_
  · rintro j V hj ⟨v1, v2, v3⟩
    left
    have hc := s3 (i + j) (by omega) (by omega)
    have hb := H.1.2 (i + j) (by omega)
    unfold gLX10_goesOn_0 gBX10_goesOn_18
    rw [m_see (HU V v1 v2) v3 (by omega), gx_bs, if_neg (show ¬ L ≤ i + j by omega), n32, n10, gx_bs, gx_bs, gx_bs, v3, n1, nI_add]
    refine ⟨gpi V 11 (nI (i + j + 1)), ?_, by rw [gpi_2, v1], fun q hq => by rw [gpi_1, upd_o (by omega), v2 q hq], by rw [gpi_1, upd_s]; rfl⟩
    unfold wsp at hc
    by_cases c1 : b (i + j) = 32
    · rw [if_pos (by rw [c1])]
    · have c2 : b (i + j) = 10 := by simpa [c1] using hc
      rw [if_neg (by rw [nI_eqN (by omega) (by omega)]; exact c1), if_pos (by rw [c2])]
  · rintro V ⟨v1, v2, v3⟩
    rw [show i + (runP wsp b (L - i) i - i) = runP wsp b (L - i) i by omega] at v3
    obtain ⟨S', r1, r2⟩ := tail V v1 v2 v3
    refine ⟨S', ?_, r2⟩
    unfold gLX10_goesOn_0
    rw [m_see (HU V v1 v2) v3 (by omega), gx_bs, n32, gx_bs, n10, r1]
    by_cases he : L ≤ runP wsp b (L - i) i
    · rw [if_pos he, if_neg (by rw [m1_ne_nI (by omega)]; exact id), if_neg (by rw [m1_ne_nI (by omega)]; exact id)]
      rfl
    · have hb := H.1.2 (runP wsp b (L - i) i) (by omega)
      obtain ⟨c1, c2⟩ := wsp_f (s4 (by omega))
      rw [if_neg he, if_neg (by rw [nI_eqN (by omega) (by omega)]; exact c1), if_neg (by rw [nI_eqN (by omega) (by omega)]; exact c2)]
      rfl
end
