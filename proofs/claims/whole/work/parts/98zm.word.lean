/-! the words of both sides -/
def wrds : List (List Nat) := [[112, 114, 105, 109, 101], [106, 111, 105, 110], [114, 117, 108, 101], [105, 115], [112, 111, 105, 110, 116]]
def wlen (w : Nat) : Nat := (wrds.getD w []).length
def wch (w k : Nat) : Nat := (wrds.getD w []).getD k 0
def wB (b : Nat → Nat) (s e w : Nat) : Bool := decide (e = s + wlen w) && (List.range (wlen w)).all fun k => decide (b (s + k) = wch w k)
theorem wB_iff {b : Nat → Nat} {s e w : Nat} : wB b s e w = true ↔ e = s + wlen w ∧ ∀ k, k < wlen w → b (s + k) = wch w k := by
  unfold wB
  rw [Bool.and_eq_true, decide_eq_true_iff, List.all_eq_true]
  constructor
  · rintro ⟨h1, h2⟩
    exact ⟨h1, fun k hk => of_decide_eq_true (h2 k (List.mem_range.mpr hk))⟩
  · rintro ⟨h1, h2⟩
    exact ⟨h1, fun k hk => decide_eq_true (h2 k (List.mem_range.mp hk))⟩
theorem wlen_b : ∀ w, w < 5 → 2 ≤ wlen w ∧ wlen w ≤ 5 := by decide +kernel
theorem wch_ne : ∀ w, w < 5 → ∀ w', w' < 5 → w ≠ w' → wlen w ≠ wlen w' ∨ wch w 0 ≠ wch w' 0 ∨ wch w 1 ≠ wch w' 1 := by decide +kernel
theorem wch_b : ∀ w, w < 5 → ∀ k, k < wlen w → wch w k < 128 ∧ wch w k ≠ 32 := by decide +kernel
theorem wB_one {b : Nat → Nat} {s e w w' : Nat} (h : w < 5) (h' : w' < 5) (a : wB b s e w = true) (a' : wB b s e w' = true) : w = w' := by
  obtain ⟨a1, a2⟩ := wB_iff.mp a
  obtain ⟨b1, b2⟩ := wB_iff.mp a'
  refine Classical.byContradiction fun hne => ?_
  have l1 := wlen_b w h
  have l2 := wlen_b w' h'
  have c0 := (a2 0 (by omega)).symm.trans (b2 0 (by omega))
  have c1 := (a2 1 (by omega)).symm.trans (b2 1 (by omega))
  rcases wch_ne w h w' h' hne with z | z | z
  · omega
  · exact z c0
  · exact z c1
def wfind (b : Nat → Nat) (s e : Nat) : Nat → Nat → Nat
  | 0, _ => 5
  | n + 1, w => if wB b s e w then w else wfind b s e n (w + 1)
/-- which word a token is; 5: none -/
def wdF (b : Nat → Nat) (t : Tok) : Nat := if t.1 = 1 then wfind b t.2.1 t.2.2.1 5 0 else 5
theorem wfind_iff {b : Nat → Nat} {s e : Nat} : ∀ n w v, w + n = 5 → v < 5 → w ≤ v → (wfind b s e n w = v ↔ wB b s e v = true)
  | 0, w, v, h, hv, hw => by omega
  | n + 1, w, v, h, hv, hw => by
    unfold wfind
    by_cases c : wB b s e w = true
    · rw [if_pos c]
      constructor
      · intro z; rw [← z]; exact c
      · intro z; exact wB_one (by omega) hv c z
    · rw [if_neg c]
      by_cases ev : v = w
      · rw [ev]
        constructor
        · intro z
          have : ∀ m u, w < u → u + m = 5 → wfind b s e m u ≠ w := by
            intro m
            induction m with
            | zero => intro u hu he z; have z : (5 : Nat) = w := z; omega
            | succ m ih =>
              intro u hu he z
              unfold wfind at z
              split at z
              · omega
              · exact ih (u + 1) (by omega) (by omega) z
          exact absurd z (this n (w + 1) (by omega) (by omega))
        · intro z; exact absurd z c
      · exact wfind_iff n (w + 1) v (by omega) hv (by omega)
theorem wdF_iff {b : Nat → Nat} {t : Tok} {v : Nat} (hv : v < 5) : wdF b t = v ↔ (t.1 = 1 ∧ wB b t.2.1 t.2.2.1 v = true) := by
  unfold wdF
  by_cases h : t.1 = 1
  · rw [if_pos h, wfind_iff 5 0 v (by omega) hv (by omega)]
    exact ⟨fun z => ⟨h, z⟩, fun z => z.2⟩
  · rw [if_neg h]
    exact ⟨fun z => by omega, fun z => absurd z.1 h⟩
def ciw (c : Nat) : Nat := if c = 4 then 0 else c + 1
theorem sl_word : ∀ c, c < 5 → sl_n c = some (nI (wlen (ciw c))) := by decide +kernel
theorem sl_char : ∀ c, c < 5 → ∀ k, k < 5 → k < wlen (ciw c) → sl_c c (nI k) = some (nI (wch (ciw c) k)) := by decide +kernel
theorem cK_1 {k : Nat} : cK k = 1 ↔ k = 1 := by
  unfold cK
  constructor
  · intro h
    split at h
    · omega
    · split at h
      · omega
      · split at h
        · omega
        · split at h
          · omega
          · exact h
  · rintro rfl; rfl
theorem cK_lt {k : Nat} (h : k ≤ 6) : cK k ≤ 59 := by
  unfold cK
  split
  · omega
  · split
    · omega
    · split
      · omega
      · split <;> omega
section
variable {T S : MS} {L : Nat} {b : Nat → Nat} {t : Tok}
/-- where a token lies -/
def tkOK (L : Nat) (t : Tok) : Prop := t.2.1 ≤ t.2.2.1 ∧ t.2.2.1 ≤ L ∧ t.1 ≤ 6 ∧ (t.1 ≠ 0 → t.2.1 < t.2.2.1) ∧ (t.1 = 2 → numQ t.2.2.2.1 t.2.2.2.2)
theorem lex_tk {i : Nat} (h : i ≤ L) : tkOK L (lexAt b L i) := by
  obtain ⟨a1, a2, a3, a4, a5, a6⟩ := lex_ok (b := b) h
  exact ⟨a2, a3, a5, a4, a6⟩
/-- the present token, on either side -/
def cNow (T : MS) (t : Tok) : Prop := T.1 2 = nI (cK t.1) ∧ T.1 3 = nI t.2.1 ∧ T.1 4 = nI t.2.2.1 ∧ (t.1 = 2 → T.1 5 = nI t.2.2.2.1)
def rNow (S : MS) (t : Tok) : Prop := S.1 13 = nI t.1 ∧ S.1 12 = nI t.2.1 ∧ S.1 11 = nI t.2.2.1 ∧ (t.1 = 2 → S.1 14 = nI t.2.2.2.2)
theorem cTk.now {T' : MS} (h : cTk T T' t) : cNow T' t := h.2.2
theorem rTk.now {S' : MS} (h : rTk S S' t) : rNow S' t := h.2.2
theorem c_isWord (H : cTx T L b) (hT : cNow T t) (ok : tkOK L t) {c : Nat} (hc : c < 5) : gFX7_isWord c T = some (bI (decide (wdF b t = ciw c))) := by
  have hL := H.1.1
  have hw5 : ciw c < 5 := by unfold ciw; split <;> omega
  have wl := wlen_b (ciw c) hw5
  obtain ⟨k1, k2, k3, k4, k5⟩ := ok
  have ck := cK_lt k3
  unfold gFX7_isWord
  rw [gx_bs, hT.1, n1, n0]
  by_cases h1 : t.1 = 1
  · rw [if_pos (by rw [h1]; rfl), gx_bs, gx_bs, hT.2.1, hT.2.2.1, nI_sub k1, sl_word c hc, gx_bs]
    by_cases hl : t.2.2.1 - t.2.1 = wlen (ciw c)
    · rw [if_pos (by rw [hl])]
      refine itr_val (wlen (ciw c)) (fun k s => s = nI k ∧ ∀ j, j < k → b (t.2.1 + j) = wch (ciw c) j) ⟨rfl, fun j hj => by omega⟩ ?_ ?_
      · rintro k s hk ⟨rfl, e⟩
        have hb := H.1.2 (t.2.1 + k) (by omega)
        have hch := wch_b (ciw c) hw5 k hk
        unfold gLX7_isWord_28
        rw [sl_word c hc, gx_bs, if_neg (by rw [nI_leN (by omega) (by omega)]; omega), gx_bs, hT.2.1, nI_add, c_byte H (by omega), gx_bs, sl_char c hc k (by omega) hk, gx_bs]
        by_cases hx : b (t.2.1 + k) = wch (ciw c) k
        · left
          rw [if_pos (by rw [hx]), n1, nI_add]
          refine ⟨_, rfl, rfl, fun j hj => ?_⟩
          by_cases ej : j = k
          · rw [ej]; exact hx
          · exact e j (by omega)
        · right
          rw [if_neg (by rw [nI_eqN (by omega) (by omega)]; exact hx), decide_eq_false fun z => hx ((wB_iff.mp ((wdF_iff hw5).mp z).2).2 k hk), n0]
          rfl
      · rintro s ⟨rfl, e⟩
        unfold gLX7_isWord_28
        rw [sl_word c hc, gx_bs, if_pos (by rw [nI_leN (by omega) (by omega)]; omega), decide_eq_true ((wdF_iff hw5).mpr ⟨h1, wB_iff.mpr ⟨by omega, e⟩⟩), n1]
        rfl
    · rw [if_neg (by rw [nI_eqN (by omega) (by omega)]; exact hl), decide_eq_false fun z => hl (by have := (wB_iff.mp ((wdF_iff hw5).mp z).2).1; omega)]
      rfl
  · rw [if_neg (by rw [nI_eqN (by omega) (by omega), cK_1]; exact h1), decide_eq_false fun z => h1 ((wdF_iff hw5).mp z).1]
    rfl
def wds : List Nat := [112, 114, 105, 109, 101, 32, 106, 111, 105, 110, 32, 114, 117, 108, 101, 32, 105, 115, 32, 112, 111, 105, 110, 116, 32]
def WD (S : MS) : Prop := ∀ j, j < 25 → S.2 9 j = nI (wds.getD j 0)
def woff (w : Nat) : Nat := if w = 0 then 0 else if w = 1 then 6 else if w = 2 then 11 else if w = 3 then 16 else if w = 4 then 19 else 25
theorem wds_ch : ∀ w, w < 5 → (∀ k, k < 5 → k < wlen w → wds.getD (woff w + k) 0 = wch w k) ∧ wds.getD (woff w + wlen w) 0 = 32 ∧ woff w + wlen w + 1 = woff (w + 1) ∧ woff w + wlen w < 25 := by decide +kernel
theorem m_word (H : rTx S L b) (W : WD S) (hT : rNow S t) (ok : tkOK L t) : gFX10_wordHere S = some (if wdF b t < 5 then nI (wdF b t) else m1) := by
  have hL := H.1.1
  obtain ⟨k1, k2, k3, k4, k5⟩ := ok
  unfold gFX10_wordHere
  rw [n0]
  by_cases h1 : t.1 = 1
  · -- one word after the other
    have word : ∀ w, w < 5 → itr (fun s : Int32 × Int32 => gLX10_wordHere_22 (nI (woff w)) (nI w) s.1 s.2 S) (nI 0, nI 1) = some (if wB b t.2.1 t.2.2.1 w then .inr (nI w) else .inl (nI (woff (w + 1)), nI (w + 1))) := by
      intro w hw
      have wl := wlen_b w hw
      obtain ⟨c1, c2, c3, c4⟩ := wds_ch w hw
      refine itr_val (wlen w) (fun k s => ∃ z : Bool, s = (nI k, bI z) ∧ (z = true ↔ ∀ j, j < k → t.2.1 + j < t.2.2.1 ∧ b (t.2.1 + j) = wch w j)) ⟨true, rfl, ⟨fun _ j hj => by omega, fun _ => rfl⟩⟩ ?_ ?_
      · rintro k s hk ⟨z, rfl, hz⟩
        left
        have hch := wch_b w hw k hk
        have ew : gal mK S 9 (nI (woff w) + nI k) = some (nI (wch w k)) := by rw [nI_add, mK_a9 (by omega), W _ (by omega), c1 k (by omega) hk]
        have nxt : ∀ z' : Bool, (z' = true ↔ ∀ j, j < k + 1 → t.2.1 + j < t.2.2.1 ∧ b (t.2.1 + j) = wch w j) → ∃ s', gBX10_wordHere_80 (nI (woff w)) (nI w) (nI k) (bI z') S = some (.inl s') ∧ ∃ z : Bool, s' = (nI (k + 1), bI z) ∧ (z = true ↔ ∀ j, j < k + 1 → t.2.1 + j < t.2.2.1 ∧ b (t.2.1 + j) = wch w j) := by
          intro z' hz'
          unfold gBX10_wordHere_80
          rw [n1, nI_add]
          exact ⟨_, rfl, z', rfl, hz'⟩
        unfold gLX10_wordHere_22 gBX10_wordHere_79
        dsimp only
        rw [ew, gx_bs, n32, if_neg (by rw [nI_eqN (by omega) (by omega)]; exact hch.2), n0]
        cases z with
        | false =>
          rw [if_pos bI_f]
          refine nxt false ⟨fun q => by (cases q), fun q => ?_⟩
          exact hz.mpr fun j hj => q j (by omega)
        | true =>
          have hz2 := hz.mp rfl
          rw [if_neg (by rw [bI_0]; decide), gx_bs, gx_bs, hT.2.1, hT.2.2.1, nI_add]
          by_cases hlt : t.2.2.1 ≤ t.2.1 + k
          · rw [if_pos (by rw [nI_leN (by omega) (by omega)]; exact hlt)]
            refine nxt false ⟨fun q => by (cases q), fun q => ?_⟩
            have := (q k (by omega)).1
            omega
          · have hb := H.1.2 (t.2.1 + k) (by omega)
            rw [if_neg (by rw [nI_leN (by omega) (by omega)]; exact hlt), gx_bs, nI_add, mK_a8 (by omega), gx_bs, H.2.2 _ (by omega), gx_bs]
            by_cases hx : b (t.2.1 + k) = wch w k
            · rw [if_pos ((bR_eq _ hb _ hch.1).mpr hx), n1]
              refine nxt true ⟨fun _ j hj => ?_, fun _ => rfl⟩
              by_cases ej : j = k
              · rw [ej]; exact ⟨by omega, hx⟩
              · exact hz2 j (by omega)
            · rw [if_neg (fun q => hx ((bR_eq _ hb _ hch.1).mp q))]
              refine nxt false ⟨fun q => by (cases q), fun q => ?_⟩
              exact absurd (q k (by omega)).2 hx
      · rintro s ⟨z, rfl, hz⟩
        have ew : gal mK S 9 (nI (woff w) + nI (wlen w)) = some (nI 32) := by rw [nI_add, mK_a9 (by omega), W _ (by omega), c2]
        have nx : gBX10_wordHere_108 (nI (woff w)) (nI w) (nI (wlen w)) S = some (.inl (nI (woff (w + 1)), nI (w + 1))) := by
          unfold gBX10_wordHere_108
          rw [n1, nI_add, nI_add, nI_add, show woff w + (wlen w + 1) = woff (w + 1) by omega]
        unfold gLX10_wordHere_22
        dsimp only
        rw [ew, gx_bs, n32, if_pos rfl, nx, n0]
        cases z with
        | false =>
          rw [if_pos bI_f]
          have hn : ¬ wB b t.2.1 t.2.2.1 w = true := fun q => by
            obtain ⟨q1, q2⟩ := wB_iff.mp q
            have := hz.mpr fun j hj => ⟨by omega, q2 j hj⟩
            cases this
          rw [if_neg hn]
          rfl
        | true =>
          have hz2 := hz.mp rfl
          rw [if_neg (by rw [bI_0]; decide), gx_bs, gx_bs, hT.2.1, hT.2.2.1, nI_sub k1]
          by_cases hl : t.2.2.1 - t.2.1 = wlen w
          · rw [if_pos (by rw [hl]), if_pos (wB_iff.mpr ⟨by omega, fun j hj => (hz2 j hj).2⟩)]
            rfl
          · rw [if_neg (by rw [nI_eqN (by omega) (by omega)]; exact hl), if_neg (fun q => hl (by have := (wB_iff.mp q).1; omega))]
            rfl
    have all : ∀ n w, w + n = 5 → itr (fun s : Int32 × Int32 => gLX10_wordHere_4 s.1 s.2 S) (nI (woff w), nI w) = some (if wfind b t.2.1 t.2.2.1 n w < 5 then nI (wfind b t.2.1 t.2.2.1 n w) else m1) := by
      intro n
      induction n with
      | zero =>
        intro w hw
        obtain rfl : w = 5 := by omega
        refine itr_exL ?_
        unfold gLX10_wordHere_4
        dsimp only
        rw [gx_bs, hT.1, h1, n1, if_pos rfl, n5, if_pos (by rw [nI_leN (by omega) (by omega)]; omega), nm1]
        rfl
      | succ n ih =>
        intro w hw
        have hw5 : w < 5 := by omega
        have ex := word w hw5
        unfold wfind
        by_cases c : wB b t.2.1 t.2.2.1 w = true
        · rw [if_pos c] at ex
          rw [if_pos c, if_pos hw5]
          refine itr_inr ?_
          unfold gLX10_wordHere_4
          dsimp only
          rw [gx_bs, hT.1, h1, n1, if_pos rfl, n5, if_neg (by rw [nI_leN (by omega) (by omega)]; omega), n0, ex]
        · rw [if_neg c] at ex
          rw [if_neg c, ← ih (w + 1) (by omega)]
          refine itr_inl ?_
          unfold gLX10_wordHere_4
          dsimp only
          rw [gx_bs, hT.1, h1, n1, if_pos rfl, n5, if_neg (by rw [nI_leN (by omega) (by omega)]; omega), n0, ex]
    have := all 5 0 rfl
    unfold wdF
    rw [if_pos h1]
    exact this
  · unfold wdF
    rw [if_neg h1, if_neg (by omega)]
    refine itr_exL ?_
    unfold gLX10_wordHere_4
    dsimp only
    rw [gx_bs, hT.1, n1, if_neg (by rw [nI_eqN (by omega) (by omega)]; exact h1), nm1]
end
