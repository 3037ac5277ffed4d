/-! the class's State: heights, lists of monomials and borders -/
def row2 (f g : Nat → Int32) (L : List (Nat × Nat)) : Prop := ∀ k, k < L.length → f k = nI (mx L k) ∧ g k = nI (my L k)
theorem row2.nil {f g : Nat → Int32} : row2 f g [] := fun _ h => absurd h (Nat.not_lt_zero _)
theorem row2.snoc {f g : Nat → Int32} {L : List (Nat × Nat)} (h : row2 f g L) (i j : Nat) : row2 (upd f L.length (nI i)) (upd g L.length (nI j)) (L ++ [(i, j)]) := by
  intro k hk
  rw [List.length_append] at hk
  have hk : k < L.length + 1 := hk
  unfold mx my
  by_cases e : k = L.length
  · subst e
    rw [upd_s, upd_s]
    simp
  · rw [upd_o e, upd_o e]
    have := h k (by omega)
    unfold mx my at this
    rw [this.1, this.2]
    simp only [List.getD_eq_getElem?_getD, List.getElem?_append_left (show k < L.length by omega)]
    exact ⟨trivial, trivial⟩
def hts (S : MS) (ht : Nat → Nat) : Prop := ∀ k, k < 13 → S.2 1 k = nI (ht k)
theorem s_contains {S : MS} {ht : Nat → Nat} (H : hts S ht) (hb : ∀ k, ht k ≤ 13) {i j : Nat} (hi : i ≤ 12) (hj : j < 1000) : gFX5_contains (nI i) (nI j) S = some (bI (decide (j < ht i))) := by
  unfold gFX5_contains
  have h1 := H i (by omega)
  have h2 := hb i
  simp (disch := omega) only [n0, n12, n1, nI_lt0, nI_ltN, sK_a1, h1, gx_bs, nI_leN]
  rw [if_neg (by simp), if_neg (by omega), if_neg (by simp)]
  by_cases h : j < ht i
  · rw [if_neg (by omega), decide_eq_true h]; rfl
  · rw [if_pos (by omega), decide_eq_false h]; rfl
theorem s_contains_l {S : MS} {j : Int32} : gFX5_contains m1 j S = some (bI false) := by
  unfold gFX5_contains
  rw [n0, if_pos (by rw [m1_neg]; trivial)]
  rfl
theorem s_contains_r {S : MS} {i : Nat} (hi : i ≤ 12) : gFX5_contains (nI i) m1 S = some (bI false) := by
  unfold gFX5_contains
  simp (disch := omega) only [n0, n12, nI_lt0, nI_ltN, m1_neg]
  rw [if_neg (by simp), if_neg (by omega), if_pos trivial]
  rfl
/-- what has been listed of a beginning of all monomials -/
def Lst (S : MS) (ht : Nat → Nat) (L : List (Nat × Nat)) : Prop := S.1 2 = nI (L.filter (inO ht)).length ∧ S.1 5 = nI (L.filter (inB ht)).length ∧ row2 (S.2 2) (S.2 3) (L.filter (inO ht)) ∧ row2 (S.2 4) (S.2 5) (L.filter (inB ht))
/-- a list step touches only the two sizes and four rows -/
def sameS (S T : MS) : Prop := T.1 0 = S.1 0 ∧ T.1 9 = S.1 9 ∧ (∀ b, b = 1 ∨ b = 6 ∨ b = 7 ∨ b = 8 → T.2 b = S.2 b)
theorem sameS.rf (S : MS) : sameS S S := ⟨rfl, rfl, fun _ _ => rfl⟩
theorem sameS.trans {S T U : MS} (h1 : sameS S T) (h2 : sameS T U) : sameS S U := ⟨h2.1.trans h1.1, h2.2.1.trans h1.2.1, fun b hb => (h2.2.2 b hb).trans (h1.2.2 b hb)⟩
theorem inB_eq {ht : Nat → Nat} {i j : Nat} : inB ht (i, j) = (!decide (j < ht i) && ((decide (1 ≤ i) && decide (j < ht (i - 1))) || (decide (1 ≤ j) && decide (j - 1 < ht i)))) := rfl
theorem s_listMonomial {S : MS} {ht : Nat → Nat} (H : hts S ht) (hb : ∀ k, ht k ≤ 13) {i j : Nat} (hi : i ≤ 12) (hj : j ≤ 12) {L : List (Nat × Nat)} (hL : Lst S ht L) (h12 : ((L ++ [(i, j)]).filter (inO ht)).length ≤ 12) (h13 : ((L ++ [(i, j)]).filter (inB ht)).length ≤ 13) :
    ∃ T, gFX5_listMonomial (nI i) (nI j) S = some T ∧ sameS S T ∧ Lst T ht (L ++ [(i, j)]) := by
  obtain ⟨l1, l2, l3, l4⟩ := hL
  rw [List.filter_append] at h12 h13
  have B73 : inO ht (i, j) = false → inB ht (i, j) = true → ∃ T, gBX5_listMonomial_73 (nI i) (nI j) S = some T ∧ sameS S T ∧ Lst T ht (L ++ [(i, j)]) := by
    intro z1 z2
    have e1 : [(i, j)].filter (inO ht) = [] := by simp [z1]
    have e2 : [(i, j)].filter (inB ht) = [(i, j)] := by simp [z2]
    rw [e2, List.length_append] at h13
    have h13 : (L.filter (inB ht)).length + 1 ≤ 13 := h13
    unfold gBX5_listMonomial_73
    simp (disch := omega) only [gx_bs, n13, n1, l2, nI_leN, nI_add, sK_s4, sK_s5]
    rw [if_neg (by omega)]
    refine ⟨_, rfl, ⟨?_, ?_, ?_⟩, ?_, ?_, ?_, ?_⟩
    · simp (disch := decide) only [gpi_1, upd_o]
    · simp (disch := decide) only [gpi_1, upd_o]
    · intro b hb
      rcases hb with rfl | rfl | rfl | rfl <;> simp (disch := decide) only [gpi_2, setA_o]
    · rw [List.filter_append, e1, List.append_nil]
      simp (disch := decide) only [gpi_1, upd_o]
      exact l1
    · rw [List.filter_append, e2, List.length_append, gpi_1, upd_s]
      rfl
    · rw [List.filter_append, e1, List.append_nil]
      simp (disch := decide) only [gpi_2, setA_o]
      exact l3
    · rw [List.filter_append, e2]
      simp (disch := decide) only [gpi_2, setA_s, setA_o]
      exact l4.snoc i j
  have N0 : inO ht (i, j) = false → inB ht (i, j) = false → Lst S ht (L ++ [(i, j)]) := by
    intro z1 z2
    have e1 : [(i, j)].filter (inO ht) = [] := by simp [z1]
    have e2 : [(i, j)].filter (inB ht) = [] := by simp [z2]
    unfold Lst
    rw [List.filter_append, List.filter_append, e1, e2, List.append_nil, List.append_nil]
    exact ⟨l1, l2, l3, l4⟩
  have zO : inO ht (i, j) = decide (j < ht i) := rfl
  have c1 : gFX5_contains (nI i - (1 : Int32)) (nI j) S = some (bI (decide (1 ≤ i) && decide (j < ht (i - 1)))) := by
    by_cases h : i = 0
    · subst h
      rw [n1, nI_0m1, s_contains_l]
      rfl
    · rw [n1, nI_sub (by omega), s_contains H hb (by omega) (by omega), decide_eq_true (show 1 ≤ i by omega), Bool.true_and]
  have c2 : gFX5_contains (nI i) (nI j - (1 : Int32)) S = some (bI (decide (1 ≤ j) && decide (j - 1 < ht i))) := by
    by_cases h : j = 0
    · subst h
      rw [n1, nI_0m1, s_contains_r hi]
      rfl
    · rw [n1, nI_sub (by omega), s_contains H hb hi (by omega), decide_eq_true (show 1 ≤ j by omega), Bool.true_and]
  unfold gFX5_listMonomial
  rw [s_contains H hb hi (by omega), gx_bs, n0]
  cases hO : decide (j < ht i) with
  | false =>
    rw [if_pos bI_f, c1, gx_bs]
    cases h1 : (decide (1 ≤ i) && decide (j < ht (i - 1))) with
    | true =>
      rw [if_neg (by rw [bI_0]; decide)]
      exact B73 (by rw [zO, hO]) (by rw [inB_eq, hO, h1]; rfl)
    | false =>
      rw [if_pos bI_f, c2, gx_bs]
      cases h2 : (decide (1 ≤ j) && decide (j - 1 < ht i)) with
      | true =>
        rw [if_neg (by rw [bI_0]; decide)]
        exact B73 (by rw [zO, hO]) (by rw [inB_eq, hO, h1, h2]; rfl)
      | false =>
        rw [if_pos bI_f]
        exact ⟨S, rfl, sameS.rf S, N0 (by rw [zO, hO]) (by rw [inB_eq, hO, h1, h2]; rfl)⟩
  | true =>
    rw [if_neg (by rw [bI_0]; decide)]
    have e1 : [(i, j)].filter (inO ht) = [(i, j)] := by simp [zO, hO]
    have e2 : [(i, j)].filter (inB ht) = [] := by simp [inB_eq, hO]
    rw [e1, List.length_append] at h12
    have h12 : (L.filter (inO ht)).length + 1 ≤ 12 := h12
    simp (disch := omega) only [gx_bs, n12, n1, l1, nI_leN, nI_add, sK_s2, sK_s3]
    rw [if_neg (by omega)]
    refine ⟨_, rfl, ⟨?_, ?_, ?_⟩, ?_, ?_, ?_, ?_⟩
    · simp (disch := decide) only [gpi_1, upd_o]
    · simp (disch := decide) only [gpi_1, upd_o]
    · intro b hb
      rcases hb with rfl | rfl | rfl | rfl <;> simp (disch := decide) only [gpi_2, setA_o]
    · rw [List.filter_append, e1, List.length_append, gpi_1, upd_s]
      rfl
    · rw [List.filter_append, e2, List.append_nil]
      simp (disch := decide) only [gpi_1, upd_o]
      exact l2
    · rw [List.filter_append, e1]
      simp (disch := decide) only [gpi_2, setA_s, setA_o]
      exact l3.snoc i j
    · rw [List.filter_append, e2, List.append_nil]
      simp (disch := decide) only [gpi_2, setA_o]
      exact l4
/-- the monomials of degrees below d, and j of degree d -/
def preM (d j : Nat) : List (Nat × Nat) := ((List.range d).flatMap fun d => (List.range (d + 1)).map fun j => (d - j, j)) ++ (List.range j).map fun j => (d - j, j)
theorem preM_0 : preM 0 0 = [] := rfl
theorem preM_j {d j : Nat} : preM d (j + 1) = preM d j ++ [(d - j, j)] := by
  unfold preM
  rw [List.range_succ (n := j), List.map_append, List.append_assoc]
  rfl
theorem preM_d {d : Nat} : preM (d + 1) 0 = preM d (d + 1) := by
  unfold preM
  rw [List.range_succ (n := d), List.flatMap_append]
  simp
  rw [List.range_succ]
  simp
theorem preM_m : preM 13 0 = mons := by
  unfold preM mons
  simp
theorem preM_sub {d j : Nat} (hd : d ≤ 12) (hj : j ≤ d + 1) : ∃ R, mons = preM d j ++ R := by
  have k1 : ∀ n, ∀ d j, j + n = d + 1 → ∃ R, preM (d + 1) 0 = preM d j ++ R := by
    intro n
    induction n with
    | zero => intro d j h; obtain rfl : j = d + 1 := by omega
              exact ⟨[], by rw [preM_d, List.append_nil]⟩
    | succ n ih =>
      intro d j h
      obtain ⟨R, hR⟩ := ih d (j + 1) (by omega)
      exact ⟨[(d - j, j)] ++ R, by rw [hR, preM_j, List.append_assoc]⟩
  have k2 : ∀ n, ∀ d, d + n = 13 → ∃ R, mons = preM d 0 ++ R := by
    intro n
    induction n with
    | zero => intro d h; obtain rfl : d = 13 := by omega
              exact ⟨[], by rw [preM_m, List.append_nil]⟩
    | succ n ih =>
      intro d h
      obtain ⟨R, hR⟩ := ih (d + 1) (by omega)
      obtain ⟨R2, h2⟩ := k1 (d + 1) d 0 (by omega)
      exact ⟨R2 ++ R, by rw [hR, h2, List.append_assoc]⟩
  obtain ⟨R1, h1⟩ := k1 (d + 1 - j) d j (by omega)
  obtain ⟨R2, h2⟩ := k2 (12 - d) (d + 1) (by omega)
  exact ⟨R1 ++ R2, by rw [h2, h1, List.append_assoc]⟩
theorem preM_len {ht : Nat → Nat} (w : wfh ht) {d j : Nat} (hd : d ≤ 12) (hj : j ≤ d + 1) : ((preM d j).filter (inO ht)).length ≤ 12 ∧ ((preM d j).filter (inB ht)).length ≤ 13 := by
  obtain ⟨R, hR⟩ := preM_sub hd hj
  have l := Lm_len w
  unfold Lm Lb at l
  rw [hR, List.filter_append, List.filter_append, List.length_append, List.length_append] at l
  omega
theorem s_listMonomials {S : MS} {ht : Nat → Nat} (w : wfh ht) (H : hts S ht) : ∃ T, gFX5_listMonomials S = some T ∧ sameS S T ∧ T.1 2 = nI (Lm ht).length ∧ T.1 5 = nI (Lb ht).length ∧ row2 (T.2 2) (T.2 3) (Lm ht) ∧ row2 (T.2 4) (T.2 5) (Lb ht) := by
  have hb : ∀ k, ht k ≤ 13 := by
    intro k
    have := w.deg (i := k)
    omega
  have hS : ∀ {T : MS}, sameS S T → hts T ht := fun h k hk => by rw [h.2.2 1 (Or.inl rfl)]; exact H k hk
  unfold gFX5_listMonomials
  rw [gx_bs, gx_bs]
  have key : ∃ T, itr (fun s : Int32 × MS => gLX5_listMonomials_12 s.1 s.2) ((0 : Int32), gpi (gpi S 2 (0 : Int32)) 5 (0 : Int32)) = some T ∧ (sameS S T ∧ Lst T ht mons) := by
    refine itr_run 13 (fun d s => ∃ T, s = (nI d, T) ∧ sameS S T ∧ Lst T ht (preM d 0)) ?_ ?_ ?_
    · refine ⟨gpi (gpi S 2 (0 : Int32)) 5 (0 : Int32), by rw [n0], ⟨?_, ?_, fun b _ => rfl⟩, ?_, ?_, row2.nil, row2.nil⟩
      · simp (disch := decide) only [gpi_1, upd_o]
      · simp (disch := decide) only [gpi_1, upd_o]
      · simp (disch := decide) only [gpi_1, upd_o, upd_s]; exact n0
      · simp (disch := decide) only [gpi_1, upd_s]; exact n0
    · rintro d s hd ⟨T, rfl, h1, h2⟩
      left
      have inner : ∃ t, itr (fun s : Int32 × MS => gLX5_listMonomials_20 (nI d) s.1 s.2) ((0 : Int32), T) = some t ∧ ∃ U, t = Sum.inl (nI (d + 1), U) ∧ sameS S U ∧ Lst U ht (preM d (d + 1)) := by
        refine itr_run (d + 1) (fun j s => ∃ U, s = (nI j, U) ∧ sameS S U ∧ Lst U ht (preM d j)) ⟨T, by rw [n0], h1, h2⟩ ?_ ?_
        · rintro j s hj ⟨U, rfl, k1, k2⟩
          left
          have l := preM_len w (d := d) (j := j + 1) (by omega) (by omega)
          rw [preM_j] at l
          obtain ⟨V, e1, e2, e3⟩ := s_listMonomial (hS k1) hb (i := d - j) (j := j) (by omega) (by omega) k2 l.1 l.2
          unfold gLX5_listMonomials_20
          simp (disch := omega) only [nI_ltN, nI_sub, n1, nI_add, e1, gx_bs]
          rw [if_neg (by omega)]
          refine ⟨_, rfl, V, rfl, k1.trans e2, ?_⟩
          rw [preM_j]
          exact e3
        · rintro s ⟨U, rfl, k1, k2⟩
          unfold gLX5_listMonomials_20
          simp (disch := omega) only [nI_ltN, n1, nI_add]
          rw [if_pos (by omega)]
          exact ⟨_, rfl, U, rfl, k1, k2⟩
      obtain ⟨t, e1, U, rfl, e2, e3⟩ := inner
      unfold gLX5_listMonomials_12
      simp (disch := omega) only [nI_ltN, n12, e1]
      rw [if_neg (by omega)]
      exact ⟨_, rfl, U, rfl, e2, by rw [preM_d]; exact e3⟩
    · rintro s ⟨T, rfl, h1, h2⟩
      unfold gLX5_listMonomials_12
      simp (disch := omega) only [nI_ltN, n12]
      rw [if_pos (by omega)]
      exact ⟨_, rfl, h1, by rw [preM_m] at h2; exact h2⟩
  obtain ⟨T, e, h1, h2⟩ := key
  exact ⟨T, e, h1, h2.1, h2.2.1, h2.2.2.1, h2.2.2.2⟩
