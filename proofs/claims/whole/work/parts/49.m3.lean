/-! the reference: borders, rules that stay, copies of its row -/
theorem setA_id {S : MS} {j : Nat} : ((S.1, setA S.2 j (S.2 j)) : MS) = S := by
  refine Prod.ext rfl ?_
  funext b
  simp only [setA]
  split
  · next h => rw [h]
  · rfl
def addB (M B : List (Nat × Nat)) (p : Nat × Nat) : List (Nat × Nat) := if p ∈ M ∨ p ∈ B then B else ins p B
theorem small_mem {M : List (Nat × Nat)} (h : ∀ p ∈ M, p.1 < 1000 ∧ p.2 < 1000) : small M := by
  intro k
  unfold mx my
  rw [List.getD_eq_getElem?_getD]
  cases e : M[k]? with
  | none => exact ⟨by decide, by decide⟩
  | some q => exact h q (List.mem_of_getElem? e)
theorem mem_small {M : List (Nat × Nat)} (h : small M) : ∀ p ∈ M, p.1 < 1000 ∧ p.2 < 1000 := by
  intro p hp
  obtain ⟨k, hk⟩ := List.getElem?_of_mem hp
  have := h k
  unfold mx my at this
  rw [List.getD_eq_getElem?_getD, hk] at this
  exact this
theorem mem_ins {p q : Nat × Nat} {L : List (Nat × Nat)} : q ∈ ins p L ↔ q = p ∨ q ∈ L := by
  unfold ins
  generalize posF p L L.length = c
  rw [List.mem_append, List.mem_cons]
  constructor
  · rintro (h | h | h)
    · exact Or.inr (List.mem_of_mem_take h)
    · exact Or.inl h
    · exact Or.inr (List.mem_of_mem_drop h)
  · rintro (h | h)
    · exact Or.inr (Or.inl h)
    · rw [← List.take_append_drop c L, List.mem_append] at h
      rcases h with h | h
      · exact Or.inl h
      · exact Or.inr (Or.inr h)
theorem addB_len {M B : List (Nat × Nat)} {p : Nat × Nat} : (addB M B p).length ≤ B.length + 1 := by
  unfold addB
  split
  · omega
  · rw [ins_len]; exact Nat.le_refl _
theorem small_addB {M B : List (Nat × Nat)} {p : Nat × Nat} (hB : small B) (h1 : p.1 < 1000) (h2 : p.2 < 1000) : small (addB M B p) := by
  unfold addB
  split
  · exact hB
  · refine small_mem fun q hq => ?_
    rcases mem_ins.mp hq with rfl | hq
    · exact ⟨h1, h2⟩
    · exact mem_small hB q hq
theorem g_addsBorder {S : MS} {M B : List (Nat × Nat)} (HM : NowM (S.2 1) M) (HB : NowB (S.2 1) B) (hN : M.length ≤ 12) (hBl : B.length < 14) (hM : small M) (hB : small B) {i j : Nat} (hi : i < 1000) (hj : j < 1000) :
    ∃ g, gFX10_addsBorder (nI i) (nI j) S = some (S.1, setA S.2 1 g) ∧ NowB g (addB M B (i, j)) ∧ ∀ q, q ≠ 2 → ¬ (28 ≤ q ∧ q < 56) → g q = S.2 1 q := by
  unfold gFX10_addsBorder
  rw [g_hasIt HM hN hM (by omega) (by omega)]
  simp only [Option.bind_some, n0, bI_0]
  by_cases h1 : (i, j) ∈ M
  · rw [if_neg (by simp [h1])]
    exact ⟨S.2 1, by rw [setA_id], by unfold addB; rw [if_pos (Or.inl h1)]; exact HB, fun q _ _ => rfl⟩
  · rw [if_pos (by simp [h1]), g_borIx HB (by omega) hB (by omega) (by omega)]
    simp (disch := omega) only [Option.bind_some, n1, nm1, ixI_m1, n2, mK_a1, HB.1]
    by_cases h2 : (i, j) ∈ B
    · rw [if_neg (by simp [h2])]
      exact ⟨S.2 1, by rw [setA_id], by unfold addB; rw [if_pos (Or.inr h2)]; exact HB, fun q _ _ => rfl⟩
    · rw [if_pos h2]
      obtain ⟨t, e, g, rfl, h3, h4, h5⟩ := border_loop (by omega) hB hi hj HB.2 HB.1
      refine ⟨g, e, ?_, fun q q1 q2 => h5 q q1 (by omega) (by omega)⟩
      unfold addB
      rw [if_neg (by simp [h1, h2])]
      exact ⟨by rw [ins_len]; exact h4, h3⟩
def Bk (M : List (Nat × Nat)) : Nat → List (Nat × Nat)
  | 0 => []
  | k + 1 => addB M (addB M (Bk M k) (mx M k + 1, my M k)) (mx M k, my M k + 1)
def laysB (M : List (Nat × Nat)) : List (Nat × Nat) := Bk M M.length
def okB (M : List (Nat × Nat)) : Prop := M.length ≤ 12 ∧ (∀ k, mx M k < 900 ∧ my M k < 900) ∧ ∀ k, k < M.length → (Bk M k).length < 14 ∧ (addB M (Bk M k) (mx M k + 1, my M k)).length < 14
theorem okB.small {M : List (Nat × Nat)} (h : okB M) : small M := fun k => by have := h.2.1 k; omega
theorem Bk_small {M : List (Nat × Nat)} (h : okB M) : ∀ k, small (Bk M k)
  | 0 => fun k => ⟨by simp [Bk, mx], by simp [Bk, my]⟩
  | k + 1 => by
    have := h.2.1 k
    exact small_addB (small_addB (Bk_small h k) (by show mx M k + 1 < 1000; omega) (by show my M k < 1000; omega)) (by show mx M k < 1000; omega) (by show my M k + 1 < 1000; omega)
theorem NowM.fr {g g' : Nat → Int32} {M : List (Nat × Nat)} (H : NowM g M) (hN : M.length ≤ 12) (h : ∀ q, q ≠ 2 → q < 28 → g' q = g q) : NowM g' M := by
  refine ⟨by rw [h 1 (by omega) (by omega)]; exact H.1, fun k hk => ?_⟩
  rw [h (4 + k) (by omega) (by omega), h (16 + k) (by omega) (by omega)]
  exact H.2 k hk
theorem g_laysBorder {S : MS} {M : List (Nat × Nat)} (HM : NowM (S.2 1) M) (ok : okB M) :
    ∃ g, gFX10_laysBorder S = some (S.1, setA S.2 1 g) ∧ NowM g M ∧ NowB g (laysB M) ∧ (∀ k, k < 168 → g (56 + k) = nI 0) ∧ ∀ q, q ≠ 2 → ¬ (28 ≤ q ∧ q < 224) → g q = S.2 1 q := by
  unfold gFX10_laysBorder
  simp (disch := omega) only [n2, mK_s1, Option.bind_some]
  have key : ∃ t, itr (fun s : Int32 × MS => gLX10_laysBorder_9 s.1 s.2) ((0 : Int32), ((S.1, setA S.2 1 (upd (S.2 1) 2 (0 : Int32))) : MS)) = some t ∧ ∃ g, t = ((S.1, setA S.2 1 g) : MS) ∧ NowM g M ∧ NowB g (laysB M) ∧ (∀ k, k < 168 → g (56 + k) = nI 0) ∧ ∀ q, q ≠ 2 → ¬ (28 ≤ q ∧ q < 224) → g q = S.2 1 q := by
    refine itr_run M.length (fun k s => ∃ g, s = (nI k, ((S.1, setA S.2 1 g) : MS)) ∧ NowM g M ∧ NowB g (Bk M k) ∧ ∀ q, q ≠ 2 → ¬ (28 ≤ q ∧ q < 224) → g q = S.2 1 q) ?_ ?_ ?_
    · refine ⟨_, by rw [n0], HM.fr ok.1 (fun q h1 h2 => upd_o h1), ⟨by show upd (S.2 1) 2 (0 : Int32) 2 = _; rw [upd_s]; exact n0, fun k hk => by simp [Bk] at hk⟩, fun q h1 h2 => upd_o h1⟩
    · rintro k s hk ⟨g, rfl, h1, h2, h3⟩
      left
      unfold gLX10_laysBorder_9
      have e0 : (setA S.2 1 g) 1 = g := setA_s
      have hM1 : NowM (((S.1, setA S.2 1 g) : MS).2 1) M := by show NowM ((setA S.2 1 g) 1) M; rw [e0]; exact h1
      have hB1 : NowB (((S.1, setA S.2 1 g) : MS).2 1) (Bk M k) := by show NowB ((setA S.2 1 g) 1) _; rw [e0]; exact h2
      have hb := ok.2.2 k hk
      have hs := ok.2.1 k
      have hr := h1.2 k hk
      obtain ⟨g1, f1, f2, f3⟩ := g_addsBorder hM1 hB1 ok.1 hb.1 ok.small (Bk_small ok k) (i := mx M k + 1) (j := my M k) (by omega) (by omega)
      have f3' : ∀ q, q ≠ 2 → ¬ (28 ≤ q ∧ q < 56) → g1 q = g q := fun q a b => by rw [f3 q a b]; show (setA S.2 1 g) 1 q = _; rw [e0]
      rw [show (((S.1, setA S.2 1 g) : MS).1, setA ((S.1, setA S.2 1 g) : MS).2 1 g1) = ((S.1, setA S.2 1 g1) : MS) by show (S.1, setA (setA S.2 1 g) 1 g1) = _; rw [setA_2]] at f1
      have e1 : (setA S.2 1 g1) 1 = g1 := setA_s
      have hM2 : NowM (((S.1, setA S.2 1 g1) : MS).2 1) M := by show NowM ((setA S.2 1 g1) 1) M; rw [e1]; exact h1.fr ok.1 (fun q a b => f3' q a (by omega))
      have hB2 : NowB (((S.1, setA S.2 1 g1) : MS).2 1) (addB M (Bk M k) (mx M k + 1, my M k)) := by show NowB ((setA S.2 1 g1) 1) _; rw [e1]; exact f2
      obtain ⟨g2, k1, k2, k3⟩ := g_addsBorder hM2 hB2 ok.1 hb.2 ok.small (small_addB (Bk_small ok k) (by show mx M k + 1 < 1000; omega) (by show my M k < 1000; omega)) (i := mx M k) (j := my M k + 1) (by omega) (by omega)
      have k3' : ∀ q, q ≠ 2 → ¬ (28 ≤ q ∧ q < 56) → g2 q = g1 q := fun q a b => by rw [k3 q a b]; show (setA S.2 1 g1) 1 q = _; rw [e1]
      rw [show (((S.1, setA S.2 1 g1) : MS).1, setA ((S.1, setA S.2 1 g1) : MS).2 1 g2) = ((S.1, setA S.2 1 g2) : MS) by show (S.1, setA (setA S.2 1 g1) 1 g2) = _; rw [setA_2]] at k1
      rw [g_n hM1]
      have l12 := ok.1
      simp (disch := omega) only [Option.bind_some, nI_leN, n4, n16, n1, nI_add, mK_a1, e0, e1, hr.1, hr.2, f1, f3', k1]
      rw [if_neg (by omega)]
      refine ⟨_, rfl, g2, rfl, ?_, k2, ?_⟩
      · exact h1.fr ok.1 (fun q a b => by rw [k3' q a (by omega), f3' q a (by omega)])
      · intro q a b
        rw [k3' q a (by omega), f3' q a (by omega), h3 q a b]
    · rintro s ⟨g, rfl, h1, h2, h3⟩
      have e0 : (setA S.2 1 g) 1 = g := setA_s
      have hM1 : NowM (((S.1, setA S.2 1 g) : MS).2 1) M := by show NowM ((setA S.2 1 g) 1) M; rw [e0]; exact h1
      have l12 := ok.1
      unfold gLX10_laysBorder_9
      rw [g_n hM1]
      simp (disch := omega) only [Option.bind_some, nI_leN]
      rw [if_pos (Nat.le_refl _)]
      have z : itr (fun s : Int32 × MS => gLX10_laysBorder_71 s.1 s.2) ((0 : Int32), ((S.1, setA S.2 1 g) : MS)) = some ((S.1, setA S.2 1 (fun q => if 56 ≤ q ∧ q < 224 then nI 0 else g q)) : MS) := by
        refine itr_val 168 (fun k s => s = (nI k, ((S.1, setA S.2 1 (fun q => if 56 ≤ q ∧ q < 56 + k then nI 0 else g q)) : MS))) ?_ ?_ ?_
        · rw [n0]
          have : (fun q => if 56 ≤ q ∧ q < 56 + 0 then nI 0 else g q) = g := by
            funext q
            rw [if_neg (by omega)]
          rw [this]
        · rintro k s hk rfl
          left
          refine ⟨_, ?_, rfl⟩
          unfold gLX10_laysBorder_71
          simp (disch := omega) only [n168, n56, n1, n0, nI_leN, nI_add, mK_s1, Option.bind_some, setA_s, setA_2]
          rw [if_neg (by omega)]
          have : (upd (fun q => if 56 ≤ q ∧ q < 56 + k then nI 0 else g q) (56 + k) (nI 0)) = (fun q => if 56 ≤ q ∧ q < 56 + (k + 1) then nI 0 else g q) := by
            funext q
            unfold upd
            by_cases h : q = 56 + k
            · rw [if_pos h, if_pos (by omega)]
            · rw [if_neg h]
              show (if _ then _ else _) = (if _ then _ else _)
              by_cases h2 : 56 ≤ q ∧ q < 56 + k
              · rw [if_pos h2, if_pos (by omega)]
              · rw [if_neg h2, if_neg (by omega)]
          rw [this]
        · rintro s rfl
          unfold gLX10_laysBorder_71
          simp (disch := omega) only [n168, nI_leN]
          rfl
      rw [z]
      refine ⟨_, rfl, _, rfl, ?_, ?_, ?_, ?_⟩
      · exact h1.fr ok.1 (fun q a b => by rw [if_neg (by omega)])
      · refine ⟨by show (if _ then _ else _) = _; rw [if_neg (by omega)]; exact h2.1, fun k hk => ?_⟩
        have hk14 : k < 14 := by
          have : (laysB M).length ≤ 14 := by
            unfold laysB
            cases e : M.length with
            | zero => simp [Bk]
            | succ n =>
              have hb := (ok.2.2 n (by omega)).2
              exact Nat.le_trans addB_len hb
          omega
        show (if _ then _ else _) = _ ∧ (if _ then _ else _) = _
        rw [if_neg (by omega), if_neg (by omega)]
        exact h2.2 k hk
      · intro k hk
        rw [if_pos (by omega)]
      · intro q a b
        rw [if_neg (by omega)]
        exact h3 q a b
  obtain ⟨t, e, g, rfl, h⟩ := key
  exact ⟨g, e, h⟩
theorem g_copies {S : MS} {j0 j1 a b N0 N1 : Nat} (h0 : mK.2.2.2.1 j0 = N0) (h1 : mK.2.2.2.1 j1 = N1) (ha : a + 248 ≤ N0) (hb : b + 248 ≤ N1) (hN0 : N0 < 2 ^ 31) (hN1 : N1 < 2 ^ 31) (hj : j0 ≠ j1) :
    gFX10_copies j0 (nI a) j1 (nI b) S = some (S.1, setA S.2 j1 (fun q => if b ≤ q ∧ q < b + 248 then S.2 j0 (a + (q - b)) else S.2 j1 q)) := by
  unfold gFX10_copies
  refine itr_val 248 (fun k s => s = (nI k, ((S.1, setA S.2 j1 (fun q => if b ≤ q ∧ q < b + k then S.2 j0 (a + (q - b)) else S.2 j1 q)) : MS))) ?_ ?_ ?_
  · rw [n0]
    have : (fun q => if b ≤ q ∧ q < b + 0 then S.2 j0 (a + (q - b)) else S.2 j1 q) = S.2 j1 := by
      funext q
      rw [if_neg (by omega)]
    rw [this, setA_id]
  · rintro k s hk rfl
    left
    refine ⟨_, ?_, rfl⟩
    unfold gLX10_copies_3
    simp (disch := omega) only [n248, n1, nI_leN, nI_add, gal_ok h0, gas_ok h1, Option.bind_some, setA_s, setA_2, setA_o hj]
    rw [if_neg (by omega)]
    have : (upd (fun q => if b ≤ q ∧ q < b + k then S.2 j0 (a + (q - b)) else S.2 j1 q) (b + k) (S.2 j0 (a + k))) = (fun q => if b ≤ q ∧ q < b + (k + 1) then S.2 j0 (a + (q - b)) else S.2 j1 q) := by
      funext q
      unfold upd
      by_cases h : q = b + k
      · rw [if_pos h, if_pos (by omega), h, show b + k - b = k by omega]
      · rw [if_neg h]
        show (if _ then _ else _) = (if _ then _ else _)
        by_cases h2 : b ≤ q ∧ q < b + k
        · rw [if_pos h2, if_pos (by omega)]
        · rw [if_neg h2, if_neg (by omega)]
    rw [this]
  · rintro s rfl
    unfold gLX10_copies_3
    simp (disch := omega) only [n248, nI_leN]
    rfl
