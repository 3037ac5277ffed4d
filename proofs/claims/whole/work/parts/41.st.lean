/-! a State: nine cells in a row -/
def stO (q : Nat) (p n b c : Int32) : List Value := [.int p, .ref (q + 1), .int n, .ref (q + 2), .ref (q + 3), .int b, .ref (q + 4), .ref (q + 5), .ref (q + 6), .int c, .ref (q + 7), .ref (q + 8)]
def StC (h : jx_H) (q : Nat) (p n b c : Int32) (f1 f2 f3 f4 f5 f6 f7 f8 : Nat → Int32) : Prop :=
  h.2 q = some (.inr (5, stO q p n b c)) ∧ h.2 (q + 1) = some (ar 13 f1) ∧ h.2 (q + 2) = some (ar 12 f2) ∧ h.2 (q + 3) = some (ar 12 f3) ∧ h.2 (q + 4) = some (ar 13 f4) ∧ h.2 (q + 5) = some (ar 13 f5) ∧ h.2 (q + 6) = some (ar 156 f6) ∧ h.2 (q + 7) = some (ar 12 f7) ∧ h.2 (q + 8) = some (ar 12 f8)
section
variable {h : jx_H} {q : Nat} {p n b c : Int32} {f1 f2 f3 f4 f5 f6 f7 f8 : Nat → Int32}
theorem StC.gi0 (H : StC h q p n b c f1 f2 f3 f4 f5 f6 f7 f8) : hgi h q 5 0 = some p := hgi_ob H.1 rfl
theorem StC.gi2 (H : StC h q p n b c f1 f2 f3 f4 f5 f6 f7 f8) : hgi h q 5 2 = some n := hgi_ob H.1 rfl
theorem StC.gi5 (H : StC h q p n b c f1 f2 f3 f4 f5 f6 f7 f8) : hgi h q 5 5 = some b := hgi_ob H.1 rfl
theorem StC.gi9 (H : StC h q p n b c f1 f2 f3 f4 f5 f6 f7 f8) : hgi h q 5 9 = some c := hgi_ob H.1 rfl
theorem StC.gr1 (H : StC h q p n b c f1 f2 f3 f4 f5 f6 f7 f8) : hgr h q 5 1 = some (q + 1) := hgr_ob H.1 rfl
theorem StC.gr3 (H : StC h q p n b c f1 f2 f3 f4 f5 f6 f7 f8) : hgr h q 5 3 = some (q + 2) := hgr_ob H.1 rfl
theorem StC.gr4 (H : StC h q p n b c f1 f2 f3 f4 f5 f6 f7 f8) : hgr h q 5 4 = some (q + 3) := hgr_ob H.1 rfl
theorem StC.gr6 (H : StC h q p n b c f1 f2 f3 f4 f5 f6 f7 f8) : hgr h q 5 6 = some (q + 4) := hgr_ob H.1 rfl
theorem StC.gr7 (H : StC h q p n b c f1 f2 f3 f4 f5 f6 f7 f8) : hgr h q 5 7 = some (q + 5) := hgr_ob H.1 rfl
theorem StC.gr8 (H : StC h q p n b c f1 f2 f3 f4 f5 f6 f7 f8) : hgr h q 5 8 = some (q + 6) := hgr_ob H.1 rfl
theorem StC.gr10 (H : StC h q p n b c f1 f2 f3 f4 f5 f6 f7 f8) : hgr h q 5 10 = some (q + 7) := hgr_ob H.1 rfl
theorem StC.gr11 (H : StC h q p n b c f1 f2 f3 f4 f5 f6 f7 f8) : hgr h q 5 11 = some (q + 8) := hgr_ob H.1 rfl
theorem StC.ob (H : StC h q p n b c f1 f2 f3 f4 f5 f6 f7 f8) : isO h q 5 = some () := isO_ob H.1
theorem StC.al1 (H : StC h q p n b c f1 f2 f3 f4 f5 f6 f7 f8) {k : Nat} (hk : k < 13) : hal h .int (q + 1) (nI k) = some (f1 k) := hal_ar H.2.1 hk (by decide)
theorem StC.al2 (H : StC h q p n b c f1 f2 f3 f4 f5 f6 f7 f8) {k : Nat} (hk : k < 12) : hal h .int (q + 2) (nI k) = some (f2 k) := hal_ar H.2.2.1 hk (by decide)
theorem StC.al3 (H : StC h q p n b c f1 f2 f3 f4 f5 f6 f7 f8) {k : Nat} (hk : k < 12) : hal h .int (q + 3) (nI k) = some (f3 k) := hal_ar H.2.2.2.1 hk (by decide)
theorem StC.al4 (H : StC h q p n b c f1 f2 f3 f4 f5 f6 f7 f8) {k : Nat} (hk : k < 13) : hal h .int (q + 4) (nI k) = some (f4 k) := hal_ar H.2.2.2.2.1 hk (by decide)
theorem StC.al5 (H : StC h q p n b c f1 f2 f3 f4 f5 f6 f7 f8) {k : Nat} (hk : k < 13) : hal h .int (q + 5) (nI k) = some (f5 k) := hal_ar H.2.2.2.2.2.1 hk (by decide)
theorem StC.al6 (H : StC h q p n b c f1 f2 f3 f4 f5 f6 f7 f8) {k : Nat} (hk : k < 156) : hal h .int (q + 6) (nI k) = some (f6 k) := hal_ar H.2.2.2.2.2.2.1 hk (by decide)
theorem StC.al7 (H : StC h q p n b c f1 f2 f3 f4 f5 f6 f7 f8) {k : Nat} (hk : k < 12) : hal h .int (q + 7) (nI k) = some (f7 k) := hal_ar H.2.2.2.2.2.2.2.1 hk (by decide)
theorem StC.al8 (H : StC h q p n b c f1 f2 f3 f4 f5 f6 f7 f8) {k : Nat} (hk : k < 12) : hal h .int (q + 8) (nI k) = some (f8 k) := hal_ar H.2.2.2.2.2.2.2.2 hk (by decide)
theorem StC.numberOf (H : StC h q p n b c f1 f2 f3 f4 f5 f6 f7 f8) {N : Nat} (hn : n = nI N) (hN : N ≤ 12) (i j : Int32) : FX5_numberOf q i j h = some (fnd f2 f3 i j N 0) := by
  subst hn
  unfold FX5_numberOf
  refine itr_val N (fun k s => s = nI k ∧ fnd f2 f3 i j N 0 = fnd f2 f3 i j (N - k) k) ⟨n0, rfl⟩ ?_ ?_
  · rintro k s hk ⟨rfl, e⟩
    unfold LX5_numberOf_2 BX5_numberOf_32
    obtain ⟨r, hr⟩ : ∃ r, N - k = r + 1 := ⟨N - k - 1, by omega⟩
    rw [hr, fnd_step] at e
    simp (disch := omega) only [H.gi2, H.gr3, H.gr4, H.al2, H.al3, Option.bind_some, nI_leN, n1, nI_add]
    rw [if_neg (by omega)]
    by_cases h1 : f2 k = i
    · by_cases h2 : f3 k = j
      · right
        rw [if_pos h1, if_pos h2, e, if_pos ⟨h1, h2⟩]
        rfl
      · left
        rw [if_pos h1, if_neg h2]
        refine ⟨_, rfl, rfl, ?_⟩
        rw [e, if_neg (fun z => h2 z.2), show N - (k + 1) = r by omega]
    · left
      rw [if_neg h1]
      refine ⟨_, rfl, rfl, ?_⟩
      rw [e, if_neg (fun z => h1 z.1), show N - (k + 1) = r by omega]
  · rintro s ⟨rfl, e⟩
    unfold LX5_numberOf_2
    simp (disch := omega) only [H.gi2, Option.bind_some, nI_leN]
    rw [if_pos (Nat.le_refl _), e, Nat.sub_self]
    rfl
theorem StC.borderNumberOf (H : StC h q p n b c f1 f2 f3 f4 f5 f6 f7 f8) {N : Nat} (hn : b = nI N) (hN : N ≤ 13) (i j : Int32) : FX5_borderNumberOf q i j h = some (fnd f4 f5 i j N 0) := by
  subst hn
  unfold FX5_borderNumberOf
  refine itr_val N (fun k s => s = nI k ∧ fnd f4 f5 i j N 0 = fnd f4 f5 i j (N - k) k) ⟨n0, rfl⟩ ?_ ?_
  · rintro k s hk ⟨rfl, e⟩
    unfold LX5_borderNumberOf_2 BX5_borderNumberOf_32
    obtain ⟨r, hr⟩ : ∃ r, N - k = r + 1 := ⟨N - k - 1, by omega⟩
    rw [hr, fnd_step] at e
    simp (disch := omega) only [H.gi5, H.gr6, H.gr7, H.al4, H.al5, Option.bind_some, nI_leN, n1, nI_add]
    rw [if_neg (by omega)]
    by_cases h1 : f4 k = i
    · by_cases h2 : f5 k = j
      · right
        rw [if_pos h1, if_pos h2, e, if_pos ⟨h1, h2⟩]
        rfl
      · left
        rw [if_pos h1, if_neg h2]
        refine ⟨_, rfl, rfl, ?_⟩
        rw [e, if_neg (fun z => h2 z.2), show N - (k + 1) = r by omega]
    · left
      rw [if_neg h1]
      refine ⟨_, rfl, rfl, ?_⟩
      rw [e, if_neg (fun z => h1 z.1), show N - (k + 1) = r by omega]
  · rintro s ⟨rfl, e⟩
    unfold LX5_borderNumberOf_2
    simp (disch := omega) only [H.gi5, Option.bind_some, nI_leN]
    rw [if_pos (Nat.le_refl _), e, Nat.sub_self]
    rfl
end
