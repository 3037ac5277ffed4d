/-! the ring holds what is kept -/
def ringU (h : jx_H) (nx d : Nat) (f : Nat → Option Nat) (U : Nat → Cf) : Prop := ∀ k, k < d → ∃ q S, f (slot nx d k) = some q ∧ bH sK h q S ∧ STc S (U k)
/-- places of the ring: apart from one another, above a bound, below the heap's end -/
def ringA (h : jx_H) (lo : Nat) (f : Nat → Option Nat) : Prop := (∀ j q, j < 8 → f j = some q → (∃ T, bH sK h q T) ∧ lo < q ∧ q + 8 < h.1) ∧ ∀ i j q q', i < 8 → j < 8 → i ≠ j → f i = some q → f j = some q' → apart sK sK q q'
/-- a State more in the ring -/
theorem ringU.push {h h' : jx_H} {nx d q : Nat} {f f' : Nat → Option Nat} {U : Nat → Cf} {c : Cf} {S : MS} (H : ringU h nx d f U) (hn : nx < 8) (hd : d ≤ 8) (hq : f' nx = some q) (hf : ∀ j, j ≠ nx → f' j = f j) (hS : bH sK h' q S) (hc : STc S c) (keep : ∀ j q' T, j < 8 → j ≠ nx → f j = some q' → bH sK h q' T → bH sK h' q' T) : ringU h' ((nx + 1) % 8) (min (d + 1) 8) f' (pushU U d c) := by
  intro k hk
  unfold pushU
  by_cases h8 : d = 8
  · subst h8
    rw [if_pos rfl, show min (8 + 1) 8 = 8 by omega]
    by_cases h7 : k < 7
    · rw [if_pos h7, slot_full hn h7]
      obtain ⟨q', T, e1, e2, e3⟩ := H (k + 1) (by omega)
      have hne : slot nx 8 (k + 1) ≠ nx := by unfold slot; omega
      exact ⟨q', T, by rw [hf _ hne]; exact e1, keep _ q' T slot_lt hne e1 e2, e3⟩
    · rw [if_neg h7, show k = 7 by omega, slot_full_new hn]
      exact ⟨q, S, hq, hS, hc⟩
  · rw [if_neg h8, show min (d + 1) 8 = d + 1 by omega]
    by_cases h7 : k < d
    · rw [if_pos h7, slot_up hn (by omega) h7]
      obtain ⟨q', T, e1, e2, e3⟩ := H k h7
      have hne := slot_nn (k := k) hn (show d < 8 by omega) h7
      exact ⟨q', T, by rw [hf _ hne]; exact e1, keep _ q' T slot_lt hne e1 e2, e3⟩
    · rw [if_neg h7, show k = d by omega, slot_new hn (by omega)]
      exact ⟨q, S, hq, hS, hc⟩
