/-! what both sides stand for: prime, heights, rules, points; the kept ones -/
abbrev Cf : Type := Nat × (Nat → Nat) × (Nat → Nat → Nat) × List (Nat × Nat)
def okC (c : Cf) : Prop := c.1 ∈ prs ∧ wfh c.2.1 ∧ (∀ b k, b < (Lb c.2.1).length → k < (Lm c.2.1).length → c.2.2.1 b k < c.1) ∧ pin c.2.2.2 c.1
def RCc (g : Nat → Int32) (c : Cf) : Prop := RC g c.1 c.2.1 c.2.2.1 c.2.2.2
def STc (S : MS) (c : Cf) : Prop := ST S c.1 c.2.1 c.2.2.1 c.2.2.2
theorem RCc.fr {g g' : Nat → Int32} {c : Cf} (H : RCc g c) (o : okC c) (h : ∀ q, q < 248 → g' q = g q) : RCc g' c := RC.fr H o.2.1 o.2.2.2.1 h
theorem STc.cp {S T : MS} {c : Cf} (H : STc S c) (o : okC c) : STc (cpS T S) c := ST.cp o.2.1 o.2.2.2.1 H
/-- one more is kept, of eight at most -/
def pushU (U : Nat → Cf) (d : Nat) (c : Cf) : Nat → Cf := fun k => if d = 8 then (if k < 7 then U (k + 1) else c) else (if k < d then U k else c)
def undR (u : Nat → Int32) (d : Nat) (U : Nat → Cf) : Prop := ∀ k, k < d → RCc (fun q => u (248 * k + q)) (U k)
theorem undR.push {S : MS} {d : Nat} {U : Nat → Cf} {c : Cf} {u : Nat → Int32} (H : undR (S.2 4) d U) (Hc : RCc (S.2 1) c) (h8 : d ≤ 8) (oU : ∀ k, k < d → okC (U k)) (oc' : okC c) (e1 : ∀ q, q < 248 → u (248 * min d 7 + q) = S.2 1 q) (e2 : d = 8 → ∀ q, q < 1736 → u q = S.2 4 (q + 248)) (e3 : d < 8 → ∀ q, q < 248 * d → u q = S.2 4 q) : undR u (min d 7 + 1) (pushU U d c) := by
  intro k hk
  unfold pushU
  by_cases hd : d = 8
  · rw [if_pos hd]
    by_cases h7 : k < 7
    · rw [if_pos h7]
      refine (H (k + 1) (by omega)).fr (oU (k + 1) (by omega)) fun q hq => ?_
      show u (248 * k + q) = S.2 4 (248 * (k + 1) + q)
      rw [e2 hd _ (by omega), show 248 * k + q + 248 = 248 * (k + 1) + q by omega]
    · rw [if_neg h7]
      refine Hc.fr oc' fun q hq => ?_
      show u (248 * k + q) = S.2 1 q
      have := e1 q hq
      rw [show min d 7 = k by omega] at this
      exact this
  · rw [if_neg hd]
    by_cases h7 : k < d
    · rw [if_pos h7]
      refine (H k h7).fr (oU k h7) fun q hq => ?_
      show u (248 * k + q) = S.2 4 (248 * k + q)
      exact e3 (by omega) _ (by omega)
    · rw [if_neg h7]
      refine Hc.fr oc' fun q hq => ?_
      show u (248 * k + q) = S.2 1 q
      have := e1 q hq
      rw [show min d 7 = k by omega] at this
      exact this
