/-! counts, of the class's State and of the reference -/
theorem itr_sum {T : Type} {body : Int32 × Int32 → Option ((Int32 × Int32) ⊕ T)} {f : Nat → Nat} {N : Nat} {out : Nat → T} (hs : ∀ c k, k < N → body (nI c, nI k) = some (.inl (nI (c + f k), nI (k + 1)))) (he : ∀ c, body (nI c, nI N) = some (.inr (out c))) (c0 : Nat) : itr body (nI c0, nI 0) = some (out (c0 + sm f N)) := by
  refine itr_val N (fun k s => s = (nI (c0 + sm f k), nI k)) rfl ?_ ?_
  · rintro k s hk rfl
    left
    exact ⟨_, hs _ k hk, by rw [Nat.add_assoc]; rfl⟩
  · rintro s rfl
    exact he _
def b1 (b : Bool) : Nat := if b then 1 else 0
/-- the reference asks whether a monomial can join -/
def joinB (ht : Nat → Nat) (i j : Nat) : Bool := !decide (j < ht i) && ((decide (i = 0) || decide (j < ht (i - 1))) && (decide (j = 0) || decide (j - 1 < ht i)))
def candB (ht : Nat → Nat) (q : Nat × Nat) : Bool := decide (q.1 ≤ 11) && decide (q.2 ≤ 11) && !decide (obst ht q.1 q.2 = 2)
set_option maxRecDepth 100000 in
theorem parts_d : ∀ l ∈ parts12, sm (fun k => b1 (candB (hOf l) ((Lb (hOf l)).getD k (0, 0)))) (Lb (hOf l)).length = sm (fun i => sm (fun j => b1 (joinB (hOf l) i j)) 12) 12 ∧ sm (fun k => b1 (corn (hOf l) ((Lm (hOf l)).getD k (0, 0)).1 ((Lm (hOf l)).getD k (0, 0)).2)) (Lm (hOf l)).length = sm (fun i => sm (fun j => b1 (corn (hOf l) i j)) 12) 12 := by decide +kernel
