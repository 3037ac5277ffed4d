/-! at most as many zeros as monomials -/
theorem mem_zP {Z : Nat → Nat → Bool} {p a b : Nat} {x : Nat × Nat} : x ∈ zP Z p a b ↔ ((x.1 < a ∧ x.2 < p) ∨ (x.1 = a ∧ x.2 < b)) ∧ Z x.1 x.2 = true := by
  unfold zP
  simp only [List.mem_append, List.mem_flatMap, List.mem_map, List.mem_filter, List.mem_range]
  constructor
  · rintro (⟨i, hi, j, ⟨hj, hz⟩, rfl⟩ | ⟨j, ⟨hj, hz⟩, rfl⟩)
    · exact ⟨Or.inl ⟨hi, hj⟩, hz⟩
    · exact ⟨Or.inr ⟨rfl, hj⟩, hz⟩
  · rintro ⟨⟨h1, h2⟩ | ⟨h1, h2⟩, hz⟩
    · exact Or.inl ⟨x.1, h1, x.2, ⟨h2, hz⟩, rfl⟩
    · exact Or.inr ⟨x.2, ⟨h2, by rw [← h1]; exact hz⟩, by rw [← h1]⟩
theorem zP_nd {Z : Nat → Nat → Bool} {p : Nat} : ∀ a b, (zP Z p a b).Nodup
  | 0, 0 => by simp [zP]
  | a + 1, 0 => by rw [zP_a]; exact zP_nd a p
  | a, b + 1 => by
    rw [zP_b]
    split
    · rw [List.nodup_append]
      refine ⟨zP_nd a b, by simp, fun x hx y hy => ?_⟩
      rw [List.mem_singleton] at hy
      subst hy
      rintro rfl
      have := (mem_zP.mp hx).1
      simp only at this
      omega
    · rw [List.append_nil]; exact zP_nd a b
theorem mem_zAll {Z : Nat → Nat → Bool} {p : Nat} {x : Nat × Nat} : x ∈ zAll Z p ↔ (x.1 < p ∧ x.2 < p) ∧ Z x.1 x.2 = true := by
  unfold zAll
  rw [mem_zP]
  constructor
  · rintro ⟨h1 | h1, h2⟩
    · exact ⟨h1, h2⟩
    · omega
  · rintro ⟨h1, h2⟩
    exact ⟨Or.inl h1, h2⟩
theorem zAll_le {ht : Nat → Nat} {r : Nat → Nat → Nat} {p : Nat} (w : wfh ht) (hp : p ∈ prs) : (zAll (zF ht r p) p).length ≤ (Lm ht).length := by
  have l := Lm_len w
  have pb := prs_b p hp
  have mem : ∀ i, i < (zAll (zF ht r p) p).length → (zAll (zF ht r p) p).getD i (0, 0) ∈ zAll (zF ht r p) p := fun i hi => by
    rw [List.getD_eq_getElem?_getD, List.getElem?_eq_getElem hi]
    exact List.getElem_mem hi
  refine indep_le (n := (Lm ht).length) (p := p) (v := fun i => evV ht p ((zAll (zF ht r p) p).getD i (0, 0)).1 ((zAll (zF ht r p) p).getD i (0, 0)).2) (X := tabM ht r 1 0) (Y := tabM ht r 0 1) (q := fun i => (zAll (zF ht r p) p).getD i (0, 0)) hp (by omega) (fun i hi => (mem_zAll.mp (mem i hi)).1) (fun i j hi hj e => ?_) (fun i _ => ?_) (fun i hi k hk => ?_) (fun i hi k hk => ?_)
  · have e1 : (zAll (zF ht r p) p).getD i (0, 0) = (zAll (zF ht r p) p).getD j (0, 0) := e
    rw [List.getD_eq_getElem?_getD, List.getElem?_eq_getElem hi, List.getD_eq_getElem?_getD, List.getElem?_eq_getElem hj] at e1
    exact (List.getElem_inj (zP_nd p 0)).mp e1
  · rw [evV_0 w (by omega)]
    exact Nat.mod_eq_of_lt (by omega)
  · have := eig w (by omega) (mem_zAll.mp (mem i hi)).2 (Or.inl ⟨rfl, rfl⟩) hk
    rw [if_pos rfl] at this
    exact this
  · have := eig w (by omega) (mem_zAll.mp (mem i hi)).2 (Or.inr ⟨rfl, rfl⟩) hk
    rw [if_neg (by decide)] at this
    exact this
