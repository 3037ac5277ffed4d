/-! the History keeps the State: ring and bounds -/
theorem ring_remember {h : jx_H} {ah q0 lo nx d : Nat} {f : Nat → Option Nat} {U : Nat → Cf} {c : Cf} {S : MS} (HI : HIS h ah nx d f) (hn : nx < 8) (hd : d ≤ 8) (HS : bH sK h q0 S) (hc : STc S c) (oc' : okC c) (RU : ringU h nx d f U) (RA : ringA h lo f) (l1 : ah + 1 ≤ lo) (l2 : q0 + 8 ≤ lo) (b1 : lo < h.1) :
    ∃ h' f', FX1_remember ah q0 h = some h' ∧ HIS h' ah ((nx + 1) % 8) (min (d + 1) 8) f' ∧ ringU h' ((nx + 1) % 8) (min (d + 1) 8) f' (pushU U d c) ∧ ringA h' lo f' ∧ h.1 ≤ h'.1 ∧ ∀ x, x < h.1 → x ≠ ah → x ≠ ah + 1 → (∀ j q, j < 8 → f j = some q → x < q ∨ q + 8 < x) → h'.2 x = h.2 x := by
  obtain ⟨RA1, RA2⟩ := RA
  rcases s_remember HI hn hd HS (fun q hq => ⟨(RA1 nx q hn hq).1, Or.inl (by show q0 + 8 < q; have := (RA1 nx q hn hq).2.1; omega), Or.inl (by have := (RA1 nx q hn hq).2.1; omega)⟩) (by omega) (by omega) with ⟨h', q, T, e1, e2, e3, e4, e5, e6⟩ | ⟨h', q, T, e1, e2, rfl, e3, e4, e5, e6⟩
  · have hb := RA1 nx q hn e2
    have keep : ∀ j q' T', j < 8 → j ≠ nx → f j = some q' → bH sK h q' T' → bH sK h' q' T' := by
      intro j q' T' hj hne hf hT
      have hb' := RA1 j q' hj hf
      have ha : q' + 8 < q ∨ q + 8 < q' := RA2 j nx q' q hj hn hne hf e2
      exact hT.off2 fun x x1 x2 => by
        have x2 : x ≤ q' + 8 := x2
        exact e6 x (by omega) (by omega)
    refine ⟨h', f, e1, e4, RU.push hn hd e2 (fun _ _ => rfl) e5 (hc.cp oc') keep, ⟨fun j q' hj hf => ?_, RA2⟩, by omega, fun x _ x1 _ x3 => e6 x x1 (x3 nx q hn e2)⟩
    obtain ⟨⟨T', hT⟩, c1, c2⟩ := RA1 j q' hj hf
    refine ⟨?_, c1, by omega⟩
    by_cases hne : j = nx
    · rw [hne, e2] at hf
      cases hf
      exact ⟨_, e5⟩
    · exact ⟨T', keep j q' T' hj hne hf hT⟩
  · have vn : ∀ j, j ≠ nx → va_up f nx (some h.1) j = f j := fun j hj => by unfold va_up; rw [if_neg hj]
    have vs : va_up f nx (some h.1) nx = some h.1 := by unfold va_up; rw [if_pos rfl]
    have keep : ∀ j q' T', j < 8 → j ≠ nx → f j = some q' → bH sK h q' T' → bH sK h' q' T' := by
      intro j q' T' hj hne hf hT
      have hb' := RA1 j q' hj hf
      exact hT.off2 fun x x1 x2 => by
        have x2 : x ≤ q' + 8 := x2
        exact e6 x (by omega) (by omega) (by omega)
    refine ⟨h', _, e1, e4, RU.push hn hd vs vn e5 (hc.cp oc') keep, ⟨fun j q' hj hf => ?_, fun i j q q' hi hj hne hf hf' => ?_⟩, by omega, fun x x0 x1 x2 _ => e6 x x1 x2 (Or.inl x0)⟩
    · by_cases hne : j = nx
      · rw [hne, vs] at hf
        cases hf
        exact ⟨⟨_, e5⟩, b1, by omega⟩
      · rw [vn j hne] at hf
        obtain ⟨⟨T', hT⟩, c1, c2⟩ := RA1 j q' hj hf
        exact ⟨⟨T', keep j q' T' hj hne hf hT⟩, c1, by omega⟩
    · by_cases h1 : i = nx
      · rw [h1, vs] at hf
        cases hf
        rw [vn j (by omega)] at hf'
        have := (RA1 j q' hj hf').2.2
        exact Or.inr (by show q' + 8 < h.1; omega)
      · rw [vn i h1] at hf
        by_cases h2 : j = nx
        · rw [h2, vs] at hf'
          cases hf'
          have := (RA1 i q hi hf).2.2
          exact Or.inl (by show q + 8 < h.1; omega)
        · rw [vn j h2] at hf'
          exact RA2 i j q q' hi hj hne hf hf'
