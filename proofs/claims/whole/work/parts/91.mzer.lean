/-! the reference: all zeros, in their order -/
def zP (Z : Nat → Nat → Bool) (p a b : Nat) : List (Nat × Nat) := ((List.range a).flatMap fun a => ((List.range p).filter (Z a)).map fun b => (a, b)) ++ ((List.range b).filter (Z a)).map fun b => (a, b)
theorem zP_b {Z : Nat → Nat → Bool} {p a b : Nat} : zP Z p a (b + 1) = zP Z p a b ++ (if Z a b then [(a, b)] else []) := by
  unfold zP
  rw [List.range_succ (n := b), List.filter_append, List.map_append, List.append_assoc]
  congr 2
  cases h : Z a b <;> simp [h]
theorem zP_a {Z : Nat → Nat → Bool} {p a : Nat} : zP Z p (a + 1) 0 = zP Z p a p := by
  unfold zP
  rw [List.range_succ (n := a), List.flatMap_append]
  simp
theorem zP_len {Z : Nat → Nat → Bool} {p : Nat} : ∀ a b, (zP Z p a b).length ≤ a * p + b
  | 0, 0 => by simp [zP]
  | a + 1, 0 => by
    rw [zP_a]
    have := zP_len (Z := Z) (p := p) a p
    rw [Nat.succ_mul]
    omega
  | a, b + 1 => by
    rw [zP_b, List.length_append]
    have := zP_len (Z := Z) (p := p) a b
    have h2 : (if Z a b then [(a, b)] else ([] : List (Nat × Nat))).length ≤ 1 := by split <;> simp
    omega
def zAll (Z : Nat → Nat → Bool) (p : Nat) : List (Nat × Nat) := zP Z p p 0
def zF (ht : Nat → Nat) (r : Nat → Nat → Nat) (p : Nat) : Nat → Nat → Bool := fun a b => zerB ht r p a b (Lb ht).length
theorem L22 : mK.2.2.2.1 22 = 9409 := rfl
theorem L23 : mK.2.2.2.1 23 = 9409 := rfl
theorem b2s {α β γ : Type} {a : α} {b : β} {f : α → β → Option γ} : bind2 (some (a, b)) f = f a b := rfl
section
variable {S : MS} {p : Nat} {ht : Nat → Nat} {r : Nat → Nat → Nat} {pts : List (Nat × Nat)}
def zRel (S T : MS) (L : List (Nat × Nat)) : Prop := T.1 34 = nI L.length ∧ row2 (T.2 22) (T.2 23) L ∧ (∀ q, q ≠ 34 → T.1 q = S.1 q) ∧ ∀ j, ¬ (20 ≤ j ∧ j < 24) → T.2 j = S.2 j
theorem m_laysZeros (H : RC (S.2 1) p ht r pts) (w : wfh ht) (hp2 : 2 ≤ p) (hp : p ≤ 97) (hr : ∀ b k, b < (Lb ht).length → k < (Lm ht).length → r b k < p) :
    ∃ T, gFX10_laysZeros S = some T ∧ zRel S T (zAll (zF ht r p) p) := by
  have l := Lm_len w
  have R1 : ∀ {T : MS} {L : List (Nat × Nat)}, zRel S T L → RC (T.2 1) p ht r pts := fun h => by rw [h.2.2.2 1 (by omega)]; exact H
  unfold gFX10_laysZeros
  rw [gx_bs, n0]
  refine itr_run p (fun a s => ∃ T, s = (nI a, T) ∧ zRel S T (zP (zF ht r p) p a 0)) ?_ ?_ ?_
  · refine ⟨_, rfl, ?_, row2.nil, fun q hq => ?_, fun j _ => ?_⟩
    · rw [gpi_1, upd_s]; rfl
    · rw [gpi_1, upd_o hq]
    · rw [gpi_2]
  · rintro a s ha ⟨T, rfl, hT⟩
    left
    have inner : ∃ t, itr (fun s : Int32 × MS => gLX10_laysZeros_17 (nI a) s.1 s.2) (nI 0, T) = some t ∧ ∃ U, t = .inl (nI (a + 1), U) ∧ zRel S U (zP (zF ht r p) p (a + 1) 0) := by
      refine itr_run p (fun b s => ∃ U, s = (nI b, U) ∧ zRel S U (zP (zF ht r p) p a b)) ⟨T, rfl, hT⟩ ?_ ?_
      · rintro b s hb ⟨U, rfl, hU⟩
        left
        obtain ⟨V, v1, v2⟩ := m_isZero (R1 hU) w hp2 (by omega) hr ha hb
        have hlen : (zP (zF ht r p) p a b).length < 9409 := by
          have h1 := zP_len (Z := zF ht r p) (p := p) a b
          have h2 := Nat.mul_le_mul_right p (show a + 1 ≤ p by omega)
          have h3 := Nat.mul_le_mul hp hp
          rw [Nat.succ_mul] at h2
          omega
        have hV : zRel S V (zP (zF ht r p) p a b) := ⟨by rw [v2.1]; exact hU.1, by rw [v2.2 22 (by omega), v2.2 23 (by omega)]; exact hU.2.1, fun q hq => by rw [v2.1]; exact hU.2.2.1 q hq, fun j hj => by rw [v2.2 j (by omega)]; exact hU.2.2.2 j hj⟩
        unfold gLX10_laysZeros_17 gBX10_laysZeros_64
        dsimp only
        rw [g_p (R1 hU).1, gx_bs, if_neg (by rw [nI_leN (by omega) (by omega)]; omega), v1]
        rw [b2s, show zerB ht r p a b (Lb ht).length = zF ht r p a b from rfl]
        rw [n0, n1, nI_add, zP_b]
        cases hz : zF ht r p a b with
        | false =>
          rw [if_pos bI_f]
          exact ⟨_, rfl, V, rfl, by rw [if_neg (by decide), List.append_nil]; exact hV⟩
        | true =>
          rw [if_neg (by rw [bI_0]; decide), gx_bs, hV.1, mK_s22 hlen, gx_bs, gx_bs, mp1, hV.1, mK_s23 hlen, gx_bs, gx_bs, mp1, hV.1, gx_bs, nI_add]
          refine ⟨_, rfl, _, rfl, ?_, ?_, fun q hq => ?_, fun j hj => ?_⟩
          · rw [gpi_1, upd_s, if_pos rfl, List.length_append]; rfl
          · rw [if_pos rfl]
            simp (disch := decide) only [gpi_2, mp2, setA_s, setA_o]
            exact hV.2.1.snoc a b
          · rw [gpi_1, upd_o hq]; exact hV.2.2.1 q hq
          · rw [gpi_2, mp2, mp2, setA_o (by omega), setA_o (by omega)]; exact hV.2.2.2 j hj
      · rintro s ⟨U, rfl, hU⟩
        unfold gLX10_laysZeros_17
        dsimp only
        rw [g_p (R1 hU).1, gx_bs, if_pos (by rw [nI_leN (by omega) (by omega)]; omega), n1, nI_add]
        exact ⟨_, rfl, U, rfl, by rw [zP_a]; exact hU⟩
    obtain ⟨t, e, U, rfl, hU⟩ := inner
    unfold gLX10_laysZeros_7
    dsimp only
    rw [g_p (R1 hT).1, gx_bs, if_neg (by rw [nI_leN (by omega) (by omega)]; omega), n0, e]
    exact ⟨_, rfl, U, rfl, hU⟩
  · rintro s ⟨T, rfl, hT⟩
    unfold gLX10_laysZeros_7
    dsimp only
    rw [g_p (R1 hT).1, gx_bs, if_pos (by rw [nI_leN (by omega) (by omega)]; omega)]
    exact ⟨T, rfl, hT⟩
end
