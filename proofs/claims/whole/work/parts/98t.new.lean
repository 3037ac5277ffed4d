/-! a new Matrix; rows of matrices; a divisor's number is less -/
theorem x_new {h : jx_H} {H W N1 N2 : Nat} (z : SZ H W) (h1 : H * W ≤ N1) (h2 : H ≤ N2) : ∃ h', FX2_init N1 N2 h.1 (nI H) (nI W) (hno h 2 fsX2) = some h' ∧ h'.1 = h.1 + 3 ∧ (∀ x, (x < h.1 ∨ h.1 + 2 < x) → h'.2 x = h.2 x) ∧ SH h' h.1 H W := by
  obtain ⟨z1, z2, z3⟩ := z
  obtain ⟨n, f⟩ := h
  have hsz : (nI H * nI W).toNatClampNeg ≤ N1 ∧ (nI H).toNatClampNeg ≤ N2 := by
    rw [nI_mul, nI_clamp (by omega), nI_clamp (by omega)]
    exact ⟨h1, h2⟩
  unfold FX2_init hno fsX2
  rw [if_neg (fun q => q hsz), hp_ob up_s (Nat.le_of_ble_eq_true rfl), gx_bs, hp_ob up_s (Nat.le_of_ble_eq_true rfl), gx_bs, nI_mul, hna_n (by omega), gx_bs]
  have c1 : ∀ {g : Nat → Option jx_E} {e e' : jx_E}, jx_up (jx_up g n e) (n + 1) e' n = some e := by
    intro g e e'
    rw [up_o (by omega), up_s]
  have c2 : ∀ {g : Nat → Option jx_E} {e e' : jx_E}, jx_up (jx_up g n e) (n + 2) e' n = some e := by
    intro g e e'
    rw [up_o (by omega), up_s]
  dsimp only
  rw [hp_ob c1 (Nat.le_of_ble_eq_true rfl), gx_bs, hna_n (by omega), gx_bs]
  dsimp only
  rw [show n + 1 + 1 = n + 2 by omega, hp_ob c2 (Nat.le_of_ble_eq_true rfl), gx_bs]
  refine ⟨_, rfl, rfl, fun x hx => ?_, ((fun k => if k = 0 then nI H else if k = 1 then nI W else 0), fun _ _ => 0), ⟨?_, fun j hj => ?_⟩, rfl, rfl⟩
  · have hx : x < n ∨ n + 2 < x := hx
    dsimp only
    simp (disch := omega) only [up_o]
  · dsimp only
    rw [up_s]
    rfl
  · have hj : 1 ≤ j ∧ j ≤ 2 := hj
    have hj' : j = 1 ∨ j = 2 := by omega
    dsimp only
    rcases hj' with rfl | rfl
    · rw [up_o (by omega), up_o (by omega), up_o (by omega), up_s, xK_1 ⟨z1, z2, z3⟩]
      rfl
    · rw [up_o (by omega), up_s, xK_2 ⟨z1, z2, z3⟩]
      rfl
def qm (n : Nat) (f : Nat → Option Nat) : jx_E := .inl (.object "BorderBasis$Matrix", n, .inr (.inr (.inr (.inr f))))
theorem hql_m {h : jx_H} {a n k : Nat} {f : Nat → Option Nat} (e : h.2 a = some (qm n f)) (hk : k < n) (hn : n < 2 ^ 31) : hql h "BorderBasis$Matrix" a (nI k) = some (f k) := by
  unfold hql
  rw [e]
  show (if _ ∧ _ then some (f (nI k).toNatClampNeg) else none) = _
  rw [if_pos ⟨rfl, nI_in hk hn⟩, nI_clamp (by omega)]
theorem hqs_m {h : jx_H} {a n k v : Nat} {f : Nat → Option Nat} (e : h.2 a = some (qm n f)) (hk : k < n) (hn : n < 2 ^ 31) (ho : isO h v 2 = some ()) : hqs h "BorderBasis$Matrix" 2 a (nI k) v = some (h.1, jx_up h.2 a (qm n (va_up f k (some v)))) := by
  unfold hqs
  rw [e]
  show (if _ ∧ _ ∧ _ then some (h.1, jx_up h.2 a (.inl (.object "BorderBasis$Matrix", n, .inr (.inr (.inr (.inr (va_up f (nI k).toNatClampNeg (some v)))))))) else none) = _
  rw [if_pos ⟨rfl, nI_in hk hn, ho⟩, nI_clamp (by omega)]
  rfl
set_option maxRecDepth 100000 in
theorem parts_div : ∀ l ∈ parts12, ∀ k, k < 12 → k < (Lm (hOf l)).length → (1 ≤ mx (Lm (hOf l)) k → (Lm (hOf l)).idxOf (mx (Lm (hOf l)) k - 1, my (Lm (hOf l)) k) < k) ∧ (1 ≤ my (Lm (hOf l)) k → (Lm (hOf l)).idxOf (mx (Lm (hOf l)) k, my (Lm (hOf l)) k - 1) < k) := by decide +kernel
theorem Lm_div {ht : Nat → Nat} (w : wfh ht) {k : Nat} (hk : k < (Lm ht).length) : (1 ≤ mx (Lm ht) k → (Lm ht).idxOf (mx (Lm ht) k - 1, my (Lm ht) k) < k) ∧ (1 ≤ my (Lm ht) k → (Lm ht).idxOf (mx (Lm ht) k, my (Lm ht) k - 1) < k) := by
  have l := Lm_len w
  exact parts_all (Q := fun ht => ∀ k, k < 12 → k < (Lm ht).length → (1 ≤ mx (Lm ht) k → (Lm ht).idxOf (mx (Lm ht) k - 1, my (Lm ht) k) < k) ∧ (1 ≤ my (Lm ht) k → (Lm ht).idxOf (mx (Lm ht) k, my (Lm ht) k - 1) < k)) parts_div w k (by omega) hk
