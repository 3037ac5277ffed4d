/-! a change begins: what stays of a heap while the History keeps a State -/
theorem bH.off2 {h h' : jx_H} {K : BK} {q : Nat} {S : MS} (H : bH K h q S) (e : ∀ x, q ≤ x → x ≤ q + K.2.2.2.2 → h'.2 x = h.2 x) : bH K h' q S := ⟨by rw [e q (by omega) (by omega)]; exact H.1, fun j hj => by rw [e (q + j) (by omega) (by omega)]; exact H.2 j hj⟩
/-- the ring's slots: the k-th of d kept States, the oldest first -/
def slot (nx d k : Nat) : Nat := (nx + 8 - d + k) % 8
theorem slot_last {nx d : Nat} (hn : nx < 8) (h0 : 0 < d) (hd : d ≤ 8) : slot nx d (d - 1) = (nx + 7) % 8 := by
  unfold slot
  rw [show nx + 8 - d + (d - 1) = nx + 7 by omega]
theorem slot_lt {nx d k : Nat} : slot nx d k < 8 := Nat.mod_lt _ (by omega)
/-- a State more: the same slots, and the new one at the end -/
theorem slot_up {nx d k : Nat} (hn : nx < 8) (hd : d < 8) (hk : k < d) : slot ((nx + 1) % 8) (d + 1) k = slot nx d k := by
  unfold slot
  have : (nx + 1) % 8 = nx + 1 ∨ ((nx + 1) % 8 = 0 ∧ nx = 7) := by omega
  omega
theorem slot_new {nx d : Nat} (hn : nx < 8) (hd : d < 8) : slot ((nx + 1) % 8) (d + 1) d = nx := by
  unfold slot
  omega
/-- eight are kept: the oldest is lost -/
theorem slot_full {nx k : Nat} (hn : nx < 8) (hk : k < 7) : slot ((nx + 1) % 8) 8 k = slot nx 8 (k + 1) := by
  unfold slot
  omega
theorem slot_full_new {nx : Nat} (hn : nx < 8) : slot ((nx + 1) % 8) 8 7 = nx := by
  unfold slot
  omega
/-- a State less -/
theorem slot_dn {nx d k : Nat} (hn : nx < 8) (h0 : 0 < d) (hd : d ≤ 8) (hk : k < d - 1) : slot ((nx + 7) % 8) (d - 1) k = slot nx d k := by
  unfold slot
  omega
/-- different kept States lie in different slots -/
theorem slot_inj {nx d i j : Nat} (hn : nx < 8) (hd : d ≤ 8) (hi : i < d) (hj : j < d) (h : slot nx d i = slot nx d j) : i = j := by
  unfold slot at h
  omega
theorem slot_nn {nx d k : Nat} (hn : nx < 8) (hd : d < 8) (hk : k < d) : slot nx d k ≠ nx := by
  unfold slot
  omega
