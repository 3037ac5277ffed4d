/-! row operations and echelon forms -/
theorem mul_modr {a b c p : Nat} (h : b % p = c % p) : a * b % p = a * c % p := by rw [Nat.mul_mod, h, ← Nat.mul_mod]
theorem sm_lin {e a b : Nat → Nat} {p n : Nat} (h : ∀ k, k < n → a k % p = b k % p) : sm (fun k => e k * a k) n % p = sm (fun k => e k * b k) n % p := sm_modc fun k hk => mul_modr (h k hk)
theorem sm_z {f : Nat → Nat} {p n : Nat} (h : ∀ k, k < n → f k % p = 0) : sm f n % p = 0 := by
  rw [← sm_mod, sm_congr n (g := fun _ => 0) h, sm_zero, Nat.zero_mod]
theorem sm_ex (e x : Nat → Nat) (a : Nat → Nat → Nat) (R n : Nat) : sm (fun s => e s * sm (fun k => x k * a k s) n) R = sm (fun k => x k * sm (fun s => e s * a k s) R) n := by
  rw [sm_congr R (g := fun s => sm (fun k => x k * (e s * a k s)) n) fun s _ => by rw [sm_mull]; exact sm_congr n fun k _ => by rw [← Nat.mul_assoc, Nat.mul_comm (e s), Nat.mul_assoc]]
  rw [sm_swap (fun k s => x k * (e s * a k s)) n R]
  exact sm_congr n fun k _ => (sm_mull _ _ R).symm
theorem sm_cut {f : Nat → Nat} {m : Nat} : ∀ {n : Nat}, m ≤ n → (∀ k, m ≤ k → k < n → f k = 0) → sm f n = sm f m
  | 0, h, _ => by rw [show m = 0 by omega]
  | n + 1, h, z => by
    by_cases e : m = n + 1
    · rw [e]
    · show sm f n + f n = sm f m
      rw [z n (by omega) (by omega), sm_cut (n := n) (by omega) fun k h1 h2 => z k h1 (by omega), Nat.add_zero]
theorem sm_del (f : Nat → Nat) (k n : Nat) : sm (fun r => f r * (if r = k then 1 else 0)) n = if k < n then f k else 0 := by
  rw [← sm_one f k n]
  exact sm_congr n fun r _ => by
    rw [Nat.mul_comm]
    by_cases h : r = k
    · rw [if_pos h, if_pos h.symm]
    · rw [if_neg h, if_neg (fun z => h z.symm)]
theorem rsd_neg {x y z p : Nat} (h0 : 0 < p) : rsd ((x : Int) - (y * z : Nat)) p % p = (x + (p - y % p) * z) % p := by
  have h := rsd_add (x := x) (y := y * z) h0
  rw [Nat.add_mod x, ← h, ← Nat.add_mod, Nat.add_assoc, ← Nat.add_mul, Nat.add_mod, Nat.mul_mod, neg_mod h0, Nat.zero_mul, Nat.zero_mod, Nat.add_zero, Nat.mod_mod]
/-- each row of B is a combination of rows of A -/
def rIn (p R C : Nat) (A B : Nat → Nat → Nat) : Prop := ∃ E : Nat → Nat → Nat, ∀ r j, r < R → j < C → B r j % p = sm (fun s => E r s * A s j) R % p
section
variable {p R C : Nat} {A B D : Nat → Nat → Nat}
theorem rIn.rf : rIn p R C A A := ⟨fun r s => if r = s then 1 else 0, fun r j hr _ => by rw [sm_one (fun s => A s j), if_pos hr]⟩
theorem rIn.tr (h1 : rIn p R C A B) (h2 : rIn p R C B D) : rIn p R C A D := by
  obtain ⟨E, hE⟩ := h1
  obtain ⟨F, hF⟩ := h2
  refine ⟨fun r s => sm (fun q => F r q * E q s) R, fun r j hr hj => ?_⟩
  have e1 : sm (fun q => F r q * B q j) R % p = sm (fun q => F r q * sm (fun s => E q s * A s j) R) R % p := sm_lin fun q hq => hE q j hq hj
  rw [hF r j hr hj, e1]
  congr 1
  rw [sm_congr R (g := fun q => sm (fun s => F r q * E q s * A s j) R) fun q _ => by rw [sm_mull]; exact sm_congr R fun s _ => (Nat.mul_assoc _ _ _).symm]
  rw [sm_swap (fun s q => F r q * E q s * A s j) R R]
  exact sm_congr R fun s _ => (sm_mulr _ _ R).symm
theorem rIn.mk2 (x y u v : Nat → Nat) (hu : ∀ r, r < R → u r < R) (hv : ∀ r, r < R → v r < R) (h : ∀ r j, r < R → j < C → B r j % p = (x r * A (u r) j + y r * A (v r) j) % p) : rIn p R C A B := by
  refine ⟨fun r s => x r * (if u r = s then 1 else 0) + y r * (if v r = s then 1 else 0), fun r j hr hj => ?_⟩
  rw [h r j hr hj]
  congr 1
  rw [sm_congr R (g := fun s => x r * ((if u r = s then 1 else 0) * A s j) + y r * ((if v r = s then 1 else 0) * A s j)) fun s _ => by rw [Nat.add_mul, Nat.mul_assoc, Nat.mul_assoc], sm_add, ← sm_mull, ← sm_mull, sm_one (fun s => A s j), sm_one (fun s => A s j), if_pos (hu r hr), if_pos (hv r hr)]
theorem rIn_swap {i j : Nat} (hi : i < R) (hj : j < R) : rIn p R C A (swapM A i j) ∧ rIn p R C (swapM A i j) A := by
  refine ⟨rIn.mk2 (fun _ => 1) (fun _ => 0) (fun r => if r = i then j else if r = j then i else r) (fun r => r) (fun r hr => ?_) (fun r hr => hr) fun r c hr _ => ?_, rIn.mk2 (fun _ => 1) (fun _ => 0) (fun r => if r = i then j else if r = j then i else r) (fun r => r) (fun r hr => ?_) (fun r hr => hr) fun r c hr _ => ?_⟩
  · split
    · exact hj
    · split
      · exact hi
      · exact hr
  · rw [Nat.one_mul, Nat.zero_mul, Nat.add_zero]
    unfold swapM
    by_cases h1 : r = i
    · rw [if_pos h1, if_pos h1]
    · rw [if_neg h1, if_neg h1]
      by_cases h2 : r = j
      · rw [if_pos h2, if_pos h2]
      · rw [if_neg h2, if_neg h2]
  · split
    · exact hj
    · split
      · exact hi
      · exact hr
  · rw [Nat.one_mul, Nat.zero_mul, Nat.add_zero]
    unfold swapM
    by_cases h1 : r = i
    · rw [if_pos h1]
      by_cases h3 : j = i
      · rw [if_pos h3, h3, h1]
      · rw [if_neg h3, if_pos rfl, h1]
    · rw [if_neg h1]
      by_cases h2 : r = j
      · rw [if_pos h2, if_pos rfl, h2]
      · rw [if_neg h2, if_neg h1, if_neg h2]
theorem rIn_scale {i f g : Nat} (hi : i < R) (h0 : 0 < p) (hfg : f * g % p = 1 % p) : rIn p R C A (scaleM A i f p) ∧ rIn p R C (scaleM A i f p) A := by
  refine ⟨rIn.mk2 (fun r => if r = i then f else 1) (fun _ => 0) (fun r => r) (fun r => r) (fun r hr => hr) (fun r hr => hr) fun r c hr _ => ?_, rIn.mk2 (fun r => if r = i then g else 1) (fun _ => 0) (fun r => r) (fun r => r) (fun r hr => hr) (fun r hr => hr) fun r c hr _ => ?_⟩
  · rw [Nat.zero_mul, Nat.add_zero]
    unfold scaleM
    by_cases h1 : r = i
    · rw [if_pos h1, if_pos h1, Nat.mod_mod, Nat.mul_comm, h1]
    · rw [if_neg h1, if_neg h1, Nat.one_mul]
  · rw [Nat.zero_mul, Nat.add_zero]
    unfold scaleM
    by_cases h1 : r = i
    · rw [if_pos h1, if_pos h1, Nat.mul_mod_mod, ← Nat.mul_assoc, Nat.mul_comm g, Nat.mul_assoc, Nat.mul_comm g, mul_modr hfg, Nat.mul_one, h1]
    · rw [if_neg h1, if_neg h1, Nat.one_mul]
theorem rIn_clear {q c : Nat} (hq : q < R) (h0 : 0 < p) : rIn p R C A (clearM A q c p) ∧ rIn p R C (clearM A q c p) A := by
  refine ⟨rIn.mk2 (fun _ => 1) (fun r => if r = q ∨ A r c = 0 then 0 else p - A r c % p) (fun r => r) (fun _ => q) (fun r hr => hr) (fun _ _ => hq) fun r j hr _ => ?_, rIn.mk2 (fun _ => 1) (fun r => if r = q ∨ A r c = 0 then 0 else A r c) (fun r => r) (fun _ => q) (fun r hr => hr) (fun _ _ => hq) fun r j hr _ => ?_⟩
  · rw [Nat.one_mul]
    unfold clearM
    by_cases h1 : r = q ∨ A r c = 0
    · rw [if_pos h1, if_pos h1, Nat.zero_mul, Nat.add_zero]
    · rw [if_neg h1, if_neg h1, rsd_neg h0]
  · rw [Nat.one_mul]
    have hqq : clearM A q c p q j = A q j := by unfold clearM; rw [if_pos (Or.inl rfl)]
    rw [hqq]
    unfold clearM
    by_cases h1 : r = q ∨ A r c = 0
    · rw [if_pos h1, if_pos h1, Nat.zero_mul, Nat.add_zero]
    · rw [if_neg h1, if_neg h1, rsd_add h0]
end
theorem pivF_none {A : Nat → Nat → Nat} {c : Nat} : ∀ {n r : Nat}, pivF A c n r = none → ∀ q, r ≤ q → q < r + n → A q c = 0
  | 0, r, _, q, h1, h2 => by omega
  | n + 1, r, h, q, h1, h2 => by
    unfold pivF at h
    split at h
    · rename_i hz
      by_cases e : q = r
      · rw [e]; exact hz
      · exact pivF_none h q (by omega) (by omega)
    · cases h
/-- the first columns are reduced: pivots, unit columns, zeros ahead of them -/
def EC (p R C rk col : Nat) (A : Nat → Nat → Nat) (pv : Nat → Nat) : Prop := bdM A R C p ∧ rk ≤ R ∧ (∀ k, k < rk → pv k < col) ∧ (∀ k k', k < k' → k' < rk → pv k < pv k') ∧ (∀ k r, k < rk → r < R → A r (pv k) = if r = k then 1 else 0) ∧ (∀ r j, rk ≤ r → r < R → j < col → A r j = 0) ∧ ∀ r j, r < rk → j < pv r → A r j = 0
theorem ec_step {p R C rk col f : Nat} {A : Nat → Nat → Nat} {pv : Nat → Nat} (hp : p ∈ prs) (H : EC p R C rk col A pv) (hcol : col < C) (hrk : rk < R) (hf : rk ≤ f) (hfR : f < R) (hne : A f col ≠ 0) :
    EC p R C (rk + 1) (col + 1) (clearM (scaleM (swapM A f rk) rk (invF (swapM A f rk rk col) p) p) rk col p) (fun k => if k = rk then col else pv k) ∧ rIn p R C A (clearM (scaleM (swapM A f rk) rk (invF (swapM A f rk rk col) p) p) rk col p) ∧ rIn p R C (clearM (scaleM (swapM A f rk) rk (invF (swapM A f rk rk col) p) p) rk col p) A := by
  obtain ⟨hA, _, hpv, hmono, hunit, hzero, hech⟩ := H
  have pb := prs_b p hp
  have hb1 := bd_swap hA hfR hrk
  have w0 : swapM A f rk rk col = A f col := by
    unfold swapM
    by_cases e : rk = f
    · rw [if_pos e, e]
    · rw [if_neg e, if_pos rfl]
  have hpiv : A f col < p := hA f col hfR hcol
  have hinv : A f col * invF (A f col) p % p = 1 := fermat hp hpiv hne
  rw [w0]
  have hb2 : bdM (scaleM (swapM A f rk) rk (invF (A f col) p) p) R C p := bd_scale hb1 (by omega)
  have hb3 : bdM (clearM (scaleM (swapM A f rk) rk (invF (A f col) p) p) rk col p) R C p := bd_clear hb2 (by omega)
  -- the scaled matrix
  generalize hX : scaleM (swapM A f rk) rk (invF (A f col) p) p = X at hb2 hb3
  have x1 : X rk col = 1 := by
    rw [← hX]
    unfold scaleM
    rw [if_pos rfl, w0, hinv]
  have sw : ∀ r j, r < R → (∀ q, rk ≤ q → q < R → A q j = 0) → swapM A f rk r j = A r j := by
    intro r j hr hz
    unfold swapM
    by_cases e : r = f
    · rw [if_pos e, e, hz rk (by omega) hrk, hz f hf hfR]
    · rw [if_neg e]
      by_cases e2 : r = rk
      · rw [if_pos e2, e2, hz f hf hfR, hz rk (by omega) hrk]
      · rw [if_neg e2]
  have keep : ∀ r j, r < R → j < C → (∀ q, rk ≤ q → q < R → A q j = 0) → clearM X rk col p r j = A r j ∧ X rk j = 0 := by
    intro r j hr hj hz
    have e1 : X rk j = 0 := by
      rw [← hX]
      unfold scaleM
      rw [if_pos rfl, sw rk j hrk hz, hz rk (by omega) hrk, Nat.zero_mul, Nat.zero_mod]
    refine ⟨?_, e1⟩
    have e2 : X r j = A r j := by
      by_cases e : r = rk
      · rw [e, e1, hz rk (by omega) hrk]
      · rw [← hX]
        unfold scaleM
        rw [if_neg e, sw r j hr hz]
    unfold clearM
    by_cases e : r = rk ∨ X r col = 0
    · rw [if_pos e, e2]
    · rw [if_neg e, e1, Nat.mul_zero, e2]
      exact rsd_sub0 (hA r j hr hj) (Nat.zero_mod p)
  have hcl : ∀ r, r < R → clearM X rk col p r col = if r = rk then 1 else 0 := by
    intro r hr
    unfold clearM
    by_cases e : r = rk
    · rw [if_pos (Or.inl e), if_pos e, e, x1]
    · rw [if_neg e]
      by_cases e2 : X r col = 0
      · rw [if_pos (Or.inr e2), e2]
      · rw [if_neg (by omega), x1, Nat.mul_one]
        exact rsd_self rfl
  refine ⟨⟨hb3, by omega, fun k hk => ?_, fun k k' h1 h2 => ?_, fun k r hk hr => ?_, fun r j h1 h2 h3 => ?_, fun r j h1 h2 => ?_⟩, ?_, ?_⟩
  · dsimp only
    by_cases e : k = rk
    · rw [if_pos e]; omega
    · rw [if_neg e]; have := hpv k (by omega); omega
  · dsimp only
    rw [if_neg (by omega)]
    by_cases e : k' = rk
    · rw [if_pos e]; exact hpv k (by omega)
    · rw [if_neg e]; exact hmono k k' h1 (by omega)
  · dsimp only
    by_cases e : k = rk
    · rw [if_pos e, hcl r hr, e]
    · rw [if_neg e]
      have hk' : k < rk := by omega
      rw [(keep r (pv k) hr (by have := hpv k hk'; omega) fun q q1 q2 => by rw [hunit k q hk' q2, if_neg (by omega)]).1]
      exact hunit k r hk' hr
  · by_cases e : j = col
    · rw [e, hcl r h2, if_neg (by omega)]
    · rw [(keep r j h2 (by omega) fun q q1 q2 => hzero q j q1 q2 (by omega)).1]
      exact hzero r j (by omega) h2 (by omega)
  · dsimp only at h2
    by_cases e : r = rk
    · rw [if_pos e] at h2
      rw [(keep r j (by omega) (by omega) fun q q1 q2 => hzero q j q1 q2 h2).1]
      exact hzero r j (by omega) (by omega) h2
    · rw [if_neg e] at h2
      have := hpv r (by omega)
      rw [(keep r j (by omega) (by omega) fun q q1 q2 => hzero q j q1 q2 (by omega)).1]
      exact hech r j (by omega) h2
  · rw [← hX]
    exact ((rIn_swap hfR hrk).1.tr (rIn_scale hrk (by omega) (g := A f col) (by rw [Nat.mul_comm, hinv, Nat.mod_eq_of_lt (by omega)])).1).tr (rIn_clear hrk (by omega)).1
  · rw [← hX]
    exact (rIn_clear hrk (by omega)).2.tr ((rIn_scale hrk (by omega) (g := A f col) (by rw [Nat.mul_comm, hinv, Nat.mod_eq_of_lt (by omega)])).2.tr (rIn_swap hfR hrk).2)
theorem red_ec {p R C : Nat} (hp : p ∈ prs) : ∀ {n rk col d : Nat} {A : Nat → Nat → Nat} {pv : Nat → Nat}, col + n = C → EC p R C rk col A pv → EC p R C (redF p R C n rk col d A pv).1 C (redF p R C n rk col d A pv).2.2.1 (redF p R C n rk col d A pv).2.2.2 ∧ rIn p R C A (redF p R C n rk col d A pv).2.2.1 ∧ rIn p R C (redF p R C n rk col d A pv).2.2.1 A
  | 0, rk, col, d, A, pv, hc, H => by
    obtain rfl : col = C := by omega
    exact ⟨H, rIn.rf, rIn.rf⟩
  | n + 1, rk, col, d, A, pv, hc, H => by
    unfold redF
    by_cases hR : R ≤ rk
    · rw [if_pos hR]
      have h1 : ∀ k, k < rk → pv k < C := fun k hk => by have := H.2.2.1 k hk; omega
      have h2 : ∀ r j, rk ≤ r → r < R → j < C → A r j = 0 := fun r j a b _ => by omega
      exact ⟨⟨H.1, H.2.1, h1, H.2.2.2.1, H.2.2.2.2.1, h2, H.2.2.2.2.2.2⟩, rIn.rf, rIn.rf⟩
    · rw [if_neg hR]
      cases hf : pivF A col (R - rk) rk with
      | none =>
        dsimp only
        refine red_ec (C := C) (n := n) (col := col + 1) hp (by omega) ⟨H.1, H.2.1, fun k hk => ?_, H.2.2.2.1, H.2.2.2.2.1, fun r j h1 h2 h3 => ?_, H.2.2.2.2.2.2⟩
        · have := H.2.2.1 k hk
          omega
        · by_cases e : j = col
          · rw [e]; exact pivF_none hf r h1 (by omega)
          · exact H.2.2.2.2.2.1 r j h1 h2 (by omega)
      | some f =>
        dsimp only
        have hs := pivF_some hf
        obtain ⟨a1, a2, a3⟩ := ec_step hp H (by omega) (by omega) hs.1 (by omega) hs.2.2
        obtain ⟨b1, b2, b3⟩ := red_ec (C := C) (n := n) (col := col + 1) (d := ((if f = rk then d else rsd (-(d : Int)) p) * swapM A f rk rk col % p)) hp (by omega) a1
        exact ⟨b1, a2.tr b2, b3.tr a3⟩
