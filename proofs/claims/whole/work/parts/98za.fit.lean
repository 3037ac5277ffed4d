/-! points: columns of monomials' values, their pivots are an order ideal -/
def tri : Nat → Nat
  | 0 => 0
  | d + 1 => tri d + (d + 1)
def colN (q : Nat × Nat) : Nat := tri (q.1 + q.2) + q.2
def dec : Nat → Nat × Nat
  | 0 => (0, 0)
  | c + 1 => if (dec c).1 = 0 then ((dec c).2 + 1, 0) else ((dec c).1 - 1, (dec c).2 + 1)
theorem col_dec : ∀ c, colN (dec c) = c
  | 0 => rfl
  | c + 1 => by
    have ih := col_dec c
    unfold colN at ih ⊢
    show tri ((dec (c + 1)).1 + (dec (c + 1)).2) + (dec (c + 1)).2 = c + 1
    unfold dec
    by_cases h : (dec c).1 = 0
    · rw [if_pos h]
      rw [h, Nat.zero_add] at ih
      show tri ((dec c).2 + 1 + 0) + 0 = c + 1
      rw [Nat.add_zero, Nat.add_zero]
      show tri (dec c).2 + ((dec c).2 + 1) = c + 1
      omega
    · rw [if_neg h]
      show tri ((dec c).1 - 1 + ((dec c).2 + 1)) + ((dec c).2 + 1) = c + 1
      rw [show (dec c).1 - 1 + ((dec c).2 + 1) = (dec c).1 + (dec c).2 by omega]
      omega
theorem tri_le {d e : Nat} (h : d ≤ e) : tri d ≤ tri e := by
  induction h with
  | refl => exact Nat.le_refl _
  | step _ ih => exact Nat.le_trans ih (Nat.le_add_right _ _)
theorem tri_lt {d e j : Nat} (h : d < e) (hj : j ≤ d) : tri d + j < tri e := by
  have h1 : tri (d + 1) ≤ tri e := tri_le h
  have h2 : tri (d + 1) = tri d + (d + 1) := rfl
  omega
/-- the order of the columns -/
theorem col_lt {i j i' j' : Nat} : colN (i, j) < colN (i', j') ↔ (i + j < i' + j' ∨ (i + j = i' + j' ∧ j < j')) := by
  show tri (i + j) + j < tri (i' + j') + j' ↔ _
  by_cases h : i + j < i' + j'
  · have := tri_lt h (show j ≤ i + j by omega)
    constructor
    · intro _; exact Or.inl h
    · intro _; omega
  · by_cases h2 : i' + j' < i + j
    · have := tri_lt h2 (show j' ≤ i' + j' by omega)
      constructor
      · intro _; omega
      · intro _; omega
    · have e : i + j = i' + j' := by omega
      rw [e]
      constructor
      · intro _; exact Or.inr ⟨rfl, by omega⟩
      · intro _; omega
theorem col_inj {q q' : Nat × Nat} (h : colN q = colN q') : q = q' := by
  obtain ⟨i, j⟩ := q
  obtain ⟨i', j'⟩ := q'
  have h1 : ¬ colN (i, j) < colN (i', j') := by omega
  have h2 : ¬ colN (i', j') < colN (i, j) := by omega
  rw [col_lt] at h1 h2
  have e1 : i + j = i' + j' := by omega
  have e2 : j = j' := by omega
  exact Prod.ext (by show i = i'; omega) e2
theorem dec_col (q : Nat × Nat) : dec (colN q) = q := col_inj (col_dec _)
theorem col_up {i j i' j' a b : Nat} (h : colN (i, j) < colN (i', j')) : colN (i + a, j + b) < colN (i' + a, j' + b) := by
  rw [col_lt] at h ⊢
  omega
theorem tri_half : ∀ d, d * (d + 1) / 2 = tri d
  | 0 => rfl
  | d + 1 => by
    have ih := tri_half d
    have e : (d + 1) * (d + 1 + 1) = d * (d + 1) + 2 * (d + 1) := by
      rw [Nat.mul_comm d (d + 1), Nat.mul_comm 2 (d + 1), ← Nat.mul_add]
    rw [e, Nat.add_mul_div_left _ _ (by omega), ih]
    rfl
set_option maxRecDepth 20000 in
theorem mons_dec : mons = (List.range 91).map dec := by decide +kernel
/-- values of the monomials at points -/
def valM (p : Nat) (pts : List (Nat × Nat)) : Nat → Nat → Nat := fun q c => mvN p (mx pts q) (my pts q) (dec c).1 (dec c).2
theorem bd_val {p R C : Nat} {pts : List (Nat × Nat)} (h0 : 0 < p) : bdM (valM p pts) R C p := fun _ _ _ _ => Nat.mod_lt _ h0
section
variable {p m : Nat} {pts : List (Nat × Nat)} {B : Nat → Nat → Nat} {pv : Nat → Nat} {rk : Nat}
/-- different points: their rows of values are independent -/
theorem pts_ind (hp : p ∈ prs) {a b : Nat → Nat} : ∀ (n : Nat) (l : Nat → Nat), (∀ q, q < n → a q < p ∧ b q < p) → (∀ q q', q < n → q' < n → a q = a q' → b q = b q' → q = q') → (∀ i j, i + j ≤ n → sm (fun q => l q * (a q ^ i * b q ^ j)) n % p = 0) → ∀ q, q < n → l q % p = 0
  | 0, _, _, _, _, q, hq => by omega
  | n + 1, l, hb, inj, h, q, hq => by
    have pb := prs_b p hp
    have han := hb n (by omega)
    -- times the difference of a coordinate
    have mulx : ∀ (x : Nat → Nat) (hx : ∀ q, q < n + 1 → x q < p), (∀ i j, i + j ≤ n → sm (fun q => l q * (x q * (a q ^ i * b q ^ j))) (n + 1) % p = 0) → ∀ i j, i + j ≤ n → sm (fun q => l q * (x q + (p - x n)) * (a q ^ i * b q ^ j)) n % p = 0 := by
      intro x hx h2 i j hij
      have hm := hx n (by omega)
      have e1 : sm (fun q => l q * (x q + (p - x n)) * (a q ^ i * b q ^ j)) (n + 1) = sm (fun q => l q * (x q * (a q ^ i * b q ^ j))) (n + 1) + (p - x n) * sm (fun q => l q * (a q ^ i * b q ^ j)) (n + 1) := by
        rw [sm_mull, ← sm_add]
        refine sm_congr (n + 1) fun q _ => ?_
        rw [Nat.mul_add, Nat.add_mul, Nat.mul_assoc, Nat.mul_comm (l q) (p - x n), Nat.mul_assoc]
      have e2 : sm (fun q => l q * (x q + (p - x n)) * (a q ^ i * b q ^ j)) (n + 1) % p = 0 := by
        rw [e1, Nat.add_mod, h2 i j hij, Nat.mul_mod, h i j (by omega), Nat.mul_zero, Nat.zero_mod, Nat.zero_add, Nat.zero_mod]
      have e3 : sm (fun q => l q * (x q + (p - x n)) * (a q ^ i * b q ^ j)) (n + 1) = sm (fun q => l q * (x q + (p - x n)) * (a q ^ i * b q ^ j)) n + p * (l n * (a n ^ i * b n ^ j)) := by
        show _ + l n * (x n + (p - x n)) * (a n ^ i * b n ^ j) = _
        rw [show x n + (p - x n) = p by omega, Nat.mul_comm (l n) p, Nat.mul_assoc]
      rw [e3, Nat.add_mul_mod_self_left] at e2
      exact e2
    have hx := mulx a (fun q hq => (hb q hq).1) fun i j hij => by
      rw [sm_congr (n + 1) (g := fun q => l q * (a q ^ (i + 1) * b q ^ j)) fun q _ => by rw [Nat.pow_succ, ← Nat.mul_assoc (a q), Nat.mul_comm (a q)]]
      exact h (i + 1) j (by omega)
    have hy := mulx b (fun q hq => (hb q hq).2) fun i j hij => by
      rw [sm_congr (n + 1) (g := fun q => l q * (a q ^ i * b q ^ (j + 1))) fun q _ => by rw [Nat.pow_succ, Nat.mul_comm (b q), Nat.mul_assoc]]
      exact h i (j + 1) (by omega)
    have ihx := pts_ind hp n _ (fun q hq => hb q (by omega)) (fun q q' h1 h2 => inj q q' (by omega) (by omega)) hx
    have ihy := pts_ind hp n _ (fun q hq => hb q (by omega)) (fun q q' h1 h2 => inj q q' (by omega) (by omega)) hy
    have low : ∀ q, q < n → l q % p = 0 := by
      intro q hq
      have a1 := hb q (by omega)
      by_cases e : a q = a n
      · have e2 : b q ≠ b n := fun z => by have := inj q n (by omega) (by omega) e z; omega
        rcases prime_mul hp (ihy q hq) with z | z
        · exact z
        · exact absurd z (dif_mod a1.2 han.2 e2)
      · rcases prime_mul hp (ihx q hq) with z | z
        · exact z
        · exact absurd z (dif_mod a1.1 han.1 e)
    by_cases hqn : q < n
    · exact low q hqn
    · obtain rfl : q = n := by omega
      have h0 : (sm (fun k => l k * (a k ^ 0 * b k ^ 0)) q + l q * (a q ^ 0 * b q ^ 0)) % p = 0 := h 0 0 (by omega)
      have z : sm (fun k => l k * (a k ^ 0 * b k ^ 0)) q % p = 0 := sm_z fun k hk => by rw [Nat.mul_mod, low k hk, Nat.zero_mul, Nat.zero_mod]
      rw [Nat.add_mod, z, Nat.zero_add, Nat.mod_mod, Nat.pow_zero, Nat.pow_zero, Nat.mul_one] at h0
      exact h0
theorem col_C {i j m : Nat} (h : i + j ≤ m) : colN (i, j) < tri (m + 1) := tri_lt (j := j) (show i + j < m + 1 by omega) (by omega)
theorem val_full (hp : p ∈ prs) (hpts : pin pts p) (H : RD p pts.length (tri (pts.length + 1)) (valM p pts) B rk pv) : rk = pts.length := by
  have pb := prs_b p hp
  refine H.full hp fun l hl => ?_
  have lt : ∀ q, q < pts.length → pts.getD q (0, 0) ∈ pts := fun q hq => by
    rw [List.getD_eq_getElem?_getD, List.getElem?_eq_getElem hq]
    exact List.getElem_mem hq
  refine pts_ind hp (a := mx pts) (b := my pts) pts.length l (fun q hq => hpts.2.2 _ (lt q hq)) (fun q q' h1 h2 e1 e2 => ?_) fun i j hij => ?_
  · have e : pts.getD q (0, 0) = pts.getD q' (0, 0) := Prod.ext e1 e2
    rw [List.getD_eq_getElem?_getD, List.getElem?_eq_getElem h1, List.getD_eq_getElem?_getD, List.getElem?_eq_getElem h2] at e
    exact (List.getElem_inj hpts.2.1).mp e
  · have := hl (colN (i, j)) (col_C hij)
    rw [← this]
    refine sm_lin fun q _ => ?_
    unfold valM
    rw [dec_col, mvN_eq, Nat.mod_mod]
/-- a pivot column is no combination of columns ahead of it -/
theorem RD.new2 {R C : Nat} {A : Nat → Nat → Nat} (hp2 : 2 ≤ p) (H : RD p R C A B rk pv) {k N : Nat} (hk : k < rk) {x f : Nat → Nat} (hf : ∀ m, m < N → f m < pv k) (h : ∀ s, s < R → A s (pv k) % p = sm (fun m => x m * A s (f m)) N % p) : False := by
  obtain ⟨⟨hB, hrk, hpv, hmono, hunit, hzero, hech⟩, ⟨E, hE⟩, -⟩ := H
  have e1 : sm (fun s => E k s * A s (pv k)) R % p = sm (fun s => E k s * sm (fun m => x m * A s (f m)) N) R % p := sm_lin h
  rw [← hE k (pv k) (by omega) (hpv k hk), hunit k k hk (by omega), if_pos rfl, sm_ex (fun s => E k s) x (fun m s => A s (f m))] at e1
  rw [sm_z (p := p) (n := N) (f := fun m => x m * sm (fun s => E k s * A s (f m)) R) fun m hm => by
    have hpk := hpv k hk
    have hfm := hf m hm
    rw [Nat.mul_mod, ← hE k (f m) (by omega) (by omega), hech k (f m) hk hfm, Nat.zero_mod, Nat.mul_zero, Nat.zero_mod], Nat.mod_eq_of_lt (by omega)] at e1
  omega
/-- divisors of pivots are pivots -/
theorem piv_div (hp : p ∈ prs) {R C : Nat} (H : RD p R C (valM p pts) B rk pv) {i j a b : Nat} (hab : (a = 1 ∧ b = 0) ∨ (a = 0 ∧ b = 1)) {k : Nat} (hk : k < rk) (e : pv k = colN (i + a, j + b)) : ∃ k', k' < rk ∧ pv k' = colN (i, j) := by
  have pb := prs_b p hp
  refine Classical.byContradiction fun hno => ?_
  have hpk := H.1.2.2.1 k hk
  have hlt : colN (i, j) < colN (i + a, j + b) := by rw [col_lt]; omega
  -- column (i, j) is a combination of pivots ahead of it
  have hc : ∀ s, s < R → valM p pts s (colN (i, j)) % p = sm (fun m => B m (colN (i, j)) * valM p pts s (pv m)) rk % p := fun s hs => H.comb hs (by omega)
  have step : ∀ s c, valM p pts s (colN ((dec c).1 + a, (dec c).2 + b)) % p = (if a = 1 then mx pts s else my pts s) * valM p pts s c % p := by
    intro s c
    unfold valM
    rw [dec_col]
    rcases hab with ⟨rfl, rfl⟩ | ⟨rfl, rfl⟩
    · rw [if_pos rfl, ← mvN_x]
      exact Nat.mod_mod _ _
    · rw [if_neg (by omega), ← mvN_y]
      exact Nat.mod_mod _ _
  refine H.new2 (by omega) hk (N := rk) (x := fun m => B m (colN (i, j))) (f := fun m => if pv m < colN (i, j) then colN ((dec (pv m)).1 + a, (dec (pv m)).2 + b) else 0) (fun m hm => ?_) fun s hs => ?_
  · by_cases hlt2 : pv m < colN (i, j)
    · rw [if_pos hlt2, e]
      rw [← col_dec (pv m)] at hlt2
      exact col_up hlt2
    · rw [if_neg hlt2, e]; omega
  · rw [e]
    have h1 := step s (colN (i, j))
    rw [dec_col] at h1
    rw [h1, mul_modr (hc s hs), sm_mull]
    refine sm_modc fun m hm => ?_
    by_cases hlt2 : pv m < colN (i, j)
    · rw [if_pos hlt2, ← Nat.mul_assoc, Nat.mul_comm _ (B m _), Nat.mul_assoc]
      exact mul_modr (step s (pv m)).symm
    · have hne : pv m ≠ colN (i, j) := fun z => hno ⟨m, hm, z⟩
      rw [H.above hm (by omega), Nat.zero_mul, Nat.mul_zero, Nat.zero_mul]
end
