/-! both eliminations have one rank and one determinant -/
def prs : List Nat := [13, 17, 19, 23, 29, 31, 37, 41, 43, 47, 53, 59, 61, 67, 71, 73, 79, 83, 89, 97]
set_option maxRecDepth 100000 in
theorem fermat_all : ∀ p ∈ prs, ∀ y, y < p → y ≠ 0 → y * (y ^ (p - 2) % p) % p = 1 := by decide +kernel
theorem prs_b : ∀ p ∈ prs, 13 ≤ p ∧ p ≤ 97 := by decide
theorem fermat {p y : Nat} (hp : p ∈ prs) (hy : y < p) (h0 : y ≠ 0) : y * invF y p % p = 1 := fermat_all p hp y hy h0
theorem rsd_eq {z z' : Int} {p : Nat} (h : z % p = z' % p) : rsd z p = rsd z' p := by
  unfold rsd
  rw [h]
theorem rsd_sub {a n m p : Nat} (h : n % p = m % p) : rsd ((a : Int) - n) p = rsd ((a : Int) - m) p := by
  apply rsd_eq
  rw [Int.sub_emod, Int.sub_emod (a : Int) m]
  have : ((n : Int) % p) = ((m : Int) % p) := by
    rw [← Int.natCast_emod, ← Int.natCast_emod, h]
  rw [this]
theorem rsd_sub0 {a n p : Nat} (ha : a < p) (h : n % p = 0) : rsd ((a : Int) - n) p = a := by
  rw [rsd_sub (m := 0) (by rw [h, Nat.zero_mod]), show ((a : Int) - (0 : Nat)) = (a : Nat) by omega, rsd_nat, Nat.mod_eq_of_lt ha]
theorem rsd_self {a n p : Nat} (h : n % p = a % p) : rsd ((a : Int) - n) p = 0 := by
  rw [rsd_sub (m := a) h]
  show ((((a : Int) - a) % p).toNat) = 0
  rw [Int.sub_self]
  simp
theorem pivF_congr {A B : Nat → Nat → Nat} {c : Nat} : ∀ {n r : Nat}, (∀ q, r ≤ q → q < r + n → A q c = B q c) → pivF A c n r = pivF B c n r
  | 0, _, _ => rfl
  | n + 1, r, h => by
    unfold pivF
    rw [h r (by omega) (by omega), pivF_congr (n := n) (r := r + 1) fun q h1 h2 => h q (by omega) (by omega)]
theorem step_same {A B : Nat → Nat → Nat} {p R C rk col b : Nat} (hp : 0 < p) (hA : bdM A R C p) (hB : bdM B R C p) (he : ∀ r c, rk ≤ r → r < R → c < C → A r c = B r c) (hz : ∀ r c, rk ≤ r → r < R → c < col → c < C → A r c = 0) (hk : rk < R) (hc : col < C) (hb : B rk col * b % p = 1) :
    (∀ r c, rk + 1 ≤ r → r < R → c < C → clearM (scaleM A rk b p) rk col p r c = elimM B rk col b p r c) ∧ ∀ r c, rk + 1 ≤ r → r < R → c < col + 1 → c < C → clearM (scaleM A rk b p) rk col p r c = 0 := by
  have e1 : ∀ r c, rk + 1 ≤ r → r < R → c < C → clearM (scaleM A rk b p) rk col p r c = if A r col = 0 then A r c else rsd ((A r c : Int) - (A r col * (A rk c * b % p) : Nat)) p := by
    intro r c h1 h2 h3
    have hs : ∀ c, scaleM A rk b p r c = A r c := fun c => if_neg (by omega)
    have hs2 : scaleM A rk b p rk c = A rk c * b % p := if_pos rfl
    unfold clearM
    rw [hs, hs, hs2]
    by_cases h : A r col = 0
    · rw [if_pos (Or.inr h), if_pos h]
    · rw [if_neg (by omega), if_neg h]
  constructor
  · intro r c h1 h2 h3
    rw [e1 r c h1 h2 h3, he r c (by omega) h2 h3, he r col (by omega) h2 hc, he rk c (Nat.le_refl _) hk h3]
    have hbb := hB r c h2 h3
    unfold elimM
    by_cases h : B r col = 0
    · rw [if_pos h, h, Nat.zero_mul, Nat.zero_mod, if_neg (by omega)]
    · rw [if_neg h]
      by_cases h4 : col ≤ c
      · by_cases h5 : B r col * b % p = 0
        · rw [h5, if_neg (by omega)]
          refine rsd_sub0 hbb ?_
          rw [Nat.mul_mod_mod, Nat.mul_comm (B rk c), ← Nat.mul_assoc, Nat.mul_mod, h5, Nat.zero_mul, Nat.zero_mod]
        · rw [if_pos ⟨by omega, h4, by omega⟩]
          refine rsd_sub ?_
          rw [Nat.mul_mod_mod, Nat.mod_mul_mod, Nat.mul_comm (B rk c), Nat.mul_assoc]
      · rw [if_neg (by omega)]
        have z1 := hz rk c (Nat.le_refl _) hk (by omega) h3
        rw [he rk c (Nat.le_refl _) hk h3] at z1
        rw [z1]
        refine rsd_sub0 hbb ?_
        rw [Nat.zero_mul, Nat.zero_mod, Nat.mul_zero, Nat.zero_mod]
  · intro r c h1 h2 h3 h4
    rw [e1 r c h1 h2 h4]
    by_cases h5 : c = col
    · subst h5
      by_cases h : A r c = 0
      · rw [if_pos h, h]
      · rw [if_neg h, he rk c (Nat.le_refl _) hk hc, hb]
        exact rsd_self (by rw [Nat.mul_one])
    · have z1 := hz rk c (Nat.le_refl _) hk (by omega) h4
      have z2 := hz r c (by omega) h2 (by omega) h4
      rw [z1, z2]
      split
      · rfl
      · exact rsd_sub0 hp (by rw [Nat.zero_mul, Nat.zero_mod, Nat.mul_zero, Nat.zero_mod])
theorem swap_same {A B : Nat → Nat → Nat} {R C rk col f : Nat} (he : ∀ r c, rk ≤ r → r < R → c < C → A r c = B r c) (hz : ∀ r c, rk ≤ r → r < R → c < col → c < C → A r c = 0) (h1 : rk ≤ f) (h2 : f < R) : (∀ r c, rk ≤ r → r < R → c < C → swapM A f rk r c = swapM B f rk r c) ∧ ∀ r c, rk ≤ r → r < R → c < col → c < C → swapM A f rk r c = 0 := by
  constructor
  · intro r c q1 q2 q3
    unfold swapM
    rw [he rk c (Nat.le_refl _) (by omega) q3, he f c h1 h2 q3, he r c q1 q2 q3]
  · intro r c q1 q2 q3 q4
    unfold swapM
    rw [hz rk c (Nat.le_refl _) (by omega) q3 q4, hz f c h1 h2 q3 q4, hz r c q1 q2 q3 q4]
    split <;> (try split) <;> rfl
theorem redG_full {p R : Nat} {B : Nat → Nat → Nat} : ∀ {n rk col d : Nat}, R ≤ rk → (redG p R n rk col d B).1 = rk
  | 0, rk, col, d, h => rfl
  | n + 1, rk, col, d, h => by
    unfold redG
    rw [show R - rk = 0 by omega]
    show (redG p R n rk (col + 1) 0 B).1 = rk
    exact redG_full h
theorem red_same {p R C : Nat} (hp : p ∈ prs) : ∀ {n rk col d : Nat} {A B : Nat → Nat → Nat} {pv : Nat → Nat}, col + n = C → bdM A R C p → bdM B R C p → (∀ r c, rk ≤ r → r < R → c < C → A r c = B r c) → (∀ r c, rk ≤ r → r < R → c < col → c < C → A r c = 0) →
    (redF p R C n rk col d A pv).1 = (redG p R n rk col d B).1 ∧ (C ≤ R → rk ≤ col → (redF p R C n rk col d A pv).2.1 = (redG p R n rk col d B).2.1)
  | 0, rk, col, d, A, B, pv, _, _, _, _, _ => ⟨rfl, fun _ _ => rfl⟩
  | n + 1, rk, col, d, A, B, pv, hn, hA, hB, he, hz => by
    have pb := prs_b p hp
    by_cases hR : R ≤ rk
    · constructor
      · rw [redG_full hR]
        unfold redF
        rw [if_pos hR]
      · intro h1 h2
        omega
    · have epiv : pivF A col (R - rk) rk = pivF B col (R - rk) rk := pivF_congr fun q h1 h2 => he q col h1 (by omega) (by omega)
      unfold redF redG
      rw [if_neg hR, epiv]
      cases hf : pivF B col (R - rk) rk with
      | none =>
        dsimp only
        have hnone : ∀ r, rk ≤ r → r < R → B r col = 0 := by
          intro r h1 h2
          have : ∀ m q, pivF B col m q = none → ∀ r, q ≤ r → r < q + m → B r col = 0 := by
            intro m
            induction m with
            | zero => intro q _ r h1 h2; omega
            | succ m ih =>
              intro q hq r h1 h2
              unfold pivF at hq
              split at hq
              · next h3 =>
                by_cases h4 : r = q
                · rw [h4]; exact h3
                · exact ih (q + 1) hq r (by omega) (by omega)
              · cases hq
          exact this (R - rk) rk hf r h1 (by omega)
        have ih := red_same (C := C) hp (n := n) (rk := rk) (col := col + 1) (d := 0) (A := A) (B := B) (pv := pv) (by omega) hA hB he (fun r c h1 h2 h3 h4 => by
          by_cases h5 : c = col
          · rw [h5, he r col h1 h2 (by omega)]; exact hnone r h1 h2
          · exact hz r c h1 h2 (by omega) h4)
        exact ⟨ih.1, fun h1 h2 => ih.2 h1 (by omega)⟩
      | some f =>
        dsimp only
        have pf := pivF_some hf
        have s := swap_same he hz pf.1 (show f < R by omega)
        have hA1 := bd_swap (i := f) (j := rk) hA (by omega) (by omega)
        have hB1 := bd_swap (i := f) (j := rk) hB (by omega) (by omega)
        have e0 := s.1 rk col (Nat.le_refl _) (by omega) (by omega)
        have hne : swapM B f rk rk col ≠ 0 := by
          unfold swapM
          by_cases h : rk = f
          · rw [if_pos h]
            rw [← h] at pf
            exact pf.2.2
          · rw [if_neg h, if_pos rfl]
            exact pf.2.2
        have hb := fermat hp (hB1 rk col (by omega) (by omega)) hne
        have st := step_same (b := invF (swapM B f rk rk col) p) (by omega) hA1 hB1 s.1 s.2 (by omega) (by omega) hb
        have ih := red_same (C := C) hp (n := n) (rk := rk + 1) (col := col + 1) (d := (if f = rk then d else rsd (-(d : Int)) p) * swapM B f rk rk col % p) (A := clearM (scaleM (swapM A f rk) rk (invF (swapM B f rk rk col) p) p) rk col p) (B := elimM (swapM B f rk) rk col (invF (swapM B f rk rk col) p) p) (pv := fun k => if k = rk then col else pv k) (by omega) (bd_clear (bd_scale hA1 (by omega)) (by omega)) (bd_elim hB1 (by omega)) (fun r c h1 h2 h3 => st.1 r c h1 h2 h3) (fun r c h1 h2 h3 h4 => st.2 r c h1 h2 h3 h4)
        rw [e0]
        exact ⟨ih.1, fun h1 h2 => ih.2 h1 (by omega)⟩
