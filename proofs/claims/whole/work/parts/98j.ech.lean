/-! what the echelon form tells of the matrix itself -/
/-- a matrix, its reduced form, rank and pivots -/
def RD (p R C : Nat) (A B : Nat → Nat → Nat) (rk : Nat) (pv : Nat → Nat) : Prop := EC p R C rk C B pv ∧ rIn p R C A B ∧ rIn p R C B A
theorem red_RD {p R C d : Nat} (hp : p ∈ prs) {A : Nat → Nat → Nat} {pv : Nat → Nat} (hA : bdM A R C p) : RD p R C A (redF p R C C 0 0 d A pv).2.2.1 (redF p R C C 0 0 d A pv).1 (redF p R C C 0 0 d A pv).2.2.2 :=
  red_ec hp (by omega) ⟨hA, Nat.zero_le _, fun k hk => by omega, fun k k' _ h => by omega, fun k r hk => by omega, fun r j _ _ h => by omega, fun r j h => by omega⟩
section
variable {p R C rk : Nat} {A B : Nat → Nat → Nat} {pv : Nat → Nat}
/-- each column is a combination of the pivot columns -/
theorem RD.comb (H : RD p R C A B rk pv) {s j : Nat} (hs : s < R) (hj : j < C) : A s j % p = sm (fun k => B k j * A s (pv k)) rk % p := by
  obtain ⟨⟨hB, hrk, hpv, hmono, hunit, hzero, hech⟩, -, ⟨F, hF⟩⟩ := H
  have e1 : ∀ k, k < rk → A s (pv k) % p = F s k % p := by
    intro k hk
    rw [hF s (pv k) hs (hpv k hk), sm_congr R (g := fun r => F s r * (if r = k then 1 else 0)) fun r hr => by rw [hunit k r hk hr], sm_del, if_pos (by omega)]
  rw [hF s j hs hj, sm_cut hrk fun k h1 h2 => by rw [hzero k j h1 h2 hj, Nat.mul_zero]]
  rw [sm_lin (e := fun k => B k j) (a := fun k => A s (pv k)) (b := fun k => F s k) e1]
  congr 1
  exact sm_congr rk fun k _ => Nat.mul_comm _ _
/-- the pivot columns are independent -/
theorem RD.ind (H : RD p R C A B rk pv) {x : Nat → Nat} (h : ∀ s, s < R → sm (fun k => x k * A s (pv k)) rk % p = 0) {k : Nat} (hk : k < rk) : x k % p = 0 := by
  obtain ⟨⟨hB, hrk, hpv, hmono, hunit, hzero, hech⟩, ⟨E, hE⟩, -⟩ := H
  have e1 : sm (fun s => E k s * sm (fun m => x m * A s (pv m)) rk) R % p = 0 := sm_z fun s hs => by rw [Nat.mul_mod, h s hs, Nat.mul_zero, Nat.zero_mod]
  rw [sm_ex (fun s => E k s) x (fun m s => A s (pv m))] at e1
  rw [sm_lin (e := x) (a := fun m => sm (fun s => E k s * A s (pv m)) R) (b := fun m => if m = k then 1 else 0) fun m hm => by
    rw [← hE k (pv m) (by omega) (hpv m hm), hunit m k hm (by omega)]
    by_cases e : k = m
    · rw [if_pos e, if_pos e.symm]
    · rw [if_neg e, if_neg fun z => e z.symm], sm_del, if_pos hk] at e1
  exact e1
/-- no pivot column is a combination of the columns ahead of it -/
theorem RD.new (hp2 : 2 ≤ p) (H : RD p R C A B rk pv) {k : Nat} (hk : k < rk) {y : Nat → Nat} (h : ∀ s, s < R → A s (pv k) % p = sm (fun j => y j * A s j) (pv k) % p) : False := by
  obtain ⟨⟨hB, hrk, hpv, hmono, hunit, hzero, hech⟩, ⟨E, hE⟩, -⟩ := H
  have e1 : sm (fun s => E k s * A s (pv k)) R % p = sm (fun s => E k s * sm (fun j => y j * A s j) (pv k)) R % p := sm_lin h
  rw [← hE k (pv k) (by omega) (hpv k hk), hunit k k hk (by omega), if_pos rfl, sm_ex (fun s => E k s) y (fun m s => A s m)] at e1
  rw [sm_z (p := p) (n := pv k) (f := fun j => y j * sm (fun s => E k s * A s j) R) fun j hj => by
    have hpk := hpv k hk
    rw [Nat.mul_mod, ← hE k j (by omega) (by omega), hech k j hk hj, Nat.zero_mod, Nat.mul_zero, Nat.zero_mod], Nat.mod_eq_of_lt (by omega)] at e1
  omega
/-- the pivots ascend: there are no more than columns -/
theorem RD.le (H : RD p R C A B rk pv) : ∀ k, k < rk → k ≤ pv k
  | 0, _ => Nat.zero_le _
  | k + 1, h => by
    have h1 := H.le k (by omega)
    have h2 := H.1.2.2.2.1 k (k + 1) (by omega) h
    omega
theorem RD.leC (H : RD p R C A B rk pv) : rk ≤ C := by
  cases rk with
  | zero => omega
  | succ k =>
    have h1 := H.le k (by omega)
    have h2 := H.1.2.2.1 k (by omega)
    omega
/-- an entry of the reduced form is 0 right of its column -/
theorem RD.above (H : RD p R C A B rk pv) {k j : Nat} (hk : k < rk) (hj : j < pv k) : B k j = 0 := H.1.2.2.2.2.2.2 k j hk hj
/-- independent rows: the rank is their number -/
theorem RD.full (hp : p ∈ prs) (H : RD p R C A B rk pv) (h : ∀ l : Nat → Nat, (∀ j, j < C → sm (fun s => l s * A s j) R % p = 0) → ∀ s, s < R → l s % p = 0) : rk = R := by
  refine Classical.byContradiction fun hne => ?_
  have hrk := H.1.2.1
  obtain ⟨c, ⟨i, hi, hc⟩, hz⟩ := dim_rel hp rk (fun s k => A s (pv k))
  have ext : ∀ g : Nat → Nat, sm (fun s => (if s < rk + 1 then c s else 0) * g s) R = sm (fun s => c s * g s) (rk + 1) := by
    intro g
    rw [sm_cut (m := rk + 1) (by omega) fun k h1 _ => by rw [if_neg (by omega), Nat.zero_mul]]
    exact sm_congr (rk + 1) fun s hs => by rw [if_pos hs]
  have hl := h (fun s => if s < rk + 1 then c s else 0) (fun j hj => by
    rw [ext fun s => A s j]
    rw [sm_lin (e := c) (a := fun s => A s j) (b := fun s => sm (fun k => B k j * A s (pv k)) rk) fun s hs => H.comb (by omega) hj]
    rw [sm_ex c (fun k => B k j) (fun k s => A s (pv k))]
    exact sm_z fun k hk => by rw [Nat.mul_mod, hz k hk, Nat.mul_zero, Nat.zero_mod]) i (by omega)
  rw [if_pos hi] at hl
  exact hc hl
/-- a row that is a combination of those ahead of it: the rank is less -/
theorem RD.dep (hp : p ∈ prs) {R : Nat} (H : RD p (R + 1) C A B rk pv) {μ : Nat → Nat} (h : ∀ j, j < C → A R j % p = sm (fun s => μ s * A s j) R % p) : rk ≤ R := by
  refine Classical.byContradiction fun hno => ?_
  have hrk := H.1.2.1
  obtain rfl : rk = R + 1 := by omega
  obtain ⟨⟨hB, -, hpv, hmono, hunit, hzero, hech⟩, ⟨E, hE⟩, -⟩ := H
  have pb := prs_b p hp
  have g1 : ∀ r k, r < R + 1 → k < R + 1 → (if r = k then 1 else 0) % p = sm (fun s => (E r s + E r R * μ s) * A s (pv k)) R % p := by
    intro r k hr hk
    rw [← hunit k r hk hr, hE r (pv k) hr (hpv k hk)]
    show (sm (fun s => E r s * A s (pv k)) R + E r R * A R (pv k)) % p = _
    rw [sm_congr R (f := fun s => (E r s + E r R * μ s) * A s (pv k)) (g := fun s => E r s * A s (pv k) + E r R * (μ s * A s (pv k))) fun s _ => by rw [Nat.add_mul, Nat.mul_assoc], sm_add, ← sm_mull, Nat.add_mod, mul_modr (h (pv k) (hpv k hk)), ← Nat.add_mod]
  obtain ⟨c, ⟨i, hi, hc⟩, hz⟩ := dim_rel hp R (fun r s => E r s + E r R * μ s)
  have e1 : sm (fun r => c r * sm (fun s => (E r s + E r R * μ s) * A s (pv i)) R) (R + 1) % p = c i % p := by
    rw [← sm_lin (e := c) (a := fun r => if r = i then 1 else 0) fun r hr => g1 r i hr hi, sm_del, if_pos hi]
  have e2 : sm (fun r => c r * sm (fun s => (E r s + E r R * μ s) * A s (pv i)) R) (R + 1) % p = 0 := by
    rw [sm_congr (R + 1) (g := fun r => c r * sm (fun s => A s (pv i) * (E r s + E r R * μ s)) R) fun r _ => by rw [sm_congr R fun s _ => Nat.mul_comm _ _]]
    rw [sm_ex c (fun s => A s (pv i)) (fun s r => E r s + E r R * μ s)]
    exact sm_z fun s hs => by rw [Nat.mul_mod, hz s hs, Nat.mul_zero, Nat.zero_mod]
  exact hc (e1.symm.trans e2)
/-- fewer pivots than columns: the columns are not independent -/
theorem RD.ker (hp : p ∈ prs) (H : RD p R C A B rk pv) (h : rk < C) : ∃ x : Nat → Nat, (∃ j, j < C ∧ x j % p ≠ 0) ∧ ∀ s, s < R → sm (fun j => x j * A s j) C % p = 0 := by
  obtain ⟨c, ⟨i, hi, hc⟩, hz⟩ := dim_rel hp rk (fun j k => B k j)
  refine ⟨fun j => if j < rk + 1 then c j else 0, ⟨i, by omega, by dsimp only; rw [if_pos hi]; exact hc⟩, fun s hs => ?_⟩
  dsimp only
  rw [sm_cut (m := rk + 1) (by omega) fun k h1 _ => by rw [if_neg (by omega), Nat.zero_mul], sm_congr (rk + 1) (g := fun j => c j * A s j) fun j hj => by rw [if_pos hj]]
  rw [sm_lin (e := c) (a := fun j => A s j) (b := fun j => sm (fun k => A s (pv k) * B k j) rk) fun j hj => by
    rw [H.comb hs (by omega), sm_congr rk fun k _ => Nat.mul_comm _ _]]
  rw [sm_ex c (fun k => A s (pv k)) (fun k j => B k j)]
  exact sm_z fun k hk => by rw [Nat.mul_mod, hz k hk, Nat.mul_zero, Nat.zero_mod]
end
theorem sm_sh (f : Nat → Nat) : ∀ n, sm f (n + 1) = f 0 + sm (fun k => f (k + 1)) n
  | 0 => by show 0 + f 0 = f 0 + 0; omega
  | n + 1 => by
    show sm f (n + 1) + f (n + 1) = f 0 + (sm (fun k => f (k + 1)) n + f (n + 1))
    rw [sm_sh f n]
    omega
/-- columns e, X e, X X e, ..: once one is a combination of those ahead, so are all after it -/
theorem kry_all {n p k : Nat} {X : Nat → Nat → Nat} {v : Nat → Nat} {x : Nat → Nat} (h : ∀ s, s < n → itV n p X v k s % p = sm (fun m => x m * itV n p X v m s) k % p) : ∀ d, ∃ y : Nat → Nat, ∀ s, s < n → itV n p X v (k + d) s % p = sm (fun m => y m * itV n p X v m s) k % p
  | 0 => ⟨x, h⟩
  | d + 1 => by
    obtain ⟨y, hy⟩ := kry_all h d
    have e1 : ∀ s, s < n → itV n p X v (k + (d + 1)) s % p = sm (fun m => y m * itV n p X v (m + 1) s) k % p := by
      intro s hs
      show sm (fun c => X s c * itV n p X v (k + d) c) n % p % p = _
      rw [Nat.mod_mod, sm_lin (e := fun c => X s c) hy, sm_ex (fun c => X s c) y (fun m c => itV n p X v m c)]
      refine sm_lin fun m _ => ?_
      show _ = sm (fun c => X s c * itV n p X v m c) n % p % p
      rw [Nat.mod_mod]
    cases k with
    | zero => exact ⟨y, fun s hs => e1 s hs⟩
    | succ k =>
      refine ⟨fun m => (if m = 0 then 0 else y (m - 1)) + y k * x m, fun s hs => ?_⟩
      rw [e1 s hs]
      show (sm (fun m => y m * itV n p X v (m + 1) s) k + y k * itV n p X v (k + 1) s) % p = _
      rw [Nat.add_mod, mul_modr (h s hs), ← Nat.add_mod]
      congr 1
      rw [sm_congr (k + 1) (f := fun m => ((if m = 0 then 0 else y (m - 1)) + y k * x m) * itV n p X v m s) (g := fun m => (if m = 0 then 0 else y (m - 1)) * itV n p X v m s + y k * (x m * itV n p X v m s)) fun m _ => by rw [Nat.add_mul, Nat.mul_assoc], sm_add, ← sm_mull]
      congr 1
      rw [sm_sh, if_pos rfl, Nat.zero_mul, Nat.zero_add]
      exact sm_congr k fun m _ => by rw [if_neg (by omega)]; rfl
/-- the pivots of such columns are the first ones -/
theorem kry_pv {n p rk : Nat} (hp2 : 2 ≤ p) {X K B : Nat → Nat → Nat} {pv : Nat → Nat} (hK : ∀ s j, s < n → j < n + 1 → K s j = itV n p X e0V j s) (H : RD p n (n + 1) K B rk pv) : ∀ k, k < rk → pv k = k := by
  have key : ∀ m k, k < m → k < rk → pv k = k := by
    intro m
    induction m with
    | zero => intro k h _; omega
    | succ m ih =>
      intro k hkm hk
      have hle := H.le k hk
      refine Classical.byContradiction fun hne => ?_
      have hgt : k < pv k := by omega
      have hpk := H.1.2.2.1 k hk
      have hcol : ∀ s, s < n → itV n p X e0V k s % p = sm (fun m => B m k * itV n p X e0V m s) k % p := by
        intro s hs
        have h1 := H.comb (j := k) hs (by omega)
        rw [hK s k hs (by omega)] at h1
        rw [h1, sm_cut (m := k) (by omega) fun q h1 h2 => by
          have h3 : k < pv q := by
            by_cases e : q = k
            · rw [e]; exact hgt
            · have := H.1.2.2.2.1 k q (by omega) h2
              omega
          rw [H.above h2 h3, Nat.zero_mul]]
        congr 1
        refine sm_congr k fun q hq => ?_
        rw [ih q (by omega) (by omega), hK s q hs (by omega)]
      obtain ⟨y, hy⟩ := kry_all hcol (pv k - k)
      refine H.new hp2 hk (y := fun j => if j < k then y j else 0) fun s hs => ?_
      rw [hK s (pv k) hs hpk, show itV n p X e0V (pv k) s = itV n p X e0V (k + (pv k - k)) s by rw [show k + (pv k - k) = pv k by omega], hy s hs, sm_cut (f := fun j => (if j < k then y j else 0) * K s j) (m := k) (by omega) fun q h1 h2 => by rw [if_neg (by omega), Nat.zero_mul]]
      refine congrArg (· % p) (sm_congr k fun q hq => ?_)
      rw [if_pos hq, hK s q hs (by omega)]
  exact fun k hk => key (k + 1) k (by omega) hk
/-- column number rank is the combination of those ahead that the reduced form shows -/
theorem kry_rel {n p rk : Nat} (hp2 : 2 ≤ p) {X K B : Nat → Nat → Nat} {pv : Nat → Nat} (hK : ∀ s j, s < n → j < n + 1 → K s j = itV n p X e0V j s) (H : RD p n (n + 1) K B rk pv) : rk ≤ n ∧ ∀ s, s < n → itV n p X e0V rk s % p = sm (fun k => B k rk * itV n p X e0V k s) rk % p := by
  have hrk := H.1.2.1
  refine ⟨hrk, fun s hs => ?_⟩
  have h1 := H.comb (j := rk) hs (by omega)
  rw [hK s rk hs (by omega)] at h1
  rw [h1]
  congr 1
  exact sm_congr rk fun k hk => by rw [kry_pv hp2 hK H k hk, hK s k hs (by omega)]
