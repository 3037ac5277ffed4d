/-! the pivots' monomials are an order ideal: its heights, its list -/
def inP (rk : Nat) (pv : Nat → Nat) (q : Nat × Nat) : Bool := (List.range rk).any fun k => decide (pv k = colN q)
theorem inP_iff {rk : Nat} {pv : Nat → Nat} {q : Nat × Nat} : inP rk pv q = true ↔ ∃ k, k < rk ∧ pv k = colN q := by
  unfold inP
  rw [List.any_eq_true]
  constructor
  · rintro ⟨k, h1, h2⟩
    exact ⟨k, List.mem_range.mp h1, of_decide_eq_true h2⟩
  · rintro ⟨k, h1, h2⟩
    exact ⟨k, List.mem_range.mpr h1, decide_eq_true h2⟩
/-- the heights that the class counts -/
def htP (rk : Nat) (pv : Nat → Nat) (i : Nat) : Nat := sm (fun k => if (dec (pv k)).1 = i then 1 else 0) rk
theorem sm_down {f : Nat → Bool} : ∀ n, (∀ j, j + 1 < n → f (j + 1) = true → f j = true) → ∀ j, j < n → (f j = true ↔ j < sm (fun j => b1 (f j)) n)
  | 0, _, j, h => by omega
  | n + 1, hd, j, hj => by
    have ih := sm_down n (fun j h => hd j (by omega))
    have top : ∀ m, sm (fun j => b1 (f j)) m ≤ m := by
      intro m
      induction m with
      | zero => exact Nat.le_refl _
      | succ m ih2 =>
        show sm (fun j => b1 (f j)) m + b1 (f m) ≤ m + 1
        have : b1 (f m) ≤ 1 := by cases f m <;> decide
        omega
    show f j = true ↔ j < sm (fun j => b1 (f j)) n + b1 (f n)
    cases hn : f n with
    | false =>
      show f j = true ↔ j < sm (fun j => b1 (f j)) n + 0
      rw [Nat.add_zero]
      by_cases e : j = n
      · rw [e, hn]
        have := top n
        constructor
        · intro z; cases z
        · intro z; omega
      · exact ih j (by omega)
    | true =>
      -- everything below is there
      have all : ∀ d j, j + d = n → f j = true := by
        intro d
        induction d with
        | zero => intro j e; rw [show j = n by omega]; exact hn
        | succ d ih2 => intro j e; exact hd j (by omega) (ih2 (j + 1) (by omega))
      have full : ∀ m, m ≤ n → sm (fun j => b1 (f j)) m = m := by
        intro m
        induction m with
        | zero => intro _; rfl
        | succ m ih2 =>
          intro h
          show sm (fun j => b1 (f j)) m + b1 (f m) = m + 1
          rw [ih2 (by omega), all (n - m) m (by omega)]
          rfl
      show f j = true ↔ j < sm (fun j => b1 (f j)) n + 1
      rw [full n (Nat.le_refl _)]
      constructor
      · intro _; exact hj
      · intro _; exact all (n - j) j (by omega)
theorem sm_pick (v n : Nat) (h : v < n) : sm (fun j => if v = j then 1 else 0) n = 1 := by
  have := sm_one (fun _ => 1) v n
  rw [if_pos h] at this
  refine Eq.trans (sm_congr n fun j _ => ?_) this
  exact (Nat.mul_one _).symm
theorem sm_c1 : ∀ n, sm (fun _ => 1) n = n
  | 0 => rfl
  | n + 1 => by show sm (fun _ => 1) n + 1 = n + 1; rw [sm_c1 n]
/-- strictly ascending places, as a list -/
theorem asc_list {pv : Nat → Nat} {q : Nat → Bool} : ∀ (N rk : Nat), (∀ k k', k < k' → k' < rk → pv k < pv k') → (∀ k, k < rk → pv k < N) → (∀ c, c < N → (q c = true ↔ ∃ k, k < rk ∧ pv k = c)) → (List.range N).filter q = (List.range rk).map pv
  | 0, rk, _, h2, _ => by
    cases rk with
    | zero => rfl
    | succ rk => have := h2 0 (by omega); omega
  | N + 1, rk, h1, h2, h3 => by
    rw [List.range_succ, List.filter_append]
    by_cases hN : q N = true
    · obtain ⟨k, hk, e⟩ := (h3 N (by omega)).mp hN
      obtain ⟨m, rfl⟩ : ∃ m, rk = m + 1 := ⟨rk - 1, by omega⟩
      have ek : k = m := by
        refine Classical.byContradiction fun hne => ?_
        have := h1 k m (by omega) (by omega)
        have := h2 m (by omega)
        omega
      subst ek
      have ih := asc_list N k (fun a b h h' => h1 a b h (by omega)) (fun a h => by have := h1 a k h (by omega); omega) fun c hc => by
        rw [h3 c (by omega)]
        constructor
        · rintro ⟨a, ha, e2⟩
          exact ⟨a, by have : a ≠ k := fun z => by rw [z, e] at e2; omega
                       omega, e2⟩
        · rintro ⟨a, ha, e2⟩
          exact ⟨a, by omega, e2⟩
      rw [ih, List.range_succ, List.map_append]
      congr 1
      rw [List.filter_cons_of_pos hN]
      show [N] = [pv k]
      rw [e]
    · have ih := asc_list N rk h1 (fun a h => by
        have z1 := h2 a h
        have z2 : pv a ≠ N := fun z => hN ((h3 N (by omega)).mpr ⟨a, h, z⟩)
        omega) fun c hc => h3 c (by omega)
      rw [ih, List.filter_cons_of_neg hN]
      show _ ++ [] = _
      rw [List.append_nil]
set_option maxRecDepth 20000 in
theorem dec_small : ∀ c, c < 91 → (dec c).1 < 13 ∧ (dec c).2 < 13 := by decide +kernel
section
variable {p rk : Nat} {pts : List (Nat × Nat)} {B : Nat → Nat → Nat} {pv : Nat → Nat}
theorem tri_91 {m : Nat} (h : m ≤ 12) : tri (m + 1) ≤ 91 := tri_le (d := m + 1) (e := 13) (by omega)
/-- what the pivots of different points' values are -/
theorem piv_ideal (hp : p ∈ prs) (hpts : pin pts p) (h1 : 1 ≤ pts.length) (H : RD p pts.length (tri (pts.length + 1)) (valM p pts) B rk pv) : wfh (htP rk pv) ∧ Lm (htP rk pv) = (List.range rk).map (fun k => dec (pv k)) ∧ rk = pts.length := by
  have pb := prs_b p hp
  have hrk := val_full hp hpts H
  have hC := tri_91 hpts.1
  have hpv : ∀ k, k < rk → pv k < 91 := fun k hk => by have := H.1.2.2.1 k hk; omega
  have inj : ∀ k k', k < rk → k' < rk → pv k = pv k' → k = k' := by
    intro k k' a b e
    refine Classical.byContradiction fun hne => ?_
    by_cases hlt : k < k'
    · have := H.1.2.2.2.1 k k' hlt b; omega
    · have := H.1.2.2.2.1 k' k (by omega) a; omega
  -- the heights count a column
  have cnt : ∀ i, htP rk pv i = sm (fun j => b1 (inP rk pv (i, j))) 13 := by
    intro i
    have e1 : ∀ k, k < rk → (if (dec (pv k)).1 = i then 1 else 0) = sm (fun j => if pv k = colN (i, j) then 1 else 0) 13 := by
      intro k hk
      have ds := dec_small (pv k) (hpv k hk)
      by_cases e : (dec (pv k)).1 = i
      · rw [if_pos e, sm_congr 13 (g := fun j => if (dec (pv k)).2 = j then 1 else 0) fun j _ => ?_, sm_pick _ _ ds.2]
        by_cases ej : (dec (pv k)).2 = j
        · rw [if_pos ej, if_pos]
          rw [← col_dec (pv k), ← e, ← ej]
        · rw [if_neg ej, if_neg]
          intro z
          have := congrArg dec z
          rw [dec_col] at this
          exact ej (congrArg Prod.snd this)
      · rw [if_neg e, sm_congr 13 (g := fun _ => 0) fun j _ => ?_, sm_zero]
        rw [if_neg]
        intro z
        have := congrArg dec z
        rw [dec_col] at this
        exact e (congrArg Prod.fst this)
    unfold htP
    rw [sm_congr rk e1, sm_swap (fun j k => if pv k = colN (i, j) then 1 else 0) 13 rk]
    refine sm_congr 13 fun j _ => ?_
    by_cases hq : inP rk pv (i, j) = true
    · obtain ⟨k, hk, e⟩ := inP_iff.mp hq
      rw [hq, sm_congr rk (g := fun k' => if k = k' then 1 else 0) fun k' hk' => ?_, sm_pick _ _ hk]
      · rfl
      · by_cases ek : k = k'
        · rw [if_pos ek, if_pos (by rw [← ek]; exact e)]
        · rw [if_neg ek, if_neg]
          intro z
          exact ek (inj k k' hk hk' (by rw [e, z]))
    · have hq' : inP rk pv (i, j) = false := by simpa using hq
      rw [hq', sm_congr rk (g := fun _ => 0) fun k hk => ?_, sm_zero]
      · rfl
      · rw [if_neg]
        intro z
        exact hq (inP_iff.mpr ⟨k, hk, z⟩)
  have dn1 : ∀ i j, inP rk pv (i + 1, j) = true → inP rk pv (i, j) = true := fun i j h => by
    obtain ⟨k, hk, e⟩ := inP_iff.mp h
    exact inP_iff.mpr (piv_div hp H (i := i) (j := j) (a := 1) (b := 0) (Or.inl ⟨rfl, rfl⟩) hk e)
  have dn2 : ∀ i j, inP rk pv (i, j + 1) = true → inP rk pv (i, j) = true := fun i j h => by
    obtain ⟨k, hk, e⟩ := inP_iff.mp h
    exact inP_iff.mpr (piv_div hp H (i := i) (j := j) (a := 0) (b := 1) (Or.inr ⟨rfl, rfl⟩) hk e)
  have small : ∀ i j, inP rk pv (i, j) = true → i < 13 ∧ j < 13 := fun i j h => by
    obtain ⟨k, hk, e⟩ := inP_iff.mp h
    have := dec_small (pv k) (hpv k hk)
    rw [e, dec_col] at this
    exact this
  have mem : ∀ i j, inP rk pv (i, j) = true ↔ j < htP rk pv i := by
    intro i j
    rw [cnt i]
    by_cases hj : j < 13
    · exact sm_down (f := fun j => inP rk pv (i, j)) 13 (fun j _ h => dn2 i j h) j hj
    · have : sm (fun j => b1 (inP rk pv (i, j))) 13 ≤ 13 * 1 := sm_bound 13 fun k _ => by cases inP rk pv (i, k) <;> decide
      constructor
      · intro z; have := small i j z; omega
      · intro z; omega
  have total : sm (htP rk pv) 13 = rk := by
    unfold htP
    rw [sm_swap (fun k i => if (dec (pv k)).1 = i then 1 else 0) rk 13]
    rw [sm_congr rk (g := fun _ => 1) fun k hk => sm_pick _ _ (dec_small (pv k) (hpv k hk)).1]
    exact sm_c1 rk
  have zero0 : inP rk pv (0, 0) = true := by
    refine Classical.byContradiction fun hno => ?_
    have e := H.comb (s := 0) (j := 0) (by omega) (by have := tri_lt (d := 0) (e := pts.length + 1) (j := 0) (by omega) (by omega); exact this)
    rw [sm_z (p := p) (n := rk) fun k hk => by
      have : 0 < pv k := by
        refine Nat.pos_of_ne_zero fun z => hno (inP_iff.mpr ⟨k, hk, z⟩)
      rw [H.above hk this, Nat.zero_mul, Nat.zero_mod]] at e
    have e2 : valM p pts 0 0 = 1 % p := by
      show mvN p _ _ 0 0 = _
      rw [mvN_eq, Nat.pow_zero, Nat.pow_zero]
    rw [e2, Nat.mod_mod, Nat.mod_eq_of_lt (by omega)] at e
    omega
  have w : wfh (htP rk pv) := by
    refine ⟨fun i => ?_, ?_, by rw [total, hrk]; exact hpts.1, fun i hi => ?_⟩
    · refine Classical.byContradiction fun hno => ?_
      have := (mem (i + 1) (htP rk pv i)).mpr (by omega)
      have := (mem i _).mp (dn1 i _ this)
      omega
    · have := (mem 0 0).mp zero0
      omega
    · refine Classical.byContradiction fun hno => ?_
      have := small i 0 ((mem i 0).mpr (by omega))
      omega
  refine ⟨w, ?_, hrk⟩
  unfold Lm
  rw [mons_dec, List.filter_map, asc_list (pv := pv) (q := inO (htP rk pv) ∘ dec) 91 rk H.1.2.2.2.1 hpv fun c hc => ?_, List.map_map]
  · rfl
  · show decide ((dec c).2 < htP rk pv (dec c).1) = true ↔ _
    rw [decide_eq_true_iff, ← mem, inP_iff]
    have : colN ((dec c).1, (dec c).2) = c := col_dec c
    rw [this]
end
