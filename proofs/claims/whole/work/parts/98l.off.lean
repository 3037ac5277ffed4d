/-! off the zeros the stacked powers have full rank -/
section
variable {n p : Nat} {A B X Y : Nat → Nat → Nat} {v x : Nat → Nat}
def zrV (n p : Nat) (v : Nat → Nat) : Prop := ∀ k, k < n → v k % p = 0
theorem zrV.mul (h : zrV n p v) : zrV n p (mulV n p A v) := fun r _ => by
  rw [mulV_mod]
  exact sm_z fun k hk => by rw [Nat.mul_mod, h k hk, Nat.mul_zero, Nat.zero_mod]
theorem zrV.it (h : zrV n p v) : ∀ e, zrV n p (itV n p A v e)
  | 0 => h
  | e + 1 => (h.it e).mul
theorem zrV.eq (h : zrV n p v) (e : veq n p x v) : zrV n p x := fun k hk => (e k hk).trans (h k hk)
theorem it_last : ∀ {m : Nat}, ¬ zrV n p v → zrV n p (itV n p A v m) → ∃ s, ¬ zrV n p (itV n p A v s) ∧ zrV n p (itV n p A v (s + 1))
  | 0, h, h2 => absurd h2 h
  | m + 1, h, h2 => by
    by_cases e : zrV n p (itV n p A v m)
    · exact it_last h e
    · exact ⟨m, e, h2⟩
theorem pow_it (hp2 : 2 ≤ p) : ∀ e, veq n p (mulV n p (powR n p A e) v) (itV n p A v e)
  | 0 => fun k hk => by
    rw [mulV_mod]
    show sm (fun j => (if k = j then 1 else 0) * v j) n % p = _
    rw [sm_one, if_pos hk]
    rfl
  | e + 1 => mulV_mulM.sy.tr (mulV_veq (pow_it hp2 e))
theorem less_V {a : Nat} (h0 : 0 < p) (ha : a < p) : veq n p (mulV n p (lessM A a p) v) (fun k => mulV n p A v k + (p - a) * v k) := fun k hk => by
  rw [mulV_mod]
  have e : ∀ j, j < n → (lessM A a p k j * v j) % p = (A k j * v j + (if k = j then 1 else 0) * ((p - a) * v j)) % p := by
    intro j _
    unfold lessM
    by_cases h : k = j
    · rw [if_pos h, if_pos h, Nat.one_mul, ← Nat.add_mul, Nat.mul_mod]
      have h1 := rsd_neg (x := A k j) (y := a) (z := 1) (p := p) h0
      rw [Nat.mul_one, Nat.mul_one, Nat.mod_eq_of_lt ha] at h1
      rw [h1, ← Nat.mul_mod]
    · rw [if_neg h, if_neg h, Nat.zero_mul, Nat.add_zero]
  rw [sm_modc e, sm_add, sm_one (fun j => (p - a) * v j), if_pos hk]
  dsimp only
  rw [Nat.add_mod, ← mulV_mod, ← Nat.add_mod]
theorem less_eig {a : Nat} (h0 : 0 < p) (ha : a < p) (h : zrV n p (mulV n p (lessM A a p) v)) : veq n p (mulV n p A v) (scV a v) := fun k hk => by
  have h1 := (less_V (A := A) (v := v) h0 ha k hk).symm.trans (h k hk)
  dsimp only at h1
  unfold scV
  have h2 : (mulV n p A v k + (p - a) * v k + a * v k) % p = mulV n p A v k % p := by
    rw [Nat.add_assoc, ← Nat.add_mul, show p - a + a = p by omega, Nat.add_mul_mod_self_left]
  rw [← h2, Nat.add_mod, h1, Nat.zero_add, Nat.mod_mod]
theorem less_cm {a b : Nat} (h0 : 0 < p) (ha : a < p) (hb : b < p) (h : cmV n p A B) : cmV n p (lessM A a p) (lessM B b p) := fun v => by
  have key : ∀ {A B : Nat → Nat → Nat} {a b : Nat}, a < p → b < p → veq n p (mulV n p (lessM A a p) (mulV n p (lessM B b p) v)) (fun k => mulV n p A (mulV n p B v) k + (p - b) * mulV n p A v k + (p - a) * mulV n p B v k + (p - a) * (p - b) * v k) := by
    intro A B a b ha hb
    refine (less_V h0 ha).tr fun k hk => ?_
    have e1 : mulV n p A (mulV n p (lessM B b p) v) k % p = (mulV n p A (mulV n p B v) k + (p - b) * mulV n p A v k) % p := by
      have s1 := mulV_veq (A := A) (less_V (A := B) (v := v) h0 hb) k hk
      rw [s1, mulV_mod, sm_congr n (g := fun j => A k j * mulV n p B v j + (p - b) * (A k j * v j)) fun j _ => by rw [Nat.mul_add, ← Nat.mul_assoc, ← Nat.mul_assoc, Nat.mul_comm (A k j) (p - b)], sm_add, ← sm_mull, Nat.add_mod, ← mulV_mod, mul_modr (mulV_mod (A := A) (v := v) (r := k)).symm, ← Nat.add_mod]
    have e2 := less_V (A := B) (v := v) h0 hb k hk
    dsimp only at e2
    dsimp only
    rw [Nat.add_mod, e1, mul_modr e2, ← Nat.add_mod, Nat.mul_add, ← Nat.mul_assoc]
    congr 1
    omega
  refine (key ha hb).tr (veq.sy ((key hb ha).tr fun k hk => ?_))
  dsimp only
  have hk1 := h v k hk
  rw [Nat.mul_comm (p - b) (p - a)]
  have r1 : mulV n p B (mulV n p A v) k + (p - a) * mulV n p B v k + (p - b) * mulV n p A v k + (p - a) * (p - b) * v k = mulV n p B (mulV n p A v) k + ((p - a) * mulV n p B v k + (p - b) * mulV n p A v k + (p - a) * (p - b) * v k) := by omega
  have r2 : mulV n p A (mulV n p B v) k + (p - b) * mulV n p A v k + (p - a) * mulV n p B v k + (p - a) * (p - b) * v k = mulV n p A (mulV n p B v) k + ((p - a) * mulV n p B v k + (p - b) * mulV n p A v k + (p - a) * (p - b) * v k) := by omega
  rw [r1, r2, Nat.add_mod, ← hk1, ← Nat.add_mod]
/-- both powers vanish at a vector that is not 0: a joint eigenvector -/
theorem joint {a b m : Nat} (h0 : 0 < p) (ha : a < p) (hb : b < p) (h : cmV n p X Y) (hx : ¬ zrV n p x) (h1 : zrV n p (itV n p (lessM X a p) x m)) (h2 : zrV n p (itV n p (lessM Y b p) x m)) : ∃ y, ¬ zrV n p y ∧ veq n p (mulV n p X y) (scV a y) ∧ veq n p (mulV n p Y y) (scV b y) := by
  have hc := less_cm h0 ha hb h
  obtain ⟨s, s1, s2⟩ := it_last hx h1
  have t0 : zrV n p (itV n p (lessM Y b p) (itV n p (lessM X a p) x s) m) := (h2.it (A := lessM X a p) s).eq (cm2 hc.sy s m)
  obtain ⟨t, t1, t2⟩ := it_last s1 t0
  exact ⟨_, t1, less_eig h0 ha ((s2.it t).eq (cm1 hc t)), less_eig h0 hb t2⟩
end
theorem zerB_of {ht : Nat → Nat} {r : Nat → Nat → Nat} {p a b : Nat} : ∀ {e : Nat}, (∀ k, k < e → rvN ht r p a b k = 0) → zerB ht r p a b e = true
  | 0, _ => rfl
  | e + 1, h => by
    show (zerB ht r p a b e && decide (rvN ht r p a b e = 0)) = true
    rw [zerB_of fun k hk => h k (by omega), h e (by omega)]
    rfl
theorem bd_tim {ht : Nat → Nat} {r : Nat → Nat → Nat} {p a b : Nat} (hp2 : 2 ≤ p) : bdM (timM ht r p a b) (2 * (Lm ht).length) (Lm ht).length p := bd_stack (bd_pow hp2 _) (bd_pow hp2 _)
/-- a point that is no zero counts 0 times, if the tables commute -/
theorem off_zero {ht : Nat → Nat} {r : Nat → Nat → Nat} {p a b : Nat} (w : wfh ht) (hp : p ∈ prs) (hc : cmV (Lm ht).length p (tabM ht r 1 0) (tabM ht r 0 1)) (ha : a < p) (hb : b < p) (hz : zF ht r p a b = false) : (redF p (2 * (Lm ht).length) (Lm ht).length (Lm ht).length 0 0 1 (timM ht r p a b) (fun _ => 0)).1 = (Lm ht).length := by
  have pb := prs_b p hp
  have H := red_RD (d := 1) (pv := fun _ => 0) hp (bd_tim (ht := ht) (r := r) (a := a) (b := b) (show 2 ≤ p by omega))
  refine Classical.byContradiction fun hne => ?_
  obtain ⟨x, ⟨j, hj, hx⟩, hk⟩ := H.ker hp (by have := H.leC; omega)
  have top : zrV (Lm ht).length p (itV (Lm ht).length p (lessM (tabM ht r 1 0) a p) x (Lm ht).length) := by
    refine zrV.eq (v := mulV (Lm ht).length p (powR (Lm ht).length p (lessM (tabM ht r 1 0) a p) (Lm ht).length) x) (fun k hk' => ?_) (pow_it (by omega) _).sy
    have := hk k (by omega)
    rw [mulV_mod, sm_congr _ fun j _ => Nat.mul_comm _ _]
    rw [sm_congr _ (g := fun j => x j * timM ht r p a b k j) fun j _ => by unfold timM stackM; rw [if_pos hk']]
    exact this
  have bot : zrV (Lm ht).length p (itV (Lm ht).length p (lessM (tabM ht r 0 1) b p) x (Lm ht).length) := by
    refine zrV.eq (v := mulV (Lm ht).length p (powR (Lm ht).length p (lessM (tabM ht r 0 1) b p) (Lm ht).length) x) (fun k hk' => ?_) (pow_it (by omega) _).sy
    have := hk ((Lm ht).length + k) (by omega)
    rw [mulV_mod, sm_congr _ fun j _ => Nat.mul_comm _ _]
    rw [sm_congr _ (g := fun j => x j * timM ht r p a b ((Lm ht).length + k) j) fun j _ => by unfold timM stackM; rw [if_neg (by omega), Nat.add_sub_cancel_left]]
    exact this
  obtain ⟨y, y1, y2, y3⟩ := joint (by omega) ha hb hc (fun z => hx (z j hj)) top bot
  obtain ⟨q, hq, hy⟩ : ∃ q, q < (Lm ht).length ∧ y q % p ≠ 0 := Classical.byContradiction fun hno => y1 fun k hk => Classical.byContradiction fun hz => hno ⟨k, hk, hz⟩
  have := zerB_of (e := (Lb ht).length) fun e he => eig_zero w hp hc y2 y3 hq hy he
  rw [show zF ht r p a b = zerB ht r p a b (Lb ht).length from rfl, this] at hz
  cases hz
