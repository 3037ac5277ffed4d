/-! vectors modulo a prime; tables that commute -/
def veq (n p : Nat) (u v : Nat → Nat) : Prop := ∀ k, k < n → u k % p = v k % p
def lcV (c : Nat → Nat) (v : Nat → Nat → Nat) (m : Nat) : Nat → Nat := fun k => sm (fun i => c i * v i k) m
def cmV (n p : Nat) (A B : Nat → Nat → Nat) : Prop := ∀ v, veq n p (mulV n p A (mulV n p B v)) (mulV n p B (mulV n p A v))
section
variable {n p m : Nat} {A B X Y : Nat → Nat → Nat} {u v x : Nat → Nat} {c : Nat → Nat} {V W : Nat → Nat → Nat}
theorem veq.rf : veq n p u u := fun _ _ => rfl
theorem veq.sy (h : veq n p u v) : veq n p v u := fun k hk => (h k hk).symm
theorem veq.tr (h : veq n p u v) (h2 : veq n p v x) : veq n p u x := fun k hk => (h k hk).trans (h2 k hk)
theorem mulV_mod {r : Nat} : mulV n p A v r % p = sm (fun k => A r k * v k) n % p := Nat.mod_mod _ _
theorem mulV_veq (h : veq n p u v) : veq n p (mulV n p A u) (mulV n p A v) := fun r _ => by
  rw [mulV_mod, mulV_mod]
  exact sm_lin h
theorem itV_veq (h : veq n p u v) : ∀ e, veq n p (itV n p A u e) (itV n p A v e)
  | 0 => h
  | e + 1 => mulV_veq (itV_veq h e)
theorem mulV_lc : veq n p (mulV n p A (lcV c V m)) (lcV c (fun i => mulV n p A (V i)) m) := fun r _ => by
  rw [mulV_mod]
  unfold lcV
  rw [sm_ex (fun k => A r k) c V]
  exact sm_lin fun i _ => mulV_mod.symm
theorem lc_veq (h : ∀ i, i < m → veq n p (V i) (W i)) : veq n p (lcV c V m) (lcV c W m) := fun k hk => sm_lin fun i hi => h i hi k hk
theorem itV_lc : ∀ e, veq n p (itV n p A (lcV c V m) e) (lcV c (fun i => itV n p A (V i) e) m)
  | 0 => veq.rf
  | e + 1 => (mulV_veq (itV_lc e)).tr mulV_lc
theorem mulV_mulM : veq n p (mulV n p A (mulV n p B v)) (mulV n p (mulM n p A B) v) := fun r _ => by
  rw [mulV_mod, mulV_mod]
  rw [sm_lin (e := fun k => A r k) (a := fun k => mulV n p B v k) (b := fun k => sm (fun j => v j * B k j) n) fun k _ => by rw [mulV_mod, sm_congr n fun j _ => Nat.mul_comm _ _]]
  rw [sm_ex (fun k => A r k) v (fun j k => B k j)]
  rw [sm_congr n (f := fun j => mulM n p A B r j * v j) (g := fun j => v j * mulM n p A B r j) fun j _ => Nat.mul_comm _ _]
  exact sm_lin fun j _ => (Nat.mod_mod _ _).symm
theorem mulV_eqM (h : eqM n A B) : veq n p (mulV n p A v) (mulV n p B v) := fun r hr => by rw [mulV_congr h (fun _ _ => rfl) r hr]
theorem cmV.mk (h : eqM n (mulM n p A B) (mulM n p B A)) : cmV n p A B := fun _ => mulV_mulM.tr ((mulV_eqM h).tr mulV_mulM.sy)
theorem cmV.sy (h : cmV n p A B) : cmV n p B A := fun v => (h v).sy
theorem cm1 (h : cmV n p A B) : ∀ e, veq n p (mulV n p A (itV n p B v e)) (itV n p B (mulV n p A v) e)
  | 0 => veq.rf
  | e + 1 => (h _).tr (mulV_veq (cm1 h e))
theorem cm2 (h : cmV n p A B) (e : Nat) : ∀ d, veq n p (itV n p A (itV n p B v e) d) (itV n p B (itV n p A v d) e)
  | 0 => veq.rf
  | d + 1 => (mulV_veq (cm2 h e d)).tr (cm1 h e)
theorem itV_add (e : Nat) : ∀ d, itV n p A (itV n p A v e) d = itV n p A v (e + d)
  | 0 => rfl
  | d + 1 => by
    show mulV n p A (itV n p A (itV n p A v e) d) = mulV n p A (itV n p A v (e + d))
    rw [itV_add e d]
def act (n p : Nat) (X Y : Nat → Nat → Nat) (i j : Nat) (v : Nat → Nat) : Nat → Nat := itV n p X (itV n p Y v j) i
theorem act_veq {i j : Nat} (h : veq n p u v) : veq n p (act n p X Y i j u) (act n p X Y i j v) := itV_veq (itV_veq h j) i
theorem act_lc {i j : Nat} : veq n p (act n p X Y i j (lcV c V m)) (lcV c (fun k => act n p X Y i j (V k)) m) := (itV_veq (itV_lc j) i).tr (itV_lc i)
theorem act_act (h : cmV n p X Y) {i j i' j' : Nat} : veq n p (act n p X Y i j (act n p X Y i' j' v)) (act n p X Y (i' + i) (j' + j) v) := by
  unfold act
  refine (itV_veq (cm2 h.sy i' j) i).tr ?_
  rw [itV_add, itV_add]
  exact veq.rf
theorem act_sw (h : cmV n p X Y) {i j i' j' : Nat} : veq n p (act n p X Y i j (act n p X Y i' j' v)) (act n p X Y i' j' (act n p X Y i j v)) := by
  refine (act_act h).tr ?_
  rw [Nat.add_comm i', Nat.add_comm j']
  exact (act_act h).sy
def scV (a : Nat) (v : Nat → Nat) : Nat → Nat := fun k => a * v k
theorem mulV_sc {a : Nat} : veq n p (mulV n p A (scV a v)) (scV a (mulV n p A v)) := fun r _ => by
  rw [mulV_mod]
  unfold scV
  rw [sm_congr n (g := fun k => a * (A r k * v k)) fun k _ => by rw [← Nat.mul_assoc, Nat.mul_comm (A r k), Nat.mul_assoc], ← sm_mull]
  exact mul_modr mulV_mod.symm
theorem sc_veq {a : Nat} (h : veq n p u v) : veq n p (scV a u) (scV a v) := fun k hk => mul_modr (h k hk)
theorem itV_eig {a : Nat} (h : veq n p (mulV n p A v) (scV a v)) : ∀ e, veq n p (itV n p A v e) (scV (a ^ e) v)
  | 0 => fun k _ => by unfold scV; rw [Nat.pow_zero, Nat.one_mul]; rfl
  | e + 1 => by
    refine (mulV_veq (itV_eig h e)).tr (mulV_sc.tr ((sc_veq h).tr fun k _ => ?_))
    unfold scV
    rw [Nat.pow_succ, Nat.mul_assoc]
theorem act_eig {a b i j : Nat} (h1 : veq n p (mulV n p X v) (scV a v)) (h2 : veq n p (mulV n p Y v) (scV b v)) : veq n p (act n p X Y i j v) (scV (a ^ i * b ^ j) v) := by
  unfold act
  refine (itV_veq (itV_eig h2 j) i).tr ?_
  have sc : ∀ e, veq n p (itV n p X (scV (b ^ j) v) e) (scV (b ^ j) (itV n p X v e)) := by
    intro e
    induction e with
    | zero => exact veq.rf
    | succ e ih => exact (mulV_veq ih).tr mulV_sc
  refine (sc i).tr ((sc_veq (itV_eig h1 i)).tr fun k _ => ?_)
  unfold scV
  rw [← Nat.mul_assoc, Nat.mul_comm (b ^ j)]
/-- unit vectors -/
def uV (c : Nat) : Nat → Nat := fun k => if k = c then 1 else 0
theorem mulV_u {c r : Nat} (hc : c < n) : mulV n p A (uV c) r % p = A r c % p := by
  rw [mulV_mod]
  unfold uV
  rw [sm_del, if_pos hc]
theorem lc_u (w : Nat → Nat) : veq n p (lcV w (fun m => uV m) n) w := fun k hk => by
  unfold lcV uV
  rw [sm_congr n (g := fun i => w i * (if i = k then 1 else 0)) fun i _ => by
    dsimp only
    by_cases h : k = i
    · rw [if_pos h, if_pos h.symm]
    · rw [if_neg h, if_neg fun z => h z.symm], sm_del, if_pos hk]
end
section
variable {ht : Nat → Nat} {r : Nat → Nat → Nat} {p : Nat}
theorem idx_lt {L : List (Nat × Nat)} {q : Nat × Nat} (h : q ∈ L) : L.idxOf q < L.length := List.idxOf_lt_length_of_mem h
theorem mx_idx {L : List (Nat × Nat)} {i j : Nat} (h : (i, j) ∈ L) : mx L (L.idxOf (i, j)) = i ∧ my L (L.idxOf (i, j)) = j := by
  unfold mx my
  rw [getD_idx h]
  exact ⟨rfl, rfl⟩
theorem tab_in {di dj i j row : Nat} (h : (i, j) ∈ Lm ht) (h2 : (i + di, j + dj) ∈ Lm ht) : tabM ht r di dj row ((Lm ht).idxOf (i, j)) = uV ((Lm ht).idxOf (i + di, j + dj)) row := by
  unfold tabM uV
  rw [(mx_idx h).1, (mx_idx h).2, if_pos h2]
theorem tab_out {di dj i j row : Nat} (h : (i, j) ∈ Lm ht) (h2 : ¬ (i + di, j + dj) ∈ Lm ht) : tabM ht r di dj row ((Lm ht).idxOf (i, j)) = r ((Lb ht).idxOf (i + di, j + dj)) row := by
  unfold tabM
  rw [(mx_idx h).1, (mx_idx h).2, if_neg h2]
/-- a monomial's normal form is itself -/
theorem act_mon (w : wfh ht) : ∀ i j, (i, j) ∈ Lm ht → veq (Lm ht).length p (act (Lm ht).length p (tabM ht r 1 0) (tabM ht r 0 1) i j e0V) (uV ((Lm ht).idxOf (i, j)))
  | 0, 0, h => by
    have l := Lm_len w
    have h0 := (Lm_a w).2.2.2.2.2.2
    have e : (Lm ht).idxOf (0, 0) = 0 := by
      cases hL : Lm ht with
      | nil => rw [hL] at l; simp at l
      | cons q t =>
        rw [hL] at h0
        have h0 : q = (0, 0) := h0
        rw [h0, List.idxOf_cons_self]
    rw [e]
    exact veq.rf
  | 0, j + 1, h => by
    have hj : (0, j) ∈ Lm ht := (mem_Lm w).mpr (by have := (mem_Lm w).mp h; omega)
    refine (mulV_veq (act_mon w 0 j hj)).tr fun k hk => ?_
    rw [mulV_u (idx_lt hj), tab_in (di := 0) (dj := 1) hj h]
  | i + 1, j, h => by
    have hj : (i, j) ∈ Lm ht := (mem_Lm w).mpr (by have := (mem_Lm w).mp h; have := w.1 i; omega)
    refine (mulV_veq (act_mon w i j hj)).tr fun k hk => ?_
    rw [mulV_u (idx_lt hj), tab_in (di := 1) (dj := 0) hj h]
    rfl
/-- a border monomial's normal form is its rule -/
theorem act_bor (w : wfh ht) (hc : cmV (Lm ht).length p (tabM ht r 1 0) (tabM ht r 0 1)) {i j : Nat} (h : (i, j) ∈ Lb ht) : veq (Lm ht).length p (act (Lm ht).length p (tabM ht r 1 0) (tabM ht r 0 1) i j e0V) (r ((Lb ht).idxOf (i, j))) := by
  obtain ⟨h1, h2⟩ := (mem_Lb w).mp h
  have hno : ¬ (i, j) ∈ Lm ht := fun z => h1 ((mem_Lm w).mp z)
  rcases h2 with ⟨h2, h3⟩ | ⟨h2, h3⟩
  · obtain ⟨i, rfl⟩ : ∃ k, i = k + 1 := ⟨i - 1, by omega⟩
    have hj : (i, j) ∈ Lm ht := (mem_Lm w).mpr h3
    refine (mulV_veq (act_mon w i j hj)).tr fun k hk => ?_
    rw [mulV_u (idx_lt hj), tab_out (di := 1) (dj := 0) hj hno]
    rfl
  · obtain ⟨j, rfl⟩ : ∃ k, j = k + 1 := ⟨j - 1, by omega⟩
    have hj : (i, j) ∈ Lm ht := (mem_Lm w).mpr h3
    refine (cm1 hc.sy i).sy.tr ((mulV_veq (act_mon w i j hj)).tr fun k hk => ?_)
    rw [mulV_u (idx_lt hj), tab_out (di := 0) (dj := 1) hj hno]
    rfl
theorem mul_cancel {p a b w : Nat} (hp : p ∈ prs) (hw : w % p ≠ 0) (h : a * w % p = b * w % p) : a % p = b % p := by
  have pb := prs_b p hp
  have hf := fermat hp (Nat.mod_lt w (show 0 < p by omega)) hw
  have key : ∀ z, z % p = z * w * invF (w % p) p % p := by
    intro z
    rw [Nat.mul_assoc, Nat.mul_mod, Nat.mul_mod w, show w % p * (invF (w % p) p % p) % p = 1 by rw [Nat.mul_mod_mod]; exact hf, Nat.mul_one, Nat.mod_mod]
  rw [key a, key b, Nat.mul_mod, h, ← Nat.mul_mod]
/-- a joint eigenvector of both tables, that commute, makes its pair a zero -/
theorem eig_zero (w : wfh ht) (hp : p ∈ prs) (hc : cmV (Lm ht).length p (tabM ht r 1 0) (tabM ht r 0 1)) {a b : Nat} {x : Nat → Nat} (h1 : veq (Lm ht).length p (mulV (Lm ht).length p (tabM ht r 1 0) x) (scV a x)) (h2 : veq (Lm ht).length p (mulV (Lm ht).length p (tabM ht r 0 1) x) (scV b x)) {q : Nat} (hq : q < (Lm ht).length) (hx : x q % p ≠ 0) {e : Nat} (he : e < (Lb ht).length) : rvN ht r p a b e = 0 := by
  have nb := (Lm_a w).2.1
  have hb : (mx (Lb ht) e, my (Lb ht) e) ∈ Lb ht := by
    unfold mx my
    rw [List.getD_eq_getElem?_getD, List.getElem?_eq_getElem he]
    exact List.getElem_mem he
  have ib : (Lb ht).idxOf (mx (Lb ht) e, my (Lb ht) e) = e := by
    unfold mx my
    rw [List.getD_eq_getElem?_getD, List.getElem?_eq_getElem he]
    exact List.Nodup.idxOf_getElem nb e he
  have im : ∀ m, m < (Lm ht).length → (Lm ht).idxOf (mx (Lm ht) m, my (Lm ht) m) = m := by
    intro m hm
    unfold mx my
    rw [List.getD_eq_getElem?_getD, List.getElem?_eq_getElem hm]
    exact List.Nodup.idxOf_getElem (Lm_a w).1 m hm
  -- the monomials' normal forms
  have hu : ∀ m, m < (Lm ht).length → veq (Lm ht).length p (act (Lm ht).length p (tabM ht r 1 0) (tabM ht r 0 1) (mx (Lm ht) m) (my (Lm ht) m) e0V) (uV m) := by
    intro m hm
    have := act_mon (r := r) (p := p) w (mx (Lm ht) m) (my (Lm ht) m) (Lm_mem hm)
    rwa [im m hm] at this
  generalize hU : (fun m => act (Lm ht).length p (tabM ht r 1 0) (tabM ht r 0 1) (mx (Lm ht) m) (my (Lm ht) m) e0V) = U at hu
  have hu : ∀ m, m < (Lm ht).length → veq (Lm ht).length p (U m) (uV m) := by
    intro m hm
    rw [← hU]
    exact hu m hm
  have dec : ∀ y : Nat → Nat, veq (Lm ht).length p y (lcV y U (Lm ht).length) := fun y => (lc_u y).sy.tr (lc_veq fun m hm => (hu m hm).sy)
  have hbc := act_bor (r := r) w hc hb
  rw [ib] at hbc
  have A1 : veq (Lm ht).length p (act (Lm ht).length p (tabM ht r 1 0) (tabM ht r 0 1) (mx (Lb ht) e) (my (Lb ht) e) x) (lcV x (fun m => lcV (r e) (fun k => act (Lm ht).length p (tabM ht r 1 0) (tabM ht r 0 1) (mx (Lm ht) k) (my (Lm ht) k) (U m)) (Lm ht).length) (Lm ht).length) := by
    refine (act_veq (dec x)).tr (act_lc.tr (lc_veq fun m hm => ?_))
    have s1 : veq (Lm ht).length p (act (Lm ht).length p (tabM ht r 1 0) (tabM ht r 0 1) (mx (Lb ht) e) (my (Lb ht) e) (U m)) (act (Lm ht).length p (tabM ht r 1 0) (tabM ht r 0 1) (mx (Lm ht) m) (my (Lm ht) m) (act (Lm ht).length p (tabM ht r 1 0) (tabM ht r 0 1) (mx (Lb ht) e) (my (Lb ht) e) e0V)) := by
      rw [← hU]
      exact act_sw hc
    refine s1.tr ((act_veq (hbc.tr (dec (r e)))).tr (act_lc.tr (lc_veq fun k hk => ?_)))
    rw [← hU]
    exact act_sw hc
  have A2 : veq (Lm ht).length p (lcV x (fun m => lcV (r e) (fun k => act (Lm ht).length p (tabM ht r 1 0) (tabM ht r 0 1) (mx (Lm ht) k) (my (Lm ht) k) (U m)) (Lm ht).length) (Lm ht).length) (lcV (r e) (fun k => scV (a ^ (mx (Lm ht) k) * b ^ (my (Lm ht) k)) x) (Lm ht).length) := by
    have ex : lcV x (fun m => lcV (r e) (fun k => act (Lm ht).length p (tabM ht r 1 0) (tabM ht r 0 1) (mx (Lm ht) k) (my (Lm ht) k) (U m)) (Lm ht).length) (Lm ht).length = lcV (r e) (fun k => lcV x (fun m => act (Lm ht).length p (tabM ht r 1 0) (tabM ht r 0 1) (mx (Lm ht) k) (my (Lm ht) k) (U m)) (Lm ht).length) (Lm ht).length := by
      funext s
      unfold lcV
      exact sm_ex x (r e) (fun k m => act (Lm ht).length p (tabM ht r 1 0) (tabM ht r 0 1) (mx (Lm ht) k) (my (Lm ht) k) (U m) s) _ _
    rw [ex]
    exact lc_veq fun k hk => act_lc.sy.tr ((act_veq (dec x).sy).tr (act_eig h1 h2))
  have A3 := ((act_eig (i := mx (Lb ht) e) (j := my (Lb ht) e) h1 h2).sy.tr (A1.tr A2)) q hq
  have A4 : (a ^ (mx (Lb ht) e) * b ^ (my (Lb ht) e)) * x q % p = sm (fun k => r e k * (a ^ (mx (Lm ht) k) * b ^ (my (Lm ht) k))) (Lm ht).length * x q % p := by
    refine A3.trans ?_
    unfold lcV scV
    rw [sm_mulr]
    congr 1
    exact sm_congr _ fun k _ => (Nat.mul_assoc _ _ _).symm
  have A5 := mul_cancel hp hx A4
  have pb := prs_b p hp
  unfold rvN
  refine rsd_self ?_
  rw [← Nat.mul_mod, A5]
  show sm (fun k => r e k * mvN p a b (mx (Lm ht) k) (my (Lm ht) k)) (Lm ht).length % p = _
  refine sm_lin fun k _ => ?_
  rw [mvN_eq, Nat.mod_mod]
end
