/-! THE PURE LAYER. Numbers, cells, loops -/
def ar (N : Nat) (g : Nat → Int32) : jx_E := .inl (.int, N, .inl g)
def m1 : Int32 := -1
theorem n0 : (0 : Int32) = nI 0 := by decide +kernel
theorem n1 : (1 : Int32) = nI 1 := by decide +kernel
theorem n2 : (2 : Int32) = nI 2 := by decide +kernel
theorem n3 : (3 : Int32) = nI 3 := by decide +kernel
theorem n4 : (4 : Int32) = nI 4 := by decide +kernel
theorem n5 : (5 : Int32) = nI 5 := by decide +kernel
theorem n6 : (6 : Int32) = nI 6 := by decide +kernel
theorem n7 : (7 : Int32) = nI 7 := by decide +kernel
theorem n8 : (8 : Int32) = nI 8 := by decide +kernel
theorem n9 : (9 : Int32) = nI 9 := by decide +kernel
theorem n10 : (10 : Int32) = nI 10 := by decide +kernel
theorem n11 : (11 : Int32) = nI 11 := by decide +kernel
theorem n12 : (12 : Int32) = nI 12 := by decide +kernel
theorem n13 : (13 : Int32) = nI 13 := by decide +kernel
theorem n16 : (16 : Int32) = nI 16 := by decide +kernel
theorem n20 : (20 : Int32) = nI 20 := by decide +kernel
theorem n21 : (21 : Int32) = nI 21 := by decide +kernel
theorem n22 : (22 : Int32) = nI 22 := by decide +kernel
theorem n28 : (28 : Int32) = nI 28 := by decide +kernel
theorem n31 : (31 : Int32) = nI 31 := by decide +kernel
theorem n42 : (42 : Int32) = nI 42 := by decide +kernel
theorem n56 : (56 : Int32) = nI 56 := by decide +kernel
theorem n97 : (97 : Int32) = nI 97 := by decide +kernel
theorem n100 : (100 : Int32) = nI 100 := by decide +kernel
theorem n156 : (156 : Int32) = nI 156 := by decide +kernel
theorem n168 : (168 : Int32) = nI 168 := by decide +kernel
theorem n224 : (224 : Int32) = nI 224 := by decide +kernel
theorem n236 : (236 : Int32) = nI 236 := by decide +kernel
theorem n248 : (248 : Int32) = nI 248 := by decide +kernel
theorem nm1 : -(nI 1) = m1 := by decide +kernel
theorem m1_toInt : m1.toInt = -1 := by decide +kernel
theorem m1_neg : (m1 < nI 0) = True := by decide +kernel
theorem nI_lt0 {k : Nat} (h : k < 2 ^ 31) : (nI k < nI 0) = False := by
  refine eq_false ?_
  rw [nI_ltI h (by decide)]
  omega
theorem nI_ne_m1 {k : Nat} (h : k < 2 ^ 31) : (nI k = m1) = False := by
  refine eq_false fun e => ?_
  have e := congrArg Int32.toInt e
  rw [nI_toInt h, m1_toInt] at e
  omega
theorem m1_ne_nI {k : Nat} (h : k < 2 ^ 31) : (m1 = nI k) = False := by
  refine eq_false fun e => ?_
  have e := congrArg Int32.toInt e
  rw [nI_toInt h, m1_toInt] at e
  omega
theorem nI_leN {a b : Nat} (ha : a < 2 ^ 31) (hb : b < 2 ^ 31) : (nI a ≤ nI b) = (a ≤ b) := propext (nI_leI ha hb)
theorem nI_ltN {a b : Nat} (ha : a < 2 ^ 31) (hb : b < 2 ^ 31) : (nI a < nI b) = (a < b) := propext (nI_ltI ha hb)
theorem nI_eqN {a b : Nat} (ha : a < 2 ^ 31) (hb : b < 2 ^ 31) : (nI a = nI b) = (a = b) := propext (nI_eq ha hb)
theorem nI_sub {a b : Nat} (h : b ≤ a) : nI a - nI b = nI (a - b) := pk_sub h
theorem nI_mul (a b : Nat) : nI a * nI b = nI (a * b) := pk_mul a b
theorem m1_inc : m1 + nI 1 = nI 0 := by decide +kernel
theorem nI_0m1 : nI 0 - nI 1 = m1 := by decide +kernel
/-- cells -/
theorem up_s {f : Nat → Option jx_E} {a : Nat} {e : jx_E} : jx_up f a e a = some e := by simp [jx_up]
theorem up_o {f : Nat → Option jx_E} {a b : Nat} {e : jx_E} (h : b ≠ a) : jx_up f a e b = f b := by simp [jx_up, h]
theorem hal_ar {h : jx_H} {a N k : Nat} {g : Nat → Int32} (e : h.2 a = some (ar N g)) (hk : k < N) (hN : N < 2 ^ 31) : hal h .int a (nI k) = some (g k) := by
  unfold hal
  rw [e]
  show (if _ ∧ _ then some (g (nI k).toNatClampNeg) else none) = _
  rw [if_pos ⟨rfl, nI_in hk hN⟩, nI_clamp (by omega)]
theorem has_ar {h : jx_H} {a N k : Nat} {g : Nat → Int32} {x : Int32} (e : h.2 a = some (ar N g)) (hk : k < N) (hN : N < 2 ^ 31) : has h .int a (nI k) x = some (h.1, jx_up h.2 a (ar N (upd g k x))) := by
  unfold has
  rw [e]
  show (if _ ∧ _ then some (h.1, jx_up h.2 a (.inl (.int, N, .inl (upd g (nI k).toNatClampNeg x)))) else none) = _
  rw [if_pos ⟨rfl, nI_in hk hN⟩, nI_clamp (by omega)]
  rfl
theorem hlen_ar {h : jx_H} {a N : Nat} {g : Nat → Int32} (e : h.2 a = some (ar N g)) : hlen h a = some (nI N) := by
  unfold hlen
  rw [e]
  rfl
theorem hgi_ob {h : jx_H} {a c q : Nat} {fs : List Value} {x : Int32} (e : h.2 a = some (.inr (c, fs))) (hx : fs[q]? = some (.int x)) : hgi h a c q = some x := by
  unfold hgi hg
  rw [e]
  simp [hx]
theorem hgr_ob {h : jx_H} {a c q : Nat} {fs : List Value} {x : Nat} (e : h.2 a = some (.inr (c, fs))) (hx : fs[q]? = some (.ref x)) : hgr h a c q = some x := by
  unfold hgr hg
  rw [e]
  simp [hx]
theorem hp_ob {h : jx_H} {a c q : Nat} {fs : List Value} {v : Value} (e : h.2 a = some (.inr (c, fs))) (hq : q < fs.length) : hp h a c q v = some (h.1, jx_up h.2 a (.inr (c, fs.set q v))) := by
  unfold hp
  rw [e]
  simp [hq]
theorem isO_ob {h : jx_H} {a c : Nat} {fs : List Value} (e : h.2 a = some (.inr (c, fs))) : isO h a c = some () := by
  unfold isO
  rw [e]
  simp
theorem hcp_ar {h : jx_H} {a0 a N0 N1 n : Nat} {f g : Nat → Int32} (e0 : h.2 a0 = some (ar N0 f)) (e1 : h.2 a = some (ar N1 g)) (h0 : n ≤ N0) (h1 : n ≤ N1) (hn : n < 2 ^ 31) : hcp h a0 (nI 0) a (nI 0) (nI n) = some (h.1, jx_up h.2 a (ar N1 (va_cpy f g 0 0 n))) := by
  unfold hcp
  rw [e0, e1]
  have z : (nI 0).toNatClampNeg = 0 := nI_clamp (by decide)
  have zn : (nI n).toNatClampNeg = n := nI_clamp hn
  show (if _ ∧ _ ∧ _ ∧ _ ∧ _ ∧ _ ∧ _ then some (h.1, jx_up h.2 a (.inl (.int, N1, .inl (va_cpy f g (nI 0).toNatClampNeg (nI 0).toNatClampNeg (nI n).toNatClampNeg)))) else none) = _
  rw [z, zn, if_pos ⟨rfl, rfl, nI_pos (by decide), nI_pos (by decide), nI_pos hn, by omega, by omega⟩]
  rfl
/-- one rule for every loop -/
theorem itr_run {σ T : Type} {body : σ → Option (σ ⊕ T)} {s0 : σ} {Post : T → Prop} (n : Nat) (R : Nat → σ → Prop) (h0 : R 0 s0)
    (hstep : ∀ k s, k < n → R k s → (∃ s', body s = some (.inl s') ∧ R (k + 1) s') ∨ ∃ t, body s = some (.inr t) ∧ Post t)
    (hend : ∀ s, R n s → ∃ t, body s = some (.inr t) ∧ Post t) : ∃ t, itr body s0 = some t ∧ Post t := by
  have K : ∀ d k s, k + d = n → R k s → ∃ t, itr body s = some t ∧ Post t := by
    intro d
    induction d with
    | zero =>
      intro k s hk hR
      obtain rfl : k = n := by omega
      obtain ⟨t, h1, h2⟩ := hend s hR
      exact ⟨t, itr_inr h1, h2⟩
    | succ d ih =>
      intro k s hk hR
      rcases hstep k s (by omega) hR with ⟨s', h1, h2⟩ | ⟨t, h1, h2⟩
      · obtain ⟨t, h3, h4⟩ := ih (k + 1) s' (by omega) h2
        exact ⟨t, by rw [itr_inl h1]; exact h3, h4⟩
      · exact ⟨t, itr_inr h1, h2⟩
  exact K n 0 s0 (by omega) h0
/-- a loop whose end is one value -/
theorem itr_val {σ T : Type} {body : σ → Option (σ ⊕ T)} {s0 : σ} {v : T} (n : Nat) (R : Nat → σ → Prop) (h0 : R 0 s0)
    (hstep : ∀ k s, k < n → R k s → (∃ s', body s = some (.inl s') ∧ R (k + 1) s') ∨ body s = some (.inr v))
    (hend : ∀ s, R n s → body s = some (.inr v)) : itr body s0 = some v := by
  obtain ⟨t, h1, rfl⟩ := itr_run (Post := fun t => t = v) n R h0 (fun k s hk hR => (hstep k s hk hR).imp id fun e => ⟨v, e, rfl⟩) (fun s hR => ⟨v, hend s hR, rfl⟩)
  exact h1
/-- the place of a pair in two rows -/
def fnd (f g : Nat → Int32) (i j : Int32) : Nat → Nat → Int32
  | 0, _ => m1
  | r + 1, k => if f k = i ∧ g k = j then nI k else fnd f g i j r (k + 1)
theorem fnd_congr {f g f' g' : Nat → Int32} {i j : Int32} : ∀ {r k : Nat}, (∀ q, k ≤ q → q < k + r → f q = f' q ∧ g q = g' q) → fnd f g i j r k = fnd f' g' i j r k
  | 0, k, _ => rfl
  | r + 1, k, h => by
    unfold fnd
    rw [(h k (by omega) (by omega)).1, (h k (by omega) (by omega)).2, fnd_congr (r := r) (k := k + 1) fun q h1 h2 => h q (by omega) (by omega)]
theorem fnd_step {f g : Nat → Int32} {i j : Int32} {r k : Nat} : fnd f g i j (r + 1) k = if f k = i ∧ g k = j then nI k else fnd f g i j r (k + 1) := rfl
