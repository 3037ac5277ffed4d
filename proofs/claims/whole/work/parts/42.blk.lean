/-! blocks: an object and its rows, as numbers alone; heaps that hold one-/
abbrev MS : Type := (Nat → Int32) × (Nat → Nat → Int32)
abbrev BK : Type := Nat × (Nat → (Nat → Int32) → List Value) × (Nat → FieldType) × (Nat → Nat) × Nat
def bput (K : BK) (h : jx_H) (q : Nat) (S : MS) : jx_H := (h.1, fun a => if a = q then some (.inr (K.1, K.2.1 q S.1)) else if q < a ∧ a ≤ q + K.2.2.2.2 then some (.inl (K.2.2.1 (a - q), K.2.2.2.1 (a - q), .inl (S.2 (a - q)))) else h.2 a)
def gal (K : BK) (S : MS) (j : Nat) (i : Int32) : Option Int32 := if ¬ (i < 0 ∨ K.2.2.2.1 j ≤ i.toNatClampNeg) then some (S.2 j i.toNatClampNeg) else none
def gas (K : BK) (S : MS) (j : Nat) (i x : Int32) : Option MS := if ¬ (i < 0 ∨ K.2.2.2.1 j ≤ i.toNatClampNeg) then some (S.1, fun b => if b = j then upd (S.2 j) i.toNatClampNeg x else S.2 b) else none
def gpi (S : MS) (n : Nat) (v : Int32) : MS := (upd S.1 n v, S.2)
def gfl (K : BK) (S : MS) (j : Nat) (v : Int32) : Option MS := some (S.1, fun b => if b = j then (fun k => if k < K.2.2.2.1 j then v else S.2 j k) else S.2 b)
def glen (K : BK) (j : Nat) : Option Int32 := some (Int32.ofNat (K.2.2.2.1 j))
theorem bp_ob {K : BK} {h : jx_H} {q : Nat} {S : MS} : (bput K h q S).2 q = some (.inr (K.1, K.2.1 q S.1)) := by simp [bput]
theorem bp_ar {K : BK} {h : jx_H} {q j : Nat} {S : MS} (hj : 1 ≤ j ∧ j ≤ K.2.2.2.2) : (bput K h q S).2 (q + j) = some (.inl (K.2.2.1 j, K.2.2.2.1 j, .inl (S.2 j))) := by
  show (if q + j = q then _ else if q < q + j ∧ q + j ≤ q + K.2.2.2.2 then _ else _) = _
  rw [if_neg (by omega), if_pos (by omega), Nat.add_sub_cancel_left]
theorem bp_else {K : BK} {h : jx_H} {q a : Nat} {S : MS} (ha : a < q ∨ q + K.2.2.2.2 < a) : (bput K h q S).2 a = h.2 a := by
  show (if a = q then _ else if q < a ∧ a ≤ q + K.2.2.2.2 then _ else _) = _
  rw [if_neg (by omega), if_neg (by omega)]
theorem bp_upo {K : BK} {h : jx_H} {q : Nat} {S : MS} {I : Nat → Int32} : jx_up (bput K h q S).2 q (.inr (K.1, K.2.1 q I)) = (bput K h q (I, S.2)).2 := by
  funext a
  by_cases ha : a = q
  · subst ha
    rw [up_s, bp_ob]
  · rw [up_o ha]
    show (if a = q then _ else _) = (if a = q then _ else _)
    rw [if_neg ha, if_neg ha]
theorem bp_upa {K : BK} {h : jx_H} {q j : Nat} {S : MS} {g : Nat → Int32} (hj : 1 ≤ j ∧ j ≤ K.2.2.2.2) : jx_up (bput K h q S).2 (q + j) (.inl (K.2.2.1 j, K.2.2.2.1 j, .inl g)) = (bput K h q (S.1, fun b => if b = j then g else S.2 b)).2 := by
  funext a
  by_cases ha : a = q + j
  · subst ha
    rw [up_s, bp_ar hj]
    simp
  · rw [up_o ha]
    show (if a = q then _ else if q < a ∧ a ≤ q + K.2.2.2.2 then _ else _) = (if a = q then _ else if q < a ∧ a ≤ q + K.2.2.2.2 then _ else _)
    by_cases h1 : a = q
    · rw [if_pos h1, if_pos h1]
    · rw [if_neg h1, if_neg h1]
      by_cases h2 : q < a ∧ a ≤ q + K.2.2.2.2
      · rw [if_pos h2, if_pos h2]
        simp [show a - q ≠ j by omega]
      · rw [if_neg h2, if_neg h2]
theorem bp_al {K : BK} {h : jx_H} {q j : Nat} {S : MS} {t : FieldType} {i : Int32} (hj : 1 ≤ j ∧ j ≤ K.2.2.2.2) (ht : K.2.2.1 j = t) : hal (bput K h q S) t (q + j) i = gal K S j i := by
  unfold hal gal
  rw [bp_ar hj]
  show (if K.2.2.1 j = t ∧ _ then _ else _) = _
  by_cases z : ¬ (i < 0 ∨ K.2.2.2.1 j ≤ i.toNatClampNeg)
  · rw [if_pos ⟨ht, z⟩, if_pos z]
  · rw [if_neg (fun w => z w.2), if_neg z]
theorem bp_as {K : BK} {h : jx_H} {q j : Nat} {S : MS} {t : FieldType} {i x : Int32} (hj : 1 ≤ j ∧ j ≤ K.2.2.2.2) (ht : K.2.2.1 j = t) : has (bput K h q S) t (q + j) i x = (gas K S j i x).map (bput K h q) := by
  unfold has gas
  rw [bp_ar hj]
  show (if K.2.2.1 j = t ∧ _ then some ((bput K h q S).1, jx_up (bput K h q S).2 (q + j) (.inl (K.2.2.1 j, K.2.2.2.1 j, .inl (upd (S.2 j) i.toNatClampNeg x)))) else _) = _
  by_cases z : ¬ (i < 0 ∨ K.2.2.2.1 j ≤ i.toNatClampNeg)
  · rw [if_pos ⟨ht, z⟩, if_pos z, bp_upa hj]
    rfl
  · rw [if_neg (fun w => z w.2), if_neg z]
    rfl
theorem bp_gi {K : BK} {h : jx_H} {q n : Nat} {S : MS} (hx : (K.2.1 q S.1)[n]? = some (.int (S.1 n))) : hgi (bput K h q S) q K.1 n = some (S.1 n) := hgi_ob bp_ob hx
theorem bp_gr {K : BK} {h : jx_H} {q n r : Nat} {S : MS} (hx : (K.2.1 q S.1)[n]? = some (.ref r)) : hgr (bput K h q S) q K.1 n = some r := hgr_ob bp_ob hx
theorem bp_pi {K : BK} {h : jx_H} {q n : Nat} {S : MS} {v : Int32} (hn : n < (K.2.1 q S.1).length) (hx : (K.2.1 q S.1).set n (.int v) = K.2.1 q (upd S.1 n v)) : hp (bput K h q S) q K.1 n (.int v) = some (bput K h q (gpi S n v)) := by
  rw [hp_ob bp_ob hn, hx, bp_upo]
  rfl
theorem bp_is {K : BK} {h : jx_H} {q : Nat} {S : MS} : isO (bput K h q S) q K.1 = some () := isO_ob bp_ob
theorem gx_ite {α β : Type} {f : α → β} {c : Prop} [Decidable c] {a b : Option α} : Option.map f (if c then a else b) = if c then Option.map f a else Option.map f b := by split <;> rfl
theorem gx_bs {α β : Type} {a : α} {f : α → Option β} : (some a).bind f = f a := by simp
theorem gx_bn {α β : Type} {f : α → Option β} : (none : Option α).bind f = none := by simp
theorem gx_ms {α β : Type} {a : α} {f : α → β} : (some a).map f = some (f a) := by simp
theorem gx_mn {α β : Type} {f : α → β} : (none : Option α).map f = none := by simp
theorem gx_bm {α β γ : Type} {o : Option α} {f : α → β} {g : β → Option γ} : (o.map f).bind g = o.bind fun a => g (f a) := by cases o <;> simp
theorem gx_mb {α β γ : Type} {o : Option α} {g : α → Option β} {f : β → γ} : (o.bind g).map f = o.bind fun a => (g a).map f := by cases o <;> simp
theorem gx_b2 {α β γ δ : Type} {o : Option (α × β)} {f : α → β → Option γ} {g : γ → δ} : (bind2 o f).map g = bind2 o fun a b => (f a b).map g := by cases o <;> simp [bind2]
theorem gx_b2m {α β β' γ : Type} {o : Option (α × β)} {r : β → β'} {f : α → β' → Option γ} : bind2 (o.map fun s : α × β => (s.1, r s.2)) f = bind2 o fun a b => f a (r b) := by cases o <;> simp [bind2]
theorem gx_b2mm {α β γ : Type} {o : Option (α × β)} {f : α → β → Option γ} : bind2 (o.map id) f = bind2 o f := by cases o <;> simp [bind2]
theorem gx_sl {α β α' β' : Type} {f : α → α'} {g : β → β'} {a : α} : Sum.map f g (Sum.inl a) = Sum.inl (f a) := by simp
theorem gx_sr {α β α' β' : Type} {f : α → α'} {g : β → β'} {a : β} : Sum.map f g (Sum.inr a) = Sum.inr (g a) := by simp
theorem gx_id {α : Type} {a : α} : id a = a := by simp
theorem gx_exL {σ T σ' T' : Type} {f : σ → σ'} {g : T → T'} {o : Option T} : Option.map (Sum.map f g) (exL o) = exL (Option.map g o) := by cases o <;> rfl
theorem gx_exL2 {σ T σ' : Type} {f : σ → σ'} {o : Option T} : Option.map (Sum.map f id) (exL o) = exL o := by cases o <;> rfl
theorem itr_map {σ T σ' T' : Type} {φ : σ → σ'} {ψ : T → T'} {b : σ → Option (σ ⊕ T)} {b' : σ' → Option (σ' ⊕ T')} (hb : ∀ s, b' (φ s) = (b s).map (Sum.map φ ψ)) (s0 : σ) : itr b' (φ s0) = (itr b s0).map ψ := by
  have hn : ∀ n s, itrN b' n (φ s) = (itrN b n s).map ψ := by
    intro n
    induction n with
    | zero => intro s; rfl
    | succ n ih =>
      intro s
      unfold itrN
      rw [hb s]
      cases b s with
      | none => rfl
      | some u =>
        cases u with
        | inl s' => exact ih s'
        | inr t => rfl
  apply Option.ext
  intro t
  rw [itr_iff]
  constructor
  · intro ⟨n, e⟩
    rw [hn] at e
    obtain ⟨t0, e1, rfl⟩ := Option.map_eq_some_iff.mp e
    exact Option.map_eq_some_iff.mpr ⟨t0, itr_iff.mpr ⟨n, e1⟩, rfl⟩
  · intro e
    obtain ⟨t0, e1, rfl⟩ := Option.map_eq_some_iff.mp e
    obtain ⟨n, e2⟩ := itr_iff.mp e1
    exact ⟨n, by rw [hn, e2]; rfl⟩
noncomputable def p_residue (a b : Int32) : Option Int32 := FX9_residue a b (0, fun _ => none)
noncomputable def p_inverse (a b : Int32) : Option Int32 := FX9_inverse a b (0, fun _ => none)
noncomputable def p_isOutside (a b : Int32) : Option Int32 := FX9_isOutside a b (0, fun _ => none)
noncomputable def p_isPrimeAllowed (a : Int32) : Option Int32 := FX9_isPrimeAllowed a (0, fun _ => none)
theorem q_residue {a b : Int32} {h : jx_H} : FX9_residue a b h = p_residue a b := rfl
theorem q_inverse {a b : Int32} {h : jx_H} : FX9_inverse a b h = p_inverse a b := rfl
theorem q_isOutside {a b : Int32} {h : jx_H} : FX9_isOutside a b h = p_isOutside a b := rfl
theorem q_isPrimeAllowed {a : Int32} {h : jx_H} : FX9_isPrimeAllowed a h = p_isPrimeAllowed a := rfl
/-- Arrays.fill over a row of a block -/
theorem bp_fl {K : BK} {h : jx_H} {q j : Nat} {S : MS} {v : Int32} (hj : 1 ≤ j ∧ j ≤ K.2.2.2.2) (ht : K.2.2.1 j = .int) (hl : K.2.2.2.1 j < 2 ^ 31) : FJ7_fill_53178 (q + j) v (bput K h q S) = (gfl K S j v).map (bput K h q) := by
  have key : ∀ n, n ≤ K.2.2.2.1 j → (bput K h q (S.1, fun b => if b = j then (fun k => if k < n then v else S.2 j k) else S.2 b)) = (bput K h q (S.1, fun b => if b = j then (fun k => if k < n then v else S.2 j k) else S.2 b)) := fun _ _ => rfl
  unfold FJ7_fill_53178
  have hlen : ∀ S' : MS, hlen (bput K h q S') (q + j) = some (nI (K.2.2.2.1 j)) := by
    intro S'
    unfold hlen
    rw [bp_ar hj]
    rfl
  simp only [hlen, Option.bind_some]
  refine itr_val (K.2.2.2.1 j) (fun k s => s = (nI k, bput K h q (S.1, fun b => if b = j then (fun i => if i < k then v else S.2 j i) else S.2 b))) ?_ ?_ ?_
  · show (_, _) = _
    refine Prod.ext n0 ?_
    show bput K h q S = _
    congr 1
    refine Prod.ext rfl ?_
    funext b
    by_cases hb : b = j
    · subst hb; simp
    · simp [hb]
  · rintro k s hk rfl
    left
    refine ⟨_, ?_, rfl⟩
    unfold LJ7_fill_53178_5
    simp (disch := omega) only [nI_leN]
    rw [if_neg (by omega), bp_as hj ht]
    unfold gas
    rw [if_pos (nI_in hk hl), nI_clamp (by omega)]
    simp only [Option.map_some, Option.bind_some, n1, nI_add]
    congr 4
    refine Prod.ext rfl ?_
    funext b
    by_cases hb : b = j
    · subst hb
      simp only [if_pos]
      funext i
      unfold upd
      by_cases hi : i = k
      · subst hi; simp
      · simp only [if_neg hi]
        by_cases h1 : i < k
        · rw [if_pos h1, if_pos (by omega)]
        · rw [if_neg h1, if_neg (by omega)]
    · simp only [if_neg hb]
  · rintro s rfl
    unfold LJ7_fill_53178_5
    simp (disch := omega) only [nI_leN]
    rw [if_pos (Nat.le_refl _)]
    rfl
def mK_F (q : Nat) (I : Nat → Int32) : List Value := [.int (I 0), .ref (q + 1), .ref (q + 2), .ref (q + 3), .ref (q + 4), .int (I 5), .ref (q + 5), .ref (q + 6), .ref (q + 7), .ref (q + 8), .int (I 10), .int (I 11), .int (I 12), .int (I 13), .int (I 14), .int (I 15), .int (I 16), .ref (q + 9), .int (I 18), .int (I 19), .ref (q + 10), .ref (q + 11), .ref (q + 12), .ref (q + 13), .ref (q + 14), .ref (q + 15), .ref (q + 16), .ref (q + 17), .int (I 28), .int (I 29), .ref (q + 18), .ref (q + 19), .ref (q + 20), .ref (q + 21), .int (I 34), .ref (q + 22), .ref (q + 23), .ref (q + 24)]
def mK_T : Nat → FieldType := fun j => if j = 6 then .boolean else if j = 8 then .byte else if j = 9 then .byte else .int
def mK_L : Nat → Nat := fun j => match j with | 1 => 248 | 2 => 248 | 3 => 248 | 4 => 1984 | 5 => 496 | 6 => 2 | 7 => 6 | 8 => 900 | 9 => 25 | 10 => 144 | 11 => 144 | 12 => 144 | 13 => 144 | 14 => 144 | 15 => 288 | 16 => 12 | 17 => 12 | 18 => 12 | 19 => 12 | 20 => 13 | 21 => 13 | 22 => 9409 | 23 => 9409 | 24 => 156 | _ => 0
def mK : BK := (10, mK_F, mK_T, mK_L, 24)
theorem mK_ob {h : jx_H} {q : Nat} {S : MS} : isO (bput mK h q S) q 10 = some () := bp_is (K := mK)
theorem mK_gi0 {h : jx_H} {q : Nat} {S : MS} : hgi (bput mK h q S) q 10 0 = some (S.1 0) := bp_gi (K := mK) rfl
theorem mK_pi0 {h : jx_H} {q : Nat} {S : MS} {v : Int32} : hp (bput mK h q S) q 10 0 (.int v) = some (bput mK h q (gpi S 0 v)) := bp_pi (K := mK) (Nat.le_of_ble_eq_true rfl) rfl
theorem mK_gi5 {h : jx_H} {q : Nat} {S : MS} : hgi (bput mK h q S) q 10 5 = some (S.1 5) := bp_gi (K := mK) rfl
theorem mK_pi5 {h : jx_H} {q : Nat} {S : MS} {v : Int32} : hp (bput mK h q S) q 10 5 (.int v) = some (bput mK h q (gpi S 5 v)) := bp_pi (K := mK) (Nat.le_of_ble_eq_true rfl) rfl
theorem mK_gi10 {h : jx_H} {q : Nat} {S : MS} : hgi (bput mK h q S) q 10 10 = some (S.1 10) := bp_gi (K := mK) rfl
theorem mK_pi10 {h : jx_H} {q : Nat} {S : MS} {v : Int32} : hp (bput mK h q S) q 10 10 (.int v) = some (bput mK h q (gpi S 10 v)) := bp_pi (K := mK) (Nat.le_of_ble_eq_true rfl) rfl
theorem mK_gi11 {h : jx_H} {q : Nat} {S : MS} : hgi (bput mK h q S) q 10 11 = some (S.1 11) := bp_gi (K := mK) rfl
theorem mK_pi11 {h : jx_H} {q : Nat} {S : MS} {v : Int32} : hp (bput mK h q S) q 10 11 (.int v) = some (bput mK h q (gpi S 11 v)) := bp_pi (K := mK) (Nat.le_of_ble_eq_true rfl) rfl
theorem mK_gi12 {h : jx_H} {q : Nat} {S : MS} : hgi (bput mK h q S) q 10 12 = some (S.1 12) := bp_gi (K := mK) rfl
theorem mK_pi12 {h : jx_H} {q : Nat} {S : MS} {v : Int32} : hp (bput mK h q S) q 10 12 (.int v) = some (bput mK h q (gpi S 12 v)) := bp_pi (K := mK) (Nat.le_of_ble_eq_true rfl) rfl
theorem mK_gi13 {h : jx_H} {q : Nat} {S : MS} : hgi (bput mK h q S) q 10 13 = some (S.1 13) := bp_gi (K := mK) rfl
theorem mK_pi13 {h : jx_H} {q : Nat} {S : MS} {v : Int32} : hp (bput mK h q S) q 10 13 (.int v) = some (bput mK h q (gpi S 13 v)) := bp_pi (K := mK) (Nat.le_of_ble_eq_true rfl) rfl
theorem mK_gi14 {h : jx_H} {q : Nat} {S : MS} : hgi (bput mK h q S) q 10 14 = some (S.1 14) := bp_gi (K := mK) rfl
theorem mK_pi14 {h : jx_H} {q : Nat} {S : MS} {v : Int32} : hp (bput mK h q S) q 10 14 (.int v) = some (bput mK h q (gpi S 14 v)) := bp_pi (K := mK) (Nat.le_of_ble_eq_true rfl) rfl
theorem mK_gi15 {h : jx_H} {q : Nat} {S : MS} : hgi (bput mK h q S) q 10 15 = some (S.1 15) := bp_gi (K := mK) rfl
theorem mK_pi15 {h : jx_H} {q : Nat} {S : MS} {v : Int32} : hp (bput mK h q S) q 10 15 (.int v) = some (bput mK h q (gpi S 15 v)) := bp_pi (K := mK) (Nat.le_of_ble_eq_true rfl) rfl
theorem mK_gi16 {h : jx_H} {q : Nat} {S : MS} : hgi (bput mK h q S) q 10 16 = some (S.1 16) := bp_gi (K := mK) rfl
theorem mK_pi16 {h : jx_H} {q : Nat} {S : MS} {v : Int32} : hp (bput mK h q S) q 10 16 (.int v) = some (bput mK h q (gpi S 16 v)) := bp_pi (K := mK) (Nat.le_of_ble_eq_true rfl) rfl
theorem mK_gi18 {h : jx_H} {q : Nat} {S : MS} : hgi (bput mK h q S) q 10 18 = some (S.1 18) := bp_gi (K := mK) rfl
theorem mK_pi18 {h : jx_H} {q : Nat} {S : MS} {v : Int32} : hp (bput mK h q S) q 10 18 (.int v) = some (bput mK h q (gpi S 18 v)) := bp_pi (K := mK) (Nat.le_of_ble_eq_true rfl) rfl
theorem mK_gi19 {h : jx_H} {q : Nat} {S : MS} : hgi (bput mK h q S) q 10 19 = some (S.1 19) := bp_gi (K := mK) rfl
theorem mK_pi19 {h : jx_H} {q : Nat} {S : MS} {v : Int32} : hp (bput mK h q S) q 10 19 (.int v) = some (bput mK h q (gpi S 19 v)) := bp_pi (K := mK) (Nat.le_of_ble_eq_true rfl) rfl
theorem mK_gi28 {h : jx_H} {q : Nat} {S : MS} : hgi (bput mK h q S) q 10 28 = some (S.1 28) := bp_gi (K := mK) rfl
theorem mK_pi28 {h : jx_H} {q : Nat} {S : MS} {v : Int32} : hp (bput mK h q S) q 10 28 (.int v) = some (bput mK h q (gpi S 28 v)) := bp_pi (K := mK) (Nat.le_of_ble_eq_true rfl) rfl
theorem mK_gi29 {h : jx_H} {q : Nat} {S : MS} : hgi (bput mK h q S) q 10 29 = some (S.1 29) := bp_gi (K := mK) rfl
theorem mK_pi29 {h : jx_H} {q : Nat} {S : MS} {v : Int32} : hp (bput mK h q S) q 10 29 (.int v) = some (bput mK h q (gpi S 29 v)) := bp_pi (K := mK) (Nat.le_of_ble_eq_true rfl) rfl
theorem mK_gi34 {h : jx_H} {q : Nat} {S : MS} : hgi (bput mK h q S) q 10 34 = some (S.1 34) := bp_gi (K := mK) rfl
theorem mK_pi34 {h : jx_H} {q : Nat} {S : MS} {v : Int32} : hp (bput mK h q S) q 10 34 (.int v) = some (bput mK h q (gpi S 34 v)) := bp_pi (K := mK) (Nat.le_of_ble_eq_true rfl) rfl
theorem mK_gr1 {h : jx_H} {q : Nat} {S : MS} : hgr (bput mK h q S) q 10 1 = some (q + 1) := bp_gr (K := mK) rfl
theorem mK_al1 {h : jx_H} {q : Nat} {S : MS} {i : Int32} : hal (bput mK h q S) .int (q + 1) i = gal mK S 1 i := bp_al (K := mK) ⟨Nat.le_of_ble_eq_true rfl, Nat.le_of_ble_eq_true rfl⟩ rfl
theorem mK_as1 {h : jx_H} {q : Nat} {S : MS} {i x : Int32} : has (bput mK h q S) .int (q + 1) i x = (gas mK S 1 i x).map (bput mK h q) := bp_as (K := mK) ⟨Nat.le_of_ble_eq_true rfl, Nat.le_of_ble_eq_true rfl⟩ rfl
theorem mK_fl1 {h : jx_H} {q : Nat} {S : MS} {v : Int32} : FJ7_fill_53178 (q + 1) v (bput mK h q S) = (gfl mK S 1 v).map (bput mK h q) := bp_fl (K := mK) ⟨Nat.le_of_ble_eq_true rfl, Nat.le_of_ble_eq_true rfl⟩ rfl (Nat.le_of_ble_eq_true rfl)
theorem mK_gr2 {h : jx_H} {q : Nat} {S : MS} : hgr (bput mK h q S) q 10 2 = some (q + 2) := bp_gr (K := mK) rfl
theorem mK_al2 {h : jx_H} {q : Nat} {S : MS} {i : Int32} : hal (bput mK h q S) .int (q + 2) i = gal mK S 2 i := bp_al (K := mK) ⟨Nat.le_of_ble_eq_true rfl, Nat.le_of_ble_eq_true rfl⟩ rfl
theorem mK_as2 {h : jx_H} {q : Nat} {S : MS} {i x : Int32} : has (bput mK h q S) .int (q + 2) i x = (gas mK S 2 i x).map (bput mK h q) := bp_as (K := mK) ⟨Nat.le_of_ble_eq_true rfl, Nat.le_of_ble_eq_true rfl⟩ rfl
theorem mK_fl2 {h : jx_H} {q : Nat} {S : MS} {v : Int32} : FJ7_fill_53178 (q + 2) v (bput mK h q S) = (gfl mK S 2 v).map (bput mK h q) := bp_fl (K := mK) ⟨Nat.le_of_ble_eq_true rfl, Nat.le_of_ble_eq_true rfl⟩ rfl (Nat.le_of_ble_eq_true rfl)
theorem mK_gr3 {h : jx_H} {q : Nat} {S : MS} : hgr (bput mK h q S) q 10 3 = some (q + 3) := bp_gr (K := mK) rfl
theorem mK_al3 {h : jx_H} {q : Nat} {S : MS} {i : Int32} : hal (bput mK h q S) .int (q + 3) i = gal mK S 3 i := bp_al (K := mK) ⟨Nat.le_of_ble_eq_true rfl, Nat.le_of_ble_eq_true rfl⟩ rfl
theorem mK_as3 {h : jx_H} {q : Nat} {S : MS} {i x : Int32} : has (bput mK h q S) .int (q + 3) i x = (gas mK S 3 i x).map (bput mK h q) := bp_as (K := mK) ⟨Nat.le_of_ble_eq_true rfl, Nat.le_of_ble_eq_true rfl⟩ rfl
theorem mK_fl3 {h : jx_H} {q : Nat} {S : MS} {v : Int32} : FJ7_fill_53178 (q + 3) v (bput mK h q S) = (gfl mK S 3 v).map (bput mK h q) := bp_fl (K := mK) ⟨Nat.le_of_ble_eq_true rfl, Nat.le_of_ble_eq_true rfl⟩ rfl (Nat.le_of_ble_eq_true rfl)
theorem mK_gr4 {h : jx_H} {q : Nat} {S : MS} : hgr (bput mK h q S) q 10 4 = some (q + 4) := bp_gr (K := mK) rfl
theorem mK_al4 {h : jx_H} {q : Nat} {S : MS} {i : Int32} : hal (bput mK h q S) .int (q + 4) i = gal mK S 4 i := bp_al (K := mK) ⟨Nat.le_of_ble_eq_true rfl, Nat.le_of_ble_eq_true rfl⟩ rfl
theorem mK_as4 {h : jx_H} {q : Nat} {S : MS} {i x : Int32} : has (bput mK h q S) .int (q + 4) i x = (gas mK S 4 i x).map (bput mK h q) := bp_as (K := mK) ⟨Nat.le_of_ble_eq_true rfl, Nat.le_of_ble_eq_true rfl⟩ rfl
theorem mK_fl4 {h : jx_H} {q : Nat} {S : MS} {v : Int32} : FJ7_fill_53178 (q + 4) v (bput mK h q S) = (gfl mK S 4 v).map (bput mK h q) := bp_fl (K := mK) ⟨Nat.le_of_ble_eq_true rfl, Nat.le_of_ble_eq_true rfl⟩ rfl (Nat.le_of_ble_eq_true rfl)
theorem mK_gr6 {h : jx_H} {q : Nat} {S : MS} : hgr (bput mK h q S) q 10 6 = some (q + 5) := bp_gr (K := mK) rfl
theorem mK_al5 {h : jx_H} {q : Nat} {S : MS} {i : Int32} : hal (bput mK h q S) .int (q + 5) i = gal mK S 5 i := bp_al (K := mK) ⟨Nat.le_of_ble_eq_true rfl, Nat.le_of_ble_eq_true rfl⟩ rfl
theorem mK_as5 {h : jx_H} {q : Nat} {S : MS} {i x : Int32} : has (bput mK h q S) .int (q + 5) i x = (gas mK S 5 i x).map (bput mK h q) := bp_as (K := mK) ⟨Nat.le_of_ble_eq_true rfl, Nat.le_of_ble_eq_true rfl⟩ rfl
theorem mK_fl5 {h : jx_H} {q : Nat} {S : MS} {v : Int32} : FJ7_fill_53178 (q + 5) v (bput mK h q S) = (gfl mK S 5 v).map (bput mK h q) := bp_fl (K := mK) ⟨Nat.le_of_ble_eq_true rfl, Nat.le_of_ble_eq_true rfl⟩ rfl (Nat.le_of_ble_eq_true rfl)
theorem mK_gr7 {h : jx_H} {q : Nat} {S : MS} : hgr (bput mK h q S) q 10 7 = some (q + 6) := bp_gr (K := mK) rfl
theorem mK_al6 {h : jx_H} {q : Nat} {S : MS} {i : Int32} : hal (bput mK h q S) .boolean (q + 6) i = gal mK S 6 i := bp_al (K := mK) ⟨Nat.le_of_ble_eq_true rfl, Nat.le_of_ble_eq_true rfl⟩ rfl
theorem mK_as6 {h : jx_H} {q : Nat} {S : MS} {i x : Int32} : has (bput mK h q S) .boolean (q + 6) i x = (gas mK S 6 i x).map (bput mK h q) := bp_as (K := mK) ⟨Nat.le_of_ble_eq_true rfl, Nat.le_of_ble_eq_true rfl⟩ rfl
theorem mK_gr8 {h : jx_H} {q : Nat} {S : MS} : hgr (bput mK h q S) q 10 8 = some (q + 7) := bp_gr (K := mK) rfl
theorem mK_al7 {h : jx_H} {q : Nat} {S : MS} {i : Int32} : hal (bput mK h q S) .int (q + 7) i = gal mK S 7 i := bp_al (K := mK) ⟨Nat.le_of_ble_eq_true rfl, Nat.le_of_ble_eq_true rfl⟩ rfl
theorem mK_as7 {h : jx_H} {q : Nat} {S : MS} {i x : Int32} : has (bput mK h q S) .int (q + 7) i x = (gas mK S 7 i x).map (bput mK h q) := bp_as (K := mK) ⟨Nat.le_of_ble_eq_true rfl, Nat.le_of_ble_eq_true rfl⟩ rfl
theorem mK_fl7 {h : jx_H} {q : Nat} {S : MS} {v : Int32} : FJ7_fill_53178 (q + 7) v (bput mK h q S) = (gfl mK S 7 v).map (bput mK h q) := bp_fl (K := mK) ⟨Nat.le_of_ble_eq_true rfl, Nat.le_of_ble_eq_true rfl⟩ rfl (Nat.le_of_ble_eq_true rfl)
theorem mK_gr9 {h : jx_H} {q : Nat} {S : MS} : hgr (bput mK h q S) q 10 9 = some (q + 8) := bp_gr (K := mK) rfl
theorem mK_al8 {h : jx_H} {q : Nat} {S : MS} {i : Int32} : hal (bput mK h q S) .byte (q + 8) i = gal mK S 8 i := bp_al (K := mK) ⟨Nat.le_of_ble_eq_true rfl, Nat.le_of_ble_eq_true rfl⟩ rfl
theorem mK_as8 {h : jx_H} {q : Nat} {S : MS} {i x : Int32} : has (bput mK h q S) .byte (q + 8) i x = (gas mK S 8 i x).map (bput mK h q) := bp_as (K := mK) ⟨Nat.le_of_ble_eq_true rfl, Nat.le_of_ble_eq_true rfl⟩ rfl
theorem mK_gr17 {h : jx_H} {q : Nat} {S : MS} : hgr (bput mK h q S) q 10 17 = some (q + 9) := bp_gr (K := mK) rfl
theorem mK_al9 {h : jx_H} {q : Nat} {S : MS} {i : Int32} : hal (bput mK h q S) .byte (q + 9) i = gal mK S 9 i := bp_al (K := mK) ⟨Nat.le_of_ble_eq_true rfl, Nat.le_of_ble_eq_true rfl⟩ rfl
theorem mK_as9 {h : jx_H} {q : Nat} {S : MS} {i x : Int32} : has (bput mK h q S) .byte (q + 9) i x = (gas mK S 9 i x).map (bput mK h q) := bp_as (K := mK) ⟨Nat.le_of_ble_eq_true rfl, Nat.le_of_ble_eq_true rfl⟩ rfl
theorem mK_gr20 {h : jx_H} {q : Nat} {S : MS} : hgr (bput mK h q S) q 10 20 = some (q + 10) := bp_gr (K := mK) rfl
theorem mK_al10 {h : jx_H} {q : Nat} {S : MS} {i : Int32} : hal (bput mK h q S) .int (q + 10) i = gal mK S 10 i := bp_al (K := mK) ⟨Nat.le_of_ble_eq_true rfl, Nat.le_of_ble_eq_true rfl⟩ rfl
theorem mK_as10 {h : jx_H} {q : Nat} {S : MS} {i x : Int32} : has (bput mK h q S) .int (q + 10) i x = (gas mK S 10 i x).map (bput mK h q) := bp_as (K := mK) ⟨Nat.le_of_ble_eq_true rfl, Nat.le_of_ble_eq_true rfl⟩ rfl
theorem mK_fl10 {h : jx_H} {q : Nat} {S : MS} {v : Int32} : FJ7_fill_53178 (q + 10) v (bput mK h q S) = (gfl mK S 10 v).map (bput mK h q) := bp_fl (K := mK) ⟨Nat.le_of_ble_eq_true rfl, Nat.le_of_ble_eq_true rfl⟩ rfl (Nat.le_of_ble_eq_true rfl)
theorem mK_gr21 {h : jx_H} {q : Nat} {S : MS} : hgr (bput mK h q S) q 10 21 = some (q + 11) := bp_gr (K := mK) rfl
theorem mK_al11 {h : jx_H} {q : Nat} {S : MS} {i : Int32} : hal (bput mK h q S) .int (q + 11) i = gal mK S 11 i := bp_al (K := mK) ⟨Nat.le_of_ble_eq_true rfl, Nat.le_of_ble_eq_true rfl⟩ rfl
theorem mK_as11 {h : jx_H} {q : Nat} {S : MS} {i x : Int32} : has (bput mK h q S) .int (q + 11) i x = (gas mK S 11 i x).map (bput mK h q) := bp_as (K := mK) ⟨Nat.le_of_ble_eq_true rfl, Nat.le_of_ble_eq_true rfl⟩ rfl
theorem mK_fl11 {h : jx_H} {q : Nat} {S : MS} {v : Int32} : FJ7_fill_53178 (q + 11) v (bput mK h q S) = (gfl mK S 11 v).map (bput mK h q) := bp_fl (K := mK) ⟨Nat.le_of_ble_eq_true rfl, Nat.le_of_ble_eq_true rfl⟩ rfl (Nat.le_of_ble_eq_true rfl)
theorem mK_gr22 {h : jx_H} {q : Nat} {S : MS} : hgr (bput mK h q S) q 10 22 = some (q + 12) := bp_gr (K := mK) rfl
theorem mK_al12 {h : jx_H} {q : Nat} {S : MS} {i : Int32} : hal (bput mK h q S) .int (q + 12) i = gal mK S 12 i := bp_al (K := mK) ⟨Nat.le_of_ble_eq_true rfl, Nat.le_of_ble_eq_true rfl⟩ rfl
theorem mK_as12 {h : jx_H} {q : Nat} {S : MS} {i x : Int32} : has (bput mK h q S) .int (q + 12) i x = (gas mK S 12 i x).map (bput mK h q) := bp_as (K := mK) ⟨Nat.le_of_ble_eq_true rfl, Nat.le_of_ble_eq_true rfl⟩ rfl
theorem mK_fl12 {h : jx_H} {q : Nat} {S : MS} {v : Int32} : FJ7_fill_53178 (q + 12) v (bput mK h q S) = (gfl mK S 12 v).map (bput mK h q) := bp_fl (K := mK) ⟨Nat.le_of_ble_eq_true rfl, Nat.le_of_ble_eq_true rfl⟩ rfl (Nat.le_of_ble_eq_true rfl)
theorem mK_gr23 {h : jx_H} {q : Nat} {S : MS} : hgr (bput mK h q S) q 10 23 = some (q + 13) := bp_gr (K := mK) rfl
theorem mK_al13 {h : jx_H} {q : Nat} {S : MS} {i : Int32} : hal (bput mK h q S) .int (q + 13) i = gal mK S 13 i := bp_al (K := mK) ⟨Nat.le_of_ble_eq_true rfl, Nat.le_of_ble_eq_true rfl⟩ rfl
theorem mK_as13 {h : jx_H} {q : Nat} {S : MS} {i x : Int32} : has (bput mK h q S) .int (q + 13) i x = (gas mK S 13 i x).map (bput mK h q) := bp_as (K := mK) ⟨Nat.le_of_ble_eq_true rfl, Nat.le_of_ble_eq_true rfl⟩ rfl
theorem mK_fl13 {h : jx_H} {q : Nat} {S : MS} {v : Int32} : FJ7_fill_53178 (q + 13) v (bput mK h q S) = (gfl mK S 13 v).map (bput mK h q) := bp_fl (K := mK) ⟨Nat.le_of_ble_eq_true rfl, Nat.le_of_ble_eq_true rfl⟩ rfl (Nat.le_of_ble_eq_true rfl)
theorem mK_gr24 {h : jx_H} {q : Nat} {S : MS} : hgr (bput mK h q S) q 10 24 = some (q + 14) := bp_gr (K := mK) rfl
theorem mK_al14 {h : jx_H} {q : Nat} {S : MS} {i : Int32} : hal (bput mK h q S) .int (q + 14) i = gal mK S 14 i := bp_al (K := mK) ⟨Nat.le_of_ble_eq_true rfl, Nat.le_of_ble_eq_true rfl⟩ rfl
theorem mK_as14 {h : jx_H} {q : Nat} {S : MS} {i x : Int32} : has (bput mK h q S) .int (q + 14) i x = (gas mK S 14 i x).map (bput mK h q) := bp_as (K := mK) ⟨Nat.le_of_ble_eq_true rfl, Nat.le_of_ble_eq_true rfl⟩ rfl
theorem mK_fl14 {h : jx_H} {q : Nat} {S : MS} {v : Int32} : FJ7_fill_53178 (q + 14) v (bput mK h q S) = (gfl mK S 14 v).map (bput mK h q) := bp_fl (K := mK) ⟨Nat.le_of_ble_eq_true rfl, Nat.le_of_ble_eq_true rfl⟩ rfl (Nat.le_of_ble_eq_true rfl)
theorem mK_gr25 {h : jx_H} {q : Nat} {S : MS} : hgr (bput mK h q S) q 10 25 = some (q + 15) := bp_gr (K := mK) rfl
theorem mK_al15 {h : jx_H} {q : Nat} {S : MS} {i : Int32} : hal (bput mK h q S) .int (q + 15) i = gal mK S 15 i := bp_al (K := mK) ⟨Nat.le_of_ble_eq_true rfl, Nat.le_of_ble_eq_true rfl⟩ rfl
theorem mK_as15 {h : jx_H} {q : Nat} {S : MS} {i x : Int32} : has (bput mK h q S) .int (q + 15) i x = (gas mK S 15 i x).map (bput mK h q) := bp_as (K := mK) ⟨Nat.le_of_ble_eq_true rfl, Nat.le_of_ble_eq_true rfl⟩ rfl
theorem mK_fl15 {h : jx_H} {q : Nat} {S : MS} {v : Int32} : FJ7_fill_53178 (q + 15) v (bput mK h q S) = (gfl mK S 15 v).map (bput mK h q) := bp_fl (K := mK) ⟨Nat.le_of_ble_eq_true rfl, Nat.le_of_ble_eq_true rfl⟩ rfl (Nat.le_of_ble_eq_true rfl)
theorem mK_gr26 {h : jx_H} {q : Nat} {S : MS} : hgr (bput mK h q S) q 10 26 = some (q + 16) := bp_gr (K := mK) rfl
theorem mK_al16 {h : jx_H} {q : Nat} {S : MS} {i : Int32} : hal (bput mK h q S) .int (q + 16) i = gal mK S 16 i := bp_al (K := mK) ⟨Nat.le_of_ble_eq_true rfl, Nat.le_of_ble_eq_true rfl⟩ rfl
theorem mK_as16 {h : jx_H} {q : Nat} {S : MS} {i x : Int32} : has (bput mK h q S) .int (q + 16) i x = (gas mK S 16 i x).map (bput mK h q) := bp_as (K := mK) ⟨Nat.le_of_ble_eq_true rfl, Nat.le_of_ble_eq_true rfl⟩ rfl
theorem mK_fl16 {h : jx_H} {q : Nat} {S : MS} {v : Int32} : FJ7_fill_53178 (q + 16) v (bput mK h q S) = (gfl mK S 16 v).map (bput mK h q) := bp_fl (K := mK) ⟨Nat.le_of_ble_eq_true rfl, Nat.le_of_ble_eq_true rfl⟩ rfl (Nat.le_of_ble_eq_true rfl)
theorem mK_gr27 {h : jx_H} {q : Nat} {S : MS} : hgr (bput mK h q S) q 10 27 = some (q + 17) := bp_gr (K := mK) rfl
theorem mK_al17 {h : jx_H} {q : Nat} {S : MS} {i : Int32} : hal (bput mK h q S) .int (q + 17) i = gal mK S 17 i := bp_al (K := mK) ⟨Nat.le_of_ble_eq_true rfl, Nat.le_of_ble_eq_true rfl⟩ rfl
theorem mK_as17 {h : jx_H} {q : Nat} {S : MS} {i x : Int32} : has (bput mK h q S) .int (q + 17) i x = (gas mK S 17 i x).map (bput mK h q) := bp_as (K := mK) ⟨Nat.le_of_ble_eq_true rfl, Nat.le_of_ble_eq_true rfl⟩ rfl
theorem mK_fl17 {h : jx_H} {q : Nat} {S : MS} {v : Int32} : FJ7_fill_53178 (q + 17) v (bput mK h q S) = (gfl mK S 17 v).map (bput mK h q) := bp_fl (K := mK) ⟨Nat.le_of_ble_eq_true rfl, Nat.le_of_ble_eq_true rfl⟩ rfl (Nat.le_of_ble_eq_true rfl)
theorem mK_gr30 {h : jx_H} {q : Nat} {S : MS} : hgr (bput mK h q S) q 10 30 = some (q + 18) := bp_gr (K := mK) rfl
theorem mK_al18 {h : jx_H} {q : Nat} {S : MS} {i : Int32} : hal (bput mK h q S) .int (q + 18) i = gal mK S 18 i := bp_al (K := mK) ⟨Nat.le_of_ble_eq_true rfl, Nat.le_of_ble_eq_true rfl⟩ rfl
theorem mK_as18 {h : jx_H} {q : Nat} {S : MS} {i x : Int32} : has (bput mK h q S) .int (q + 18) i x = (gas mK S 18 i x).map (bput mK h q) := bp_as (K := mK) ⟨Nat.le_of_ble_eq_true rfl, Nat.le_of_ble_eq_true rfl⟩ rfl
theorem mK_fl18 {h : jx_H} {q : Nat} {S : MS} {v : Int32} : FJ7_fill_53178 (q + 18) v (bput mK h q S) = (gfl mK S 18 v).map (bput mK h q) := bp_fl (K := mK) ⟨Nat.le_of_ble_eq_true rfl, Nat.le_of_ble_eq_true rfl⟩ rfl (Nat.le_of_ble_eq_true rfl)
theorem mK_gr31 {h : jx_H} {q : Nat} {S : MS} : hgr (bput mK h q S) q 10 31 = some (q + 19) := bp_gr (K := mK) rfl
theorem mK_al19 {h : jx_H} {q : Nat} {S : MS} {i : Int32} : hal (bput mK h q S) .int (q + 19) i = gal mK S 19 i := bp_al (K := mK) ⟨Nat.le_of_ble_eq_true rfl, Nat.le_of_ble_eq_true rfl⟩ rfl
theorem mK_as19 {h : jx_H} {q : Nat} {S : MS} {i x : Int32} : has (bput mK h q S) .int (q + 19) i x = (gas mK S 19 i x).map (bput mK h q) := bp_as (K := mK) ⟨Nat.le_of_ble_eq_true rfl, Nat.le_of_ble_eq_true rfl⟩ rfl
theorem mK_fl19 {h : jx_H} {q : Nat} {S : MS} {v : Int32} : FJ7_fill_53178 (q + 19) v (bput mK h q S) = (gfl mK S 19 v).map (bput mK h q) := bp_fl (K := mK) ⟨Nat.le_of_ble_eq_true rfl, Nat.le_of_ble_eq_true rfl⟩ rfl (Nat.le_of_ble_eq_true rfl)
theorem mK_gr32 {h : jx_H} {q : Nat} {S : MS} : hgr (bput mK h q S) q 10 32 = some (q + 20) := bp_gr (K := mK) rfl
theorem mK_al20 {h : jx_H} {q : Nat} {S : MS} {i : Int32} : hal (bput mK h q S) .int (q + 20) i = gal mK S 20 i := bp_al (K := mK) ⟨Nat.le_of_ble_eq_true rfl, Nat.le_of_ble_eq_true rfl⟩ rfl
theorem mK_as20 {h : jx_H} {q : Nat} {S : MS} {i x : Int32} : has (bput mK h q S) .int (q + 20) i x = (gas mK S 20 i x).map (bput mK h q) := bp_as (K := mK) ⟨Nat.le_of_ble_eq_true rfl, Nat.le_of_ble_eq_true rfl⟩ rfl
theorem mK_fl20 {h : jx_H} {q : Nat} {S : MS} {v : Int32} : FJ7_fill_53178 (q + 20) v (bput mK h q S) = (gfl mK S 20 v).map (bput mK h q) := bp_fl (K := mK) ⟨Nat.le_of_ble_eq_true rfl, Nat.le_of_ble_eq_true rfl⟩ rfl (Nat.le_of_ble_eq_true rfl)
theorem mK_gr33 {h : jx_H} {q : Nat} {S : MS} : hgr (bput mK h q S) q 10 33 = some (q + 21) := bp_gr (K := mK) rfl
theorem mK_al21 {h : jx_H} {q : Nat} {S : MS} {i : Int32} : hal (bput mK h q S) .int (q + 21) i = gal mK S 21 i := bp_al (K := mK) ⟨Nat.le_of_ble_eq_true rfl, Nat.le_of_ble_eq_true rfl⟩ rfl
theorem mK_as21 {h : jx_H} {q : Nat} {S : MS} {i x : Int32} : has (bput mK h q S) .int (q + 21) i x = (gas mK S 21 i x).map (bput mK h q) := bp_as (K := mK) ⟨Nat.le_of_ble_eq_true rfl, Nat.le_of_ble_eq_true rfl⟩ rfl
theorem mK_fl21 {h : jx_H} {q : Nat} {S : MS} {v : Int32} : FJ7_fill_53178 (q + 21) v (bput mK h q S) = (gfl mK S 21 v).map (bput mK h q) := bp_fl (K := mK) ⟨Nat.le_of_ble_eq_true rfl, Nat.le_of_ble_eq_true rfl⟩ rfl (Nat.le_of_ble_eq_true rfl)
theorem mK_gr35 {h : jx_H} {q : Nat} {S : MS} : hgr (bput mK h q S) q 10 35 = some (q + 22) := bp_gr (K := mK) rfl
theorem mK_al22 {h : jx_H} {q : Nat} {S : MS} {i : Int32} : hal (bput mK h q S) .int (q + 22) i = gal mK S 22 i := bp_al (K := mK) ⟨Nat.le_of_ble_eq_true rfl, Nat.le_of_ble_eq_true rfl⟩ rfl
theorem mK_as22 {h : jx_H} {q : Nat} {S : MS} {i x : Int32} : has (bput mK h q S) .int (q + 22) i x = (gas mK S 22 i x).map (bput mK h q) := bp_as (K := mK) ⟨Nat.le_of_ble_eq_true rfl, Nat.le_of_ble_eq_true rfl⟩ rfl
theorem mK_fl22 {h : jx_H} {q : Nat} {S : MS} {v : Int32} : FJ7_fill_53178 (q + 22) v (bput mK h q S) = (gfl mK S 22 v).map (bput mK h q) := bp_fl (K := mK) ⟨Nat.le_of_ble_eq_true rfl, Nat.le_of_ble_eq_true rfl⟩ rfl (Nat.le_of_ble_eq_true rfl)
theorem mK_gr36 {h : jx_H} {q : Nat} {S : MS} : hgr (bput mK h q S) q 10 36 = some (q + 23) := bp_gr (K := mK) rfl
theorem mK_al23 {h : jx_H} {q : Nat} {S : MS} {i : Int32} : hal (bput mK h q S) .int (q + 23) i = gal mK S 23 i := bp_al (K := mK) ⟨Nat.le_of_ble_eq_true rfl, Nat.le_of_ble_eq_true rfl⟩ rfl
theorem mK_as23 {h : jx_H} {q : Nat} {S : MS} {i x : Int32} : has (bput mK h q S) .int (q + 23) i x = (gas mK S 23 i x).map (bput mK h q) := bp_as (K := mK) ⟨Nat.le_of_ble_eq_true rfl, Nat.le_of_ble_eq_true rfl⟩ rfl
theorem mK_fl23 {h : jx_H} {q : Nat} {S : MS} {v : Int32} : FJ7_fill_53178 (q + 23) v (bput mK h q S) = (gfl mK S 23 v).map (bput mK h q) := bp_fl (K := mK) ⟨Nat.le_of_ble_eq_true rfl, Nat.le_of_ble_eq_true rfl⟩ rfl (Nat.le_of_ble_eq_true rfl)
theorem mK_gr37 {h : jx_H} {q : Nat} {S : MS} : hgr (bput mK h q S) q 10 37 = some (q + 24) := bp_gr (K := mK) rfl
theorem mK_al24 {h : jx_H} {q : Nat} {S : MS} {i : Int32} : hal (bput mK h q S) .int (q + 24) i = gal mK S 24 i := bp_al (K := mK) ⟨Nat.le_of_ble_eq_true rfl, Nat.le_of_ble_eq_true rfl⟩ rfl
theorem mK_as24 {h : jx_H} {q : Nat} {S : MS} {i x : Int32} : has (bput mK h q S) .int (q + 24) i x = (gas mK S 24 i x).map (bput mK h q) := bp_as (K := mK) ⟨Nat.le_of_ble_eq_true rfl, Nat.le_of_ble_eq_true rfl⟩ rfl
theorem mK_fl24 {h : jx_H} {q : Nat} {S : MS} {v : Int32} : FJ7_fill_53178 (q + 24) v (bput mK h q S) = (gfl mK S 24 v).map (bput mK h q) := bp_fl (K := mK) ⟨Nat.le_of_ble_eq_true rfl, Nat.le_of_ble_eq_true rfl⟩ rfl (Nat.le_of_ble_eq_true rfl)
def sK_F (q : Nat) (I : Nat → Int32) : List Value := [.int (I 0), .ref (q + 1), .int (I 2), .ref (q + 2), .ref (q + 3), .int (I 5), .ref (q + 4), .ref (q + 5), .ref (q + 6), .int (I 9), .ref (q + 7), .ref (q + 8)]
def sK_T : Nat → FieldType := fun j => .int
def sK_L : Nat → Nat := fun j => match j with | 1 => 13 | 2 => 12 | 3 => 12 | 4 => 13 | 5 => 13 | 6 => 156 | 7 => 12 | 8 => 12 | _ => 0
def sK : BK := (5, sK_F, sK_T, sK_L, 8)
theorem sK_ob {h : jx_H} {q : Nat} {S : MS} : isO (bput sK h q S) q 5 = some () := bp_is (K := sK)
theorem sK_gi0 {h : jx_H} {q : Nat} {S : MS} : hgi (bput sK h q S) q 5 0 = some (S.1 0) := bp_gi (K := sK) rfl
theorem sK_pi0 {h : jx_H} {q : Nat} {S : MS} {v : Int32} : hp (bput sK h q S) q 5 0 (.int v) = some (bput sK h q (gpi S 0 v)) := bp_pi (K := sK) (Nat.le_of_ble_eq_true rfl) rfl
theorem sK_gi2 {h : jx_H} {q : Nat} {S : MS} : hgi (bput sK h q S) q 5 2 = some (S.1 2) := bp_gi (K := sK) rfl
theorem sK_pi2 {h : jx_H} {q : Nat} {S : MS} {v : Int32} : hp (bput sK h q S) q 5 2 (.int v) = some (bput sK h q (gpi S 2 v)) := bp_pi (K := sK) (Nat.le_of_ble_eq_true rfl) rfl
theorem sK_gi5 {h : jx_H} {q : Nat} {S : MS} : hgi (bput sK h q S) q 5 5 = some (S.1 5) := bp_gi (K := sK) rfl
theorem sK_pi5 {h : jx_H} {q : Nat} {S : MS} {v : Int32} : hp (bput sK h q S) q 5 5 (.int v) = some (bput sK h q (gpi S 5 v)) := bp_pi (K := sK) (Nat.le_of_ble_eq_true rfl) rfl
theorem sK_gi9 {h : jx_H} {q : Nat} {S : MS} : hgi (bput sK h q S) q 5 9 = some (S.1 9) := bp_gi (K := sK) rfl
theorem sK_pi9 {h : jx_H} {q : Nat} {S : MS} {v : Int32} : hp (bput sK h q S) q 5 9 (.int v) = some (bput sK h q (gpi S 9 v)) := bp_pi (K := sK) (Nat.le_of_ble_eq_true rfl) rfl
theorem sK_gr1 {h : jx_H} {q : Nat} {S : MS} : hgr (bput sK h q S) q 5 1 = some (q + 1) := bp_gr (K := sK) rfl
theorem sK_al1 {h : jx_H} {q : Nat} {S : MS} {i : Int32} : hal (bput sK h q S) .int (q + 1) i = gal sK S 1 i := bp_al (K := sK) ⟨Nat.le_of_ble_eq_true rfl, Nat.le_of_ble_eq_true rfl⟩ rfl
theorem sK_as1 {h : jx_H} {q : Nat} {S : MS} {i x : Int32} : has (bput sK h q S) .int (q + 1) i x = (gas sK S 1 i x).map (bput sK h q) := bp_as (K := sK) ⟨Nat.le_of_ble_eq_true rfl, Nat.le_of_ble_eq_true rfl⟩ rfl
theorem sK_fl1 {h : jx_H} {q : Nat} {S : MS} {v : Int32} : FJ7_fill_53178 (q + 1) v (bput sK h q S) = (gfl sK S 1 v).map (bput sK h q) := bp_fl (K := sK) ⟨Nat.le_of_ble_eq_true rfl, Nat.le_of_ble_eq_true rfl⟩ rfl (Nat.le_of_ble_eq_true rfl)
theorem sK_gr3 {h : jx_H} {q : Nat} {S : MS} : hgr (bput sK h q S) q 5 3 = some (q + 2) := bp_gr (K := sK) rfl
theorem sK_al2 {h : jx_H} {q : Nat} {S : MS} {i : Int32} : hal (bput sK h q S) .int (q + 2) i = gal sK S 2 i := bp_al (K := sK) ⟨Nat.le_of_ble_eq_true rfl, Nat.le_of_ble_eq_true rfl⟩ rfl
theorem sK_as2 {h : jx_H} {q : Nat} {S : MS} {i x : Int32} : has (bput sK h q S) .int (q + 2) i x = (gas sK S 2 i x).map (bput sK h q) := bp_as (K := sK) ⟨Nat.le_of_ble_eq_true rfl, Nat.le_of_ble_eq_true rfl⟩ rfl
theorem sK_fl2 {h : jx_H} {q : Nat} {S : MS} {v : Int32} : FJ7_fill_53178 (q + 2) v (bput sK h q S) = (gfl sK S 2 v).map (bput sK h q) := bp_fl (K := sK) ⟨Nat.le_of_ble_eq_true rfl, Nat.le_of_ble_eq_true rfl⟩ rfl (Nat.le_of_ble_eq_true rfl)
theorem sK_gr4 {h : jx_H} {q : Nat} {S : MS} : hgr (bput sK h q S) q 5 4 = some (q + 3) := bp_gr (K := sK) rfl
theorem sK_al3 {h : jx_H} {q : Nat} {S : MS} {i : Int32} : hal (bput sK h q S) .int (q + 3) i = gal sK S 3 i := bp_al (K := sK) ⟨Nat.le_of_ble_eq_true rfl, Nat.le_of_ble_eq_true rfl⟩ rfl
theorem sK_as3 {h : jx_H} {q : Nat} {S : MS} {i x : Int32} : has (bput sK h q S) .int (q + 3) i x = (gas sK S 3 i x).map (bput sK h q) := bp_as (K := sK) ⟨Nat.le_of_ble_eq_true rfl, Nat.le_of_ble_eq_true rfl⟩ rfl
theorem sK_fl3 {h : jx_H} {q : Nat} {S : MS} {v : Int32} : FJ7_fill_53178 (q + 3) v (bput sK h q S) = (gfl sK S 3 v).map (bput sK h q) := bp_fl (K := sK) ⟨Nat.le_of_ble_eq_true rfl, Nat.le_of_ble_eq_true rfl⟩ rfl (Nat.le_of_ble_eq_true rfl)
theorem sK_gr6 {h : jx_H} {q : Nat} {S : MS} : hgr (bput sK h q S) q 5 6 = some (q + 4) := bp_gr (K := sK) rfl
theorem sK_al4 {h : jx_H} {q : Nat} {S : MS} {i : Int32} : hal (bput sK h q S) .int (q + 4) i = gal sK S 4 i := bp_al (K := sK) ⟨Nat.le_of_ble_eq_true rfl, Nat.le_of_ble_eq_true rfl⟩ rfl
theorem sK_as4 {h : jx_H} {q : Nat} {S : MS} {i x : Int32} : has (bput sK h q S) .int (q + 4) i x = (gas sK S 4 i x).map (bput sK h q) := bp_as (K := sK) ⟨Nat.le_of_ble_eq_true rfl, Nat.le_of_ble_eq_true rfl⟩ rfl
theorem sK_fl4 {h : jx_H} {q : Nat} {S : MS} {v : Int32} : FJ7_fill_53178 (q + 4) v (bput sK h q S) = (gfl sK S 4 v).map (bput sK h q) := bp_fl (K := sK) ⟨Nat.le_of_ble_eq_true rfl, Nat.le_of_ble_eq_true rfl⟩ rfl (Nat.le_of_ble_eq_true rfl)
theorem sK_gr7 {h : jx_H} {q : Nat} {S : MS} : hgr (bput sK h q S) q 5 7 = some (q + 5) := bp_gr (K := sK) rfl
theorem sK_al5 {h : jx_H} {q : Nat} {S : MS} {i : Int32} : hal (bput sK h q S) .int (q + 5) i = gal sK S 5 i := bp_al (K := sK) ⟨Nat.le_of_ble_eq_true rfl, Nat.le_of_ble_eq_true rfl⟩ rfl
theorem sK_as5 {h : jx_H} {q : Nat} {S : MS} {i x : Int32} : has (bput sK h q S) .int (q + 5) i x = (gas sK S 5 i x).map (bput sK h q) := bp_as (K := sK) ⟨Nat.le_of_ble_eq_true rfl, Nat.le_of_ble_eq_true rfl⟩ rfl
theorem sK_fl5 {h : jx_H} {q : Nat} {S : MS} {v : Int32} : FJ7_fill_53178 (q + 5) v (bput sK h q S) = (gfl sK S 5 v).map (bput sK h q) := bp_fl (K := sK) ⟨Nat.le_of_ble_eq_true rfl, Nat.le_of_ble_eq_true rfl⟩ rfl (Nat.le_of_ble_eq_true rfl)
theorem sK_gr8 {h : jx_H} {q : Nat} {S : MS} : hgr (bput sK h q S) q 5 8 = some (q + 6) := bp_gr (K := sK) rfl
theorem sK_al6 {h : jx_H} {q : Nat} {S : MS} {i : Int32} : hal (bput sK h q S) .int (q + 6) i = gal sK S 6 i := bp_al (K := sK) ⟨Nat.le_of_ble_eq_true rfl, Nat.le_of_ble_eq_true rfl⟩ rfl
theorem sK_as6 {h : jx_H} {q : Nat} {S : MS} {i x : Int32} : has (bput sK h q S) .int (q + 6) i x = (gas sK S 6 i x).map (bput sK h q) := bp_as (K := sK) ⟨Nat.le_of_ble_eq_true rfl, Nat.le_of_ble_eq_true rfl⟩ rfl
theorem sK_fl6 {h : jx_H} {q : Nat} {S : MS} {v : Int32} : FJ7_fill_53178 (q + 6) v (bput sK h q S) = (gfl sK S 6 v).map (bput sK h q) := bp_fl (K := sK) ⟨Nat.le_of_ble_eq_true rfl, Nat.le_of_ble_eq_true rfl⟩ rfl (Nat.le_of_ble_eq_true rfl)
theorem sK_gr10 {h : jx_H} {q : Nat} {S : MS} : hgr (bput sK h q S) q 5 10 = some (q + 7) := bp_gr (K := sK) rfl
theorem sK_al7 {h : jx_H} {q : Nat} {S : MS} {i : Int32} : hal (bput sK h q S) .int (q + 7) i = gal sK S 7 i := bp_al (K := sK) ⟨Nat.le_of_ble_eq_true rfl, Nat.le_of_ble_eq_true rfl⟩ rfl
theorem sK_as7 {h : jx_H} {q : Nat} {S : MS} {i x : Int32} : has (bput sK h q S) .int (q + 7) i x = (gas sK S 7 i x).map (bput sK h q) := bp_as (K := sK) ⟨Nat.le_of_ble_eq_true rfl, Nat.le_of_ble_eq_true rfl⟩ rfl
theorem sK_fl7 {h : jx_H} {q : Nat} {S : MS} {v : Int32} : FJ7_fill_53178 (q + 7) v (bput sK h q S) = (gfl sK S 7 v).map (bput sK h q) := bp_fl (K := sK) ⟨Nat.le_of_ble_eq_true rfl, Nat.le_of_ble_eq_true rfl⟩ rfl (Nat.le_of_ble_eq_true rfl)
theorem sK_gr11 {h : jx_H} {q : Nat} {S : MS} : hgr (bput sK h q S) q 5 11 = some (q + 8) := bp_gr (K := sK) rfl
theorem sK_al8 {h : jx_H} {q : Nat} {S : MS} {i : Int32} : hal (bput sK h q S) .int (q + 8) i = gal sK S 8 i := bp_al (K := sK) ⟨Nat.le_of_ble_eq_true rfl, Nat.le_of_ble_eq_true rfl⟩ rfl
theorem sK_as8 {h : jx_H} {q : Nat} {S : MS} {i x : Int32} : has (bput sK h q S) .int (q + 8) i x = (gas sK S 8 i x).map (bput sK h q) := bp_as (K := sK) ⟨Nat.le_of_ble_eq_true rfl, Nat.le_of_ble_eq_true rfl⟩ rfl
theorem sK_fl8 {h : jx_H} {q : Nat} {S : MS} {v : Int32} : FJ7_fill_53178 (q + 8) v (bput sK h q S) = (gfl sK S 8 v).map (bput sK h q) := bp_fl (K := sK) ⟨Nat.le_of_ble_eq_true rfl, Nat.le_of_ble_eq_true rfl⟩ rfl (Nat.le_of_ble_eq_true rfl)
def xK_F (q : Nat) (I : Nat → Int32) : List Value := [.int (I 0), .int (I 1), .ref (q + 1), .ref (q + 2), .int (I 4), .int (I 5), .int (I 6)]
def xK_T : Nat → FieldType := fun j => .int
def xK_L (H W : Nat) : Nat → Nat := fun j => if j = 1 then min (H * W) 4096 else min H 4096
def xK (H W : Nat) : BK := (2, xK_F, xK_T, xK_L H W, 2)
theorem xK_ob {H W : Nat} {h : jx_H} {q : Nat} {S : MS} : isO (bput (xK H W) h q S) q 2 = some () := bp_is (K := (xK H W))
theorem xK_gi0 {H W : Nat} {h : jx_H} {q : Nat} {S : MS} : hgi (bput (xK H W) h q S) q 2 0 = some (S.1 0) := bp_gi (K := (xK H W)) rfl
theorem xK_pi0 {H W : Nat} {h : jx_H} {q : Nat} {S : MS} {v : Int32} : hp (bput (xK H W) h q S) q 2 0 (.int v) = some (bput (xK H W) h q (gpi S 0 v)) := bp_pi (K := (xK H W)) (Nat.le_of_ble_eq_true rfl) rfl
theorem xK_gi1 {H W : Nat} {h : jx_H} {q : Nat} {S : MS} : hgi (bput (xK H W) h q S) q 2 1 = some (S.1 1) := bp_gi (K := (xK H W)) rfl
theorem xK_pi1 {H W : Nat} {h : jx_H} {q : Nat} {S : MS} {v : Int32} : hp (bput (xK H W) h q S) q 2 1 (.int v) = some (bput (xK H W) h q (gpi S 1 v)) := bp_pi (K := (xK H W)) (Nat.le_of_ble_eq_true rfl) rfl
theorem xK_gi4 {H W : Nat} {h : jx_H} {q : Nat} {S : MS} : hgi (bput (xK H W) h q S) q 2 4 = some (S.1 4) := bp_gi (K := (xK H W)) rfl
theorem xK_pi4 {H W : Nat} {h : jx_H} {q : Nat} {S : MS} {v : Int32} : hp (bput (xK H W) h q S) q 2 4 (.int v) = some (bput (xK H W) h q (gpi S 4 v)) := bp_pi (K := (xK H W)) (Nat.le_of_ble_eq_true rfl) rfl
theorem xK_gi5 {H W : Nat} {h : jx_H} {q : Nat} {S : MS} : hgi (bput (xK H W) h q S) q 2 5 = some (S.1 5) := bp_gi (K := (xK H W)) rfl
theorem xK_pi5 {H W : Nat} {h : jx_H} {q : Nat} {S : MS} {v : Int32} : hp (bput (xK H W) h q S) q 2 5 (.int v) = some (bput (xK H W) h q (gpi S 5 v)) := bp_pi (K := (xK H W)) (Nat.le_of_ble_eq_true rfl) rfl
theorem xK_gi6 {H W : Nat} {h : jx_H} {q : Nat} {S : MS} : hgi (bput (xK H W) h q S) q 2 6 = some (S.1 6) := bp_gi (K := (xK H W)) rfl
theorem xK_pi6 {H W : Nat} {h : jx_H} {q : Nat} {S : MS} {v : Int32} : hp (bput (xK H W) h q S) q 2 6 (.int v) = some (bput (xK H W) h q (gpi S 6 v)) := bp_pi (K := (xK H W)) (Nat.le_of_ble_eq_true rfl) rfl
theorem xK_gr2 {H W : Nat} {h : jx_H} {q : Nat} {S : MS} : hgr (bput (xK H W) h q S) q 2 2 = some (q + 1) := bp_gr (K := (xK H W)) rfl
theorem xK_al1 {H W : Nat} {h : jx_H} {q : Nat} {S : MS} {i : Int32} : hal (bput (xK H W) h q S) .int (q + 1) i = gal (xK H W) S 1 i := bp_al (K := (xK H W)) ⟨Nat.le_of_ble_eq_true rfl, Nat.le_of_ble_eq_true rfl⟩ rfl
theorem xK_as1 {H W : Nat} {h : jx_H} {q : Nat} {S : MS} {i x : Int32} : has (bput (xK H W) h q S) .int (q + 1) i x = (gas (xK H W) S 1 i x).map (bput (xK H W) h q) := bp_as (K := (xK H W)) ⟨Nat.le_of_ble_eq_true rfl, Nat.le_of_ble_eq_true rfl⟩ rfl
theorem xK_fl1 {H W : Nat} {h : jx_H} {q : Nat} {S : MS} {v : Int32} : FJ7_fill_53178 (q + 1) v (bput (xK H W) h q S) = (gfl (xK H W) S 1 v).map (bput (xK H W) h q) := bp_fl (K := (xK H W)) ⟨Nat.le_of_ble_eq_true rfl, Nat.le_of_ble_eq_true rfl⟩ rfl (Nat.lt_of_le_of_lt (Nat.min_le_right _ _) (Nat.le_of_ble_eq_true rfl))
theorem xK_gr3 {H W : Nat} {h : jx_H} {q : Nat} {S : MS} : hgr (bput (xK H W) h q S) q 2 3 = some (q + 2) := bp_gr (K := (xK H W)) rfl
theorem xK_al2 {H W : Nat} {h : jx_H} {q : Nat} {S : MS} {i : Int32} : hal (bput (xK H W) h q S) .int (q + 2) i = gal (xK H W) S 2 i := bp_al (K := (xK H W)) ⟨Nat.le_of_ble_eq_true rfl, Nat.le_of_ble_eq_true rfl⟩ rfl
theorem xK_as2 {H W : Nat} {h : jx_H} {q : Nat} {S : MS} {i x : Int32} : has (bput (xK H W) h q S) .int (q + 2) i x = (gas (xK H W) S 2 i x).map (bput (xK H W) h q) := bp_as (K := (xK H W)) ⟨Nat.le_of_ble_eq_true rfl, Nat.le_of_ble_eq_true rfl⟩ rfl
theorem xK_fl2 {H W : Nat} {h : jx_H} {q : Nat} {S : MS} {v : Int32} : FJ7_fill_53178 (q + 2) v (bput (xK H W) h q S) = (gfl (xK H W) S 2 v).map (bput (xK H W) h q) := bp_fl (K := (xK H W)) ⟨Nat.le_of_ble_eq_true rfl, Nat.le_of_ble_eq_true rfl⟩ rfl (Nat.lt_of_le_of_lt (Nat.min_le_right _ _) (Nat.le_of_ble_eq_true rfl))
def tK_F (q : Nat) (I : Nat → Int32) : List Value := [.ref (q + 1), .int (I 1), .int (I 2), .int (I 3), .int (I 4), .int (I 5)]
def tK_T : Nat → FieldType := fun j => if j = 1 then .byte else .int
def tK_L : Nat → Nat := fun j => match j with | 1 => 900 | _ => 0
def tK : BK := (7, tK_F, tK_T, tK_L, 1)
theorem tK_ob {h : jx_H} {q : Nat} {S : MS} : isO (bput tK h q S) q 7 = some () := bp_is (K := tK)
theorem tK_gi1 {h : jx_H} {q : Nat} {S : MS} : hgi (bput tK h q S) q 7 1 = some (S.1 1) := bp_gi (K := tK) rfl
theorem tK_pi1 {h : jx_H} {q : Nat} {S : MS} {v : Int32} : hp (bput tK h q S) q 7 1 (.int v) = some (bput tK h q (gpi S 1 v)) := bp_pi (K := tK) (Nat.le_of_ble_eq_true rfl) rfl
theorem tK_gi2 {h : jx_H} {q : Nat} {S : MS} : hgi (bput tK h q S) q 7 2 = some (S.1 2) := bp_gi (K := tK) rfl
theorem tK_pi2 {h : jx_H} {q : Nat} {S : MS} {v : Int32} : hp (bput tK h q S) q 7 2 (.int v) = some (bput tK h q (gpi S 2 v)) := bp_pi (K := tK) (Nat.le_of_ble_eq_true rfl) rfl
theorem tK_gi3 {h : jx_H} {q : Nat} {S : MS} : hgi (bput tK h q S) q 7 3 = some (S.1 3) := bp_gi (K := tK) rfl
theorem tK_pi3 {h : jx_H} {q : Nat} {S : MS} {v : Int32} : hp (bput tK h q S) q 7 3 (.int v) = some (bput tK h q (gpi S 3 v)) := bp_pi (K := tK) (Nat.le_of_ble_eq_true rfl) rfl
theorem tK_gi4 {h : jx_H} {q : Nat} {S : MS} : hgi (bput tK h q S) q 7 4 = some (S.1 4) := bp_gi (K := tK) rfl
theorem tK_pi4 {h : jx_H} {q : Nat} {S : MS} {v : Int32} : hp (bput tK h q S) q 7 4 (.int v) = some (bput tK h q (gpi S 4 v)) := bp_pi (K := tK) (Nat.le_of_ble_eq_true rfl) rfl
theorem tK_gi5 {h : jx_H} {q : Nat} {S : MS} : hgi (bput tK h q S) q 7 5 = some (S.1 5) := bp_gi (K := tK) rfl
theorem tK_pi5 {h : jx_H} {q : Nat} {S : MS} {v : Int32} : hp (bput tK h q S) q 7 5 (.int v) = some (bput tK h q (gpi S 5 v)) := bp_pi (K := tK) (Nat.le_of_ble_eq_true rfl) rfl
theorem tK_gr0 {h : jx_H} {q : Nat} {S : MS} : hgr (bput tK h q S) q 7 0 = some (q + 1) := bp_gr (K := tK) rfl
theorem tK_al1 {h : jx_H} {q : Nat} {S : MS} {i : Int32} : hal (bput tK h q S) .byte (q + 1) i = gal tK S 1 i := bp_al (K := tK) ⟨Nat.le_of_ble_eq_true rfl, Nat.le_of_ble_eq_true rfl⟩ rfl
theorem tK_as1 {h : jx_H} {q : Nat} {S : MS} {i x : Int32} : has (bput tK h q S) .byte (q + 1) i x = (gas tK S 1 i x).map (bput tK h q) := bp_as (K := tK) ⟨Nat.le_of_ble_eq_true rfl, Nat.le_of_ble_eq_true rfl⟩ rfl
def pK_F (q : Nat) (I : Nat → Int32) : List Value := [.ref (q + 1), .ref (q + 2), .int (I 2)]
def pK_T : Nat → FieldType := fun j => .int
def pK_L : Nat → Nat := fun j => match j with | 1 => 13 | 2 => 13 | _ => 0
def pK : BK := (4, pK_F, pK_T, pK_L, 2)
theorem pK_ob {h : jx_H} {q : Nat} {S : MS} : isO (bput pK h q S) q 4 = some () := bp_is (K := pK)
theorem pK_gi2 {h : jx_H} {q : Nat} {S : MS} : hgi (bput pK h q S) q 4 2 = some (S.1 2) := bp_gi (K := pK) rfl
theorem pK_pi2 {h : jx_H} {q : Nat} {S : MS} {v : Int32} : hp (bput pK h q S) q 4 2 (.int v) = some (bput pK h q (gpi S 2 v)) := bp_pi (K := pK) (Nat.le_of_ble_eq_true rfl) rfl
theorem pK_gr0 {h : jx_H} {q : Nat} {S : MS} : hgr (bput pK h q S) q 4 0 = some (q + 1) := bp_gr (K := pK) rfl
theorem pK_al1 {h : jx_H} {q : Nat} {S : MS} {i : Int32} : hal (bput pK h q S) .int (q + 1) i = gal pK S 1 i := bp_al (K := pK) ⟨Nat.le_of_ble_eq_true rfl, Nat.le_of_ble_eq_true rfl⟩ rfl
theorem pK_as1 {h : jx_H} {q : Nat} {S : MS} {i x : Int32} : has (bput pK h q S) .int (q + 1) i x = (gas pK S 1 i x).map (bput pK h q) := bp_as (K := pK) ⟨Nat.le_of_ble_eq_true rfl, Nat.le_of_ble_eq_true rfl⟩ rfl
theorem pK_fl1 {h : jx_H} {q : Nat} {S : MS} {v : Int32} : FJ7_fill_53178 (q + 1) v (bput pK h q S) = (gfl pK S 1 v).map (bput pK h q) := bp_fl (K := pK) ⟨Nat.le_of_ble_eq_true rfl, Nat.le_of_ble_eq_true rfl⟩ rfl (Nat.le_of_ble_eq_true rfl)
theorem pK_gr1 {h : jx_H} {q : Nat} {S : MS} : hgr (bput pK h q S) q 4 1 = some (q + 2) := bp_gr (K := pK) rfl
theorem pK_al2 {h : jx_H} {q : Nat} {S : MS} {i : Int32} : hal (bput pK h q S) .int (q + 2) i = gal pK S 2 i := bp_al (K := pK) ⟨Nat.le_of_ble_eq_true rfl, Nat.le_of_ble_eq_true rfl⟩ rfl
theorem pK_as2 {h : jx_H} {q : Nat} {S : MS} {i x : Int32} : has (bput pK h q S) .int (q + 2) i x = (gas pK S 2 i x).map (bput pK h q) := bp_as (K := pK) ⟨Nat.le_of_ble_eq_true rfl, Nat.le_of_ble_eq_true rfl⟩ rfl
theorem pK_fl2 {h : jx_H} {q : Nat} {S : MS} {v : Int32} : FJ7_fill_53178 (q + 2) v (bput pK h q S) = (gfl pK S 2 v).map (bput pK h q) := bp_fl (K := pK) ⟨Nat.le_of_ble_eq_true rfl, Nat.le_of_ble_eq_true rfl⟩ rfl (Nat.le_of_ble_eq_true rfl)
def mJ (j : Nat) : Prop := (1 ≤ j ∧ j ≤ 24) ∧ mK_T j = .int
theorem mK_al {h : jx_H} {q j : Nat} {S : MS} {i : Int32} (J : mJ j) : hal (bput mK h q S) .int (q + j) i = gal mK S j i := bp_al (K := mK) J.1 J.2
theorem mK_as {h : jx_H} {q j : Nat} {S : MS} {i x : Int32} (J : mJ j) : has (bput mK h q S) .int (q + j) i x = (gas mK S j i x).map (bput mK h q) := bp_as (K := mK) J.1 J.2
theorem mJ_1 : mJ 1 := ⟨⟨Nat.le_of_ble_eq_true rfl, Nat.le_of_ble_eq_true rfl⟩, rfl⟩
theorem mJ_2 : mJ 2 := ⟨⟨Nat.le_of_ble_eq_true rfl, Nat.le_of_ble_eq_true rfl⟩, rfl⟩
theorem mJ_3 : mJ 3 := ⟨⟨Nat.le_of_ble_eq_true rfl, Nat.le_of_ble_eq_true rfl⟩, rfl⟩
theorem mJ_4 : mJ 4 := ⟨⟨Nat.le_of_ble_eq_true rfl, Nat.le_of_ble_eq_true rfl⟩, rfl⟩
theorem mJ_5 : mJ 5 := ⟨⟨Nat.le_of_ble_eq_true rfl, Nat.le_of_ble_eq_true rfl⟩, rfl⟩
theorem mJ_7 : mJ 7 := ⟨⟨Nat.le_of_ble_eq_true rfl, Nat.le_of_ble_eq_true rfl⟩, rfl⟩
theorem mJ_10 : mJ 10 := ⟨⟨Nat.le_of_ble_eq_true rfl, Nat.le_of_ble_eq_true rfl⟩, rfl⟩
theorem mJ_11 : mJ 11 := ⟨⟨Nat.le_of_ble_eq_true rfl, Nat.le_of_ble_eq_true rfl⟩, rfl⟩
theorem mJ_12 : mJ 12 := ⟨⟨Nat.le_of_ble_eq_true rfl, Nat.le_of_ble_eq_true rfl⟩, rfl⟩
theorem mJ_13 : mJ 13 := ⟨⟨Nat.le_of_ble_eq_true rfl, Nat.le_of_ble_eq_true rfl⟩, rfl⟩
theorem mJ_14 : mJ 14 := ⟨⟨Nat.le_of_ble_eq_true rfl, Nat.le_of_ble_eq_true rfl⟩, rfl⟩
theorem mJ_15 : mJ 15 := ⟨⟨Nat.le_of_ble_eq_true rfl, Nat.le_of_ble_eq_true rfl⟩, rfl⟩
theorem mJ_16 : mJ 16 := ⟨⟨Nat.le_of_ble_eq_true rfl, Nat.le_of_ble_eq_true rfl⟩, rfl⟩
theorem mJ_17 : mJ 17 := ⟨⟨Nat.le_of_ble_eq_true rfl, Nat.le_of_ble_eq_true rfl⟩, rfl⟩
theorem mJ_18 : mJ 18 := ⟨⟨Nat.le_of_ble_eq_true rfl, Nat.le_of_ble_eq_true rfl⟩, rfl⟩
theorem mJ_19 : mJ 19 := ⟨⟨Nat.le_of_ble_eq_true rfl, Nat.le_of_ble_eq_true rfl⟩, rfl⟩
theorem mJ_20 : mJ 20 := ⟨⟨Nat.le_of_ble_eq_true rfl, Nat.le_of_ble_eq_true rfl⟩, rfl⟩
theorem mJ_21 : mJ 21 := ⟨⟨Nat.le_of_ble_eq_true rfl, Nat.le_of_ble_eq_true rfl⟩, rfl⟩
theorem mJ_22 : mJ 22 := ⟨⟨Nat.le_of_ble_eq_true rfl, Nat.le_of_ble_eq_true rfl⟩, rfl⟩
theorem mJ_23 : mJ 23 := ⟨⟨Nat.le_of_ble_eq_true rfl, Nat.le_of_ble_eq_true rfl⟩, rfl⟩
theorem mJ_24 : mJ 24 := ⟨⟨Nat.le_of_ble_eq_true rfl, Nat.le_of_ble_eq_true rfl⟩, rfl⟩
