/-! what a program's text is made of -/
theorem ob {α β : Type} {o : Option α} {f : α → Option β} {r : β} (h : o.bind f = some r) : ∃ a, o = some a ∧ f a = some r := Option.bind_eq_some_iff.mp h
def bind2 {α β γ : Type} (o : Option (α × β)) (f : α → β → Option γ) : Option γ := o.bind fun p => f p.1 p.2
theorem ob2 {α β γ : Type} {o : Option (α × β)} {f : α → β → Option γ} {r : γ} (h : bind2 o f = some r) : ∃ a b, o = some (a, b) ∧ f a b = some r := by
  obtain ⟨⟨a, b⟩, h1, h2⟩ := ob h
  exact ⟨a, b, h1, h2⟩
theorem ifp {c : Prop} [Decidable c] {α : Type} {a b r : α} (hc : c) (h : (if c then a else b) = r) : a = r := by rw [if_pos hc] at h; exact h
theorem ifn {c : Prop} [Decidable c] {α : Type} {a b r : α} (hc : ¬ c) (h : (if c then a else b) = r) : b = r := by rw [if_neg hc] at h; exact h
def oc {β : Type} (r : Option Nat) (A : β) (B : Nat → β) : β := match r with
  | none => A
  | some q => B q
theorem ocn {β : Type} {r : Option Nat} {A x : β} {B : Nat → β} (hr : r = none) (h : oc r A B = x) : A = x := by subst hr; exact h
theorem ocs {β : Type} {r : Option Nat} {A x : β} {B : Nat → β} {q : Nat} (hr : r = some q) (h : oc r A B = x) : B q = x := by subst hr; exact h
theorem nos {α : Type} {r : α} {P : Prop} (h : (none : Option α) = some r) : P := by cases h
def exL {σ T : Type} (o : Option T) : Option (σ ⊕ T) := o.map Sum.inr
theorem exL_spec {σ T : Type} {o : Option T} {u : σ ⊕ T} (h : exL o = some u) : ∃ t, o = some t ∧ u = .inr t := by
  obtain ⟨t, h1, h2⟩ := Option.map_eq_some_iff.mp h
  exact ⟨t, h1, h2.symm⟩
def itrN {σ T : Type} (body : σ → Option (σ ⊕ T)) : Nat → σ → Option T
  | 0, _ => none
  | n + 1, s => match body s with
    | none => none
    | some (.inl s') => itrN body n s'
    | some (.inr t) => some t
theorem itrN_mono {σ T : Type} {body : σ → Option (σ ⊕ T)} {t : T} : ∀ {n : Nat} {s : σ}, itrN body n s = some t → ∀ k, itrN body (n + k) s = some t
  | 0, s, h, k => by cases h
  | n + 1, s, h, k => by
    rw [show n + 1 + k = (n + k) + 1 by omega]
    unfold itrN at h ⊢
    cases hb : body s with
    | none => rw [hb] at h; cases h
    | some u =>
      rw [hb] at h
      cases u with
      | inl s' => exact itrN_mono (n := n) h k
      | inr t' => exact h
theorem itrN_one {σ T : Type} {body : σ → Option (σ ⊕ T)} {t t' : T} {n m : Nat} {s : σ} (h : itrN body n s = some t) (h' : itrN body m s = some t') : t = t' := by
  have h1 := itrN_mono h m
  have h2 := itrN_mono h' n
  rw [Nat.add_comm] at h2
  rw [h1] at h2
  exact Option.some.inj h2
noncomputable def itr {σ T : Type} (body : σ → Option (σ ⊕ T)) (s : σ) : Option T := @dite _ (∃ t, ∃ n, itrN body n s = some t) (Classical.propDecidable _) (fun h => some (Classical.choose h)) (fun _ => none)
theorem itr_iff {σ T : Type} {body : σ → Option (σ ⊕ T)} {s : σ} {t : T} : itr body s = some t ↔ ∃ n, itrN body n s = some t := by
  unfold itr
  by_cases h : ∃ t, ∃ n, itrN body n s = some t
  · rw [dif_pos h]
    have hs := Classical.choose_spec h
    constructor
    · intro e
      cases e
      exact hs
    · intro e
      obtain ⟨n, e⟩ := e
      obtain ⟨m, hs⟩ := hs
      rw [itrN_one hs e]
  · rw [dif_neg h]
    constructor
    · intro e; cases e
    · intro e; exact absurd ⟨t, e⟩ h
theorem itr_inl {σ T : Type} {body : σ → Option (σ ⊕ T)} {s s' : σ} (hb : body s = some (.inl s')) : itr body s = itr body s' := by
  apply Option.ext
  intro t
  rw [itr_iff, itr_iff]
  constructor
  · intro ⟨n, h⟩
    cases n with
    | zero => cases h
    | succ n => unfold itrN at h; rw [hb] at h; exact ⟨n, h⟩
  · intro ⟨n, h⟩
    exact ⟨n + 1, by unfold itrN; rw [hb]; exact h⟩
theorem itr_inr {σ T : Type} {body : σ → Option (σ ⊕ T)} {s : σ} {t : T} (hb : body s = some (.inr t)) : itr body s = some t := itr_iff.mpr ⟨1, by unfold itrN; rw [hb]⟩
theorem itr_ind {σ T : Type} {body : σ → Option (σ ⊕ T)} {s0 : σ} {t0 : T} (P : σ → Prop) (e : itr body s0 = some t0)
    (step : ∀ s, (∀ s', body s = some (.inl s') → P s') → (∀ t, body s = some (.inr t) → t = t0) → (∃ u, body s = some u) → P s) : P s0 := by
  obtain ⟨n, hn⟩ := itr_iff.mp e
  clear e
  induction n generalizing s0 with
  | zero => cases hn
  | succ n ih =>
    unfold itrN at hn
    cases hb : body s0 with
    | none => rw [hb] at hn; cases hn
    | some u =>
      rw [hb] at hn
      refine step s0 (fun s' h => ?_) (fun t h => ?_) ⟨u, hb⟩
      · rw [hb] at h
        cases h
        exact ih hn
      · rw [hb] at h
        cases h
        exact Option.some.inj hn
theorem jx_bool {x : Int32} (h : x = 0 ∨ x = 1) : narrow .boolean (.int x) = .int x := by rcases h with rfl | rfl <;> rfl
theorem jx_le (n : Nat) : n ≤ n := Nat.le_refl n
