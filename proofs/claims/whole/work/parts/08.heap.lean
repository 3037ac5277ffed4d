/-! what the program does to the heap, as functions -/
def hg (h : jx_H) (a ci q : Nat) : Option Value := match h.2 a with
  | some (.inr (c, fs)) => if c = ci then fs[q]? else none
  | _ => none
def hgi (h : jx_H) (a ci q : Nat) : Option Int32 := match hg h a ci q with
  | some (.int x) => some x
  | _ => none
def hgr (h : jx_H) (a ci q : Nat) : Option Nat := match hg h a ci q with
  | some (.ref x) => some x
  | _ => none
def hp (h : jx_H) (a ci q : Nat) (v : Value) : Option jx_H := match h.2 a with
  | some (.inr (c, fs)) => if c = ci ∧ q < fs.length then some (h.1, jx_up h.2 a (.inr (c, fs.set q v))) else none
  | _ => none
def isO (h : jx_H) (a ci : Nat) : Option Unit := match h.2 a with
  | some (.inr (c, _)) => if c = ci then some () else none
  | _ => none
/-- an array of whole numbers of a type -/
def hal (h : jx_H) (ty : FieldType) (a : Nat) (i : Int32) : Option Int32 := match h.2 a with
  | some (.inl (t, n, .inl f)) => if t = ty ∧ ¬ (i < 0 ∨ n ≤ i.toNatClampNeg) then some (f i.toNatClampNeg) else none
  | _ => none
def has (h : jx_H) (ty : FieldType) (a : Nat) (i x : Int32) : Option jx_H := match h.2 a with
  | some (.inl (t, n, .inl f)) => if t = ty ∧ ¬ (i < 0 ∨ n ≤ i.toNatClampNeg) then some (h.1, jx_up h.2 a (.inl (t, n, .inl (upd f i.toNatClampNeg x)))) else none
  | _ => none
def hll (h : jx_H) (a : Nat) (i : Int32) : Option Int64 := match h.2 a with
  | some (.inl (t, n, .inr (.inl f))) => if t = .long ∧ ¬ (i < 0 ∨ n ≤ i.toNatClampNeg) then some (f i.toNatClampNeg) else none
  | _ => none
def hls (h : jx_H) (a : Nat) (i : Int32) (x : Int64) : Option jx_H := match h.2 a with
  | some (.inl (t, n, .inr (.inl f))) => if t = .long ∧ ¬ (i < 0 ∨ n ≤ i.toNatClampNeg) then some (h.1, jx_up h.2 a (.inl (t, n, .inr (.inl (vp_updL f i.toNatClampNeg x))))) else none
  | _ => none
def hql (h : jx_H) (C : String) (a : Nat) (i : Int32) : Option (Option Nat) := match h.2 a with
  | some (.inl (t, n, .inr (.inr (.inr (.inr f))))) => if t = .object C ∧ ¬ (i < 0 ∨ n ≤ i.toNatClampNeg) then some (f i.toNatClampNeg) else none
  | _ => none
/-- a reference to an object of class ci goes into an array -/
def hqs (h : jx_H) (C : String) (ci a : Nat) (i : Int32) (v : Nat) : Option jx_H := match h.2 a with
  | some (.inl (t, n, .inr (.inr (.inr (.inr f))))) => if t = .object C ∧ ¬ (i < 0 ∨ n ≤ i.toNatClampNeg) ∧ isO h v ci = some () then some (h.1, jx_up h.2 a (.inl (t, n, .inr (.inr (.inr (.inr (va_up f i.toNatClampNeg (some v)))))))) else none
  | _ => none
def hlen (h : jx_H) (a : Nat) : Option Int32 := match h.2 a with
  | some (.inl x) => some (Int32.ofNat x.2.1)
  | _ => none
def hna (h : jx_H) (ty : FieldType) (x : Int32) : Option jx_H := if x < 0 ∨ 100000 < x.toNatClampNeg then none else some ((h.1 + 1, jx_up h.2 h.1 (.inl (ty, x.toNatClampNeg, .inl (fun _ => 0)))))
def hnl (h : jx_H) (x : Int32) : Option jx_H := if x < 0 ∨ 100000 < x.toNatClampNeg then none else some ((h.1 + 1, jx_up h.2 h.1 (.inl (.long, x.toNatClampNeg, .inr (.inl (fun _ => 0))))))
def hnq (h : jx_H) (C : String) (x : Int32) : Option jx_H := if x < 0 ∨ 100000 < x.toNatClampNeg then none else some ((h.1 + 1, jx_up h.2 h.1 (.inl (.object C, x.toNatClampNeg, .inr (.inr (.inr (.inr (fun _ => none))))))))
def hno (h : jx_H) (ci : Nat) (fs : List Value) : jx_H := (h.1 + 1, jx_up h.2 h.1 (.inr (ci, fs)))
def hnw (h : jx_H) (ci : Nat) (fs : List Value) : Option jx_H := some (hno h ci fs)
/-- System.arraycopy of two int arrays -/
def hcp (h : jx_H) (a0 : Nat) (sp : Int32) (a : Nat) (dp z : Int32) : Option jx_H := match h.2 a0, h.2 a with
  | some (.inl (t0, n0, .inl f)), some (.inl (t1, n1, .inl g)) => if t0 = .int ∧ t1 = .int ∧ ¬ sp < 0 ∧ ¬ dp < 0 ∧ ¬ z < 0 ∧ sp.toNatClampNeg + z.toNatClampNeg ≤ n0 ∧ dp.toNatClampNeg + z.toNatClampNeg ≤ n1 then some (h.1, jx_up h.2 a (.inl (t1, n1, .inl (va_cpy f g sp.toNatClampNeg dp.toNatClampNeg z.toNatClampNeg)))) else none
  | _, _ => none
theorem hg_spec {h : jx_H} {a ci q : Nat} {v : Value} (e : hg h a ci q = some v) : ∃ fs : List Value, h.2 a = some (.inr (ci, fs)) ∧ fs[q]? = some v := by
  unfold hg at e
  split at e
  · next c fs he =>
    split at e
    · next hc => subst hc; exact ⟨fs, he, e⟩
    · cases e
  · cases e
theorem hgi_spec {h : jx_H} {a ci q : Nat} {x : Int32} (e : hgi h a ci q = some x) : hg h a ci q = some (.int x) := by
  unfold hgi at e
  split at e
  · next y he => cases e; exact he
  · cases e
theorem hgr_spec {h : jx_H} {a ci q : Nat} {x : Nat} (e : hgr h a ci q = some x) : hg h a ci q = some (.ref x) := by
  unfold hgr at e
  split at e
  · next y he => cases e; exact he
  · cases e
theorem hp_spec {h h1 : jx_H} {a ci q : Nat} {v : Value} (e : hp h a ci q v = some h1) : ∃ fs : List Value, h.2 a = some (.inr (ci, fs)) ∧ q < fs.length ∧ h1 = (h.1, jx_up h.2 a (.inr (ci, fs.set q v))) := by
  unfold hp at e
  split at e
  · next c fs he =>
    split at e
    · next hc => obtain ⟨rfl, hq⟩ := hc; cases e; exact ⟨fs, he, hq, rfl⟩
    · cases e
  · cases e
theorem isO_spec {h : jx_H} {a ci : Nat} {u : Unit} (e : isO h a ci = some u) : ∃ fs : List Value, h.2 a = some (.inr (ci, fs)) := by
  unfold isO at e
  split at e
  · next c fs he =>
    split at e
    · next hc => subst hc; exact ⟨fs, he⟩
    · cases e
  · cases e
theorem hal_spec {h : jx_H} {ty : FieldType} {a : Nat} {i x : Int32} (e : hal h ty a i = some x) : ∃ (n : Nat) (f : Nat → Int32), h.2 a = some (.inl (ty, n, .inl f)) ∧ vp_in i n ∧ x = f i.toNatClampNeg := by
  unfold hal at e
  split at e
  · next t n f he =>
    split at e
    · next hc => obtain ⟨rfl, hq⟩ := hc; cases e; exact ⟨n, f, he, hq, rfl⟩
    · cases e
  · cases e
theorem has_spec {h h1 : jx_H} {ty : FieldType} {a : Nat} {i x : Int32} (e : has h ty a i x = some h1) : ∃ (n : Nat) (f : Nat → Int32), h.2 a = some (.inl (ty, n, .inl f)) ∧ vp_in i n ∧ h1 = (h.1, jx_up h.2 a (.inl (ty, n, .inl (upd f i.toNatClampNeg x)))) := by
  unfold has at e
  split at e
  · next t n f he =>
    split at e
    · next hc => obtain ⟨rfl, hq⟩ := hc; cases e; exact ⟨n, f, he, hq, rfl⟩
    · cases e
  · cases e
theorem hll_spec {h : jx_H} {a : Nat} {i : Int32} {x : Int64} (e : hll h a i = some x) : ∃ (n : Nat) (f : Nat → Int64), h.2 a = some (.inl (.long, n, .inr (.inl f))) ∧ vp_in i n ∧ x = f i.toNatClampNeg := by
  unfold hll at e
  split at e
  · next t n f he =>
    split at e
    · next hc => obtain ⟨rfl, hq⟩ := hc; cases e; exact ⟨n, f, he, hq, rfl⟩
    · cases e
  · cases e
theorem hls_spec {h h1 : jx_H} {a : Nat} {i : Int32} {x : Int64} (e : hls h a i x = some h1) : ∃ (n : Nat) (f : Nat → Int64), h.2 a = some (.inl (.long, n, .inr (.inl f))) ∧ vp_in i n ∧ h1 = (h.1, jx_up h.2 a (.inl (.long, n, .inr (.inl (vp_updL f i.toNatClampNeg x))))) := by
  unfold hls at e
  split at e
  · next t n f he =>
    split at e
    · next hc => obtain ⟨rfl, hq⟩ := hc; cases e; exact ⟨n, f, he, hq, rfl⟩
    · cases e
  · cases e
theorem hql_spec {h : jx_H} {C : String} {a : Nat} {i : Int32} {x : Option Nat} (e : hql h C a i = some x) : ∃ (n : Nat) (f : Nat → Option Nat), h.2 a = some (.inl (.object C, n, .inr (.inr (.inr (.inr f))))) ∧ vp_in i n ∧ x = f i.toNatClampNeg := by
  unfold hql at e
  split at e
  · next t n f he =>
    split at e
    · next hc => obtain ⟨rfl, hq⟩ := hc; cases e; exact ⟨n, f, he, hq, rfl⟩
    · cases e
  · cases e
theorem hqs_spec {h h1 : jx_H} {C : String} {ci a : Nat} {i : Int32} {v : Nat} (e : hqs h C ci a i v = some h1) : ∃ (n : Nat) (f : Nat → Option Nat), h.2 a = some (.inl (.object C, n, .inr (.inr (.inr (.inr f))))) ∧ vp_in i n ∧ isO h v ci = some () ∧ h1 = (h.1, jx_up h.2 a (.inl (.object C, n, .inr (.inr (.inr (.inr (va_up f i.toNatClampNeg (some v)))))))) := by
  unfold hqs at e
  split at e
  · next t n f he =>
    split at e
    · next hc => obtain ⟨rfl, hq, hi⟩ := hc; cases e; exact ⟨n, f, he, hq, hi, rfl⟩
    · cases e
  · cases e
theorem hlen_spec {h : jx_H} {a : Nat} {x : Int32} (e : hlen h a = some x) : ∃ y : FieldType × vp_A, h.2 a = some (.inl y) ∧ x = Int32.ofNat y.2.1 := by
  unfold hlen at e
  split at e
  · next y he => cases e; exact ⟨y, he, rfl⟩
  · cases e
theorem hcp_spec {h h1 : jx_H} {a0 a : Nat} {sp dp z : Int32} (e : hcp h a0 sp a dp z = some h1) : ∃ (n0 n1 : Nat) (f g : Nat → Int32), h.2 a0 = some (.inl (.int, n0, .inl f)) ∧ h.2 a = some (.inl (.int, n1, .inl g)) ∧ ¬ sp < 0 ∧ ¬ dp < 0 ∧ ¬ z < 0 ∧ sp.toNatClampNeg + z.toNatClampNeg ≤ n0 ∧ dp.toNatClampNeg + z.toNatClampNeg ≤ n1 ∧ h1 = (h.1, jx_up h.2 a (.inl (.int, n1, .inl (va_cpy f g sp.toNatClampNeg dp.toNatClampNeg z.toNatClampNeg)))) := by
  unfold hcp at e
  split at e
  · next t0 n0 f t1 n1 g he0 he1 =>
    split at e
    · next hc => obtain ⟨rfl, rfl, q1, q2, q3, q4, q5⟩ := hc; cases e; exact ⟨n0, n1, f, g, he0, he1, q1, q2, q3, q4, q5, rfl⟩
    · cases e
  · cases e
