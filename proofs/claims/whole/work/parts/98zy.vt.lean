/-! a call of both sides: the value, the exception -/
section
variable {h h1 : jx_H} {a : Nat} {c : Cf} {d : Nat} {U : Nat → Cf} {V : Nat → Option Cf} {cnt : Nat → Int32} {L : Nat} {b : Nat → Nat} {e1 e2 : Int32} {res : Nat → Int32} {M M' : MS}
/-- what is owed after the class's call -/
def VT (a : Nat) (P : String → Prop) (e0 : String) (G : jx_H → Option (Int32 × jx_H)) (r : (Int32 × jx_H) ⊕ (String × jx_H)) : Prop :=
  (∀ v h1, r = .inl (v, h1) → ∃ h2, hls h1 (a + 128) 0 v.toInt64 = some h2) ∧ (∀ E h1, r = .inr (E, h1) → P E) ∧ ∀ (r' : Option Value) (h' : jx_H), ((∃ v h1 h2, r = .inl (v, h1) ∧ hls h1 (a + 128) 0 v.toInt64 = some h2 ∧ some (.int 0) = r' ∧ h2 = h') ∨ (∃ E h1 sz, r = .inr (E, h1) ∧ some (.int (jx_cd e0 E)) = r' ∧ h1.1 ≤ sz ∧ h' = (sz, h1.2))) → ∃ (z : Int32), r' = some (.int z) ∧ ∃ (b : Int32) (h2 : jx_H) (t : Int32), isO h' (a + 103) 10 = some () ∧ G h' = some (b, h2) ∧ isO h2 (a + 103) 10 = some () ∧ FX10_thrown (a + 103) h2 = some t ∧ t = z ∧ (z = 0 → ∃ y, hll h2 (a + 128) 0 = some y ∧ b.toInt64 = y) ∧ INV a (a + 103) (a + 128) h2
theorem mk_ob {h : jx_H} {q : Nat} {S : MS} (H : bH mK h q S) : isO h q 10 = some () := isO_ob H.1
theorem vt_val {P : String → Prop} {e0 : String} {G : jx_H → Option (Int32 × jx_H)} {g : MS → Option (Int32 × MS)} {v : Int32} (eG : ∀ h S, G (bput mK h (a + 103) S) = (g S).map (fun s : Int32 × MS => (s.1, bput mK h (a + 103) s.2))) (O : OUT h1 (a + 128)) (HM : bH mK h1 (a + 103) M) (eg : g M = some (v, M')) (t0 : M'.1 0 = nI 0) (C : CLS h1 a c d U V cnt L b e1 e2 res) (R : REF M' c d U V cnt L b e1 e2 res) : VT a P e0 G (.inl (v, h1)) := by
  obtain ⟨g', o1, o2⟩ := O.ls v.toInt64
  refine ⟨fun v' h' e => by cases e; exact ⟨_, o1⟩, fun E h' e => (by cases e), ?_⟩
  rintro r' h' (⟨v', h1', h2, x1, x2, x3, x4⟩ | ⟨E, h1', sz, x1, -⟩)
  · cases x1
    rw [o1] at x2
    obtain rfl := Option.some.inj x2
    obtain rfl := x4
    have HM2 : bH mK ((h1.1, jx_up h1.2 (a + 128) (.inl (.long, 1, .inr (.inl g')))) : jx_H) (a + 103) M := HM.same fun x y1 y2 => by have y2 : x ≤ a + 103 + 24 := y2; exact up_o (by omega)
    have cell : (bput mK ((h1.1, jx_up h1.2 (a + 128) (.inl (.long, 1, .inr (.inl g')))) : jx_H) (a + 103) M').2 (a + 128) = some (.inl (.long, 1, .inr (.inl g'))) := by
      rw [bp_else (by show a + 128 < a + 103 ∨ a + 103 + 24 < a + 128; omega)]
      exact up_s
    refine ⟨0, x3.symm, v, bput mK ((h1.1, jx_up h1.2 (a + 128) (.inl (.long, 1, .inr (.inl g')))) : jx_H) (a + 103) M', 0, mk_ob HM2, ?_, mk_ob bH.put, ?_, rfl, fun _ => ⟨_, OUT.ll cell, o2.symm⟩, rfl, rfl, ⟨_, cell⟩, M', c, d, U, V, cnt, L, b, e1, e2, res, bH.put, ?_, R⟩
    · exact HM2.run (F := G) (by rw [eG, eg, gx_ms])
    · rw [eFX10_thrown]
      unfold gFX10_thrown
      rw [gx_bs, t0, n0]
    · refine C.fr (fun x hx => ?_) (Nat.le_refl _)
      rw [bp_else (by show x < a + 103 ∨ a + 103 + 24 < x; omega)]
      exact up_o (by omega)
  · cases x1
theorem vt_thr {P : String → Prop} {e0 E : String} {G : jx_H → Option (Int32 × jx_H)} {g : MS → Option (Int32 × MS)} {v : Int32} {k : Nat} (eG : ∀ h S, G (bput mK h (a + 103) S) = (g S).map (fun s : Int32 × MS => (s.1, bput mK h (a + 103) s.2))) (O : OUT h1 (a + 128)) (HM : bH mK h1 (a + 103) M) (hE : P E) (hk : jx_cd e0 E = nI k) (k0 : 0 < k) (k3 : k < 100) (eg : g M = some (v, M')) (t0 : M'.1 0 = nI k) (C : CLS h1 a c d U V cnt L b e1 e2 res) (R : REF M' c d U V cnt L b e1 e2 res) : VT a P e0 G (.inr (E, h1)) := by
  refine ⟨fun v' h' e => (by cases e), fun E h' e => by cases e; exact hE, ?_⟩
  rintro r' h' (⟨v', h1', h2, x1, -⟩ | ⟨E', h1', sz, x1, x2, x3, rfl⟩)
  · cases x1
  · cases x1
    have HM2 : bH mK ((sz, h1.2) : jx_H) (a + 103) M := HM.sz
    obtain ⟨g', eo⟩ := O
    have cell : (bput mK ((sz, h1.2) : jx_H) (a + 103) M').2 (a + 128) = some (.inl (.long, 1, .inr (.inl g'))) := by
      rw [bp_else (by show a + 128 < a + 103 ∨ a + 103 + 24 < a + 128; omega)]
      exact eo
    refine ⟨nI k, by rw [← x2, hk], v, bput mK ((sz, h1.2) : jx_H) (a + 103) M', nI k, mk_ob HM2, ?_, mk_ob bH.put, ?_, rfl, fun z => ?_, rfl, rfl, ⟨_, cell⟩, M', c, d, U, V, cnt, L, b, e1, e2, res, bH.put, ?_, R⟩
    · exact HM2.run (F := G) (by rw [eG, eg, gx_ms])
    · rw [eFX10_thrown]
      unfold gFX10_thrown
      rw [gx_bs, t0]
    · rw [n0, nI_eqN (by omega) (by omega)] at z
      omega
    · refine C.fr (fun x hx => ?_) x3
      exact bp_else (by show x < a + 103 ∨ a + 103 + 24 < x; omega)
/-- a call that cannot throw -/
theorem vt_plain {G : jx_H → Option (Int32 × jx_H)} {g : MS → Option (Int32 × MS)} {v : Int32} (eG : ∀ h S, G (bput mK h (a + 103) S) = (g S).map (fun s : Int32 × MS => (s.1, bput mK h (a + 103) s.2))) (O : OUT h1 (a + 128)) (HM : bH mK h1 (a + 103) M) (eg : g M = some (v, M')) (C : CLS h1 a c d U V cnt L b e1 e2 res) (R : REF M' c d U V cnt L b e1 e2 res) : isO h1 (a + 103) 10 = some () ∧ ∃ (b2 : Int32) (h2 : jx_H), G h1 = some (b2, h2) ∧ v = b2 ∧ INV a (a + 103) (a + 128) h2 := by
  obtain ⟨g', eo⟩ := O
  refine ⟨mk_ob HM, v, bput mK h1 (a + 103) M', HM.run (F := G) (by rw [eG, eg, gx_ms]), rfl, rfl, rfl, ⟨g', ?_⟩, M', c, d, U, V, cnt, L, b, e1, e2, res, bH.put, ?_, R⟩
  · rw [bp_else (by show a + 128 < a + 103 ∨ a + 103 + 24 < a + 128; omega)]
    exact eo
  · exact C.fr (fun x hx => bp_else (by show x < a + 103 ∨ a + 103 + 24 < x; omega)) (Nat.le_refl _)
end
