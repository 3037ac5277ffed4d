/-! call: load -/
section
variable {h h' : jx_H} {a : Nat} {c c' : Cf} {d : Nat} {U : Nat → Cf} {V : Nat → Option Cf} {cnt : Nat → Int32} {L : Nat} {b : Nat → Nat} {e1 e2 : Int32} {res : Nat → Int32} {M M' : MS}
/-- what the objects that are derived are made of -/
theorem DER.to (D : DER h a c) : (∃ kn df cc cr, TO h (a + 35) (a + 1) kn df cc cr ∧ TSH h (a + 35)) ∧ ∃ kz fd ds za zb zm, ZB h (a + 68) (a + 1) (a + 35) (a + 32) kz fd ds za zb zm := by
  obtain ⟨ds, ft, T, -, -, Z, -⟩ := D
  refine ⟨?_, ?_⟩
  · rcases T with ⟨cc, cr, T, TS, -⟩ | ⟨df, cc, cr, T, TS⟩
    · exact ⟨_, _, cc, cr, T, TS⟩
    · exact ⟨_, df, cc, cr, T, TS⟩
  · rcases Z with ⟨za, zb, zm, Z, -⟩ | ⟨fd, za, zb, zm, Z⟩
    · exact ⟨_, _, _, za, zb, zm, Z⟩
    · exact ⟨_, fd, _, za, zb, zm, Z⟩
theorem DER.new {df cc cr fd : Int32} (D : DER h a c) (T : TO h' (a + 35) (a + 1) (nI 0) df cc cr) (Z : ZO h' (a + 68) (a + 1) (a + 35) (a + 32) (nI 0) fd m1) (e : ∀ x, a + 32 ≤ x → x ≤ a + 83 → x ≠ a + 35 → x ≠ a + 68 → h'.2 x = h.2 x) (mt : ∀ ft, matA h (a + 128) ft → matA h' (a + 128) ft) : DER h' a c' := by
  obtain ⟨⟨kn, df0, cc0, cr0, -, TS⟩, kz, fd0, ds0, za, zb, zm, -, ⟨ra, z1⟩, ⟨rb, z2⟩, z3, z4, z5, z6, z9, z12⟩ := D.to
  obtain ⟨ds, ft, -, X, ⟨P, hP⟩, -, -, e15, MA⟩ := D
  have TS' : TSH h' (a + 35) := by
    obtain ⟨s1, s2, s3, s4, s5, s6, s7, s8⟩ := TS
    exact ⟨s1.same fun x _ _ => e x (by omega) (by omega) (by omega) (by omega), s2.same fun x _ _ => e x (by omega) (by omega) (by omega) (by omega), s3.same fun x _ _ => e x (by omega) (by omega) (by omega) (by omega), s4.same fun x _ _ => e x (by omega) (by omega) (by omega) (by omega), s5.same fun x _ _ => e x (by omega) (by omega) (by omega) (by omega), s6.same fun x _ _ => e x (by omega) (by omega) (by omega) (by omega), s7.same fun x _ _ => e x (by omega) (by omega) (by omega) (by omega), s8.same fun x _ _ => e x (by omega) (by omega) (by omega) (by omega)⟩
  have kp : ∀ k, 1 ≤ k → k ≤ 15 → h'.2 (a + 68 + k) = h.2 (a + 68 + k) := fun k k1 k2 => e _ (by omega) (by omega) (by omega) (by omega)
  refine ⟨m1, ft, Or.inr ⟨df, cc, cr, T, TS'⟩, X.same fun x _ _ => e x (by omega) (by omega) (by omega) (by omega), ⟨P, hP.same fun x x1 x2 => by have x2 : x ≤ a + 32 + 2 := x2; exact e x (by omega) (by omega) (by omega) (by omega)⟩, Or.inr ⟨fd, za, zb, zm, Z, ⟨ra, by rw [kp 1 (by omega) (by omega)]; exact z1⟩, ⟨rb, by rw [kp 2 (by omega) (by omega)]; exact z2⟩, by rw [kp 3 (by omega) (by omega)]; exact z3, by rw [kp 4 (by omega) (by omega)]; exact z4, by rw [kp 5 (by omega) (by omega)]; exact z5, z6.same fun x _ _ => e x (by omega) (by omega) (by omega) (by omega), z9.same fun x _ _ => e x (by omega) (by omega) (by omega) (by omega), z12.same fun x _ _ => e x (by omega) (by omega) (by omega) (by omega)⟩, Or.inl rfl, by rw [e (a + 83) (by omega) (by omega) (by omega) (by omega)]; exact e15, mt ft MA⟩
/-- the reference's setup is copied aside, begun anew, its text opened -/
theorem m_loadA (R : REF M c d U V cnt L b e1 e2 res) : ∃ g, (gFX10_copies 1 (0 : Int32) 2 (0 : Int32) M).bind (fun h16 => gFX10_begins h16) = some ((M.1, setA (setA M.2 2 (fun q => if 0 ≤ q ∧ q < 0 + 248 then M.2 1 (0 + (q - 0)) else M.2 2 q)) 1 g) : MS) ∧ RC g 31 ht0 (fun _ _ => 0) [] := by
  obtain ⟨g, g1, g2⟩ := g_begins (S := ((M.1, setA M.2 2 (fun q => if 0 ≤ q ∧ q < 0 + 248 then M.2 1 (0 + (q - 0)) else M.2 2 q)) : MS))
  refine ⟨g, ?_, g2⟩
  rw [n0, g_copies (j0 := 1) (j1 := 2) (a := 0) (b := 0) (N0 := 248) (N1 := 248) rfl rfl (by omega) (by omega) (by omega) (by omega) (by omega), gx_bs, g1]
/-- the reference's counts go to zero -/
theorem m_load86 {S : MS} {n : Nat} (hn : gFX10_n S = some (nI n)) : ∃ f, itr (fun s : Int32 × MS => gLX10_load_86 s.1 s.2) ((0 : Int32), S) = some (nI n, ((S.1, setA S.2 7 f) : MS)) ∧ ∀ k, k < 6 → f k = nI 0 := by
  have key : ∃ t, itr (fun s : Int32 × MS => gLX10_load_86 s.1 s.2) ((0 : Int32), S) = some t ∧ ∃ f, t = (nI n, ((S.1, setA S.2 7 f) : MS)) ∧ ∀ k, k < 6 → f k = nI 0 := by
    refine itr_run 6 (fun k s => ∃ f, s = (nI k, ((S.1, setA S.2 7 f) : MS)) ∧ ∀ q, q < k → f q = nI 0) ⟨S.2 7, by rw [n0, setA_id], fun q h => by omega⟩ ?_ ?_
    · rintro k s hk ⟨f, rfl, hf⟩
      left
      unfold gLX10_load_86
      dsimp only
      rw [n6, if_neg (by rw [nI_leN (by omega) (by omega)]; omega), n0, mK_s7 (by omega), gx_bs, n1, nI_add]
      simp only [mp1, mp2, setA_s, setA_2]
      refine ⟨_, rfl, _, rfl, fun q hq => ?_⟩
      by_cases e : q = k
      · rw [e, upd_s]
      · rw [upd_o e]; exact hf q (by omega)
    · rintro s ⟨f, rfl, hf⟩
      have hn' : gFX10_n ((S.1, setA S.2 7 f) : MS) = some (nI n) := by
        unfold gFX10_n at hn ⊢
        rw [n1, mK_a1 (by omega)] at hn ⊢
        rw [mp2, setA_o (by decide)]
        exact hn
      unfold gLX10_load_86
      dsimp only
      rw [n6, if_pos (by rw [nI_leN (by omega) (by omega)]; omega), hn', gx_bs]
      exact ⟨_, rfl, f, rfl, hf⟩
  obtain ⟨t, t1, f, rfl, t2⟩ := key
  exact ⟨f, t1, t2⟩
theorem CLS.set {L' : Nat} {b' : Nat → Nat} {e1' e2' : Int32} (C : CLS h a c d U V cnt L b e1 e2 res) (e : ∀ x, (x < a + 10 ∨ a + 18 < x) → (x < a + 88 ∨ a + 100 < x) → h'.2 x = h.2 x) (s : h'.1 = h.1) (W : ∃ S, bH sK h' (a + 10) S) (P' : PAR h' a L' b' e1' e2') : CLS h' a c d U V cnt L' b' e1' e2' res := by
  obtain ⟨⟨B, sz⟩, ⟨⟨S, HS, hS⟩, ok⟩, ⟨-, S2, H2⟩, hd, D, ec, R, ⟨F, G⟩, P, er, g, eg⟩ := C
  exact ⟨⟨B.fr (e a (by omega) (by omega)), by omega⟩, ⟨⟨S, HS.same fun x x1 x2 => by have x2 : x ≤ a + 1 + 8 := x2; exact e x (by omega) (by omega), hS⟩, ok⟩, ⟨W, S2, H2.same fun x x1 x2 => by have x2 : x ≤ a + 19 + 8 := x2; exact e x (by omega) (by omega)⟩, hd, D.fr (fun x hx => e x (by omega) (by omega)) (by omega), by rw [e _ (by omega) (by omega)]; exact ec, R.fr (fun x hx => e x (by omega) (by omega)) (by omega), ⟨by show _ = _; rw [e _ (by omega) (by omega)]; exact F, G.same fun x x1 x2 => e x (by omega) (by omega)⟩, P', by rw [e _ (by omega) (by omega)]; exact er, g, by rw [e _ (by omega) (by omega)]; exact eg⟩
/-- both read the setup's text -/
theorem both_setup (HM : True) (C : CLS h a c d U V cnt L b e1 e2 res) (R : REF M c d U V cnt L b e1 e2 res) : ∃ h1 S1 F1 T g, FX3_readSetup (a + 90) h = itr (fun s : Int32 × Int32 × jx_H => LX3_readSetup_15 (a + 90) s.1 s.2.1 s.2.2) (nI 1, nI 0, bput sK h1 (a + 91) T) ∧ gFX10_load M = itr (fun s : Int32 × MS => gLX10_load_23 s.1 s.2) (bI (decide (0 = 0)), S1) ∧ tch h h1 a ∧ rch ((M.1, setA (setA M.2 2 (fun q => if 0 ≤ q ∧ q < 0 + 248 then M.2 1 (0 + (q - 0)) else M.2 2 q)) 1 g) : MS) S1 ∧ SIM (bput sK h1 (a + 91) T) S1 a F1 L b (lexAt b L 0) (31, ht0, (fun _ _ => 0), []) := by
  obtain ⟨⟨B, sz⟩, -, ⟨⟨W, HW⟩, -⟩, -, -, -, -, -, ⟨⟨T0, HT, H⟩, ⟨F, P, f4, f5⟩, ⟨S0, H0⟩, -⟩, -⟩ := C
  obtain ⟨g, ga, gb'⟩ := m_loadA R
  obtain ⟨h1, S1, F1, k1, k2, k3, k4, k5⟩ := both_open (S := ((M.1, setA (setA M.2 2 (fun q => if 0 ≤ q ∧ q < 0 + 248 then M.2 1 (0 + (q - 0)) else M.2 2 q)) 1 g) : MS)) P HT H ⟨R.2.2.2.2.1.1.1, R.2.2.2.2.1.1.2.1, by rw [mp2, setA_o (by decide), setA_o (by decide)]; exact R.2.2.2.2.1.1.2.2⟩ (by unfold WD; rw [mp2, setA_o (by decide), setA_o (by decide)]; exact R.2.2.2.2.1.2)
  have H1 : bH sK h1 (a + 91) S0 := H0.same fun x x1 x2 => by have x2 : x ≤ a + 91 + 8 := x2; exact k3.2 x (by omega) (by omega) (by omega)
  obtain ⟨T, t1, t2⟩ := s_reset (S := S0)
  have rs : FX5_reset (a + 91) h1 = some (bput sK h1 (a + 91) T) := by rw [H1.run (F := FX5_reset (a + 91)) eFX5_reset, t1, gx_ms]
  refine ⟨h1, S1, F1, T, g, ?_, ?_, k3, k4, k5.fr (fun x x1 x2 => bp_else (by show x < a + 91 ∨ a + 91 + 8 < x; omega)) rfl rfl rfl, ⟨T, bH.put, t2⟩, ⟨W, ?_⟩, ?_, okC_0⟩
  · unfold FX3_readSetup
    rw [P.ob, gx_bs, k1, gx_bs, k5.1.g2, gx_bs, H1.o5, gx_bs, rs, gx_bs, n0, n1]
  · unfold gFX10_load
    have ga' : ∀ f : MS → Option (Int32 × MS), ((gFX10_copies 1 (0 : Int32) 2 (0 : Int32) M).bind fun h16 => (gFX10_begins h16).bind f) = ((gFX10_copies 1 (0 : Int32) 2 (0 : Int32) M).bind (fun h16 => gFX10_begins h16)).bind f := fun f => by cases gFX10_copies 1 (0 : Int32) 2 (0 : Int32) M <;> rfl
    rw [ga', ga, gx_bs, k2, gx_bs, n1]
    rfl
  · refine HW.same fun x x1 x2 => ?_
    have x2 : x ≤ a + 10 + 8 := x2
    rw [bp_else (by show x < a + 91 ∨ a + 91 + 8 < x; omega)]
    exact k3.2 x (by omega) (by omega) (by omega)
  · show RC (S1.2 1) _ _ _ _
    rw [k4.1, mp2, setA_s]
    exact gb'
end
