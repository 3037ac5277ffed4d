/-! the invariant of a comparison: the class, the reference, the cell between -/
theorem rem2 {h : jx_H} {ah q0 lo nx d : Nat} {f : Nat → Option Nat} {U : Nat → Cf} {c : Cf} {S : MS} (HI : HIS h ah nx d f) (hn : nx < 8) (hd : d ≤ 8) (HS : bH sK h q0 S) (hc : STc S c) (oc' : okC c) (RU : ringU h nx d f U) (RA : ringA h lo f) (l1 : ah + 1 ≤ lo) (l2 : q0 + 8 ≤ lo) (b1 : lo < h.1) :
    ∃ h' f', FX1_remember ah q0 h = some h' ∧ HIS h' ah ((nx + 1) % 8) (min (d + 1) 8) f' ∧ ringU h' ((nx + 1) % 8) (min (d + 1) 8) f' (pushU U d c) ∧ ringA h' lo f' ∧ h.1 ≤ h'.1 ∧ (∀ x, x < h.1 → x ≠ ah → x ≠ ah + 1 → (∀ j q, j < 8 → f j = some q → x < q ∨ q + 8 < x) → h'.2 x = h.2 x) ∧ ∀ j q, j < 8 → f' j = some q → f j = some q ∨ h.1 ≤ q := by
  obtain ⟨RA1, RA2⟩ := RA
  rcases s_remember HI hn hd HS (fun q hq => ⟨(RA1 nx q hn hq).1, Or.inl (by show q0 + 8 < q; have := (RA1 nx q hn hq).2.1; omega), Or.inl (by have := (RA1 nx q hn hq).2.1; omega)⟩) (by omega) (by omega) with ⟨h', q, T, e1, e2, e3, e4, e5, e6⟩ | ⟨h', q, T, e1, e2, rfl, e3, e4, e5, e6⟩
  · have hb := RA1 nx q hn e2
    have keep : ∀ j q' T', j < 8 → j ≠ nx → f j = some q' → bH sK h q' T' → bH sK h' q' T' := by
      intro j q' T' hj hne hf hT
      have hb' := RA1 j q' hj hf
      have ha : q' + 8 < q ∨ q + 8 < q' := RA2 j nx q' q hj hn hne hf e2
      exact hT.off2 fun x x1 x2 => by
        have x2 : x ≤ q' + 8 := x2
        exact e6 x (by omega) (by omega)
    refine ⟨h', f, e1, e4, RU.push hn hd e2 (fun _ _ => rfl) e5 (hc.cp oc') keep, ⟨fun j q' hj hf => ?_, RA2⟩, by omega, fun x _ x1 _ x3 => e6 x x1 (x3 nx q hn e2), fun _ _ _ e => Or.inl e⟩
    obtain ⟨⟨T', hT⟩, c1, c2⟩ := RA1 j q' hj hf
    refine ⟨?_, c1, by omega⟩
    by_cases hne : j = nx
    · rw [hne, e2] at hf
      cases hf
      exact ⟨_, e5⟩
    · exact ⟨T', keep j q' T' hj hne hf hT⟩
  · have vn : ∀ j, j ≠ nx → va_up f nx (some h.1) j = f j := fun j hj => by unfold va_up; rw [if_neg hj]
    have vs : va_up f nx (some h.1) nx = some h.1 := by unfold va_up; rw [if_pos rfl]
    have keep : ∀ j q' T', j < 8 → j ≠ nx → f j = some q' → bH sK h q' T' → bH sK h' q' T' := by
      intro j q' T' hj hne hf hT
      have hb' := RA1 j q' hj hf
      exact hT.off2 fun x x1 x2 => by
        have x2 : x ≤ q' + 8 := x2
        exact e6 x (by omega) (by omega) (by omega)
    refine ⟨h', _, e1, e4, RU.push hn hd vs vn e5 (hc.cp oc') keep, ⟨fun j q' hj hf => ?_, fun i j q q' hi hj hne hf hf' => ?_⟩, by omega, fun x x0 x1 x2 _ => e6 x x1 x2 (Or.inl x0), fun j q hj hf => ?_⟩
    · by_cases hne : j = nx
      · rw [hne, vs] at hf
        cases hf
        exact ⟨⟨_, e5⟩, b1, by omega⟩
      · rw [vn j hne] at hf
        obtain ⟨⟨T', hT⟩, c1, c2⟩ := RA1 j q' hj hf
        exact ⟨⟨T', keep j q' T' hj hne hf hT⟩, c1, by omega⟩
    · by_cases h1 : i = nx
      · rw [h1, vs] at hf
        cases hf
        rw [vn j (by omega)] at hf'
        have := (RA1 j q' hj hf').2.2
        exact Or.inr (by show q' + 8 < h.1; omega)
      · rw [vn i h1] at hf
        by_cases h2 : j = nx
        · rw [h2, vs] at hf'
          cases hf'
          have := (RA1 i q hi hf).2.2
          exact Or.inl (by show q + 8 < h.1; omega)
        · rw [vn j h2] at hf'
          exact RA2 i j q q' hi hj hne hf hf'
    · by_cases hne : j = nx
      · rw [hne, vs] at hf
        cases hf
        exact Or.inr (Nat.le_refl _)
      · rw [vn j hne] at hf
        exact Or.inl hf
theorem beg2 {h : jx_H} {a nx d k : Nat} {f : Nat → Option Nat} {U : Nat → Cf} {c : Cf} {S : MS} {cnt : Nat → Int32} {lo : Nat} {kn df cc cr kz fd ds : Int32} (B : BB h a) (HI : HIS h (a + 29) nx d f) (hn : nx < 8) (hd : d ≤ 8) (HS : bH sK h (a + 1) S) (hc : STc S c) (oc' : okC c) (RU : ringU h nx d f U) (RA : ringA h lo f) (l1 : a + 102 ≤ lo) (b1 : lo < h.1) (hk : k < 6) (ec : h.2 (a + 31) = some (ar 6 cnt)) (T : TO h (a + 35) (a + 1) kn df cc cr) (Z : ZO h (a + 68) (a + 1) (a + 35) (a + 32) kz fd ds) :
    ∃ h1 h' f', FX9_beginChange a (nI k) h = some h' ∧ HIS h1 (a + 29) ((nx + 1) % 8) (min (d + 1) 8) f' ∧ ringU h1 ((nx + 1) % 8) (min (d + 1) 8) f' (pushU U d c) ∧ ringA h1 lo f' ∧ h.1 ≤ h1.1 ∧ (∀ x, x < h.1 → x ≠ a + 29 → x ≠ a + 30 → (∀ j q, j < 8 → f j = some q → x < q ∨ q + 8 < x) → h1.2 x = h.2 x) ∧ h'.1 = h1.1 ∧ (∀ x, x ≠ a + 31 → x ≠ a + 35 → x ≠ a + 68 → h'.2 x = h1.2 x) ∧ h'.2 (a + 31) = some (ar 6 (upd cnt k (cnt k + nI 1))) ∧ TO h' (a + 35) (a + 1) (nI 0) df cc cr ∧ ZO h' (a + 68) (a + 1) (a + 35) (a + 32) (nI 0) fd m1 ∧ ∀ j q, j < 8 → f' j = some q → f j = some q ∨ h.1 ≤ q := by
  obtain ⟨h1, f', e1, e2, e3, e4, e5, e6, e7⟩ := rem2 HI hn hd HS hc oc' RU RA (by omega) (by omega) b1
  have low : ∀ x, x ≤ lo → x ≠ a + 29 → x ≠ a + 30 → h1.2 x = h.2 x := fun x hx x1 x2 => e6 x (by omega) x1 (by omega) fun j q hj hf => by
    have := (RA.1 j q hj hf).2.1
    omega
  have B1 : BB h1 a := (low a (by omega) (by omega) (by omega)).trans B
  have T1 : TO h1 (a + 35) (a + 1) kn df cc cr := (low (a + 35) (by omega) (by omega) (by omega)).trans T
  have Z1 : ZO h1 (a + 68) (a + 1) (a + 35) (a + 32) kz fd ds := (low (a + 68) (by omega) (by omega) (by omega)).trans Z
  have ec1 : h1.2 (a + 31) = some (ar 6 cnt) := (low (a + 31) (by omega) (by omega) (by omega)).trans ec
  have B2 : BB (h1.1, jx_up h1.2 (a + 31) (ar 6 (upd cnt k (cnt k + nI 1)))) a := by show jx_up h1.2 _ _ a = _; rw [up_o (by omega)]; exact B1
  have T2 : TO (h1.1, jx_up h1.2 (a + 31) (ar 6 (upd cnt k (cnt k + nI 1)))) (a + 35) (a + 1) kn df cc cr := by show jx_up h1.2 _ _ (a + 35) = _; rw [up_o (by omega)]; exact T1
  have Z2 : ZO (h1.1, jx_up h1.2 (a + 31) (ar 6 (upd cnt k (cnt k + nI 1)))) (a + 68) (a + 1) (a + 35) (a + 32) kz fd ds := by show jx_up h1.2 _ _ (a + 68) = _; rw [up_o (by omega)]; exact Z1
  obtain ⟨h', g1, g2, g3, g4, g5⟩ := h_forget B2 T2 Z2
  refine ⟨h1, h', f', ?_, e2, e3, e4, e5, e6, g2, fun x x1 x2 x3 => ?_, ?_, g4, g5, e7⟩
  · have o1 : isO h (a + 29) 1 = some () := isO_ob HI.1
    have o2 : isO (h1.1, jx_up h1.2 (a + 31) (ar 6 (upd cnt k (cnt k + nI 1)))) a 9 = some () := isO_ob B2
    unfold FX9_beginChange
    rw [hgr_ob (x := a + 29) B rfl, gx_bs, hgr_ob (x := a + 1) B rfl, gx_bs, o1, gx_bs, e1, gx_bs, hgr_ob (x := a + 31) B1 rfl, gx_bs, hal_ar ec1 (by omega) (by omega), gx_bs, n1, has_ar ec1 (by omega) (by omega), gx_bs, o2, gx_bs, g1, gx_bs]
  · rw [g3 x x2 x3]
    show jx_up h1.2 (a + 31) _ x = _
    rw [up_o x1]
  · rw [g3 (a + 31) (by omega) (by omega)]
    exact up_s
/-- blocks are apart by what lies in them -/
theorem st_st {h : jx_H} {q q' : Nat} {S S' : MS} (H : bH sK h q S) (H' : bH sK h q' S') (n : q ≠ q') : apart sK sK q q' := by
  have key : ∀ {q q' : Nat} {S S' : MS}, bH sK h q S → bH sK h q' S' → q < q' → q + 8 < q' := by
    intro q q' S S' H H' n
    by_cases e : q + 8 < q'
    · exact e
    · have a := H.2 (q' - q) ⟨by omega, by show q' - q ≤ 8; omega⟩
      rw [show q + (q' - q) = q' by omega, H'.1] at a
      cases a
  rcases Nat.lt_or_gt_of_ne n with e | e
  · exact Or.inl (key H H' e)
  · exact Or.inr (key H' H e)
theorem mt_off {h : jx_H} {q q' : Nat} {S : MS} (H : bH sK h q S) (H' : SH h q' 12 12) : q + 8 < q' ∨ q' + 2 < q := by
  obtain ⟨T, T1, -⟩ := H'
  by_cases e : q + 8 < q' ∨ q' + 2 < q
  · exact e
  · rcases Nat.lt_trichotomy q q' with n | n | n
    · have a := H.2 (q' - q) ⟨by omega, by show q' - q ≤ 8; omega⟩
      rw [show q + (q' - q) = q' by omega, T1.1] at a
      cases a
    · have a := H.1
      rw [n, T1.1] at a
      injection a with a
      injection a with a
      injection a with a b
      exact absurd a (by decide)
    · have a := T1.2 (q - q') ⟨by omega, by show q - q' ≤ 2; omega⟩
      rw [show q' + (q - q') = q by omega, H.1] at a
      cases a
def OUT (h : jx_H) (o : Nat) : Prop := ∃ g, h.2 o = some (.inl (.long, 1, .inr (.inl g)))
theorem OUT.ls {h : jx_H} {o : Nat} (O : OUT h o) (x : Int64) : ∃ g, hls h o 0 x = some (h.1, jx_up h.2 o (.inl (.long, 1, .inr (.inl g)))) ∧ g 0 = x := by
  obtain ⟨g, e⟩ := O
  refine ⟨vp_updL g (0 : Int32).toNatClampNeg x, ?_, ?_⟩
  · unfold hls
    rw [e]
    exact if_pos ⟨rfl, by decide⟩
  · unfold vp_updL
    exact if_pos rfl
theorem OUT.ll {h : jx_H} {o : Nat} {g : Nat → Int64} (e : h.2 o = some (.inl (.long, 1, .inr (.inl g)))) : hll h o 0 = some (g 0) := by
  unfold hll
  rw [e]
  exact if_pos ⟨rfl, by decide⟩
def DER (h : jx_H) (a : Nat) (c : Cf) : Prop := ∃ ds ft, TI h (a + 35) (a + 1) (Lm c.2.1).length c.1 (tabM c.2.1 c.2.2.1 1 0) (tabM c.2.1 c.2.2.1 0 1) ∧ TX h (a + 35) ∧ (∃ P, bH pK h (a + 32) P) ∧ ZI h (a + 68) (a + 1) (a + 35) (a + 32) c.2.1 c.2.2.1 c.1 ds ∧ (ds = m1 ∨ ds = nI (dsV c.2.1 c.2.2.1 c.1)) ∧ h.2 (a + 83) = some (qm 12 ft) ∧ matA h (a + 128) ft
def SAV (h : jx_H) (lo : Nat) (f fs : Nat → Option Nat) (V : Nat → Option Cf) : Prop := (∀ k, k < 2 → V k = none → fs k = none) ∧ (∀ k v, k < 2 → V k = some v → okC v ∧ ∃ q S, fs k = some q ∧ bH sK h q S ∧ STc S v ∧ lo < q ∧ q + 8 < h.1 ∧ ∀ j, j < 8 → f j ≠ some q) ∧ ∀ q, fs 0 = some q → fs 1 ≠ some q
def DYN (h : jx_H) (a d : Nat) (U : Nat → Cf) (V : Nat → Option Cf) : Prop := ∃ nx f fs, nx < 8 ∧ HIS h (a + 29) nx d f ∧ ringU h nx d f U ∧ ringA h (a + 128) f ∧ h.2 (a + 28) = some (qs 2 fs) ∧ SAV h (a + 128) f fs V
def PAR (h : jx_H) (a L : Nat) (b : Nat → Nat) (e1 e2 : Int32) : Prop := (∃ T, bH tK h (a + 88) T ∧ cTx T L b) ∧ (∃ F, PO h a F ∧ F 4 = e1 ∧ F 5 = e2) ∧ (∃ S, bH sK h (a + 91) S) ∧ ∃ g, h.2 (a + 100) = some (ar 441 g)
/-- the class -/
def CLS (h : jx_H) (a : Nat) (c : Cf) (d : Nat) (U : Nat → Cf) (V : Nat → Option Cf) (cnt : Nat → Int32) (L : Nat) (b : Nat → Nat) (e1 e2 : Int32) (res : Nat → Int32) : Prop :=
  (BB h a ∧ a + 128 < h.1) ∧ ((∃ S, bH sK h (a + 1) S ∧ STc S c) ∧ okC c) ∧ ((∃ S, bH sK h (a + 10) S) ∧ ∃ S, bH sK h (a + 19) S) ∧ (d ≤ 8 ∧ ∀ k, k < d → okC (U k)) ∧ DYN h a d U V ∧ h.2 (a + 31) = some (ar 6 cnt) ∧ DER h a c ∧ (FO h (a + 84) (a + 32) ∧ SH h (a + 85) 12 91) ∧ PAR h a L b e1 e2 ∧ h.2 (a + 101) = some (ar 12 res) ∧ ∃ g, h.2 (a + 102) = some (ar 12 g)
/-- the reference -/
def REF (M : MS) (c : Cf) (d : Nat) (U : Nat → Cf) (V : Nat → Option Cf) (cnt : Nat → Int32) (L : Nat) (b : Nat → Nat) (e1 e2 : Int32) (res : Nat → Int32) : Prop :=
  RCc (M.2 1) c ∧ (M.1 5 = nI d ∧ undR (M.2 4) d U) ∧ ((∀ k, k < 2 → V k = none → M.2 6 k = nI 0) ∧ ∀ k v, k < 2 → V k = some v → M.2 6 k = nI 1 ∧ RCc (fun q => M.2 5 (248 * k + q)) v) ∧ (∀ k, k < 6 → M.2 7 k = cnt k) ∧ (rTx M L b ∧ WD M) ∧ (M.1 15 = e1 ∧ M.1 16 = e2) ∧ ∀ k, k < 12 → M.2 18 k = res k
def INV (a m o : Nat) (h : jx_H) : Prop := m = a + 103 ∧ o = a + 128 ∧ OUT h (a + 128) ∧ ∃ M c d U V cnt L b e1 e2 res, bH mK h (a + 103) M ∧ CLS h a c d U V cnt L b e1 e2 res ∧ REF M c d U V cnt L b e1 e2 res
section
variable {h h' : jx_H} {a : Nat} {c : Cf} {d : Nat} {U : Nat → Cf} {V : Nat → Option Cf} {cnt : Nat → Int32} {L : Nat} {b : Nat → Nat} {e1 e2 : Int32} {res : Nat → Int32}
theorem TI.sm {t st n p : Nat} {X Y : Nat → Nat → Nat} (T : TI h t st n p X Y) (e : ∀ x, t ≤ x → x ≤ t + 24 → h'.2 x = h.2 x) : TI h' t st n p X Y := TI.same T e
theorem matA.fr {lo : Nat} {ft : Nat → Option Nat} (M : matA h lo ft) (e : ∀ x, lo < x → h'.2 x = h.2 x) (s : h.1 ≤ h'.1) : matA h' lo ft := ⟨fun j q hj hq => by
  obtain ⟨x1, x2, x3⟩ := M.1 j q hj hq
  exact ⟨x1.same fun x y1 _ => e x (by omega), x2, by omega⟩, M.2⟩
theorem DYN.fr (D : DYN h a d U V) (e : ∀ x, (a + 28 ≤ x ∧ x ≤ a + 30) ∨ a + 128 < x → h'.2 x = h.2 x) (s : h.1 ≤ h'.1) : DYN h' a d U V := by
  obtain ⟨nx, f, fs, hn, HI, RU, RA, es, SV⟩ := D
  have up : ∀ {q : Nat} {S : MS}, a + 128 < q → bH sK h q S → bH sK h' q S := fun hq H => H.same fun x x1 _ => e x (Or.inr (by omega))
  refine ⟨nx, f, fs, hn, ⟨by rw [e (a + 29) (by omega)]; exact HI.1, by rw [e (a + 29 + 1) (by omega)]; exact HI.2⟩, fun k hk => ?_, ⟨fun j q hj hq => ?_, RA.2⟩, by rw [e (a + 28) (by omega)]; exact es, SV.1, fun k v hk hv => ?_, SV.2.2⟩
  · obtain ⟨q, S, x1, x2, x3⟩ := RU k hk
    exact ⟨q, S, x1, up (RA.1 _ q slot_lt x1).2.1 x2, x3⟩
  · obtain ⟨⟨T, x1⟩, x2, x3⟩ := RA.1 j q hj hq
    exact ⟨⟨T, up x2 x1⟩, x2, by omega⟩
  · obtain ⟨x1, q, S, x2, x3, x4, x5, x6, x7⟩ := SV.2.1 k v hk hv
    exact ⟨x1, q, S, x2, up x5 x3, x4, x5, by omega, x7⟩
theorem DER.fr (D : DER h a c) (e : ∀ x, (a + 32 ≤ x ∧ x ≤ a + 83) ∨ a + 128 < x → h'.2 x = h.2 x) (s : h.1 ≤ h'.1) : DER h' a c := by
  obtain ⟨ds, ft, T, X, ⟨P, hP⟩, Z, hd, e15, MA⟩ := D
  exact ⟨ds, ft, T.same fun x _ _ => e x (by omega), X.same fun x _ _ => e x (by omega), ⟨P, hP.same fun x x1 x2 => by have x2 : x ≤ a + 32 + 2 := x2; exact e x (by omega)⟩, Z.same fun x _ _ => e x (by omega), hd, by rw [e (a + 83) (by omega)]; exact e15, MA.fr (fun x hx => e x (Or.inr hx)) s⟩
theorem PAR.fr (D : PAR h a L b e1 e2) (e : ∀ x, (a + 88 ≤ x ∧ x ≤ a + 100) → h'.2 x = h.2 x) : PAR h' a L b e1 e2 := by
  obtain ⟨⟨T, HT, H⟩, ⟨F, P, f4, f5⟩, ⟨S, hS⟩, g, hg⟩ := D
  exact ⟨⟨T, HT.same fun x x1 x2 => by have x2 : x ≤ a + 88 + 1 := x2; exact e x (by omega), H⟩, ⟨F, P.fr (e _ (by omega)), f4, f5⟩, ⟨S, hS.same fun x x1 x2 => by have x2 : x ≤ a + 91 + 8 := x2; exact e x (by omega)⟩, g, by rw [e _ (by omega)]; exact hg⟩
/-- the class does not see the reference's cells -/
theorem CLS.fr (C : CLS h a c d U V cnt L b e1 e2 res) (e : ∀ x, x ≤ a + 102 ∨ a + 128 < x → h'.2 x = h.2 x) (s : h.1 ≤ h'.1) : CLS h' a c d U V cnt L b e1 e2 res := by
  obtain ⟨⟨B, sz⟩, ⟨⟨S, HS, hS⟩, ok⟩, ⟨⟨S1, H1⟩, S2, H2⟩, hd, D, ec, R, ⟨F, G⟩, P, er, g, eg⟩ := C
  have up : ∀ {q : Nat} {S : MS}, q + 8 ≤ a + 102 → bH sK h q S → bH sK h' q S := fun {q} _ hq H => H.same fun x x1 x2 => by have x2 : x ≤ q + 8 := x2; exact e x (Or.inl (by omega))
  exact ⟨⟨by show _ = _; rw [e a (by omega)]; exact B, by omega⟩, ⟨⟨S, up (by omega) HS, hS⟩, ok⟩, ⟨⟨S1, up (by omega) H1⟩, S2, up (by omega) H2⟩, hd, D.fr (fun x hx => e x (by omega)) s, by rw [e _ (by omega)]; exact ec, R.fr (fun x hx => e x (by omega)) s, ⟨by show _ = _; rw [e _ (by omega)]; exact F, G.same fun x x1 x2 => e x (by omega)⟩, P.fr (fun x hx => e x (by omega)), by rw [e _ (by omega)]; exact er, g, by rw [e _ (by omega)]; exact eg⟩
end
