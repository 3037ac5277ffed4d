/-! the class: determinants, kernels, traces -/
theorem h_reduce {h : jx_H} {q H W R C p : Nat} {A : Nat → Nat → Nat} (z : SZ H W) (M : HM h q H W R C A) (hp2 : 2 ≤ p) (hp : p < 1000) (hA : bdM A R C p) :
    ∃ h', FX2_reduceRows q (nI p) h = some (nI (redF p R C C 0 0 1 A (fun _ => 0)).1, h') ∧ exc h h' q (q + 2) ∧ HM h' q H W R C (redF p R C C 0 0 1 A (fun _ => 0)).2.2.1 ∧ hgi h' q 2 6 = some (nI (redF p R C C 0 0 1 A (fun _ => 0)).2.1) := by
  obtain ⟨S, s1, s2⟩ := M
  obtain ⟨T, t1, t2, t3, -⟩ := x_reduce z s2 hp2 hp hA
  refine ⟨bput (xK H W) h q T, ?_, exc.bput, ⟨T, bH.put, t2⟩, ?_⟩
  · rw [s1.run (F := FX2_reduceRows q (nI p)) eFX2_reduceRows, t1, gx_ms]
  · rw [xK_gi6, t3]
theorem less0 {n p : Nat} {A : Nat → Nat → Nat} (hA : bdM A n n p) : eqM n (lessM A 0 p) A := by
  intro r c hr hc
  unfold lessM
  split
  · exact rsd_sub0 (hA r c hr hc) (Nat.zero_mod _)
  · rfl
section
variable {h : jx_H} {t st n p : Nat} {X Y : Nat → Nat → Nat}
/-- only the matrices that are used again have changed -/
theorem TP.sc {h' : jx_H} (T : TP h t st n p X Y) (e : exc h h' (t + 13) (t + 24)) (s1 : SH h' (t + 13) 12 12) (s2 : SH h' (t + 16) 12 12) (s3 : SH h' (t + 19) 12 12) (s4 : SH h' (t + 22) 12 12) : TP h' t st n p X Y := by
  obtain ⟨cc, cr, T, ⟨a1, a2, a3, a4, -⟩, k, c⟩ := T
  exact ⟨cc, cr, T.ex e (by omega), ⟨a1.ex e (by omega), a2.ex e (by omega), a3.ex e (by omega), a4.ex e (by omega), s1, s2, s3, s4⟩, k.ex e (by omega), c⟩
def pickM (v : Nat) (X Y : Nat → Nat → Nat) : Nat → Nat → Nat := if v = 0 then X else Y
theorem TP.pick (T : TP h t st n p X Y) {v : Nat} (hv : v ≤ 1) : ∃ q, FX6_ofVariable t (nI v) h = some q ∧ HM h q 12 12 n n (pickM v X Y) ∧ (q = t + 1 ∨ q = t + 4) := by
  obtain ⟨cc, cr, T, -, ⟨k1, k2, -⟩, -⟩ := T
  unfold FX6_ofVariable pickM
  by_cases h0 : v = 0
  · subst h0
    refine ⟨t + 1, ?_, by rw [if_pos rfl]; exact k1, Or.inl rfl⟩
    rw [if_pos (by rw [n0]), hgr_ob (x := t + 1) T rfl, gx_bs]
  · refine ⟨t + 4, ?_, by rw [if_neg h0]; exact k2, Or.inr rfl⟩
    rw [if_neg (by rw [n0, nI_eqN (by omega) (by omega)]; exact h0), hgr_ob (x := t + 4) T rfl, gx_bs]
/-- a table less a number, reduced -/
theorem TP.base {S : MS} (T : TP h t st n p X Y) (HS : bH sK h st S) (hP : S.1 0 = nI p) (dst : st + 8 < t) (hn : 0 < n) (hn2 : n ≤ 12) (hp2 : 2 ≤ p) (hp : p < 1000) (hX : bdM X n n p) (hY : bdM Y n n p) {v a : Nat} (hv : v ≤ 1) (ha : a < p) :
    ∃ q h1 h2, FX6_ofVariable t (nI v) h = some q ∧ FX2_becomeShifted (t + 13) q (nI a) (nI p) h = some h1 ∧ FX2_reduceRows (t + 13) (nI p) h1 = some (nI (redF p n n n 0 0 1 (lessM (pickM v X Y) a p) (fun _ => 0)).1, h2) ∧ hgi h2 (t + 13) 2 6 = some (nI (redF p n n n 0 0 1 (lessM (pickM v X Y) a p) (fun _ => 0)).2.1) ∧ exc h h1 (t + 13) (t + 15) ∧ exc h h2 (t + 13) (t + 15) ∧ isO h1 (t + 13) 2 = some () ∧ TP h2 t st n p X Y := by
  have hB : bdM (pickM v X Y) n n p := by unfold pickM; split <;> assumption
  obtain ⟨q, e1, e2, e3⟩ := T.pick hv
  have T' := T
  obtain ⟨cc, cr, T0, ⟨-, -, -, -, s5, s6, s7, s8⟩, -⟩ := T'
  obtain ⟨h1, a1, a2, a3⟩ := h_shift (v := a) z1212 z1212 s5 e2 (by unfold off; omega) hn hn2 hn2 (by omega) hp hB ha
  obtain ⟨h2, b1, b2, b3, b4⟩ := h_reduce z1212 a3 hp2 hp (bd_less (by omega) hB)
  have ee : exc h h2 (t + 13) (t + 15) := a2.tr b2
  exact ⟨q, h1, h2, e1, a1, b1, b4, a2, ee, a3.ob, T.sc (ee.mono (by omega) (by omega)) b3.sh (s6.ex ee (by omega)) (s7.ex ee (by omega)) (s8.ex ee (by omega))⟩
end
section
variable {h : jx_H} {t st p : Nat} {S : MS} {ht : Nat → Nat} {r : Nat → Nat → Nat} {pts : List (Nat × Nat)}
theorem h_determinant (T : TI h t st (Lm ht).length p (tabM ht r 1 0) (tabM ht r 0 1)) (HS : bH sK h st S) (R : ST S p ht r pts) (w : wfh ht) (hp2 : 2 ≤ p) (hp : p < 1000) (hr : ∀ b k, b < (Lb ht).length → k < (Lm ht).length → r b k < p) (dst : st + 8 < t) {v : Nat} (hv : v ≤ 1) :
    ∃ h', FX6_determinantOf t (nI v) h = some (nI (redF p (Lm ht).length (Lm ht).length (Lm ht).length 0 0 1 (lessM (pickM v (tabM ht r 1 0) (tabM ht r 0 1)) 0 p) (fun _ => 0)).2.1, h') ∧ exc h h' t (t + 24) ∧ TP h' t st (Lm ht).length p (tabM ht r 1 0) (tabM ht r 0 1) := by
  have l := Lm_len w
  have bX := bd_tab (p := p) (r := r) w (Or.inl ⟨rfl, rfl⟩) hp2 hr
  have bY := bd_tab (p := p) (r := r) w (Or.inr ⟨rfl, rfl⟩) hp2 hr
  have o1 : isO h t 6 = some () := by
    rcases T with ⟨cc, cr, T, -⟩ | ⟨df, cc, cr, T, -⟩ <;> exact isO_ob T
  obtain ⟨h1, a1, a2, a3⟩ := h_prepare T HS R w hp2 hp hr dst
  have S1 : bH sK h1 st S := HS.ex a2 (by show st + 8 < t ∨ t + 12 < st; omega)
  obtain ⟨q, h2, h3, b1, b2, b3, b4, b5, b6, b7, b8⟩ := a3.base S1 R.1 dst (by omega) l.2.1 hp2 hp bX bY hv (a := 0) (by omega)
  have T1 := a3
  obtain ⟨cc, cr, T1, hSH, -⟩ := T1
  have T2 := T1.ex b5 (by omega)
  have T3 := T1.ex b6 (by omega)
  have g1 : hgi h1 st 5 0 = some (nI p) := by rw [← R.1]; exact hgi_ob S1.1 rfl
  have S2 : bH sK h2 st S := S1.ex b5 (by show st + 8 < t + 13 ∨ t + 15 < st; omega)
  have g2 : hgi h2 st 5 0 = some (nI p) := by rw [← R.1]; exact hgi_ob S2.1 rfl
  have r1 : hgr h1 t 6 5 = some (t + 13) := hgr_ob T1 rfl
  have r2 : hgr h1 t 6 0 = some st := hgr_ob T1 rfl
  have r3 : hgr h2 t 6 5 = some (t + 13) := hgr_ob T2 rfl
  have r4 : hgr h2 t 6 0 = some st := hgr_ob T2 rfl
  have r5 : hgr h3 t 6 5 = some (t + 13) := hgr_ob T3 rfl
  have o2 : isO h1 t 6 = some () := isO_ob T1
  refine ⟨h3, ?_, (a2.mono (by omega) (by omega)).tr (b6.mono (by omega) (by omega)), b8⟩
  unfold FX6_determinantOf
  rw [o1, gx_bs, a1, gx_bs, r1, gx_bs, o2, gx_bs, b1, gx_bs, r2, gx_bs, g1, gx_bs, hSH.2.2.2.2.1.ob, gx_bs, n0, b2, gx_bs, r3, gx_bs, r4, gx_bs, g2, gx_bs, b7, gx_bs, b3]
  show ((hgr h3 t 6 5).bind fun x16 => (hgi h3 x16 2 6).bind fun x17 => some (x17, h3)) = _
  rw [r5, gx_bs, b4, gx_bs]
theorem h_nullity (T : TI h t st (Lm ht).length p (tabM ht r 1 0) (tabM ht r 0 1)) (HS : bH sK h st S) (R : ST S p ht r pts) (w : wfh ht) (hp2 : 2 ≤ p) (hp : p < 1000) (hr : ∀ b k, b < (Lb ht).length → k < (Lm ht).length → r b k < p) (dst : st + 8 < t) {v a : Nat} (hv : v ≤ 1) (ha : a < p) :
    ∃ h', FX6_nullityOf t (nI v) (nI a) h = some (nI (Lm ht).length - nI (redF p (Lm ht).length (Lm ht).length (Lm ht).length 0 0 1 (lessM (pickM v (tabM ht r 1 0) (tabM ht r 0 1)) a p) (fun _ => 0)).1, h') ∧ exc h h' t (t + 24) ∧ TP h' t st (Lm ht).length p (tabM ht r 1 0) (tabM ht r 0 1) := by
  have l := Lm_len w
  have bX := bd_tab (p := p) (r := r) w (Or.inl ⟨rfl, rfl⟩) hp2 hr
  have bY := bd_tab (p := p) (r := r) w (Or.inr ⟨rfl, rfl⟩) hp2 hr
  have o1 : isO h t 6 = some () := by
    rcases T with ⟨cc, cr, T, -⟩ | ⟨df, cc, cr, T, -⟩ <;> exact isO_ob T
  obtain ⟨h1, a1, a2, a3⟩ := h_prepare T HS R w hp2 hp hr dst
  have S1 : bH sK h1 st S := HS.ex a2 (by show st + 8 < t ∨ t + 12 < st; omega)
  obtain ⟨q, h2, h3, b1, b2, b3, b4, b5, b6, b7, b8⟩ := a3.base S1 R.1 dst (by omega) l.2.1 hp2 hp bX bY hv ha
  have T1 := a3
  obtain ⟨cc, cr, T1, hSH, -⟩ := T1
  have T2 := T1.ex b5 (by omega)
  have g1 : hgi h1 st 5 0 = some (nI p) := by rw [← R.1]; exact hgi_ob S1.1 rfl
  have S2 : bH sK h2 st S := S1.ex b5 (by show st + 8 < t + 13 ∨ t + 15 < st; omega)
  have g2 : hgi h2 st 5 0 = some (nI p) := by rw [← R.1]; exact hgi_ob S2.1 rfl
  have g3 : hgi h2 st 5 2 = some (nI (Lm ht).length) := by rw [← R.2.2.1.1]; exact hgi_ob S2.1 rfl
  have r1 : hgr h1 t 6 5 = some (t + 13) := hgr_ob T1 rfl
  have r2 : hgr h1 t 6 0 = some st := hgr_ob T1 rfl
  have r3 : hgr h2 t 6 5 = some (t + 13) := hgr_ob T2 rfl
  have r4 : hgr h2 t 6 0 = some st := hgr_ob T2 rfl
  have o2 : isO h1 t 6 = some () := isO_ob T1
  refine ⟨h3, ?_, (a2.mono (by omega) (by omega)).tr (b6.mono (by omega) (by omega)), b8⟩
  unfold FX6_nullityOf
  rw [o1, gx_bs, a1, gx_bs, r1, gx_bs, o2, gx_bs, b1, gx_bs, r2, gx_bs, g1, gx_bs, hSH.2.2.2.2.1.ob, gx_bs, b2, gx_bs, r4, gx_bs, g3, gx_bs, r3, gx_bs, gx_bs, g2, gx_bs, b7, gx_bs, b3]
  rfl
end
