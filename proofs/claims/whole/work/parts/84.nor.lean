/-! the class: powers raised, traces, normal forms -/
theorem h_fill {h : jx_H} {a N : Nat} {g : Nat → Int32} {v : Int32} (e : h.2 a = some (ar N g)) (hN : N < 2 ^ 31) : ∃ g', FJ7_fill_53178 a v h = some (h.1, jx_up h.2 a (ar N g')) ∧ ∀ k, k < N → g' k = v := by
  unfold FJ7_fill_53178
  rw [hlen_ar e, gx_bs, n0]
  have key : ∃ t, itr (fun s : Int32 × jx_H => LJ7_fill_53178_5 a v (nI N) s.1 s.2) (nI 0, h) = some t ∧ ∃ g', t = ((h.1, jx_up h.2 a (ar N g')) : jx_H) ∧ ∀ k, k < N → g' k = v := by
    refine itr_run N (fun k s => ∃ g', s = (nI k, ((h.1, jx_up h.2 a (ar N g')) : jx_H)) ∧ ∀ q, q < k → g' q = v) ⟨g, ?_, fun q h => by omega⟩ ?_ ?_
    · refine Prod.ext rfl (Prod.ext rfl ?_)
      show h.2 = jx_up h.2 a (ar N g)
      funext x
      by_cases hx : x = a
      · rw [hx, up_s, e]
      · rw [up_o hx]
    · rintro k s hk ⟨g', rfl, hg⟩
      left
      have e2 : ((h.1, jx_up h.2 a (ar N g')) : jx_H).2 a = some (ar N g') := up_s
      unfold LJ7_fill_53178_5
      dsimp only
      rw [if_neg (by rw [nI_leN (by omega) (by omega)]; omega), has_ar e2 hk hN, gx_bs, n1, nI_add]
      refine ⟨_, rfl, upd g' k v, ?_, fun q hq => ?_⟩
      · refine Prod.ext rfl (Prod.ext rfl ?_)
        show jx_up (jx_up h.2 a (ar N g')) a (ar N (upd g' k v)) = jx_up h.2 a (ar N (upd g' k v))
        funext x
        by_cases hx : x = a
        · rw [hx, up_s, up_s]
        · rw [up_o hx, up_o hx, up_o hx]
      · by_cases h2 : q = k
        · rw [h2, upd_s]
        · rw [upd_o h2]; exact hg q (by omega)
    · rintro s ⟨g', rfl, hg⟩
      unfold LJ7_fill_53178_5
      dsimp only
      rw [if_pos (by rw [nI_leN (by omega) (by omega)]; omega)]
      exact ⟨_, rfl, g', rfl, hg⟩
  obtain ⟨t, e1, g', rfl, h1⟩ := key
  exact ⟨g', e1, h1⟩
theorem powM_congr {n p : Nat} {A B : Nat → Nat → Nat} (h : eqM n A B) : ∀ e, eqM n (powR n p A e) (powR n p B e)
  | 0 => eqM.rf
  | e + 1 => mulM_congr h (powM_congr h e)
theorem trM_congr {n p : Nat} {A B : Nat → Nat → Nat} (h : eqM n A B) : trM n p A = trM n p B := by
  unfold trM
  rw [sm_congr n fun k hk => h k k hk hk]
section
variable {h : jx_H} {t st n p : Nat} {X Y : Nat → Nat → Nat} {S : MS}
/-- a table less a number, to a power, into a matrix that is used again -/
theorem h_raise (T : TP h t st n p X Y) (HS : bH sK h st S) (hP : S.1 0 = nI p) (dst : st + 8 < t) (hn : 0 < n) (hn2 : n ≤ 12) (hp2 : 2 ≤ p) (hp : p < 1000) (hX : bdM X n n p) (hY : bdM Y n n p) {v a e q0 : Nat} (hv : v ≤ 1) (ha : a < p) (he : e < 1000) (M0 : SH h q0 12 12) (dq : t + 24 < q0 ∨ q0 = t + 16 ∨ q0 = t + 19) :
    ∃ h', FX6_raise t q0 (nI v) (nI a) (nI e) h = some h' ∧ h'.1 = h.1 ∧ (∀ x, (x < t + 13 ∨ t + 15 < x) → (x < q0 ∨ q0 + 2 < x) → (x < t + 22 ∨ t + 24 < x) → h'.2 x = h.2 x) ∧ HM h' q0 12 12 n n (powR n p (lessM (pickM v X Y) a p) e) ∧ TP h' t st n p X Y := by
  have hB : bdM (pickM v X Y) n n p := by unfold pickM; split <;> assumption
  obtain ⟨q, e1, e2, e3⟩ := T.pick hv
  have T' := T
  obtain ⟨cc, cr, T0, ⟨s1, s2, s3, s4, s5, s6, s7, s8⟩, k, cl⟩ := T'
  obtain ⟨h1, a1, a2, a3⟩ := h_shift (v := a) z1212 z1212 s5 e2 (by unfold off; omega) hn hn2 hn2 (by omega) hp hB ha
  have M1 : SH h1 q0 12 12 := M0.ex a2 (by omega)
  obtain ⟨h2, b1, b2, b3, b4, b5, b6⟩ := h_power z1212 M1 a3 (s8.ex a2 (by omega)) (by unfold off; omega) (by unfold off; omega) (by unfold off; omega) hn hn2 hn2 hn2 hp2 hp (bd_less (by omega) hB) he
  have S1 : bH sK h1 st S := HS.ex a2 (by show st + 8 < t + 13 ∨ t + 13 + 2 < st; omega)
  have T1 := T0.ex a2 (by omega)
  have g1 : hgi h st 5 0 = some (nI p) := by rw [← hP]; exact hgi_ob HS.1 rfl
  have g2 : hgi h1 st 5 0 = some (nI p) := by rw [← hP]; exact hgi_ob S1.1 rfl
  have r1 : hgr h t 6 5 = some (t + 13) := hgr_ob T0 rfl
  have r2 : hgr h t 6 0 = some st := hgr_ob T0 rfl
  have r3 : hgr h1 t 6 5 = some (t + 13) := hgr_ob T1 rfl
  have r4 : hgr h1 t 6 8 = some (t + 22) := hgr_ob T1 rfl
  have r5 : hgr h1 t 6 0 = some st := hgr_ob T1 rfl
  have o1 : isO h t 6 = some () := isO_ob T0
  have fin : ∀ x, (x < t + 13 ∨ t + 15 < x) → (x < q0 ∨ q0 + 2 < x) → (x < t + 22 ∨ t + 24 < x) → h2.2 x = h.2 x := fun x x1 x2 x3 => by rw [b3 x x2 x1 x3, a2.2 x x1]
  -- what lies in none of the three stays
  have keep : ∀ {q : Nat} {A : Nat → Nat → Nat}, HM h q 12 12 n n A → (q + 2 < t + 13) → HM h2 q 12 12 n n A := by
    rintro q A ⟨U, u1, u2⟩ hq
    exact ⟨U, ⟨by rw [fin q (by omega) (by omega) (by omega)]; exact u1.1, fun j hj => by
      have hj : 1 ≤ j ∧ j ≤ 2 := hj
      rw [fin (q + j) (by omega) (by omega) (by omega)]; exact u1.2 j hj⟩, u2⟩
  have keepS : ∀ {q : Nat}, SH h q 12 12 → (q + 2 < t + 13 ∨ t + 15 < q) → (q + 2 < q0 ∨ q0 + 2 < q) → (q + 2 < t + 22 ∨ t + 24 < q) → SH h2 q 12 12 := by
    rintro q ⟨U, u1, u2⟩ c1 c2 c3
    exact ⟨U, ⟨by rw [fin q (by omega) (by omega) (by omega)]; exact u1.1, fun j hj => by
      have hj : 1 ≤ j ∧ j ≤ 2 := hj
      rw [fin (q + j) (by omega) (by omega) (by omega)]; exact u1.2 j hj⟩, u2⟩
  refine ⟨h2, ?_, by rw [b2, a2.1], fin, b4, cc, cr, ?_, ⟨(keep k.1 (by omega)).sh, (keep k.2.1 (by omega)).sh, (keep k.2.2.1 (by omega)).sh, (keep k.2.2.2 (by omega)).sh, b5, ?_, ?_, b6⟩, ⟨keep k.1 (by omega), keep k.2.1 (by omega), keep k.2.2.1 (by omega), keep k.2.2.2 (by omega)⟩, cl⟩
  · unfold FX6_raise
    rw [r1, gx_bs, o1, gx_bs, e1, gx_bs, r2, gx_bs, g1, gx_bs, s5.ob, gx_bs, a1, gx_bs, r3, gx_bs, r4, gx_bs, r5, gx_bs, g2, gx_bs, M1.ob, gx_bs, b1, gx_bs]
  · show h2.2 t = _
    rw [fin t (by omega) (by omega) (by omega)]
    exact T0
  · by_cases hq : q0 = t + 16
    · rw [← hq]; exact b4.sh
    · exact keepS s6 (by omega) (by omega) (by omega)
  · by_cases hq : q0 = t + 19
    · rw [← hq]; exact b4.sh
    · exact keepS s7 (by omega) (by omega) (by omega)
end
section
variable {h : jx_H} {t st p : Nat} {S : MS} {ht : Nat → Nat} {r : Nat → Nat → Nat} {pts : List (Nat × Nat)}
theorem h_traceOf (T : TI h t st (Lm ht).length p (tabM ht r 1 0) (tabM ht r 0 1)) (HS : bH sK h st S) (R : ST S p ht r pts) (w : wfh ht) (hp2 : 2 ≤ p) (hp : p < 1000) (hr : ∀ b k, b < (Lb ht).length → k < (Lm ht).length → r b k < p) (dst : st + 8 < t) {i j : Nat} (hi : i < 1000) (hj : j < 1000) :
    ∃ h', FX6_traceOfPowers t (nI i) (nI j) h = some (nI (trM (Lm ht).length p (mulIt (Lm ht).length p (tabM ht r 1 0) (powR (Lm ht).length p (tabM ht r 0 1) j) i)), h') ∧ exc h h' t (t + 24) ∧ TP h' t st (Lm ht).length p (tabM ht r 1 0) (tabM ht r 0 1) := by
  have l := Lm_len w
  have bX := bd_tab (p := p) (r := r) w (Or.inl ⟨rfl, rfl⟩) hp2 hr
  have bY := bd_tab (p := p) (r := r) w (Or.inr ⟨rfl, rfl⟩) hp2 hr
  have o1 : isO h t 6 = some () := by
    rcases T with ⟨cc, cr, T, -⟩ | ⟨df, cc, cr, T, -⟩ <;> exact isO_ob T
  obtain ⟨h1, a1, a2, a3⟩ := h_prepare T HS R w hp2 hp hr dst
  have S1 : bH sK h1 st S := HS.ex a2 (by show st + 8 < t ∨ t + 12 < st; omega)
  have a3' := a3
  obtain ⟨cc, cr, T1, hSH, -⟩ := a3'
  obtain ⟨h2, b1, b2, b3, b4, b5⟩ := h_raise a3 S1 R.1 dst (by omega) l.2.1 hp2 hp bX bY (v := 0) (a := 0) (e := i) (q0 := t + 16) (by omega) (by omega) hi hSH.2.2.2.2.2.1 (by omega)
  have ex12 : exc h1 h2 (t + 13) (t + 24) := ⟨b2, fun x hx => b3 x (by omega) (by omega) (by omega)⟩
  have S2 : bH sK h2 st S := S1.ex ex12 (by show st + 8 < t + 13 ∨ t + 24 < st; omega)
  have b5' := b5
  obtain ⟨cc2, cr2, T2, hSH2, -⟩ := b5'
  obtain ⟨h3, c1, c2, c3, c4, c5⟩ := h_raise b5 S2 R.1 dst (by omega) l.2.1 hp2 hp bX bY (v := 1) (a := 0) (e := j) (q0 := t + 19) (by omega) (by omega) hj hSH2.2.2.2.2.2.2.1 (by omega)
  have ex23 : exc h2 h3 (t + 13) (t + 24) := ⟨c2, fun x hx => c3 x (by omega) (by omega) (by omega)⟩
  have S3 : bH sK h3 st S := S2.ex ex23 (by show st + 8 < t + 13 ∨ t + 24 < st; omega)
  have b4' : HM h3 (t + 16) 12 12 (Lm ht).length (Lm ht).length (powR (Lm ht).length p (lessM (pickM 0 (tabM ht r 1 0) (tabM ht r 0 1)) 0 p) i) := by
    obtain ⟨U, u1, u2⟩ := b4
    exact ⟨U, ⟨by rw [c3 (t + 16) (by omega) (by omega) (by omega)]; exact u1.1, fun q hq => by
      have hq : 1 ≤ q ∧ q ≤ 2 := hq
      rw [c3 (t + 16 + q) (by omega) (by omega) (by omega)]; exact u1.2 q hq⟩, u2⟩
  have c5' := c5
  obtain ⟨cc3, cr3, T3, -⟩ := c5'
  have g3 : hgi h3 st 5 0 = some (nI p) := by rw [← R.1]; exact hgi_ob S3.1 rfl
  have r1 : hgr h1 t 6 6 = some (t + 16) := hgr_ob T1 rfl
  have r2 : hgr h2 t 6 7 = some (t + 19) := hgr_ob T2 rfl
  have r3 : hgr h3 t 6 6 = some (t + 16) := hgr_ob T3 rfl
  have r4 : hgr h3 t 6 7 = some (t + 19) := hgr_ob T3 rfl
  have r5 : hgr h3 t 6 0 = some st := hgr_ob T3 rfl
  have o2 : isO h1 t 6 = some () := isO_ob T1
  have o3 : isO h2 t 6 = some () := isO_ob T2
  have eX : eqM (Lm ht).length (lessM (pickM 0 (tabM ht r 1 0) (tabM ht r 0 1)) 0 p) (tabM ht r 1 0) := less0 bX
  have eY : eqM (Lm ht).length (lessM (pickM 1 (tabM ht r 1 0) (tabM ht r 0 1)) 0 p) (tabM ht r 0 1) := less0 bY
  have etr : trM (Lm ht).length p (mulM (Lm ht).length p (powR (Lm ht).length p (lessM (pickM 0 (tabM ht r 1 0) (tabM ht r 0 1)) 0 p) i) (powR (Lm ht).length p (lessM (pickM 1 (tabM ht r 1 0) (tabM ht r 0 1)) 0 p) j)) = trM (Lm ht).length p (mulIt (Lm ht).length p (tabM ht r 1 0) (powR (Lm ht).length p (tabM ht r 0 1) j) i) :=
    trM_congr ((mulM_congr (powM_congr eX i) (powM_congr eY j)).tr (mulIt_mul hp2 (bd_pow hp2 j) i).sy)
  refine ⟨h3, ?_, (a2.mono (by omega) (by omega)).tr ((ex12.mono (by omega) (by omega)).tr (ex23.mono (by omega) (by omega))), c5⟩
  unfold FX6_traceOfPowers
  rw [o1, gx_bs, a1, gx_bs, r1, gx_bs, o2, gx_bs, n0, b1, gx_bs, r2, gx_bs, o3, gx_bs, n1, c1, gx_bs, r3, gx_bs, r4, gx_bs, r5, gx_bs, g3, gx_bs, b4'.ob, gx_bs, h_trace z1212 z1212 b4' c4 l.2.1 (by omega) hp (bd_pow hp2 i) (bd_pow hp2 j), gx_bs, etr]
end
