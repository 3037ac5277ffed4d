/-! the class: the tables of all monomials -/
/-- the matrices that have been made: places, apart from one another -/
def matA (h : jx_H) (lo : Nat) (ft : Nat → Option Nat) : Prop := (∀ j q, j < 12 → ft j = some q → SH h q 12 12 ∧ lo < q ∧ q + 2 < h.1) ∧ ∀ i j q q', i < 12 → j < 12 → i ≠ j → ft i = some q → ft j = some q' → off q q'
/-- one matrix was written, nothing else -/
theorem matA.wr {h h' : jx_H} {lo k q : Nat} {ft : Nat → Option Nat} (M : matA h lo ft) (hk : k < 12) (e : ft k = some q) (x : exc h h' q (q + 2)) (s : SH h' q 12 12) : matA h' lo ft := by
  refine ⟨fun j q' hj hq => ?_, M.2⟩
  by_cases ej : j = k
  · rw [ej, e] at hq
    cases hq
    exact ⟨s, (M.1 k q hk e).2.1, by rw [x.1]; exact (M.1 k q hk e).2.2⟩
  · have o := M.2 j k q' q hj hk ej hq e
    unfold off at o
    exact ⟨(M.1 j q' hj hq).1.ex x (by omega), (M.1 j q' hj hq).2.1, by rw [x.1]; exact (M.1 j q' hj hq).2.2⟩
theorem oc_s {β : Type} {q : Nat} {A : β} {B : Nat → β} : oc (some q) A B = B q := rfl
theorem oc_n {β : Type} {A : β} {B : Nat → β} : oc none A B = A := rfl
section
variable {h : jx_H} {z st t sp p lo : Nat} {S : MS} {ht : Nat → Nat} {r : Nat → Nat → Nat} {pts : List (Nat × Nat)} {kz fd ds : Int32} {ft : Nat → Option Nat}
theorem fnd_m1 {f g : Nat → Int32} {i : Int32} {L : List (Nat × Nat)} (H : row2 f g L) (hs : ∀ k, k < L.length → my L k < 1000) : ∀ n k, k + n ≤ L.length → fnd f g i m1 n k = m1
  | 0, k, _ => rfl
  | n + 1, k, hk => by
    rw [fnd_step, if_neg, fnd_m1 H hs n (k + 1) (by omega)]
    rintro ⟨-, z⟩
    rw [(H k (by omega)).2] at z
    have := hs k (by omega)
    rw [nI_ne_m1 (by omega)] at z
    exact z
/-- one table, from that of a divisor -/
theorem h_mono (T : TP h t st (Lm ht).length p (tabM ht r 1 0) (tabM ht r 0 1)) (HS : bH sK h st S) (R : ST S p ht r pts) (w : wfh ht) (hp2 : 2 ≤ p) (hp : p < 1000) (hr : ∀ b k, b < (Lb ht).length → k < (Lm ht).length → r b k < p) (Z : ZO h z st t sp kz fd ds) (e15 : h.2 (z + 15) = some (qm 12 ft)) (MA : matA h lo ft) (l1 : z + 15 ≤ lo) (l2 : t + 24 ≤ lo) {k q : Nat} (hk : k < (Lm ht).length) (hq : ft k = some q) (hd : ∀ j, j < k → ∃ q', ft j = some q' ∧ HM h q' 12 12 (Lm ht).length (Lm ht).length (monM (Lm ht).length p (tabM ht r 1 0) (tabM ht r 0 1) (mx (Lm ht) j) (my (Lm ht) j))) :
    ∃ h', FX8_makeMonomialTable z q (nI (mx (Lm ht) k)) (nI (my (Lm ht) k)) h = some h' ∧ exc h h' q (q + 2) ∧ HM h' q 12 12 (Lm ht).length (Lm ht).length (monM (Lm ht).length p (tabM ht r 1 0) (tabM ht r 0 1) (mx (Lm ht) k) (my (Lm ht) k)) := by
  have l := Lm_len w
  have bk := Lm_at w hk
  have bX := bd_tab (p := p) (r := r) w (Or.inl ⟨rfl, rfl⟩) hp2 hr
  have bY := bd_tab (p := p) (r := r) w (Or.inr ⟨rfl, rfl⟩) hp2 hr
  have dv := Lm_div w hk
  have mk := (mem_Lm w).mp (Lm_mem hk)
  obtain ⟨sq, lq, -⟩ := MA.1 k q (by omega) hq
  have oS : isO h st 5 = some () := isO_ob HS.1
  have gP : hgi h st 5 0 = some (nI p) := by rw [← R.1]; exact hgi_ob HS.1 rfl
  have gN : hgi h st 5 2 = some (nI (Lm ht).length) := by rw [← R.2.2.1.1]; exact hgi_ob HS.1 rfl
  have num : ∀ i j : Int32, FX5_numberOf st i j h = gFX5_numberOf i j S := fun i j => HS.run (F := FX5_numberOf st i j) eFX5_numberOf
  have oT : isO h t 6 = some () := by obtain ⟨cc, cr, q, -⟩ := id T; exact isO_ob q
  -- with a divisor's table
  have prod : ∀ (v i j : Nat), v ≤ 1 → (i, j) ∈ Lm ht → (Lm ht).idxOf (i, j) < k → ∃ h', BX8_makeMonomialTable_40 z q (nI v) (nI ((Lm ht).idxOf (i, j))) h = some h' ∧ exc h h' q (q + 2) ∧ HM h' q 12 12 (Lm ht).length (Lm ht).length (mulM (Lm ht).length p (pickM v (tabM ht r 1 0) (tabM ht r 0 1)) (monM (Lm ht).length p (tabM ht r 1 0) (tabM ht r 0 1) i j)) := by
    intro v i j hv hm hlt
    obtain ⟨q', f1, f2⟩ := hd _ hlt
    rw [(mx_idx hm).1, (mx_idx hm).2] at f2
    obtain ⟨qv, v1, v2, v3⟩ := T.pick hv
    have o := MA.2 ((Lm ht).idxOf (i, j)) k q' q (by omega) (by omega) (by omega) f1 hq
    obtain ⟨h', p1, p2, p3⟩ := h_product z1212 z1212 z1212 sq v2 f2 (by unfold off; omega) o l.2.1 l.2.1 l.2.1 (by omega) hp (by unfold pickM; split <;> assumption) (bd_mon hp2 i)
    refine ⟨h', ?_, p2, p3⟩
    unfold BX8_makeMonomialTable_40
    rw [n1, nm1, if_neg (by rw [nI_ne_m1 (by omega)]; exact id), hgr_ob (x := z + 15) Z rfl, gx_bs, hql_m e15 (by omega) (by omega), gx_bs, f1]
    rw [oc_s, hgr_ob (x := t) Z rfl, gx_bs, oT, gx_bs, v1, gx_bs, gx_bs, hql_m e15 (by omega) (by omega), gx_bs, f1, hgr_ob (x := st) Z rfl, gx_bs, gP, gx_bs, oc_s]
    rw [sq.ob, gx_bs, p1, gx_bs]
  unfold FX8_makeMonomialTable
  by_cases hi : mx (Lm ht) k = 0
  · rw [if_pos (by rw [n0, nI_leN (by omega) (by omega)]; omega)]
    unfold BX8_makeMonomialTable_9
    rw [if_pos (by rw [n0, nI_leN (by omega) (by omega)]; omega), hgr_ob (x := st) Z rfl, gx_bs, oS, gx_bs, num]
    by_cases hj : my (Lm ht) k = 0
    · obtain ⟨h', i1, i2, i3⟩ := h_identity z1212 sq l.2.1 l.2.1
      have fm : gFX5_numberOf (nI (mx (Lm ht) k)) (nI (my (Lm ht) k) - 1) S = some m1 := by
        rw [hj, n1, nI_0m1, s_fndM R w, fnd_m1 R.2.2.1.2.2.1 (fun k hk => by have := Lm_at w hk; omega) _ 0 (by omega)]
      refine ⟨h', ?_, i2, ?_⟩
      · rw [fm, gx_bs]
        unfold BX8_makeMonomialTable_40 BX8_makeMonomialTable_58
        rw [n1, nm1, if_pos rfl, hgr_ob (x := st) Z rfl, gx_bs, gN, gx_bs, sq.ob, gx_bs, i1, gx_bs]
      · rw [hi, hj]; exact i3
    · have hm : (0, my (Lm ht) k - 1) ∈ Lm ht := (mem_Lm w).mpr (by rw [hi] at mk; omega)
      have hlt := dv.2 (by omega)
      rw [hi] at hlt
      obtain ⟨h', a1, a2, a3⟩ := prod 1 0 (my (Lm ht) k - 1) (by omega) hm hlt
      refine ⟨h', ?_, a2, ?_⟩
      · rw [n1, nI_sub (by omega), s_numberOf R w (by omega) (by omega), gx_bs, ixI_mem (by rw [hi]; exact hm), hi]
        exact a1
      · rw [hi]
        obtain ⟨j, hj'⟩ : ∃ j, my (Lm ht) k = j + 1 := ⟨my (Lm ht) k - 1, by omega⟩
        rw [hj'] at a3 ⊢
        exact a3
  · rw [if_neg (by rw [n0, nI_leN (by omega) (by omega)]; omega)]
    unfold BX8_makeMonomialTable_9
    have hm : (mx (Lm ht) k - 1, my (Lm ht) k) ∈ Lm ht := (mem_Lm w).mpr (by have := w.1 (mx (Lm ht) k - 1); rw [show mx (Lm ht) k - 1 + 1 = mx (Lm ht) k by omega] at this; omega)
    obtain ⟨h', a1, a2, a3⟩ := prod 0 (mx (Lm ht) k - 1) (my (Lm ht) k) (by omega) hm (dv.1 (by omega))
    rw [if_neg (by rw [n0, nI_leN (by omega) (by omega)]; omega), hgr_ob (x := st) Z rfl, gx_bs, oS, gx_bs, num]
    refine ⟨h', ?_, a2, ?_⟩
    · rw [n1, nI_sub (by omega), s_numberOf R w (by omega) (by omega), gx_bs, ixI_mem hm, n0]
      exact a1
    · obtain ⟨j, hj'⟩ : ∃ j, mx (Lm ht) k = j + 1 := ⟨mx (Lm ht) k - 1, by omega⟩
      rw [hj'] at a3 ⊢
      exact a3
end
