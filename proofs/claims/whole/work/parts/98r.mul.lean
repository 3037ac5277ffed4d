/-! the class: how often the zeros count -/
theorem zRk_le {ht : Nat → Nat} {r : Nat → Nat → Nat} {p a b : Nat} (hp : p ∈ prs) : zRk ht r p a b ≤ (Lm ht).length := by
  have pb := prs_b p hp
  exact (red_RD (d := 1) (pv := fun _ => 0) hp (bd_tim (ht := ht) (r := r) (a := a) (b := b) (show 2 ≤ p by omega))).leC
def zMu (ht : Nat → Nat) (r : Nat → Nat → Nat) (p : Nat) (q : Nat × Nat) : Nat := (Lm ht).length - zRk ht r p q.1 q.2
theorem zMu_eq {ht : Nat → Nat} {r : Nat → Nat → Nat} {p : Nat} {q : Nat × Nat} (hp : p ∈ prs) : nI (Lm ht).length - nI (zRk ht r p q.1 q.2) = nI (zMu ht r p q) := nI_sub (zRk_le hp)
section
variable {h : jx_H} {z st t sp p : Nat} {S : MS} {ht : Nat → Nat} {r : Nat → Nat → Nat} {pts : List (Nat × Nat)} {ds : Int32}
/-- what asking for multiplicities may change -/
def mch (h h' : jx_H) (t z : Nat) : Prop := h'.1 = h.1 ∧ ∀ x, (x < t + 13 ∨ t + 24 < x) → x ≠ z + 5 → (x < z + 6 ∨ z + 11 < x) → h'.2 x = h.2 x
theorem mch.rf {t z : Nat} : mch h h t z := ⟨rfl, fun _ _ _ _ => rfl⟩
theorem mch.tr {h1 h2 : jx_H} {t z : Nat} (a : mch h h1 t z) (b : mch h1 h2 t z) : mch h h2 t z := ⟨b.1.trans a.1, fun x q1 q2 q3 => (b.2 x q1 q2 q3).trans (a.2 x q1 q2 q3)⟩
theorem h_mult (T : TP h t st (Lm ht).length p (tabM ht r 1 0) (tabM ht r 0 1)) (HS : bH sK h st S) (R : ST S p ht r pts) (w : wfh ht) (hp : p ∈ prs) (hr : ∀ b k, b < (Lb ht).length → k < (Lm ht).length → r b k < p) (o1 : st + 8 < t) (o3 : t + 32 < z) (Z : ZF h z st t sp ht r p ds) {k : Nat} (hk : k < (zAll (zF ht r p) p).length) :
    ∃ h', FX8_multiplicityOf z (nI k) h = some (nI (zMu ht r p ((zAll (zF ht r p) p).getD k (0, 0))), h') ∧ mch h h' t z ∧ TP h' t st (Lm ht).length p (tabM ht r 1 0) (tabM ht r 0 1) ∧ ZF h' z st t sp ht r p ds := by
  have pb := prs_b p hp
  have l := Lm_len w
  have hl := zAll_le (r := r) w hp
  obtain ⟨za, zb, zm, ⟨ZO0, z1, z2, z3, z4, z5, z6, z9, z12⟩, rw2, zv⟩ := id Z
  have bX := bd_tab (p := p) (r := r) w (Or.inl ⟨rfl, rfl⟩) (by omega) hr
  have bY := bd_tab (p := p) (r := r) w (Or.inr ⟨rfl, rfl⟩) (by omega) hr
  have mem : (zAll (zF ht r p) p).getD k (0, 0) ∈ zAll (zF ht r p) p := by
    rw [List.getD_eq_getElem?_getD, List.getElem?_eq_getElem hk]
    exact List.getElem_mem hk
  have lt := (mem_zAll.mp mem).1
  by_cases hm : zm k = m1
  · obtain ⟨h', a1, a2, a3, a4, a5, a6, a7⟩ := h_multOf T HS R.1 R.2.2.1.1 o1 o3 (by omega) l.2.1 (by omega) (by omega) bX bY ZO0 rfl (by omega) hk z3 z4 z5 z6 z9 (rw2 k hk).1 (rw2 k hk).2 lt.1 lt.2 hm
    have ev : nI (Lm ht).length - nI (redF p (2 * (Lm ht).length) (Lm ht).length (Lm ht).length 0 0 1 (stackM (Lm ht).length (powR (Lm ht).length p (lessM (tabM ht r 1 0) (mx (zAll (zF ht r p) p) k) p) (Lm ht).length) (powR (Lm ht).length p (lessM (tabM ht r 0 1) (my (zAll (zF ht r p) p) k) p) (Lm ht).length)) (fun _ => 0)).1 = nI (zMu ht r p ((zAll (zF ht r p) p).getD k (0, 0))) := zMu_eq (ht := ht) (r := r) (q := (zAll (zF ht r p) p).getD k (0, 0)) hp
    have keepZ : ∀ x, (z ≤ x ∧ x < z + 5) ∨ (z + 12 ≤ x ∧ x ≤ z + 14) → h'.2 x = h.2 x := fun x q => a3 x (by omega) (by omega) (by omega)
    refine ⟨h', by rw [a1, ev], ⟨a2, a3⟩, a4, za, zb, _, ⟨by show _ = _; rw [keepZ z (by omega)]; exact ZO0, by rw [keepZ _ (by omega)]; exact z1, by rw [keepZ _ (by omega)]; exact z2, by rw [keepZ _ (by omega)]; exact z3, by rw [keepZ _ (by omega)]; exact z4, a7, a5, a6, z12.same fun x _ _ => keepZ x (by omega)⟩, rw2, fun j hj => ?_⟩
    by_cases e : j = k
    · rw [e, upd_s]
      exact Or.inr rfl
    · rw [upd_o e]
      exact zv j hj
  · have hv := (zv k hk).resolve_left hm
    have hv2 : zm k = nI (zMu ht r p ((zAll (zF ht r p) p).getD k (0, 0))) := hv.trans (zMu_eq (ht := ht) (r := r) (q := (zAll (zF ht r p) p).getD k (0, 0)) hp)
    have fd : hgi h z 8 13 = some (nI (zAll (zF ht r p) p).length) := hgi_ob ZO0 rfl
    refine ⟨h, ?_, mch.rf, T, Z⟩
    unfold FX8_multiplicityOf BX8_multiplicityOf_128
    rw [fd, gx_bs, n1, nI_sub (by omega), q_isOutside, p_out, outB_in (by omega) (by omega), gx_bs, n0, if_pos bI_f, hgr_ob (x := z + 5) ZO0 rfl, gx_bs, hal_ar z5 (by omega) (by omega), gx_bs, if_neg (by rw [nm1]; exact hm), gx_bs, hal_ar z5 (by omega) (by omega), gx_bs, hv2]
def muS (ht : Nat → Nat) (r : Nat → Nat → Nat) (p : Nat) : Nat := sm (fun k => zMu ht r p ((zAll (zF ht r p) p).getD k (0, 0))) (zAll (zF ht r p) p).length
theorem h_mulLoop (T : TP h t st (Lm ht).length p (tabM ht r 1 0) (tabM ht r 0 1)) (HS : bH sK h st S) (R : ST S p ht r pts) (w : wfh ht) (hp : p ∈ prs) (hr : ∀ b k, b < (Lb ht).length → k < (Lm ht).length → r b k < p) (o1 : st + 8 < t) (o3 : t + 32 < z) (Z : ZF h z st t sp ht r p ds) :
    ∃ h', itr (fun s : Int32 × Int32 × jx_H => LX8_allMultiplicities_8 z s.1 s.2.1 s.2.2) (nI 0, nI 0, h) = some (nI (muS ht r p), h') ∧ mch h h' t z ∧ TP h' t st (Lm ht).length p (tabM ht r 1 0) (tabM ht r 0 1) ∧ ZF h' z st t sp ht r p ds := by
  have l := Lm_len w
  have hl := zAll_le (r := r) w hp
  have key : ∃ x, itr (fun s : Int32 × Int32 × jx_H => LX8_allMultiplicities_8 z s.1 s.2.1 s.2.2) (nI 0, nI 0, h) = some x ∧ ∃ h', x = (nI (muS ht r p), h') ∧ mch h h' t z ∧ TP h' t st (Lm ht).length p (tabM ht r 1 0) (tabM ht r 0 1) ∧ ZF h' z st t sp ht r p ds := by
    refine itr_run (zAll (zF ht r p) p).length (fun k s => ∃ hh, s = (nI (sm (fun k => zMu ht r p ((zAll (zF ht r p) p).getD k (0, 0))) k), nI k, hh) ∧ mch h hh t z ∧ TP hh t st (Lm ht).length p (tabM ht r 1 0) (tabM ht r 0 1) ∧ ZF hh z st t sp ht r p ds) ⟨h, rfl, mch.rf, T, Z⟩ ?_ ?_
    · rintro k s hk ⟨hh, rfl, c, T1, Z1⟩
      left
      have S1 : bH sK hh st S := HS.same fun x q1 q2 => by have q2 : x ≤ st + 8 := q2; exact c.2 x (by omega) (by omega) (by omega)
      obtain ⟨h2, a1, a2, a3, a4⟩ := h_mult T1 S1 R w hp hr o1 o3 Z1 hk
      obtain ⟨za, zb, zm, ⟨ZO0, -⟩, -⟩ := id Z1
      unfold LX8_allMultiplicities_8
      dsimp only
      rw [hgi_ob ZO0 rfl, gx_bs, if_neg (by rw [nI_leN (by omega) (by omega)]; omega), isO_ob ZO0, gx_bs, a1, b2s, nI_add, n1, nI_add]
      exact ⟨_, rfl, h2, rfl, c.tr a2, a3, a4⟩
    · rintro s ⟨hh, rfl, c, T1, Z1⟩
      obtain ⟨za, zb, zm, ⟨ZO0, -⟩, -⟩ := id Z1
      unfold LX8_allMultiplicities_8
      dsimp only
      rw [hgi_ob ZO0 rfl, gx_bs, if_pos (by rw [nI_leN (by omega) (by omega)]; omega)]
      exact ⟨_, rfl, hh, rfl, c, T1, Z1⟩
  obtain ⟨x, x1, h', rfl, x2⟩ := key
  exact ⟨h', x1, x2⟩
/-- the place of a point among the zeros -/
theorem h_indexLoop (Z : ZF h z st t sp ht r p ds) (w : wfh ht) (hp : p ∈ prs) {a b : Nat} (ha : a < p) (hb : b < p) : itr (fun s : Int32 => LX8_indexOf_6 z (nI a) (nI b) s h) (nI 0) = some (ixI (zAll (zF ht r p) p) (a, b), h) := by
  have pb := prs_b p hp
  have l := Lm_len w
  have hl := zAll_le (r := r) w hp
  obtain ⟨za, zb, zm, ⟨ZO0, z1, z2, z3, z4, z5, z6, z9, z12⟩, rw2, zv⟩ := id Z
  have nd : (zAll (zF ht r p) p).Nodup := zP_nd p 0
  generalize hL : zAll (zF ht r p) p = L at *
  have lt : ∀ k, k < L.length → mx L k < p ∧ my L k < p := by
    intro k hk
    have mem : L.getD k (0, 0) ∈ L := by
      rw [List.getD_eq_getElem?_getD, List.getElem?_eq_getElem hk]
      exact List.getElem_mem hk
    rw [← hL] at mem
    have := (mem_zAll.mp mem).1
    rw [hL] at this
    exact this
  refine itr_val L.length (fun k s => s = nI k ∧ ∀ j, j < k → L.getD j (0, 0) ≠ (a, b)) ⟨rfl, fun j hj => by omega⟩ ?_ ?_
  · rintro k s hk ⟨rfl, e⟩
    have r2 := rw2 k hk
    have lk := lt k hk
    unfold LX8_indexOf_6 BX8_indexOf_36
    rw [hgi_ob ZO0 rfl, gx_bs, if_neg (by rw [nI_leN (by omega) (by omega)]; omega), hgr_ob (x := z + 3) ZO0 rfl, gx_bs, hal_ar z3 (by omega) (by omega), gx_bs, r2.1]
    by_cases h1 : mx L k = a
    · rw [if_pos (by rw [h1]), hgr_ob (x := z + 4) ZO0 rfl, gx_bs, hal_ar z4 (by omega) (by omega), gx_bs, r2.2]
      by_cases h2 : my L k = b
      · right
        rw [if_pos (by rw [h2])]
        have hk' : L.getD k (0, 0) = (a, b) := Prod.ext h1 h2
        have mem : (a, b) ∈ L := by
          rw [← hk', List.getD_eq_getElem?_getD, List.getElem?_eq_getElem hk]
          exact List.getElem_mem hk
        have ix : L.idxOf (a, b) = k := by
          rw [← hk', List.getD_eq_getElem?_getD, List.getElem?_eq_getElem hk]
          exact List.Nodup.idxOf_getElem nd k hk
        unfold ixI
        rw [if_pos mem, ix]
        rfl
      · left
        rw [if_neg (by rw [nI_eqN (by omega) (by omega)]; exact h2), n1, nI_add]
        refine ⟨_, rfl, rfl, fun j hj => ?_⟩
        by_cases ej : j = k
        · rw [ej]; intro z; exact h2 (congrArg Prod.snd z)
        · exact e j (by omega)
    · left
      rw [if_neg (by rw [nI_eqN (by omega) (by omega)]; exact h1), n1, nI_add]
      refine ⟨_, rfl, rfl, fun j hj => ?_⟩
      by_cases ej : j = k
      · rw [ej]; intro z; exact h1 (congrArg Prod.fst z)
      · exact e j (by omega)
  · rintro s ⟨rfl, e⟩
    have nm : (a, b) ∉ L := fun z => e _ (idx_lt z) (getD_idx z)
    unfold LX8_indexOf_6
    rw [hgi_ob ZO0 rfl, gx_bs, if_pos (by rw [nI_leN (by omega) (by omega)]; omega), n1, nm1]
    unfold ixI
    rw [if_neg nm]
    rfl
end
