/-! the class: the zeros are found -/
theorem bH.o4 {h : jx_H} {q : Nat} {S : MS} (H : bH pK h q S) : isO h q 4 = some () := isO_ob H.1
theorem bH.o5 {h : jx_H} {q : Nat} {S : MS} (H : bH sK h q S) : isO h q 5 = some () := isO_ob H.1
theorem zP_none {Z : Nat → Nat → Bool} {p a : Nat} : ∀ b, (∀ c, c < b → Z a c = false) → zP Z p a b = zP Z p a 0
  | 0, _ => rfl
  | b + 1, h => by
    rw [zP_b, h b (by omega), zP_none b fun c hc => h c (by omega)]
    simp
theorem zP_mono {Z : Nat → Nat → Bool} {p a : Nat} {b : Nat} : ∀ c, b ≤ c → (zP Z p a b).length ≤ (zP Z p a c).length
  | 0, h => by rw [show b = 0 by omega]; exact Nat.le_refl _
  | c + 1, h => by
    by_cases e : b = c + 1
    · rw [e]; exact Nat.le_refl _
    · have := zP_mono (Z := Z) (p := p) (a := a) c (show b ≤ c by omega)
      rw [zP_b, List.length_append]
      omega
theorem zP_le {Z : Nat → Nat → Bool} {p : Nat} : ∀ d a, a + d = p → (zP Z p a 0).length ≤ (zAll Z p).length
  | 0, a, h => by rw [show a = p by omega]; exact Nat.le_refl _
  | d + 1, a, h => by
    have h1 := zP_le (Z := Z) (p := p) d (a + 1) (by omega)
    have h2 := zP_mono (Z := Z) (p := p) (a := a) p (Nat.zero_le p)
    rw [zP_a] at h1
    omega
theorem zP_all {Z : Nat → Nat → Bool} {p a b : Nat} (ha : a < p) (hb : b ≤ p) : (zP Z p a b).length ≤ (zAll Z p).length := by
  have h1 := zP_le (Z := Z) (p := p) (p - (a + 1)) (a + 1) (by omega)
  have h2 := zP_mono (Z := Z) (p := p) (a := a) p hb
  rw [zP_a] at h1
  omega
theorem zero_eig {ht : Nat → Nat} {r : Nat → Nat → Nat} {p a b : Nat} (w : wfh ht) (hp2 : 2 ≤ p) (hz : zF ht r p a b = true) : lEig (Lm ht).length p (pickM 0 (tabM ht r 1 0) (tabM ht r 0 1)) a (evV ht p a b) ∧ lEig (Lm ht).length p (pickM 1 (tabM ht r 1 0) (tabM ht r 0 1)) b (evV ht p a b) := by
  refine ⟨⟨evV_0 w hp2, fun k hk => ?_⟩, ⟨evV_0 w hp2, fun k hk => ?_⟩⟩
  · have := eig (r := r) w (by omega) hz (Or.inl ⟨rfl, rfl⟩) hk
    rw [if_pos rfl] at this
    exact this
  · have := eig (r := r) w (by omega) hz (Or.inr ⟨rfl, rfl⟩) hk
    rw [if_neg (by decide)] at this
    exact this
section
variable {h : jx_H} {z st t sp p : Nat} {S P : MS} {ht : Nat → Nat} {r : Nat → Nat → Nat} {pts : List (Nat × Nat)} {kz ds : Int32}
/-- a step of the search: what it may change -/
def zch (h h' : jx_H) (z sp : Nat) : Prop := h'.1 = h.1 ∧ ∀ x, (x < sp ∨ sp + 2 < x) → x ≠ z → x ≠ z + 3 → x ≠ z + 4 → h'.2 x = h.2 x
theorem zch.rf : zch h h z sp := ⟨rfl, fun _ _ _ _ _ => rfl⟩
theorem zch.tr {h1 h2 : jx_H} (a : zch h h1 z sp) (b : zch h1 h2 z sp) : zch h h2 z sp := ⟨b.1.trans a.1, fun x q1 q2 q3 q4 => (b.2 x q1 q2 q3 q4).trans (a.2 x q1 q2 q3 q4)⟩
/-- what has been found -/
def zfd (h : jx_H) (z st t sp : Nat) (kz ds : Int32) (L : List (Nat × Nat)) : Prop := ZO h z st t sp kz (nI L.length) ds ∧ (∃ P, bH pK h sp P) ∧ ∃ za zb, h.2 (z + 3) = some (ar 12 za) ∧ h.2 (z + 4) = some (ar 12 zb) ∧ row2 za zb L
theorem h_try (HS : bH sK h st S) (R : ST S p ht r pts) (w : wfh ht) (hp2 : 2 ≤ p) (hp' : p < 1000) (hr : ∀ b k, b < (Lb ht).length → k < (Lm ht).length → r b k < p) (o1 : st + 8 < sp) (o2 : sp + 2 < t) (o3 : t + 32 < z) {L : List (Nat × Nat)} (F : zfd h z st t sp kz ds L) {a b : Nat} (ha : a < p) (hb : b < p) (hL : zF ht r p a b = true → L.length < 12) (hL2 : L.length ≤ 12) :
    ∃ h', FX8_tryPoint z (nI a) (nI b) h = some h' ∧ zch h h' z sp ∧ zfd h' z st t sp kz ds (L ++ (if zF ht r p a b then [(a, b)] else [])) := by
  obtain ⟨Z, ⟨P, HP⟩, za, zb, e3, e4, rw2⟩ := F
  obtain ⟨P1, m1', m2, m3, m4⟩ := s_moveTo (S := P) hp2 hp' ha hb
  have mv : FX4_moveTo sp (nI a) (nI b) (nI p) h = some (bput pK h sp P1) := by rw [HP.run (F := FX4_moveTo sp (nI a) (nI b) (nI p)) eFX4_moveTo, m1', gx_ms]
  have gp : hgi h st 5 0 = some (nI p) := by rw [← R.1]; exact hgi_ob HS.1 rfl
  have x1 : exc h (bput pK h sp P1) sp (sp + 2) := exc.bput
  have HP1 : bH pK (bput pK h sp P1) sp P1 := bH.put
  generalize bput pK h sp P1 = h1 at mv x1 HP1
  have Z1 : ZO h1 z st t sp kz (nI L.length) ds := by show _ = _; rw [x1.2 z (by omega)]; exact Z
  have S1 : bH sK h1 st S := HS.ex x1 (by show st + 8 < sp ∨ sp + 2 < st; omega)
  have e31 : h1.2 (z + 3) = some (ar 12 za) := by rw [x1.2 (z + 3) (by omega)]; exact e3
  have e41 : h1.2 (z + 4) = some (ar 12 zb) := by rw [x1.2 (z + 4) (by omega)]; exact e4
  have iz := h_isZeroOf HP1 S1 R w hp2 hp' hr m2 m3 m4
  have c1 : zch h h1 z sp := ⟨x1.1, fun x q1 _ _ _ => x1.2 x q1⟩
  have fd : hgi h1 z 8 13 = some (nI L.length) := hgi_ob Z1 rfl
  have hd : FX8_tryPoint z (nI a) (nI b) h = if (12 : Int32) ≤ nI L.length then some h1 else (hgr h1 z 8 2).bind fun x7 => (hgr h1 z 8 0).bind fun x8 => (isO h1 x7 4).bind fun _ => (FX4_isZeroOf x7 x8 h1).bind fun x10 => if x10 = 0 then some h1 else (hgr h1 z 8 5).bind fun x11 => (hgi h1 z 8 13).bind fun x12 => (has h1 .int x11 x12 (nI a)).bind fun h13 => (hgr h13 z 8 6).bind fun x14 => (hgi h13 z 8 13).bind fun x15 => (has h13 .int x14 x15 (nI b)).bind fun h16 => (hgi h16 z 8 13).bind fun x17 => (hp h16 z 8 13 (.int (x17 + (1 : Int32)))).bind fun h18 => some h18 := by
    unfold FX8_tryPoint
    rw [hgr_ob (x := sp) Z rfl, gx_bs, hgr_ob (x := st) Z rfl, gx_bs, gp, gx_bs, HP.o4, gx_bs, mv, gx_bs, fd, gx_bs]
  rw [hd]
  by_cases h12 : 12 ≤ L.length
  · rw [if_pos (by rw [n12, nI_leN (by omega) (by omega)]; exact h12)]
    have hzf : zF ht r p a b = false := by
      cases hz : zF ht r p a b
      · rfl
      · have := hL hz; omega
    rw [hzf]
    refine ⟨h1, rfl, c1, ?_, ⟨P1, HP1⟩, za, zb, e31, e41, ?_⟩
    · rw [if_neg (by decide), List.append_nil]; exact Z1
    · rw [if_neg (by decide), List.append_nil]; exact rw2
  · rw [if_neg (by rw [n12, nI_leN (by omega) (by omega)]; exact h12), hgr_ob (x := sp) Z1 rfl, gx_bs, hgr_ob (x := st) Z1 rfl, gx_bs, HP1.o4, gx_bs, iz, gx_bs]
    show ∃ h', (if bI (zF ht r p a b) = 0 then _ else _) = some h' ∧ _
    rw [n0]
    cases hz : zF ht r p a b with
    | false =>
      rw [if_pos bI_f]
      refine ⟨h1, rfl, c1, ?_, ⟨P1, HP1⟩, za, zb, e31, e41, ?_⟩
      · rw [if_neg (by decide), List.append_nil]; exact Z1
      · rw [if_neg (by decide), List.append_nil]; exact rw2
    | true =>
      rw [if_neg (by rw [bI_0]; decide), hgr_ob (x := z + 3) Z1 rfl, gx_bs, fd, gx_bs, has_ar e31 (by omega) (by omega), gx_bs]
      have Z2 : ZO ((h1.1, jx_up h1.2 (z + 3) (ar 12 (upd za L.length (nI a)))) : jx_H) z st t sp kz (nI L.length) ds := by show jx_up h1.2 (z + 3) _ z = _; rw [up_o (by omega)]; exact Z1
      have e42 : ((h1.1, jx_up h1.2 (z + 3) (ar 12 (upd za L.length (nI a)))) : jx_H).2 (z + 4) = some (ar 12 zb) := by show jx_up h1.2 (z + 3) _ (z + 4) = _; rw [up_o (by omega)]; exact e41
      rw [hgr_ob (x := z + 4) Z2 rfl, gx_bs, hgi_ob Z2 rfl, gx_bs, has_ar e42 (by omega) (by omega), gx_bs]
      have Z3 : ZO ((h1.1, jx_up (jx_up h1.2 (z + 3) (ar 12 (upd za L.length (nI a)))) (z + 4) (ar 12 (upd zb L.length (nI b)))) : jx_H) z st t sp kz (nI L.length) ds := by show jx_up (jx_up h1.2 (z + 3) _) (z + 4) _ z = _; rw [up_o (by omega)]; exact Z2
      rw [hgi_ob Z3 rfl, gx_bs, hp_ob Z3 (Nat.le_of_ble_eq_true rfl), gx_bs, n1, nI_add]
      refine ⟨_, rfl, c1.tr ⟨rfl, fun x q1 q2 q3 q4 => ?_⟩, ?_, ⟨P1, HP1.same fun x q1 q2 => ?_⟩, upd za L.length (nI a), upd zb L.length (nI b), ?_, ?_, ?_⟩
      · show jx_up (jx_up (jx_up h1.2 (z + 3) _) (z + 4) _) z _ x = _
        rw [up_o q2, up_o q4, up_o q3]
      · show jx_up (jx_up (jx_up h1.2 (z + 3) _) (z + 4) _) z _ z = _
        rw [up_s, if_pos rfl, List.length_append]
        rfl
      · have q2 : x ≤ sp + 2 := q2
        show jx_up (jx_up (jx_up h1.2 (z + 3) _) (z + 4) _) z _ x = _
        rw [up_o (by omega), up_o (by omega), up_o (by omega)]
      · show jx_up (jx_up (jx_up h1.2 (z + 3) _) (z + 4) _) z _ (z + 3) = _
        rw [up_o (by omega), up_o (by omega), up_s]
      · show jx_up (jx_up (jx_up h1.2 (z + 3) _) (z + 4) _) z _ (z + 4) = _
        rw [up_o (by omega), up_s]
      · rw [if_pos rfl]
        exact rw2.snoc a b
end
