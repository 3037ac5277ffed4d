/-! the class: the normal form of a monomial -/
section
variable {h : jx_H} {t st n p : Nat} {X Y : Nat → Nat → Nat} {S : MS}
/-- two rows of twelve numbers change, nothing else -/
def two (h h' : jx_H) (a b : Nat) : Prop := h'.1 = h.1 ∧ ∀ x, x ≠ a → x ≠ b → h'.2 x = h.2 x
theorem two.tr {h h1 h2 : jx_H} {a b : Nat} (e : two h h1 a b) (f : two h1 h2 a b) : two h h2 a b := ⟨f.1.trans e.1, fun x x1 x2 => (f.2 x x1 x2).trans (e.2 x x1 x2)⟩
theorem HM.two {h h' : jx_H} {q H W R C a b : Nat} {A : Nat → Nat → Nat} (M : HM h q H W R C A) (e : two h h' a b) (d : a < q ∨ q + 2 < a) (d2 : b < q ∨ q + 2 < b) : HM h' q H W R C A := by
  obtain ⟨U, u1, u2⟩ := M
  exact ⟨U, ⟨by rw [e.2 q (by omega) (by omega)]; exact u1.1, fun j hj => by
    have hj : 1 ≤ j ∧ j ≤ 2 := hj
    rw [e.2 (q + j) (by omega) (by omega)]; exact u1.2 j hj⟩, u2⟩
theorem bH.two {h h' : jx_H} {K : BK} {q a b : Nat} {S : MS} (M : bH K h q S) (e : two h h' a b) (d : a < q ∨ q + K.2.2.2.2 < a) (d2 : b < q ∨ q + K.2.2.2.2 < b) : bH K h' q S := ⟨by rw [e.2 q (by omega) (by omega)]; exact M.1, fun j hj => by rw [e.2 (q + j) (by omega) (by omega)]; exact M.2 j hj⟩
/-- one application of a table, as the Tables object makes it -/
theorem h_apply1 {kn df cc cr : Int32} {q c : Nat} {A : Nat → Nat → Nat} {f g : Nat → Int32} {v : Nat → Nat} (T0 : TO h t st kn df cc cr) (M : HM h q 12 12 n n A) (HS : bH sK h st S) (hP : S.1 0 = nI p) (dst : st + 8 < t) (ec : h.2 c = some (ar 12 f)) (es : h.2 (t + 29) = some (ar 12 g)) (dc : t + 32 < c) (dq : t < q ∧ q + 2 < t + 29) (hn : n ≤ 12) (h0 : 0 < p) (hp : p < 1000) (hA : bdM A n n p) (hf : VL f n v) (hv : bdV v n p) :
    ∃ h' f' g', FX2_applyTo q c (t + 29) (nI p) h = some h' ∧ two h h' c (t + 29) ∧ h'.2 c = some (ar 12 f') ∧ h'.2 (t + 29) = some (ar 12 g') ∧ VL f' n (mulV n p A v) ∧ (∀ k, n ≤ k → f' k = f k) := by
  obtain ⟨h', f', g', e1, e2, e3, e4, e5, e6, e7⟩ := h_applyTo z1212 M ec es (by omega) (by omega) (by omega) hn h0 hp hA hf hv
  exact ⟨h', f', g', e1, ⟨e2, e3⟩, e4, e5, e6, e7⟩
theorem h_normal (T : TP h t st n p X Y) (HS : bH sK h st S) (hP : S.1 0 = nI p) (dst : st + 8 < t) (hn : 0 < n) (hn2 : n ≤ 12) (hp2 : 2 ≤ p) (hp : p < 1000) (hX : bdM X n n p) (hY : bdM Y n n p) {i j c : Nat} {f g : Nat → Int32} (ec : h.2 c = some (ar 12 f)) (es : h.2 (t + 29) = some (ar 12 g)) (dc : t + 32 < c ∨ c = t + 28) (hi : i < 1000) (hj : j < 1000) :
    ∃ h' f' g', FX6_normalFormOfMonomial t (nI i) (nI j) c h = some h' ∧ two h h' c (t + 29) ∧ h'.2 c = some (ar 12 f') ∧ h'.2 (t + 29) = some (ar 12 g') ∧ VL f' n (norV n p X Y i j) ∧ ∀ k, n ≤ k → k < 12 → f' k = nI (e0V k) := by
  obtain ⟨cc, cr, T0, -, ⟨k1, k2, -, -⟩, -⟩ := T
  obtain ⟨f1, a1, a2⟩ := h_fill (v := nI 0) ec (by omega)
  have e1 : ((h.1, jx_up h.2 c (ar 12 f1)) : jx_H).2 c = some (ar 12 f1) := up_s
  -- what stays while only the two rows change
  have oT : ∀ {hh : jx_H}, two h hh c (t + 29) → TO hh t st (nI 1) (nI (difN n (mulM n p X Y) (mulM n p Y X))) cc cr := fun e => by show _ = _; rw [e.2 t (by omega) (by omega)]; exact T0
  have oS : ∀ {hh : jx_H}, two h hh c (t + 29) → hgi hh st 5 0 = some (nI p) := fun e => by rw [← hP]; exact hgi_ob (HS.two e (by show c < st ∨ st + 8 < c; omega) (by show t + 29 < st ∨ st + 8 < t + 29; omega)).1 rfl
  have oX : ∀ {hh : jx_H}, two h hh c (t + 29) → HM hh (t + 1) 12 12 n n X := fun e => k1.two e (by omega) (by omega)
  have oY : ∀ {hh : jx_H}, two h hh c (t + 29) → HM hh (t + 4) 12 12 n n Y := fun e => k2.two e (by omega) (by omega)
  have bv := fun e (v : Nat → Nat) (A : Nat → Nat → Nat) (hv : bdV v n p) => bd_itV (n := n) (p := p) (A := A) (v := v) (by omega) hv e
  have run : ∀ (hh : jx_H) (u w : Nat → Int32), two h hh c (t + 29) → hh.2 c = some (ar 12 u) → hh.2 (t + 29) = some (ar 12 w) → (∀ k, k < 12 → u k = nI (e0V k)) → ∃ h' f' g', BX6_normalFormOfMonomial_14 t (nI i) (nI j) c hh = some h' ∧ two h h' c (t + 29) ∧ h'.2 c = some (ar 12 f') ∧ h'.2 (t + 29) = some (ar 12 g') ∧ VL f' n (norV n p X Y i j) ∧ ∀ k, n ≤ k → k < 12 → f' k = nI (e0V k) := by
    intro hh u w b1 b2 b3 b4
    unfold BX6_normalFormOfMonomial_14
    rw [n0]
    have outer : ∃ x, itr (fun s : Int32 × jx_H => LX6_normalFormOfMonomial_17 t (nI i) (nI j) c s.1 s.2) (nI 0, hh) = some x ∧ ∃ f' g', two h x c (t + 29) ∧ x.2 c = some (ar 12 f') ∧ x.2 (t + 29) = some (ar 12 g') ∧ VL f' n (norV n p X Y i j) ∧ ∀ k, n ≤ k → k < 12 → f' k = nI (e0V k) := by
      refine itr_run j (fun k s => ∃ hh u w, s = (nI k, hh) ∧ two h hh c (t + 29) ∧ hh.2 c = some (ar 12 u) ∧ hh.2 (t + 29) = some (ar 12 w) ∧ VL u n (itV n p Y e0V k) ∧ ∀ q, n ≤ q → q < 12 → u q = nI (e0V q)) ⟨hh, u, w, rfl, b1, b2, b3, fun q hq => b4 q (by omega), fun q _ hq => b4 q hq⟩ ?_ ?_
      · rintro k s hk ⟨hh, u, w, rfl, b1, b2, b3, b4, b5⟩
        left
        obtain ⟨h', f', g', e1, e3, e4, e5, e6, e7⟩ := h_applyTo z1212 (oY b1) b2 b3 (by omega) (by omega) (by omega) hn2 (by omega) hp hY b4 (bv k e0V Y (bd_e0 hp2))
        unfold LX6_normalFormOfMonomial_17
        dsimp only
        rw [if_neg (by rw [nI_leN (by omega) (by omega)]; omega), hgr_ob (x := t + 4) (oT b1) rfl, gx_bs, hgr_ob (x := t + 29) (oT b1) rfl, gx_bs, hgr_ob (x := st) (oT b1) rfl, gx_bs, oS b1, gx_bs, (oY b1).ob, gx_bs, e1, gx_bs, n1, nI_add]
        exact ⟨_, rfl, h', f', g', rfl, b1.tr ⟨e3, e4⟩, e5, e6, e7.1, fun q hq hq2 => by rw [e7.2 q hq]; exact b5 q hq hq2⟩
      · rintro s ⟨hh, u, w, rfl, b1, b2, b3, b4, b5⟩
        have inner : ∃ x, itr (fun s : Int32 × jx_H => LX6_normalFormOfMonomial_51 t (nI i) c s.1 s.2) (nI 0, hh) = some x ∧ ∃ f' g', two h x c (t + 29) ∧ x.2 c = some (ar 12 f') ∧ x.2 (t + 29) = some (ar 12 g') ∧ VL f' n (norV n p X Y i j) ∧ ∀ k, n ≤ k → k < 12 → f' k = nI (e0V k) := by
          refine itr_run i (fun k s => ∃ hh u w, s = (nI k, hh) ∧ two h hh c (t + 29) ∧ hh.2 c = some (ar 12 u) ∧ hh.2 (t + 29) = some (ar 12 w) ∧ VL u n (itV n p X (itV n p Y e0V j) k) ∧ ∀ q, n ≤ q → q < 12 → u q = nI (e0V q)) ⟨hh, u, w, rfl, b1, b2, b3, b4, b5⟩ ?_ ?_
          · rintro k s hk ⟨hh, u, w, rfl, b1, b2, b3, b4, b5⟩
            left
            obtain ⟨h', f', g', e1, e3, e4, e5, e6, e7⟩ := h_applyTo z1212 (oX b1) b2 b3 (by omega) (by omega) (by omega) hn2 (by omega) hp hX b4 (bv k _ X (bv j e0V Y (bd_e0 hp2)))
            unfold LX6_normalFormOfMonomial_51
            dsimp only
            rw [if_neg (by rw [nI_leN (by omega) (by omega)]; omega), hgr_ob (x := t + 1) (oT b1) rfl, gx_bs, hgr_ob (x := t + 29) (oT b1) rfl, gx_bs, hgr_ob (x := st) (oT b1) rfl, gx_bs, oS b1, gx_bs, (oX b1).ob, gx_bs, e1, gx_bs, n1, nI_add]
            exact ⟨_, rfl, h', f', g', rfl, b1.tr ⟨e3, e4⟩, e5, e6, e7.1, fun q hq hq2 => by rw [e7.2 q hq]; exact b5 q hq hq2⟩
          · rintro s ⟨hh, u, w, rfl, b1, b2, b3, b4, b5⟩
            unfold LX6_normalFormOfMonomial_51
            dsimp only
            rw [if_pos (by rw [nI_leN (by omega) (by omega)]; omega)]
            exact ⟨_, rfl, u, w, b1, b2, b3, b4, b5⟩
        obtain ⟨x, x1, x2⟩ := inner
        unfold LX6_normalFormOfMonomial_17
        dsimp only
        rw [if_pos (by rw [nI_leN (by omega) (by omega)]; omega), n0, x1]
        exact ⟨x, rfl, x2⟩
    obtain ⟨x, x1, f', g', x2⟩ := outer
    exact ⟨x, f', g', x1, x2⟩
  have t1 : two h ((h.1, jx_up (jx_up h.2 c (ar 12 f1)) c (ar 12 (upd f1 0 (nI 1)))) : jx_H) c (t + 29) := ⟨rfl, fun x x1 _ => by show jx_up (jx_up h.2 c _) c _ x = _; rw [up_o x1, up_o x1]⟩
  obtain ⟨h', f', g', r1, r2⟩ := run _ (upd f1 0 (nI 1)) g t1 up_s (by show jx_up (jx_up h.2 c _) c _ (t + 29) = _; rw [up_o (by omega), up_o (by omega)]; exact es) (fun k hk => by
    unfold e0V
    by_cases hk0 : k = 0
    · rw [hk0, upd_s, if_pos rfl]
    · rw [upd_o hk0, if_neg hk0]; exact a2 k hk)
  refine ⟨h', f', g', ?_, r2⟩
  unfold FX6_normalFormOfMonomial
  rw [n0, a1, gx_bs, hlen_ar e1, gx_bs, if_neg (by rw [nI_leN (by omega) (by omega)]; omega), n1, has_ar e1 (by omega) (by omega), gx_bs]
  exact r1
end
