/-! the class: the numbers that a coordinate of a zero can be -/
def bo (N : Nat) (g : Nat → Int32) : jx_E := .inl (.boolean, N, .inl g)
theorem hal_bo {h : jx_H} {a N k : Nat} {g : Nat → Int32} (e : h.2 a = some (bo N g)) (hk : k < N) (hN : N < 2 ^ 31) : hal h .boolean a (nI k) = some (g k) := by
  unfold hal
  rw [e]
  show (if _ ∧ _ then some (g (nI k).toNatClampNeg) else none) = _
  rw [if_pos ⟨rfl, nI_in hk hN⟩, nI_clamp (by omega)]
theorem has_bo {h : jx_H} {a N k : Nat} {g : Nat → Int32} {x : Int32} (e : h.2 a = some (bo N g)) (hk : k < N) (hN : N < 2 ^ 31) : has h .boolean a (nI k) x = some (h.1, jx_up h.2 a (bo N (upd g k x))) := by
  unfold has
  rw [e]
  show (if _ ∧ _ then some (h.1, jx_up h.2 a (.inl (.boolean, N, .inl (upd g (nI k).toNatClampNeg x)))) else none) = _
  rw [if_pos ⟨rfl, nI_in hk hN⟩, nI_clamp (by omega)]
  rfl
theorem hlen_bo {h : jx_H} {a N : Nat} {g : Nat → Int32} (e : h.2 a = some (bo N g)) : hlen h a = some (nI N) := by
  unfold hlen
  rw [e]
  rfl
theorem nar_b (b : Bool) : vp_nar .boolean (bI b) = bI b := by cases b <;> decide +kernel
theorem SH.same {h h' : jx_H} {q H W : Nat} (M : SH h q H W) (e : ∀ x, q ≤ x → x ≤ q + 2 → h'.2 x = h.2 x) : SH h' q H W := by
  obtain ⟨U, u1, u2⟩ := M
  exact ⟨U, ⟨by rw [e q (by omega) (by omega)]; exact u1.1, fun j hj => by
    have hj : 1 ≤ j ∧ j ≤ 2 := hj
    rw [e (q + j) (by omega) (by omega)]; exact u1.2 j hj⟩, u2⟩
theorem TSH.same {h h' : jx_H} {t : Nat} (T : TSH h t) (e : ∀ x, t ≤ x → x ≤ t + 24 → h'.2 x = h.2 x) : TSH h' t := by
  obtain ⟨a, b, c, d, f, g, i, j⟩ := T
  exact ⟨a.same fun x _ _ => e x (by omega) (by omega), b.same fun x _ _ => e x (by omega) (by omega), c.same fun x _ _ => e x (by omega) (by omega), d.same fun x _ _ => e x (by omega) (by omega), f.same fun x _ _ => e x (by omega) (by omega), g.same fun x _ _ => e x (by omega) (by omega), i.same fun x _ _ => e x (by omega) (by omega), j.same fun x _ _ => e x (by omega) (by omega)⟩
theorem TP.same {h h' : jx_H} {t st n p : Nat} {X Y : Nat → Nat → Nat} (T : TP h t st n p X Y) (e : ∀ x, t ≤ x → x ≤ t + 24 → h'.2 x = h.2 x) : TP h' t st n p X Y := by
  obtain ⟨cc, cr, T, s, ⟨a, b, c, d⟩, q⟩ := T
  exact ⟨cc, cr, by show _ = _; rw [e t (by omega) (by omega)]; exact T, s.same e, ⟨a.same fun x _ _ => e x (by omega) (by omega), b.same fun x _ _ => e x (by omega) (by omega), c.same fun x _ _ => e x (by omega) (by omega), d.same fun x _ _ => e x (by omega) (by omega)⟩, q⟩
theorem TI.same {h h' : jx_H} {t st n p : Nat} {X Y : Nat → Nat → Nat} (T : TI h t st n p X Y) (e : ∀ x, t ≤ x → x ≤ t + 24 → h'.2 x = h.2 x) : TI h' t st n p X Y := by
  rcases T with T | ⟨df, cc, cr, T, s⟩
  · exact Or.inl (T.same e)
  · exact Or.inr ⟨df, cc, cr, by show _ = _; rw [e t (by omega) (by omega)]; exact T, s.same e⟩
theorem bH.same {h h' : jx_H} {K : BK} {q : Nat} {S : MS} (H : bH K h q S) (e : ∀ x, q ≤ x → x ≤ q + K.2.2.2.2 → h'.2 x = h.2 x) : bH K h' q S := H.off2 e
theorem h_put {h : jx_H} {q H W R C r c v : Nat} {A : Nat → Nat → Nat} (z : SZ H W) (M : HM h q H W R C A) (hr : r < R) (hc : c < C) : ∃ h', FX2_put q (nI r) (nI c) (nI v) h = some h' ∧ exc h h' q (q + 2) ∧ HM h' q H W R C (up2 A r c v) := by
  obtain ⟨S, h1, h2⟩ := M
  obtain ⟨T, t1, t2, -⟩ := x_put z h2 (v := v) hr hc
  refine ⟨bput (xK H W) h q T, ?_, exc.bput, T, bH.put, t2⟩
  rw [h1.run (F := FX2_put q (nI r) (nI c) (nI v)) eFX2_put, t1, gx_ms]
theorem norV_00 {n p : Nat} {X Y : Nat → Nat → Nat} : norV n p X Y 0 0 = e0V := rfl
/-- a row of values that belongs to a zero -/
def lEig (n p : Nat) (X : Nat → Nat → Nat) (a : Nat) (w : Nat → Nat) : Prop := w 0 = 1 ∧ ∀ k, k < n → sm (fun row => w row * X row k) n % p = a * w k % p
section
variable {h : jx_H} {t st n p : Nat} {X Y : Nat → Nat → Nat} {S : MS}
theorem h_mark (T : TP h t st n p X Y) (HS : bH sK h st S) (hP : S.1 0 = nI p) (hN : S.1 2 = nI n) (dst : st + 8 < t) (hn : 0 < n) (hn2 : n ≤ 12) (hp : p ∈ prs) (hX : bdM X n n p) (hY : bdM Y n n p) (KR : SH h (t + 25) 12 13) {f g rg : Nat → Int32} (ev : h.2 (t + 28) = some (ar 12 f)) (es : h.2 (t + 29) = some (ar 12 g)) {v ra : Nat} (hv : v ≤ 1) (er : h.2 ra = some (bo 97 rg)) (dra : t + 32 < ra) :
    ∃ h' f' g' rg', FX6_markRoots t (nI v) ra h = some h' ∧ h'.1 = h.1 ∧ (∀ x, (x < t + 25 ∨ t + 29 < x) → x ≠ ra → h'.2 x = h.2 x) ∧ SH h' (t + 25) 12 13 ∧ h'.2 (t + 28) = some (ar 12 f') ∧ h'.2 (t + 29) = some (ar 12 g') ∧ h'.2 ra = some (bo 97 rg') ∧ ∀ a, a < p → ∃ b, rg' a = bI b ∧ ((∃ w, lEig n p (pickM v X Y) a w) → b = true) := by
  have pb := prs_b p hp
  have hp1000 : p < 1000 := by omega
  have hp2 : 2 ≤ p := by omega
  obtain ⟨q, q1, q2, q3⟩ := T.pick hv
  obtain ⟨cc, cr, T0, -⟩ := id T
  have hZ : bdM (pickM v X Y) n n p := by unfold pickM; split <;> assumption
  generalize pickM v X Y = Z at q2 hZ
  -- what stays
  have gN : ∀ {hh : jx_H}, (∀ x, (x < t + 25 ∨ t + 29 < x) → x ≠ ra → hh.2 x = h.2 x) → hgi hh st 5 2 = some (nI n) := fun e => by
    rw [← hN]
    exact hgi_ob (HS.same fun x x1 x2 => by have x2 : x ≤ st + 8 := x2; exact e x (by omega) (by omega)).1 rfl
  have gP : ∀ {hh : jx_H}, (∀ x, (x < t + 25 ∨ t + 29 < x) → x ≠ ra → hh.2 x = h.2 x) → hgi hh st 5 0 = some (nI p) := fun e => by
    rw [← hP]
    exact hgi_ob (HS.same fun x x1 x2 => by have x2 : x ≤ st + 8 := x2; exact e x (by omega) (by omega)).1 rfl
  have oT : ∀ {hh : jx_H}, (∀ x, (x < t + 25 ∨ t + 29 < x) → x ≠ ra → hh.2 x = h.2 x) → TO hh t st (nI 1) (nI (difN n (mulM n p X Y) (mulM n p Y X))) cc cr := fun e => by show _ = _; rw [e t (by omega) (by omega)]; exact T0
  have oq : ∀ {hh : jx_H}, (∀ x, (x < t + 25 ∨ t + 29 < x) → x ≠ ra → hh.2 x = h.2 x) → HM hh q 12 12 n n Z := fun e => q2.same fun x x1 x2 => e x (by omega) (by omega)
  -- the columns cleared
  obtain ⟨U, u1, u2⟩ := h_clear z1213 KR (R' := n) (C' := n + 1) hn2 (by omega)
  have x1 : exc h (bput (xK 12 13) h (t + 25) U) (t + 25) (t + 27) := exc.bput
  have M1 : HM (bput (xK 12 13) h (t + 25) U) (t + 25) 12 13 n (n + 1) (fun _ _ => 0) := ⟨U, bH.put, u2⟩
  generalize bput (xK 12 13) h (t + 25) U = h1 at u1 x1 M1
  have s1 : ∀ x, (x < t + 25 ∨ t + 29 < x) → x ≠ ra → h1.2 x = h.2 x := fun x z _ => x1.2 x (by omega)
  obtain ⟨h2, f2, g2, a1, a2, a3, a4, a5, -⟩ := h_normal (T.same fun x x1' x2' => s1 x (by omega) (by omega)) (HS.same fun x x1' x2' => by have x2' : x ≤ st + 8 := x2'; exact s1 x (by omega) (by omega)) hP dst hn hn2 hp2 hp1000 hX hY (i := 0) (j := 0) (c := t + 28) (by rw [x1.2 (t + 28) (by omega)]; exact ev) (by rw [x1.2 (t + 29) (by omega)]; exact es) (Or.inr rfl) (by omega) (by omega)
  rw [norV_00] at a5
  have s2 : ∀ x, (x < t + 25 ∨ t + 29 < x) → x ≠ ra → h2.2 x = h.2 x := fun x z z2 => by rw [a2.2 x (by omega) (by omega), s1 x z z2]
  have M2 : HM h2 (t + 25) 12 13 n (n + 1) (fun _ _ => 0) := M1.two a2 (by omega) (by omega)
  have er2 : h2.2 ra = some (bo 97 rg) := by rw [a2.2 ra (by omega) (by omega), x1.2 ra (by omega)]; exact er
  have bZ : ∀ e, bdV (itV n p Z e0V e) n p := bd_itV (by omega) (bd_e0 hp2)
  -- the outer loop
  have loop : ∃ x, itr (fun s : Int32 × jx_H => LX6_markRoots_42 t ra q s.1 s.2) (nI 0, h2) = some x ∧ ∃ f' g' rg', x.1 = h.1 ∧ (∀ y, (y < t + 25 ∨ t + 29 < y) → y ≠ ra → x.2 y = h.2 y) ∧ SH x (t + 25) 12 13 ∧ x.2 (t + 28) = some (ar 12 f') ∧ x.2 (t + 29) = some (ar 12 g') ∧ x.2 ra = some (bo 97 rg') ∧ ∀ a, a < p → ∃ b, rg' a = bI b ∧ ((∃ w, lEig n p Z a w) → b = true) := by
    refine itr_run (n + 1) (fun k s => ∃ hh A f' g', s = (nI k, hh) ∧ hh.1 = h.1 ∧ (∀ x, (x < t + 25 ∨ t + 29 < x) → x ≠ ra → hh.2 x = h.2 x) ∧ hh.2 ra = some (bo 97 rg) ∧ HM hh (t + 25) 12 13 n (n + 1) A ∧ hh.2 (t + 28) = some (ar 12 f') ∧ hh.2 (t + 29) = some (ar 12 g') ∧ VL f' n (itV n p Z e0V k) ∧ ∀ r c, r < n → c < k → A r c = itV n p Z e0V c r) ⟨h2, _, f2, g2, rfl, by rw [a2.1, x1.1], s2, er2, M2, a3, a4, a5, fun r c _ hc => by omega⟩ ?_ ?_
    · rintro k s hk ⟨hh, A, f', g', rfl, b0, b1, b2, b3, b4, b5, b6, b7⟩
      left
      have inner : ∃ x, itr (fun s : Int32 × jx_H => LX6_markRoots_57 t ra q (nI k) s.1 s.2) (nI 0, hh) = some x ∧ ∃ h3 A3 f3 g3, x = .inl (nI (k + 1), h3) ∧ h3.1 = h.1 ∧ (∀ x, (x < t + 25 ∨ t + 29 < x) → x ≠ ra → h3.2 x = h.2 x) ∧ h3.2 ra = some (bo 97 rg) ∧ HM h3 (t + 25) 12 13 n (n + 1) A3 ∧ h3.2 (t + 28) = some (ar 12 f3) ∧ h3.2 (t + 29) = some (ar 12 g3) ∧ VL f3 n (itV n p Z e0V (k + 1)) ∧ ∀ r c, r < n → c < k + 1 → A3 r c = itV n p Z e0V c r := by
        refine itr_run n (fun j s => ∃ h3 A3, s = (nI j, h3) ∧ h3.1 = h.1 ∧ (∀ x, (x < t + 25 ∨ t + 29 < x) → x ≠ ra → h3.2 x = h.2 x) ∧ h3.2 ra = some (bo 97 rg) ∧ HM h3 (t + 25) 12 13 n (n + 1) A3 ∧ h3.2 (t + 28) = some (ar 12 f') ∧ h3.2 (t + 29) = some (ar 12 g') ∧ ∀ r c, r < n → (c < k ∨ (c = k ∧ r < j)) → A3 r c = itV n p Z e0V c r) ⟨hh, A, rfl, b0, b1, b2, b3, b4, b5, fun r c hr hc => b7 r c hr (by omega)⟩ ?_ ?_
        · rintro j s hj ⟨h3, A3, rfl, c0, c1, c2, c3, c4, c5, c7⟩
          left
          obtain ⟨h4, d1, d2, d3⟩ := h_put (v := itV n p Z e0V k j) z1213 c3 hj hk
          unfold LX6_markRoots_57
          dsimp only
          rw [hgr_ob (x := st) (oT c1) rfl, gx_bs, gN c1, gx_bs, if_neg (by rw [nI_leN (by omega) (by omega)]; omega), hgr_ob (x := t + 25) (oT c1) rfl, gx_bs, hgr_ob (x := t + 28) (oT c1) rfl, gx_bs, hal_ar c4 (by omega) (by omega), gx_bs, c3.ob, gx_bs, b6 j hj, d1, gx_bs, n1, nI_add]
          refine ⟨_, rfl, h4, _, rfl, by rw [d2.1, c0], fun x z z2 => by rw [d2.2 x (by omega), c1 x z z2], by rw [d2.2 ra (by omega), c2], d3, by rw [d2.2 (t + 28) (by omega), c4], by rw [d2.2 (t + 29) (by omega), c5], fun r c hr hc => ?_⟩
          unfold up2
          by_cases e : r = j ∧ c = k
          · rw [if_pos e, e.1, e.2]
          · rw [if_neg e]; exact c7 r c hr (by omega)
        · rintro s ⟨h3, A3, rfl, c0, c1, c2, c3, c4, c5, c7⟩
          obtain ⟨h4, f4, g4, e1, e3, e4, e5, e6, e7, e8⟩ := h_applyTo (v := itV n p Z e0V k) z1212 (oq c1) c4 c5 (by omega) (by omega) (by omega) hn2 (by omega) hp1000 hZ b6 (bZ k)
          unfold LX6_markRoots_57
          dsimp only
          rw [hgr_ob (x := st) (oT c1) rfl, gx_bs, gN c1, gx_bs, if_pos (by rw [nI_leN (by omega) (by omega)]; omega), hgr_ob (x := t + 28) (oT c1) rfl, gx_bs, hgr_ob (x := t + 29) (oT c1) rfl, gx_bs, gx_bs, gP c1, gx_bs, (oq c1).ob, gx_bs, e1, gx_bs, n1, nI_add]
          exact ⟨_, rfl, h4, A3, f4, g4, rfl, by rw [e3, c0], fun x z z2 => by rw [e4 x (by omega) (by omega), c1 x z z2], by rw [e4 ra (by omega) (by omega), c2], c3.two ⟨e3, e4⟩ (by omega) (by omega), e5, e6, e7, fun r c hr hc => c7 r c hr (by omega)⟩
      obtain ⟨x, i1, h3, A3, f3, g3, rfl, i2⟩ := inner
      unfold LX6_markRoots_42
      dsimp only
      rw [hgr_ob (x := st) (oT b1) rfl, gx_bs, gN b1, gx_bs, if_neg (by rw [nI_ltN (by omega) (by omega)]; omega), n0, i1]
      exact ⟨_, rfl, h3, A3, f3, g3, rfl, i2⟩
    · rintro s ⟨hh, A, f', g', rfl, b0, b1, b2, b3, b4, b5, b6, b7⟩
      have hA : bdM A n (n + 1) p := fun r c hr hc => by rw [b7 r c hr hc]; exact bZ c r hr
      obtain ⟨h3, r1, r2, r3, -⟩ := h_reduce z1213 b3 hp2 hp1000 hA
      have RDk := red_RD (d := 1) (pv := fun _ => 0) hp hA
      generalize hB : (redF p n (n + 1) (n + 1) 0 0 1 A (fun _ => 0)).2.2.1 = B at r3 RDk
      generalize hd : (redF p n (n + 1) (n + 1) 0 0 1 A (fun _ => 0)).1 = d at r1 RDk
      obtain ⟨k1, k2⟩ := kry_rel hp2 (fun s j hs hj => b7 s j hs hj) RDk
      have s3 : ∀ x, (x < t + 25 ∨ t + 29 < x) → x ≠ ra → h3.2 x = h.2 x := fun x z z2 => by rw [r2.2 x (by omega), b1 x z z2]
      have er3 : h3.2 ra = some (bo 97 rg) := by rw [r2.2 ra (by omega), b2]
      have fin : ∃ x, itr (fun s : Int32 × jx_H => LX6_markRoots_137 t ra (nI d) s.1 s.2) (nI 0, h3) = some x ∧ ∃ rg', x = (h3.1, jx_up h3.2 ra (bo 97 rg')) ∧ ∀ a, a < p → ∃ b, rg' a = bI b ∧ ((∃ w, lEig n p Z a w) → b = true) := by
        refine itr_run p (fun k s => ∃ h4 rg', s = (nI k, h4) ∧ h4.1 = h3.1 ∧ h4.2 ra = some (bo 97 rg') ∧ (∀ x, x ≠ ra → h4.2 x = h3.2 x) ∧ ∀ a, a < k → ∃ b, rg' a = bI b ∧ ((∃ w, lEig n p Z a w) → b = true)) ⟨h3, rg, rfl, rfl, er3, fun _ _ => rfl, fun a ha => by omega⟩ ?_ ?_
        · rintro k s hk ⟨h4, rg', rfl, c0, c1, c2, c3⟩
          left
          have s4 : ∀ x, (x < t + 25 ∨ t + 29 < x) → x ≠ ra → h4.2 x = h.2 x := fun x z z2 => by rw [c2 x z2, s3 x z z2]
          have ir := h_isRoot (oT s4) (HS.same fun x x1' x2' => by have x2' : x ≤ st + 8 := x2'; exact s4 x (by omega) (by omega)) hP (r3.same fun x _ _ => c2 x (by omega)) RDk.1.1 hp2 hp1000 hk k1 hn2
          unfold LX6_markRoots_137
          dsimp only
          rw [hgr_ob (x := st) (oT s4) rfl, gx_bs, gP s4, gx_bs, if_neg (by rw [nI_leN (by omega) (by omega)]; omega), hlen_bo c1, gx_bs, if_neg (by rw [nI_leN (by omega) (by omega)]; omega), isO_ob (oT s4), gx_bs, ir, gx_bs, nar_b, has_bo c1 (by omega) (by omega), gx_bs, n1, nI_add]
          refine ⟨_, rfl, _, _, rfl, c0, up_s, fun x z => by rw [← c2 x z]; exact up_o z, fun a ha => ?_⟩
          by_cases e : a = k
          · rw [e, upd_s]
            exact ⟨_, rfl, fun ⟨w, w1, w2⟩ => decide_eq_true (root_of hn w1 w2 k2)⟩
          · rw [upd_o e]; exact c3 a (by omega)
        · rintro s ⟨h4, rg', rfl, c0, c1, c2, c3⟩
          have s4 : ∀ x, (x < t + 25 ∨ t + 29 < x) → x ≠ ra → h4.2 x = h.2 x := fun x z z2 => by rw [c2 x z2, s3 x z z2]
          unfold LX6_markRoots_137
          dsimp only
          rw [hgr_ob (x := st) (oT s4) rfl, gx_bs, gP s4, gx_bs, if_pos (by rw [nI_leN (by omega) (by omega)]; omega)]
          refine ⟨_, rfl, rg', ?_, c3⟩
          refine Prod.ext c0 ?_
          funext x
          show h4.2 x = jx_up h3.2 ra (bo 97 rg') x
          by_cases e : x = ra
          · rw [e, up_s, c1]
          · rw [up_o e, c2 x e]
      obtain ⟨x, i1, rg', rfl, i2⟩ := fin
      unfold LX6_markRoots_42
      dsimp only
      rw [hgr_ob (x := st) (oT b1) rfl, gx_bs, gN b1, gx_bs, if_pos (by rw [nI_ltN (by omega) (by omega)]; omega), hgr_ob (x := t + 25) (oT b1) rfl, gx_bs, gx_bs, gP b1, gx_bs, b3.ob, gx_bs, r1, b2s, n0, i1]
      have up : ∀ y, y ≠ ra → jx_up h3.2 ra (bo 97 rg') y = h3.2 y := fun y z => up_o z
      refine ⟨_, rfl, f', g', rg', ?_, fun y z z2 => ?_, ?_, ?_, ?_, up_s, i2⟩
      · show h3.1 = h.1
        rw [r2.1, b0]
      · show jx_up h3.2 ra _ y = _
        rw [up y z2, s3 y z z2]
      · exact r3.sh.same fun y _ _ => up y (by omega)
      · show jx_up h3.2 ra _ (t + 28) = _
        rw [up _ (by omega), r2.2 _ (by omega), b4]
      · show jx_up h3.2 ra _ (t + 29) = _
        rw [up _ (by omega), r2.2 _ (by omega), b5]
  obtain ⟨x, l1, f', g', rg', l2⟩ := loop
  refine ⟨x, f', g', rg', ?_, l2⟩
  have gN1 := gN (hh := h) fun _ _ _ => rfl
  unfold FX6_markRoots
  rw [isO_ob T0, gx_bs, q1, gx_bs, hgr_ob (x := t + 25) T0 rfl, gx_bs, hgr_ob (x := st) T0 rfl, gx_bs, gN1, gx_bs, gx_bs, gN1, gx_bs, KR.ob, gx_bs, n1, nI_add, u1, gx_bs, hgr_ob (x := t + 28) (oT s1) rfl, gx_bs, isO_ob (oT s1), gx_bs, n0, a1, gx_bs, l1]
end
