/-! the class: the normal form of a polynomial, by Horner's rule -/
def polV (n p : Nat) (X Y : Nat → Nat → Nat) (c : Nat → Nat → Nat) (k : Nat) : Nat := sm (fun i => sm (fun j => c i j * norV n p X Y i j k) 21) 21 % p
def rowP (n p : Nat) (Y : Nat → Nat → Nat) (c : Nat → Nat → Nat) (i : Nat) : Nat → Nat := lcV (c i) (fun j => itV n p Y e0V j) 21
def hor (n p : Nat) (X Y : Nat → Nat → Nat) (c : Nat → Nat → Nat) : Nat → Nat → Nat
  | 0 => fun _ => 0
  | s + 1 => fun k => (mulV n p X (hor n p X Y c s) k + rowP n p Y c (20 - s) k) % p
section
variable {n p : Nat} {X Y : Nat → Nat → Nat} {c : Nat → Nat → Nat}
theorem hor_eq : ∀ s, s ≤ 21 → veq n p (hor n p X Y c s) (lcV (fun _ => 1) (fun q => itV n p X (rowP n p Y c (21 - s + q)) q) s)
  | 0, _ => fun k _ => rfl
  | s + 1, hs => fun k hk => by
    have ih := hor_eq s (by omega)
    show (mulV n p X (hor n p X Y c s) k + rowP n p Y c (20 - s) k) % p % p = _
    rw [Nat.mod_mod, Nat.add_mod, (mulV_veq ih).tr mulV_lc k hk, ← Nat.add_mod]
    unfold lcV
    rw [sm_sh, Nat.one_mul, Nat.add_comm]
    congr 1
    show rowP n p Y c (20 - s) k + _ = rowP n p Y c (21 - (s + 1) + 0) k + _
    rw [show 21 - (s + 1) + 0 = 20 - s by omega]
    congr 1
    refine sm_congr s fun q hq => ?_
    dsimp only
    rw [show 21 - (s + 1) + (q + 1) = 21 - s + q by omega]
    rfl
theorem hor_pol {k : Nat} (h0 : 0 < p) (hk : k < n) : hor n p X Y c 21 k = polV n p X Y c k := by
  have h1 := hor_eq (n := n) (p := p) (X := X) (Y := Y) (c := c) 21 (by omega) k hk
  have h2 : hor n p X Y c 21 k < p := Nat.mod_lt _ h0
  rw [Nat.mod_eq_of_lt h2] at h1
  rw [h1]
  unfold polV lcV
  refine sm_modc fun q _ => ?_
  rw [Nat.one_mul]
  dsimp only
  rw [show 21 - 21 + q = q by omega]
  exact itV_lc q k hk
theorem bd_hor (h0 : 0 < p) : ∀ s, bdV (hor n p X Y c s) n p
  | 0 => fun _ _ => h0
  | _ + 1 => fun _ _ => Nat.mod_lt _ h0
end
theorem z2112 : SZ 21 12 := ⟨by omega, by omega, by omega⟩
section
variable {h : jx_H} {t st n p : Nat} {X Y : Nat → Nat → Nat} {S : MS} {c : Nat → Nat → Nat}
/-- the rows Y^j e -/
theorem h_forms (T : TP h t st n p X Y) (HS : bH sK h st S) (hP : S.1 0 = nI p) (hN : S.1 2 = nI n) (dst : st + 8 < t) (hn : 0 < n) (hn2 : n ≤ 12) (hp2 : 2 ≤ p) (hp : p < 1000) (hX : bdM X n n p) (hY : bdM Y n n p) (E : TX h t) :
    ∃ h', FX6_listFormsY t h = some h' ∧ h'.1 = h.1 ∧ (∀ x, (x < t + 28 ∨ t + 32 < x) → h'.2 x = h.2 x) ∧ TX h' t ∧ HM h' (t + 30) 21 12 21 n (fun j k => itV n p Y e0V j k) := by
  obtain ⟨x25, ⟨f, x28⟩, ⟨g, x29⟩, x30⟩ := E
  obtain ⟨cc, cr, T0, -, ⟨-, K2, -⟩, -⟩ := id T
  have gN : ∀ {hh : jx_H}, (∀ x, (x < t + 28 ∨ t + 32 < x) → hh.2 x = h.2 x) → hgi hh st 5 2 = some (nI n) := fun e => by
    rw [← hN]
    exact hgi_ob (HS.same fun x x1 x2 => by have x2 : x ≤ st + 8 := x2; exact e x (by omega)).1 rfl
  have gP : ∀ {hh : jx_H}, (∀ x, (x < t + 28 ∨ t + 32 < x) → hh.2 x = h.2 x) → hgi hh st 5 0 = some (nI p) := fun e => by
    rw [← hP]
    exact hgi_ob (HS.same fun x x1 x2 => by have x2 : x ≤ st + 8 := x2; exact e x (by omega)).1 rfl
  have oT : ∀ {hh : jx_H}, (∀ x, (x < t + 28 ∨ t + 32 < x) → hh.2 x = h.2 x) → TO hh t st (nI 1) (nI (difN n (mulM n p X Y) (mulM n p Y X))) cc cr := fun e => by show _ = _; rw [e t (by omega)]; exact T0
  have oY : ∀ {hh : jx_H}, (∀ x, (x < t + 28 ∨ t + 32 < x) → hh.2 x = h.2 x) → HM hh (t + 4) 12 12 n n Y := fun e => K2.same fun x x1 x2 => e x (by omega)
  obtain ⟨U, u1, u2⟩ := h_clear z2112 x30 (R' := 21) (C' := n) (by omega) hn2
  have x1 : exc h (bput (xK 21 12) h (t + 30) U) (t + 30) (t + 32) := exc.bput
  have M1 : HM (bput (xK 21 12) h (t + 30) U) (t + 30) 21 12 21 n (fun _ _ => 0) := ⟨U, bH.put, u2⟩
  generalize bput (xK 21 12) h (t + 30) U = h1 at u1 x1 M1
  have s1 : ∀ x, (x < t + 28 ∨ t + 32 < x) → h1.2 x = h.2 x := fun x q => x1.2 x (by omega)
  obtain ⟨h2, f2, g2, a1, a2, a3, a4, a5, -⟩ := h_normal (T.same fun x q1 q2 => s1 x (by omega)) (HS.same fun x q1 q2 => by have q2 : x ≤ st + 8 := q2; exact s1 x (by omega)) hP dst hn hn2 hp2 hp hX hY (i := 0) (j := 0) (c := t + 28) (by rw [x1.2 (t + 28) (by omega)]; exact x28) (by rw [x1.2 (t + 29) (by omega)]; exact x29) (Or.inr rfl) (by omega) (by omega)
  rw [norV_00] at a5
  have s2 : ∀ x, (x < t + 28 ∨ t + 32 < x) → h2.2 x = h.2 x := fun x q => by rw [a2.2 x (by omega) (by omega), s1 x q]
  have bY : ∀ e, bdV (itV n p Y e0V e) n p := bd_itV (by omega) (bd_e0 hp2)
  have loop : ∃ x, itr (fun s : Int32 × jx_H => LX6_listFormsY_28 t s.1 s.2) (nI 0, h2) = some x ∧ x.1 = h.1 ∧ (∀ y, (y < t + 28 ∨ t + 32 < y) → x.2 y = h.2 y) ∧ (∃ f', x.2 (t + 28) = some (ar 12 f')) ∧ (∃ g', x.2 (t + 29) = some (ar 12 g')) ∧ HM x (t + 30) 21 12 21 n (fun j k => itV n p Y e0V j k) := by
    refine itr_run 21 (fun j s => ∃ hh A f' g', s = (nI j, hh) ∧ hh.1 = h.1 ∧ (∀ x, (x < t + 28 ∨ t + 32 < x) → hh.2 x = h.2 x) ∧ HM hh (t + 30) 21 12 21 n A ∧ hh.2 (t + 28) = some (ar 12 f') ∧ hh.2 (t + 29) = some (ar 12 g') ∧ VL f' n (itV n p Y e0V j) ∧ ∀ r k, r < j → k < n → A r k = itV n p Y e0V r k) ⟨h2, _, f2, g2, rfl, by rw [a2.1, x1.1], s2, M1.two a2 (by omega) (by omega), a3, a4, a5, fun r k hr => by omega⟩ ?_ ?_
    · rintro j s hj ⟨hh, A, f', g', rfl, b0, b1, b3, b4, b5, b6, b7⟩
      left
      have inner : ∃ x, itr (fun s : Int32 × jx_H => LX6_listFormsY_36 t (nI j) s.1 s.2) (nI 0, hh) = some x ∧ ∃ h3 A3 f3 g3, x = .inl (nI (j + 1), h3) ∧ h3.1 = h.1 ∧ (∀ x, (x < t + 28 ∨ t + 32 < x) → h3.2 x = h.2 x) ∧ HM h3 (t + 30) 21 12 21 n A3 ∧ h3.2 (t + 28) = some (ar 12 f3) ∧ h3.2 (t + 29) = some (ar 12 g3) ∧ VL f3 n (itV n p Y e0V (j + 1)) ∧ ∀ r k, r < j + 1 → k < n → A3 r k = itV n p Y e0V r k := by
        refine itr_run n (fun q s => ∃ h3 A3, s = (nI q, h3) ∧ h3.1 = h.1 ∧ (∀ x, (x < t + 28 ∨ t + 32 < x) → h3.2 x = h.2 x) ∧ HM h3 (t + 30) 21 12 21 n A3 ∧ h3.2 (t + 28) = some (ar 12 f') ∧ h3.2 (t + 29) = some (ar 12 g') ∧ ∀ r k, (r < j ∨ (r = j ∧ k < q)) → k < n → A3 r k = itV n p Y e0V r k) ⟨hh, A, rfl, b0, b1, b3, b4, b5, fun r k hr hk => b7 r k (by omega) hk⟩ ?_ ?_
        · rintro q s hq ⟨h3, A3, rfl, c0, c1, c3, c4, c5, c7⟩
          left
          obtain ⟨h4, d1, d2, d3⟩ := h_put (v := itV n p Y e0V j q) z2112 c3 (show j < 21 from hj) hq
          unfold LX6_listFormsY_36
          dsimp only
          rw [hgr_ob (x := st) (oT c1) rfl, gx_bs, gN c1, gx_bs, if_neg (by rw [nI_leN (by omega) (by omega)]; omega), hgr_ob (x := t + 30) (oT c1) rfl, gx_bs, hgr_ob (x := t + 28) (oT c1) rfl, gx_bs, hal_ar c4 (by omega) (by omega), gx_bs, c3.ob, gx_bs, b6 q hq, d1, gx_bs, n1, nI_add]
          refine ⟨_, rfl, h4, _, rfl, by rw [d2.1, c0], fun x z => by rw [d2.2 x (by omega), c1 x z], d3, by rw [d2.2 (t + 28) (by omega), c4], by rw [d2.2 (t + 29) (by omega), c5], fun r k hr hk => ?_⟩
          unfold up2
          by_cases e : r = j ∧ k = q
          · rw [if_pos e, e.1, e.2]
          · rw [if_neg e]; exact c7 r k (by omega) hk
        · rintro s ⟨h3, A3, rfl, c0, c1, c3, c4, c5, c7⟩
          obtain ⟨h4, f4, g4, e1, e3, e4, e5, e6, e7, e8⟩ := h_applyTo (v := itV n p Y e0V j) z1212 (oY c1) c4 c5 (by omega) (by omega) (by omega) hn2 (by omega) hp hY b6 (bY j)
          unfold LX6_listFormsY_36
          dsimp only
          rw [hgr_ob (x := st) (oT c1) rfl, gx_bs, gN c1, gx_bs, if_pos (by rw [nI_leN (by omega) (by omega)]; omega), hgr_ob (x := t + 4) (oT c1) rfl, gx_bs, hgr_ob (x := t + 28) (oT c1) rfl, gx_bs, hgr_ob (x := t + 29) (oT c1) rfl, gx_bs, gx_bs, gP c1, gx_bs, (oY c1).ob, gx_bs, e1, gx_bs, n1, nI_add]
          exact ⟨_, rfl, h4, A3, f4, g4, rfl, by rw [e3, c0], fun x z => by rw [e4 x (by omega) (by omega), c1 x z], c3.two ⟨e3, e4⟩ (by omega) (by omega), e5, e6, e7, fun r k hr hk => c7 r k (by omega) hk⟩
      obtain ⟨x, i1, h3, A3, f3, g3, rfl, i2⟩ := inner
      unfold LX6_listFormsY_28
      dsimp only
      rw [n20, if_neg (by rw [nI_ltN (by omega) (by omega)]; omega), n0, i1]
      exact ⟨_, rfl, h3, A3, f3, g3, rfl, i2⟩
    · rintro s ⟨hh, A, f', g', rfl, b0, b1, b3, b4, b5, b6, b7⟩
      unfold LX6_listFormsY_28
      dsimp only
      rw [n20, if_pos (by rw [nI_ltN (by omega) (by omega)]; omega)]
      exact ⟨_, rfl, b0, b1, ⟨f', b4⟩, ⟨g', b5⟩, b3.congr fun r k hr hk => b7 r k hr hk⟩
  obtain ⟨x, l1, l2, l3, l4, l5, l6⟩ := loop
  refine ⟨x, ?_, l2, l3, ⟨x25.same fun y _ _ => l3 y (by omega), l4, l5, l6.sh⟩, l6⟩
  have gN1 := gN (hh := h) fun _ _ => rfl
  unfold FX6_listFormsY
  rw [hgr_ob (x := t + 30) T0 rfl, gx_bs, hgr_ob (x := st) T0 rfl, gx_bs, gN1, gx_bs, x30.ob, gx_bs, n21, u1, gx_bs, hgr_ob (x := t + 28) (oT s1) rfl, gx_bs, isO_ob (oT s1), gx_bs, n0, a1, gx_bs, l1]
/-- a multiple of a row is added -/
theorem h_addForm {kn df cc cr : Int32} (T0 : TO h t st kn df cc cr) (HS : bH sK h st S) (hP : S.1 0 = nI p) (hN : S.1 2 = nI n) (hn2 : n ≤ 12) (h0 : 0 < p) (hp : p < 1000) {F : Nat → Nat → Nat} (M : HM h (t + 30) 21 12 21 n F) (bF : bdM F 21 n p) {ra j a : Nat} {f : Nat → Int32} {v : Nat → Nat} (er : h.2 ra = some (ar 12 f)) (dra : t + 32 < ra) (dst : st + 8 < t) (hv : VL f n v) (bv : bdV v n p) (hj : j < 21) (ha : a < p) :
    ∃ f', FX6_addForm t ra (nI a) (nI j) h = some (h.1, jx_up h.2 ra (ar 12 f')) ∧ VL f' n (fun k => (v k + a * F j k) % p) ∧ ∀ k, n ≤ k → f' k = f k := by
  have key : ∃ x, itr (fun s : Int32 × jx_H => LX6_addForm_3 t ra (nI a) (nI j) s.1 s.2) (nI 0, h) = some x ∧ ∃ f', x = (h.1, jx_up h.2 ra (ar 12 f')) ∧ VL f' n (fun k => (v k + a * F j k) % p) ∧ ∀ k, n ≤ k → f' k = f k := by
    have self : h = (h.1, jx_up h.2 ra (ar 12 f)) := by
      refine Prod.ext rfl ?_
      funext x
      show h.2 x = jx_up h.2 ra (ar 12 f) x
      by_cases e : x = ra
      · rw [e, up_s, er]
      · rw [up_o e]
    refine itr_run n (fun k s => ∃ f', s = (nI k, ((h.1, jx_up h.2 ra (ar 12 f')) : jx_H)) ∧ (∀ q, q < n → f' q = nI (if q < k then (v q + a * F j q) % p else v q)) ∧ ∀ q, n ≤ q → f' q = f q) ⟨f, by rw [← self], fun q hq => by rw [if_neg (by omega)]; exact hv q hq, fun _ _ => rfl⟩ ?_ ?_
    · rintro k s hk ⟨f', rfl, b1, b2⟩
      left
      have T1 : TO ((h.1, jx_up h.2 ra (ar 12 f')) : jx_H) t st kn df cc cr := by show jx_up h.2 ra _ t = _; rw [up_o (by omega)]; exact T0
      have S1 : bH sK ((h.1, jx_up h.2 ra (ar 12 f')) : jx_H) st S := HS.same fun x x1 x2 => by have x2 : x ≤ st + 8 := x2; exact up_o (by omega)
      have M1 : HM ((h.1, jx_up h.2 ra (ar 12 f')) : jx_H) (t + 30) 21 12 21 n F := M.same fun x _ _ => up_o (by omega)
      have gN : hgi ((h.1, jx_up h.2 ra (ar 12 f')) : jx_H) st 5 2 = some (nI n) := by rw [← hN]; exact hgi_ob S1.1 rfl
      have gP : hgi ((h.1, jx_up h.2 ra (ar 12 f')) : jx_H) st 5 0 = some (nI p) := by rw [← hP]; exact hgi_ob S1.1 rfl
      have hb := bF j k hj hk
      have hm := Nat.mul_lt_mul'' ha hb
      have hpp : p * p < 1000000 := by have := Nat.mul_lt_mul'' hp hp; omega
      have hvk := bv k hk
      unfold LX6_addForm_3
      dsimp only
      rw [hgr_ob (x := st) T1 rfl, gx_bs, gN, gx_bs, if_neg (by rw [nI_leN (by omega) (by omega)]; omega), hlen_ar up_s, gx_bs, if_neg (by rw [nI_leN (by omega) (by omega)]; omega), hal_ar up_s (by omega) (by omega), gx_bs, hgr_ob (x := t + 30) T1 rfl, gx_bs, M1.ob, gx_bs, M1.at z2112 hj hk, gx_bs, gx_bs, gP, gx_bs, b1 k hk, if_neg (Nat.lt_irrefl k), nI_mul, nI_add, q_residue, p_resN h0 (by omega) (by omega), gx_bs, has_ar up_s (by omega) (by omega), gx_bs, n1, nI_add]
      refine ⟨_, rfl, upd f' k (nI ((v k + a * F j k) % p)), ?_, fun q hq => ?_, fun q hq => ?_⟩
      · refine Prod.ext rfl (Prod.ext rfl ?_)
        funext x
        show jx_up (jx_up h.2 ra _) ra _ x = jx_up h.2 ra _ x
        by_cases e : x = ra
        · rw [e, up_s, up_s]
        · rw [up_o e, up_o e, up_o e]
      · by_cases e : q = k
        · rw [e, upd_s, if_pos (by omega)]
        · rw [upd_o e, b1 q hq]
          by_cases e2 : q < k
          · rw [if_pos e2, if_pos (by omega)]
          · rw [if_neg e2, if_neg (by omega)]
      · rw [upd_o (by omega)]; exact b2 q hq
    · rintro s ⟨f', rfl, b1, b2⟩
      have T1 : TO ((h.1, jx_up h.2 ra (ar 12 f')) : jx_H) t st kn df cc cr := by show jx_up h.2 ra _ t = _; rw [up_o (by omega)]; exact T0
      have S1 : bH sK ((h.1, jx_up h.2 ra (ar 12 f')) : jx_H) st S := HS.same fun x x1 x2 => by have x2 : x ≤ st + 8 := x2; exact up_o (by omega)
      have gN : hgi ((h.1, jx_up h.2 ra (ar 12 f')) : jx_H) st 5 2 = some (nI n) := by rw [← hN]; exact hgi_ob S1.1 rfl
      unfold LX6_addForm_3
      dsimp only
      rw [hgr_ob (x := st) T1 rfl, gx_bs, gN, gx_bs, if_pos (by rw [nI_leN (by omega) (by omega)]; omega)]
      exact ⟨_, rfl, f', rfl, fun q hq => by rw [b1 q hq, if_pos hq], b2⟩
  obtain ⟨x, x1, f', rfl, x2⟩ := key
  refine ⟨f', ?_, x2⟩
  unfold FX6_addForm
  rw [n0]
  exact x1
end
