/-! the class: the trace form filled and reduced -/
section
variable {h : jx_H} {z st t sp p lo : Nat} {S : MS} {ht : Nat → Nat} {r : Nat → Nat → Nat} {pts : List (Nat × Nat)} {kz fd ds : Int32} {ft : Nat → Option Nat}
theorem bd_frm {X Y : Nat → Nat → Nat} (h0 : 0 < p) {n m : Nat} : bdM (frmM ht p X Y) n m p := by
  intro a b _ _
  unfold frmM
  split
  · exact Nat.mod_lt _ h0
  · exact Nat.mod_lt _ h0
theorem frm_at {X Y : Nat → Nat → Nat} {a b : Nat} (h : b ≤ a) : frmM ht p X Y a b = trM (Lm ht).length p (mulM (Lm ht).length p (monM (Lm ht).length p X Y (mx (Lm ht) a) (my (Lm ht) a)) (monM (Lm ht).length p X Y (mx (Lm ht) b) (my (Lm ht) b))) ∧ frmM ht p X Y b a = trM (Lm ht).length p (mulM (Lm ht).length p (monM (Lm ht).length p X Y (mx (Lm ht) a) (my (Lm ht) a)) (monM (Lm ht).length p X Y (mx (Lm ht) b) (my (Lm ht) b))) := by
  refine ⟨if_pos h, ?_⟩
  unfold frmM
  by_cases e : a ≤ b
  · obtain rfl : a = b := by omega
    rw [if_pos e]
  · rw [if_neg e]
theorem h_form (HS : bH sK h st S) (R : ST S p ht r pts) (w : wfh ht) (hp2 : 2 ≤ p) (hp : p < 1000) (Z : ZO h z st t sp kz fd ds) (s12 : SH h (z + 12) 12 12) (e15 : h.2 (z + 15) = some (qm 12 ft)) (MA : matA h lo ft) (l1 : z + 15 ≤ lo) (o1 : st + 8 < z) {X Y : Nat → Nat → Nat} (D : ∀ j, j < (Lm ht).length → ∃ q, ft j = some q ∧ HM h q 12 12 (Lm ht).length (Lm ht).length (monM (Lm ht).length p X Y (mx (Lm ht) j) (my (Lm ht) j))) {h0 : jx_H} (hmk : FX8_makeMonomialTables z h0 = some h) (oz : isO h0 z 8 = some ()) :
    ∃ h', FX8_fillForm z h0 = some h' ∧ exc h h' (z + 12) (z + 14) ∧ HM h' (z + 12) 12 12 (Lm ht).length (Lm ht).length (frmM ht p X Y) := by
  have l := Lm_len w
  obtain ⟨U, u1, u2⟩ := h_clear z1212 s12 (R' := (Lm ht).length) (C' := (Lm ht).length) l.2.1 l.2.1
  have x1 : exc h (bput (xK 12 12) h (z + 12) U) (z + 12) (z + 14) := exc.bput
  have M1 : HM (bput (xK 12 12) h (z + 12) U) (z + 12) 12 12 (Lm ht).length (Lm ht).length (fun _ _ => 0) := ⟨U, bH.put, u2⟩
  generalize bput (xK 12 12) h (z + 12) U = h1 at u1 x1 M1
  have gN0 : hgi h st 5 2 = some (nI (Lm ht).length) := by rw [← R.2.2.1.1]; exact hgi_ob HS.1 rfl
  have st1 : ∀ {hh : jx_H}, exc h hh (z + 12) (z + 14) → hgi hh st 5 2 = some (nI (Lm ht).length) ∧ hgi hh st 5 0 = some (nI p) ∧ ZO hh z st t sp kz fd ds ∧ hh.2 (z + 15) = some (qm 12 ft) ∧ ∀ j, j < (Lm ht).length → ∃ q, ft j = some q ∧ HM hh q 12 12 (Lm ht).length (Lm ht).length (monM (Lm ht).length p X Y (mx (Lm ht) j) (my (Lm ht) j)) := by
    intro hh c
    have S1 : bH sK hh st S := HS.ex c (by show st + 8 < z + 12 ∨ z + 14 < st; omega)
    refine ⟨by rw [← R.2.2.1.1]; exact hgi_ob S1.1 rfl, by rw [← R.1]; exact hgi_ob S1.1 rfl, by show _ = _; rw [c.2 z (by omega)]; exact Z, by rw [c.2 (z + 15) (by omega)]; exact e15, fun j hj => ?_⟩
    obtain ⟨q, f1, f2⟩ := D j hj
    have m := MA.1 j q (by omega) f1
    exact ⟨q, f1, f2.ex c (by omega)⟩
  have key : ∃ x, itr (fun s : Int32 × jx_H => LX8_fillForm_27 z s.1 s.2) (nI 0, h1) = some x ∧ exc h x (z + 12) (z + 14) ∧ HM x (z + 12) 12 12 (Lm ht).length (Lm ht).length (frmM ht p X Y) := by
    refine itr_run (Lm ht).length (fun a s => ∃ hh A, s = (nI a, hh) ∧ exc h hh (z + 12) (z + 14) ∧ HM hh (z + 12) 12 12 (Lm ht).length (Lm ht).length A ∧ ∀ x y, x < a → y < a → A x y = frmM ht p X Y x y) ⟨h1, _, rfl, x1, M1, fun x y hx => by omega⟩ ?_ ?_
    · rintro a s ha ⟨hh, A, rfl, c, M, hA⟩
      left
      have inner : ∃ x, itr (fun s : Int32 × jx_H => LX8_fillForm_40 z (nI a) s.1 s.2) (nI 0, hh) = some x ∧ ∃ h3 A3, x = .inl (nI (a + 1), h3) ∧ exc h h3 (z + 12) (z + 14) ∧ HM h3 (z + 12) 12 12 (Lm ht).length (Lm ht).length A3 ∧ ∀ x y, x < a + 1 → y < a + 1 → A3 x y = frmM ht p X Y x y := by
        refine itr_run (a + 1) (fun b s => ∃ h3 A3, s = (nI b, h3) ∧ exc h h3 (z + 12) (z + 14) ∧ HM h3 (z + 12) 12 12 (Lm ht).length (Lm ht).length A3 ∧ ∀ x y, ((x < a ∧ y < a) ∨ (x = a ∧ y < b) ∨ (y = a ∧ x < b)) → A3 x y = frmM ht p X Y x y) ⟨hh, A, rfl, c, M, fun x y hxy => hA x y (by omega) (by omega)⟩ ?_ ?_
        · rintro b s hb ⟨h3, A3, rfl, c3, M3, hA3⟩
          left
          obtain ⟨k1, k2, k3, k4, k5⟩ := st1 c3
          obtain ⟨qa, fa, Ma⟩ := k5 a ha
          obtain ⟨qb, fb, Mb⟩ := k5 b (by omega)
          have fr := frm_at (ht := ht) (p := p) (X := X) (Y := Y) (show b ≤ a by omega)
          have tr := h_trace z1212 z1212 Ma Mb l.2.1 (by omega) hp (bd_mon hp2 _) (bd_mon hp2 _)
          generalize hv : trM (Lm ht).length p (mulM (Lm ht).length p (monM (Lm ht).length p X Y (mx (Lm ht) a) (my (Lm ht) a)) (monM (Lm ht).length p X Y (mx (Lm ht) b) (my (Lm ht) b))) = v at fr tr
          obtain ⟨h4, p1, p2, p3⟩ := h_put (v := v) z1212 M3 ha (show b < (Lm ht).length by omega)
          have c4 := c3.tr p2
          obtain ⟨-, -, k3', -, -⟩ := st1 c4
          obtain ⟨h5, q1, q2, q3⟩ := h_put (v := v) z1212 p3 (show b < (Lm ht).length by omega) ha
          unfold LX8_fillForm_40 BX8_fillForm_106
          dsimp only
          rw [if_neg (by rw [nI_ltN (by omega) (by omega)]; omega), hgr_ob (x := z + 15) k3 rfl, gx_bs, hql_m k4 (by omega) (by omega), gx_bs, gx_bs, hql_m k4 (by omega) (by omega), gx_bs, fa, fb]
          refine ⟨(nI (b + 1), h5), ?_, h5, _, rfl, c4.tr q2, q3, fun x y hxy => ?_⟩
          · rw [oc_s, oc_s]
            rw [hgr_ob (x := st) k3 rfl, gx_bs, k2, gx_bs, Ma.ob, gx_bs, tr, gx_bs, hgr_ob (x := z + 12) k3 rfl, gx_bs, M3.ob, gx_bs, p1, gx_bs, hgr_ob (x := z + 12) k3' rfl, gx_bs, p3.ob, gx_bs, q1, gx_bs, n1, nI_add]
          · unfold up2
            by_cases e1 : x = b ∧ y = a
            · rw [if_pos e1, e1.1, e1.2]; exact fr.2.symm
            · rw [if_neg e1]
              by_cases e2 : x = a ∧ y = b
              · rw [if_pos e2, e2.1, e2.2]; exact fr.1.symm
              · rw [if_neg e2]
                exact hA3 x y (by omega)
        · rintro s ⟨h3, A3, rfl, c3, M3, hA3⟩
          unfold LX8_fillForm_40
          dsimp only
          rw [if_pos (by rw [nI_ltN (by omega) (by omega)]; omega), n1, nI_add]
          exact ⟨_, rfl, h3, A3, rfl, c3, M3, fun x y hx hy => hA3 x y (by omega)⟩
      obtain ⟨x, i1, h3, A3, rfl, i2⟩ := inner
      obtain ⟨k1, k2, k3, k4, k5⟩ := st1 c
      unfold LX8_fillForm_27
      dsimp only
      rw [hgr_ob (x := st) k3 rfl, gx_bs, k1, gx_bs, if_neg (by rw [nI_leN (by omega) (by omega)]; omega), n0, i1]
      exact ⟨_, rfl, h3, A3, rfl, i2⟩
    · rintro s ⟨hh, A, rfl, c, M, hA⟩
      obtain ⟨k1, k2, k3, k4, k5⟩ := st1 c
      unfold LX8_fillForm_27
      dsimp only
      rw [hgr_ob (x := st) k3 rfl, gx_bs, k1, gx_bs, if_pos (by rw [nI_leN (by omega) (by omega)]; omega)]
      exact ⟨_, rfl, c, M.congr fun x y hx hy => hA x y hx hy⟩
  obtain ⟨x, i1, i2, i3⟩ := key
  refine ⟨x, ?_, i2, i3⟩
  unfold FX8_fillForm
  rw [oz, gx_bs, hmk, gx_bs, hgr_ob (x := z + 12) Z rfl, gx_bs, hgr_ob (x := st) Z rfl, gx_bs, gN0, gx_bs, gx_bs, gN0, gx_bs, s12.ob, gx_bs, u1, gx_bs, n0, i1]
theorem ZI.ob (Z : ZI h z st t sp ht r p ds) : isO h z 8 = some () ∧ ∃ kz fd, ZO h z st t sp kz fd ds := by
  rcases Z with ⟨_, _, _, ⟨Z0, -⟩, -⟩ | ⟨_, _, _, _, Z0, -⟩
  · exact ⟨isO_ob Z0, _, _, Z0⟩
  · exact ⟨isO_ob Z0, _, _, Z0⟩
/-- the field of the rank, and the form itself, may change -/
theorem ZI.dsw {h' : jx_H} {d' : Int32} (Z : ZI h z st t sp ht r p ds) (e : ∀ x, z + 1 ≤ x → x ≤ z + 11 → h'.2 x = h.2 x) (s : SH h' (z + 12) 12 12) (hz : ∀ kz fd, ZO h z st t sp kz fd ds → ZO h' z st t sp kz fd d') : ZI h' z st t sp ht r p d' := by
  have key : ∀ {kz fd : Int32} {za zb zm : Nat → Int32}, ZB h z st t sp kz fd ds za zb zm → ZB h' z st t sp kz fd d' za zb zm := by
    rintro kz fd za zb zm ⟨a, ⟨ra, b⟩, ⟨rb, c⟩, d, f, g, i, j, k⟩
    exact ⟨hz _ _ a, ⟨ra, by rw [e _ (by omega) (by omega)]; exact b⟩, ⟨rb, by rw [e _ (by omega) (by omega)]; exact c⟩, by rw [e _ (by omega) (by omega)]; exact d, by rw [e _ (by omega) (by omega)]; exact f, by rw [e _ (by omega) (by omega)]; exact g, i.same fun x _ _ => e x (by omega) (by omega), j.same fun x _ _ => e x (by omega) (by omega), s⟩
  rcases Z with ⟨za, zb, zm, a, b⟩ | ⟨fd, za, zb, zm, a⟩
  · exact Or.inl ⟨za, zb, zm, key a, b⟩
  · exact Or.inr ⟨fd, za, zb, zm, key a⟩
theorem h_distinct (T : TI h t st (Lm ht).length p (tabM ht r 1 0) (tabM ht r 0 1)) (HS : bH sK h st S) (R : ST S p ht r pts) (w : wfh ht) (hp : p ∈ prs) (hr : ∀ b k, b < (Lb ht).length → k < (Lm ht).length → r b k < p) (Z : ZI h z st t sp ht r p ds) (hds : ds = m1 ∨ ds = nI (dsV ht r p)) (e15 : h.2 (z + 15) = some (qm 12 ft)) (MA : matA h lo ft) (l1 : z + 15 ≤ lo) (l3 : lo < h.1) (o1 : st + 8 < t) (o2 : t + 32 < z) :
    ∃ h' ft', FX8_distinctEverywhere z h = some (nI (dsV ht r p), h') ∧ h.1 ≤ h'.1 ∧ (∀ x, x < h.1 → (x < t ∨ t + 12 < x) → x ≠ z → (x < z + 12 ∨ z + 15 < x) → (∀ j q, j < 12 → ft j = some q → x < q ∨ q + 2 < x) → h'.2 x = h.2 x) ∧ (∀ j q, j < 12 → ft' j = some q → ft j = some q ∨ h.1 ≤ q) ∧ h'.2 (z + 15) = some (qm 12 ft') ∧ matA h' lo ft' ∧ TI h' t st (Lm ht).length p (tabM ht r 1 0) (tabM ht r 0 1) ∧ (TP h t st (Lm ht).length p (tabM ht r 1 0) (tabM ht r 0 1) → TP h' t st (Lm ht).length p (tabM ht r 1 0) (tabM ht r 0 1)) ∧ ZI h' z st t sp ht r p (nI (dsV ht r p)) := by
  have pb := prs_b p hp
  have l := Lm_len w
  obtain ⟨oz, kz, fd, Z0⟩ := Z.ob
  have dle : dsV ht r p ≤ (Lm ht).length := (red_RD (d := 1) (pv := fun _ => 0) hp (bd_frm (show 0 < p by omega))).leC
  by_cases hd : ds = m1
  · have oT0 : isO h t 6 = some () := by
      rcases T with ⟨cc, cr, q, -⟩ | ⟨df, cc, cr, q, -⟩
      · exact isO_ob q
      · exact isO_ob q
    obtain ⟨h1, a1, a2, T1⟩ := h_prepare T HS R w (by omega) (by omega) hr o1
    have e1 : ∀ x, (x < t ∨ t + 12 < x) → h1.2 x = h.2 x := fun x q => a2.2 x q
    have S1 : bH sK h1 st S := HS.same fun x q1 q2 => by have q2 : x ≤ st + 8 := q2; exact e1 x (by omega)
    have Z1 : ZO h1 z st t sp kz fd ds := by show _ = _; rw [e1 z (by omega)]; exact Z0
    have ZI1 : ZI h1 z st t sp ht r p ds := Z.same fun x _ _ => e1 x (by omega)
    have M1 : matA h1 lo ft := ⟨fun j q hj hq => by
      have m := MA.1 j q hj hq
      exact ⟨m.1.same fun x _ _ => e1 x (by omega), m.2.1, by rw [a2.1]; exact m.2.2⟩, MA.2⟩
    obtain ⟨h2, ft2, b1, b2, b3, b4, b5⟩ := h_monos T1 S1 R w (by omega) (by omega) hr Z1 (by rw [e1 _ (by omega)]; exact e15) M1 (by omega) l1 (by omega) (by rw [a2.1]; exact l3) o1 (by omega)
    have e2 : ∀ x, x ≤ lo → x ≠ z + 15 → h2.2 x = h1.2 x := fun x x1 x2 => b2.2.1 x (by rw [a2.1]; omega) x2 fun j q hj hq => by have := (M1.1 j q hj hq).2.1; omega
    have S2 : bH sK h2 st S := S1.same fun x q1 q2 => by have q2 : x ≤ st + 8 := q2; exact e2 x (by omega) (by omega)
    have Z2 : ZO h2 z st t sp kz fd ds := by show _ = _; rw [e2 z (by omega) (by omega)]; exact Z1
    have ZI2 : ZI h2 z st t sp ht r p ds := ZI1.same fun x _ _ => e2 x (by omega) (by omega)
    have s12 : SH h2 (z + 12) 12 12 := by
      rcases ZI2 with ⟨_, _, _, ⟨-, -, -, -, -, -, -, -, s⟩, -⟩ | ⟨_, _, _, _, -, -, -, -, -, -, -, -, s⟩
      · exact s
      · exact s
    obtain ⟨h3, c1, c2, c3⟩ := h_form S2 R w (by omega) (by omega) Z2 s12 b3 b4 l1 (by omega) b5 b1 (isO_ob Z1)
    have Z3 : ZO h3 z st t sp kz fd ds := by show _ = _; rw [c2.2 z (by omega)]; exact Z2
    have S3 : bH sK h3 st S := S2.ex c2 (by show st + 8 < z + 12 ∨ z + 14 < st; omega)
    obtain ⟨h4, d1, d2, d3, -⟩ := h_reduce z1212 c3 (by omega) (by omega) (bd_frm (by omega))
    have Z4 : ZO h4 z st t sp kz fd ds := by show _ = _; rw [d2.2 z (by omega)]; exact Z3
    have gP : hgi h3 st 5 0 = some (nI p) := by rw [← R.1]; exact hgi_ob S3.1 rfl
    have rk : nI (redF p (Lm ht).length (Lm ht).length (Lm ht).length 0 0 1 (frmM ht p (tabM ht r 1 0) (tabM ht r 0 1)) (fun _ => 0)).1 = nI (dsV ht r p) := rfl
    rw [rk] at d1
    have fin : ∀ x, x ≠ z → jx_up h4.2 z (.inr (8, (zeO z st t sp kz fd ds).set 14 (.int (nI (dsV ht r p))))) x = h4.2 x := fun x q => up_o q
    have Z5 : ZO ((h4.1, jx_up h4.2 z (.inr (8, (zeO z st t sp kz fd ds).set 14 (.int (nI (dsV ht r p)))))) : jx_H) z st t sp kz fd (nI (dsV ht r p)) := up_s
    have e4 : ∀ x, (x < z + 12 ∨ z + 14 < x) → h4.2 x = h2.2 x := fun x q => by rw [d2.2 x (by omega), c2.2 x q]
    have TP5 : TP ((h4.1, jx_up h4.2 z (.inr (8, (zeO z st t sp kz fd ds).set 14 (.int (nI (dsV ht r p)))))) : jx_H) t st (Lm ht).length p (tabM ht r 1 0) (tabM ht r 0 1) := T1.same fun x x1 x2 => by
      show jx_up h4.2 z _ x = _
      rw [fin x (by omega), e4 x (by omega), e2 x (by omega) (by omega)]
    refine ⟨_, ft2, ?_, by show h.1 ≤ h4.1; rw [d2.1, c2.1]; have := b2.1; rw [a2.1] at this; exact this, fun x x1 x2 x3 x4 x5 => ?_, fun j q hj hq => ?_, ?_, ?_, Or.inl TP5, fun _ => TP5, ?_⟩
    · unfold FX8_distinctEverywhere BX8_distinctEverywhere_37
      rw [hgi_ob Z0 rfl, gx_bs, n1, nm1, if_pos hd, hgr_ob (x := t) Z0 rfl, gx_bs, oT0, gx_bs, a1, gx_bs, isO_ob Z1, gx_bs, c1, gx_bs, hgr_ob (x := z + 12) Z3 rfl, gx_bs, hgr_ob (x := st) Z3 rfl, gx_bs, gP, gx_bs, c3.ob, gx_bs, d1, b2s, hp_ob Z4 (Nat.le_of_ble_eq_true rfl), gx_bs, hgi_ob Z5 rfl, gx_bs]
    · show jx_up h4.2 z _ x = _
      rw [fin x x3, e4 x (by omega), b2.2.1 x (by rw [a2.1]; exact x1) (by omega) x5, e1 x x2]
    · have := b2.2.2 j q hj hq
      rw [a2.1] at this
      exact this
    · show jx_up h4.2 z _ (z + 15) = _
      rw [fin _ (by omega), e4 _ (by omega)]
      exact b3
    · refine ⟨fun j q hj hq => ?_, b4.2⟩
      have m := b4.1 j q hj hq
      refine ⟨m.1.same fun x x1 x2 => ?_, m.2.1, ?_⟩
      · show jx_up h4.2 z _ x = _
        rw [fin x (by omega), e4 x (by omega)]
      · show q + 2 < h4.1
        rw [d2.1, c2.1]
        exact m.2.2
    · refine ZI2.dsw (fun x x1 x2 => ?_) (d3.sh.same fun x x1 x2 => ?_) fun kz' fd' Z' => ?_
      · show jx_up h4.2 z _ x = _
        rw [fin x (by omega), e4 x (by omega)]
      · show jx_up h4.2 z _ x = _
        rw [fin x (by omega)]
      · have q : some (.inr (8, zeO z st t sp kz' fd' ds)) = some (.inr (8, zeO z st t sp kz fd ds) : jx_E) := Z'.symm.trans Z2
        have q2 : kz' = kz ∧ fd' = fd := by
          have := congrArg (fun o : Option jx_E => match o with | some (.inr (_, [_, _, _, _, _, _, _, _, _, _, _, _, .int a, .int b, _])) => some (a, b) | _ => none) q
          simp only [zeO, Option.some.injEq, Prod.mk.injEq] at this
          exact this
        rw [q2.1, q2.2]
        exact Z5
  · have hv := hds.resolve_left hd
    refine ⟨h, ft, ?_, Nat.le_refl _, fun _ _ _ _ _ _ => rfl, fun j q _ hq => Or.inl hq, e15, MA, T, id, by rw [← hv]; exact Z⟩
    unfold FX8_distinctEverywhere BX8_distinctEverywhere_37
    rw [hgi_ob Z0 rfl, gx_bs, n1, nm1, if_neg hd, gx_bs, hv]
end
