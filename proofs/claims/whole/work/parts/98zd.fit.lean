/-! the class: the border basis of points -/
def fitT (p : Nat) (pts : List (Nat × Nat)) : Nat × Nat × (Nat → Nat → Nat) × (Nat → Nat) := redF p pts.length (tri (pts.length + 1)) (tri (pts.length + 1)) 0 0 1 (valM p pts) (fun _ => 0)
def fitH (p : Nat) (pts : List (Nat × Nat)) : Nat → Nat := htP pts.length (fitT p pts).2.2.2
def fitR (p : Nat) (pts : List (Nat × Nat)) : Nat → Nat → Nat := fun b k => (fitT p pts).2.2.1 k (colN ((Lb (fitH p pts)).getD b (0, 0)))
theorem fit_RD {p : Nat} {pts : List (Nat × Nat)} (hp : p ∈ prs) : RD p pts.length (tri (pts.length + 1)) (valM p pts) (fitT p pts).2.2.1 (fitT p pts).1 (fitT p pts).2.2.2 := by
  have pb := prs_b p hp
  exact red_RD hp (bd_val (by omega))
theorem fit_all {p : Nat} {pts : List (Nat × Nat)} (hp : p ∈ prs) (hpts : pin pts p) (h1 : 1 ≤ pts.length) : wfh (fitH p pts) ∧ Lm (fitH p pts) = (List.range pts.length).map (fun k => dec ((fitT p pts).2.2.2 k)) ∧ (fitT p pts).1 = pts.length ∧ (Lm (fitH p pts)).length = pts.length := by
  obtain ⟨a, b, c⟩ := piv_ideal hp hpts h1 (fit_RD hp)
  rw [c] at a b
  refine ⟨a, b, c, ?_⟩
  show (Lm (htP pts.length (fitT p pts).2.2.2)).length = _
  rw [b, List.length_map, List.length_range]
/-- degrees in an order ideal, and in its border, by its number of monomials -/
theorem deg_m {ht : Nat → Nat} (w : wfh ht) {i j : Nat} (h : j < ht i) : i + j + 1 ≤ (Lm ht).length := by
  have h13 : i < 13 := Classical.byContradiction fun z => by have := w.2.2.2 i (by omega); omega
  have h1 := sm_cnt (f := ht) (fun a b hab => w.mono hab) i (by omega)
  have h2 := sm_le ht (show i + 1 ≤ 13 by omega)
  rw [(Lm_len w).1]
  omega
theorem deg_b {ht : Nat → Nat} (w : wfh ht) {i j : Nat} (h : (i, j) ∈ Lb ht) : i + j ≤ (Lm ht).length := by
  rcases (mem_Lb w).mp h with ⟨-, ⟨h1, h2⟩ | ⟨h1, h2⟩⟩
  · have := deg_m w h2; omega
  · have := deg_m w h2; omega
theorem Lb_mem {ht : Nat → Nat} {k : Nat} (hk : k < (Lb ht).length) : (mx (Lb ht) k, my (Lb ht) k) ∈ Lb ht := by
  unfold mx my
  rw [List.getD_eq_getElem?_getD, List.getElem?_eq_getElem hk]
  exact List.getElem_mem hk
theorem ST.one {S : MS} {p : Nat} {ht : Nat → Nat} {r : Nat → Nat → Nat} {pts : List (Nat × Nat)} (H : ST S p ht r pts) {r' : Nat → Nat → Nat} (e : ∀ b k, b < (Lb ht).length → k < (Lm ht).length → r b k = r' b k) : ST S p ht r' pts := ⟨H.1, H.2.1, H.2.2.1, fun b k hb hk => by rw [H.2.2.2.1 b k hb hk, e b k hb hk], H.2.2.2.2⟩
section
variable {h : jx_H} {f st sp tg p : Nat} {S T0 : MS} {ht : Nat → Nat} {r : Nat → Nat → Nat} {pts : List (Nat × Nat)}
theorem h_fitPoints (F : FO h f sp) (HP : ∃ P, bH pK h sp P) (HS : bH sK h st S) (R : ST S p ht r pts) (w0 : wfh ht) (hp : p ∈ prs) (hpts : pin pts p) (h1 : 1 ≤ pts.length) (V : SH h (f + 1) 12 91) (HT : bH sK h tg T0) (o0 : st + 8 < tg) (o1 : tg + 8 < sp) (o2 : sp + 2 < f) :
    ∃ h' T, FX0_fitPoints f st tg h = some h' ∧ h'.1 = h.1 ∧ (∀ x, (x < sp ∨ sp + 2 < x) → (x < f + 1 ∨ f + 3 < x) → (x < tg ∨ tg + 8 < x) → h'.2 x = h.2 x) ∧ (∃ P, bH pK h' sp P) ∧ SH h' (f + 1) 12 91 ∧ bH sK h' tg T ∧ ST T p (fitH p pts) (fitR p pts) pts := by
  have pb := prs_b p hp
  have lm := hpts.1
  have hC := tri_91 lm
  obtain ⟨w, hL, hrk, hlen⟩ := fit_all hp hpts h1
  obtain ⟨h2, a1, a2, a3, a4, a5⟩ := h_fillValues F HP HS R (by omega) (by omega) hpts V (by omega) o2
  have S2 : bH sK h2 st S := HS.same fun x a b => by have b : x ≤ st + 8 := b; exact a3 x (by omega) (by omega)
  have F2 : FO h2 f sp := by show _ = _; rw [a3 f (by omega) (by omega)]; exact F
  obtain ⟨h3, U, b1, b2, b3, b4, b5⟩ := h_reduceP z1291 a5 (by omega) (by omega) (bd_val (by omega))
  have eT : redF p pts.length (tri (pts.length + 1)) (tri (pts.length + 1)) 0 0 1 (valM p pts) (fun _ => 0) = fitT p pts := rfl
  rw [eT] at b1 b4 b5
  rw [hrk] at b1 b5
  have hpvC : ∀ k, k < pts.length → (fitT p pts).2.2.2 k < 91 := fun k hk => by have := (fit_RD (pts := pts) hp).1.2.2.1 k (by rw [hrk]; exact hk); omega
  have hfH : fitH p pts = htP pts.length (fitT p pts).2.2.2 := rfl
  have hfR : fitR p pts = fun b k => (fitT p pts).2.2.1 k (colN ((Lb (fitH p pts)).getD b (0, 0))) := rfl
  generalize (fitT p pts).2.2.2 = pv at b5 hpvC hfH
  generalize (fitT p pts).2.2.1 = B at b4 hfR
  have S3 : bH sK h3 st S := S2.ex b2 (by show st + 8 < f + 1 ∨ f + 1 + 2 < st; omega)
  have F3 : FO h3 f sp := by show _ = _; rw [b2.2 f (by omega)]; exact F2
  have T3 : bH sK h3 tg T0 := (HT.same (h' := h2) fun x a b => by have b : x ≤ tg + 8 := b; exact a3 x (by omega) (by omega)).ex b2 (by show tg + 8 < f + 1 ∨ f + 1 + 2 < tg; omega)
  have c1 := s_copyFrom S3 T3 (Or.inl (by show st + 8 < tg; omega))
  have T4 : bH sK (bput sK h3 tg (cpS T0 S)) tg (cpS T0 S) := bH.put
  have x4 : exc h3 (bput sK h3 tg (cpS T0 S)) tg (tg + 8) := exc.bput
  have R4 : ST (cpS T0 S) p ht r pts := R.cp w0 lm
  generalize bput sK h3 tg (cpS T0 S) = h4 at c1 T4 x4
  generalize cpS T0 S = T at T4 R4
  obtain ⟨g5, d1, d2⟩ := h_fill (v := nI 0) T4.s1 (by omega)
  have T5 : bH sK ((h4.1, jx_up h4.2 (tg + 1) (ar 13 g5)) : jx_H) tg (T.1, setA T.2 1 g5) := T4.up (j := 1) ⟨by omega, by show 1 ≤ 8; omega⟩
  have x5 : exc h4 ((h4.1, jx_up h4.2 (tg + 1) (ar 13 g5)) : jx_H) tg (tg + 8) := ⟨rfl, fun x hx => up_o (by omega)⟩
  generalize hh5 : ((h4.1, jx_up h4.2 (tg + 1) (ar 13 g5)) : jx_H) = h5 at T5 x5 d1
  have x35 : exc h3 h5 tg (tg + 8) := x4.tr x5
  have keep : ∀ {hh : jx_H}, exc h3 hh tg (tg + 8) → FO hh f sp ∧ bH (xK 12 91) hh (f + 1) U := fun e => ⟨by show _ = _; rw [e.2 f (by omega)]; exact F3, b3.ex e (by show f + 1 + 2 < tg ∨ tg + 8 < f + 1; omega)⟩
  have key : ∃ x, itr (fun s : Int32 × jx_H => LX0_fitPoints_33 f tg (nI pts.length) s.1 s.2) (nI 0, h5) = some x ∧ ∃ T', exc h3 x tg (tg + 8) ∧ bH sK x tg T' ∧ ST T' p (fitH p pts) (fitR p pts) pts := by
    refine itr_run pts.length (fun k s => ∃ hh g, s = (nI k, hh) ∧ exc h3 hh tg (tg + 8) ∧ bH sK hh tg (T.1, setA T.2 1 g) ∧ ∀ i, i < 13 → g i = nI (htP k pv i)) ⟨h5, g5, rfl, x35, T5, fun i hi => d2 i hi⟩ ?_ ?_
    · rintro k s hk ⟨hh, g, rfl, e1, e2, e3⟩
      left
      obtain ⟨F6, M6⟩ := keep e1
      have ds := dec_small (pv k) (hpvC k hk)
      have dsum : (dec (pv k)).1 + (dec (pv k)).2 ≤ 12 := by
        refine Classical.byContradiction fun z => ?_
        have h1 := tri_lt (d := 12) (e := (dec (pv k)).1 + (dec (pv k)).2) (j := 12) (by omega) (by omega)
        have h2 := col_dec (pv k)
        have h3 : colN (dec (pv k)) = tri ((dec (pv k)).1 + (dec (pv k)).2) + (dec (pv k)).2 := rfl
        have h4 : tri 12 = 78 := by decide
        have := hpvC k hk
        omega
      have hx := h_exponent (h := hh) dsum
      rw [show colN ((dec (pv k)).1, (dec (pv k)).2) = pv k from col_dec _] at hx
      have es1 : hh.2 (tg + 1) = some (ar 13 g) := by have := e2.s1; rw [mp2, setA_s] at this; exact this
      have r12 : hgr hh (f + 1) 2 3 = some (f + 1 + 2) := hgr_ob M6.1 rfl
      have e12 : hh.2 (f + 1 + 2) = some (ar 12 (U.2 2)) := M6.2 2 ⟨by omega, Nat.le_refl _⟩
      unfold LX0_fitPoints_33
      dsimp only
      rw [if_neg (by rw [nI_leN (by omega) (by omega)]; omega), hgr_ob (x := f + 1) F6 rfl, gx_bs, r12, gx_bs, hal_ar e12 (by omega) (by omega), gx_bs, b5 k hk, hx, gx_bs, e2.r1, gx_bs, hal_ar es1 (by omega) (by omega), gx_bs, has_ar es1 (by omega) (by omega), gx_bs, n1, nI_add]
      refine ⟨_, rfl, _, upd g (dec (pv k)).1 (g (dec (pv k)).1 + nI 1), rfl, e1.tr ⟨rfl, fun x hx => up_o (by omega)⟩, ?_, fun i hi => ?_⟩
      · have := e2.up (j := 1) (g := upd g (dec (pv k)).1 (g (dec (pv k)).1 + nI 1)) ⟨by omega, by show 1 ≤ 8; omega⟩
        rw [mp1, mp2, setA_2] at this
        exact this
      · show _ = nI (htP k pv i + (if (dec (pv k)).1 = i then 1 else 0))
        by_cases e : i = (dec (pv k)).1
        · rw [e, upd_s, e3 _ ds.1, nI_add, if_pos rfl]
        · rw [upd_o e, e3 i hi, if_neg (fun z => e z.symm), Nat.add_zero]
    · rintro s ⟨hh, g, rfl, e1, e2, e3⟩
      have hts0 : hts ((T.1, setA T.2 1 g) : MS) (fitH p pts) := fun i hi => by rw [mp2, setA_s, e3 i hi, hfH]
      obtain ⟨T6, f1, f2, f3, f4, f5, f6⟩ := s_listMonomials w hts0
      have run : FX5_listMonomials tg hh = some (bput sK hh tg T6) := by rw [e2.run (F := FX5_listMonomials tg) eFX5_listMonomials, f1, gx_ms]
      have T7 : bH sK (bput sK hh tg T6) tg T6 := bH.put
      have x7 : exc h3 (bput sK hh tg T6) tg (tg + 8) := e1.tr exc.bput
      generalize bput sK hh tg T6 = h7 at run T7 x7
      obtain ⟨g8, k1, k2⟩ := h_fill (v := nI 0) T7.s6 (by omega)
      have T8 : bH sK ((h7.1, jx_up h7.2 (tg + 6) (ar 156 g8)) : jx_H) tg (T6.1, setA T6.2 6 g8) := T7.up (j := 6) ⟨by omega, by show 6 ≤ 8; omega⟩
      have x8 : exc h3 ((h7.1, jx_up h7.2 (tg + 6) (ar 156 g8)) : jx_H) tg (tg + 8) := x7.tr ⟨rfl, fun x hx => up_o (by omega)⟩
      generalize ((h7.1, jx_up h7.2 (tg + 6) (ar 156 g8)) : jx_H) = h8 at T8 x8 k1
      have lb := (Lm_len w).2.2.2.1
      have s78 : (T6.1, setA T6.2 6 g8).2 7 = T.2 7 ∧ (T6.1, setA T6.2 6 g8).2 8 = T.2 8 := by
        refine ⟨?_, ?_⟩
        · rw [mp2, setA_o (by decide), f2.2.2 7 (by decide), mp2, setA_o (by decide)]
        · rw [mp2, setA_o (by decide), f2.2.2 8 (by decide), mp2, setA_o (by decide)]
      have R8 : ST (T6.1, setA T6.2 6 g8) p (fitH p pts) (fun _ _ => 0) pts := by
        refine ⟨by rw [mp1, f2.1]; exact R4.1, fun i hi => ?_, ⟨by rw [mp1]; exact f3, by rw [mp1]; exact f4, ?_, ?_⟩, fun b k hb hk => ?_, by rw [mp1, f2.2.1]; exact R4.2.2.2.2.1, ?_⟩
        · rw [mp2, setA_o (by decide), f2.2.2 1 (by decide)]; exact hts0 i hi
        · rw [mp2, setA_o (by decide), setA_o (by decide)]; exact f5
        · rw [mp2, setA_o (by decide), setA_o (by decide)]; exact f6
        · rw [mp2, setA_s]; exact k2 _ (by omega)
        · rw [s78.1, s78.2]; exact R4.2.2.2.2.2
      generalize ((T6.1, setA T6.2 6 g8) : MS) = T9 at T8 R8
      have outer : ∃ x, itr (fun s : Int32 × jx_H => LX0_fitPoints_86 f tg (nI pts.length) s.1 s.2) (nI 0, h8) = some x ∧ ∃ T', exc h3 x tg (tg + 8) ∧ bH sK x tg T' ∧ ST T' p (fitH p pts) (fitR p pts) pts := by
        refine itr_run (Lb (fitH p pts)).length (fun b s => ∃ hh Q rr, s = (nI b, hh) ∧ exc h3 hh tg (tg + 8) ∧ bH sK hh tg Q ∧ ST Q p (fitH p pts) rr pts ∧ ∀ x k, x < b → k < pts.length → rr x k = B k (colN ((Lb (fitH p pts)).getD x (0, 0)))) ⟨h8, T9, _, rfl, x8, T8, R8, fun x k hx => by omega⟩ ?_ ?_
        · rintro b s hb ⟨hh, Q, rr, rfl, q1, q2, q3, q4⟩
          left
          have bmem := Lb_mem hb
          have bsm := Lb_at w hb
          have cb : colN ((Lb (fitH p pts)).getD b (0, 0)) < tri (pts.length + 1) := by
            have := deg_b w bmem
            rw [hlen] at this
            exact col_C this
          have inner : ∃ x, itr (fun s : Int32 × jx_H => LX0_fitPoints_117 f tg (nI pts.length) (nI b) (nI (colN ((Lb (fitH p pts)).getD b (0, 0)))) s.1 s.2) (nI 0, hh) = some x ∧ ∃ h9 Q9 r9, x = .inl (nI (b + 1), h9) ∧ exc h3 h9 tg (tg + 8) ∧ bH sK h9 tg Q9 ∧ ST Q9 p (fitH p pts) r9 pts ∧ ∀ x k, x < b + 1 → k < pts.length → r9 x k = B k (colN ((Lb (fitH p pts)).getD x (0, 0))) := by
            refine itr_run pts.length (fun k s => ∃ h9 Q9 r9, s = (nI k, h9) ∧ exc h3 h9 tg (tg + 8) ∧ bH sK h9 tg Q9 ∧ ST Q9 p (fitH p pts) r9 pts ∧ ∀ x j, (x < b ∨ (x = b ∧ j < k)) → j < pts.length → r9 x j = B j (colN ((Lb (fitH p pts)).getD x (0, 0)))) ⟨hh, Q, rr, rfl, q1, q2, q3, fun x j hx hj => q4 x j (hx.resolve_right fun z => Nat.not_lt_zero _ z.2) hj⟩ ?_ ?_
            · rintro k s hk ⟨h9, Q9, r9, rfl, u1, u2, u3, u4⟩
              left
              obtain ⟨F9, M9⟩ := keep u1
              have HM9 : HM h9 (f + 1) 12 91 pts.length (tri (pts.length + 1)) B := ⟨U, M9, b4⟩
              obtain ⟨Q10, v1, v2⟩ := s_setCoef u3 w (v := B k (colN ((Lb (fitH p pts)).getD b (0, 0)))) hb (show k < (Lm (fitH p pts)).length by omega)
              have run2 : FX5_setCoefficient tg (nI b) (nI k) (nI (B k (colN ((Lb (fitH p pts)).getD b (0, 0))))) h9 = some (bput sK h9 tg Q10) := by rw [u2.run (F := FX5_setCoefficient tg (nI b) (nI k) (nI (B k (colN ((Lb (fitH p pts)).getD b (0, 0)))))) eFX5_setCoefficient, v1, gx_ms]
              unfold LX0_fitPoints_117
              dsimp only
              rw [if_neg (by rw [nI_leN (by omega) (by omega)]; omega), hgr_ob (x := f + 1) F9 rfl, gx_bs, HM9.ob, gx_bs, HM9.at z1291 hk cb, gx_bs, u2.o5, gx_bs, run2, gx_bs, n1, nI_add]
              refine ⟨_, rfl, _, Q10, _, rfl, u1.tr exc.bput, bH.put, v2, fun x j hx hj => ?_⟩
              by_cases e : x = b ∧ j = k
              · rw [if_pos e, e.1, e.2]
              · rw [if_neg e]; exact u4 x j (by omega) hj
            · rintro s ⟨h9, Q9, r9, rfl, u1, u2, u3, u4⟩
              unfold LX0_fitPoints_117
              dsimp only
              rw [if_pos (by rw [nI_leN (by omega) (by omega)]; omega), n1, nI_add]
              exact ⟨_, rfl, h9, Q9, r9, rfl, u1, u2, u3, fun x j hx hj => u4 x j (by omega) hj⟩
          obtain ⟨x, i1, h9, Q9, r9, rfl, i2⟩ := inner
          have g5' : hgi hh tg 5 5 = some (nI (Lb (fitH p pts)).length) := by rw [← q3.2.2.1.2.1]; exact q2.i5
          have rb := q3.2.2.1.2.2.2 b hb
          unfold LX0_fitPoints_86
          dsimp only
          rw [g5', gx_bs, if_neg (by rw [nI_leN (by omega) (by omega)]; omega), q2.r4, gx_bs, hal_ar q2.s4 (by omega) (by omega), gx_bs, q2.r5, gx_bs, hal_ar q2.s5 (by omega) (by omega), gx_bs, rb.1, rb.2, h_columnOf bsm.1 bsm.2, gx_bs, n0]
          have i1 : itr (fun s : Int32 × jx_H => LX0_fitPoints_117 f tg (nI pts.length) (nI b) (nI (colN (mx (Lb (fitH p pts)) b, my (Lb (fitH p pts)) b))) s.1 s.2) (nI 0, hh) = some (.inl (nI (b + 1), h9)) := i1
          rw [i1]
          exact ⟨_, rfl, h9, Q9, r9, rfl, i2⟩
        · rintro s ⟨hh, Q, rr, rfl, q1, q2, q3, q4⟩
          have g5' : hgi hh tg 5 5 = some (nI (Lb (fitH p pts)).length) := by rw [← q3.2.2.1.2.1]; exact q2.i5
          unfold LX0_fitPoints_86
          dsimp only
          rw [g5', gx_bs, if_pos (by rw [nI_leN (by omega) (by omega)]; omega)]
          refine ⟨_, rfl, Q, q1, q2, q3.one fun b k hb hk => ?_⟩
          rw [q4 b k hb (by omega), hfR]
      obtain ⟨x, o1', T', o2', o3', o4'⟩ := outer
      unfold LX0_fitPoints_33
      dsimp only
      rw [if_pos (by rw [nI_leN (by omega) (by omega)]; omega), e2.o5, gx_bs, run, gx_bs, T7.r6, gx_bs, n0, k1, gx_bs, o1']
      exact ⟨_, rfl, T', o2', o3', o4'⟩
  obtain ⟨x, k1, T', k2, k3, k4⟩ := key
  have g0' : hgi h2 st 5 0 = some (nI p) := by rw [← R.1]; exact S2.i0
  refine ⟨x, T', ?_, by rw [k2.1, b2.1, a2], fun y y1 y2 y3 => by rw [k2.2 y y3, b2.2 y (by omega), a3 y y1 y2], ?_, ⟨U, (keep k2).2, b4.1, b4.2.1⟩, k3, k4⟩
  · unfold FX0_fitPoints
    rw [isO_ob F, gx_bs, a1, gx_bs, hgr_ob (x := f + 1) F2 rfl, gx_bs, g0', gx_bs, a5.ob, gx_bs, b1, b2s, T3.o5, gx_bs, c1, gx_bs, T4.r1, gx_bs, n0, d1, gx_bs, k1]
  · obtain ⟨P, hP⟩ := a4
    exact ⟨P, (hP.ex b2 (by show sp + 2 < f + 1 ∨ f + 1 + 2 < sp; omega)).ex k2 (by show sp + 2 < tg ∨ tg + 8 < sp; omega)⟩
end
