/-! the class: traces of products, tables applied to vectors, tables filled -/
section
variable {h : jx_H} {n p : Nat} {A B : Nat → Nat → Nat}
theorem h_trace {q0 q1 H W H1 W1 : Nat} (z : SZ H W) (z1 : SZ H1 W1) (M0 : HM h q0 H W n n A) (M1 : HM h q1 H1 W1 n n B) (hn : n ≤ 12) (h0 : 0 < p) (hp : p < 1000) (hA : bdM A n n p) (hB : bdM B n n p) : FX2_traceOfProduct q0 q1 (nI p) h = some (nI (trM n p (mulM n p A B))) := by
  have b1 : ∀ r, r < n → sm (fun k => A r k * B k r) n ≤ 16000000 := fun r hr => Nat.le_of_lt (mul_bound hp hn hA hB hr hr)
  have b2 : sm (fun r => sm (fun k => A r k * B k r) n) n ≤ n * 16000000 := sm_bound n b1
  unfold FX2_traceOfProduct
  rw [n0, itr_sumE (f := fun r => sm (fun k => A r k * B k r) n) (N := n) (c0 := 0) (v := nI (trM n p (mulM n p A B))) ?_ ?_]
  · intro c r hr
    unfold LX2_traceOfProduct_5
    dsimp only
    rw [M0.gi4, gx_bs, if_neg (by rw [nI_leN (by omega) (by omega)]; omega), n0]
    rw [itr_sumE (f := fun k => A r k * B k r) (N := n) (c0 := c) (v := .inl (nI (c + sm (fun k => A r k * B k r) n), nI (r + 1))) ?_ ?_]
    · intro c k hk
      unfold LX2_traceOfProduct_17
      dsimp only
      rw [M0.gi5, gx_bs, if_neg (by rw [nI_leN (by omega) (by omega)]; omega), M0.ob, gx_bs, M0.at z hr hk, gx_bs, M1.ob, gx_bs, M1.at z1 hk hr, gx_bs, nI_mul, n1, nI_add, nI_add]
    · unfold LX2_traceOfProduct_17
      dsimp only
      rw [M0.gi5, gx_bs, if_pos (by rw [nI_leN (by omega) (by omega)]; omega), n1, nI_add]
      rfl
  · unfold LX2_traceOfProduct_5
    dsimp only
    rw [M0.gi4, gx_bs, if_pos (by rw [nI_leN (by omega) (by omega)]; omega), Nat.zero_add, q_residue, p_resN h0 (by omega) (by omega), gx_bs, tr_prod h0]
    rfl
theorem h_applyTo {q0 H W a b : Nat} {f g : Nat → Int32} {v : Nat → Nat} (z : SZ H W) (M : HM h q0 H W n n A) (ea : h.2 a = some (ar 12 f)) (eb : h.2 b = some (ar 12 g)) (hab : a ≠ b) (oa : a < q0 ∨ q0 + 2 < a) (ob : b < q0 ∨ q0 + 2 < b) (hn : n ≤ 12) (h0 : 0 < p) (hp : p < 1000) (hA : bdM A n n p) (hf : VL f n v) (hv : bdV v n p) :
    ∃ h' f' g', FX2_applyTo q0 a b (nI p) h = some h' ∧ h'.1 = h.1 ∧ (∀ x, x ≠ a → x ≠ b → h'.2 x = h.2 x) ∧ h'.2 a = some (ar 12 f') ∧ h'.2 b = some (ar 12 g') ∧ VL f' n (mulV n p A v) ∧ ∀ k, n ≤ k → f' k = f k := by
  have sb : ∀ r, r < n → sm (fun c => A r c * v c) n < 16000000 := by
    intro r hr
    have := sm_bound (f := fun c => A r c * v c) (K := 1000000) n (fun k hk => by
      have := mul_lt_k hp (hA r k hr hk) (hv k hk)
      show A r k * v k ≤ 1000000
      omega)
    omega
  have cond : (if (if nI 12 < nI 12 then nI 12 else nI 12) < (if nI n < nI n then nI n else nI n) then (if nI 12 < nI 12 then nI 12 else nI 12) else (if nI n < nI n then nI n else nI n)) = nI n := by
    have e1 : (if nI 12 < nI 12 then nI 12 else nI 12) = nI 12 := by split <;> rfl
    have e2 : (if nI n < nI n then nI n else nI n) = nI n := by split <;> rfl
    rw [e1, e2, if_neg (by rw [nI_ltN (by omega) (by omega)]; omega)]
  unfold FX2_applyTo
  rw [M.gi4, gx_bs, M.gi5, gx_bs, hlen_ar ea, gx_bs, hlen_ar eb, gx_bs, cond, n0]
  have key : ∃ t, itr (fun s : Int32 × jx_H => LX2_applyTo_26 q0 a b (nI p) (nI n) s.1 s.2) (nI 0, h) = some t ∧ ∃ f' g', t.1 = h.1 ∧ (∀ x, x ≠ a → x ≠ b → t.2 x = h.2 x) ∧ t.2 a = some (ar 12 f') ∧ t.2 b = some (ar 12 g') ∧ VL f' n (mulV n p A v) ∧ ∀ k, n ≤ k → f' k = f k := by
    refine itr_run n (fun k s => ∃ hh g', s = (nI k, hh) ∧ hh.1 = h.1 ∧ (∀ x, x ≠ b → hh.2 x = h.2 x) ∧ hh.2 b = some (ar 12 g') ∧ ∀ r, r < k → g' r = nI (mulV n p A v r)) ⟨h, g, rfl, rfl, fun _ _ => rfl, eb, fun r hr => by omega⟩ ?_ ?_
    · rintro k s hk ⟨hh, g', rfl, c1, c2, c3, c4⟩
      left
      have Mh : HM hh q0 H W n n A := M.ex (lo := b) (hi := b) ⟨c1, fun x hx => c2 x (by omega)⟩ (by omega)
      have eah : hh.2 a = some (ar 12 f) := by rw [c2 a hab]; exact ea
      unfold LX2_applyTo_26
      dsimp only
      rw [if_neg (by rw [nI_leN (by omega) (by omega)]; omega), n0]
      rw [itr_sumE (f := fun c => A k c * v c) (N := n) (c0 := 0) (v := .inl (nI (k + 1), (hh.1, jx_up hh.2 b (ar 12 (upd g' k (nI (mulV n p A v k))))))) ?_ ?_]
      · refine ⟨_, rfl, _, upd g' k (nI (mulV n p A v k)), rfl, c1, fun x hx => ?_, up_s, fun r hr => ?_⟩
        · show jx_up hh.2 b _ x = _
          rw [up_o hx]; exact c2 x hx
        · by_cases hr2 : r = k
          · rw [hr2, upd_s]
          · rw [upd_o hr2]; exact c4 r (by omega)
      · intro c q hq
        unfold LX2_applyTo_39
        dsimp only
        rw [if_neg (by rw [nI_leN (by omega) (by omega)]; omega), Mh.gr, gx_bs, Mh.gi1, gx_bs, nI_mul, nI_add, Mh.al z hk hq, gx_bs, hal_ar eah (by omega) (by omega), gx_bs, hf q hq, nI_mul, n1, nI_add, nI_add]
      · unfold LX2_applyTo_39
        dsimp only
        have := sb k hk
        rw [if_pos (by rw [nI_leN (by omega) (by omega)]; omega), Nat.zero_add, q_residue, p_resN h0 (by omega) (by omega), gx_bs, has_ar c3 (by omega) (by omega), gx_bs, n1, nI_add]
        rfl
    · rintro s ⟨hh, g', rfl, c1, c2, c3, c4⟩
      have eah : hh.2 a = some (ar 12 f) := by rw [c2 a hab]; exact ea
      unfold LX2_applyTo_26
      dsimp only
      rw [if_pos (by rw [nI_leN (by omega) (by omega)]; omega), n0, hcp_ar c3 eah hn hn (by omega), gx_bs]
      refine ⟨_, rfl, va_cpy g' f 0 0 n, g', c1, fun x hx hx2 => ?_, up_s, ?_, fun k hk => ?_, fun k hk => ?_⟩
      · show jx_up hh.2 a _ x = _
        rw [up_o hx]; exact c2 x hx2
      · show jx_up hh.2 a _ b = _
        rw [up_o (Ne.symm hab)]; exact c3
      · rw [va_cpy_lt hk]; exact c4 k hk
      · unfold va_cpy
        rw [if_neg (by omega)]
  obtain ⟨t, e, f', g', w1, w2, w3, w4, w5, w6⟩ := key
  exact ⟨t, f', g', e, w1, w2, w3, w4, w5, w6⟩
end
/-- the Tables object -/
def taO (t st : Nat) (kn df cc cr : Int32) : List Value := [.ref st, .ref (t + 1), .ref (t + 4), .ref (t + 7), .ref (t + 10), .ref (t + 13), .ref (t + 16), .ref (t + 19), .ref (t + 22), .ref (t + 25), .ref (t + 28), .ref (t + 29), .ref (t + 30), .int kn, .int df, .int cc, .int cr]
def TO (h : jx_H) (t st : Nat) (kn df cc cr : Int32) : Prop := h.2 t = some (.inr (6, taO t st kn df cc cr))
theorem TO.ex {h h' : jx_H} {t st lo hi : Nat} {kn df cc cr : Int32} (T : TO h t st kn df cc cr) (e : exc h h' lo hi) (d : t < lo ∨ hi < t) : TO h' t st kn df cc cr := by
  show h'.2 t = _
  rw [e.2 t (by omega)]
  exact T
theorem z1212 : SZ 12 12 := ⟨by omega, by omega, by omega⟩
theorem h_fillTable {h : jx_H} {t st q : Nat} {kn df cc cr : Int32} {S : MS} {p : Nat} {ht : Nat → Nat} {r : Nat → Nat → Nat} {pts : List (Nat × Nat)} (T : TO h t st kn df cc cr) (HS : bH sK h st S) (R : ST S p ht r pts) (w : wfh ht) (M : SH h q 12 12) (dt : t < q ∨ q + 2 < t) (ds : st + 8 < q ∨ q + 2 < st) {di dj : Nat} (hd : (di = 1 ∧ dj = 0) ∨ (di = 0 ∧ dj = 1)) :
    ∃ h', FX6_fillTable t q (nI di) (nI dj) h = some h' ∧ exc h h' q (q + 2) ∧ HM h' q 12 12 (Lm ht).length (Lm ht).length (tabM ht r di dj) := by
  have l := Lm_len w
  have gi2 : hgi h st 5 2 = some (nI (Lm ht).length) := by rw [← R.2.2.1.1]; exact hgi_ob HS.1 rfl
  have gr0 : hgr h t 6 0 = some st := hgr_ob T rfl
  obtain ⟨X, x1, x2⟩ := h_clear z1212 M (R' := (Lm ht).length) (C' := (Lm ht).length) l.2.1 l.2.1
  have fS : ∀ U : MS, bH sK (bput (xK 12 12) h q U) st S := fun U => HS.ex exc.bput ds
  have fT : ∀ U : MS, TO (bput (xK 12 12) h q U) t st kn df cc cr := fun U => T.ex exc.bput dt
  have fgr : ∀ U : MS, hgr (bput (xK 12 12) h q U) t 6 0 = some st := fun U => hgr_ob (fT U) rfl
  have fgi : ∀ U : MS, hgi (bput (xK 12 12) h q U) st 5 2 = some (nI (Lm ht).length) := fun U => by rw [← R.2.2.1.1]; exact hgi_ob (fS U).1 rfl
  have fob : ∀ U : MS, isO (bput (xK 12 12) h q U) st 5 = some () := fun U => isO_ob (fS U).1
  unfold FX6_fillTable
  rw [gr0, gx_bs, gi2, gx_bs, gx_bs, gi2, gx_bs, M.ob, gx_bs, x1, gx_bs, n0]
  refine itr_run (Lm ht).length (fun k s => ∃ U, s = (nI k, bput (xK 12 12) h q U) ∧ MX 12 12 U (Lm ht).length (Lm ht).length (fun row c => if c < k then tabM ht r di dj row c else 0)) ⟨X, rfl, x2.congr fun r c _ _ => by rw [if_neg (by omega)]⟩ ?_ ?_
  · rintro k s hk ⟨U, rfl, hU⟩
    left
    have km := Lm_at w hk
    have hrow := R.2.2.1.2.2.1 k hk
    have a2 : hal (bput (xK 12 12) h q U) .int (st + 2) (nI k) = some (nI (mx (Lm ht) k)) := by
      rw [(fS U).run (F := fun h => hal h .int (st + 2) (nI k)) sK_al2, sK_a2 (by omega), hrow.1]
    have a3 : hal (bput (xK 12 12) h q U) .int (st + 3) (nI k) = some (nI (my (Lm ht) k)) := by
      rw [(fS U).run (F := fun h => hal h .int (st + 3) (nI k)) sK_al3, sK_a3 (by omega), hrow.2]
    have g3 : hgr (bput (xK 12 12) h q U) st 5 3 = some (st + 2) := hgr_ob (fS U).1 rfl
    have g4 : hgr (bput (xK 12 12) h q U) st 5 4 = some (st + 3) := hgr_ob (fS U).1 rfl
    have hdd : di ≤ 1 ∧ dj ≤ 1 := by omega
    have nu : FX5_numberOf st (nI (mx (Lm ht) k + di)) (nI (my (Lm ht) k + dj)) (bput (xK 12 12) h q U) = some (ixI (Lm ht) (mx (Lm ht) k + di, my (Lm ht) k + dj)) := by
      rw [(fS U).run (F := FX5_numberOf st (nI (mx (Lm ht) k + di)) (nI (my (Lm ht) k + dj))) eFX5_numberOf]
      exact s_numberOf R w (by omega) (by omega)
    unfold LX6_fillTable_21 BX6_fillTable_145
    dsimp only
    rw [fgr, gx_bs, fgi, gx_bs, if_neg (by rw [nI_leN (by omega) (by omega)]; omega), gx_bs, g3, gx_bs, a2, gx_bs, gx_bs, g4, gx_bs, a3, gx_bs, gx_bs, fob, gx_bs, nI_add, nI_add, nu, gx_bs]
    by_cases hm : (mx (Lm ht) k + di, my (Lm ht) k + dj) ∈ Lm ht
    · have hi := List.idxOf_lt_length_of_mem hm
      obtain ⟨V, v1, v2, -⟩ := x_put (v := 1) z1212 hU hi hk
      rw [ixI_mem hm, if_neg (by rw [n1, nm1, nI_ne_m1 (by omega)]; exact id), xK_ob, gx_bs, n1, eFX2_put, v1, gx_ms, gx_bs, nI_add]
      refine ⟨_, rfl, V, rfl, v2.congr fun row c hr hc => ?_⟩
      unfold up2
      dsimp only
      by_cases h1 : c = k
      · rw [if_pos (show c < k + 1 by omega), h1]
        unfold tabM
        rw [if_pos hm]
        by_cases h2 : row = (Lm ht).idxOf (mx (Lm ht) k + di, my (Lm ht) k + dj)
        · rw [if_pos ⟨h2, rfl⟩, if_pos h2]
        · rw [if_neg (fun z => h2 z.1), if_neg h2, if_neg (show ¬ k < k by omega)]
      · rw [if_neg (fun z => h1 z.2)]
        by_cases h2 : c < k
        · rw [if_pos h2, if_pos (show c < k + 1 by omega)]
        · rw [if_neg h2, if_neg (show ¬ c < k + 1 by omega)]
    · have hb := stepB w hd hk hm
      have hi := List.idxOf_lt_length_of_mem hb
      have e1 : ixI (Lm ht) (mx (Lm ht) k + di, my (Lm ht) k + dj) = m1 := if_neg hm
      have bo : FX5_borderNumberOf st (nI (mx (Lm ht) k + di)) (nI (my (Lm ht) k + dj)) (bput (xK 12 12) h q U) = some (ixI (Lb ht) (mx (Lm ht) k + di, my (Lm ht) k + dj)) := by
        rw [(fS U).run (F := FX5_borderNumberOf st (nI (mx (Lm ht) k + di)) (nI (my (Lm ht) k + dj))) eFX5_borderNumberOf]
        exact s_borderNumberOf R w (by omega) (by omega)
      rw [e1, if_pos (by rw [n1, nm1]), gx_bs, fob, gx_bs, bo, gx_bs, ixI_mem hb, n0]
      have inner : ∃ t', itr (fun s : Int32 × jx_H => LX6_fillTable_108 t q (nI di) (nI dj) (nI k) (nI ((Lb ht).idxOf (mx (Lm ht) k + di, my (Lm ht) k + dj))) s.1 s.2) (nI 0, bput (xK 12 12) h q U) = some t' ∧ ∃ V, t' = Sum.inl (nI (k + 1), bput (xK 12 12) h q V) ∧ MX 12 12 V (Lm ht).length (Lm ht).length (fun row c => if c < k + 1 then tabM ht r di dj row c else 0) := by
        refine itr_run (Lm ht).length (fun a s => ∃ V, s = (nI a, bput (xK 12 12) h q V) ∧ MX 12 12 V (Lm ht).length (Lm ht).length (fun row c => if c < k ∨ (c = k ∧ row < a) then tabM ht r di dj row c else 0)) ⟨U, rfl, hU.congr fun row c _ _ => ?_⟩ ?_ ?_
        · by_cases h2 : c < k
          · rw [if_pos h2, if_pos (Or.inl h2)]
          · rw [if_neg h2, if_neg (by omega)]
        · rintro a s ha ⟨V, rfl, hV⟩
          left
          have co : FX5_coefficient st (nI ((Lb ht).idxOf (mx (Lm ht) k + di, my (Lm ht) k + dj))) (nI a) (bput (xK 12 12) h q V) = some (nI (r ((Lb ht).idxOf (mx (Lm ht) k + di, my (Lm ht) k + dj)) a)) := by
            rw [(fS V).run (F := FX5_coefficient st (nI ((Lb ht).idxOf (mx (Lm ht) k + di, my (Lm ht) k + dj))) (nI a)) eFX5_coefficient]
            exact s_coef R w hi ha
          obtain ⟨X2, y1, y2, -⟩ := x_put (v := r ((Lb ht).idxOf (mx (Lm ht) k + di, my (Lm ht) k + dj)) a) z1212 hV ha hk
          unfold LX6_fillTable_108
          dsimp only
          rw [fgr, gx_bs, fgi, gx_bs, if_neg (by rw [nI_leN (by omega) (by omega)]; omega), gx_bs, fob, gx_bs, co, gx_bs, xK_ob, gx_bs, eFX2_put, y1, gx_ms, gx_bs, n1, nI_add]
          refine ⟨_, rfl, X2, rfl, y2.congr fun row c hr hc => ?_⟩
          unfold up2
          dsimp only
          by_cases h1 : row = a ∧ c = k
          · rw [if_pos h1, if_pos (by omega), h1.1, h1.2]
            unfold tabM
            rw [if_neg hm]
          · rw [if_neg h1]
            by_cases h2 : c < k ∨ (c = k ∧ row < a)
            · rw [if_pos h2, if_pos (by omega)]
            · rw [if_neg h2, if_neg (by omega)]
        · rintro s ⟨V, rfl, hV⟩
          unfold LX6_fillTable_108 BX6_fillTable_145
          dsimp only
          rw [fgr, gx_bs, fgi, gx_bs, if_pos (by rw [nI_leN (by omega) (by omega)]; omega), n1, nI_add]
          refine ⟨_, rfl, V, rfl, hV.congr fun row c hr hc => ?_⟩
          by_cases h2 : c < k + 1
          · rw [if_pos h2, if_pos (by omega)]
          · rw [if_neg h2, if_neg (by omega)]
      obtain ⟨t', e2, V, rfl, hV⟩ := inner
      exact ⟨_, e2, V, rfl, hV⟩
  · rintro s ⟨U, rfl, hU⟩
    unfold LX6_fillTable_21
    dsimp only
    rw [fgr, gx_bs, fgi, gx_bs, if_pos (by rw [nI_leN (by omega) (by omega)]; omega)]
    exact ⟨_, rfl, exc.bput, U, bH.put, hU.congr fun row c _ hc => by rw [if_pos hc]⟩
