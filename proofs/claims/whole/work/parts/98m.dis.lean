/-! the trace form: products of tables that commute -/
def monM (n p : Nat) (X Y : Nat → Nat → Nat) (i j : Nat) : Nat → Nat → Nat := mulIt n p X (powR n p Y j) i
section
variable {n p : Nat} {A B X Y : Nat → Nat → Nat} {v : Nat → Nat}
theorem bd_mon (hp2 : 2 ≤ p) {j : Nat} : ∀ i, bdM (monM n p X Y i j) n n p
  | 0 => bd_pow hp2 j
  | _ + 1 => fun _ _ _ _ => Nat.mod_lt _ (by omega)
theorem mon_act (hp2 : 2 ≤ p) {j : Nat} : ∀ i, veq n p (mulV n p (monM n p X Y i j) v) (act n p X Y i j v)
  | 0 => pow_it hp2 j
  | i + 1 => mulV_mulM.sy.tr (mulV_veq (mon_act hp2 i))
theorem mulM_col {r c : Nat} (hc : c < n) : mulM n p A B r c % p = mulV n p A (mulV n p B (uV c)) r % p := by
  show sm (fun k => A r k * B k c) n % p % p = _
  rw [Nat.mod_mod, mulV_mod]
  exact sm_lin (e := fun k => A r k) (a := fun k => B k c) fun k _ => (mulV_u hc).symm
theorem tr_mon (hp2 : 2 ≤ p) (h : cmV n p X Y) {i j i' j' : Nat} : trM n p (mulM n p (monM n p X Y i j) (monM n p X Y i' j')) = trM n p (monM n p X Y (i' + i) (j' + j)) := by
  unfold trM
  refine sm_modc fun k hk => ?_
  rw [mulM_col hk, ← mulV_u (A := monM n p X Y (i' + i) (j' + j)) (r := k) hk]
  exact ((mon_act hp2 i).tr ((act_veq (mon_act hp2 i')).tr ((act_act h).tr (mon_act hp2 (i' + i)).sy))) k hk
end
/-- the reference's matrix of traces -/
def disM (ht : Nat → Nat) (p : Nat) (X Y : Nat → Nat → Nat) : Nat → Nat → Nat := fun a b => trM (Lm ht).length p (monM (Lm ht).length p X Y (mx (Lm ht) a + mx (Lm ht) b) (my (Lm ht) a + my (Lm ht) b))
theorem bd_dis {ht : Nat → Nat} {p : Nat} {X Y : Nat → Nat → Nat} (h0 : 0 < p) {n m : Nat} : bdM (disM ht p X Y) n m p := fun _ _ _ _ => Nat.mod_lt _ h0
section
variable {S : MS} {p : Nat} {ht : Nat → Nat} {r : Nat → Nat → Nat} {pts : List (Nat × Nat)}
theorem m_distinct (H : RC (S.2 1) p ht r pts) (w : wfh ht) (hp2 : 2 ≤ p) (hp : p < 1000) (hr : ∀ b k, b < (Lb ht).length → k < (Lm ht).length → r b k < p) :
    ∃ T, gFX10_distinct S = some (nI (redG p (Lm ht).length (Lm ht).length 0 0 1 (disM ht p (tabM ht r 1 0) (tabM ht r 0 1))).1, T) ∧ (∀ q, q ≠ 28 → q ≠ 29 → T.1 q = S.1 q) ∧ ∀ j, ¬ (10 ≤ j ∧ j < 16) → T.2 j = S.2 j := by
  have l := Lm_len w
  have bX := bd_tab (p := p) (r := r) w (Or.inl ⟨rfl, rfl⟩) hp2 hr
  have bY := bd_tab (p := p) (r := r) w (Or.inr ⟨rfl, rfl⟩) hp2 hr
  obtain ⟨T1, a1, a2, a3, a4⟩ := m_laysTables H w
  generalize hn : (Lm ht).length = n at *
  generalize hD : disM ht p (tabM ht r 1 0) (tabM ht r 0 1) = D
  -- rows that were laid
  have okS : ∀ {T : MS}, only T1 T (fun b => b = 12 ∨ b = 14 ∨ b = 15) → RC (T.2 1) p ht r pts ∧ TL (T.2 10) n n (tabM ht r 1 0) ∧ TL (T.2 11) n n (tabM ht r 0 1) := by
    intro T o
    rw [o.2 1 (by decide), o.2 10 (by decide), o.2 11 (by decide), a2.2 1 (by decide)]
    exact ⟨H, a3, a4⟩
  unfold gFX10_distinct
  rw [a1, gx_bs, n0]
  have key : ∃ x, itr (fun s : Int32 × MS => gLX10_distinct_6 s.1 s.2) (nI 0, T1) = some x ∧ ∃ T, x = (nI (redG p n n 0 0 1 D).1, T) ∧ (∀ q, q ≠ 28 → q ≠ 29 → T.1 q = S.1 q) ∧ ∀ j, ¬ (10 ≤ j ∧ j < 16) → T.2 j = S.2 j := by
   refine itr_run n (fun a s => ∃ T, s = (nI a, T) ∧ only T1 T (fun b => b = 12 ∨ b = 14 ∨ b = 15) ∧ ∀ x c, x < a → c < n → T.2 15 (12 * x + c) = nI (D x c)) ⟨T1, rfl, only.rf, fun x c h _ => by omega⟩ ?_ ?_
   · rintro a s ha ⟨T, rfl, o, hT⟩
     left
     have inner : ∃ t, itr (fun s : Int32 × MS => gLX10_distinct_16 (nI a) s.1 s.2) (nI 0, T) = some t ∧ ∃ U, t = .inl (nI (a + 1), U) ∧ only T1 U (fun b => b = 12 ∨ b = 14 ∨ b = 15) ∧ ∀ x c, x < a + 1 → c < n → U.2 15 (12 * x + c) = nI (D x c) := by
       refine itr_run n (fun b s => ∃ U, s = (nI b, U) ∧ only T1 U (fun b => b = 12 ∨ b = 14 ∨ b = 15) ∧ ∀ x c, (x < a ∨ (x = a ∧ c < b)) → c < n → U.2 15 (12 * x + c) = nI (D x c)) ⟨T, rfl, o, fun x c h hc => hT x c (by omega) hc⟩ ?_ ?_
       · rintro b s hb ⟨U, rfl, oU, hU⟩
         left
         obtain ⟨R1, X1, Y1⟩ := okS oU
         have ba := Lm_at w (k := a) (by omega)
         have bb := Lm_at w (k := b) (by omega)
         obtain ⟨V, v1, v2⟩ := m_traceOf (S := U) R1.1 (by rw [← hn]; exact R1.2.1.1) hp2 hp (by omega) X1 Y1 bX bY (i := mx (Lm ht) a + mx (Lm ht) b) (j := my (Lm ht) a + my (Lm ht) b) (by omega) (by omega)
         have q1 := R1.2.1.2 a (by omega)
         have q2 := R1.2.1.2 b (by omega)
         unfold gLX10_distinct_16
         dsimp only
         rw [g_n R1.2.1, hn, gx_bs, if_neg (by rw [nI_leN (by omega) (by omega)]; omega), m_cell, gx_bs, n4, nI_add, mK_a1 (by omega), gx_bs, nI_add, mK_a1 (by omega), gx_bs, n16, nI_add, mK_a1 (by omega), gx_bs, nI_add, mK_a1 (by omega), gx_bs, q1.1, q2.1, q1.2, q2.2, nI_add, nI_add, v1, b2s, mK_s15 (by omega), gx_bs, n1, nI_add]
         refine ⟨_, rfl, _, rfl, ⟨by rw [mp1, v2.1]; exact oU.1, fun j hj => ?_⟩, fun x c hx hc => ?_⟩
         · rw [mp2, setA_o (by omega), v2.2 j (by omega)]
           exact oU.2 j hj
         · rw [mp2, setA_s]
           by_cases e : x = a ∧ c = b
           · rw [e.1, e.2, upd_s, ← hD]
             unfold disM monM
             rw [hn]
           · rw [upd_o (by omega), v2.2 15 (by decide)]
             exact hU x c (by omega) hc
       · rintro s ⟨U, rfl, oU, hU⟩
         obtain ⟨R1, X1, Y1⟩ := okS oU
         unfold gLX10_distinct_16
         dsimp only
         rw [g_n R1.2.1, hn, gx_bs, if_pos (by rw [nI_leN (by omega) (by omega)]; omega), n1, nI_add]
         exact ⟨_, rfl, U, rfl, oU, fun x c hx hc => hU x c (by omega) hc⟩
     obtain ⟨t, e, U, rfl, hU⟩ := inner
     obtain ⟨R1, X1, Y1⟩ := okS o
     unfold gLX10_distinct_6
     dsimp only
     rw [g_n R1.2.1, hn, gx_bs, if_neg (by rw [nI_leN (by omega) (by omega)]; omega), n0, e]
     exact ⟨_, rfl, U, rfl, hU⟩
   · rintro s ⟨T, rfl, o, hT⟩
     obtain ⟨R1, X1, Y1⟩ := okS o
     obtain ⟨I, g, u1, u2, u3, u4⟩ := m_reduces (S := T) (A := D) (R := n) R1.1 (by rw [← hn]; exact R1.2.1.1) hp2 hp (by omega) (by omega) (fun x c hx hc => hT x c hx hc) (by rw [← hD]; exact bd_dis (by omega))
     unfold gLX10_distinct_6
     dsimp only
     rw [g_n R1.2.1, hn, gx_bs, if_pos (by rw [nI_leN (by omega) (by omega)]; omega), gx_bs, u1, gx_bs, mp1, u2, gx_bs]
     refine ⟨_, rfl, (I, setA T.2 15 g), rfl, fun q h1 h2 => ?_, fun j hj => ?_⟩
     · rw [mp1, u4 q h1 h2, o.1, a2.1]
     · rw [mp2, setA_o (by omega), o.2 j (by omega), a2.2 j (by omega)]
  obtain ⟨x, x1, T, rfl, x2⟩ := key
  exact ⟨T, x1, x2⟩
end
