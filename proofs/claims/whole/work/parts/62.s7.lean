/-! a new State -/
theorem mp1 {a : Nat → Int32} {b : Nat → Nat → Int32} : ((a, b) : MS).1 = a := rfl
theorem mp2 {a : Nat → Int32} {b : Nat → Nat → Int32} : ((a, b) : MS).2 = b := rfl
def ms0 : MS := (fun _ => 0, fun _ _ => 0)
theorem hna_n {h : jx_H} {n : Nat} (hn : n ≤ 100000) : hna h .int (nI n) = some (h.1 + 1, jx_up h.2 h.1 (ar n (fun _ => 0))) := by
  unfold hna
  rw [nI_clamp (by omega), if_neg]
  · rfl
  · intro z
    rcases z with z | z
    · rw [n0, nI_lt0 (by omega)] at z; exact z
    · omega
theorem s_alloc {h : jx_H} : FX5_init h.1 (hno h 5 fsX5) = FX5_reset h.1 (bput sK (h.1 + 9, h.2) h.1 ms0) := by
  have key : ∀ (h16 : jx_H), h16 = bput sK (h.1 + 9, h.2) h.1 ms0 → (isO h16 h.1 5).bind (fun _ => (FX5_reset h.1 h16).bind fun h18 => some h18) = FX5_reset h.1 (bput sK (h.1 + 9, h.2) h.1 ms0) := by
    rintro h16 rfl
    rw [sK_ob, gx_bs]
    cases FX5_reset h.1 (bput sK (h.1 + 9, h.2) h.1 ms0) <;> simp
  obtain ⟨n, f⟩ := h
  unfold FX5_init hno
  rw [n13, n12, n156]
  simp (disch := omega) only [hna_n, gx_bs]
  have up1 : ∀ {g : Nat → Option jx_E} {a : Nat} {e : jx_E}, jx_up g a e a = some e := up_s
  have step : ∀ {g : Nat → Option jx_E} {m k N : Nat} {fs : List Value} {r : Nat}, g n = some (.inr (5, fs)) → n < m → k < fs.length → hp (m + 1, jx_up g m (ar N (fun _ => 0))) n 5 k (.ref r) = some (m + 1, jx_up (jx_up g m (ar N (fun _ => 0))) n (.inr (5, fs.set k (.ref r)))) := by
    intro g m k N fs r hg hm hk
    rw [hp_ob (fs := fs) (by show jx_up g m _ n = _; rw [up_o (by omega)]; exact hg) hk]
  unfold fsX5
  rw [step (fs := [.int 0, .null, .int 0, .null, .null, .int 0, .null, .null, .null, .int 0, .null, .null]) up1 (by omega) (Nat.le_of_ble_eq_true rfl), gx_bs]
  dsimp only
  rw [step up1 (by omega) (Nat.le_of_ble_eq_true rfl), gx_bs]
  dsimp only
  rw [step up1 (by omega) (Nat.le_of_ble_eq_true rfl), gx_bs]
  dsimp only
  rw [step up1 (by omega) (Nat.le_of_ble_eq_true rfl), gx_bs]
  dsimp only
  rw [step up1 (by omega) (Nat.le_of_ble_eq_true rfl), gx_bs]
  dsimp only
  rw [step up1 (by omega) (Nat.le_of_ble_eq_true rfl), gx_bs]
  dsimp only
  rw [step up1 (by omega) (Nat.le_of_ble_eq_true rfl), gx_bs]
  dsimp only
  rw [step up1 (by omega) (Nat.le_of_ble_eq_true rfl), gx_bs]
  refine key _ (Prod.ext rfl ?_)
  funext a
  show _ = (if a = n then _ else if n < a ∧ a ≤ n + 8 then some (.inl (.int, sK_L (a - n), .inl (fun _ => 0))) else f a)
  simp only [jx_up]
  by_cases h0 : a = n
  · simp only [h0, if_true]; rfl
  · simp only [if_neg h0]
    by_cases h1 : n < a ∧ a ≤ n + 8
    · rw [if_pos h1]
      obtain ⟨j, rfl⟩ : ∃ j, a = n + 1 + j := ⟨a - n - 1, by omega⟩
      have hj : j < 8 := by omega
      have hc : j = 0 ∨ j = 1 ∨ j = 2 ∨ j = 3 ∨ j = 4 ∨ j = 5 ∨ j = 6 ∨ j = 7 := by omega
      rcases hc with rfl | rfl | rfl | rfl | rfl | rfl | rfl | rfl <;> simp (config := { arith := true }) [sK_L, ar, Nat.add_sub_cancel_left, show n + 1 - n = 1 by omega, show n + 1 + 1 - n = 2 by omega, show n + 1 + 2 - n = 3 by omega, show n + 1 + 3 - n = 4 by omega, show n + 1 + 4 - n = 5 by omega, show n + 1 + 5 - n = 6 by omega, show n + 1 + 6 - n = 7 by omega, show n + 1 + 7 - n = 8 by omega]
    · rw [if_neg h1, if_neg (by omega), if_neg (by omega), if_neg (by omega), if_neg (by omega), if_neg (by omega), if_neg (by omega), if_neg (by omega), if_neg (by omega)]
def ht0 : Nat → Nat := fun k => if k = 0 then 1 else 0
theorem wfh_0 : wfh ht0 := ⟨fun i => by unfold ht0; split <;> split <;> omega, by decide, by decide, fun i h => by unfold ht0; rw [if_neg (by omega)]⟩
theorem s_reset {S : MS} : ∃ T, gFX5_reset S = some T ∧ ST T 31 ht0 (fun _ _ => 0) [] := by
  unfold gFX5_reset
  obtain ⟨U, hU⟩ : ∃ U : MS, U = gpi (((gpi S 0 (nI 31)).1, setA (setA (setA S.2 1 (fun k => if k < 13 then nI 0 else S.2 1 k)) 1 (upd (fun k => if k < 13 then nI 0 else S.2 1 k) 0 (nI 1))) 6 (fun k => if k < 156 then nI 0 else S.2 6 k)) : MS) 9 (nI 0) := ⟨_, rfl⟩
  have hh : hts U ht0 := by
    intro k hk
    rw [hU, gpi_2, mp2, setA_o (by decide), setA_s]
    unfold ht0
    by_cases e : k = 0
    · rw [if_pos e, e, upd_s]
    · rw [if_neg e, upd_o e]
      show (if _ then _ else _) = _
      rw [if_pos hk]
  obtain ⟨T, e1, e2, e3⟩ := s_listMonomials wfh_0 hh
  have run : ((some (gpi S 0 (31 : Int32))).bind fun h1 => (gfl sK h1 1 (0 : Int32)).bind fun h3 => (gas sK h3 1 (0 : Int32) (1 : Int32)).bind fun h5 => (gfl sK h5 6 (0 : Int32)).bind fun h7 => (some (gpi h7 9 (0 : Int32))).bind fun h8 => (gFX5_listMonomials h8).bind fun h10 => some h10) = some T := by
    rw [n31, n0, n1, gx_bs, sK_f1, gx_bs, sK_s1 (by omega), gx_bs, sK_f6, gx_bs, gx_bs]
    simp (disch := decide) only [setA_s, setA_o, gpi_2]
    rw [← hU, e1, gx_bs]
  refine ⟨T, run, ?_⟩
  have f0 : T.1 0 = nI 31 := by
    rw [e2.1, hU, gpi_1, upd_o (by decide), mp1, gpi_1, upd_s]
  have f9 : T.1 9 = nI 0 := by
    rw [e2.2.1, hU, gpi_1, upd_s]
  have f6 : T.2 6 = fun k => if k < 156 then nI 0 else S.2 6 k := by
    rw [e2.2.2 6 (by omega), hU, gpi_2, mp2, setA_s]
  have l := Lm_len wfh_0
  refine ⟨f0, fun k hk => ?_, e3, fun b k hb hk => ?_, f9, row2.nil⟩
  · rw [e2.2.2 1 (by omega)]; exact hh k hk
  · rw [f6]
    show (if _ then _ else _) = _
    rw [if_pos (by omega)]
/-- a new State lies at the heap's end -/
theorem s_new {h : jx_H} : ∃ T, FX5_init h.1 (hno h 5 fsX5) = some (bput sK (h.1 + 9, h.2) h.1 T) ∧ ST T 31 ht0 (fun _ _ => 0) [] := by
  obtain ⟨T, e, hT⟩ := s_reset (S := ms0)
  refine ⟨T, ?_, hT⟩
  rw [s_alloc, eFX5_reset, e, gx_ms]
