/-! bringing back; the reference's undo, save and restore -/
theorem s_bringBack {h : jx_H} {ah q0 q nx d : Nat} {f : Nat → Option Nat} {S T : MS} (HI : HIS h ah nx d f) (hn : nx < 8) (h0 : 0 < d) (hd : d ≤ 8) (HT : bH sK h q0 T) (hq : f ((nx + 7) % 8) = some q) (HS : bH sK h q S) (d1 : apart sK sK q q0) (d2 : ah + 1 < q0 ∨ q0 + 8 < ah) :
    ∃ h', FX1_bringBack ah q0 h = some h' ∧ h'.1 = h.1 ∧ HIS h' ah ((nx + 7) % 8) (d - 1) f ∧ bH sK h' q0 (cpS T S) ∧ ∀ x, x ≠ ah → (x < q0 ∨ q0 + 8 < x) → h'.2 x = h.2 x := by
  obtain ⟨e0, e1⟩ := HI
  have eo : isO h q0 5 = some () := isO_ob HT.1
  have hm : (nx + 7) % 8 < 8 := Nat.mod_lt _ (by omega)
  have g0 : (bput sK h q0 (cpS T S)).2 ah = some (.inr (1, hisO ah nx d)) := by rw [bp_else (K := sK) (by show ah < q0 ∨ q0 + 8 < ah; omega)]; exact e0
  have g1 : ((bput sK h q0 (cpS T S)).1, jx_up (bput sK h q0 (cpS T S)).2 ah (.inr (1, (hisO ah nx d).set 1 (.int (nI ((nx + 7) % 8)))))).2 ah = some (.inr (1, [.ref (ah + 1), .int (nI ((nx + 7) % 8)), .int (nI d)])) := up_s
  have hlq : hql h "BorderBasis$State" (ah + 1) (nI ((nx + 7) % 8)) = some (some q) := by rw [hql_q e1 hm (by omega), hq]
  have run : FX1_bringBack ah q0 h = some (((bput sK h q0 (cpS T S)).1, jx_up (jx_up (bput sK h q0 (cpS T S)).2 ah (.inr (1, (hisO ah nx d).set 1 (.int (nI ((nx + 7) % 8)))))) ah (.inr (1, [.ref (ah + 1), .int (nI ((nx + 7) % 8)), .int (nI d)].set 2 (.int (nI (d - 1)))))) : jx_H) := by
    unfold FX1_bringBack
    rw [hgi_ob (x := nI nx) e0 rfl, gx_bs, hgi_ob (x := nI d) e0 rfl, gx_bs, n0, n1, n8, ring_dn hn, if_neg (by rw [nI_leN (by omega) (by omega)]; omega), hgr_ob (x := ah + 1) e0 rfl, gx_bs, hlq, gx_bs]
    show ((some (ah + 1)).bind fun x6 => (hql h "BorderBasis$State" x6 (nI ((nx + 7) % 8))).bind fun x7 => oc x7 none fun q8 => (isO h q0 5).bind fun _ => (FX5_copyFrom q0 q8 h).bind fun h10 => (hp h10 ah 1 1 (.int (nI ((nx + 7) % 8)))).bind fun h11 => (hgi h11 ah 1 2).bind fun x12 => (hp h11 ah 1 2 (.int (x12 - nI 1))).bind fun h13 => some h13) = _
    rw [gx_bs, hlq, gx_bs]
    show ((isO h q0 5).bind fun _ => (FX5_copyFrom q0 q h).bind fun h10 => (hp h10 ah 1 1 (.int (nI ((nx + 7) % 8)))).bind fun h11 => (hgi h11 ah 1 2).bind fun x12 => (hp h11 ah 1 2 (.int (x12 - nI 1))).bind fun h13 => some h13) = _
    rw [eo, gx_bs, s_copyFrom HS HT d1, gx_bs, hp_ob g0 (Nat.le_of_ble_eq_true rfl), gx_bs, hgi_ob (x := nI d) g1 rfl, gx_bs, hp_ob g1 (Nat.le_of_ble_eq_true rfl), gx_bs, nI_sub (by omega)]
  refine ⟨_, run, rfl, ⟨up_s, ?_⟩, ⟨?_, fun j hj => ?_⟩, fun x x1 x2 => ?_⟩
  · show jx_up (jx_up _ ah _) ah _ (ah + 1) = _
    rw [up_o (by omega), up_o (by omega), bp_else (K := sK) (by show ah + 1 < q0 ∨ q0 + 8 < ah + 1; omega)]
    exact e1
  · show jx_up (jx_up _ ah _) ah _ q0 = _
    rw [up_o (by omega), up_o (by omega)]
    exact bp_ob
  · have hj : 1 ≤ j ∧ j ≤ 8 := hj
    show jx_up (jx_up _ ah _) ah _ (q0 + j) = _
    rw [up_o (by omega), up_o (by omega)]
    exact bp_ar (K := sK) hj
  · show jx_up (jx_up _ ah _) ah _ x = _
    rw [up_o x1, up_o x1, bp_else (K := sK) x2]
theorem m_in {x : Int32} {n : Nat} {S : MS} : gFX10_in x (nI 0) (nI n) S = some (bI (!outB x n)) := by
  unfold gFX10_in outB
  rw [n0, n1]
  by_cases h1 : x < nI 0
  · rw [if_pos h1, decide_eq_true h1]; rfl
  · rw [if_neg h1, decide_eq_false h1]
    by_cases h2 : x ≤ nI n
    · rw [if_neg (by rw [Int32.lt_iff_toInt_lt]; rw [Int32.le_iff_toInt_le] at h2; omega), decide_eq_true h2]; rfl
    · rw [if_pos (by rw [Int32.lt_iff_toInt_lt]; rw [Int32.le_iff_toInt_le] at h2; omega), decide_eq_false h2]; rfl
theorem m_undo {S : MS} {d : Nat} (hd : S.1 5 = nI d) (h0 : 0 < d) (h8 : d ≤ 8) : ∃ g, gFX10_undo S = some (nI (d - 1), ((upd (upd S.1 0 (nI 0)) 5 (nI (d - 1)), setA S.2 1 g) : MS)) ∧ ∀ q, q < 248 → g q = S.2 4 (248 * (d - 1) + q) := by
  have e5 : upd S.1 0 (nI 0) 5 = nI d := by rw [upd_o (by decide)]; exact hd
  unfold gFX10_undo
  rw [n0, gx_bs, gpi_1, e5, gx_bs, if_neg (by rw [nI_eqN (by omega) (by omega)]; omega), gx_bs, n1, nI_sub (by omega), gx_bs, gpi_1, gpi_1, upd_s, gx_bs, n248, nI_mul]
  rw [g_copies (N0 := 1984) (N1 := 248) rfl rfl (by omega) (by omega) (by omega) (by omega) (by omega), gx_bs, mp1, gpi_1, gpi_1, upd_s, gx_bs, gpi_2, gpi_2]
  refine ⟨_, rfl, fun q hq => ?_⟩
  show (if _ then _ else _) = _
  rw [if_pos (by omega), Nat.sub_zero]
theorem m_undo0 {S : MS} (hd : S.1 5 = nI 0) : gFX10_undo S = some (m1, ((upd S.1 0 (nI 0), S.2) : MS)) := by
  unfold gFX10_undo
  rw [n0, gx_bs, gpi_1, upd_o (by decide), hd, gx_bs, if_pos rfl, n1, nm1]
  rfl
theorem m_save {S : MS} {k : Nat} (hk : k ≤ 1) : ∃ g, gFX10_save (nI k) S = some ((upd S.1 0 (nI 0), setA (setA S.2 5 g) 6 (upd (S.2 6) k (vp_nar .boolean (1 : Int32)))) : MS) ∧ (∀ q, q < 248 → g (248 * k + q) = S.2 1 q) ∧ ∀ q, ¬ (248 * k ≤ q ∧ q < 248 * k + 248) → g q = S.2 5 q := by
  unfold gFX10_save gBX10_save_15
  rw [n0, n1, m_in, outB_in hk (by omega), gx_bs, if_neg (by rw [bI_0]; decide), gx_bs, gpi_1, upd_s, gx_bs, if_pos (by rw [nI_leN (by omega) (by omega)]; omega), n248, nI_mul]
  rw [g_copies (N0 := 248) (N1 := 496) rfl rfl (by omega) (by omega) (by omega) (by omega) (by omega), gx_bs, mK_s6 (by omega), gx_bs, mp1, mp2, gpi_2, setA_o (show 6 ≠ 5 by decide)]
  refine ⟨_, rfl, fun q hq => ?_, fun q hq => ?_⟩
  · show (if _ then _ else _) = _
    rw [if_pos (by omega), show 0 + (248 * k + q - 248 * k) = q by omega]
  · show (if _ then _ else _) = _
    rw [if_neg (by omega)]
theorem m_restore {S : MS} {k : Nat} (hk : k ≤ 1) (hs : S.2 6 k ≠ nI 0) : ∃ g, gFX10_restore (nI k) S = some ((upd (upd S.1 0 (nI 0)) 5 (nI 0), setA S.2 1 g) : MS) ∧ ∀ q, q < 248 → g q = S.2 5 (248 * k + q) := by
  unfold gFX10_restore gBX10_restore_28
  rw [n0, n1, m_in, outB_in hk (by omega), gx_bs, if_neg (by rw [bI_0]; decide), mK_a6 (by omega), gx_bs, if_neg hs, gx_bs, gpi_1, upd_s, gx_bs, if_pos (by rw [nI_leN (by omega) (by omega)]; omega), n248, nI_mul]
  rw [g_copies (N0 := 496) (N1 := 248) rfl rfl (by omega) (by omega) (by omega) (by omega) (by omega), gx_bs, gx_bs, gpi_2]
  refine ⟨_, rfl, fun q hq => ?_⟩
  show (if _ then _ else _) = _
  rw [if_pos (by omega), Nat.sub_zero]
