/-! the class: values of rules at a point; zeros of both sides -/
theorem s_valMon {P : MS} {p a b i j : Nat} (hP : P.1 2 = nI p) (hA : VA (P.2 1) a p) (hB : VA (P.2 2) b p) (h0 : 0 < p) (hp : p < 1000) (hi : i ≤ 12) (hj : j ≤ 12) : gFX4_valueOfMonomial (nI i) (nI j) P = some (nI (mvN p a b i j)) := by
  have q1 := Nat.mod_lt (a ^ i) h0
  have q2 := Nat.mod_lt (b ^ j) h0
  have m1' := mul_lt_k hp q1 q2
  unfold gFX4_valueOfMonomial
  rw [n12, p_out, outB_in hi (by omega), gx_bs, n0, if_pos bI_f, p_out, outB_in hj (by omega), gx_bs, if_pos bI_f, pK_a1 (by omega), gx_bs, pK_a2 (by omega), gx_bs, gx_bs, hP, hA i (by omega), hB j (by omega), nI_mul, p_resN h0 (by omega) (by omega), gx_bs]
  rfl
theorem rv_mod {x s p : Nat} : rsd (((x % p : Nat) : Int) - (s : Nat)) p = rsd ((x : Int) - (s : Nat)) p := by
  apply rsd_eq
  rw [Int.sub_emod, Int.sub_emod (x : Int) (s : Nat), Int.natCast_emod, Int.emod_emod]
section
variable {h : jx_H} {sp st p : Nat} {P S : MS} {ht : Nat → Nat} {r : Nat → Nat → Nat} {pts : List (Nat × Nat)}
theorem h_valueOf (HP : bH pK h sp P) (HS : bH sK h st S) (R : ST S p ht r pts) (w : wfh ht) (hp2 : 2 ≤ p) (hp : p < 1000) (hr : ∀ b k, b < (Lb ht).length → k < (Lm ht).length → r b k < p) {a b e : Nat} (eP : P.1 2 = nI p) (hA : VA (P.2 1) a p) (hB : VA (P.2 2) b p) (he : e < (Lb ht).length) : FX4_valueOfRule sp st (nI e) h = some (nI (rvN ht r p a b e)) := by
  have l := Lm_len w
  have hbd := Lb_at w he
  have e1 := R.2.2.1.2.2.2 e he
  have rb := rs_bound (a := a) (b := b) w hp (by omega) hr he
  have sb : sm (rsN ht r p a b e) (Lm ht).length ≤ (Lm ht).length * 1000000 := sm_bound _ fun k hk => by have := rb k hk; omega
  have mon : ∀ i j, i ≤ 12 → j ≤ 12 → FX4_valueOfMonomial sp (nI i) (nI j) h = some (nI (mvN p a b i j)) := by
    intro i j hi hj
    rw [HP.run (F := FX4_valueOfMonomial sp (nI i) (nI j)) eFX4_valueOfMonomial]
    exact s_valMon eP hA hB (by omega) hp hi hj
  have oP : isO h sp 4 = some () := isO_ob HP.1
  have oS : isO h st 5 = some () := isO_ob HS.1
  have g5 : hgi h st 5 5 = some (nI (Lb ht).length) := by rw [← R.2.2.1.2.1]; exact hgi_ob HS.1 rfl
  have g2 : hgi h st 5 2 = some (nI (Lm ht).length) := by rw [← R.2.2.1.1]; exact hgi_ob HS.1 rfl
  have gp : hgi h sp 4 2 = some (nI p) := by rw [← eP]; exact hgi_ob HP.1 rfl
  have r3 : hgr h st 5 3 = some (st + 2) := hgr_ob HS.1 rfl
  have r4 : hgr h st 5 4 = some (st + 3) := hgr_ob HS.1 rfl
  have r6 : hgr h st 5 6 = some (st + 4) := hgr_ob HS.1 rfl
  have r7 : hgr h st 5 7 = some (st + 5) := hgr_ob HS.1 rfl
  have al2 : ∀ k, k < (Lm ht).length → hal h .int (st + 2) (nI k) = some (nI (mx (Lm ht) k)) := fun k hk => by
    rw [HS.run (F := fun h => hal h .int (st + 2) (nI k)) sK_al2, sK_a2 (by omega), (R.2.2.1.2.2.1 k hk).1]
  have al3 : ∀ k, k < (Lm ht).length → hal h .int (st + 3) (nI k) = some (nI (my (Lm ht) k)) := fun k hk => by
    rw [HS.run (F := fun h => hal h .int (st + 3) (nI k)) sK_al3, sK_a3 (by omega), (R.2.2.1.2.2.1 k hk).2]
  have al4 : hal h .int (st + 4) (nI e) = some (nI (mx (Lb ht) e)) := by
    rw [HS.run (F := fun h => hal h .int (st + 4) (nI e)) sK_al4, sK_a4 (by omega), e1.1]
  have al5 : hal h .int (st + 5) (nI e) = some (nI (my (Lb ht) e)) := by
    rw [HS.run (F := fun h => hal h .int (st + 5) (nI e)) sK_al5, sK_a5 (by omega), e1.2]
  have co : ∀ k, k < (Lm ht).length → FX5_coefficient st (nI e) (nI k) h = some (nI (r e k)) := fun k hk => by
    rw [HS.run (F := FX5_coefficient st (nI e) (nI k)) eFX5_coefficient]
    exact s_coef R w he hk
  unfold FX4_valueOfRule
  rw [g5, gx_bs, n1, nI_sub (by omega), q_isOutside, p_out, outB_in (by omega) (by omega), gx_bs, n0, if_pos bI_f]
  rw [itr_sumE (f := rsN ht r p a b e) (N := (Lm ht).length) (c0 := 0) (v := nI (rvN ht r p a b e)) ?_ ?_]
  · intro c k hk
    have km := Lm_at w hk
    have rk := rb k hk
    have rlt := hr e k he hk
    unfold LX4_valueOfRule_20 BX4_valueOfRule_67
    rw [g2, gx_bs, if_neg (by rw [nI_leN (by omega) (by omega)]; omega), oS, gx_bs, co k hk, gx_bs, n0, n1, nI_add]
    by_cases h0 : r e k = 0
    · have : rsN ht r p a b e k = 0 := by unfold rsN; rw [h0, Nat.zero_mul]
      rw [if_pos (by rw [h0]), this]
      rfl
    · rw [if_neg (by rw [nI_eqN (by omega) (by omega)]; exact h0), r3, gx_bs, al2 k hk, gx_bs, r4, gx_bs, al3 k hk, gx_bs, oP, gx_bs, mon _ _ (by omega) (by omega), gx_bs, nI_mul, nI_add]
      rfl
  · have q1 : mvN p a b (mx (Lb ht) e) (my (Lb ht) e) < p := Nat.mod_lt _ (by omega)
    have hz : (nI (mvN p a b (mx (Lb ht) e) (my (Lb ht) e)) - nI (sm (rsN ht r p a b e) (Lm ht).length)).toInt = (mvN p a b (mx (Lb ht) e) (my (Lb ht) e) : Int) - (sm (rsN ht r p a b e) (Lm ht).length : Nat) := pk_sub_toInt (by omega) (by omega)
    unfold LX4_valueOfRule_20
    rw [g2, gx_bs, if_pos (by rw [nI_leN (by omega) (by omega)]; omega), r6, gx_bs, al4, gx_bs, r7, gx_bs, al5, gx_bs, oP, gx_bs, mon _ _ (by omega) (by omega), gx_bs, gp, gx_bs, Nat.zero_add, q_residue, p_res hz (by omega) (by omega) (by omega), gx_bs]
    unfold mvN
    rw [rv_mod]
    rfl
/-- all rules vanish at a point -/
def zerB (ht : Nat → Nat) (r : Nat → Nat → Nat) (p a b : Nat) : Nat → Bool
  | 0 => true
  | e + 1 => zerB ht r p a b e && decide (rvN ht r p a b e = 0)
theorem zerB_F {a b : Nat} : ∀ {e m : Nat}, e ≤ m → zerB ht r p a b e = false → zerB ht r p a b m = false := by
  intro e m hm he
  induction hm with
  | refl => exact he
  | step _ ih => show (zerB ht r p a b _ && _) = false; rw [ih]; rfl
theorem h_isZeroOf (HP : bH pK h sp P) (HS : bH sK h st S) (R : ST S p ht r pts) (w : wfh ht) (hp2 : 2 ≤ p) (hp : p < 1000) (hr : ∀ b k, b < (Lb ht).length → k < (Lm ht).length → r b k < p) {a b : Nat} (eP : P.1 2 = nI p) (hA : VA (P.2 1) a p) (hB : VA (P.2 2) b p) : FX4_isZeroOf sp st h = some (bI (zerB ht r p a b (Lb ht).length)) := by
  have l := Lm_len w
  have oP : isO h sp 4 = some () := isO_ob HP.1
  have g5 : hgi h st 5 5 = some (nI (Lb ht).length) := by rw [← R.2.2.1.2.1]; exact hgi_ob HS.1 rfl
  unfold FX4_isZeroOf
  rw [n0]
  refine itr_val (Lb ht).length (fun k s => s = nI k ∧ zerB ht r p a b k = true) ⟨rfl, rfl⟩ ?_ ?_
  · rintro e s he ⟨rfl, hz⟩
    have hb : rvN ht r p a b e < p := rsd_lt (by omega)
    unfold LX4_isZeroOf_2
    rw [g5, gx_bs, if_neg (by rw [nI_leN (by omega) (by omega)]; omega), oP, gx_bs, h_valueOf HP HS R w hp2 hp hr eP hA hB he, gx_bs, n0, n1, nI_add]
    by_cases h0 : rvN ht r p a b e = 0
    · left
      rw [if_pos (by rw [h0])]
      exact ⟨_, rfl, rfl, by show (zerB ht r p a b e && _) = true; rw [hz, decide_eq_true h0]; rfl⟩
    · right
      rw [if_neg (by rw [nI_eqN (by omega) (by omega)]; exact h0)]
      have : zerB ht r p a b (e + 1) = false := by show (zerB ht r p a b e && _) = false; rw [decide_eq_false h0, Bool.and_false]
      rw [zerB_F (show e + 1 ≤ _ by omega) this]
      rfl
  · rintro s ⟨rfl, hz⟩
    unfold LX4_isZeroOf_2
    rw [g5, gx_bs, if_pos (by rw [nI_leN (by omega) (by omega)]; omega), hz, n1]
    rfl
end
theorem m_isZero {S : MS} {p : Nat} {ht : Nat → Nat} {r : Nat → Nat → Nat} {pts : List (Nat × Nat)} (H : RC (S.2 1) p ht r pts) (w : wfh ht) (hp2 : 2 ≤ p) (hp : p < 1000) (hr : ∀ b k, b < (Lb ht).length → k < (Lm ht).length → r b k < p) {a b : Nat} (ha : a < p) (hb : b < p) : ∃ T, gFX10_isZero (nI a) (nI b) S = some (bI (zerB ht r p a b (Lb ht).length), T) ∧ only S T (fun j => j = 20 ∨ j = 21) := by
  have l := Lm_len w
  obtain ⟨T, t1, t2, t3, t4⟩ := m_laysPowers (S := S) H.1 hp2 hp ha hb
  have q1 : T.2 1 = S.2 1 := t2.2 1 (by decide)
  have H' : RC (T.2 1) p ht r pts := by rw [q1]; exact H
  unfold gFX10_isZero
  rw [t1, gx_bs, n1, n0]
  have key : itr (fun s : Int32 × Int32 => gLX10_isZero_11 s.1 s.2 T) (nI 1, nI 0) = some (bI (zerB ht r p a b (Lb ht).length), T) := by
    refine itr_val (Lb ht).length (fun k s => s = (bI (zerB ht r p a b k), nI k)) rfl ?_ ?_
    · rintro e s he rfl
      unfold gLX10_isZero_11 gBX10_isZero_40
      dsimp only
      rw [n2, mK_a1 (by omega), gx_bs, H'.2.2.1.1, if_neg (by rw [nI_leN (by omega) (by omega)]; omega), n0, n1, nI_add]
      cases hz : zerB ht r p a b e with
      | false =>
        right
        rw [if_pos bI_f, if_pos (Or.inl bI_f), zerB_F (show e ≤ _ by omega) hz]
        rfl
      | true =>
        left
        rw [if_neg (by rw [bI_0]; decide), m_valueOf H' w hp2 hp hr t3 t4 he, gx_bs]
        have hb2 : rvN ht r p a b e < p := rsd_lt (by omega)
        have ez : zerB ht r p a b (e + 1) = decide (rvN ht r p a b e = 0) := by show (zerB ht r p a b e && _) = _; rw [hz, Bool.true_and]
        by_cases h0 : rvN ht r p a b e = 0
        · rw [if_pos (by rw [h0])]
          exact ⟨_, rfl, by rw [ez, decide_eq_true h0]; rfl⟩
        · rw [if_neg (by rw [nI_eqN (by omega) (by omega)]; exact h0)]
          exact ⟨_, rfl, by rw [ez, decide_eq_false h0]; rfl⟩
    · rintro s rfl
      unfold gLX10_isZero_11
      dsimp only
      rw [n2, mK_a1 (by omega), gx_bs, H'.2.2.1.1, if_pos (by rw [nI_leN (by omega) (by omega)]; omega), n0, n1]
      rw [if_pos (by cases zerB ht r p a b (Lb ht).length <;> simp [bI])]
      rfl
  exact ⟨T, key, t2⟩
