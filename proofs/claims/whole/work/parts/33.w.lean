/-! the law's wrappers, a contract each -/
/-- the answer of a wrapper that has caught: 1 for the first class of its list, else 2 -/
def jx_cd (E1 E : String) : Int32 := if E = E1 then 1 else 2
set_option maxRecDepth 20000 in
theorem kcw_L_appendText : jx_mem (Cond.codeWith yL_appendText cL_appendText 4 (some .int) [(0, 9, 12, 13)]) := jx_mm4 (jx_tp 188 rfl) rfl
set_option maxRecDepth 20000 in
theorem kcast_ISE : jx_mem (Cond.castable "java/lang/IllegalStateException" "java/lang/IllegalStateException") := jx_mm4 (jx_tp 196 rfl) rfl
set_option maxRecDepth 20000 in
theorem kcw_L_truncateText : jx_mem (Cond.codeWith yL_truncateText cL_truncateText 4 (some .int) [(0, 9, 12, 18)]) := jx_mm5 (jx_tp 23 rfl) rfl
set_option maxRecDepth 20000 in
theorem kcast_IAE : jx_mem (Cond.castable "java/lang/IllegalArgumentException" "java/lang/IllegalArgumentException") := jx_mm5 (jx_tp 31 rfl) rfl
set_option maxRecDepth 20000 in
theorem kcw_L_result : jx_mem (Cond.codeWith yL_result cL_result 4 (some .int) [(0, 9, 12, 23)]) := jx_mm5 (jx_tp 46 rfl) rfl
set_option maxRecDepth 20000 in
theorem kcast_IOB : jx_mem (Cond.castable "java/lang/IndexOutOfBoundsException" "java/lang/IndexOutOfBoundsException") := jx_mm5 (jx_tp 54 rfl) rfl
set_option maxRecDepth 20000 in
theorem kcw_L_count : jx_mem (Cond.codeWith yL_count cL_count 4 (some .int) [(0, 9, 12, 18)]) := jx_mm5 (jx_tp 69 rfl) rfl
set_option maxRecDepth 20000 in
theorem kcw_L_changes : jx_mem (Cond.codeWith yL_changes cL_changes 4 (some .int) [(0, 9, 12, 18)]) := jx_mm5 (jx_tp 93 rfl) rfl
set_option maxRecDepth 20000 in
theorem kcw_L_refusal : jx_mem (Cond.codeWith yL_refusal cL_refusal 5 (some .int) [(0, 10, 13, 18)]) := jx_mm5 (jx_tp 100 rfl) rfl
set_option maxRecDepth 20000 in
theorem kcw_L_join : jx_mem (Cond.codeWith yL_join cL_join 5 (some .int) [(0, 10, 13, 18), (0, 10, 17, 13)]) := jx_mm5 (jx_tp 109 rfl) rfl
set_option maxRecDepth 20000 in
theorem kcw_L_leave : jx_mem (Cond.codeWith yL_leave cL_leave 5 (some .int) [(0, 10, 13, 18), (0, 10, 17, 13)]) := jx_mm5 (jx_tp 127 rfl) rfl
set_option maxRecDepth 20000 in
theorem kcw_L_monomial : jx_mem (Cond.codeWith yL_monomial cL_monomial 5 (some .int) [(0, 10, 13, 23), (0, 10, 17, 18)]) := jx_mm5 (jx_tp 135 rfl) rfl
set_option maxRecDepth 20000 in
theorem kcw_L_border : jx_mem (Cond.codeWith yL_border cL_border 5 (some .int) [(0, 10, 13, 23), (0, 10, 17, 18)]) := jx_mm5 (jx_tp 142 rfl) rfl
set_option maxRecDepth 20000 in
theorem kcw_L_setRule : jx_mem (Cond.codeWith yL_setRule cL_setRule 6 (some .int) [(0, 12, 15, 23), (0, 12, 19, 18)]) := jx_mm5 (jx_tp 149 rfl) rfl
set_option maxRecDepth 20000 in
theorem kcw_L_rule : jx_mem (Cond.codeWith yL_rule cL_rule 5 (some .int) [(0, 10, 13, 23)]) := jx_mm5 (jx_tp 159 rfl) rfl
set_option maxRecDepth 20000 in
theorem kcw_L_value : jx_mem (Cond.codeWith yL_value cL_value 6 (some .int) [(0, 12, 15, 23), (0, 12, 19, 18)]) := jx_mm5 (jx_tp 166 rfl) rfl
set_option maxRecDepth 20000 in
theorem kcw_L_table : jx_mem (Cond.codeWith yL_table cL_table 6 (some .int) [(0, 12, 15, 23), (0, 12, 19, 18)]) := jx_mm5 (jx_tp 175 rfl) rfl
set_option maxRecDepth 20000 in
theorem kcw_L_clash : jx_mem (Cond.codeWith yL_clash cL_clash 4 (some .int) [(0, 9, 12, 18)]) := jx_mm5 (jx_tp 186 rfl) rfl
set_option maxRecDepth 20000 in
theorem kcw_L_trace : jx_mem (Cond.codeWith yL_trace cL_trace 5 (some .int) [(0, 10, 13, 18)]) := jx_mm5 (jx_tp 197 rfl) rfl
set_option maxRecDepth 20000 in
theorem kcw_L_normal : jx_mem (Cond.codeWith yL_normal cL_normal 6 (some .int) [(0, 12, 15, 23), (0, 12, 19, 18)]) := jx_mm5 (jx_tp 213 rfl) rfl
set_option maxRecDepth 20000 in
theorem kcw_L_determinant : jx_mem (Cond.codeWith yL_determinant cL_determinant 4 (some .int) [(0, 9, 12, 18)]) := jx_mm5 (jx_tp 222 rfl) rfl
set_option maxRecDepth 20000 in
theorem kcw_L_kernel : jx_mem (Cond.codeWith yL_kernel cL_kernel 5 (some .int) [(0, 10, 13, 18)]) := jx_mm5 (jx_tp 233 rfl) rfl
set_option maxRecDepth 20000 in
theorem kcw_L_zeros : jx_mem (Cond.codeWith yL_zeros cL_zeros 4 (some .int) [(0, 9, 12, 18)]) := jx_mm6 (jx_tp 4 rfl) rfl
set_option maxRecDepth 20000 in
theorem kcw_L_zero : jx_mem (Cond.codeWith yL_zero cL_zero 5 (some .int) [(0, 10, 13, 23), (0, 10, 17, 18)]) := jx_mm6 (jx_tp 37 rfl) rfl
set_option maxRecDepth 20000 in
theorem kcw_L_multiplicity : jx_mem (Cond.codeWith yL_multiplicity cL_multiplicity 5 (some .int) [(0, 10, 13, 18)]) := jx_mm6 (jx_tp 45 rfl) rfl
set_option maxRecDepth 20000 in
theorem kcw_L_addPoint : jx_mem (Cond.codeWith yL_addPoint cL_addPoint 5 (some .int) [(0, 10, 13, 18), (0, 10, 17, 13)]) := jx_mm6 (jx_tp 56 rfl) rfl
set_option maxRecDepth 20000 in
theorem kcw_L_removePoint : jx_mem (Cond.codeWith yL_removePoint cL_removePoint 4 (some .int) [(0, 9, 12, 23)]) := jx_mm6 (jx_tp 65 rfl) rfl
set_option maxRecDepth 20000 in
theorem kcw_L_point : jx_mem (Cond.codeWith yL_point cL_point 5 (some .int) [(0, 10, 13, 23), (0, 10, 17, 18)]) := jx_mm6 (jx_tp 76 rfl) rfl
set_option maxRecDepth 20000 in
theorem kcw_L_fit : jx_mem (Cond.codeWith yL_fit cL_fit 3 (some .int) [(0, 8, 11, 13)]) := jx_mm6 (jx_tp 84 rfl) rfl
set_option maxRecDepth 20000 in
theorem kcw_L_save : jx_mem (Cond.codeWith yL_save cL_save 3 (some .int) [(0, 5, 8, 18)]) := jx_mm6 (jx_tp 91 rfl) rfl
set_option maxRecDepth 20000 in
theorem kcw_L_restore : jx_mem (Cond.codeWith yL_restore cL_restore 3 (some .int) [(0, 5, 8, 18), (0, 5, 11, 13)]) := jx_mm6 (jx_tp 98 rfl) rfl
def rmL_appendText : Room := { frames := 7, cells := 1, slots := 6, locals := 111 }
set_option maxRecDepth 20000 in
set_option maxHeartbeats 4000000 in
theorem sL_appendText {a o : Nat} {p0 : Int32} {h : jx_H} {r : (Int32 × jx_H) ⊕ (String × jx_H)} (e : FX9_appendText a p0 h = some r) (ho : isO h a 9 = some ()) (hO : ∀ v h1, r = .inl (v, h1) → ∃ h2, hls h1 o 0 v.toInt64 = some h2) (hE : ∀ E h1, r = .inr (E, h1) → E = "java/lang/IllegalStateException") : jx_Cw yL_appendText cL_appendText 4 (some .int) [(0, 9, 12, 13)] rmL_appendText [.ref a, .int p0, .ref o] h (fun r' h' => (∃ v h1 h2, r = .inl (v, h1) ∧ hls h1 o 0 v.toInt64 = some h2 ∧ some (.int 0) = r' ∧ h2 = h') ∨ (∃ E h1 sz, r = .inr (E, h1) ∧ some (.int (jx_cd "java/lang/IllegalStateException" E)) = r' ∧ h1.1 ≤ sz ∧ h' = (sz, h1.2))) := by
  refine jx_Cw.of (own := RL) (by decide) rfl (Nat.le_of_ble_eq_true rfl) (fun X C hq hr hL ht => ?_)
  refine jx_sub (lv' := [(0, .ref a), (1, .int p0), (2, .ref o)]) [0, 1, 2] rfl ?_
  refine j_aload_n C dL_appendText_0 rfl rfl ?_
  refine j_iconst (v := (0 : Int32)) C dL_appendText_1 (by decide) ?_
  refine j_aload_n C dL_appendText_2 rfl rfl ?_
  refine j_iload_n C dL_appendText_3 rfl rfl ?_
  refine j_callVX (ci := 9) (RC := RX9) (T := TX9) (N := 14) (As := [.int p0]) (b := a) (na := 1) (st := [.int 0, .ref o]) (k1 := 1) (n1 := 6) C hr (sX9_appendText e) rfl ho kL_7 kim_X9_appendText ksel_X9_appendText kini_X9 kc_X9_appendText (by decide) rfl ⟨Nat.le_of_ble_eq_true rfl, Nat.le_of_ble_eq_true rfl⟩ (Nat.le_of_ble_eq_true rfl) ⟨rfl, rfl, Nat.le_of_ble_eq_true rfl, Nat.le_of_ble_eq_true rfl⟩ dL_appendText_4 (fun r1 h1 hp => ?_) (fun E q h1 hp => ?_)
  · obtain ⟨v, h9, rfl, rfl, rfl⟩ := hp
    obtain ⟨h2, hh2⟩ := hO _ _ rfl
    show jx_J X 1 6 7 [(0, .ref a), (1, .int p0), (2, .ref o)] [.int v, .int 0, .ref o] h9
    refine j_i2l C dL_appendText_7 ?_
    refine j_last C dL_appendText_8 hh2 ?_
    refine j_goto (tgt := 15) C dL_appendText_9 (by decide) ?_
    refine j_iconst (v := (0 : Int32)) C dL_appendText_15 (by decide) ?_
    exact j_iretW C hq rfl dL_appendText_16 ⟨Nat.le_of_ble_eq_true rfl, Nat.le_of_ble_eq_true rfl⟩ (Or.inl ⟨_, _, _, rfl, hh2, rfl, rfl⟩)
  · obtain ⟨h9, sz, rfl, hsz, rfl⟩ := hp
    obtain rfl := hE _ _ rfl
    refine j_catch1 C ht rfl rfl (by decide) kL_13 kcast_ISE ?_
    refine j_astore_n (lv1 := [(3, .ref q), (0, .ref a), (1, .int p0), (2, .ref o)]) C hL dL_appendText_12 rfl (Nat.le_of_ble_eq_true rfl) rfl ?_
    refine j_iconst (v := (1 : Int32)) C dL_appendText_13 (by decide) ?_
    exact j_iretW C hq rfl dL_appendText_14 ⟨Nat.le_of_ble_eq_true rfl, Nat.le_of_ble_eq_true rfl⟩ (Or.inr ⟨_, _, sz, rfl, rfl, hsz, rfl⟩)
def rmL_truncateText : Room := { frames := 7, cells := 1, slots := 6, locals := 110 }
set_option maxRecDepth 20000 in
set_option maxHeartbeats 4000000 in
theorem sL_truncateText {a o : Nat} {p0 : Int32} {h : jx_H} {r : (Int32 × jx_H) ⊕ (String × jx_H)} (e : FX9_truncateText a p0 h = some r) (ho : isO h a 9 = some ()) (hO : ∀ v h1, r = .inl (v, h1) → ∃ h2, hls h1 o 0 v.toInt64 = some h2) (hE : ∀ E h1, r = .inr (E, h1) → E = "java/lang/IllegalArgumentException") : jx_Cw yL_truncateText cL_truncateText 4 (some .int) [(0, 9, 12, 18)] rmL_truncateText [.ref a, .int p0, .ref o] h (fun r' h' => (∃ v h1 h2, r = .inl (v, h1) ∧ hls h1 o 0 v.toInt64 = some h2 ∧ some (.int 0) = r' ∧ h2 = h') ∨ (∃ E h1 sz, r = .inr (E, h1) ∧ some (.int (jx_cd "java/lang/IllegalArgumentException" E)) = r' ∧ h1.1 ≤ sz ∧ h' = (sz, h1.2))) := by
  refine jx_Cw.of (own := RL) (by decide) rfl (Nat.le_of_ble_eq_true rfl) (fun X C hq hr hL ht => ?_)
  refine jx_sub (lv' := [(0, .ref a), (1, .int p0), (2, .ref o)]) [0, 1, 2] rfl ?_
  refine j_aload_n C dL_truncateText_0 rfl rfl ?_
  refine j_iconst (v := (0 : Int32)) C dL_truncateText_1 (by decide) ?_
  refine j_aload_n C dL_truncateText_2 rfl rfl ?_
  refine j_iload_n C dL_truncateText_3 rfl rfl ?_
  refine j_callVX (ci := 9) (RC := RX9) (T := TX9) (N := 14) (As := [.int p0]) (b := a) (na := 1) (st := [.int 0, .ref o]) (k1 := 1) (n1 := 6) C hr (sX9_truncateText e) rfl ho kL_15 kim_X9_truncateText ksel_X9_truncateText kini_X9 kc_X9_truncateText (by decide) rfl ⟨Nat.le_of_ble_eq_true rfl, Nat.le_of_ble_eq_true rfl⟩ (Nat.le_of_ble_eq_true rfl) ⟨rfl, rfl, Nat.le_of_ble_eq_true rfl, Nat.le_of_ble_eq_true rfl⟩ dL_truncateText_4 (fun r1 h1 hp => ?_) (fun E q h1 hp => ?_)
  · obtain ⟨v, h9, rfl, rfl, rfl⟩ := hp
    obtain ⟨h2, hh2⟩ := hO _ _ rfl
    show jx_J X 1 6 7 [(0, .ref a), (1, .int p0), (2, .ref o)] [.int v, .int 0, .ref o] h9
    refine j_i2l C dL_truncateText_7 ?_
    refine j_last C dL_truncateText_8 hh2 ?_
    refine j_goto (tgt := 15) C dL_truncateText_9 (by decide) ?_
    refine j_iconst (v := (0 : Int32)) C dL_truncateText_15 (by decide) ?_
    exact j_iretW C hq rfl dL_truncateText_16 ⟨Nat.le_of_ble_eq_true rfl, Nat.le_of_ble_eq_true rfl⟩ (Or.inl ⟨_, _, _, rfl, hh2, rfl, rfl⟩)
  · obtain ⟨h9, sz, rfl, hsz, rfl⟩ := hp
    obtain rfl := hE _ _ rfl
    refine j_catch1 C ht rfl rfl (by decide) kL_18 kcast_IAE ?_
    refine j_astore_n (lv1 := [(3, .ref q), (0, .ref a), (1, .int p0), (2, .ref o)]) C hL dL_truncateText_12 rfl (Nat.le_of_ble_eq_true rfl) rfl ?_
    refine j_iconst (v := (1 : Int32)) C dL_truncateText_13 (by decide) ?_
    exact j_iretW C hq rfl dL_truncateText_14 ⟨Nat.le_of_ble_eq_true rfl, Nat.le_of_ble_eq_true rfl⟩ (Or.inr ⟨_, _, sz, rfl, rfl, hsz, rfl⟩)
def rmL_result : Room := { frames := 7, cells := 1, slots := 6, locals := 110 }
set_option maxRecDepth 20000 in
set_option maxHeartbeats 4000000 in
theorem sL_result {a o : Nat} {p0 : Int32} {h : jx_H} {r : (Int32 × jx_H) ⊕ (String × jx_H)} (e : FX9_result a p0 h = some r) (ho : isO h a 9 = some ()) (hO : ∀ v h1, r = .inl (v, h1) → ∃ h2, hls h1 o 0 v.toInt64 = some h2) (hE : ∀ E h1, r = .inr (E, h1) → E = "java/lang/IndexOutOfBoundsException") : jx_Cw yL_result cL_result 4 (some .int) [(0, 9, 12, 23)] rmL_result [.ref a, .int p0, .ref o] h (fun r' h' => (∃ v h1 h2, r = .inl (v, h1) ∧ hls h1 o 0 v.toInt64 = some h2 ∧ some (.int 0) = r' ∧ h2 = h') ∨ (∃ E h1 sz, r = .inr (E, h1) ∧ some (.int (jx_cd "java/lang/IndexOutOfBoundsException" E)) = r' ∧ h1.1 ≤ sz ∧ h' = (sz, h1.2))) := by
  refine jx_Cw.of (own := RL) (by decide) rfl (Nat.le_of_ble_eq_true rfl) (fun X C hq hr hL ht => ?_)
  refine jx_sub (lv' := [(0, .ref a), (1, .int p0), (2, .ref o)]) [0, 1, 2] rfl ?_
  refine j_aload_n C dL_result_0 rfl rfl ?_
  refine j_iconst (v := (0 : Int32)) C dL_result_1 (by decide) ?_
  refine j_aload_n C dL_result_2 rfl rfl ?_
  refine j_iload_n C dL_result_3 rfl rfl ?_
  refine j_callVX (ci := 9) (RC := RX9) (T := TX9) (N := 14) (As := [.int p0]) (b := a) (na := 1) (st := [.int 0, .ref o]) (k1 := 1) (n1 := 6) C hr (sX9_result e) rfl ho kL_20 kim_X9_result ksel_X9_result kini_X9 kc_X9_result (by decide) rfl ⟨Nat.le_of_ble_eq_true rfl, Nat.le_of_ble_eq_true rfl⟩ (Nat.le_of_ble_eq_true rfl) ⟨rfl, rfl, Nat.le_of_ble_eq_true rfl, Nat.le_of_ble_eq_true rfl⟩ dL_result_4 (fun r1 h1 hp => ?_) (fun E q h1 hp => ?_)
  · obtain ⟨v, h9, rfl, rfl, rfl⟩ := hp
    obtain ⟨h2, hh2⟩ := hO _ _ rfl
    show jx_J X 1 6 7 [(0, .ref a), (1, .int p0), (2, .ref o)] [.int v, .int 0, .ref o] h9
    refine j_i2l C dL_result_7 ?_
    refine j_last C dL_result_8 hh2 ?_
    refine j_goto (tgt := 15) C dL_result_9 (by decide) ?_
    refine j_iconst (v := (0 : Int32)) C dL_result_15 (by decide) ?_
    exact j_iretW C hq rfl dL_result_16 ⟨Nat.le_of_ble_eq_true rfl, Nat.le_of_ble_eq_true rfl⟩ (Or.inl ⟨_, _, _, rfl, hh2, rfl, rfl⟩)
  · obtain ⟨h9, sz, rfl, hsz, rfl⟩ := hp
    obtain rfl := hE _ _ rfl
    refine j_catch1 C ht rfl rfl (by decide) kL_23 kcast_IOB ?_
    refine j_astore_n (lv1 := [(3, .ref q), (0, .ref a), (1, .int p0), (2, .ref o)]) C hL dL_result_12 rfl (Nat.le_of_ble_eq_true rfl) rfl ?_
    refine j_iconst (v := (1 : Int32)) C dL_result_13 (by decide) ?_
    exact j_iretW C hq rfl dL_result_14 ⟨Nat.le_of_ble_eq_true rfl, Nat.le_of_ble_eq_true rfl⟩ (Or.inr ⟨_, _, sz, rfl, rfl, hsz, rfl⟩)
def rmL_count : Room := { frames := 7, cells := 1, slots := 6, locals := 110 }
set_option maxRecDepth 20000 in
set_option maxHeartbeats 4000000 in
theorem sL_count {a o : Nat} {p0 : Int32} {h : jx_H} {r : (Int32 × jx_H) ⊕ (String × jx_H)} (e : FX9_count a p0 h = some r) (ho : isO h a 9 = some ()) (hO : ∀ v h1, r = .inl (v, h1) → ∃ h2, hls h1 o 0 v.toInt64 = some h2) (hE : ∀ E h1, r = .inr (E, h1) → E = "java/lang/IllegalArgumentException") : jx_Cw yL_count cL_count 4 (some .int) [(0, 9, 12, 18)] rmL_count [.ref a, .int p0, .ref o] h (fun r' h' => (∃ v h1 h2, r = .inl (v, h1) ∧ hls h1 o 0 v.toInt64 = some h2 ∧ some (.int 0) = r' ∧ h2 = h') ∨ (∃ E h1 sz, r = .inr (E, h1) ∧ some (.int (jx_cd "java/lang/IllegalArgumentException" E)) = r' ∧ h1.1 ≤ sz ∧ h' = (sz, h1.2))) := by
  refine jx_Cw.of (own := RL) (by decide) rfl (Nat.le_of_ble_eq_true rfl) (fun X C hq hr hL ht => ?_)
  refine jx_sub (lv' := [(0, .ref a), (1, .int p0), (2, .ref o)]) [0, 1, 2] rfl ?_
  refine j_aload_n C dL_count_0 rfl rfl ?_
  refine j_iconst (v := (0 : Int32)) C dL_count_1 (by decide) ?_
  refine j_aload_n C dL_count_2 rfl rfl ?_
  refine j_iload_n C dL_count_3 rfl rfl ?_
  refine j_callVX (ci := 9) (RC := RX9) (T := TX9) (N := 14) (As := [.int p0]) (b := a) (na := 1) (st := [.int 0, .ref o]) (k1 := 1) (n1 := 6) C hr (sX9_count e) rfl ho kL_25 kim_X9_count ksel_X9_count kini_X9 kc_X9_count (by decide) rfl ⟨Nat.le_of_ble_eq_true rfl, Nat.le_of_ble_eq_true rfl⟩ (Nat.le_of_ble_eq_true rfl) ⟨rfl, rfl, Nat.le_of_ble_eq_true rfl, Nat.le_of_ble_eq_true rfl⟩ dL_count_4 (fun r1 h1 hp => ?_) (fun E q h1 hp => ?_)
  · obtain ⟨v, h9, rfl, rfl, rfl⟩ := hp
    obtain ⟨h2, hh2⟩ := hO _ _ rfl
    show jx_J X 1 6 7 [(0, .ref a), (1, .int p0), (2, .ref o)] [.int v, .int 0, .ref o] h9
    refine j_i2l C dL_count_7 ?_
    refine j_last C dL_count_8 hh2 ?_
    refine j_goto (tgt := 15) C dL_count_9 (by decide) ?_
    refine j_iconst (v := (0 : Int32)) C dL_count_15 (by decide) ?_
    exact j_iretW C hq rfl dL_count_16 ⟨Nat.le_of_ble_eq_true rfl, Nat.le_of_ble_eq_true rfl⟩ (Or.inl ⟨_, _, _, rfl, hh2, rfl, rfl⟩)
  · obtain ⟨h9, sz, rfl, hsz, rfl⟩ := hp
    obtain rfl := hE _ _ rfl
    refine j_catch1 C ht rfl rfl (by decide) kL_18 kcast_IAE ?_
    refine j_astore_n (lv1 := [(3, .ref q), (0, .ref a), (1, .int p0), (2, .ref o)]) C hL dL_count_12 rfl (Nat.le_of_ble_eq_true rfl) rfl ?_
    refine j_iconst (v := (1 : Int32)) C dL_count_13 (by decide) ?_
    exact j_iretW C hq rfl dL_count_14 ⟨Nat.le_of_ble_eq_true rfl, Nat.le_of_ble_eq_true rfl⟩ (Or.inr ⟨_, _, sz, rfl, rfl, hsz, rfl⟩)
def rmL_changes : Room := { frames := 7, cells := 1, slots := 6, locals := 110 }
set_option maxRecDepth 20000 in
set_option maxHeartbeats 4000000 in
theorem sL_changes {a o : Nat} {p0 : Int32} {h : jx_H} {r : (Int32 × jx_H) ⊕ (String × jx_H)} (e : FX9_changes a p0 h = some r) (ho : isO h a 9 = some ()) (hO : ∀ v h1, r = .inl (v, h1) → ∃ h2, hls h1 o 0 v.toInt64 = some h2) (hE : ∀ E h1, r = .inr (E, h1) → E = "java/lang/IllegalArgumentException") : jx_Cw yL_changes cL_changes 4 (some .int) [(0, 9, 12, 18)] rmL_changes [.ref a, .int p0, .ref o] h (fun r' h' => (∃ v h1 h2, r = .inl (v, h1) ∧ hls h1 o 0 v.toInt64 = some h2 ∧ some (.int 0) = r' ∧ h2 = h') ∨ (∃ E h1 sz, r = .inr (E, h1) ∧ some (.int (jx_cd "java/lang/IllegalArgumentException" E)) = r' ∧ h1.1 ≤ sz ∧ h' = (sz, h1.2))) := by
  refine jx_Cw.of (own := RL) (by decide) rfl (Nat.le_of_ble_eq_true rfl) (fun X C hq hr hL ht => ?_)
  refine jx_sub (lv' := [(0, .ref a), (1, .int p0), (2, .ref o)]) [0, 1, 2] rfl ?_
  refine j_aload_n C dL_changes_0 rfl rfl ?_
  refine j_iconst (v := (0 : Int32)) C dL_changes_1 (by decide) ?_
  refine j_aload_n C dL_changes_2 rfl rfl ?_
  refine j_iload_n C dL_changes_3 rfl rfl ?_
  refine j_callVX (ci := 9) (RC := RX9) (T := TX9) (N := 14) (As := [.int p0]) (b := a) (na := 1) (st := [.int 0, .ref o]) (k1 := 1) (n1 := 6) C hr (sX9_changes e) rfl ho kL_28 kim_X9_changes ksel_X9_changes kini_X9 kc_X9_changes (by decide) rfl ⟨Nat.le_of_ble_eq_true rfl, Nat.le_of_ble_eq_true rfl⟩ (Nat.le_of_ble_eq_true rfl) ⟨rfl, rfl, Nat.le_of_ble_eq_true rfl, Nat.le_of_ble_eq_true rfl⟩ dL_changes_4 (fun r1 h1 hp => ?_) (fun E q h1 hp => ?_)
  · obtain ⟨v, h9, rfl, rfl, rfl⟩ := hp
    obtain ⟨h2, hh2⟩ := hO _ _ rfl
    show jx_J X 1 6 7 [(0, .ref a), (1, .int p0), (2, .ref o)] [.int v, .int 0, .ref o] h9
    refine j_i2l C dL_changes_7 ?_
    refine j_last C dL_changes_8 hh2 ?_
    refine j_goto (tgt := 15) C dL_changes_9 (by decide) ?_
    refine j_iconst (v := (0 : Int32)) C dL_changes_15 (by decide) ?_
    exact j_iretW C hq rfl dL_changes_16 ⟨Nat.le_of_ble_eq_true rfl, Nat.le_of_ble_eq_true rfl⟩ (Or.inl ⟨_, _, _, rfl, hh2, rfl, rfl⟩)
  · obtain ⟨h9, sz, rfl, hsz, rfl⟩ := hp
    obtain rfl := hE _ _ rfl
    refine j_catch1 C ht rfl rfl (by decide) kL_18 kcast_IAE ?_
    refine j_astore_n (lv1 := [(3, .ref q), (0, .ref a), (1, .int p0), (2, .ref o)]) C hL dL_changes_12 rfl (Nat.le_of_ble_eq_true rfl) rfl ?_
    refine j_iconst (v := (1 : Int32)) C dL_changes_13 (by decide) ?_
    exact j_iretW C hq rfl dL_changes_14 ⟨Nat.le_of_ble_eq_true rfl, Nat.le_of_ble_eq_true rfl⟩ (Or.inr ⟨_, _, sz, rfl, rfl, hsz, rfl⟩)
def rmL_refusal : Room := { frames := 7, cells := 1, slots := 6, locals := 111 }
set_option maxRecDepth 20000 in
set_option maxHeartbeats 4000000 in
theorem sL_refusal {a o : Nat} {p0 p1 : Int32} {h : jx_H} {r : (Int32 × jx_H) ⊕ (String × jx_H)} (e : FX9_refusal a p0 p1 h = some r) (ho : isO h a 9 = some ()) (hO : ∀ v h1, r = .inl (v, h1) → ∃ h2, hls h1 o 0 v.toInt64 = some h2) (hE : ∀ E h1, r = .inr (E, h1) → E = "java/lang/IllegalArgumentException") : jx_Cw yL_refusal cL_refusal 5 (some .int) [(0, 10, 13, 18)] rmL_refusal [.ref a, .int p0, .int p1, .ref o] h (fun r' h' => (∃ v h1 h2, r = .inl (v, h1) ∧ hls h1 o 0 v.toInt64 = some h2 ∧ some (.int 0) = r' ∧ h2 = h') ∨ (∃ E h1 sz, r = .inr (E, h1) ∧ some (.int (jx_cd "java/lang/IllegalArgumentException" E)) = r' ∧ h1.1 ≤ sz ∧ h' = (sz, h1.2))) := by
  refine jx_Cw.of (own := RL) (by decide) rfl (Nat.le_of_ble_eq_true rfl) (fun X C hq hr hL ht => ?_)
  refine jx_sub (lv' := [(0, .ref a), (1, .int p0), (2, .int p1), (3, .ref o)]) [0, 1, 2, 3] rfl ?_
  refine j_aload_n C dL_refusal_0 rfl rfl ?_
  refine j_iconst (v := (0 : Int32)) C dL_refusal_1 (by decide) ?_
  refine j_aload_n C dL_refusal_2 rfl rfl ?_
  refine j_iload_n C dL_refusal_3 rfl rfl ?_
  refine j_iload_n C dL_refusal_4 rfl rfl ?_
  refine j_callVX (ci := 9) (RC := RX9) (T := TX9) (N := 14) (As := [.int p0, .int p1]) (b := a) (na := 2) (st := [.int 0, .ref o]) (k1 := 1) (n1 := 6) C hr (sX9_refusal e) rfl ho kL_31 kim_X9_refusal ksel_X9_refusal kini_X9 kc_X9_refusal (by decide) rfl ⟨Nat.le_of_ble_eq_true rfl, Nat.le_of_ble_eq_true rfl⟩ (Nat.le_of_ble_eq_true rfl) ⟨rfl, rfl, Nat.le_of_ble_eq_true rfl, Nat.le_of_ble_eq_true rfl⟩ dL_refusal_5 (fun r1 h1 hp => ?_) (fun E q h1 hp => ?_)
  · obtain ⟨v, h9, rfl, rfl, rfl⟩ := hp
    obtain ⟨h2, hh2⟩ := hO _ _ rfl
    show jx_J X 1 6 8 [(0, .ref a), (1, .int p0), (2, .int p1), (3, .ref o)] [.int v, .int 0, .ref o] h9
    refine j_i2l C dL_refusal_8 ?_
    refine j_last C dL_refusal_9 hh2 ?_
    refine j_goto (tgt := 17) C dL_refusal_10 (by decide) ?_
    refine j_iconst (v := (0 : Int32)) C dL_refusal_17 (by decide) ?_
    exact j_iretW C hq rfl dL_refusal_18 ⟨Nat.le_of_ble_eq_true rfl, Nat.le_of_ble_eq_true rfl⟩ (Or.inl ⟨_, _, _, rfl, hh2, rfl, rfl⟩)
  · obtain ⟨h9, sz, rfl, hsz, rfl⟩ := hp
    obtain rfl := hE _ _ rfl
    refine j_catch1 C ht rfl rfl (by decide) kL_18 kcast_IAE ?_
    refine j_astore (lv1 := [(4, .ref q), (0, .ref a), (1, .int p0), (2, .int p1), (3, .ref o)]) C hL dL_refusal_13 (Nat.le_of_ble_eq_true rfl) rfl ?_
    refine j_iconst (v := (1 : Int32)) C dL_refusal_15 (by decide) ?_
    exact j_iretW C hq rfl dL_refusal_16 ⟨Nat.le_of_ble_eq_true rfl, Nat.le_of_ble_eq_true rfl⟩ (Or.inr ⟨_, _, sz, rfl, rfl, hsz, rfl⟩)
def rmL_join : Room := { frames := 8, cells := 9, slots := 255, locals := 170 }
set_option maxRecDepth 20000 in
set_option maxHeartbeats 4000000 in
theorem sL_join {a o : Nat} {p0 p1 : Int32} {h : jx_H} {r : (Int32 × jx_H) ⊕ (String × jx_H)} (e : FX9_join a p0 p1 h = some r) (ho : isO h a 9 = some ()) (hO : ∀ v h1, r = .inl (v, h1) → ∃ h2, hls h1 o 0 v.toInt64 = some h2) (hE : ∀ E h1, r = .inr (E, h1) → E = "java/lang/IllegalArgumentException" ∨ E = "java/lang/IllegalStateException") : jx_Cw yL_join cL_join 5 (some .int) [(0, 10, 13, 18), (0, 10, 17, 13)] rmL_join [.ref a, .int p0, .int p1, .ref o] h (fun r' h' => (∃ v h1 h2, r = .inl (v, h1) ∧ hls h1 o 0 v.toInt64 = some h2 ∧ some (.int 0) = r' ∧ h2 = h') ∨ (∃ E h1 sz, r = .inr (E, h1) ∧ some (.int (jx_cd "java/lang/IllegalArgumentException" E)) = r' ∧ h1.1 ≤ sz ∧ h' = (sz, h1.2))) := by
  refine jx_Cw.of (own := RL) (by decide) rfl (Nat.le_of_ble_eq_true rfl) (fun X C hq hr hL ht => ?_)
  refine jx_sub (lv' := [(0, .ref a), (1, .int p0), (2, .int p1), (3, .ref o)]) [0, 1, 2, 3] rfl ?_
  refine j_aload_n C dL_join_0 rfl rfl ?_
  refine j_iconst (v := (0 : Int32)) C dL_join_1 (by decide) ?_
  refine j_aload_n C dL_join_2 rfl rfl ?_
  refine j_iload_n C dL_join_3 rfl rfl ?_
  refine j_iload_n C dL_join_4 rfl rfl ?_
  refine j_callVX (ci := 9) (RC := RX9) (T := TX9) (N := 14) (As := [.int p0, .int p1]) (b := a) (na := 2) (st := [.int 0, .ref o]) (k1 := 9) (n1 := 255) C hr (sX9_join e) rfl ho kL_35 kim_X9_join ksel_X9_join kini_X9 kc_X9_join (by decide) rfl ⟨Nat.le_of_ble_eq_true rfl, Nat.le_of_ble_eq_true rfl⟩ (Nat.le_of_ble_eq_true rfl) ⟨rfl, rfl, Nat.le_of_ble_eq_true rfl, Nat.le_of_ble_eq_true rfl⟩ dL_join_5 (fun r1 h1 hp => ?_) (fun E q h1 hp => ?_)
  · obtain ⟨v, h9, rfl, rfl, rfl⟩ := hp
    obtain ⟨h2, hh2⟩ := hO _ _ rfl
    show jx_J X 9 255 8 [(0, .ref a), (1, .int p0), (2, .int p1), (3, .ref o)] [.int v, .int 0, .ref o] h9
    refine j_i2l C dL_join_8 ?_
    refine j_last C dL_join_9 hh2 ?_
    refine j_goto (tgt := 21) C dL_join_10 (by decide) ?_
    refine j_iconst (v := (0 : Int32)) C dL_join_21 (by decide) ?_
    exact j_iretW C hq rfl dL_join_22 ⟨Nat.le_of_ble_eq_true rfl, Nat.le_of_ble_eq_true rfl⟩ (Or.inl ⟨_, _, _, rfl, hh2, rfl, rfl⟩)
  · obtain ⟨h9, sz, rfl, hsz, rfl⟩ := hp
    rcases hE _ _ rfl with rfl | rfl
    · refine j_catch1 C ht rfl rfl (by decide) kL_18 kcast_IAE ?_
      refine j_astore (lv1 := [(4, .ref q), (0, .ref a), (1, .int p0), (2, .int p1), (3, .ref o)]) C hL dL_join_13 (Nat.le_of_ble_eq_true rfl) rfl ?_
      refine j_iconst (v := (1 : Int32)) C dL_join_15 (by decide) ?_
      exact j_iretW C hq rfl dL_join_16 ⟨Nat.le_of_ble_eq_true rfl, Nat.le_of_ble_eq_true rfl⟩ (Or.inr ⟨_, _, sz, rfl, rfl, hsz, rfl⟩)
    · refine j_catch2 C ht rfl (by decide) kL_18 (by decide) rfl (by decide) kL_13 kcast_ISE ?_
      refine j_astore (lv1 := [(4, .ref q), (0, .ref a), (1, .int p0), (2, .int p1), (3, .ref o)]) C hL dL_join_17 (Nat.le_of_ble_eq_true rfl) rfl ?_
      refine j_iconst (v := (2 : Int32)) C dL_join_19 (by decide) ?_
      exact j_iretW C hq rfl dL_join_20 ⟨Nat.le_of_ble_eq_true rfl, Nat.le_of_ble_eq_true rfl⟩ (Or.inr ⟨_, _, sz, rfl, rfl, hsz, rfl⟩)
def rmL_leave : Room := { frames := 8, cells := 9, slots := 255, locals := 171 }
set_option maxRecDepth 20000 in
set_option maxHeartbeats 4000000 in
theorem sL_leave {a o : Nat} {p0 p1 : Int32} {h : jx_H} {r : (Int32 × jx_H) ⊕ (String × jx_H)} (e : FX9_leave a p0 p1 h = some r) (ho : isO h a 9 = some ()) (hO : ∀ v h1, r = .inl (v, h1) → ∃ h2, hls h1 o 0 v.toInt64 = some h2) (hE : ∀ E h1, r = .inr (E, h1) → E = "java/lang/IllegalArgumentException" ∨ E = "java/lang/IllegalStateException") : jx_Cw yL_leave cL_leave 5 (some .int) [(0, 10, 13, 18), (0, 10, 17, 13)] rmL_leave [.ref a, .int p0, .int p1, .ref o] h (fun r' h' => (∃ v h1 h2, r = .inl (v, h1) ∧ hls h1 o 0 v.toInt64 = some h2 ∧ some (.int 0) = r' ∧ h2 = h') ∨ (∃ E h1 sz, r = .inr (E, h1) ∧ some (.int (jx_cd "java/lang/IllegalArgumentException" E)) = r' ∧ h1.1 ≤ sz ∧ h' = (sz, h1.2))) := by
  refine jx_Cw.of (own := RL) (by decide) rfl (Nat.le_of_ble_eq_true rfl) (fun X C hq hr hL ht => ?_)
  refine jx_sub (lv' := [(0, .ref a), (1, .int p0), (2, .int p1), (3, .ref o)]) [0, 1, 2, 3] rfl ?_
  refine j_aload_n C dL_leave_0 rfl rfl ?_
  refine j_iconst (v := (0 : Int32)) C dL_leave_1 (by decide) ?_
  refine j_aload_n C dL_leave_2 rfl rfl ?_
  refine j_iload_n C dL_leave_3 rfl rfl ?_
  refine j_iload_n C dL_leave_4 rfl rfl ?_
  refine j_callVX (ci := 9) (RC := RX9) (T := TX9) (N := 14) (As := [.int p0, .int p1]) (b := a) (na := 2) (st := [.int 0, .ref o]) (k1 := 9) (n1 := 255) C hr (sX9_leave e) rfl ho kL_38 kim_X9_leave ksel_X9_leave kini_X9 kc_X9_leave (by decide) rfl ⟨Nat.le_of_ble_eq_true rfl, Nat.le_of_ble_eq_true rfl⟩ (Nat.le_of_ble_eq_true rfl) ⟨rfl, rfl, Nat.le_of_ble_eq_true rfl, Nat.le_of_ble_eq_true rfl⟩ dL_leave_5 (fun r1 h1 hp => ?_) (fun E q h1 hp => ?_)
  · obtain ⟨v, h9, rfl, rfl, rfl⟩ := hp
    obtain ⟨h2, hh2⟩ := hO _ _ rfl
    show jx_J X 9 255 8 [(0, .ref a), (1, .int p0), (2, .int p1), (3, .ref o)] [.int v, .int 0, .ref o] h9
    refine j_i2l C dL_leave_8 ?_
    refine j_last C dL_leave_9 hh2 ?_
    refine j_goto (tgt := 21) C dL_leave_10 (by decide) ?_
    refine j_iconst (v := (0 : Int32)) C dL_leave_21 (by decide) ?_
    exact j_iretW C hq rfl dL_leave_22 ⟨Nat.le_of_ble_eq_true rfl, Nat.le_of_ble_eq_true rfl⟩ (Or.inl ⟨_, _, _, rfl, hh2, rfl, rfl⟩)
  · obtain ⟨h9, sz, rfl, hsz, rfl⟩ := hp
    rcases hE _ _ rfl with rfl | rfl
    · refine j_catch1 C ht rfl rfl (by decide) kL_18 kcast_IAE ?_
      refine j_astore (lv1 := [(4, .ref q), (0, .ref a), (1, .int p0), (2, .int p1), (3, .ref o)]) C hL dL_leave_13 (Nat.le_of_ble_eq_true rfl) rfl ?_
      refine j_iconst (v := (1 : Int32)) C dL_leave_15 (by decide) ?_
      exact j_iretW C hq rfl dL_leave_16 ⟨Nat.le_of_ble_eq_true rfl, Nat.le_of_ble_eq_true rfl⟩ (Or.inr ⟨_, _, sz, rfl, rfl, hsz, rfl⟩)
    · refine j_catch2 C ht rfl (by decide) kL_18 (by decide) rfl (by decide) kL_13 kcast_ISE ?_
      refine j_astore (lv1 := [(4, .ref q), (0, .ref a), (1, .int p0), (2, .int p1), (3, .ref o)]) C hL dL_leave_17 (Nat.le_of_ble_eq_true rfl) rfl ?_
      refine j_iconst (v := (2 : Int32)) C dL_leave_19 (by decide) ?_
      exact j_iretW C hq rfl dL_leave_20 ⟨Nat.le_of_ble_eq_true rfl, Nat.le_of_ble_eq_true rfl⟩ (Or.inr ⟨_, _, sz, rfl, rfl, hsz, rfl⟩)
def rmL_monomial : Room := { frames := 7, cells := 1, slots := 6, locals := 111 }
set_option maxRecDepth 20000 in
set_option maxHeartbeats 4000000 in
theorem sL_monomial {a o : Nat} {p0 p1 : Int32} {h : jx_H} {r : (Int32 × jx_H) ⊕ (String × jx_H)} (e : FX9_monomial a p0 p1 h = some r) (ho : isO h a 9 = some ()) (hO : ∀ v h1, r = .inl (v, h1) → ∃ h2, hls h1 o 0 v.toInt64 = some h2) (hE : ∀ E h1, r = .inr (E, h1) → E = "java/lang/IndexOutOfBoundsException" ∨ E = "java/lang/IllegalArgumentException") : jx_Cw yL_monomial cL_monomial 5 (some .int) [(0, 10, 13, 23), (0, 10, 17, 18)] rmL_monomial [.ref a, .int p0, .int p1, .ref o] h (fun r' h' => (∃ v h1 h2, r = .inl (v, h1) ∧ hls h1 o 0 v.toInt64 = some h2 ∧ some (.int 0) = r' ∧ h2 = h') ∨ (∃ E h1 sz, r = .inr (E, h1) ∧ some (.int (jx_cd "java/lang/IndexOutOfBoundsException" E)) = r' ∧ h1.1 ≤ sz ∧ h' = (sz, h1.2))) := by
  refine jx_Cw.of (own := RL) (by decide) rfl (Nat.le_of_ble_eq_true rfl) (fun X C hq hr hL ht => ?_)
  refine jx_sub (lv' := [(0, .ref a), (1, .int p0), (2, .int p1), (3, .ref o)]) [0, 1, 2, 3] rfl ?_
  refine j_aload_n C dL_monomial_0 rfl rfl ?_
  refine j_iconst (v := (0 : Int32)) C dL_monomial_1 (by decide) ?_
  refine j_aload_n C dL_monomial_2 rfl rfl ?_
  refine j_iload_n C dL_monomial_3 rfl rfl ?_
  refine j_iload_n C dL_monomial_4 rfl rfl ?_
  refine j_callVX (ci := 9) (RC := RX9) (T := TX9) (N := 14) (As := [.int p0, .int p1]) (b := a) (na := 2) (st := [.int 0, .ref o]) (k1 := 1) (n1 := 6) C hr (sX9_monomial e) rfl ho kL_41 kim_X9_monomial ksel_X9_monomial kini_X9 kc_X9_monomial (by decide) rfl ⟨Nat.le_of_ble_eq_true rfl, Nat.le_of_ble_eq_true rfl⟩ (Nat.le_of_ble_eq_true rfl) ⟨rfl, rfl, Nat.le_of_ble_eq_true rfl, Nat.le_of_ble_eq_true rfl⟩ dL_monomial_5 (fun r1 h1 hp => ?_) (fun E q h1 hp => ?_)
  · obtain ⟨v, h9, rfl, rfl, rfl⟩ := hp
    obtain ⟨h2, hh2⟩ := hO _ _ rfl
    show jx_J X 1 6 8 [(0, .ref a), (1, .int p0), (2, .int p1), (3, .ref o)] [.int v, .int 0, .ref o] h9
    refine j_i2l C dL_monomial_8 ?_
    refine j_last C dL_monomial_9 hh2 ?_
    refine j_goto (tgt := 21) C dL_monomial_10 (by decide) ?_
    refine j_iconst (v := (0 : Int32)) C dL_monomial_21 (by decide) ?_
    exact j_iretW C hq rfl dL_monomial_22 ⟨Nat.le_of_ble_eq_true rfl, Nat.le_of_ble_eq_true rfl⟩ (Or.inl ⟨_, _, _, rfl, hh2, rfl, rfl⟩)
  · obtain ⟨h9, sz, rfl, hsz, rfl⟩ := hp
    rcases hE _ _ rfl with rfl | rfl
    · refine j_catch1 C ht rfl rfl (by decide) kL_23 kcast_IOB ?_
      refine j_astore (lv1 := [(4, .ref q), (0, .ref a), (1, .int p0), (2, .int p1), (3, .ref o)]) C hL dL_monomial_13 (Nat.le_of_ble_eq_true rfl) rfl ?_
      refine j_iconst (v := (1 : Int32)) C dL_monomial_15 (by decide) ?_
      exact j_iretW C hq rfl dL_monomial_16 ⟨Nat.le_of_ble_eq_true rfl, Nat.le_of_ble_eq_true rfl⟩ (Or.inr ⟨_, _, sz, rfl, rfl, hsz, rfl⟩)
    · refine j_catch2 C ht rfl (by decide) kL_23 (by decide) rfl (by decide) kL_18 kcast_IAE ?_
      refine j_astore (lv1 := [(4, .ref q), (0, .ref a), (1, .int p0), (2, .int p1), (3, .ref o)]) C hL dL_monomial_17 (Nat.le_of_ble_eq_true rfl) rfl ?_
      refine j_iconst (v := (2 : Int32)) C dL_monomial_19 (by decide) ?_
      exact j_iretW C hq rfl dL_monomial_20 ⟨Nat.le_of_ble_eq_true rfl, Nat.le_of_ble_eq_true rfl⟩ (Or.inr ⟨_, _, sz, rfl, rfl, hsz, rfl⟩)
def rmL_border : Room := { frames := 7, cells := 1, slots := 6, locals := 111 }
set_option maxRecDepth 20000 in
set_option maxHeartbeats 4000000 in
theorem sL_border {a o : Nat} {p0 p1 : Int32} {h : jx_H} {r : (Int32 × jx_H) ⊕ (String × jx_H)} (e : FX9_border a p0 p1 h = some r) (ho : isO h a 9 = some ()) (hO : ∀ v h1, r = .inl (v, h1) → ∃ h2, hls h1 o 0 v.toInt64 = some h2) (hE : ∀ E h1, r = .inr (E, h1) → E = "java/lang/IndexOutOfBoundsException" ∨ E = "java/lang/IllegalArgumentException") : jx_Cw yL_border cL_border 5 (some .int) [(0, 10, 13, 23), (0, 10, 17, 18)] rmL_border [.ref a, .int p0, .int p1, .ref o] h (fun r' h' => (∃ v h1 h2, r = .inl (v, h1) ∧ hls h1 o 0 v.toInt64 = some h2 ∧ some (.int 0) = r' ∧ h2 = h') ∨ (∃ E h1 sz, r = .inr (E, h1) ∧ some (.int (jx_cd "java/lang/IndexOutOfBoundsException" E)) = r' ∧ h1.1 ≤ sz ∧ h' = (sz, h1.2))) := by
  refine jx_Cw.of (own := RL) (by decide) rfl (Nat.le_of_ble_eq_true rfl) (fun X C hq hr hL ht => ?_)
  refine jx_sub (lv' := [(0, .ref a), (1, .int p0), (2, .int p1), (3, .ref o)]) [0, 1, 2, 3] rfl ?_
  refine j_aload_n C dL_border_0 rfl rfl ?_
  refine j_iconst (v := (0 : Int32)) C dL_border_1 (by decide) ?_
  refine j_aload_n C dL_border_2 rfl rfl ?_
  refine j_iload_n C dL_border_3 rfl rfl ?_
  refine j_iload_n C dL_border_4 rfl rfl ?_
  refine j_callVX (ci := 9) (RC := RX9) (T := TX9) (N := 14) (As := [.int p0, .int p1]) (b := a) (na := 2) (st := [.int 0, .ref o]) (k1 := 1) (n1 := 6) C hr (sX9_border e) rfl ho kL_44 kim_X9_border ksel_X9_border kini_X9 kc_X9_border (by decide) rfl ⟨Nat.le_of_ble_eq_true rfl, Nat.le_of_ble_eq_true rfl⟩ (Nat.le_of_ble_eq_true rfl) ⟨rfl, rfl, Nat.le_of_ble_eq_true rfl, Nat.le_of_ble_eq_true rfl⟩ dL_border_5 (fun r1 h1 hp => ?_) (fun E q h1 hp => ?_)
  · obtain ⟨v, h9, rfl, rfl, rfl⟩ := hp
    obtain ⟨h2, hh2⟩ := hO _ _ rfl
    show jx_J X 1 6 8 [(0, .ref a), (1, .int p0), (2, .int p1), (3, .ref o)] [.int v, .int 0, .ref o] h9
    refine j_i2l C dL_border_8 ?_
    refine j_last C dL_border_9 hh2 ?_
    refine j_goto (tgt := 21) C dL_border_10 (by decide) ?_
    refine j_iconst (v := (0 : Int32)) C dL_border_21 (by decide) ?_
    exact j_iretW C hq rfl dL_border_22 ⟨Nat.le_of_ble_eq_true rfl, Nat.le_of_ble_eq_true rfl⟩ (Or.inl ⟨_, _, _, rfl, hh2, rfl, rfl⟩)
  · obtain ⟨h9, sz, rfl, hsz, rfl⟩ := hp
    rcases hE _ _ rfl with rfl | rfl
    · refine j_catch1 C ht rfl rfl (by decide) kL_23 kcast_IOB ?_
      refine j_astore (lv1 := [(4, .ref q), (0, .ref a), (1, .int p0), (2, .int p1), (3, .ref o)]) C hL dL_border_13 (Nat.le_of_ble_eq_true rfl) rfl ?_
      refine j_iconst (v := (1 : Int32)) C dL_border_15 (by decide) ?_
      exact j_iretW C hq rfl dL_border_16 ⟨Nat.le_of_ble_eq_true rfl, Nat.le_of_ble_eq_true rfl⟩ (Or.inr ⟨_, _, sz, rfl, rfl, hsz, rfl⟩)
    · refine j_catch2 C ht rfl (by decide) kL_23 (by decide) rfl (by decide) kL_18 kcast_IAE ?_
      refine j_astore (lv1 := [(4, .ref q), (0, .ref a), (1, .int p0), (2, .int p1), (3, .ref o)]) C hL dL_border_17 (Nat.le_of_ble_eq_true rfl) rfl ?_
      refine j_iconst (v := (2 : Int32)) C dL_border_19 (by decide) ?_
      exact j_iretW C hq rfl dL_border_20 ⟨Nat.le_of_ble_eq_true rfl, Nat.le_of_ble_eq_true rfl⟩ (Or.inr ⟨_, _, sz, rfl, rfl, hsz, rfl⟩)
def rmL_setRule : Room := { frames := 8, cells := 9, slots := 255, locals := 172 }
set_option maxRecDepth 20000 in
set_option maxHeartbeats 4000000 in
theorem sL_setRule {a o : Nat} {p0 p1 p2 : Int32} {h : jx_H} {r : (Int32 × jx_H) ⊕ (String × jx_H)} (e : FX9_setRule a p0 p1 p2 h = some r) (ho : isO h a 9 = some ()) (hO : ∀ v h1, r = .inl (v, h1) → ∃ h2, hls h1 o 0 v.toInt64 = some h2) (hE : ∀ E h1, r = .inr (E, h1) → E = "java/lang/IndexOutOfBoundsException" ∨ E = "java/lang/IllegalArgumentException") : jx_Cw yL_setRule cL_setRule 6 (some .int) [(0, 12, 15, 23), (0, 12, 19, 18)] rmL_setRule [.ref a, .int p0, .int p1, .int p2, .ref o] h (fun r' h' => (∃ v h1 h2, r = .inl (v, h1) ∧ hls h1 o 0 v.toInt64 = some h2 ∧ some (.int 0) = r' ∧ h2 = h') ∨ (∃ E h1 sz, r = .inr (E, h1) ∧ some (.int (jx_cd "java/lang/IndexOutOfBoundsException" E)) = r' ∧ h1.1 ≤ sz ∧ h' = (sz, h1.2))) := by
  refine jx_Cw.of (own := RL) (by decide) rfl (Nat.le_of_ble_eq_true rfl) (fun X C hq hr hL ht => ?_)
  refine jx_sub (lv' := [(0, .ref a), (1, .int p0), (2, .int p1), (3, .int p2), (4, .ref o)]) [0, 1, 2, 3, 4] rfl ?_
  refine j_aload C dL_setRule_0 rfl ?_
  refine j_iconst (v := (0 : Int32)) C dL_setRule_2 (by decide) ?_
  refine j_aload_n C dL_setRule_3 rfl rfl ?_
  refine j_iload_n C dL_setRule_4 rfl rfl ?_
  refine j_iload_n C dL_setRule_5 rfl rfl ?_
  refine j_iload_n C dL_setRule_6 rfl rfl ?_
  refine j_callVX (ci := 9) (RC := RX9) (T := TX9) (N := 14) (As := [.int p0, .int p1, .int p2]) (b := a) (na := 3) (st := [.int 0, .ref o]) (k1 := 9) (n1 := 255) C hr (sX9_setRule e) rfl ho kL_47 kim_X9_setRule ksel_X9_setRule kini_X9 kc_X9_setRule (by decide) rfl ⟨Nat.le_of_ble_eq_true rfl, Nat.le_of_ble_eq_true rfl⟩ (Nat.le_of_ble_eq_true rfl) ⟨rfl, rfl, Nat.le_of_ble_eq_true rfl, Nat.le_of_ble_eq_true rfl⟩ dL_setRule_7 (fun r1 h1 hp => ?_) (fun E q h1 hp => ?_)
  · obtain ⟨v, h9, rfl, rfl, rfl⟩ := hp
    obtain ⟨h2, hh2⟩ := hO _ _ rfl
    show jx_J X 9 255 10 [(0, .ref a), (1, .int p0), (2, .int p1), (3, .int p2), (4, .ref o)] [.int v, .int 0, .ref o] h9
    refine j_i2l C dL_setRule_10 ?_
    refine j_last C dL_setRule_11 hh2 ?_
    refine j_goto (tgt := 23) C dL_setRule_12 (by decide) ?_
    refine j_iconst (v := (0 : Int32)) C dL_setRule_23 (by decide) ?_
    exact j_iretW C hq rfl dL_setRule_24 ⟨Nat.le_of_ble_eq_true rfl, Nat.le_of_ble_eq_true rfl⟩ (Or.inl ⟨_, _, _, rfl, hh2, rfl, rfl⟩)
  · obtain ⟨h9, sz, rfl, hsz, rfl⟩ := hp
    rcases hE _ _ rfl with rfl | rfl
    · refine j_catch1 C ht rfl rfl (by decide) kL_23 kcast_IOB ?_
      refine j_astore (lv1 := [(5, .ref q), (0, .ref a), (1, .int p0), (2, .int p1), (3, .int p2), (4, .ref o)]) C hL dL_setRule_15 (Nat.le_of_ble_eq_true rfl) rfl ?_
      refine j_iconst (v := (1 : Int32)) C dL_setRule_17 (by decide) ?_
      exact j_iretW C hq rfl dL_setRule_18 ⟨Nat.le_of_ble_eq_true rfl, Nat.le_of_ble_eq_true rfl⟩ (Or.inr ⟨_, _, sz, rfl, rfl, hsz, rfl⟩)
    · refine j_catch2 C ht rfl (by decide) kL_23 (by decide) rfl (by decide) kL_18 kcast_IAE ?_
      refine j_astore (lv1 := [(5, .ref q), (0, .ref a), (1, .int p0), (2, .int p1), (3, .int p2), (4, .ref o)]) C hL dL_setRule_19 (Nat.le_of_ble_eq_true rfl) rfl ?_
      refine j_iconst (v := (2 : Int32)) C dL_setRule_21 (by decide) ?_
      exact j_iretW C hq rfl dL_setRule_22 ⟨Nat.le_of_ble_eq_true rfl, Nat.le_of_ble_eq_true rfl⟩ (Or.inr ⟨_, _, sz, rfl, rfl, hsz, rfl⟩)
def rmL_rule : Room := { frames := 7, cells := 1, slots := 6, locals := 111 }
set_option maxRecDepth 20000 in
set_option maxHeartbeats 4000000 in
theorem sL_rule {a o : Nat} {p0 p1 : Int32} {h : jx_H} {r : (Int32 × jx_H) ⊕ (String × jx_H)} (e : FX9_rule a p0 p1 h = some r) (ho : isO h a 9 = some ()) (hO : ∀ v h1, r = .inl (v, h1) → ∃ h2, hls h1 o 0 v.toInt64 = some h2) (hE : ∀ E h1, r = .inr (E, h1) → E = "java/lang/IndexOutOfBoundsException") : jx_Cw yL_rule cL_rule 5 (some .int) [(0, 10, 13, 23)] rmL_rule [.ref a, .int p0, .int p1, .ref o] h (fun r' h' => (∃ v h1 h2, r = .inl (v, h1) ∧ hls h1 o 0 v.toInt64 = some h2 ∧ some (.int 0) = r' ∧ h2 = h') ∨ (∃ E h1 sz, r = .inr (E, h1) ∧ some (.int (jx_cd "java/lang/IndexOutOfBoundsException" E)) = r' ∧ h1.1 ≤ sz ∧ h' = (sz, h1.2))) := by
  refine jx_Cw.of (own := RL) (by decide) rfl (Nat.le_of_ble_eq_true rfl) (fun X C hq hr hL ht => ?_)
  refine jx_sub (lv' := [(0, .ref a), (1, .int p0), (2, .int p1), (3, .ref o)]) [0, 1, 2, 3] rfl ?_
  refine j_aload_n C dL_rule_0 rfl rfl ?_
  refine j_iconst (v := (0 : Int32)) C dL_rule_1 (by decide) ?_
  refine j_aload_n C dL_rule_2 rfl rfl ?_
  refine j_iload_n C dL_rule_3 rfl rfl ?_
  refine j_iload_n C dL_rule_4 rfl rfl ?_
  refine j_callVX (ci := 9) (RC := RX9) (T := TX9) (N := 14) (As := [.int p0, .int p1]) (b := a) (na := 2) (st := [.int 0, .ref o]) (k1 := 1) (n1 := 6) C hr (sX9_rule e) rfl ho kL_51 kim_X9_rule ksel_X9_rule kini_X9 kc_X9_rule (by decide) rfl ⟨Nat.le_of_ble_eq_true rfl, Nat.le_of_ble_eq_true rfl⟩ (Nat.le_of_ble_eq_true rfl) ⟨rfl, rfl, Nat.le_of_ble_eq_true rfl, Nat.le_of_ble_eq_true rfl⟩ dL_rule_5 (fun r1 h1 hp => ?_) (fun E q h1 hp => ?_)
  · obtain ⟨v, h9, rfl, rfl, rfl⟩ := hp
    obtain ⟨h2, hh2⟩ := hO _ _ rfl
    show jx_J X 1 6 8 [(0, .ref a), (1, .int p0), (2, .int p1), (3, .ref o)] [.int v, .int 0, .ref o] h9
    refine j_i2l C dL_rule_8 ?_
    refine j_last C dL_rule_9 hh2 ?_
    refine j_goto (tgt := 17) C dL_rule_10 (by decide) ?_
    refine j_iconst (v := (0 : Int32)) C dL_rule_17 (by decide) ?_
    exact j_iretW C hq rfl dL_rule_18 ⟨Nat.le_of_ble_eq_true rfl, Nat.le_of_ble_eq_true rfl⟩ (Or.inl ⟨_, _, _, rfl, hh2, rfl, rfl⟩)
  · obtain ⟨h9, sz, rfl, hsz, rfl⟩ := hp
    obtain rfl := hE _ _ rfl
    refine j_catch1 C ht rfl rfl (by decide) kL_23 kcast_IOB ?_
    refine j_astore (lv1 := [(4, .ref q), (0, .ref a), (1, .int p0), (2, .int p1), (3, .ref o)]) C hL dL_rule_13 (Nat.le_of_ble_eq_true rfl) rfl ?_
    refine j_iconst (v := (1 : Int32)) C dL_rule_15 (by decide) ?_
    exact j_iretW C hq rfl dL_rule_16 ⟨Nat.le_of_ble_eq_true rfl, Nat.le_of_ble_eq_true rfl⟩ (Or.inr ⟨_, _, sz, rfl, rfl, hsz, rfl⟩)
def rmL_value : Room := { frames := 7, cells := 1, slots := 6, locals := 112 }
set_option maxRecDepth 20000 in
set_option maxHeartbeats 4000000 in
theorem sL_value {a o : Nat} {p0 p1 p2 : Int32} {h : jx_H} {r : (Int32 × jx_H) ⊕ (String × jx_H)} (e : FX9_value a p0 p1 p2 h = some r) (ho : isO h a 9 = some ()) (hO : ∀ v h1, r = .inl (v, h1) → ∃ h2, hls h1 o 0 v.toInt64 = some h2) (hE : ∀ E h1, r = .inr (E, h1) → E = "java/lang/IndexOutOfBoundsException" ∨ E = "java/lang/IllegalArgumentException") : jx_Cw yL_value cL_value 6 (some .int) [(0, 12, 15, 23), (0, 12, 19, 18)] rmL_value [.ref a, .int p0, .int p1, .int p2, .ref o] h (fun r' h' => (∃ v h1 h2, r = .inl (v, h1) ∧ hls h1 o 0 v.toInt64 = some h2 ∧ some (.int 0) = r' ∧ h2 = h') ∨ (∃ E h1 sz, r = .inr (E, h1) ∧ some (.int (jx_cd "java/lang/IndexOutOfBoundsException" E)) = r' ∧ h1.1 ≤ sz ∧ h' = (sz, h1.2))) := by
  refine jx_Cw.of (own := RL) (by decide) rfl (Nat.le_of_ble_eq_true rfl) (fun X C hq hr hL ht => ?_)
  refine jx_sub (lv' := [(0, .ref a), (1, .int p0), (2, .int p1), (3, .int p2), (4, .ref o)]) [0, 1, 2, 3, 4] rfl ?_
  refine j_aload C dL_value_0 rfl ?_
  refine j_iconst (v := (0 : Int32)) C dL_value_2 (by decide) ?_
  refine j_aload_n C dL_value_3 rfl rfl ?_
  refine j_iload_n C dL_value_4 rfl rfl ?_
  refine j_iload_n C dL_value_5 rfl rfl ?_
  refine j_iload_n C dL_value_6 rfl rfl ?_
  refine j_callVX (ci := 9) (RC := RX9) (T := TX9) (N := 14) (As := [.int p0, .int p1, .int p2]) (b := a) (na := 3) (st := [.int 0, .ref o]) (k1 := 1) (n1 := 6) C hr (sX9_value e) rfl ho kL_54 kim_X9_value ksel_X9_value kini_X9 kc_X9_value (by decide) rfl ⟨Nat.le_of_ble_eq_true rfl, Nat.le_of_ble_eq_true rfl⟩ (Nat.le_of_ble_eq_true rfl) ⟨rfl, rfl, Nat.le_of_ble_eq_true rfl, Nat.le_of_ble_eq_true rfl⟩ dL_value_7 (fun r1 h1 hp => ?_) (fun E q h1 hp => ?_)
  · obtain ⟨v, h9, rfl, rfl, rfl⟩ := hp
    obtain ⟨h2, hh2⟩ := hO _ _ rfl
    show jx_J X 1 6 10 [(0, .ref a), (1, .int p0), (2, .int p1), (3, .int p2), (4, .ref o)] [.int v, .int 0, .ref o] h9
    refine j_i2l C dL_value_10 ?_
    refine j_last C dL_value_11 hh2 ?_
    refine j_goto (tgt := 23) C dL_value_12 (by decide) ?_
    refine j_iconst (v := (0 : Int32)) C dL_value_23 (by decide) ?_
    exact j_iretW C hq rfl dL_value_24 ⟨Nat.le_of_ble_eq_true rfl, Nat.le_of_ble_eq_true rfl⟩ (Or.inl ⟨_, _, _, rfl, hh2, rfl, rfl⟩)
  · obtain ⟨h9, sz, rfl, hsz, rfl⟩ := hp
    rcases hE _ _ rfl with rfl | rfl
    · refine j_catch1 C ht rfl rfl (by decide) kL_23 kcast_IOB ?_
      refine j_astore (lv1 := [(5, .ref q), (0, .ref a), (1, .int p0), (2, .int p1), (3, .int p2), (4, .ref o)]) C hL dL_value_15 (Nat.le_of_ble_eq_true rfl) rfl ?_
      refine j_iconst (v := (1 : Int32)) C dL_value_17 (by decide) ?_
      exact j_iretW C hq rfl dL_value_18 ⟨Nat.le_of_ble_eq_true rfl, Nat.le_of_ble_eq_true rfl⟩ (Or.inr ⟨_, _, sz, rfl, rfl, hsz, rfl⟩)
    · refine j_catch2 C ht rfl (by decide) kL_23 (by decide) rfl (by decide) kL_18 kcast_IAE ?_
      refine j_astore (lv1 := [(5, .ref q), (0, .ref a), (1, .int p0), (2, .int p1), (3, .int p2), (4, .ref o)]) C hL dL_value_19 (Nat.le_of_ble_eq_true rfl) rfl ?_
      refine j_iconst (v := (2 : Int32)) C dL_value_21 (by decide) ?_
      exact j_iretW C hq rfl dL_value_22 ⟨Nat.le_of_ble_eq_true rfl, Nat.le_of_ble_eq_true rfl⟩ (Or.inr ⟨_, _, sz, rfl, rfl, hsz, rfl⟩)
def rmL_table : Room := { frames := 7, cells := 1, slots := 6, locals := 140 }
set_option maxRecDepth 20000 in
set_option maxHeartbeats 4000000 in
theorem sL_table {a o : Nat} {p0 p1 p2 : Int32} {h : jx_H} {r : (Int32 × jx_H) ⊕ (String × jx_H)} (e : FX9_table a p0 p1 p2 h = some r) (ho : isO h a 9 = some ()) (hO : ∀ v h1, r = .inl (v, h1) → ∃ h2, hls h1 o 0 v.toInt64 = some h2) (hE : ∀ E h1, r = .inr (E, h1) → E = "java/lang/IndexOutOfBoundsException" ∨ E = "java/lang/IllegalArgumentException") : jx_Cw yL_table cL_table 6 (some .int) [(0, 12, 15, 23), (0, 12, 19, 18)] rmL_table [.ref a, .int p0, .int p1, .int p2, .ref o] h (fun r' h' => (∃ v h1 h2, r = .inl (v, h1) ∧ hls h1 o 0 v.toInt64 = some h2 ∧ some (.int 0) = r' ∧ h2 = h') ∨ (∃ E h1 sz, r = .inr (E, h1) ∧ some (.int (jx_cd "java/lang/IndexOutOfBoundsException" E)) = r' ∧ h1.1 ≤ sz ∧ h' = (sz, h1.2))) := by
  refine jx_Cw.of (own := RL) (by decide) rfl (Nat.le_of_ble_eq_true rfl) (fun X C hq hr hL ht => ?_)
  refine jx_sub (lv' := [(0, .ref a), (1, .int p0), (2, .int p1), (3, .int p2), (4, .ref o)]) [0, 1, 2, 3, 4] rfl ?_
  refine j_aload C dL_table_0 rfl ?_
  refine j_iconst (v := (0 : Int32)) C dL_table_2 (by decide) ?_
  refine j_aload_n C dL_table_3 rfl rfl ?_
  refine j_iload_n C dL_table_4 rfl rfl ?_
  refine j_iload_n C dL_table_5 rfl rfl ?_
  refine j_iload_n C dL_table_6 rfl rfl ?_
  refine j_callVX (ci := 9) (RC := RX9) (T := TX9) (N := 14) (As := [.int p0, .int p1, .int p2]) (b := a) (na := 3) (st := [.int 0, .ref o]) (k1 := 1) (n1 := 6) C hr (sX9_table e) rfl ho kL_57 kim_X9_table ksel_X9_table kini_X9 kc_X9_table (by decide) rfl ⟨Nat.le_of_ble_eq_true rfl, Nat.le_of_ble_eq_true rfl⟩ (Nat.le_of_ble_eq_true rfl) ⟨rfl, rfl, Nat.le_of_ble_eq_true rfl, Nat.le_of_ble_eq_true rfl⟩ dL_table_7 (fun r1 h1 hp => ?_) (fun E q h1 hp => ?_)
  · obtain ⟨v, h9, rfl, rfl, rfl⟩ := hp
    obtain ⟨h2, hh2⟩ := hO _ _ rfl
    show jx_J X 1 6 10 [(0, .ref a), (1, .int p0), (2, .int p1), (3, .int p2), (4, .ref o)] [.int v, .int 0, .ref o] h9
    refine j_i2l C dL_table_10 ?_
    refine j_last C dL_table_11 hh2 ?_
    refine j_goto (tgt := 23) C dL_table_12 (by decide) ?_
    refine j_iconst (v := (0 : Int32)) C dL_table_23 (by decide) ?_
    exact j_iretW C hq rfl dL_table_24 ⟨Nat.le_of_ble_eq_true rfl, Nat.le_of_ble_eq_true rfl⟩ (Or.inl ⟨_, _, _, rfl, hh2, rfl, rfl⟩)
  · obtain ⟨h9, sz, rfl, hsz, rfl⟩ := hp
    rcases hE _ _ rfl with rfl | rfl
    · refine j_catch1 C ht rfl rfl (by decide) kL_23 kcast_IOB ?_
      refine j_astore (lv1 := [(5, .ref q), (0, .ref a), (1, .int p0), (2, .int p1), (3, .int p2), (4, .ref o)]) C hL dL_table_15 (Nat.le_of_ble_eq_true rfl) rfl ?_
      refine j_iconst (v := (1 : Int32)) C dL_table_17 (by decide) ?_
      exact j_iretW C hq rfl dL_table_18 ⟨Nat.le_of_ble_eq_true rfl, Nat.le_of_ble_eq_true rfl⟩ (Or.inr ⟨_, _, sz, rfl, rfl, hsz, rfl⟩)
    · refine j_catch2 C ht rfl (by decide) kL_23 (by decide) rfl (by decide) kL_18 kcast_IAE ?_
      refine j_astore (lv1 := [(5, .ref q), (0, .ref a), (1, .int p0), (2, .int p1), (3, .int p2), (4, .ref o)]) C hL dL_table_19 (Nat.le_of_ble_eq_true rfl) rfl ?_
      refine j_iconst (v := (2 : Int32)) C dL_table_21 (by decide) ?_
      exact j_iretW C hq rfl dL_table_22 ⟨Nat.le_of_ble_eq_true rfl, Nat.le_of_ble_eq_true rfl⟩ (Or.inr ⟨_, _, sz, rfl, rfl, hsz, rfl⟩)
def rmL_clash : Room := { frames := 7, cells := 1, slots := 6, locals := 137 }
set_option maxRecDepth 20000 in
set_option maxHeartbeats 4000000 in
theorem sL_clash {a o : Nat} {p0 : Int32} {h : jx_H} {r : (Int32 × jx_H) ⊕ (String × jx_H)} (e : FX9_clash a p0 h = some r) (ho : isO h a 9 = some ()) (hO : ∀ v h1, r = .inl (v, h1) → ∃ h2, hls h1 o 0 v.toInt64 = some h2) (hE : ∀ E h1, r = .inr (E, h1) → E = "java/lang/IllegalArgumentException") : jx_Cw yL_clash cL_clash 4 (some .int) [(0, 9, 12, 18)] rmL_clash [.ref a, .int p0, .ref o] h (fun r' h' => (∃ v h1 h2, r = .inl (v, h1) ∧ hls h1 o 0 v.toInt64 = some h2 ∧ some (.int 0) = r' ∧ h2 = h') ∨ (∃ E h1 sz, r = .inr (E, h1) ∧ some (.int (jx_cd "java/lang/IllegalArgumentException" E)) = r' ∧ h1.1 ≤ sz ∧ h' = (sz, h1.2))) := by
  refine jx_Cw.of (own := RL) (by decide) rfl (Nat.le_of_ble_eq_true rfl) (fun X C hq hr hL ht => ?_)
  refine jx_sub (lv' := [(0, .ref a), (1, .int p0), (2, .ref o)]) [0, 1, 2] rfl ?_
  refine j_aload_n C dL_clash_0 rfl rfl ?_
  refine j_iconst (v := (0 : Int32)) C dL_clash_1 (by decide) ?_
  refine j_aload_n C dL_clash_2 rfl rfl ?_
  refine j_iload_n C dL_clash_3 rfl rfl ?_
  refine j_callVX (ci := 9) (RC := RX9) (T := TX9) (N := 14) (As := [.int p0]) (b := a) (na := 1) (st := [.int 0, .ref o]) (k1 := 1) (n1 := 6) C hr (sX9_clash e) rfl ho kL_60 kim_X9_clash ksel_X9_clash kini_X9 kc_X9_clash (by decide) rfl ⟨Nat.le_of_ble_eq_true rfl, Nat.le_of_ble_eq_true rfl⟩ (Nat.le_of_ble_eq_true rfl) ⟨rfl, rfl, Nat.le_of_ble_eq_true rfl, Nat.le_of_ble_eq_true rfl⟩ dL_clash_4 (fun r1 h1 hp => ?_) (fun E q h1 hp => ?_)
  · obtain ⟨v, h9, rfl, rfl, rfl⟩ := hp
    obtain ⟨h2, hh2⟩ := hO _ _ rfl
    show jx_J X 1 6 7 [(0, .ref a), (1, .int p0), (2, .ref o)] [.int v, .int 0, .ref o] h9
    refine j_i2l C dL_clash_7 ?_
    refine j_last C dL_clash_8 hh2 ?_
    refine j_goto (tgt := 15) C dL_clash_9 (by decide) ?_
    refine j_iconst (v := (0 : Int32)) C dL_clash_15 (by decide) ?_
    exact j_iretW C hq rfl dL_clash_16 ⟨Nat.le_of_ble_eq_true rfl, Nat.le_of_ble_eq_true rfl⟩ (Or.inl ⟨_, _, _, rfl, hh2, rfl, rfl⟩)
  · obtain ⟨h9, sz, rfl, hsz, rfl⟩ := hp
    obtain rfl := hE _ _ rfl
    refine j_catch1 C ht rfl rfl (by decide) kL_18 kcast_IAE ?_
    refine j_astore_n (lv1 := [(3, .ref q), (0, .ref a), (1, .int p0), (2, .ref o)]) C hL dL_clash_12 rfl (Nat.le_of_ble_eq_true rfl) rfl ?_
    refine j_iconst (v := (1 : Int32)) C dL_clash_13 (by decide) ?_
    exact j_iretW C hq rfl dL_clash_14 ⟨Nat.le_of_ble_eq_true rfl, Nat.le_of_ble_eq_true rfl⟩ (Or.inr ⟨_, _, sz, rfl, rfl, hsz, rfl⟩)
def rmL_trace : Room := { frames := 7, cells := 1, slots := 6, locals := 166 }
set_option maxRecDepth 20000 in
set_option maxHeartbeats 4000000 in
theorem sL_trace {a o : Nat} {p0 p1 : Int32} {h : jx_H} {r : (Int32 × jx_H) ⊕ (String × jx_H)} (e : FX9_trace a p0 p1 h = some r) (ho : isO h a 9 = some ()) (hO : ∀ v h1, r = .inl (v, h1) → ∃ h2, hls h1 o 0 v.toInt64 = some h2) (hE : ∀ E h1, r = .inr (E, h1) → E = "java/lang/IllegalArgumentException") : jx_Cw yL_trace cL_trace 5 (some .int) [(0, 10, 13, 18)] rmL_trace [.ref a, .int p0, .int p1, .ref o] h (fun r' h' => (∃ v h1 h2, r = .inl (v, h1) ∧ hls h1 o 0 v.toInt64 = some h2 ∧ some (.int 0) = r' ∧ h2 = h') ∨ (∃ E h1 sz, r = .inr (E, h1) ∧ some (.int (jx_cd "java/lang/IllegalArgumentException" E)) = r' ∧ h1.1 ≤ sz ∧ h' = (sz, h1.2))) := by
  refine jx_Cw.of (own := RL) (by decide) rfl (Nat.le_of_ble_eq_true rfl) (fun X C hq hr hL ht => ?_)
  refine jx_sub (lv' := [(0, .ref a), (1, .int p0), (2, .int p1), (3, .ref o)]) [0, 1, 2, 3] rfl ?_
  refine j_aload_n C dL_trace_0 rfl rfl ?_
  refine j_iconst (v := (0 : Int32)) C dL_trace_1 (by decide) ?_
  refine j_aload_n C dL_trace_2 rfl rfl ?_
  refine j_iload_n C dL_trace_3 rfl rfl ?_
  refine j_iload_n C dL_trace_4 rfl rfl ?_
  refine j_callVX (ci := 9) (RC := RX9) (T := TX9) (N := 14) (As := [.int p0, .int p1]) (b := a) (na := 2) (st := [.int 0, .ref o]) (k1 := 1) (n1 := 6) C hr (sX9_trace e) rfl ho kL_63 kim_X9_trace ksel_X9_trace kini_X9 kc_X9_trace (by decide) rfl ⟨Nat.le_of_ble_eq_true rfl, Nat.le_of_ble_eq_true rfl⟩ (Nat.le_of_ble_eq_true rfl) ⟨rfl, rfl, Nat.le_of_ble_eq_true rfl, Nat.le_of_ble_eq_true rfl⟩ dL_trace_5 (fun r1 h1 hp => ?_) (fun E q h1 hp => ?_)
  · obtain ⟨v, h9, rfl, rfl, rfl⟩ := hp
    obtain ⟨h2, hh2⟩ := hO _ _ rfl
    show jx_J X 1 6 8 [(0, .ref a), (1, .int p0), (2, .int p1), (3, .ref o)] [.int v, .int 0, .ref o] h9
    refine j_i2l C dL_trace_8 ?_
    refine j_last C dL_trace_9 hh2 ?_
    refine j_goto (tgt := 17) C dL_trace_10 (by decide) ?_
    refine j_iconst (v := (0 : Int32)) C dL_trace_17 (by decide) ?_
    exact j_iretW C hq rfl dL_trace_18 ⟨Nat.le_of_ble_eq_true rfl, Nat.le_of_ble_eq_true rfl⟩ (Or.inl ⟨_, _, _, rfl, hh2, rfl, rfl⟩)
  · obtain ⟨h9, sz, rfl, hsz, rfl⟩ := hp
    obtain rfl := hE _ _ rfl
    refine j_catch1 C ht rfl rfl (by decide) kL_18 kcast_IAE ?_
    refine j_astore (lv1 := [(4, .ref q), (0, .ref a), (1, .int p0), (2, .int p1), (3, .ref o)]) C hL dL_trace_13 (Nat.le_of_ble_eq_true rfl) rfl ?_
    refine j_iconst (v := (1 : Int32)) C dL_trace_15 (by decide) ?_
    exact j_iretW C hq rfl dL_trace_16 ⟨Nat.le_of_ble_eq_true rfl, Nat.le_of_ble_eq_true rfl⟩ (Or.inr ⟨_, _, sz, rfl, rfl, hsz, rfl⟩)
def rmL_normal : Room := { frames := 7, cells := 1, slots := 6, locals := 117 }
set_option maxRecDepth 20000 in
set_option maxHeartbeats 4000000 in
theorem sL_normal {a o : Nat} {p0 p1 p2 : Int32} {h : jx_H} {r : (Int32 × jx_H) ⊕ (String × jx_H)} (e : FX9_normal a p0 p1 p2 h = some r) (ho : isO h a 9 = some ()) (hO : ∀ v h1, r = .inl (v, h1) → ∃ h2, hls h1 o 0 v.toInt64 = some h2) (hE : ∀ E h1, r = .inr (E, h1) → E = "java/lang/IndexOutOfBoundsException" ∨ E = "java/lang/IllegalArgumentException") : jx_Cw yL_normal cL_normal 6 (some .int) [(0, 12, 15, 23), (0, 12, 19, 18)] rmL_normal [.ref a, .int p0, .int p1, .int p2, .ref o] h (fun r' h' => (∃ v h1 h2, r = .inl (v, h1) ∧ hls h1 o 0 v.toInt64 = some h2 ∧ some (.int 0) = r' ∧ h2 = h') ∨ (∃ E h1 sz, r = .inr (E, h1) ∧ some (.int (jx_cd "java/lang/IndexOutOfBoundsException" E)) = r' ∧ h1.1 ≤ sz ∧ h' = (sz, h1.2))) := by
  refine jx_Cw.of (own := RL) (by decide) rfl (Nat.le_of_ble_eq_true rfl) (fun X C hq hr hL ht => ?_)
  refine jx_sub (lv' := [(0, .ref a), (1, .int p0), (2, .int p1), (3, .int p2), (4, .ref o)]) [0, 1, 2, 3, 4] rfl ?_
  refine j_aload C dL_normal_0 rfl ?_
  refine j_iconst (v := (0 : Int32)) C dL_normal_2 (by decide) ?_
  refine j_aload_n C dL_normal_3 rfl rfl ?_
  refine j_iload_n C dL_normal_4 rfl rfl ?_
  refine j_iload_n C dL_normal_5 rfl rfl ?_
  refine j_iload_n C dL_normal_6 rfl rfl ?_
  refine j_callVX (ci := 9) (RC := RX9) (T := TX9) (N := 14) (As := [.int p0, .int p1, .int p2]) (b := a) (na := 3) (st := [.int 0, .ref o]) (k1 := 1) (n1 := 6) C hr (sX9_normal e) rfl ho kL_66 kim_X9_normal ksel_X9_normal kini_X9 kc_X9_normal (by decide) rfl ⟨Nat.le_of_ble_eq_true rfl, Nat.le_of_ble_eq_true rfl⟩ (Nat.le_of_ble_eq_true rfl) ⟨rfl, rfl, Nat.le_of_ble_eq_true rfl, Nat.le_of_ble_eq_true rfl⟩ dL_normal_7 (fun r1 h1 hp => ?_) (fun E q h1 hp => ?_)
  · obtain ⟨v, h9, rfl, rfl, rfl⟩ := hp
    obtain ⟨h2, hh2⟩ := hO _ _ rfl
    show jx_J X 1 6 10 [(0, .ref a), (1, .int p0), (2, .int p1), (3, .int p2), (4, .ref o)] [.int v, .int 0, .ref o] h9
    refine j_i2l C dL_normal_10 ?_
    refine j_last C dL_normal_11 hh2 ?_
    refine j_goto (tgt := 23) C dL_normal_12 (by decide) ?_
    refine j_iconst (v := (0 : Int32)) C dL_normal_23 (by decide) ?_
    exact j_iretW C hq rfl dL_normal_24 ⟨Nat.le_of_ble_eq_true rfl, Nat.le_of_ble_eq_true rfl⟩ (Or.inl ⟨_, _, _, rfl, hh2, rfl, rfl⟩)
  · obtain ⟨h9, sz, rfl, hsz, rfl⟩ := hp
    rcases hE _ _ rfl with rfl | rfl
    · refine j_catch1 C ht rfl rfl (by decide) kL_23 kcast_IOB ?_
      refine j_astore (lv1 := [(5, .ref q), (0, .ref a), (1, .int p0), (2, .int p1), (3, .int p2), (4, .ref o)]) C hL dL_normal_15 (Nat.le_of_ble_eq_true rfl) rfl ?_
      refine j_iconst (v := (1 : Int32)) C dL_normal_17 (by decide) ?_
      exact j_iretW C hq rfl dL_normal_18 ⟨Nat.le_of_ble_eq_true rfl, Nat.le_of_ble_eq_true rfl⟩ (Or.inr ⟨_, _, sz, rfl, rfl, hsz, rfl⟩)
    · refine j_catch2 C ht rfl (by decide) kL_23 (by decide) rfl (by decide) kL_18 kcast_IAE ?_
      refine j_astore (lv1 := [(5, .ref q), (0, .ref a), (1, .int p0), (2, .int p1), (3, .int p2), (4, .ref o)]) C hL dL_normal_19 (Nat.le_of_ble_eq_true rfl) rfl ?_
      refine j_iconst (v := (2 : Int32)) C dL_normal_21 (by decide) ?_
      exact j_iretW C hq rfl dL_normal_22 ⟨Nat.le_of_ble_eq_true rfl, Nat.le_of_ble_eq_true rfl⟩ (Or.inr ⟨_, _, sz, rfl, rfl, hsz, rfl⟩)
def rmL_determinant : Room := { frames := 7, cells := 1, slots := 6, locals := 140 }
set_option maxRecDepth 20000 in
set_option maxHeartbeats 4000000 in
theorem sL_determinant {a o : Nat} {p0 : Int32} {h : jx_H} {r : (Int32 × jx_H) ⊕ (String × jx_H)} (e : FX9_determinant a p0 h = some r) (ho : isO h a 9 = some ()) (hO : ∀ v h1, r = .inl (v, h1) → ∃ h2, hls h1 o 0 v.toInt64 = some h2) (hE : ∀ E h1, r = .inr (E, h1) → E = "java/lang/IllegalArgumentException") : jx_Cw yL_determinant cL_determinant 4 (some .int) [(0, 9, 12, 18)] rmL_determinant [.ref a, .int p0, .ref o] h (fun r' h' => (∃ v h1 h2, r = .inl (v, h1) ∧ hls h1 o 0 v.toInt64 = some h2 ∧ some (.int 0) = r' ∧ h2 = h') ∨ (∃ E h1 sz, r = .inr (E, h1) ∧ some (.int (jx_cd "java/lang/IllegalArgumentException" E)) = r' ∧ h1.1 ≤ sz ∧ h' = (sz, h1.2))) := by
  refine jx_Cw.of (own := RL) (by decide) rfl (Nat.le_of_ble_eq_true rfl) (fun X C hq hr hL ht => ?_)
  refine jx_sub (lv' := [(0, .ref a), (1, .int p0), (2, .ref o)]) [0, 1, 2] rfl ?_
  refine j_aload_n C dL_determinant_0 rfl rfl ?_
  refine j_iconst (v := (0 : Int32)) C dL_determinant_1 (by decide) ?_
  refine j_aload_n C dL_determinant_2 rfl rfl ?_
  refine j_iload_n C dL_determinant_3 rfl rfl ?_
  refine j_callVX (ci := 9) (RC := RX9) (T := TX9) (N := 14) (As := [.int p0]) (b := a) (na := 1) (st := [.int 0, .ref o]) (k1 := 1) (n1 := 6) C hr (sX9_determinant e) rfl ho kL_69 kim_X9_determinant ksel_X9_determinant kini_X9 kc_X9_determinant (by decide) rfl ⟨Nat.le_of_ble_eq_true rfl, Nat.le_of_ble_eq_true rfl⟩ (Nat.le_of_ble_eq_true rfl) ⟨rfl, rfl, Nat.le_of_ble_eq_true rfl, Nat.le_of_ble_eq_true rfl⟩ dL_determinant_4 (fun r1 h1 hp => ?_) (fun E q h1 hp => ?_)
  · obtain ⟨v, h9, rfl, rfl, rfl⟩ := hp
    obtain ⟨h2, hh2⟩ := hO _ _ rfl
    show jx_J X 1 6 7 [(0, .ref a), (1, .int p0), (2, .ref o)] [.int v, .int 0, .ref o] h9
    refine j_i2l C dL_determinant_7 ?_
    refine j_last C dL_determinant_8 hh2 ?_
    refine j_goto (tgt := 15) C dL_determinant_9 (by decide) ?_
    refine j_iconst (v := (0 : Int32)) C dL_determinant_15 (by decide) ?_
    exact j_iretW C hq rfl dL_determinant_16 ⟨Nat.le_of_ble_eq_true rfl, Nat.le_of_ble_eq_true rfl⟩ (Or.inl ⟨_, _, _, rfl, hh2, rfl, rfl⟩)
  · obtain ⟨h9, sz, rfl, hsz, rfl⟩ := hp
    obtain rfl := hE _ _ rfl
    refine j_catch1 C ht rfl rfl (by decide) kL_18 kcast_IAE ?_
    refine j_astore_n (lv1 := [(3, .ref q), (0, .ref a), (1, .int p0), (2, .ref o)]) C hL dL_determinant_12 rfl (Nat.le_of_ble_eq_true rfl) rfl ?_
    refine j_iconst (v := (1 : Int32)) C dL_determinant_13 (by decide) ?_
    exact j_iretW C hq rfl dL_determinant_14 ⟨Nat.le_of_ble_eq_true rfl, Nat.le_of_ble_eq_true rfl⟩ (Or.inr ⟨_, _, sz, rfl, rfl, hsz, rfl⟩)
def rmL_kernel : Room := { frames := 7, cells := 1, slots := 6, locals := 142 }
set_option maxRecDepth 20000 in
set_option maxHeartbeats 4000000 in
theorem sL_kernel {a o : Nat} {p0 p1 : Int32} {h : jx_H} {r : (Int32 × jx_H) ⊕ (String × jx_H)} (e : FX9_kernel a p0 p1 h = some r) (ho : isO h a 9 = some ()) (hO : ∀ v h1, r = .inl (v, h1) → ∃ h2, hls h1 o 0 v.toInt64 = some h2) (hE : ∀ E h1, r = .inr (E, h1) → E = "java/lang/IllegalArgumentException") : jx_Cw yL_kernel cL_kernel 5 (some .int) [(0, 10, 13, 18)] rmL_kernel [.ref a, .int p0, .int p1, .ref o] h (fun r' h' => (∃ v h1 h2, r = .inl (v, h1) ∧ hls h1 o 0 v.toInt64 = some h2 ∧ some (.int 0) = r' ∧ h2 = h') ∨ (∃ E h1 sz, r = .inr (E, h1) ∧ some (.int (jx_cd "java/lang/IllegalArgumentException" E)) = r' ∧ h1.1 ≤ sz ∧ h' = (sz, h1.2))) := by
  refine jx_Cw.of (own := RL) (by decide) rfl (Nat.le_of_ble_eq_true rfl) (fun X C hq hr hL ht => ?_)
  refine jx_sub (lv' := [(0, .ref a), (1, .int p0), (2, .int p1), (3, .ref o)]) [0, 1, 2, 3] rfl ?_
  refine j_aload_n C dL_kernel_0 rfl rfl ?_
  refine j_iconst (v := (0 : Int32)) C dL_kernel_1 (by decide) ?_
  refine j_aload_n C dL_kernel_2 rfl rfl ?_
  refine j_iload_n C dL_kernel_3 rfl rfl ?_
  refine j_iload_n C dL_kernel_4 rfl rfl ?_
  refine j_callVX (ci := 9) (RC := RX9) (T := TX9) (N := 14) (As := [.int p0, .int p1]) (b := a) (na := 2) (st := [.int 0, .ref o]) (k1 := 1) (n1 := 6) C hr (sX9_kernel e) rfl ho kL_72 kim_X9_kernel ksel_X9_kernel kini_X9 kc_X9_kernel (by decide) rfl ⟨Nat.le_of_ble_eq_true rfl, Nat.le_of_ble_eq_true rfl⟩ (Nat.le_of_ble_eq_true rfl) ⟨rfl, rfl, Nat.le_of_ble_eq_true rfl, Nat.le_of_ble_eq_true rfl⟩ dL_kernel_5 (fun r1 h1 hp => ?_) (fun E q h1 hp => ?_)
  · obtain ⟨v, h9, rfl, rfl, rfl⟩ := hp
    obtain ⟨h2, hh2⟩ := hO _ _ rfl
    show jx_J X 1 6 8 [(0, .ref a), (1, .int p0), (2, .int p1), (3, .ref o)] [.int v, .int 0, .ref o] h9
    refine j_i2l C dL_kernel_8 ?_
    refine j_last C dL_kernel_9 hh2 ?_
    refine j_goto (tgt := 17) C dL_kernel_10 (by decide) ?_
    refine j_iconst (v := (0 : Int32)) C dL_kernel_17 (by decide) ?_
    exact j_iretW C hq rfl dL_kernel_18 ⟨Nat.le_of_ble_eq_true rfl, Nat.le_of_ble_eq_true rfl⟩ (Or.inl ⟨_, _, _, rfl, hh2, rfl, rfl⟩)
  · obtain ⟨h9, sz, rfl, hsz, rfl⟩ := hp
    obtain rfl := hE _ _ rfl
    refine j_catch1 C ht rfl rfl (by decide) kL_18 kcast_IAE ?_
    refine j_astore (lv1 := [(4, .ref q), (0, .ref a), (1, .int p0), (2, .int p1), (3, .ref o)]) C hL dL_kernel_13 (Nat.le_of_ble_eq_true rfl) rfl ?_
    refine j_iconst (v := (1 : Int32)) C dL_kernel_15 (by decide) ?_
    exact j_iretW C hq rfl dL_kernel_16 ⟨Nat.le_of_ble_eq_true rfl, Nat.le_of_ble_eq_true rfl⟩ (Or.inr ⟨_, _, sz, rfl, rfl, hsz, rfl⟩)
def rmL_zeros : Room := { frames := 8, cells := 36, slots := 1956, locals := 188 }
set_option maxRecDepth 20000 in
set_option maxHeartbeats 4000000 in
theorem sL_zeros {a o : Nat} {p0 : Int32} {h : jx_H} {r : (Int32 × jx_H) ⊕ (String × jx_H)} (e : FX9_zeros a p0 h = some r) (ho : isO h a 9 = some ()) (hO : ∀ v h1, r = .inl (v, h1) → ∃ h2, hls h1 o 0 v.toInt64 = some h2) (hE : ∀ E h1, r = .inr (E, h1) → E = "java/lang/IllegalArgumentException") : jx_Cw yL_zeros cL_zeros 4 (some .int) [(0, 9, 12, 18)] rmL_zeros [.ref a, .int p0, .ref o] h (fun r' h' => (∃ v h1 h2, r = .inl (v, h1) ∧ hls h1 o 0 v.toInt64 = some h2 ∧ some (.int 0) = r' ∧ h2 = h') ∨ (∃ E h1 sz, r = .inr (E, h1) ∧ some (.int (jx_cd "java/lang/IllegalArgumentException" E)) = r' ∧ h1.1 ≤ sz ∧ h' = (sz, h1.2))) := by
  refine jx_Cw.of (own := RL) (by decide) rfl (Nat.le_of_ble_eq_true rfl) (fun X C hq hr hL ht => ?_)
  refine jx_sub (lv' := [(0, .ref a), (1, .int p0), (2, .ref o)]) [0, 1, 2] rfl ?_
  refine j_aload_n C dL_zeros_0 rfl rfl ?_
  refine j_iconst (v := (0 : Int32)) C dL_zeros_1 (by decide) ?_
  refine j_aload_n C dL_zeros_2 rfl rfl ?_
  refine j_iload_n C dL_zeros_3 rfl rfl ?_
  refine j_callVX (ci := 9) (RC := RX9) (T := TX9) (N := 14) (As := [.int p0]) (b := a) (na := 1) (st := [.int 0, .ref o]) (k1 := 36) (n1 := 1956) C hr (sX9_zeros e) rfl ho kL_75 kim_X9_zeros ksel_X9_zeros kini_X9 kc_X9_zeros (by decide) rfl ⟨Nat.le_of_ble_eq_true rfl, Nat.le_of_ble_eq_true rfl⟩ (Nat.le_of_ble_eq_true rfl) ⟨rfl, rfl, Nat.le_of_ble_eq_true rfl, Nat.le_of_ble_eq_true rfl⟩ dL_zeros_4 (fun r1 h1 hp => ?_) (fun E q h1 hp => ?_)
  · obtain ⟨v, h9, rfl, rfl, rfl⟩ := hp
    obtain ⟨h2, hh2⟩ := hO _ _ rfl
    show jx_J X 36 1956 7 [(0, .ref a), (1, .int p0), (2, .ref o)] [.int v, .int 0, .ref o] h9
    refine j_i2l C dL_zeros_7 ?_
    refine j_last C dL_zeros_8 hh2 ?_
    refine j_goto (tgt := 15) C dL_zeros_9 (by decide) ?_
    refine j_iconst (v := (0 : Int32)) C dL_zeros_15 (by decide) ?_
    exact j_iretW C hq rfl dL_zeros_16 ⟨Nat.le_of_ble_eq_true rfl, Nat.le_of_ble_eq_true rfl⟩ (Or.inl ⟨_, _, _, rfl, hh2, rfl, rfl⟩)
  · obtain ⟨h9, sz, rfl, hsz, rfl⟩ := hp
    obtain rfl := hE _ _ rfl
    refine j_catch1 C ht rfl rfl (by decide) kL_18 kcast_IAE ?_
    refine j_astore_n (lv1 := [(3, .ref q), (0, .ref a), (1, .int p0), (2, .ref o)]) C hL dL_zeros_12 rfl (Nat.le_of_ble_eq_true rfl) rfl ?_
    refine j_iconst (v := (1 : Int32)) C dL_zeros_13 (by decide) ?_
    exact j_iretW C hq rfl dL_zeros_14 ⟨Nat.le_of_ble_eq_true rfl, Nat.le_of_ble_eq_true rfl⟩ (Or.inr ⟨_, _, sz, rfl, rfl, hsz, rfl⟩)
def rmL_zero : Room := { frames := 8, cells := 1, slots := 6, locals := 187 }
set_option maxRecDepth 20000 in
set_option maxHeartbeats 4000000 in
theorem sL_zero {a o : Nat} {p0 p1 : Int32} {h : jx_H} {r : (Int32 × jx_H) ⊕ (String × jx_H)} (e : FX9_zero a p0 p1 h = some r) (ho : isO h a 9 = some ()) (hO : ∀ v h1, r = .inl (v, h1) → ∃ h2, hls h1 o 0 v.toInt64 = some h2) (hE : ∀ E h1, r = .inr (E, h1) → E = "java/lang/IndexOutOfBoundsException" ∨ E = "java/lang/IllegalArgumentException") : jx_Cw yL_zero cL_zero 5 (some .int) [(0, 10, 13, 23), (0, 10, 17, 18)] rmL_zero [.ref a, .int p0, .int p1, .ref o] h (fun r' h' => (∃ v h1 h2, r = .inl (v, h1) ∧ hls h1 o 0 v.toInt64 = some h2 ∧ some (.int 0) = r' ∧ h2 = h') ∨ (∃ E h1 sz, r = .inr (E, h1) ∧ some (.int (jx_cd "java/lang/IndexOutOfBoundsException" E)) = r' ∧ h1.1 ≤ sz ∧ h' = (sz, h1.2))) := by
  refine jx_Cw.of (own := RL) (by decide) rfl (Nat.le_of_ble_eq_true rfl) (fun X C hq hr hL ht => ?_)
  refine jx_sub (lv' := [(0, .ref a), (1, .int p0), (2, .int p1), (3, .ref o)]) [0, 1, 2, 3] rfl ?_
  refine j_aload_n C dL_zero_0 rfl rfl ?_
  refine j_iconst (v := (0 : Int32)) C dL_zero_1 (by decide) ?_
  refine j_aload_n C dL_zero_2 rfl rfl ?_
  refine j_iload_n C dL_zero_3 rfl rfl ?_
  refine j_iload_n C dL_zero_4 rfl rfl ?_
  refine j_callVX (ci := 9) (RC := RX9) (T := TX9) (N := 14) (As := [.int p0, .int p1]) (b := a) (na := 2) (st := [.int 0, .ref o]) (k1 := 1) (n1 := 6) C hr (sX9_zero e) rfl ho kL_78 kim_X9_zero ksel_X9_zero kini_X9 kc_X9_zero (by decide) rfl ⟨Nat.le_of_ble_eq_true rfl, Nat.le_of_ble_eq_true rfl⟩ (Nat.le_of_ble_eq_true rfl) ⟨rfl, rfl, Nat.le_of_ble_eq_true rfl, Nat.le_of_ble_eq_true rfl⟩ dL_zero_5 (fun r1 h1 hp => ?_) (fun E q h1 hp => ?_)
  · obtain ⟨v, h9, rfl, rfl, rfl⟩ := hp
    obtain ⟨h2, hh2⟩ := hO _ _ rfl
    show jx_J X 1 6 8 [(0, .ref a), (1, .int p0), (2, .int p1), (3, .ref o)] [.int v, .int 0, .ref o] h9
    refine j_i2l C dL_zero_8 ?_
    refine j_last C dL_zero_9 hh2 ?_
    refine j_goto (tgt := 21) C dL_zero_10 (by decide) ?_
    refine j_iconst (v := (0 : Int32)) C dL_zero_21 (by decide) ?_
    exact j_iretW C hq rfl dL_zero_22 ⟨Nat.le_of_ble_eq_true rfl, Nat.le_of_ble_eq_true rfl⟩ (Or.inl ⟨_, _, _, rfl, hh2, rfl, rfl⟩)
  · obtain ⟨h9, sz, rfl, hsz, rfl⟩ := hp
    rcases hE _ _ rfl with rfl | rfl
    · refine j_catch1 C ht rfl rfl (by decide) kL_23 kcast_IOB ?_
      refine j_astore (lv1 := [(4, .ref q), (0, .ref a), (1, .int p0), (2, .int p1), (3, .ref o)]) C hL dL_zero_13 (Nat.le_of_ble_eq_true rfl) rfl ?_
      refine j_iconst (v := (1 : Int32)) C dL_zero_15 (by decide) ?_
      exact j_iretW C hq rfl dL_zero_16 ⟨Nat.le_of_ble_eq_true rfl, Nat.le_of_ble_eq_true rfl⟩ (Or.inr ⟨_, _, sz, rfl, rfl, hsz, rfl⟩)
    · refine j_catch2 C ht rfl (by decide) kL_23 (by decide) rfl (by decide) kL_18 kcast_IAE ?_
      refine j_astore (lv1 := [(4, .ref q), (0, .ref a), (1, .int p0), (2, .int p1), (3, .ref o)]) C hL dL_zero_17 (Nat.le_of_ble_eq_true rfl) rfl ?_
      refine j_iconst (v := (2 : Int32)) C dL_zero_19 (by decide) ?_
      exact j_iretW C hq rfl dL_zero_20 ⟨Nat.le_of_ble_eq_true rfl, Nat.le_of_ble_eq_true rfl⟩ (Or.inr ⟨_, _, sz, rfl, rfl, hsz, rfl⟩)
def rmL_multiplicity : Room := { frames := 8, cells := 1, slots := 6, locals := 191 }
set_option maxRecDepth 20000 in
set_option maxHeartbeats 4000000 in
theorem sL_multiplicity {a o : Nat} {p0 p1 : Int32} {h : jx_H} {r : (Int32 × jx_H) ⊕ (String × jx_H)} (e : FX9_multiplicity a p0 p1 h = some r) (ho : isO h a 9 = some ()) (hO : ∀ v h1, r = .inl (v, h1) → ∃ h2, hls h1 o 0 v.toInt64 = some h2) (hE : ∀ E h1, r = .inr (E, h1) → E = "java/lang/IllegalArgumentException") : jx_Cw yL_multiplicity cL_multiplicity 5 (some .int) [(0, 10, 13, 18)] rmL_multiplicity [.ref a, .int p0, .int p1, .ref o] h (fun r' h' => (∃ v h1 h2, r = .inl (v, h1) ∧ hls h1 o 0 v.toInt64 = some h2 ∧ some (.int 0) = r' ∧ h2 = h') ∨ (∃ E h1 sz, r = .inr (E, h1) ∧ some (.int (jx_cd "java/lang/IllegalArgumentException" E)) = r' ∧ h1.1 ≤ sz ∧ h' = (sz, h1.2))) := by
  refine jx_Cw.of (own := RL) (by decide) rfl (Nat.le_of_ble_eq_true rfl) (fun X C hq hr hL ht => ?_)
  refine jx_sub (lv' := [(0, .ref a), (1, .int p0), (2, .int p1), (3, .ref o)]) [0, 1, 2, 3] rfl ?_
  refine j_aload_n C dL_multiplicity_0 rfl rfl ?_
  refine j_iconst (v := (0 : Int32)) C dL_multiplicity_1 (by decide) ?_
  refine j_aload_n C dL_multiplicity_2 rfl rfl ?_
  refine j_iload_n C dL_multiplicity_3 rfl rfl ?_
  refine j_iload_n C dL_multiplicity_4 rfl rfl ?_
  refine j_callVX (ci := 9) (RC := RX9) (T := TX9) (N := 14) (As := [.int p0, .int p1]) (b := a) (na := 2) (st := [.int 0, .ref o]) (k1 := 1) (n1 := 6) C hr (sX9_multiplicity e) rfl ho kL_81 kim_X9_multiplicity ksel_X9_multiplicity kini_X9 kc_X9_multiplicity (by decide) rfl ⟨Nat.le_of_ble_eq_true rfl, Nat.le_of_ble_eq_true rfl⟩ (Nat.le_of_ble_eq_true rfl) ⟨rfl, rfl, Nat.le_of_ble_eq_true rfl, Nat.le_of_ble_eq_true rfl⟩ dL_multiplicity_5 (fun r1 h1 hp => ?_) (fun E q h1 hp => ?_)
  · obtain ⟨v, h9, rfl, rfl, rfl⟩ := hp
    obtain ⟨h2, hh2⟩ := hO _ _ rfl
    show jx_J X 1 6 8 [(0, .ref a), (1, .int p0), (2, .int p1), (3, .ref o)] [.int v, .int 0, .ref o] h9
    refine j_i2l C dL_multiplicity_8 ?_
    refine j_last C dL_multiplicity_9 hh2 ?_
    refine j_goto (tgt := 17) C dL_multiplicity_10 (by decide) ?_
    refine j_iconst (v := (0 : Int32)) C dL_multiplicity_17 (by decide) ?_
    exact j_iretW C hq rfl dL_multiplicity_18 ⟨Nat.le_of_ble_eq_true rfl, Nat.le_of_ble_eq_true rfl⟩ (Or.inl ⟨_, _, _, rfl, hh2, rfl, rfl⟩)
  · obtain ⟨h9, sz, rfl, hsz, rfl⟩ := hp
    obtain rfl := hE _ _ rfl
    refine j_catch1 C ht rfl rfl (by decide) kL_18 kcast_IAE ?_
    refine j_astore (lv1 := [(4, .ref q), (0, .ref a), (1, .int p0), (2, .int p1), (3, .ref o)]) C hL dL_multiplicity_13 (Nat.le_of_ble_eq_true rfl) rfl ?_
    refine j_iconst (v := (1 : Int32)) C dL_multiplicity_15 (by decide) ?_
    exact j_iretW C hq rfl dL_multiplicity_16 ⟨Nat.le_of_ble_eq_true rfl, Nat.le_of_ble_eq_true rfl⟩ (Or.inr ⟨_, _, sz, rfl, rfl, hsz, rfl⟩)
def rmL_addPoint : Room := { frames := 8, cells := 9, slots := 255, locals := 170 }
set_option maxRecDepth 20000 in
set_option maxHeartbeats 4000000 in
theorem sL_addPoint {a o : Nat} {p0 p1 : Int32} {h : jx_H} {r : (Int32 × jx_H) ⊕ (String × jx_H)} (e : FX9_addPoint a p0 p1 h = some r) (ho : isO h a 9 = some ()) (hO : ∀ v h1, r = .inl (v, h1) → ∃ h2, hls h1 o 0 v.toInt64 = some h2) (hE : ∀ E h1, r = .inr (E, h1) → E = "java/lang/IllegalArgumentException" ∨ E = "java/lang/IllegalStateException") : jx_Cw yL_addPoint cL_addPoint 5 (some .int) [(0, 10, 13, 18), (0, 10, 17, 13)] rmL_addPoint [.ref a, .int p0, .int p1, .ref o] h (fun r' h' => (∃ v h1 h2, r = .inl (v, h1) ∧ hls h1 o 0 v.toInt64 = some h2 ∧ some (.int 0) = r' ∧ h2 = h') ∨ (∃ E h1 sz, r = .inr (E, h1) ∧ some (.int (jx_cd "java/lang/IllegalArgumentException" E)) = r' ∧ h1.1 ≤ sz ∧ h' = (sz, h1.2))) := by
  refine jx_Cw.of (own := RL) (by decide) rfl (Nat.le_of_ble_eq_true rfl) (fun X C hq hr hL ht => ?_)
  refine jx_sub (lv' := [(0, .ref a), (1, .int p0), (2, .int p1), (3, .ref o)]) [0, 1, 2, 3] rfl ?_
  refine j_aload_n C dL_addPoint_0 rfl rfl ?_
  refine j_iconst (v := (0 : Int32)) C dL_addPoint_1 (by decide) ?_
  refine j_aload_n C dL_addPoint_2 rfl rfl ?_
  refine j_iload_n C dL_addPoint_3 rfl rfl ?_
  refine j_iload_n C dL_addPoint_4 rfl rfl ?_
  refine j_callVX (ci := 9) (RC := RX9) (T := TX9) (N := 14) (As := [.int p0, .int p1]) (b := a) (na := 2) (st := [.int 0, .ref o]) (k1 := 9) (n1 := 255) C hr (sX9_addPoint e) rfl ho kL_84 kim_X9_addPoint ksel_X9_addPoint kini_X9 kc_X9_addPoint (by decide) rfl ⟨Nat.le_of_ble_eq_true rfl, Nat.le_of_ble_eq_true rfl⟩ (Nat.le_of_ble_eq_true rfl) ⟨rfl, rfl, Nat.le_of_ble_eq_true rfl, Nat.le_of_ble_eq_true rfl⟩ dL_addPoint_5 (fun r1 h1 hp => ?_) (fun E q h1 hp => ?_)
  · obtain ⟨v, h9, rfl, rfl, rfl⟩ := hp
    obtain ⟨h2, hh2⟩ := hO _ _ rfl
    show jx_J X 9 255 8 [(0, .ref a), (1, .int p0), (2, .int p1), (3, .ref o)] [.int v, .int 0, .ref o] h9
    refine j_i2l C dL_addPoint_8 ?_
    refine j_last C dL_addPoint_9 hh2 ?_
    refine j_goto (tgt := 21) C dL_addPoint_10 (by decide) ?_
    refine j_iconst (v := (0 : Int32)) C dL_addPoint_21 (by decide) ?_
    exact j_iretW C hq rfl dL_addPoint_22 ⟨Nat.le_of_ble_eq_true rfl, Nat.le_of_ble_eq_true rfl⟩ (Or.inl ⟨_, _, _, rfl, hh2, rfl, rfl⟩)
  · obtain ⟨h9, sz, rfl, hsz, rfl⟩ := hp
    rcases hE _ _ rfl with rfl | rfl
    · refine j_catch1 C ht rfl rfl (by decide) kL_18 kcast_IAE ?_
      refine j_astore (lv1 := [(4, .ref q), (0, .ref a), (1, .int p0), (2, .int p1), (3, .ref o)]) C hL dL_addPoint_13 (Nat.le_of_ble_eq_true rfl) rfl ?_
      refine j_iconst (v := (1 : Int32)) C dL_addPoint_15 (by decide) ?_
      exact j_iretW C hq rfl dL_addPoint_16 ⟨Nat.le_of_ble_eq_true rfl, Nat.le_of_ble_eq_true rfl⟩ (Or.inr ⟨_, _, sz, rfl, rfl, hsz, rfl⟩)
    · refine j_catch2 C ht rfl (by decide) kL_18 (by decide) rfl (by decide) kL_13 kcast_ISE ?_
      refine j_astore (lv1 := [(4, .ref q), (0, .ref a), (1, .int p0), (2, .int p1), (3, .ref o)]) C hL dL_addPoint_17 (Nat.le_of_ble_eq_true rfl) rfl ?_
      refine j_iconst (v := (2 : Int32)) C dL_addPoint_19 (by decide) ?_
      exact j_iretW C hq rfl dL_addPoint_20 ⟨Nat.le_of_ble_eq_true rfl, Nat.le_of_ble_eq_true rfl⟩ (Or.inr ⟨_, _, sz, rfl, rfl, hsz, rfl⟩)
def rmL_removePoint : Room := { frames := 8, cells := 9, slots := 255, locals := 169 }
set_option maxRecDepth 20000 in
set_option maxHeartbeats 4000000 in
theorem sL_removePoint {a o : Nat} {p0 : Int32} {h : jx_H} {r : (Int32 × jx_H) ⊕ (String × jx_H)} (e : FX9_removePoint a p0 h = some r) (ho : isO h a 9 = some ()) (hO : ∀ v h1, r = .inl (v, h1) → ∃ h2, hls h1 o 0 v.toInt64 = some h2) (hE : ∀ E h1, r = .inr (E, h1) → E = "java/lang/IndexOutOfBoundsException") : jx_Cw yL_removePoint cL_removePoint 4 (some .int) [(0, 9, 12, 23)] rmL_removePoint [.ref a, .int p0, .ref o] h (fun r' h' => (∃ v h1 h2, r = .inl (v, h1) ∧ hls h1 o 0 v.toInt64 = some h2 ∧ some (.int 0) = r' ∧ h2 = h') ∨ (∃ E h1 sz, r = .inr (E, h1) ∧ some (.int (jx_cd "java/lang/IndexOutOfBoundsException" E)) = r' ∧ h1.1 ≤ sz ∧ h' = (sz, h1.2))) := by
  refine jx_Cw.of (own := RL) (by decide) rfl (Nat.le_of_ble_eq_true rfl) (fun X C hq hr hL ht => ?_)
  refine jx_sub (lv' := [(0, .ref a), (1, .int p0), (2, .ref o)]) [0, 1, 2] rfl ?_
  refine j_aload_n C dL_removePoint_0 rfl rfl ?_
  refine j_iconst (v := (0 : Int32)) C dL_removePoint_1 (by decide) ?_
  refine j_aload_n C dL_removePoint_2 rfl rfl ?_
  refine j_iload_n C dL_removePoint_3 rfl rfl ?_
  refine j_callVX (ci := 9) (RC := RX9) (T := TX9) (N := 14) (As := [.int p0]) (b := a) (na := 1) (st := [.int 0, .ref o]) (k1 := 9) (n1 := 255) C hr (sX9_removePoint e) rfl ho kL_87 kim_X9_removePoint ksel_X9_removePoint kini_X9 kc_X9_removePoint (by decide) rfl ⟨Nat.le_of_ble_eq_true rfl, Nat.le_of_ble_eq_true rfl⟩ (Nat.le_of_ble_eq_true rfl) ⟨rfl, rfl, Nat.le_of_ble_eq_true rfl, Nat.le_of_ble_eq_true rfl⟩ dL_removePoint_4 (fun r1 h1 hp => ?_) (fun E q h1 hp => ?_)
  · obtain ⟨v, h9, rfl, rfl, rfl⟩ := hp
    obtain ⟨h2, hh2⟩ := hO _ _ rfl
    show jx_J X 9 255 7 [(0, .ref a), (1, .int p0), (2, .ref o)] [.int v, .int 0, .ref o] h9
    refine j_i2l C dL_removePoint_7 ?_
    refine j_last C dL_removePoint_8 hh2 ?_
    refine j_goto (tgt := 15) C dL_removePoint_9 (by decide) ?_
    refine j_iconst (v := (0 : Int32)) C dL_removePoint_15 (by decide) ?_
    exact j_iretW C hq rfl dL_removePoint_16 ⟨Nat.le_of_ble_eq_true rfl, Nat.le_of_ble_eq_true rfl⟩ (Or.inl ⟨_, _, _, rfl, hh2, rfl, rfl⟩)
  · obtain ⟨h9, sz, rfl, hsz, rfl⟩ := hp
    obtain rfl := hE _ _ rfl
    refine j_catch1 C ht rfl rfl (by decide) kL_23 kcast_IOB ?_
    refine j_astore_n (lv1 := [(3, .ref q), (0, .ref a), (1, .int p0), (2, .ref o)]) C hL dL_removePoint_12 rfl (Nat.le_of_ble_eq_true rfl) rfl ?_
    refine j_iconst (v := (1 : Int32)) C dL_removePoint_13 (by decide) ?_
    exact j_iretW C hq rfl dL_removePoint_14 ⟨Nat.le_of_ble_eq_true rfl, Nat.le_of_ble_eq_true rfl⟩ (Or.inr ⟨_, _, sz, rfl, rfl, hsz, rfl⟩)
def rmL_point : Room := { frames := 7, cells := 1, slots := 6, locals := 115 }
set_option maxRecDepth 20000 in
set_option maxHeartbeats 4000000 in
theorem sL_point {a o : Nat} {p0 p1 : Int32} {h : jx_H} {r : (Int32 × jx_H) ⊕ (String × jx_H)} (e : FX9_point a p0 p1 h = some r) (ho : isO h a 9 = some ()) (hO : ∀ v h1, r = .inl (v, h1) → ∃ h2, hls h1 o 0 v.toInt64 = some h2) (hE : ∀ E h1, r = .inr (E, h1) → E = "java/lang/IndexOutOfBoundsException" ∨ E = "java/lang/IllegalArgumentException") : jx_Cw yL_point cL_point 5 (some .int) [(0, 10, 13, 23), (0, 10, 17, 18)] rmL_point [.ref a, .int p0, .int p1, .ref o] h (fun r' h' => (∃ v h1 h2, r = .inl (v, h1) ∧ hls h1 o 0 v.toInt64 = some h2 ∧ some (.int 0) = r' ∧ h2 = h') ∨ (∃ E h1 sz, r = .inr (E, h1) ∧ some (.int (jx_cd "java/lang/IndexOutOfBoundsException" E)) = r' ∧ h1.1 ≤ sz ∧ h' = (sz, h1.2))) := by
  refine jx_Cw.of (own := RL) (by decide) rfl (Nat.le_of_ble_eq_true rfl) (fun X C hq hr hL ht => ?_)
  refine jx_sub (lv' := [(0, .ref a), (1, .int p0), (2, .int p1), (3, .ref o)]) [0, 1, 2, 3] rfl ?_
  refine j_aload_n C dL_point_0 rfl rfl ?_
  refine j_iconst (v := (0 : Int32)) C dL_point_1 (by decide) ?_
  refine j_aload_n C dL_point_2 rfl rfl ?_
  refine j_iload_n C dL_point_3 rfl rfl ?_
  refine j_iload_n C dL_point_4 rfl rfl ?_
  refine j_callVX (ci := 9) (RC := RX9) (T := TX9) (N := 14) (As := [.int p0, .int p1]) (b := a) (na := 2) (st := [.int 0, .ref o]) (k1 := 1) (n1 := 6) C hr (sX9_point e) rfl ho kL_90 kim_X9_point ksel_X9_point kini_X9 kc_X9_point (by decide) rfl ⟨Nat.le_of_ble_eq_true rfl, Nat.le_of_ble_eq_true rfl⟩ (Nat.le_of_ble_eq_true rfl) ⟨rfl, rfl, Nat.le_of_ble_eq_true rfl, Nat.le_of_ble_eq_true rfl⟩ dL_point_5 (fun r1 h1 hp => ?_) (fun E q h1 hp => ?_)
  · obtain ⟨v, h9, rfl, rfl, rfl⟩ := hp
    obtain ⟨h2, hh2⟩ := hO _ _ rfl
    show jx_J X 1 6 8 [(0, .ref a), (1, .int p0), (2, .int p1), (3, .ref o)] [.int v, .int 0, .ref o] h9
    refine j_i2l C dL_point_8 ?_
    refine j_last C dL_point_9 hh2 ?_
    refine j_goto (tgt := 21) C dL_point_10 (by decide) ?_
    refine j_iconst (v := (0 : Int32)) C dL_point_21 (by decide) ?_
    exact j_iretW C hq rfl dL_point_22 ⟨Nat.le_of_ble_eq_true rfl, Nat.le_of_ble_eq_true rfl⟩ (Or.inl ⟨_, _, _, rfl, hh2, rfl, rfl⟩)
  · obtain ⟨h9, sz, rfl, hsz, rfl⟩ := hp
    rcases hE _ _ rfl with rfl | rfl
    · refine j_catch1 C ht rfl rfl (by decide) kL_23 kcast_IOB ?_
      refine j_astore (lv1 := [(4, .ref q), (0, .ref a), (1, .int p0), (2, .int p1), (3, .ref o)]) C hL dL_point_13 (Nat.le_of_ble_eq_true rfl) rfl ?_
      refine j_iconst (v := (1 : Int32)) C dL_point_15 (by decide) ?_
      exact j_iretW C hq rfl dL_point_16 ⟨Nat.le_of_ble_eq_true rfl, Nat.le_of_ble_eq_true rfl⟩ (Or.inr ⟨_, _, sz, rfl, rfl, hsz, rfl⟩)
    · refine j_catch2 C ht rfl (by decide) kL_23 (by decide) rfl (by decide) kL_18 kcast_IAE ?_
      refine j_astore (lv1 := [(4, .ref q), (0, .ref a), (1, .int p0), (2, .int p1), (3, .ref o)]) C hL dL_point_17 (Nat.le_of_ble_eq_true rfl) rfl ?_
      refine j_iconst (v := (2 : Int32)) C dL_point_19 (by decide) ?_
      exact j_iretW C hq rfl dL_point_20 ⟨Nat.le_of_ble_eq_true rfl, Nat.le_of_ble_eq_true rfl⟩ (Or.inr ⟨_, _, sz, rfl, rfl, hsz, rfl⟩)
def rmL_fit : Room := { frames := 8, cells := 9, slots := 255, locals := 168 }
set_option maxRecDepth 20000 in
set_option maxHeartbeats 4000000 in
theorem sL_fit {a o : Nat} {h : jx_H} {r : (Int32 × jx_H) ⊕ (String × jx_H)} (e : FX9_fit a h = some r) (ho : isO h a 9 = some ()) (hO : ∀ v h1, r = .inl (v, h1) → ∃ h2, hls h1 o 0 v.toInt64 = some h2) (hE : ∀ E h1, r = .inr (E, h1) → E = "java/lang/IllegalStateException") : jx_Cw yL_fit cL_fit 3 (some .int) [(0, 8, 11, 13)] rmL_fit [.ref a, .ref o] h (fun r' h' => (∃ v h1 h2, r = .inl (v, h1) ∧ hls h1 o 0 v.toInt64 = some h2 ∧ some (.int 0) = r' ∧ h2 = h') ∨ (∃ E h1 sz, r = .inr (E, h1) ∧ some (.int (jx_cd "java/lang/IllegalStateException" E)) = r' ∧ h1.1 ≤ sz ∧ h' = (sz, h1.2))) := by
  refine jx_Cw.of (own := RL) (by decide) rfl (Nat.le_of_ble_eq_true rfl) (fun X C hq hr hL ht => ?_)
  refine jx_sub (lv' := [(0, .ref a), (1, .ref o)]) [0, 1] rfl ?_
  refine j_aload_n C dL_fit_0 rfl rfl ?_
  refine j_iconst (v := (0 : Int32)) C dL_fit_1 (by decide) ?_
  refine j_aload_n C dL_fit_2 rfl rfl ?_
  refine j_callVX (ci := 9) (RC := RX9) (T := TX9) (N := 14) (As := []) (b := a) (na := 0) (st := [.int 0, .ref o]) (k1 := 9) (n1 := 255) C hr (sX9_fit e) rfl ho kL_93 kim_X9_fit ksel_X9_fit kini_X9 kc_X9_fit (by decide) rfl ⟨Nat.le_of_ble_eq_true rfl, Nat.le_of_ble_eq_true rfl⟩ (Nat.le_of_ble_eq_true rfl) ⟨rfl, rfl, Nat.le_of_ble_eq_true rfl, Nat.le_of_ble_eq_true rfl⟩ dL_fit_3 (fun r1 h1 hp => ?_) (fun E q h1 hp => ?_)
  · obtain ⟨v, h9, rfl, rfl, rfl⟩ := hp
    obtain ⟨h2, hh2⟩ := hO _ _ rfl
    show jx_J X 9 255 6 [(0, .ref a), (1, .ref o)] [.int v, .int 0, .ref o] h9
    refine j_i2l C dL_fit_6 ?_
    refine j_last C dL_fit_7 hh2 ?_
    refine j_goto (tgt := 14) C dL_fit_8 (by decide) ?_
    refine j_iconst (v := (0 : Int32)) C dL_fit_14 (by decide) ?_
    exact j_iretW C hq rfl dL_fit_15 ⟨Nat.le_of_ble_eq_true rfl, Nat.le_of_ble_eq_true rfl⟩ (Or.inl ⟨_, _, _, rfl, hh2, rfl, rfl⟩)
  · obtain ⟨h9, sz, rfl, hsz, rfl⟩ := hp
    obtain rfl := hE _ _ rfl
    refine j_catch1 C ht rfl rfl (by decide) kL_13 kcast_ISE ?_
    refine j_astore_n (lv1 := [(2, .ref q), (0, .ref a), (1, .ref o)]) C hL dL_fit_11 rfl (Nat.le_of_ble_eq_true rfl) rfl ?_
    refine j_iconst (v := (1 : Int32)) C dL_fit_12 (by decide) ?_
    exact j_iretW C hq rfl dL_fit_13 ⟨Nat.le_of_ble_eq_true rfl, Nat.le_of_ble_eq_true rfl⟩ (Or.inr ⟨_, _, sz, rfl, rfl, hsz, rfl⟩)
def rmL_save : Room := { frames := 7, cells := 9, slots := 255, locals := 127 }
set_option maxRecDepth 20000 in
set_option maxHeartbeats 4000000 in
theorem sL_save {a : Nat} {p0 : Int32} {h : jx_H} {r : jx_H ⊕ String × jx_H} (e : FX9_save a p0 h = some r) (ho : isO h a 9 = some ()) (hE : ∀ E h1, r = .inr (E, h1) → E = "java/lang/IllegalArgumentException") : jx_Cw yL_save cL_save 3 (some .int) [(0, 5, 8, 18)] rmL_save [.ref a, .int p0] h (fun r' h' => (∃ h1, r = .inl h1 ∧ some (.int 0) = r' ∧ h1 = h') ∨ (∃ E h1 sz, r = .inr (E, h1) ∧ some (.int (jx_cd "java/lang/IllegalArgumentException" E)) = r' ∧ h1.1 ≤ sz ∧ h' = (sz, h1.2))) := by
  refine jx_Cw.of (own := RL) (by decide) rfl (Nat.le_of_ble_eq_true rfl) (fun X C hq hr hL ht => ?_)
  refine jx_sub (lv' := [(0, .ref a), (1, .int p0)]) [0, 1] rfl ?_
  refine j_aload_n C dL_save_0 rfl rfl ?_
  refine j_iload_n C dL_save_1 rfl rfl ?_
  refine j_callVX (ci := 9) (RC := RX9) (T := TX9) (N := 14) (As := [.int p0]) (b := a) (na := 1) (st := []) (k1 := 9) (n1 := 255) C hr (sX9_save e) rfl ho kL_97 kim_X9_save ksel_X9_save kini_X9 kc_X9_save (by decide) rfl ⟨Nat.le_of_ble_eq_true rfl, Nat.le_of_ble_eq_true rfl⟩ (Nat.le_of_ble_eq_true rfl) ⟨rfl, rfl, Nat.le_of_ble_eq_true rfl, Nat.le_of_ble_eq_true rfl⟩ dL_save_2 (fun r1 h1 hp => ?_) (fun E q h1 hp => ?_)
  · obtain ⟨rfl, rfl⟩ := hp
    show jx_J X 9 255 5 [(0, .ref a), (1, .int p0)] [] h1
    refine j_goto (tgt := 11) C dL_save_5 (by decide) ?_
    refine j_iconst (v := (0 : Int32)) C dL_save_11 (by decide) ?_
    exact j_iretW C hq rfl dL_save_12 ⟨Nat.le_of_ble_eq_true rfl, Nat.le_of_ble_eq_true rfl⟩ (Or.inl ⟨_, rfl, rfl, rfl⟩)
  · obtain ⟨h9, sz, rfl, hsz, rfl⟩ := hp
    obtain rfl := hE _ _ rfl
    refine j_catch1 C ht rfl rfl (by decide) kL_18 kcast_IAE ?_
    refine j_astore_n (lv1 := [(2, .ref q), (0, .ref a), (1, .int p0)]) C hL dL_save_8 rfl (Nat.le_of_ble_eq_true rfl) rfl ?_
    refine j_iconst (v := (1 : Int32)) C dL_save_9 (by decide) ?_
    exact j_iretW C hq rfl dL_save_10 ⟨Nat.le_of_ble_eq_true rfl, Nat.le_of_ble_eq_true rfl⟩ (Or.inr ⟨_, _, sz, rfl, rfl, hsz, rfl⟩)
def rmL_restore : Room := { frames := 7, cells := 1, slots := 6, locals := 110 }
set_option maxRecDepth 20000 in
set_option maxHeartbeats 4000000 in
theorem sL_restore {a : Nat} {p0 : Int32} {h : jx_H} {r : jx_H ⊕ String × jx_H} (e : FX9_restore a p0 h = some r) (ho : isO h a 9 = some ()) (hE : ∀ E h1, r = .inr (E, h1) → E = "java/lang/IllegalArgumentException" ∨ E = "java/lang/IllegalStateException") : jx_Cw yL_restore cL_restore 3 (some .int) [(0, 5, 8, 18), (0, 5, 11, 13)] rmL_restore [.ref a, .int p0] h (fun r' h' => (∃ h1, r = .inl h1 ∧ some (.int 0) = r' ∧ h1 = h') ∨ (∃ E h1 sz, r = .inr (E, h1) ∧ some (.int (jx_cd "java/lang/IllegalArgumentException" E)) = r' ∧ h1.1 ≤ sz ∧ h' = (sz, h1.2))) := by
  refine jx_Cw.of (own := RL) (by decide) rfl (Nat.le_of_ble_eq_true rfl) (fun X C hq hr hL ht => ?_)
  refine jx_sub (lv' := [(0, .ref a), (1, .int p0)]) [0, 1] rfl ?_
  refine j_aload_n C dL_restore_0 rfl rfl ?_
  refine j_iload_n C dL_restore_1 rfl rfl ?_
  refine j_callVX (ci := 9) (RC := RX9) (T := TX9) (N := 14) (As := [.int p0]) (b := a) (na := 1) (st := []) (k1 := 1) (n1 := 6) C hr (sX9_restore e) rfl ho kL_101 kim_X9_restore ksel_X9_restore kini_X9 kc_X9_restore (by decide) rfl ⟨Nat.le_of_ble_eq_true rfl, Nat.le_of_ble_eq_true rfl⟩ (Nat.le_of_ble_eq_true rfl) ⟨rfl, rfl, Nat.le_of_ble_eq_true rfl, Nat.le_of_ble_eq_true rfl⟩ dL_restore_2 (fun r1 h1 hp => ?_) (fun E q h1 hp => ?_)
  · obtain ⟨rfl, rfl⟩ := hp
    show jx_J X 1 6 5 [(0, .ref a), (1, .int p0)] [] h1
    refine j_goto (tgt := 14) C dL_restore_5 (by decide) ?_
    refine j_iconst (v := (0 : Int32)) C dL_restore_14 (by decide) ?_
    exact j_iretW C hq rfl dL_restore_15 ⟨Nat.le_of_ble_eq_true rfl, Nat.le_of_ble_eq_true rfl⟩ (Or.inl ⟨_, rfl, rfl, rfl⟩)
  · obtain ⟨h9, sz, rfl, hsz, rfl⟩ := hp
    rcases hE _ _ rfl with rfl | rfl
    · refine j_catch1 C ht rfl rfl (by decide) kL_18 kcast_IAE ?_
      refine j_astore_n (lv1 := [(2, .ref q), (0, .ref a), (1, .int p0)]) C hL dL_restore_8 rfl (Nat.le_of_ble_eq_true rfl) rfl ?_
      refine j_iconst (v := (1 : Int32)) C dL_restore_9 (by decide) ?_
      exact j_iretW C hq rfl dL_restore_10 ⟨Nat.le_of_ble_eq_true rfl, Nat.le_of_ble_eq_true rfl⟩ (Or.inr ⟨_, _, sz, rfl, rfl, hsz, rfl⟩)
    · refine j_catch2 C ht rfl (by decide) kL_18 (by decide) rfl (by decide) kL_13 kcast_ISE ?_
      refine j_astore_n (lv1 := [(2, .ref q), (0, .ref a), (1, .int p0)]) C hL dL_restore_11 rfl (Nat.le_of_ble_eq_true rfl) rfl ?_
      refine j_iconst (v := (2 : Int32)) C dL_restore_12 (by decide) ?_
      exact j_iretW C hq rfl dL_restore_13 ⟨Nat.le_of_ble_eq_true rfl, Nat.le_of_ble_eq_true rfl⟩ (Or.inr ⟨_, _, sz, rfl, rfl, hsz, rfl⟩)
