/-! the law's cases -/
set_option maxRecDepth 20000 in
set_option maxHeartbeats 4000000 in
theorem lc_appendText {X : jx_X} {b a m o L j : Nat} {xs : Nat → Int32} {Inv : jx_H → Prop} {h : jx_H} {k n : Nat} {i : Int32} (C : jx_ok X cL_law RL) (hr : jx_r X room_1) (hL : jx_nl X 9) (hX : jx_S X b L xs) (hi : i = Int32.ofNat (4 * j)) (hj : 4 * j + 4 ≤ L) (hLL : L ≤ 2048) (hk : k + 40 ≤ 601024) (hn : n + 2000 ≤ 7293034) (hs : St_appendText Inv a m o) (hI : Inv h)
    (kk : ∀ h2, Inv h2 → jx_J X (k + 40) (n + 2000) 2125 [(0, .ref b), (1, .ref a), (2, .ref m), (3, .ref o), (4, .int i)] [] h2) : jx_J X k n 200 [(0, .ref b), (1, .ref a), (2, .ref m), (3, .ref o), (4, .int i)] [] h := by
  subst hi
  refine j_aload_n C dL_law_200 rfl rfl ?_
  refine j_aload_n C dL_law_201 rfl rfl ?_
  refine j_iload C dL_law_202 rfl ?_
  refine j_iconst (v := (1 : Int32)) C dL_law_204 (by decide) ?_
  refine j_iadd C dL_law_205 ?_
  refine j_sld C hX (lw_in1 hj hLL) dL_law_206 ?_
  refine j_aload_n C dL_law_207 rfl rfl ?_
  obtain ⟨r, e1, ho, hO, hE, hs2⟩ := hs h _ hI
  refine j_callSW (As := [.ref a, .int (xs (Int32.ofNat (4 * j) + (1 : Int32)).toNatClampNeg), .ref o]) (na := 3) (st := []) (k1 := k + 1) (n1 := n + 6) C hr (sL_appendText e1 ho hO hE) kL_108 kst_L_appendText kini_L kcw_L_appendText (by decide) rfl ⟨Nat.le_of_ble_eq_true rfl, Nat.le_of_ble_eq_true rfl⟩ (Nat.le_of_ble_eq_true rfl) ⟨rfl, rfl, by show _ + 1 ≤ 601024; omega, by show _ + 6 ≤ 7293034; omega⟩ dL_law_208 (fun r1 h1 hp => ?_)
  obtain ⟨r', rfl, b2, h2, t, o1, e2, o2, e3, e4, e5, hI2⟩ := hs2 r1 h1 hp
  show jx_J X (k + 1) (n + 6) 211 [(0, .ref b), (1, .ref a), (2, .ref m), (3, .ref o), (4, .int (Int32.ofNat (4 * j)))] [.int (r')] h1
  refine j_istore (lv1 := [(5, .int (r')), (0, .ref b), (1, .ref a), (2, .ref m), (3, .ref o), (4, .int (Int32.ofNat (4 * j)))]) C hL dL_law_211 (Nat.le_of_ble_eq_true rfl) rfl ?_
  refine j_aload_n C dL_law_213 rfl rfl ?_
  refine j_aload_n C dL_law_214 rfl rfl ?_
  refine j_iload C dL_law_215 rfl ?_
  refine j_iconst (v := (1 : Int32)) C dL_law_217 (by decide) ?_
  refine j_iadd C dL_law_218 ?_
  refine j_sld C hX (lw_in1 hj hLL) dL_law_219 ?_
  refine j_callV (ci := 10) (RC := RX10) (T := TX10) (N := 38) (As := [.int (xs (Int32.ofNat (4 * j) + (1 : Int32)).toNatClampNeg)]) (b := m) (na := 1) (st := []) (k1 := k + 1) (n1 := n + 6) C hr (sX10_appendText e2) rfl o1 kL_113 kim_X10_appendText ksel_X10_appendText kini_X10 kc_X10_appendText (by decide) rfl ⟨Nat.le_of_ble_eq_true rfl, Nat.le_of_ble_eq_true rfl⟩ (Nat.le_of_ble_eq_true rfl) ⟨rfl, rfl, by show _ ≤ 601024; omega, by show _ ≤ 7293034; omega⟩ dL_law_220 ?_
  rintro _ _ ⟨rfl, rfl⟩
  show jx_J X (k + 1) (n + 6) 223 [(5, .int (r')), (0, .ref b), (1, .ref a), (2, .ref m), (3, .ref o), (4, .int (Int32.ofNat (4 * j)))] [.int b2] h2
  refine j_istore (lv1 := [(6, .int b2), (5, .int (r')), (0, .ref b), (1, .ref a), (2, .ref m), (3, .ref o), (4, .int (Int32.ofNat (4 * j)))]) C hL dL_law_223 (Nat.le_of_ble_eq_true rfl) rfl ?_
  refine j_aload_n C dL_law_225 rfl rfl ?_
  refine j_callV (ci := 10) (RC := RX10) (T := TX10) (N := 38) (As := []) (b := m) (na := 0) (st := []) (k1 := k + 1) (n1 := n + 6) C hr (sX10_thrown e3) rfl o2 kL_114 kim_X10_thrown ksel_X10_thrown kini_X10 kc_X10_thrown (by decide) rfl ⟨Nat.le_of_ble_eq_true rfl, Nat.le_of_ble_eq_true rfl⟩ (Nat.le_of_ble_eq_true rfl) ⟨rfl, rfl, by show _ ≤ 601024; omega, by show _ ≤ 7293034; omega⟩ dL_law_226 ?_
  rintro _ _ ⟨rfl, rfl⟩
  show jx_J X (k + 1) (n + 6) 229 [(6, .int b2), (5, .int (r')), (0, .ref b), (1, .ref a), (2, .ref m), (3, .ref o), (4, .int (Int32.ofNat (4 * j)))] [.int t] h2
  refine j_iload C dL_law_229 rfl ?_
  refine j_icmp_eq (tgt := 236) C dL_law_231 (by decide) (fun _ => ?_) (fun c => absurd e4 c)
  refine j_iload C dL_law_236 rfl ?_
  refine j_if_ne (tgt := 253) C dL_law_238 (by decide) (fun _ => ?_) (fun hr0 => ?_)
  · refine j_goto (tgt := 2125) C dL_law_253 (by decide) ?_
    refine jx_sub (lv' := [(0, .ref b), (1, .ref a), (2, .ref m), (3, .ref o), (4, .int (Int32.ofNat (4 * j)))]) [2, 3, 4, 5, 6] rfl ?_
    exact jx_widen (by omega) (by omega) (kk h2 hI2)
  · obtain ⟨z, ez, rfl⟩ := e5 hr0
    refine j_aload_n C dL_law_241 rfl rfl ?_
    refine j_iconst (v := (0 : Int32)) C dL_law_242 (by decide) ?_
    refine j_lald C dL_law_243 ez ?_
    refine j_iload C dL_law_244 rfl ?_
    refine j_i2l C dL_law_246 ?_
    refine j_lcmp C dL_law_247 ?_
    refine j_if_eq (tgt := 253) C dL_law_248 (by decide) (fun _ => ?_) (fun c => absurd (lw_cmp _) c)
    refine j_goto (tgt := 2125) C dL_law_253 (by decide) ?_
    refine jx_sub (lv' := [(0, .ref b), (1, .ref a), (2, .ref m), (3, .ref o), (4, .int (Int32.ofNat (4 * j)))]) [2, 3, 4, 5, 6] rfl ?_
    exact jx_widen (by omega) (by omega) (kk h2 hI2)
set_option maxRecDepth 20000 in
set_option maxHeartbeats 4000000 in
theorem lc_truncateText {X : jx_X} {b a m o L j : Nat} {xs : Nat → Int32} {Inv : jx_H → Prop} {h : jx_H} {k n : Nat} {i : Int32} (C : jx_ok X cL_law RL) (hr : jx_r X room_1) (hL : jx_nl X 9) (hX : jx_S X b L xs) (hi : i = Int32.ofNat (4 * j)) (hj : 4 * j + 4 ≤ L) (hLL : L ≤ 2048) (hk : k + 40 ≤ 601024) (hn : n + 2000 ≤ 7293034) (hs : St_truncateText Inv a m o) (hI : Inv h)
    (kk : ∀ h2, Inv h2 → jx_J X (k + 40) (n + 2000) 2125 [(0, .ref b), (1, .ref a), (2, .ref m), (3, .ref o), (4, .int i)] [] h2) : jx_J X k n 256 [(0, .ref b), (1, .ref a), (2, .ref m), (3, .ref o), (4, .int i)] [] h := by
  subst hi
  refine j_aload_n C dL_law_256 rfl rfl ?_
  refine j_aload_n C dL_law_257 rfl rfl ?_
  refine j_iload C dL_law_258 rfl ?_
  refine j_iconst (v := (1 : Int32)) C dL_law_260 (by decide) ?_
  refine j_iadd C dL_law_261 ?_
  refine j_sld C hX (lw_in1 hj hLL) dL_law_262 ?_
  refine j_aload_n C dL_law_263 rfl rfl ?_
  obtain ⟨r, e1, ho, hO, hE, hs2⟩ := hs h _ hI
  refine j_callSW (As := [.ref a, .int (xs (Int32.ofNat (4 * j) + (1 : Int32)).toNatClampNeg), .ref o]) (na := 3) (st := []) (k1 := k + 1) (n1 := n + 6) C hr (sL_truncateText e1 ho hO hE) kL_117 kst_L_truncateText kini_L kcw_L_truncateText (by decide) rfl ⟨Nat.le_of_ble_eq_true rfl, Nat.le_of_ble_eq_true rfl⟩ (Nat.le_of_ble_eq_true rfl) ⟨rfl, rfl, by show _ + 1 ≤ 601024; omega, by show _ + 6 ≤ 7293034; omega⟩ dL_law_264 (fun r1 h1 hp => ?_)
  obtain ⟨r', rfl, b2, h2, t, o1, e2, o2, e3, e4, e5, hI2⟩ := hs2 r1 h1 hp
  show jx_J X (k + 1) (n + 6) 267 [(0, .ref b), (1, .ref a), (2, .ref m), (3, .ref o), (4, .int (Int32.ofNat (4 * j)))] [.int (r')] h1
  refine j_istore (lv1 := [(5, .int (r')), (0, .ref b), (1, .ref a), (2, .ref m), (3, .ref o), (4, .int (Int32.ofNat (4 * j)))]) C hL dL_law_267 (Nat.le_of_ble_eq_true rfl) rfl ?_
  refine j_aload_n C dL_law_269 rfl rfl ?_
  refine j_aload_n C dL_law_270 rfl rfl ?_
  refine j_iload C dL_law_271 rfl ?_
  refine j_iconst (v := (1 : Int32)) C dL_law_273 (by decide) ?_
  refine j_iadd C dL_law_274 ?_
  refine j_sld C hX (lw_in1 hj hLL) dL_law_275 ?_
  refine j_callV (ci := 10) (RC := RX10) (T := TX10) (N := 38) (As := [.int (xs (Int32.ofNat (4 * j) + (1 : Int32)).toNatClampNeg)]) (b := m) (na := 1) (st := []) (k1 := k + 1) (n1 := n + 6) C hr (sX10_truncateText e2) rfl o1 kL_119 kim_X10_truncateText ksel_X10_truncateText kini_X10 kc_X10_truncateText (by decide) rfl ⟨Nat.le_of_ble_eq_true rfl, Nat.le_of_ble_eq_true rfl⟩ (Nat.le_of_ble_eq_true rfl) ⟨rfl, rfl, by show _ ≤ 601024; omega, by show _ ≤ 7293034; omega⟩ dL_law_276 ?_
  rintro _ _ ⟨rfl, rfl⟩
  show jx_J X (k + 1) (n + 6) 279 [(5, .int (r')), (0, .ref b), (1, .ref a), (2, .ref m), (3, .ref o), (4, .int (Int32.ofNat (4 * j)))] [.int b2] h2
  refine j_istore (lv1 := [(6, .int b2), (5, .int (r')), (0, .ref b), (1, .ref a), (2, .ref m), (3, .ref o), (4, .int (Int32.ofNat (4 * j)))]) C hL dL_law_279 (Nat.le_of_ble_eq_true rfl) rfl ?_
  refine j_aload_n C dL_law_281 rfl rfl ?_
  refine j_callV (ci := 10) (RC := RX10) (T := TX10) (N := 38) (As := []) (b := m) (na := 0) (st := []) (k1 := k + 1) (n1 := n + 6) C hr (sX10_thrown e3) rfl o2 kL_114 kim_X10_thrown ksel_X10_thrown kini_X10 kc_X10_thrown (by decide) rfl ⟨Nat.le_of_ble_eq_true rfl, Nat.le_of_ble_eq_true rfl⟩ (Nat.le_of_ble_eq_true rfl) ⟨rfl, rfl, by show _ ≤ 601024; omega, by show _ ≤ 7293034; omega⟩ dL_law_282 ?_
  rintro _ _ ⟨rfl, rfl⟩
  show jx_J X (k + 1) (n + 6) 285 [(6, .int b2), (5, .int (r')), (0, .ref b), (1, .ref a), (2, .ref m), (3, .ref o), (4, .int (Int32.ofNat (4 * j)))] [.int t] h2
  refine j_iload C dL_law_285 rfl ?_
  refine j_icmp_eq (tgt := 292) C dL_law_287 (by decide) (fun _ => ?_) (fun c => absurd e4 c)
  refine j_iload C dL_law_292 rfl ?_
  refine j_if_ne (tgt := 309) C dL_law_294 (by decide) (fun _ => ?_) (fun hr0 => ?_)
  · refine j_goto (tgt := 2125) C dL_law_309 (by decide) ?_
    refine jx_sub (lv' := [(0, .ref b), (1, .ref a), (2, .ref m), (3, .ref o), (4, .int (Int32.ofNat (4 * j)))]) [2, 3, 4, 5, 6] rfl ?_
    exact jx_widen (by omega) (by omega) (kk h2 hI2)
  · obtain ⟨z, ez, rfl⟩ := e5 hr0
    refine j_aload_n C dL_law_297 rfl rfl ?_
    refine j_iconst (v := (0 : Int32)) C dL_law_298 (by decide) ?_
    refine j_lald C dL_law_299 ez ?_
    refine j_iload C dL_law_300 rfl ?_
    refine j_i2l C dL_law_302 ?_
    refine j_lcmp C dL_law_303 ?_
    refine j_if_eq (tgt := 309) C dL_law_304 (by decide) (fun _ => ?_) (fun c => absurd (lw_cmp _) c)
    refine j_goto (tgt := 2125) C dL_law_309 (by decide) ?_
    refine jx_sub (lv' := [(0, .ref b), (1, .ref a), (2, .ref m), (3, .ref o), (4, .int (Int32.ofNat (4 * j)))]) [2, 3, 4, 5, 6] rfl ?_
    exact jx_widen (by omega) (by omega) (kk h2 hI2)
set_option maxRecDepth 20000 in
set_option maxHeartbeats 4000000 in
theorem lc_load {X : jx_X} {b a m o L j : Nat} {xs : Nat → Int32} {Inv : jx_H → Prop} {h : jx_H} {k n : Nat} {i : Int32} (C : jx_ok X cL_law RL) (hr : jx_r X room_1) (hL : jx_nl X 9) (hX : jx_S X b L xs) (hi : i = Int32.ofNat (4 * j)) (hj : 4 * j + 4 ≤ L) (hLL : L ≤ 2048) (hk : k + 40 ≤ 601024) (hn : n + 2000 ≤ 7293034) (hs : St_load Inv a m) (hI : Inv h)
    (kk : ∀ h2, Inv h2 → jx_J X (k + 40) (n + 2000) 2125 [(0, .ref b), (1, .ref a), (2, .ref m), (3, .ref o), (4, .int i)] [] h2) : jx_J X k n 312 [(0, .ref b), (1, .ref a), (2, .ref m), (3, .ref o), (4, .int i)] [] h := by
  subst hi
  refine j_aload_n C dL_law_312 rfl rfl ?_
  obtain ⟨v1, h1, o1, e1, o2, b2, h2, e2, e4, hI2⟩ := hs h hI
  refine j_callV (ci := 9) (RC := RX9) (T := TX9) (N := 14) (As := []) (b := a) (na := 0) (st := []) (k1 := k) (n1 := n) C hr (sX9_load e1) rfl o1 kL_120 kim_X9_load ksel_X9_load kini_X9 kc_X9_load (by decide) rfl ⟨Nat.le_of_ble_eq_true rfl, Nat.le_of_ble_eq_true rfl⟩ (Nat.le_of_ble_eq_true rfl) ⟨rfl, rfl, by show _ ≤ 601024; omega, by show _ ≤ 7293034; omega⟩ dL_law_313 ?_
  rintro _ _ ⟨rfl, rfl⟩
  show jx_J X k n 316 [(0, .ref b), (1, .ref a), (2, .ref m), (3, .ref o), (4, .int (Int32.ofNat (4 * j)))] [.int v1] h1
  refine j_aload_n C dL_law_316 rfl rfl ?_
  refine j_callV (ci := 10) (RC := RX10) (T := TX10) (N := 38) (As := []) (b := m) (na := 0) (st := [.int v1]) (k1 := k) (n1 := n) C hr (sX10_load e2) rfl o2 kL_123 kim_X10_load ksel_X10_load kini_X10 kc_X10_load (by decide) rfl ⟨Nat.le_of_ble_eq_true rfl, Nat.le_of_ble_eq_true rfl⟩ (Nat.le_of_ble_eq_true rfl) ⟨rfl, rfl, by show _ ≤ 601024; omega, by show _ ≤ 7293034; omega⟩ dL_law_317 ?_
  rintro _ _ ⟨rfl, rfl⟩
  show jx_J X k n 320 [(0, .ref b), (1, .ref a), (2, .ref m), (3, .ref o), (4, .int (Int32.ofNat (4 * j)))] [.int b2, .int v1] h2
  refine j_icmp_eq (tgt := 2125) C dL_law_320 (by decide) (fun _ => ?_) (fun c => absurd e4 c)
  refine jx_sub (lv' := [(0, .ref b), (1, .ref a), (2, .ref m), (3, .ref o), (4, .int (Int32.ofNat (4 * j)))]) [0, 1, 2, 3, 4] rfl ?_
  exact jx_widen (by omega) (by omega) (kk h2 hI2)
set_option maxRecDepth 20000 in
set_option maxHeartbeats 4000000 in
theorem lc_reduce {X : jx_X} {b a m o L j : Nat} {xs : Nat → Int32} {Inv : jx_H → Prop} {h : jx_H} {k n : Nat} {i : Int32} (C : jx_ok X cL_law RL) (hr : jx_r X room_1) (hL : jx_nl X 9) (hX : jx_S X b L xs) (hi : i = Int32.ofNat (4 * j)) (hj : 4 * j + 4 ≤ L) (hLL : L ≤ 2048) (hk : k + 40 ≤ 601024) (hn : n + 2000 ≤ 7293034) (hs : St_reduce Inv a m) (hI : Inv h)
    (kk : ∀ h2, Inv h2 → jx_J X (k + 40) (n + 2000) 2125 [(0, .ref b), (1, .ref a), (2, .ref m), (3, .ref o), (4, .int i)] [] h2) : jx_J X k n 325 [(0, .ref b), (1, .ref a), (2, .ref m), (3, .ref o), (4, .int i)] [] h := by
  subst hi
  refine j_aload_n C dL_law_325 rfl rfl ?_
  obtain ⟨v1, h1, o1, e1, o2, b2, h2, e2, e4, hI2⟩ := hs h hI
  refine j_callV (ci := 9) (RC := RX9) (T := TX9) (N := 14) (As := []) (b := a) (na := 0) (st := []) (k1 := k) (n1 := n) C hr (sX9_reduce e1) rfl o1 kL_124 kim_X9_reduce ksel_X9_reduce kini_X9 kc_X9_reduce (by decide) rfl ⟨Nat.le_of_ble_eq_true rfl, Nat.le_of_ble_eq_true rfl⟩ (Nat.le_of_ble_eq_true rfl) ⟨rfl, rfl, by show _ ≤ 601024; omega, by show _ ≤ 7293034; omega⟩ dL_law_326 ?_
  rintro _ _ ⟨rfl, rfl⟩
  show jx_J X k n 329 [(0, .ref b), (1, .ref a), (2, .ref m), (3, .ref o), (4, .int (Int32.ofNat (4 * j)))] [.int v1] h1
  refine j_aload_n C dL_law_329 rfl rfl ?_
  refine j_callV (ci := 10) (RC := RX10) (T := TX10) (N := 38) (As := []) (b := m) (na := 0) (st := [.int v1]) (k1 := k) (n1 := n) C hr (sX10_reduce e2) rfl o2 kL_127 kim_X10_reduce ksel_X10_reduce kini_X10 kc_X10_reduce (by decide) rfl ⟨Nat.le_of_ble_eq_true rfl, Nat.le_of_ble_eq_true rfl⟩ (Nat.le_of_ble_eq_true rfl) ⟨rfl, rfl, by show _ ≤ 601024; omega, by show _ ≤ 7293034; omega⟩ dL_law_330 ?_
  rintro _ _ ⟨rfl, rfl⟩
  show jx_J X k n 333 [(0, .ref b), (1, .ref a), (2, .ref m), (3, .ref o), (4, .int (Int32.ofNat (4 * j)))] [.int b2, .int v1] h2
  refine j_icmp_eq (tgt := 2125) C dL_law_333 (by decide) (fun _ => ?_) (fun c => absurd e4 c)
  refine jx_sub (lv' := [(0, .ref b), (1, .ref a), (2, .ref m), (3, .ref o), (4, .int (Int32.ofNat (4 * j)))]) [0, 1, 2, 3, 4] rfl ?_
  exact jx_widen (by omega) (by omega) (kk h2 hI2)
set_option maxRecDepth 20000 in
set_option maxHeartbeats 4000000 in
theorem lc_errorCode {X : jx_X} {b a m o L j : Nat} {xs : Nat → Int32} {Inv : jx_H → Prop} {h : jx_H} {k n : Nat} {i : Int32} (C : jx_ok X cL_law RL) (hr : jx_r X room_1) (hL : jx_nl X 9) (hX : jx_S X b L xs) (hi : i = Int32.ofNat (4 * j)) (hj : 4 * j + 4 ≤ L) (hLL : L ≤ 2048) (hk : k + 40 ≤ 601024) (hn : n + 2000 ≤ 7293034) (hs : St_errorCode Inv a m) (hI : Inv h)
    (kk : ∀ h2, Inv h2 → jx_J X (k + 40) (n + 2000) 2125 [(0, .ref b), (1, .ref a), (2, .ref m), (3, .ref o), (4, .int i)] [] h2) : jx_J X k n 338 [(0, .ref b), (1, .ref a), (2, .ref m), (3, .ref o), (4, .int i)] [] h := by
  subst hi
  refine j_aload_n C dL_law_338 rfl rfl ?_
  obtain ⟨v1, o1, e1, o2, b2, h2, e2, e4, hI2⟩ := hs h hI
  refine j_callV (ci := 9) (RC := RX9) (T := TX9) (N := 14) (As := []) (b := a) (na := 0) (st := []) (k1 := k) (n1 := n) C hr (sX9_errorCode e1) rfl o1 kL_128 kim_X9_errorCode ksel_X9_errorCode kini_X9 kc_X9_errorCode (by decide) rfl ⟨Nat.le_of_ble_eq_true rfl, Nat.le_of_ble_eq_true rfl⟩ (Nat.le_of_ble_eq_true rfl) ⟨rfl, rfl, by show _ ≤ 601024; omega, by show _ ≤ 7293034; omega⟩ dL_law_339 ?_
  rintro _ _ ⟨rfl, rfl⟩
  show jx_J X k n 342 [(0, .ref b), (1, .ref a), (2, .ref m), (3, .ref o), (4, .int (Int32.ofNat (4 * j)))] [.int v1] h
  refine j_aload_n C dL_law_342 rfl rfl ?_
  refine j_callV (ci := 10) (RC := RX10) (T := TX10) (N := 38) (As := []) (b := m) (na := 0) (st := [.int v1]) (k1 := k) (n1 := n) C hr (sX10_errorCode e2) rfl o2 kL_131 kim_X10_errorCode ksel_X10_errorCode kini_X10 kc_X10_errorCode (by decide) rfl ⟨Nat.le_of_ble_eq_true rfl, Nat.le_of_ble_eq_true rfl⟩ (Nat.le_of_ble_eq_true rfl) ⟨rfl, rfl, by show _ ≤ 601024; omega, by show _ ≤ 7293034; omega⟩ dL_law_343 ?_
  rintro _ _ ⟨rfl, rfl⟩
  show jx_J X k n 346 [(0, .ref b), (1, .ref a), (2, .ref m), (3, .ref o), (4, .int (Int32.ofNat (4 * j)))] [.int b2, .int v1] h2
  refine j_icmp_eq (tgt := 2125) C dL_law_346 (by decide) (fun _ => ?_) (fun c => absurd e4 c)
  refine jx_sub (lv' := [(0, .ref b), (1, .ref a), (2, .ref m), (3, .ref o), (4, .int (Int32.ofNat (4 * j)))]) [0, 1, 2, 3, 4] rfl ?_
  exact jx_widen (by omega) (by omega) (kk h2 hI2)
set_option maxRecDepth 20000 in
set_option maxHeartbeats 4000000 in
theorem lc_errorPosition {X : jx_X} {b a m o L j : Nat} {xs : Nat → Int32} {Inv : jx_H → Prop} {h : jx_H} {k n : Nat} {i : Int32} (C : jx_ok X cL_law RL) (hr : jx_r X room_1) (hL : jx_nl X 9) (hX : jx_S X b L xs) (hi : i = Int32.ofNat (4 * j)) (hj : 4 * j + 4 ≤ L) (hLL : L ≤ 2048) (hk : k + 40 ≤ 601024) (hn : n + 2000 ≤ 7293034) (hs : St_errorPosition Inv a m) (hI : Inv h)
    (kk : ∀ h2, Inv h2 → jx_J X (k + 40) (n + 2000) 2125 [(0, .ref b), (1, .ref a), (2, .ref m), (3, .ref o), (4, .int i)] [] h2) : jx_J X k n 351 [(0, .ref b), (1, .ref a), (2, .ref m), (3, .ref o), (4, .int i)] [] h := by
  subst hi
  refine j_aload_n C dL_law_351 rfl rfl ?_
  obtain ⟨v1, o1, e1, o2, b2, h2, e2, e4, hI2⟩ := hs h hI
  refine j_callV (ci := 9) (RC := RX9) (T := TX9) (N := 14) (As := []) (b := a) (na := 0) (st := []) (k1 := k) (n1 := n) C hr (sX9_errorPosition e1) rfl o1 kL_132 kim_X9_errorPosition ksel_X9_errorPosition kini_X9 kc_X9_errorPosition (by decide) rfl ⟨Nat.le_of_ble_eq_true rfl, Nat.le_of_ble_eq_true rfl⟩ (Nat.le_of_ble_eq_true rfl) ⟨rfl, rfl, by show _ ≤ 601024; omega, by show _ ≤ 7293034; omega⟩ dL_law_352 ?_
  rintro _ _ ⟨rfl, rfl⟩
  show jx_J X k n 355 [(0, .ref b), (1, .ref a), (2, .ref m), (3, .ref o), (4, .int (Int32.ofNat (4 * j)))] [.int v1] h
  refine j_aload_n C dL_law_355 rfl rfl ?_
  refine j_callV (ci := 10) (RC := RX10) (T := TX10) (N := 38) (As := []) (b := m) (na := 0) (st := [.int v1]) (k1 := k) (n1 := n) C hr (sX10_errorPosition e2) rfl o2 kL_135 kim_X10_errorPosition ksel_X10_errorPosition kini_X10 kc_X10_errorPosition (by decide) rfl ⟨Nat.le_of_ble_eq_true rfl, Nat.le_of_ble_eq_true rfl⟩ (Nat.le_of_ble_eq_true rfl) ⟨rfl, rfl, by show _ ≤ 601024; omega, by show _ ≤ 7293034; omega⟩ dL_law_356 ?_
  rintro _ _ ⟨rfl, rfl⟩
  show jx_J X k n 359 [(0, .ref b), (1, .ref a), (2, .ref m), (3, .ref o), (4, .int (Int32.ofNat (4 * j)))] [.int b2, .int v1] h2
  refine j_icmp_eq (tgt := 2125) C dL_law_359 (by decide) (fun _ => ?_) (fun c => absurd e4 c)
  refine jx_sub (lv' := [(0, .ref b), (1, .ref a), (2, .ref m), (3, .ref o), (4, .int (Int32.ofNat (4 * j)))]) [0, 1, 2, 3, 4] rfl ?_
  exact jx_widen (by omega) (by omega) (kk h2 hI2)
set_option maxRecDepth 20000 in
set_option maxHeartbeats 4000000 in
theorem lc_result {X : jx_X} {b a m o L j : Nat} {xs : Nat → Int32} {Inv : jx_H → Prop} {h : jx_H} {k n : Nat} {i : Int32} (C : jx_ok X cL_law RL) (hr : jx_r X room_1) (hL : jx_nl X 9) (hX : jx_S X b L xs) (hi : i = Int32.ofNat (4 * j)) (hj : 4 * j + 4 ≤ L) (hLL : L ≤ 2048) (hk : k + 40 ≤ 601024) (hn : n + 2000 ≤ 7293034) (hs : St_result Inv a m o) (hI : Inv h)
    (kk : ∀ h2, Inv h2 → jx_J X (k + 40) (n + 2000) 2125 [(0, .ref b), (1, .ref a), (2, .ref m), (3, .ref o), (4, .int i)] [] h2) : jx_J X k n 364 [(0, .ref b), (1, .ref a), (2, .ref m), (3, .ref o), (4, .int i)] [] h := by
  subst hi
  refine j_aload_n C dL_law_364 rfl rfl ?_
  refine j_aload_n C dL_law_365 rfl rfl ?_
  refine j_iload C dL_law_366 rfl ?_
  refine j_iconst (v := (1 : Int32)) C dL_law_368 (by decide) ?_
  refine j_iadd C dL_law_369 ?_
  refine j_sld C hX (lw_in1 hj hLL) dL_law_370 ?_
  refine j_aload_n C dL_law_371 rfl rfl ?_
  obtain ⟨r, e1, ho, hO, hE, hs2⟩ := hs h _ hI
  refine j_callSW (As := [.ref a, .int (xs (Int32.ofNat (4 * j) + (1 : Int32)).toNatClampNeg), .ref o]) (na := 3) (st := []) (k1 := k + 1) (n1 := n + 6) C hr (sL_result e1 ho hO hE) kL_136 kst_L_result kini_L kcw_L_result (by decide) rfl ⟨Nat.le_of_ble_eq_true rfl, Nat.le_of_ble_eq_true rfl⟩ (Nat.le_of_ble_eq_true rfl) ⟨rfl, rfl, by show _ + 1 ≤ 601024; omega, by show _ + 6 ≤ 7293034; omega⟩ dL_law_372 (fun r1 h1 hp => ?_)
  obtain ⟨r', rfl, b2, h2, t, o1, e2, o2, e3, e4, e5, hI2⟩ := hs2 r1 h1 hp
  show jx_J X (k + 1) (n + 6) 375 [(0, .ref b), (1, .ref a), (2, .ref m), (3, .ref o), (4, .int (Int32.ofNat (4 * j)))] [.int (r')] h1
  refine j_istore (lv1 := [(5, .int (r')), (0, .ref b), (1, .ref a), (2, .ref m), (3, .ref o), (4, .int (Int32.ofNat (4 * j)))]) C hL dL_law_375 (Nat.le_of_ble_eq_true rfl) rfl ?_
  refine j_aload_n C dL_law_377 rfl rfl ?_
  refine j_aload_n C dL_law_378 rfl rfl ?_
  refine j_iload C dL_law_379 rfl ?_
  refine j_iconst (v := (1 : Int32)) C dL_law_381 (by decide) ?_
  refine j_iadd C dL_law_382 ?_
  refine j_sld C hX (lw_in1 hj hLL) dL_law_383 ?_
  refine j_callV (ci := 10) (RC := RX10) (T := TX10) (N := 38) (As := [.int (xs (Int32.ofNat (4 * j) + (1 : Int32)).toNatClampNeg)]) (b := m) (na := 1) (st := []) (k1 := k + 1) (n1 := n + 6) C hr (sX10_result e2) rfl o1 kL_138 kim_X10_result ksel_X10_result kini_X10 kc_X10_result (by decide) rfl ⟨Nat.le_of_ble_eq_true rfl, Nat.le_of_ble_eq_true rfl⟩ (Nat.le_of_ble_eq_true rfl) ⟨rfl, rfl, by show _ ≤ 601024; omega, by show _ ≤ 7293034; omega⟩ dL_law_384 ?_
  rintro _ _ ⟨rfl, rfl⟩
  show jx_J X (k + 1) (n + 6) 387 [(5, .int (r')), (0, .ref b), (1, .ref a), (2, .ref m), (3, .ref o), (4, .int (Int32.ofNat (4 * j)))] [.int b2] h2
  refine j_istore (lv1 := [(6, .int b2), (5, .int (r')), (0, .ref b), (1, .ref a), (2, .ref m), (3, .ref o), (4, .int (Int32.ofNat (4 * j)))]) C hL dL_law_387 (Nat.le_of_ble_eq_true rfl) rfl ?_
  refine j_aload_n C dL_law_389 rfl rfl ?_
  refine j_callV (ci := 10) (RC := RX10) (T := TX10) (N := 38) (As := []) (b := m) (na := 0) (st := []) (k1 := k + 1) (n1 := n + 6) C hr (sX10_thrown e3) rfl o2 kL_114 kim_X10_thrown ksel_X10_thrown kini_X10 kc_X10_thrown (by decide) rfl ⟨Nat.le_of_ble_eq_true rfl, Nat.le_of_ble_eq_true rfl⟩ (Nat.le_of_ble_eq_true rfl) ⟨rfl, rfl, by show _ ≤ 601024; omega, by show _ ≤ 7293034; omega⟩ dL_law_390 ?_
  rintro _ _ ⟨rfl, rfl⟩
  show jx_J X (k + 1) (n + 6) 393 [(6, .int b2), (5, .int (r')), (0, .ref b), (1, .ref a), (2, .ref m), (3, .ref o), (4, .int (Int32.ofNat (4 * j)))] [.int t] h2
  refine j_iload C dL_law_393 rfl ?_
  refine j_icmp_eq (tgt := 400) C dL_law_395 (by decide) (fun _ => ?_) (fun c => absurd e4 c)
  refine j_iload C dL_law_400 rfl ?_
  refine j_if_ne (tgt := 417) C dL_law_402 (by decide) (fun _ => ?_) (fun hr0 => ?_)
  · refine j_goto (tgt := 2125) C dL_law_417 (by decide) ?_
    refine jx_sub (lv' := [(0, .ref b), (1, .ref a), (2, .ref m), (3, .ref o), (4, .int (Int32.ofNat (4 * j)))]) [2, 3, 4, 5, 6] rfl ?_
    exact jx_widen (by omega) (by omega) (kk h2 hI2)
  · obtain ⟨z, ez, rfl⟩ := e5 hr0
    refine j_aload_n C dL_law_405 rfl rfl ?_
    refine j_iconst (v := (0 : Int32)) C dL_law_406 (by decide) ?_
    refine j_lald C dL_law_407 ez ?_
    refine j_iload C dL_law_408 rfl ?_
    refine j_i2l C dL_law_410 ?_
    refine j_lcmp C dL_law_411 ?_
    refine j_if_eq (tgt := 417) C dL_law_412 (by decide) (fun _ => ?_) (fun c => absurd (lw_cmp _) c)
    refine j_goto (tgt := 2125) C dL_law_417 (by decide) ?_
    refine jx_sub (lv' := [(0, .ref b), (1, .ref a), (2, .ref m), (3, .ref o), (4, .int (Int32.ofNat (4 * j)))]) [2, 3, 4, 5, 6] rfl ?_
    exact jx_widen (by omega) (by omega) (kk h2 hI2)
set_option maxRecDepth 20000 in
set_option maxHeartbeats 4000000 in
theorem lc_count {X : jx_X} {b a m o L j : Nat} {xs : Nat → Int32} {Inv : jx_H → Prop} {h : jx_H} {k n : Nat} {i : Int32} (C : jx_ok X cL_law RL) (hr : jx_r X room_1) (hL : jx_nl X 9) (hX : jx_S X b L xs) (hi : i = Int32.ofNat (4 * j)) (hj : 4 * j + 4 ≤ L) (hLL : L ≤ 2048) (hk : k + 40 ≤ 601024) (hn : n + 2000 ≤ 7293034) (hs : St_count Inv a m o) (hI : Inv h)
    (kk : ∀ h2, Inv h2 → jx_J X (k + 40) (n + 2000) 2125 [(0, .ref b), (1, .ref a), (2, .ref m), (3, .ref o), (4, .int i)] [] h2) : jx_J X k n 420 [(0, .ref b), (1, .ref a), (2, .ref m), (3, .ref o), (4, .int i)] [] h := by
  subst hi
  refine j_aload_n C dL_law_420 rfl rfl ?_
  refine j_aload_n C dL_law_421 rfl rfl ?_
  refine j_iload C dL_law_422 rfl ?_
  refine j_iconst (v := (1 : Int32)) C dL_law_424 (by decide) ?_
  refine j_iadd C dL_law_425 ?_
  refine j_sld C hX (lw_in1 hj hLL) dL_law_426 ?_
  refine j_aload_n C dL_law_427 rfl rfl ?_
  obtain ⟨r, e1, ho, hO, hE, hs2⟩ := hs h _ hI
  refine j_callSW (As := [.ref a, .int (xs (Int32.ofNat (4 * j) + (1 : Int32)).toNatClampNeg), .ref o]) (na := 3) (st := []) (k1 := k + 1) (n1 := n + 6) C hr (sL_count e1 ho hO hE) kL_139 kst_L_count kini_L kcw_L_count (by decide) rfl ⟨Nat.le_of_ble_eq_true rfl, Nat.le_of_ble_eq_true rfl⟩ (Nat.le_of_ble_eq_true rfl) ⟨rfl, rfl, by show _ + 1 ≤ 601024; omega, by show _ + 6 ≤ 7293034; omega⟩ dL_law_428 (fun r1 h1 hp => ?_)
  obtain ⟨r', rfl, b2, h2, t, o1, e2, o2, e3, e4, e5, hI2⟩ := hs2 r1 h1 hp
  show jx_J X (k + 1) (n + 6) 431 [(0, .ref b), (1, .ref a), (2, .ref m), (3, .ref o), (4, .int (Int32.ofNat (4 * j)))] [.int (r')] h1
  refine j_istore (lv1 := [(5, .int (r')), (0, .ref b), (1, .ref a), (2, .ref m), (3, .ref o), (4, .int (Int32.ofNat (4 * j)))]) C hL dL_law_431 (Nat.le_of_ble_eq_true rfl) rfl ?_
  refine j_aload_n C dL_law_433 rfl rfl ?_
  refine j_aload_n C dL_law_434 rfl rfl ?_
  refine j_iload C dL_law_435 rfl ?_
  refine j_iconst (v := (1 : Int32)) C dL_law_437 (by decide) ?_
  refine j_iadd C dL_law_438 ?_
  refine j_sld C hX (lw_in1 hj hLL) dL_law_439 ?_
  refine j_callV (ci := 10) (RC := RX10) (T := TX10) (N := 38) (As := [.int (xs (Int32.ofNat (4 * j) + (1 : Int32)).toNatClampNeg)]) (b := m) (na := 1) (st := []) (k1 := k + 1) (n1 := n + 6) C hr (sX10_count e2) rfl o1 kL_141 kim_X10_count ksel_X10_count kini_X10 kc_X10_count (by decide) rfl ⟨Nat.le_of_ble_eq_true rfl, Nat.le_of_ble_eq_true rfl⟩ (Nat.le_of_ble_eq_true rfl) ⟨rfl, rfl, by show _ ≤ 601024; omega, by show _ ≤ 7293034; omega⟩ dL_law_440 ?_
  rintro _ _ ⟨rfl, rfl⟩
  show jx_J X (k + 1) (n + 6) 443 [(5, .int (r')), (0, .ref b), (1, .ref a), (2, .ref m), (3, .ref o), (4, .int (Int32.ofNat (4 * j)))] [.int b2] h2
  refine j_istore (lv1 := [(6, .int b2), (5, .int (r')), (0, .ref b), (1, .ref a), (2, .ref m), (3, .ref o), (4, .int (Int32.ofNat (4 * j)))]) C hL dL_law_443 (Nat.le_of_ble_eq_true rfl) rfl ?_
  refine j_aload_n C dL_law_445 rfl rfl ?_
  refine j_callV (ci := 10) (RC := RX10) (T := TX10) (N := 38) (As := []) (b := m) (na := 0) (st := []) (k1 := k + 1) (n1 := n + 6) C hr (sX10_thrown e3) rfl o2 kL_114 kim_X10_thrown ksel_X10_thrown kini_X10 kc_X10_thrown (by decide) rfl ⟨Nat.le_of_ble_eq_true rfl, Nat.le_of_ble_eq_true rfl⟩ (Nat.le_of_ble_eq_true rfl) ⟨rfl, rfl, by show _ ≤ 601024; omega, by show _ ≤ 7293034; omega⟩ dL_law_446 ?_
  rintro _ _ ⟨rfl, rfl⟩
  show jx_J X (k + 1) (n + 6) 449 [(6, .int b2), (5, .int (r')), (0, .ref b), (1, .ref a), (2, .ref m), (3, .ref o), (4, .int (Int32.ofNat (4 * j)))] [.int t] h2
  refine j_iload C dL_law_449 rfl ?_
  refine j_icmp_eq (tgt := 456) C dL_law_451 (by decide) (fun _ => ?_) (fun c => absurd e4 c)
  refine j_iload C dL_law_456 rfl ?_
  refine j_if_ne (tgt := 473) C dL_law_458 (by decide) (fun _ => ?_) (fun hr0 => ?_)
  · refine j_goto (tgt := 2125) C dL_law_473 (by decide) ?_
    refine jx_sub (lv' := [(0, .ref b), (1, .ref a), (2, .ref m), (3, .ref o), (4, .int (Int32.ofNat (4 * j)))]) [2, 3, 4, 5, 6] rfl ?_
    exact jx_widen (by omega) (by omega) (kk h2 hI2)
  · obtain ⟨z, ez, rfl⟩ := e5 hr0
    refine j_aload_n C dL_law_461 rfl rfl ?_
    refine j_iconst (v := (0 : Int32)) C dL_law_462 (by decide) ?_
    refine j_lald C dL_law_463 ez ?_
    refine j_iload C dL_law_464 rfl ?_
    refine j_i2l C dL_law_466 ?_
    refine j_lcmp C dL_law_467 ?_
    refine j_if_eq (tgt := 473) C dL_law_468 (by decide) (fun _ => ?_) (fun c => absurd (lw_cmp _) c)
    refine j_goto (tgt := 2125) C dL_law_473 (by decide) ?_
    refine jx_sub (lv' := [(0, .ref b), (1, .ref a), (2, .ref m), (3, .ref o), (4, .int (Int32.ofNat (4 * j)))]) [2, 3, 4, 5, 6] rfl ?_
    exact jx_widen (by omega) (by omega) (kk h2 hI2)
set_option maxRecDepth 20000 in
set_option maxHeartbeats 4000000 in
theorem lc_changes {X : jx_X} {b a m o L j : Nat} {xs : Nat → Int32} {Inv : jx_H → Prop} {h : jx_H} {k n : Nat} {i : Int32} (C : jx_ok X cL_law RL) (hr : jx_r X room_1) (hL : jx_nl X 9) (hX : jx_S X b L xs) (hi : i = Int32.ofNat (4 * j)) (hj : 4 * j + 4 ≤ L) (hLL : L ≤ 2048) (hk : k + 40 ≤ 601024) (hn : n + 2000 ≤ 7293034) (hs : St_changes Inv a m o) (hI : Inv h)
    (kk : ∀ h2, Inv h2 → jx_J X (k + 40) (n + 2000) 2125 [(0, .ref b), (1, .ref a), (2, .ref m), (3, .ref o), (4, .int i)] [] h2) : jx_J X k n 476 [(0, .ref b), (1, .ref a), (2, .ref m), (3, .ref o), (4, .int i)] [] h := by
  subst hi
  refine j_aload_n C dL_law_476 rfl rfl ?_
  refine j_aload_n C dL_law_477 rfl rfl ?_
  refine j_iload C dL_law_478 rfl ?_
  refine j_iconst (v := (1 : Int32)) C dL_law_480 (by decide) ?_
  refine j_iadd C dL_law_481 ?_
  refine j_sld C hX (lw_in1 hj hLL) dL_law_482 ?_
  refine j_aload_n C dL_law_483 rfl rfl ?_
  obtain ⟨r, e1, ho, hO, hE, hs2⟩ := hs h _ hI
  refine j_callSW (As := [.ref a, .int (xs (Int32.ofNat (4 * j) + (1 : Int32)).toNatClampNeg), .ref o]) (na := 3) (st := []) (k1 := k + 1) (n1 := n + 6) C hr (sL_changes e1 ho hO hE) kL_142 kst_L_changes kini_L kcw_L_changes (by decide) rfl ⟨Nat.le_of_ble_eq_true rfl, Nat.le_of_ble_eq_true rfl⟩ (Nat.le_of_ble_eq_true rfl) ⟨rfl, rfl, by show _ + 1 ≤ 601024; omega, by show _ + 6 ≤ 7293034; omega⟩ dL_law_484 (fun r1 h1 hp => ?_)
  obtain ⟨r', rfl, b2, h2, t, o1, e2, o2, e3, e4, e5, hI2⟩ := hs2 r1 h1 hp
  show jx_J X (k + 1) (n + 6) 487 [(0, .ref b), (1, .ref a), (2, .ref m), (3, .ref o), (4, .int (Int32.ofNat (4 * j)))] [.int (r')] h1
  refine j_istore (lv1 := [(5, .int (r')), (0, .ref b), (1, .ref a), (2, .ref m), (3, .ref o), (4, .int (Int32.ofNat (4 * j)))]) C hL dL_law_487 (Nat.le_of_ble_eq_true rfl) rfl ?_
  refine j_aload_n C dL_law_489 rfl rfl ?_
  refine j_aload_n C dL_law_490 rfl rfl ?_
  refine j_iload C dL_law_491 rfl ?_
  refine j_iconst (v := (1 : Int32)) C dL_law_493 (by decide) ?_
  refine j_iadd C dL_law_494 ?_
  refine j_sld C hX (lw_in1 hj hLL) dL_law_495 ?_
  refine j_callV (ci := 10) (RC := RX10) (T := TX10) (N := 38) (As := [.int (xs (Int32.ofNat (4 * j) + (1 : Int32)).toNatClampNeg)]) (b := m) (na := 1) (st := []) (k1 := k + 1) (n1 := n + 6) C hr (sX10_changes e2) rfl o1 kL_144 kim_X10_changes ksel_X10_changes kini_X10 kc_X10_changes (by decide) rfl ⟨Nat.le_of_ble_eq_true rfl, Nat.le_of_ble_eq_true rfl⟩ (Nat.le_of_ble_eq_true rfl) ⟨rfl, rfl, by show _ ≤ 601024; omega, by show _ ≤ 7293034; omega⟩ dL_law_496 ?_
  rintro _ _ ⟨rfl, rfl⟩
  show jx_J X (k + 1) (n + 6) 499 [(5, .int (r')), (0, .ref b), (1, .ref a), (2, .ref m), (3, .ref o), (4, .int (Int32.ofNat (4 * j)))] [.int b2] h2
  refine j_istore (lv1 := [(6, .int b2), (5, .int (r')), (0, .ref b), (1, .ref a), (2, .ref m), (3, .ref o), (4, .int (Int32.ofNat (4 * j)))]) C hL dL_law_499 (Nat.le_of_ble_eq_true rfl) rfl ?_
  refine j_aload_n C dL_law_501 rfl rfl ?_
  refine j_callV (ci := 10) (RC := RX10) (T := TX10) (N := 38) (As := []) (b := m) (na := 0) (st := []) (k1 := k + 1) (n1 := n + 6) C hr (sX10_thrown e3) rfl o2 kL_114 kim_X10_thrown ksel_X10_thrown kini_X10 kc_X10_thrown (by decide) rfl ⟨Nat.le_of_ble_eq_true rfl, Nat.le_of_ble_eq_true rfl⟩ (Nat.le_of_ble_eq_true rfl) ⟨rfl, rfl, by show _ ≤ 601024; omega, by show _ ≤ 7293034; omega⟩ dL_law_502 ?_
  rintro _ _ ⟨rfl, rfl⟩
  show jx_J X (k + 1) (n + 6) 505 [(6, .int b2), (5, .int (r')), (0, .ref b), (1, .ref a), (2, .ref m), (3, .ref o), (4, .int (Int32.ofNat (4 * j)))] [.int t] h2
  refine j_iload C dL_law_505 rfl ?_
  refine j_icmp_eq (tgt := 512) C dL_law_507 (by decide) (fun _ => ?_) (fun c => absurd e4 c)
  refine j_iload C dL_law_512 rfl ?_
  refine j_if_ne (tgt := 529) C dL_law_514 (by decide) (fun _ => ?_) (fun hr0 => ?_)
  · refine j_goto (tgt := 2125) C dL_law_529 (by decide) ?_
    refine jx_sub (lv' := [(0, .ref b), (1, .ref a), (2, .ref m), (3, .ref o), (4, .int (Int32.ofNat (4 * j)))]) [2, 3, 4, 5, 6] rfl ?_
    exact jx_widen (by omega) (by omega) (kk h2 hI2)
  · obtain ⟨z, ez, rfl⟩ := e5 hr0
    refine j_aload_n C dL_law_517 rfl rfl ?_
    refine j_iconst (v := (0 : Int32)) C dL_law_518 (by decide) ?_
    refine j_lald C dL_law_519 ez ?_
    refine j_iload C dL_law_520 rfl ?_
    refine j_i2l C dL_law_522 ?_
    refine j_lcmp C dL_law_523 ?_
    refine j_if_eq (tgt := 529) C dL_law_524 (by decide) (fun _ => ?_) (fun c => absurd (lw_cmp _) c)
    refine j_goto (tgt := 2125) C dL_law_529 (by decide) ?_
    refine jx_sub (lv' := [(0, .ref b), (1, .ref a), (2, .ref m), (3, .ref o), (4, .int (Int32.ofNat (4 * j)))]) [2, 3, 4, 5, 6] rfl ?_
    exact jx_widen (by omega) (by omega) (kk h2 hI2)
set_option maxRecDepth 20000 in
set_option maxHeartbeats 4000000 in
theorem lc_refusal {X : jx_X} {b a m o L j : Nat} {xs : Nat → Int32} {Inv : jx_H → Prop} {h : jx_H} {k n : Nat} {i : Int32} (C : jx_ok X cL_law RL) (hr : jx_r X room_1) (hL : jx_nl X 9) (hX : jx_S X b L xs) (hi : i = Int32.ofNat (4 * j)) (hj : 4 * j + 4 ≤ L) (hLL : L ≤ 2048) (hk : k + 40 ≤ 601024) (hn : n + 2000 ≤ 7293034) (hs : St_refusal Inv a m o) (hI : Inv h)
    (kk : ∀ h2, Inv h2 → jx_J X (k + 40) (n + 2000) 2125 [(0, .ref b), (1, .ref a), (2, .ref m), (3, .ref o), (4, .int i)] [] h2) : jx_J X k n 532 [(0, .ref b), (1, .ref a), (2, .ref m), (3, .ref o), (4, .int i)] [] h := by
  subst hi
  refine j_aload_n C dL_law_532 rfl rfl ?_
  refine j_aload_n C dL_law_533 rfl rfl ?_
  refine j_iload C dL_law_534 rfl ?_
  refine j_iconst (v := (1 : Int32)) C dL_law_536 (by decide) ?_
  refine j_iadd C dL_law_537 ?_
  refine j_sld C hX (lw_in1 hj hLL) dL_law_538 ?_
  refine j_aload_n C dL_law_539 rfl rfl ?_
  refine j_iload C dL_law_540 rfl ?_
  refine j_iconst (v := (2 : Int32)) C dL_law_542 (by decide) ?_
  refine j_iadd C dL_law_543 ?_
  refine j_sld C hX (lw_in2 hj hLL) dL_law_544 ?_
  refine j_aload_n C dL_law_545 rfl rfl ?_
  obtain ⟨r, e1, ho, hO, hE, hs2⟩ := hs h _ _ hI
  refine j_callSW (As := [.ref a, .int (xs (Int32.ofNat (4 * j) + (1 : Int32)).toNatClampNeg), .int (xs (Int32.ofNat (4 * j) + (2 : Int32)).toNatClampNeg), .ref o]) (na := 4) (st := []) (k1 := k + 1) (n1 := n + 6) C hr (sL_refusal e1 ho hO hE) kL_145 kst_L_refusal kini_L kcw_L_refusal (by decide) rfl ⟨Nat.le_of_ble_eq_true rfl, Nat.le_of_ble_eq_true rfl⟩ (Nat.le_of_ble_eq_true rfl) ⟨rfl, rfl, by show _ + 1 ≤ 601024; omega, by show _ + 6 ≤ 7293034; omega⟩ dL_law_546 (fun r1 h1 hp => ?_)
  obtain ⟨r', rfl, b2, h2, t, o1, e2, o2, e3, e4, e5, hI2⟩ := hs2 r1 h1 hp
  show jx_J X (k + 1) (n + 6) 549 [(0, .ref b), (1, .ref a), (2, .ref m), (3, .ref o), (4, .int (Int32.ofNat (4 * j)))] [.int (r')] h1
  refine j_istore (lv1 := [(5, .int (r')), (0, .ref b), (1, .ref a), (2, .ref m), (3, .ref o), (4, .int (Int32.ofNat (4 * j)))]) C hL dL_law_549 (Nat.le_of_ble_eq_true rfl) rfl ?_
  refine j_aload_n C dL_law_551 rfl rfl ?_
  refine j_aload_n C dL_law_552 rfl rfl ?_
  refine j_iload C dL_law_553 rfl ?_
  refine j_iconst (v := (1 : Int32)) C dL_law_555 (by decide) ?_
  refine j_iadd C dL_law_556 ?_
  refine j_sld C hX (lw_in1 hj hLL) dL_law_557 ?_
  refine j_aload_n C dL_law_558 rfl rfl ?_
  refine j_iload C dL_law_559 rfl ?_
  refine j_iconst (v := (2 : Int32)) C dL_law_561 (by decide) ?_
  refine j_iadd C dL_law_562 ?_
  refine j_sld C hX (lw_in2 hj hLL) dL_law_563 ?_
  refine j_callV (ci := 10) (RC := RX10) (T := TX10) (N := 38) (As := [.int (xs (Int32.ofNat (4 * j) + (1 : Int32)).toNatClampNeg), .int (xs (Int32.ofNat (4 * j) + (2 : Int32)).toNatClampNeg)]) (b := m) (na := 2) (st := []) (k1 := k + 1) (n1 := n + 6) C hr (sX10_refusal e2) rfl o1 kL_148 kim_X10_refusal ksel_X10_refusal kini_X10 kc_X10_refusal (by decide) rfl ⟨Nat.le_of_ble_eq_true rfl, Nat.le_of_ble_eq_true rfl⟩ (Nat.le_of_ble_eq_true rfl) ⟨rfl, rfl, by show _ ≤ 601024; omega, by show _ ≤ 7293034; omega⟩ dL_law_564 ?_
  rintro _ _ ⟨rfl, rfl⟩
  show jx_J X (k + 1) (n + 6) 567 [(5, .int (r')), (0, .ref b), (1, .ref a), (2, .ref m), (3, .ref o), (4, .int (Int32.ofNat (4 * j)))] [.int b2] h2
  refine j_istore (lv1 := [(6, .int b2), (5, .int (r')), (0, .ref b), (1, .ref a), (2, .ref m), (3, .ref o), (4, .int (Int32.ofNat (4 * j)))]) C hL dL_law_567 (Nat.le_of_ble_eq_true rfl) rfl ?_
  refine j_aload_n C dL_law_569 rfl rfl ?_
  refine j_callV (ci := 10) (RC := RX10) (T := TX10) (N := 38) (As := []) (b := m) (na := 0) (st := []) (k1 := k + 1) (n1 := n + 6) C hr (sX10_thrown e3) rfl o2 kL_114 kim_X10_thrown ksel_X10_thrown kini_X10 kc_X10_thrown (by decide) rfl ⟨Nat.le_of_ble_eq_true rfl, Nat.le_of_ble_eq_true rfl⟩ (Nat.le_of_ble_eq_true rfl) ⟨rfl, rfl, by show _ ≤ 601024; omega, by show _ ≤ 7293034; omega⟩ dL_law_570 ?_
  rintro _ _ ⟨rfl, rfl⟩
  show jx_J X (k + 1) (n + 6) 573 [(6, .int b2), (5, .int (r')), (0, .ref b), (1, .ref a), (2, .ref m), (3, .ref o), (4, .int (Int32.ofNat (4 * j)))] [.int t] h2
  refine j_iload C dL_law_573 rfl ?_
  refine j_icmp_eq (tgt := 580) C dL_law_575 (by decide) (fun _ => ?_) (fun c => absurd e4 c)
  refine j_iload C dL_law_580 rfl ?_
  refine j_if_ne (tgt := 597) C dL_law_582 (by decide) (fun _ => ?_) (fun hr0 => ?_)
  · refine j_goto (tgt := 2125) C dL_law_597 (by decide) ?_
    refine jx_sub (lv' := [(0, .ref b), (1, .ref a), (2, .ref m), (3, .ref o), (4, .int (Int32.ofNat (4 * j)))]) [2, 3, 4, 5, 6] rfl ?_
    exact jx_widen (by omega) (by omega) (kk h2 hI2)
  · obtain ⟨z, ez, rfl⟩ := e5 hr0
    refine j_aload_n C dL_law_585 rfl rfl ?_
    refine j_iconst (v := (0 : Int32)) C dL_law_586 (by decide) ?_
    refine j_lald C dL_law_587 ez ?_
    refine j_iload C dL_law_588 rfl ?_
    refine j_i2l C dL_law_590 ?_
    refine j_lcmp C dL_law_591 ?_
    refine j_if_eq (tgt := 597) C dL_law_592 (by decide) (fun _ => ?_) (fun c => absurd (lw_cmp _) c)
    refine j_goto (tgt := 2125) C dL_law_597 (by decide) ?_
    refine jx_sub (lv' := [(0, .ref b), (1, .ref a), (2, .ref m), (3, .ref o), (4, .int (Int32.ofNat (4 * j)))]) [2, 3, 4, 5, 6] rfl ?_
    exact jx_widen (by omega) (by omega) (kk h2 hI2)
set_option maxRecDepth 20000 in
set_option maxHeartbeats 4000000 in
theorem lc_join {X : jx_X} {b a m o L j : Nat} {xs : Nat → Int32} {Inv : jx_H → Prop} {h : jx_H} {k n : Nat} {i : Int32} (C : jx_ok X cL_law RL) (hr : jx_r X room_1) (hL : jx_nl X 9) (hX : jx_S X b L xs) (hi : i = Int32.ofNat (4 * j)) (hj : 4 * j + 4 ≤ L) (hLL : L ≤ 2048) (hk : k + 40 ≤ 601024) (hn : n + 2000 ≤ 7293034) (hs : St_join Inv a m o) (hI : Inv h)
    (kk : ∀ h2, Inv h2 → jx_J X (k + 40) (n + 2000) 2125 [(0, .ref b), (1, .ref a), (2, .ref m), (3, .ref o), (4, .int i)] [] h2) : jx_J X k n 600 [(0, .ref b), (1, .ref a), (2, .ref m), (3, .ref o), (4, .int i)] [] h := by
  subst hi
  refine j_aload_n C dL_law_600 rfl rfl ?_
  refine j_aload_n C dL_law_601 rfl rfl ?_
  refine j_iload C dL_law_602 rfl ?_
  refine j_iconst (v := (1 : Int32)) C dL_law_604 (by decide) ?_
  refine j_iadd C dL_law_605 ?_
  refine j_sld C hX (lw_in1 hj hLL) dL_law_606 ?_
  refine j_aload_n C dL_law_607 rfl rfl ?_
  refine j_iload C dL_law_608 rfl ?_
  refine j_iconst (v := (2 : Int32)) C dL_law_610 (by decide) ?_
  refine j_iadd C dL_law_611 ?_
  refine j_sld C hX (lw_in2 hj hLL) dL_law_612 ?_
  refine j_aload_n C dL_law_613 rfl rfl ?_
  obtain ⟨r, e1, ho, hO, hE, hs2⟩ := hs h _ _ hI
  refine j_callSW (As := [.ref a, .int (xs (Int32.ofNat (4 * j) + (1 : Int32)).toNatClampNeg), .int (xs (Int32.ofNat (4 * j) + (2 : Int32)).toNatClampNeg), .ref o]) (na := 4) (st := []) (k1 := k + 9) (n1 := n + 255) C hr (sL_join e1 ho hO hE) kL_149 kst_L_join kini_L kcw_L_join (by decide) rfl ⟨Nat.le_of_ble_eq_true rfl, Nat.le_of_ble_eq_true rfl⟩ (Nat.le_of_ble_eq_true rfl) ⟨rfl, rfl, by show _ + 9 ≤ 601024; omega, by show _ + 255 ≤ 7293034; omega⟩ dL_law_614 (fun r1 h1 hp => ?_)
  obtain ⟨r', rfl, b2, h2, t, o1, e2, o2, e3, e4, e5, hI2⟩ := hs2 r1 h1 hp
  show jx_J X (k + 9) (n + 255) 617 [(0, .ref b), (1, .ref a), (2, .ref m), (3, .ref o), (4, .int (Int32.ofNat (4 * j)))] [.int (r')] h1
  refine j_istore (lv1 := [(5, .int (r')), (0, .ref b), (1, .ref a), (2, .ref m), (3, .ref o), (4, .int (Int32.ofNat (4 * j)))]) C hL dL_law_617 (Nat.le_of_ble_eq_true rfl) rfl ?_
  refine j_aload_n C dL_law_619 rfl rfl ?_
  refine j_aload_n C dL_law_620 rfl rfl ?_
  refine j_iload C dL_law_621 rfl ?_
  refine j_iconst (v := (1 : Int32)) C dL_law_623 (by decide) ?_
  refine j_iadd C dL_law_624 ?_
  refine j_sld C hX (lw_in1 hj hLL) dL_law_625 ?_
  refine j_aload_n C dL_law_626 rfl rfl ?_
  refine j_iload C dL_law_627 rfl ?_
  refine j_iconst (v := (2 : Int32)) C dL_law_629 (by decide) ?_
  refine j_iadd C dL_law_630 ?_
  refine j_sld C hX (lw_in2 hj hLL) dL_law_631 ?_
  refine j_callV (ci := 10) (RC := RX10) (T := TX10) (N := 38) (As := [.int (xs (Int32.ofNat (4 * j) + (1 : Int32)).toNatClampNeg), .int (xs (Int32.ofNat (4 * j) + (2 : Int32)).toNatClampNeg)]) (b := m) (na := 2) (st := []) (k1 := k + 9) (n1 := n + 255) C hr (sX10_join e2) rfl o1 kL_151 kim_X10_join ksel_X10_join kini_X10 kc_X10_join (by decide) rfl ⟨Nat.le_of_ble_eq_true rfl, Nat.le_of_ble_eq_true rfl⟩ (Nat.le_of_ble_eq_true rfl) ⟨rfl, rfl, by show _ ≤ 601024; omega, by show _ ≤ 7293034; omega⟩ dL_law_632 ?_
  rintro _ _ ⟨rfl, rfl⟩
  show jx_J X (k + 9) (n + 255) 635 [(5, .int (r')), (0, .ref b), (1, .ref a), (2, .ref m), (3, .ref o), (4, .int (Int32.ofNat (4 * j)))] [.int b2] h2
  refine j_istore (lv1 := [(6, .int b2), (5, .int (r')), (0, .ref b), (1, .ref a), (2, .ref m), (3, .ref o), (4, .int (Int32.ofNat (4 * j)))]) C hL dL_law_635 (Nat.le_of_ble_eq_true rfl) rfl ?_
  refine j_aload_n C dL_law_637 rfl rfl ?_
  refine j_callV (ci := 10) (RC := RX10) (T := TX10) (N := 38) (As := []) (b := m) (na := 0) (st := []) (k1 := k + 9) (n1 := n + 255) C hr (sX10_thrown e3) rfl o2 kL_114 kim_X10_thrown ksel_X10_thrown kini_X10 kc_X10_thrown (by decide) rfl ⟨Nat.le_of_ble_eq_true rfl, Nat.le_of_ble_eq_true rfl⟩ (Nat.le_of_ble_eq_true rfl) ⟨rfl, rfl, by show _ ≤ 601024; omega, by show _ ≤ 7293034; omega⟩ dL_law_638 ?_
  rintro _ _ ⟨rfl, rfl⟩
  show jx_J X (k + 9) (n + 255) 641 [(6, .int b2), (5, .int (r')), (0, .ref b), (1, .ref a), (2, .ref m), (3, .ref o), (4, .int (Int32.ofNat (4 * j)))] [.int t] h2
  refine j_iload C dL_law_641 rfl ?_
  refine j_icmp_eq (tgt := 648) C dL_law_643 (by decide) (fun _ => ?_) (fun c => absurd e4 c)
  refine j_iload C dL_law_648 rfl ?_
  refine j_if_ne (tgt := 665) C dL_law_650 (by decide) (fun _ => ?_) (fun hr0 => ?_)
  · refine j_goto (tgt := 2125) C dL_law_665 (by decide) ?_
    refine jx_sub (lv' := [(0, .ref b), (1, .ref a), (2, .ref m), (3, .ref o), (4, .int (Int32.ofNat (4 * j)))]) [2, 3, 4, 5, 6] rfl ?_
    exact jx_widen (by omega) (by omega) (kk h2 hI2)
  · obtain ⟨z, ez, rfl⟩ := e5 hr0
    refine j_aload_n C dL_law_653 rfl rfl ?_
    refine j_iconst (v := (0 : Int32)) C dL_law_654 (by decide) ?_
    refine j_lald C dL_law_655 ez ?_
    refine j_iload C dL_law_656 rfl ?_
    refine j_i2l C dL_law_658 ?_
    refine j_lcmp C dL_law_659 ?_
    refine j_if_eq (tgt := 665) C dL_law_660 (by decide) (fun _ => ?_) (fun c => absurd (lw_cmp _) c)
    refine j_goto (tgt := 2125) C dL_law_665 (by decide) ?_
    refine jx_sub (lv' := [(0, .ref b), (1, .ref a), (2, .ref m), (3, .ref o), (4, .int (Int32.ofNat (4 * j)))]) [2, 3, 4, 5, 6] rfl ?_
    exact jx_widen (by omega) (by omega) (kk h2 hI2)
set_option maxRecDepth 20000 in
set_option maxHeartbeats 4000000 in
theorem lc_leave {X : jx_X} {b a m o L j : Nat} {xs : Nat → Int32} {Inv : jx_H → Prop} {h : jx_H} {k n : Nat} {i : Int32} (C : jx_ok X cL_law RL) (hr : jx_r X room_1) (hL : jx_nl X 9) (hX : jx_S X b L xs) (hi : i = Int32.ofNat (4 * j)) (hj : 4 * j + 4 ≤ L) (hLL : L ≤ 2048) (hk : k + 40 ≤ 601024) (hn : n + 2000 ≤ 7293034) (hs : St_leave Inv a m o) (hI : Inv h)
    (kk : ∀ h2, Inv h2 → jx_J X (k + 40) (n + 2000) 2125 [(0, .ref b), (1, .ref a), (2, .ref m), (3, .ref o), (4, .int i)] [] h2) : jx_J X k n 668 [(0, .ref b), (1, .ref a), (2, .ref m), (3, .ref o), (4, .int i)] [] h := by
  subst hi
  refine j_aload_n C dL_law_668 rfl rfl ?_
  refine j_aload_n C dL_law_669 rfl rfl ?_
  refine j_iload C dL_law_670 rfl ?_
  refine j_iconst (v := (1 : Int32)) C dL_law_672 (by decide) ?_
  refine j_iadd C dL_law_673 ?_
  refine j_sld C hX (lw_in1 hj hLL) dL_law_674 ?_
  refine j_aload_n C dL_law_675 rfl rfl ?_
  refine j_iload C dL_law_676 rfl ?_
  refine j_iconst (v := (2 : Int32)) C dL_law_678 (by decide) ?_
  refine j_iadd C dL_law_679 ?_
  refine j_sld C hX (lw_in2 hj hLL) dL_law_680 ?_
  refine j_aload_n C dL_law_681 rfl rfl ?_
  obtain ⟨r, e1, ho, hO, hE, hs2⟩ := hs h _ _ hI
  refine j_callSW (As := [.ref a, .int (xs (Int32.ofNat (4 * j) + (1 : Int32)).toNatClampNeg), .int (xs (Int32.ofNat (4 * j) + (2 : Int32)).toNatClampNeg), .ref o]) (na := 4) (st := []) (k1 := k + 9) (n1 := n + 255) C hr (sL_leave e1 ho hO hE) kL_152 kst_L_leave kini_L kcw_L_leave (by decide) rfl ⟨Nat.le_of_ble_eq_true rfl, Nat.le_of_ble_eq_true rfl⟩ (Nat.le_of_ble_eq_true rfl) ⟨rfl, rfl, by show _ + 9 ≤ 601024; omega, by show _ + 255 ≤ 7293034; omega⟩ dL_law_682 (fun r1 h1 hp => ?_)
  obtain ⟨r', rfl, b2, h2, t, o1, e2, o2, e3, e4, e5, hI2⟩ := hs2 r1 h1 hp
  show jx_J X (k + 9) (n + 255) 685 [(0, .ref b), (1, .ref a), (2, .ref m), (3, .ref o), (4, .int (Int32.ofNat (4 * j)))] [.int (r')] h1
  refine j_istore (lv1 := [(5, .int (r')), (0, .ref b), (1, .ref a), (2, .ref m), (3, .ref o), (4, .int (Int32.ofNat (4 * j)))]) C hL dL_law_685 (Nat.le_of_ble_eq_true rfl) rfl ?_
  refine j_aload_n C dL_law_687 rfl rfl ?_
  refine j_aload_n C dL_law_688 rfl rfl ?_
  refine j_iload C dL_law_689 rfl ?_
  refine j_iconst (v := (1 : Int32)) C dL_law_691 (by decide) ?_
  refine j_iadd C dL_law_692 ?_
  refine j_sld C hX (lw_in1 hj hLL) dL_law_693 ?_
  refine j_aload_n C dL_law_694 rfl rfl ?_
  refine j_iload C dL_law_695 rfl ?_
  refine j_iconst (v := (2 : Int32)) C dL_law_697 (by decide) ?_
  refine j_iadd C dL_law_698 ?_
  refine j_sld C hX (lw_in2 hj hLL) dL_law_699 ?_
  refine j_callV (ci := 10) (RC := RX10) (T := TX10) (N := 38) (As := [.int (xs (Int32.ofNat (4 * j) + (1 : Int32)).toNatClampNeg), .int (xs (Int32.ofNat (4 * j) + (2 : Int32)).toNatClampNeg)]) (b := m) (na := 2) (st := []) (k1 := k + 9) (n1 := n + 255) C hr (sX10_leave e2) rfl o1 kL_154 kim_X10_leave ksel_X10_leave kini_X10 kc_X10_leave (by decide) rfl ⟨Nat.le_of_ble_eq_true rfl, Nat.le_of_ble_eq_true rfl⟩ (Nat.le_of_ble_eq_true rfl) ⟨rfl, rfl, by show _ ≤ 601024; omega, by show _ ≤ 7293034; omega⟩ dL_law_700 ?_
  rintro _ _ ⟨rfl, rfl⟩
  show jx_J X (k + 9) (n + 255) 703 [(5, .int (r')), (0, .ref b), (1, .ref a), (2, .ref m), (3, .ref o), (4, .int (Int32.ofNat (4 * j)))] [.int b2] h2
  refine j_istore (lv1 := [(6, .int b2), (5, .int (r')), (0, .ref b), (1, .ref a), (2, .ref m), (3, .ref o), (4, .int (Int32.ofNat (4 * j)))]) C hL dL_law_703 (Nat.le_of_ble_eq_true rfl) rfl ?_
  refine j_aload_n C dL_law_705 rfl rfl ?_
  refine j_callV (ci := 10) (RC := RX10) (T := TX10) (N := 38) (As := []) (b := m) (na := 0) (st := []) (k1 := k + 9) (n1 := n + 255) C hr (sX10_thrown e3) rfl o2 kL_114 kim_X10_thrown ksel_X10_thrown kini_X10 kc_X10_thrown (by decide) rfl ⟨Nat.le_of_ble_eq_true rfl, Nat.le_of_ble_eq_true rfl⟩ (Nat.le_of_ble_eq_true rfl) ⟨rfl, rfl, by show _ ≤ 601024; omega, by show _ ≤ 7293034; omega⟩ dL_law_706 ?_
  rintro _ _ ⟨rfl, rfl⟩
  show jx_J X (k + 9) (n + 255) 709 [(6, .int b2), (5, .int (r')), (0, .ref b), (1, .ref a), (2, .ref m), (3, .ref o), (4, .int (Int32.ofNat (4 * j)))] [.int t] h2
  refine j_iload C dL_law_709 rfl ?_
  refine j_icmp_eq (tgt := 716) C dL_law_711 (by decide) (fun _ => ?_) (fun c => absurd e4 c)
  refine j_iload C dL_law_716 rfl ?_
  refine j_if_ne (tgt := 733) C dL_law_718 (by decide) (fun _ => ?_) (fun hr0 => ?_)
  · refine j_goto (tgt := 2125) C dL_law_733 (by decide) ?_
    refine jx_sub (lv' := [(0, .ref b), (1, .ref a), (2, .ref m), (3, .ref o), (4, .int (Int32.ofNat (4 * j)))]) [2, 3, 4, 5, 6] rfl ?_
    exact jx_widen (by omega) (by omega) (kk h2 hI2)
  · obtain ⟨z, ez, rfl⟩ := e5 hr0
    refine j_aload_n C dL_law_721 rfl rfl ?_
    refine j_iconst (v := (0 : Int32)) C dL_law_722 (by decide) ?_
    refine j_lald C dL_law_723 ez ?_
    refine j_iload C dL_law_724 rfl ?_
    refine j_i2l C dL_law_726 ?_
    refine j_lcmp C dL_law_727 ?_
    refine j_if_eq (tgt := 733) C dL_law_728 (by decide) (fun _ => ?_) (fun c => absurd (lw_cmp _) c)
    refine j_goto (tgt := 2125) C dL_law_733 (by decide) ?_
    refine jx_sub (lv' := [(0, .ref b), (1, .ref a), (2, .ref m), (3, .ref o), (4, .int (Int32.ofNat (4 * j)))]) [2, 3, 4, 5, 6] rfl ?_
    exact jx_widen (by omega) (by omega) (kk h2 hI2)
set_option maxRecDepth 20000 in
set_option maxHeartbeats 4000000 in
theorem lc_monomial {X : jx_X} {b a m o L j : Nat} {xs : Nat → Int32} {Inv : jx_H → Prop} {h : jx_H} {k n : Nat} {i : Int32} (C : jx_ok X cL_law RL) (hr : jx_r X room_1) (hL : jx_nl X 9) (hX : jx_S X b L xs) (hi : i = Int32.ofNat (4 * j)) (hj : 4 * j + 4 ≤ L) (hLL : L ≤ 2048) (hk : k + 40 ≤ 601024) (hn : n + 2000 ≤ 7293034) (hs : St_monomial Inv a m o) (hI : Inv h)
    (kk : ∀ h2, Inv h2 → jx_J X (k + 40) (n + 2000) 2125 [(0, .ref b), (1, .ref a), (2, .ref m), (3, .ref o), (4, .int i)] [] h2) : jx_J X k n 736 [(0, .ref b), (1, .ref a), (2, .ref m), (3, .ref o), (4, .int i)] [] h := by
  subst hi
  refine j_aload_n C dL_law_736 rfl rfl ?_
  refine j_aload_n C dL_law_737 rfl rfl ?_
  refine j_iload C dL_law_738 rfl ?_
  refine j_iconst (v := (1 : Int32)) C dL_law_740 (by decide) ?_
  refine j_iadd C dL_law_741 ?_
  refine j_sld C hX (lw_in1 hj hLL) dL_law_742 ?_
  refine j_aload_n C dL_law_743 rfl rfl ?_
  refine j_iload C dL_law_744 rfl ?_
  refine j_iconst (v := (2 : Int32)) C dL_law_746 (by decide) ?_
  refine j_iadd C dL_law_747 ?_
  refine j_sld C hX (lw_in2 hj hLL) dL_law_748 ?_
  refine j_aload_n C dL_law_749 rfl rfl ?_
  obtain ⟨r, e1, ho, hO, hE, hs2⟩ := hs h _ _ hI
  refine j_callSW (As := [.ref a, .int (xs (Int32.ofNat (4 * j) + (1 : Int32)).toNatClampNeg), .int (xs (Int32.ofNat (4 * j) + (2 : Int32)).toNatClampNeg), .ref o]) (na := 4) (st := []) (k1 := k + 1) (n1 := n + 6) C hr (sL_monomial e1 ho hO hE) kL_155 kst_L_monomial kini_L kcw_L_monomial (by decide) rfl ⟨Nat.le_of_ble_eq_true rfl, Nat.le_of_ble_eq_true rfl⟩ (Nat.le_of_ble_eq_true rfl) ⟨rfl, rfl, by show _ + 1 ≤ 601024; omega, by show _ + 6 ≤ 7293034; omega⟩ dL_law_750 (fun r1 h1 hp => ?_)
  obtain ⟨r', rfl, b2, h2, t, o1, e2, o2, e3, e4, e5, hI2⟩ := hs2 r1 h1 hp
  show jx_J X (k + 1) (n + 6) 753 [(0, .ref b), (1, .ref a), (2, .ref m), (3, .ref o), (4, .int (Int32.ofNat (4 * j)))] [.int (r')] h1
  refine j_istore (lv1 := [(5, .int (r')), (0, .ref b), (1, .ref a), (2, .ref m), (3, .ref o), (4, .int (Int32.ofNat (4 * j)))]) C hL dL_law_753 (Nat.le_of_ble_eq_true rfl) rfl ?_
  refine j_aload_n C dL_law_755 rfl rfl ?_
  refine j_aload_n C dL_law_756 rfl rfl ?_
  refine j_iload C dL_law_757 rfl ?_
  refine j_iconst (v := (1 : Int32)) C dL_law_759 (by decide) ?_
  refine j_iadd C dL_law_760 ?_
  refine j_sld C hX (lw_in1 hj hLL) dL_law_761 ?_
  refine j_aload_n C dL_law_762 rfl rfl ?_
  refine j_iload C dL_law_763 rfl ?_
  refine j_iconst (v := (2 : Int32)) C dL_law_765 (by decide) ?_
  refine j_iadd C dL_law_766 ?_
  refine j_sld C hX (lw_in2 hj hLL) dL_law_767 ?_
  refine j_callV (ci := 10) (RC := RX10) (T := TX10) (N := 38) (As := [.int (xs (Int32.ofNat (4 * j) + (1 : Int32)).toNatClampNeg), .int (xs (Int32.ofNat (4 * j) + (2 : Int32)).toNatClampNeg)]) (b := m) (na := 2) (st := []) (k1 := k + 1) (n1 := n + 6) C hr (sX10_monomial e2) rfl o1 kL_157 kim_X10_monomial ksel_X10_monomial kini_X10 kc_X10_monomial (by decide) rfl ⟨Nat.le_of_ble_eq_true rfl, Nat.le_of_ble_eq_true rfl⟩ (Nat.le_of_ble_eq_true rfl) ⟨rfl, rfl, by show _ ≤ 601024; omega, by show _ ≤ 7293034; omega⟩ dL_law_768 ?_
  rintro _ _ ⟨rfl, rfl⟩
  show jx_J X (k + 1) (n + 6) 771 [(5, .int (r')), (0, .ref b), (1, .ref a), (2, .ref m), (3, .ref o), (4, .int (Int32.ofNat (4 * j)))] [.int b2] h2
  refine j_istore (lv1 := [(6, .int b2), (5, .int (r')), (0, .ref b), (1, .ref a), (2, .ref m), (3, .ref o), (4, .int (Int32.ofNat (4 * j)))]) C hL dL_law_771 (Nat.le_of_ble_eq_true rfl) rfl ?_
  refine j_aload_n C dL_law_773 rfl rfl ?_
  refine j_callV (ci := 10) (RC := RX10) (T := TX10) (N := 38) (As := []) (b := m) (na := 0) (st := []) (k1 := k + 1) (n1 := n + 6) C hr (sX10_thrown e3) rfl o2 kL_114 kim_X10_thrown ksel_X10_thrown kini_X10 kc_X10_thrown (by decide) rfl ⟨Nat.le_of_ble_eq_true rfl, Nat.le_of_ble_eq_true rfl⟩ (Nat.le_of_ble_eq_true rfl) ⟨rfl, rfl, by show _ ≤ 601024; omega, by show _ ≤ 7293034; omega⟩ dL_law_774 ?_
  rintro _ _ ⟨rfl, rfl⟩
  show jx_J X (k + 1) (n + 6) 777 [(6, .int b2), (5, .int (r')), (0, .ref b), (1, .ref a), (2, .ref m), (3, .ref o), (4, .int (Int32.ofNat (4 * j)))] [.int t] h2
  refine j_iload C dL_law_777 rfl ?_
  refine j_icmp_eq (tgt := 784) C dL_law_779 (by decide) (fun _ => ?_) (fun c => absurd e4 c)
  refine j_iload C dL_law_784 rfl ?_
  refine j_if_ne (tgt := 801) C dL_law_786 (by decide) (fun _ => ?_) (fun hr0 => ?_)
  · refine j_goto (tgt := 2125) C dL_law_801 (by decide) ?_
    refine jx_sub (lv' := [(0, .ref b), (1, .ref a), (2, .ref m), (3, .ref o), (4, .int (Int32.ofNat (4 * j)))]) [2, 3, 4, 5, 6] rfl ?_
    exact jx_widen (by omega) (by omega) (kk h2 hI2)
  · obtain ⟨z, ez, rfl⟩ := e5 hr0
    refine j_aload_n C dL_law_789 rfl rfl ?_
    refine j_iconst (v := (0 : Int32)) C dL_law_790 (by decide) ?_
    refine j_lald C dL_law_791 ez ?_
    refine j_iload C dL_law_792 rfl ?_
    refine j_i2l C dL_law_794 ?_
    refine j_lcmp C dL_law_795 ?_
    refine j_if_eq (tgt := 801) C dL_law_796 (by decide) (fun _ => ?_) (fun c => absurd (lw_cmp _) c)
    refine j_goto (tgt := 2125) C dL_law_801 (by decide) ?_
    refine jx_sub (lv' := [(0, .ref b), (1, .ref a), (2, .ref m), (3, .ref o), (4, .int (Int32.ofNat (4 * j)))]) [2, 3, 4, 5, 6] rfl ?_
    exact jx_widen (by omega) (by omega) (kk h2 hI2)
set_option maxRecDepth 20000 in
set_option maxHeartbeats 4000000 in
theorem lc_border {X : jx_X} {b a m o L j : Nat} {xs : Nat → Int32} {Inv : jx_H → Prop} {h : jx_H} {k n : Nat} {i : Int32} (C : jx_ok X cL_law RL) (hr : jx_r X room_1) (hL : jx_nl X 9) (hX : jx_S X b L xs) (hi : i = Int32.ofNat (4 * j)) (hj : 4 * j + 4 ≤ L) (hLL : L ≤ 2048) (hk : k + 40 ≤ 601024) (hn : n + 2000 ≤ 7293034) (hs : St_border Inv a m o) (hI : Inv h)
    (kk : ∀ h2, Inv h2 → jx_J X (k + 40) (n + 2000) 2125 [(0, .ref b), (1, .ref a), (2, .ref m), (3, .ref o), (4, .int i)] [] h2) : jx_J X k n 804 [(0, .ref b), (1, .ref a), (2, .ref m), (3, .ref o), (4, .int i)] [] h := by
  subst hi
  refine j_aload_n C dL_law_804 rfl rfl ?_
  refine j_aload_n C dL_law_805 rfl rfl ?_
  refine j_iload C dL_law_806 rfl ?_
  refine j_iconst (v := (1 : Int32)) C dL_law_808 (by decide) ?_
  refine j_iadd C dL_law_809 ?_
  refine j_sld C hX (lw_in1 hj hLL) dL_law_810 ?_
  refine j_aload_n C dL_law_811 rfl rfl ?_
  refine j_iload C dL_law_812 rfl ?_
  refine j_iconst (v := (2 : Int32)) C dL_law_814 (by decide) ?_
  refine j_iadd C dL_law_815 ?_
  refine j_sld C hX (lw_in2 hj hLL) dL_law_816 ?_
  refine j_aload_n C dL_law_817 rfl rfl ?_
  obtain ⟨r, e1, ho, hO, hE, hs2⟩ := hs h _ _ hI
  refine j_callSW (As := [.ref a, .int (xs (Int32.ofNat (4 * j) + (1 : Int32)).toNatClampNeg), .int (xs (Int32.ofNat (4 * j) + (2 : Int32)).toNatClampNeg), .ref o]) (na := 4) (st := []) (k1 := k + 1) (n1 := n + 6) C hr (sL_border e1 ho hO hE) kL_158 kst_L_border kini_L kcw_L_border (by decide) rfl ⟨Nat.le_of_ble_eq_true rfl, Nat.le_of_ble_eq_true rfl⟩ (Nat.le_of_ble_eq_true rfl) ⟨rfl, rfl, by show _ + 1 ≤ 601024; omega, by show _ + 6 ≤ 7293034; omega⟩ dL_law_818 (fun r1 h1 hp => ?_)
  obtain ⟨r', rfl, b2, h2, t, o1, e2, o2, e3, e4, e5, hI2⟩ := hs2 r1 h1 hp
  show jx_J X (k + 1) (n + 6) 821 [(0, .ref b), (1, .ref a), (2, .ref m), (3, .ref o), (4, .int (Int32.ofNat (4 * j)))] [.int (r')] h1
  refine j_istore (lv1 := [(5, .int (r')), (0, .ref b), (1, .ref a), (2, .ref m), (3, .ref o), (4, .int (Int32.ofNat (4 * j)))]) C hL dL_law_821 (Nat.le_of_ble_eq_true rfl) rfl ?_
  refine j_aload_n C dL_law_823 rfl rfl ?_
  refine j_aload_n C dL_law_824 rfl rfl ?_
  refine j_iload C dL_law_825 rfl ?_
  refine j_iconst (v := (1 : Int32)) C dL_law_827 (by decide) ?_
  refine j_iadd C dL_law_828 ?_
  refine j_sld C hX (lw_in1 hj hLL) dL_law_829 ?_
  refine j_aload_n C dL_law_830 rfl rfl ?_
  refine j_iload C dL_law_831 rfl ?_
  refine j_iconst (v := (2 : Int32)) C dL_law_833 (by decide) ?_
  refine j_iadd C dL_law_834 ?_
  refine j_sld C hX (lw_in2 hj hLL) dL_law_835 ?_
  refine j_callV (ci := 10) (RC := RX10) (T := TX10) (N := 38) (As := [.int (xs (Int32.ofNat (4 * j) + (1 : Int32)).toNatClampNeg), .int (xs (Int32.ofNat (4 * j) + (2 : Int32)).toNatClampNeg)]) (b := m) (na := 2) (st := []) (k1 := k + 1) (n1 := n + 6) C hr (sX10_border e2) rfl o1 kL_160 kim_X10_border ksel_X10_border kini_X10 kc_X10_border (by decide) rfl ⟨Nat.le_of_ble_eq_true rfl, Nat.le_of_ble_eq_true rfl⟩ (Nat.le_of_ble_eq_true rfl) ⟨rfl, rfl, by show _ ≤ 601024; omega, by show _ ≤ 7293034; omega⟩ dL_law_836 ?_
  rintro _ _ ⟨rfl, rfl⟩
  show jx_J X (k + 1) (n + 6) 839 [(5, .int (r')), (0, .ref b), (1, .ref a), (2, .ref m), (3, .ref o), (4, .int (Int32.ofNat (4 * j)))] [.int b2] h2
  refine j_istore (lv1 := [(6, .int b2), (5, .int (r')), (0, .ref b), (1, .ref a), (2, .ref m), (3, .ref o), (4, .int (Int32.ofNat (4 * j)))]) C hL dL_law_839 (Nat.le_of_ble_eq_true rfl) rfl ?_
  refine j_aload_n C dL_law_841 rfl rfl ?_
  refine j_callV (ci := 10) (RC := RX10) (T := TX10) (N := 38) (As := []) (b := m) (na := 0) (st := []) (k1 := k + 1) (n1 := n + 6) C hr (sX10_thrown e3) rfl o2 kL_114 kim_X10_thrown ksel_X10_thrown kini_X10 kc_X10_thrown (by decide) rfl ⟨Nat.le_of_ble_eq_true rfl, Nat.le_of_ble_eq_true rfl⟩ (Nat.le_of_ble_eq_true rfl) ⟨rfl, rfl, by show _ ≤ 601024; omega, by show _ ≤ 7293034; omega⟩ dL_law_842 ?_
  rintro _ _ ⟨rfl, rfl⟩
  show jx_J X (k + 1) (n + 6) 845 [(6, .int b2), (5, .int (r')), (0, .ref b), (1, .ref a), (2, .ref m), (3, .ref o), (4, .int (Int32.ofNat (4 * j)))] [.int t] h2
  refine j_iload C dL_law_845 rfl ?_
  refine j_icmp_eq (tgt := 852) C dL_law_847 (by decide) (fun _ => ?_) (fun c => absurd e4 c)
  refine j_iload C dL_law_852 rfl ?_
  refine j_if_ne (tgt := 869) C dL_law_854 (by decide) (fun _ => ?_) (fun hr0 => ?_)
  · refine j_goto (tgt := 2125) C dL_law_869 (by decide) ?_
    refine jx_sub (lv' := [(0, .ref b), (1, .ref a), (2, .ref m), (3, .ref o), (4, .int (Int32.ofNat (4 * j)))]) [2, 3, 4, 5, 6] rfl ?_
    exact jx_widen (by omega) (by omega) (kk h2 hI2)
  · obtain ⟨z, ez, rfl⟩ := e5 hr0
    refine j_aload_n C dL_law_857 rfl rfl ?_
    refine j_iconst (v := (0 : Int32)) C dL_law_858 (by decide) ?_
    refine j_lald C dL_law_859 ez ?_
    refine j_iload C dL_law_860 rfl ?_
    refine j_i2l C dL_law_862 ?_
    refine j_lcmp C dL_law_863 ?_
    refine j_if_eq (tgt := 869) C dL_law_864 (by decide) (fun _ => ?_) (fun c => absurd (lw_cmp _) c)
    refine j_goto (tgt := 2125) C dL_law_869 (by decide) ?_
    refine jx_sub (lv' := [(0, .ref b), (1, .ref a), (2, .ref m), (3, .ref o), (4, .int (Int32.ofNat (4 * j)))]) [2, 3, 4, 5, 6] rfl ?_
    exact jx_widen (by omega) (by omega) (kk h2 hI2)
set_option maxRecDepth 20000 in
set_option maxHeartbeats 4000000 in
theorem lc_place {X : jx_X} {b a m o L j : Nat} {xs : Nat → Int32} {Inv : jx_H → Prop} {h : jx_H} {k n : Nat} {i : Int32} (C : jx_ok X cL_law RL) (hr : jx_r X room_1) (hL : jx_nl X 9) (hX : jx_S X b L xs) (hi : i = Int32.ofNat (4 * j)) (hj : 4 * j + 4 ≤ L) (hLL : L ≤ 2048) (hk : k + 40 ≤ 601024) (hn : n + 2000 ≤ 7293034) (hs : St_place Inv a m) (hI : Inv h)
    (kk : ∀ h2, Inv h2 → jx_J X (k + 40) (n + 2000) 2125 [(0, .ref b), (1, .ref a), (2, .ref m), (3, .ref o), (4, .int i)] [] h2) : jx_J X k n 872 [(0, .ref b), (1, .ref a), (2, .ref m), (3, .ref o), (4, .int i)] [] h := by
  subst hi
  refine j_aload_n C dL_law_872 rfl rfl ?_
  refine j_aload_n C dL_law_873 rfl rfl ?_
  refine j_iload C dL_law_874 rfl ?_
  refine j_iconst (v := (1 : Int32)) C dL_law_876 (by decide) ?_
  refine j_iadd C dL_law_877 ?_
  refine j_sld C hX (lw_in1 hj hLL) dL_law_878 ?_
  refine j_aload_n C dL_law_879 rfl rfl ?_
  refine j_iload C dL_law_880 rfl ?_
  refine j_iconst (v := (2 : Int32)) C dL_law_882 (by decide) ?_
  refine j_iadd C dL_law_883 ?_
  refine j_sld C hX (lw_in2 hj hLL) dL_law_884 ?_
  obtain ⟨v1, o1, e1, o2, b2, h2, e2, e4, hI2⟩ := hs h _ _ hI
  refine j_callV (ci := 9) (RC := RX9) (T := TX9) (N := 14) (As := [.int (xs (Int32.ofNat (4 * j) + (1 : Int32)).toNatClampNeg), .int (xs (Int32.ofNat (4 * j) + (2 : Int32)).toNatClampNeg)]) (b := a) (na := 2) (st := []) (k1 := k) (n1 := n) C hr (sX9_place e1) rfl o1 kL_161 kim_X9_place ksel_X9_place kini_X9 kc_X9_place (by decide) rfl ⟨Nat.le_of_ble_eq_true rfl, Nat.le_of_ble_eq_true rfl⟩ (Nat.le_of_ble_eq_true rfl) ⟨rfl, rfl, by show _ ≤ 601024; omega, by show _ ≤ 7293034; omega⟩ dL_law_885 ?_
  rintro _ _ ⟨rfl, rfl⟩
  show jx_J X k n 888 [(0, .ref b), (1, .ref a), (2, .ref m), (3, .ref o), (4, .int (Int32.ofNat (4 * j)))] [.int v1] h
  refine j_aload_n C dL_law_888 rfl rfl ?_
  refine j_aload_n C dL_law_889 rfl rfl ?_
  refine j_iload C dL_law_890 rfl ?_
  refine j_iconst (v := (1 : Int32)) C dL_law_892 (by decide) ?_
  refine j_iadd C dL_law_893 ?_
  refine j_sld C hX (lw_in1 hj hLL) dL_law_894 ?_
  refine j_aload_n C dL_law_895 rfl rfl ?_
  refine j_iload C dL_law_896 rfl ?_
  refine j_iconst (v := (2 : Int32)) C dL_law_898 (by decide) ?_
  refine j_iadd C dL_law_899 ?_
  refine j_sld C hX (lw_in2 hj hLL) dL_law_900 ?_
  refine j_callV (ci := 10) (RC := RX10) (T := TX10) (N := 38) (As := [.int (xs (Int32.ofNat (4 * j) + (1 : Int32)).toNatClampNeg), .int (xs (Int32.ofNat (4 * j) + (2 : Int32)).toNatClampNeg)]) (b := m) (na := 2) (st := [.int v1]) (k1 := k) (n1 := n) C hr (sX10_place e2) rfl o2 kL_164 kim_X10_place ksel_X10_place kini_X10 kc_X10_place (by decide) rfl ⟨Nat.le_of_ble_eq_true rfl, Nat.le_of_ble_eq_true rfl⟩ (Nat.le_of_ble_eq_true rfl) ⟨rfl, rfl, by show _ ≤ 601024; omega, by show _ ≤ 7293034; omega⟩ dL_law_901 ?_
  rintro _ _ ⟨rfl, rfl⟩
  show jx_J X k n 904 [(0, .ref b), (1, .ref a), (2, .ref m), (3, .ref o), (4, .int (Int32.ofNat (4 * j)))] [.int b2, .int v1] h2
  refine j_icmp_eq (tgt := 2125) C dL_law_904 (by decide) (fun _ => ?_) (fun c => absurd e4 c)
  refine jx_sub (lv' := [(0, .ref b), (1, .ref a), (2, .ref m), (3, .ref o), (4, .int (Int32.ofNat (4 * j)))]) [0, 1, 2, 3, 4] rfl ?_
  exact jx_widen (by omega) (by omega) (kk h2 hI2)
set_option maxRecDepth 20000 in
set_option maxHeartbeats 4000000 in
theorem lc_setRule {X : jx_X} {b a m o L j : Nat} {xs : Nat → Int32} {Inv : jx_H → Prop} {h : jx_H} {k n : Nat} {i : Int32} (C : jx_ok X cL_law RL) (hr : jx_r X room_1) (hL : jx_nl X 9) (hX : jx_S X b L xs) (hi : i = Int32.ofNat (4 * j)) (hj : 4 * j + 4 ≤ L) (hLL : L ≤ 2048) (hk : k + 40 ≤ 601024) (hn : n + 2000 ≤ 7293034) (hs : St_setRule Inv a m o) (hI : Inv h)
    (kk : ∀ h2, Inv h2 → jx_J X (k + 40) (n + 2000) 2125 [(0, .ref b), (1, .ref a), (2, .ref m), (3, .ref o), (4, .int i)] [] h2) : jx_J X k n 909 [(0, .ref b), (1, .ref a), (2, .ref m), (3, .ref o), (4, .int i)] [] h := by
  subst hi
  refine j_aload_n C dL_law_909 rfl rfl ?_
  refine j_aload_n C dL_law_910 rfl rfl ?_
  refine j_iload C dL_law_911 rfl ?_
  refine j_iconst (v := (1 : Int32)) C dL_law_913 (by decide) ?_
  refine j_iadd C dL_law_914 ?_
  refine j_sld C hX (lw_in1 hj hLL) dL_law_915 ?_
  refine j_aload_n C dL_law_916 rfl rfl ?_
  refine j_iload C dL_law_917 rfl ?_
  refine j_iconst (v := (2 : Int32)) C dL_law_919 (by decide) ?_
  refine j_iadd C dL_law_920 ?_
  refine j_sld C hX (lw_in2 hj hLL) dL_law_921 ?_
  refine j_aload_n C dL_law_922 rfl rfl ?_
  refine j_iload C dL_law_923 rfl ?_
  refine j_iconst (v := (3 : Int32)) C dL_law_925 (by decide) ?_
  refine j_iadd C dL_law_926 ?_
  refine j_sld C hX (lw_in3 hj hLL) dL_law_927 ?_
  refine j_aload_n C dL_law_928 rfl rfl ?_
  obtain ⟨r, e1, ho, hO, hE, hs2⟩ := hs h _ _ _ hI
  refine j_callSW (As := [.ref a, .int (xs (Int32.ofNat (4 * j) + (1 : Int32)).toNatClampNeg), .int (xs (Int32.ofNat (4 * j) + (2 : Int32)).toNatClampNeg), .int (xs (Int32.ofNat (4 * j) + (3 : Int32)).toNatClampNeg), .ref o]) (na := 5) (st := []) (k1 := k + 9) (n1 := n + 255) C hr (sL_setRule e1 ho hO hE) kL_165 kst_L_setRule kini_L kcw_L_setRule (by decide) rfl ⟨Nat.le_of_ble_eq_true rfl, Nat.le_of_ble_eq_true rfl⟩ (Nat.le_of_ble_eq_true rfl) ⟨rfl, rfl, by show _ + 9 ≤ 601024; omega, by show _ + 255 ≤ 7293034; omega⟩ dL_law_929 (fun r1 h1 hp => ?_)
  obtain ⟨r', rfl, b2, h2, t, o1, e2, o2, e3, e4, e5, hI2⟩ := hs2 r1 h1 hp
  show jx_J X (k + 9) (n + 255) 932 [(0, .ref b), (1, .ref a), (2, .ref m), (3, .ref o), (4, .int (Int32.ofNat (4 * j)))] [.int (r')] h1
  refine j_istore (lv1 := [(5, .int (r')), (0, .ref b), (1, .ref a), (2, .ref m), (3, .ref o), (4, .int (Int32.ofNat (4 * j)))]) C hL dL_law_932 (Nat.le_of_ble_eq_true rfl) rfl ?_
  refine j_aload_n C dL_law_934 rfl rfl ?_
  refine j_aload_n C dL_law_935 rfl rfl ?_
  refine j_iload C dL_law_936 rfl ?_
  refine j_iconst (v := (1 : Int32)) C dL_law_938 (by decide) ?_
  refine j_iadd C dL_law_939 ?_
  refine j_sld C hX (lw_in1 hj hLL) dL_law_940 ?_
  refine j_aload_n C dL_law_941 rfl rfl ?_
  refine j_iload C dL_law_942 rfl ?_
  refine j_iconst (v := (2 : Int32)) C dL_law_944 (by decide) ?_
  refine j_iadd C dL_law_945 ?_
  refine j_sld C hX (lw_in2 hj hLL) dL_law_946 ?_
  refine j_aload_n C dL_law_947 rfl rfl ?_
  refine j_iload C dL_law_948 rfl ?_
  refine j_iconst (v := (3 : Int32)) C dL_law_950 (by decide) ?_
  refine j_iadd C dL_law_951 ?_
  refine j_sld C hX (lw_in3 hj hLL) dL_law_952 ?_
  refine j_callV (ci := 10) (RC := RX10) (T := TX10) (N := 38) (As := [.int (xs (Int32.ofNat (4 * j) + (1 : Int32)).toNatClampNeg), .int (xs (Int32.ofNat (4 * j) + (2 : Int32)).toNatClampNeg), .int (xs (Int32.ofNat (4 * j) + (3 : Int32)).toNatClampNeg)]) (b := m) (na := 3) (st := []) (k1 := k + 9) (n1 := n + 255) C hr (sX10_setRule e2) rfl o1 kL_168 kim_X10_setRule ksel_X10_setRule kini_X10 kc_X10_setRule (by decide) rfl ⟨Nat.le_of_ble_eq_true rfl, Nat.le_of_ble_eq_true rfl⟩ (Nat.le_of_ble_eq_true rfl) ⟨rfl, rfl, by show _ ≤ 601024; omega, by show _ ≤ 7293034; omega⟩ dL_law_953 ?_
  rintro _ _ ⟨rfl, rfl⟩
  show jx_J X (k + 9) (n + 255) 956 [(5, .int (r')), (0, .ref b), (1, .ref a), (2, .ref m), (3, .ref o), (4, .int (Int32.ofNat (4 * j)))] [.int b2] h2
  refine j_istore (lv1 := [(6, .int b2), (5, .int (r')), (0, .ref b), (1, .ref a), (2, .ref m), (3, .ref o), (4, .int (Int32.ofNat (4 * j)))]) C hL dL_law_956 (Nat.le_of_ble_eq_true rfl) rfl ?_
  refine j_aload_n C dL_law_958 rfl rfl ?_
  refine j_callV (ci := 10) (RC := RX10) (T := TX10) (N := 38) (As := []) (b := m) (na := 0) (st := []) (k1 := k + 9) (n1 := n + 255) C hr (sX10_thrown e3) rfl o2 kL_114 kim_X10_thrown ksel_X10_thrown kini_X10 kc_X10_thrown (by decide) rfl ⟨Nat.le_of_ble_eq_true rfl, Nat.le_of_ble_eq_true rfl⟩ (Nat.le_of_ble_eq_true rfl) ⟨rfl, rfl, by show _ ≤ 601024; omega, by show _ ≤ 7293034; omega⟩ dL_law_959 ?_
  rintro _ _ ⟨rfl, rfl⟩
  show jx_J X (k + 9) (n + 255) 962 [(6, .int b2), (5, .int (r')), (0, .ref b), (1, .ref a), (2, .ref m), (3, .ref o), (4, .int (Int32.ofNat (4 * j)))] [.int t] h2
  refine j_iload C dL_law_962 rfl ?_
  refine j_icmp_eq (tgt := 969) C dL_law_964 (by decide) (fun _ => ?_) (fun c => absurd e4 c)
  refine j_iload C dL_law_969 rfl ?_
  refine j_if_ne (tgt := 986) C dL_law_971 (by decide) (fun _ => ?_) (fun hr0 => ?_)
  · refine j_goto (tgt := 2125) C dL_law_986 (by decide) ?_
    refine jx_sub (lv' := [(0, .ref b), (1, .ref a), (2, .ref m), (3, .ref o), (4, .int (Int32.ofNat (4 * j)))]) [2, 3, 4, 5, 6] rfl ?_
    exact jx_widen (by omega) (by omega) (kk h2 hI2)
  · obtain ⟨z, ez, rfl⟩ := e5 hr0
    refine j_aload_n C dL_law_974 rfl rfl ?_
    refine j_iconst (v := (0 : Int32)) C dL_law_975 (by decide) ?_
    refine j_lald C dL_law_976 ez ?_
    refine j_iload C dL_law_977 rfl ?_
    refine j_i2l C dL_law_979 ?_
    refine j_lcmp C dL_law_980 ?_
    refine j_if_eq (tgt := 986) C dL_law_981 (by decide) (fun _ => ?_) (fun c => absurd (lw_cmp _) c)
    refine j_goto (tgt := 2125) C dL_law_986 (by decide) ?_
    refine jx_sub (lv' := [(0, .ref b), (1, .ref a), (2, .ref m), (3, .ref o), (4, .int (Int32.ofNat (4 * j)))]) [2, 3, 4, 5, 6] rfl ?_
    exact jx_widen (by omega) (by omega) (kk h2 hI2)
set_option maxRecDepth 20000 in
set_option maxHeartbeats 4000000 in
theorem lc_rule {X : jx_X} {b a m o L j : Nat} {xs : Nat → Int32} {Inv : jx_H → Prop} {h : jx_H} {k n : Nat} {i : Int32} (C : jx_ok X cL_law RL) (hr : jx_r X room_1) (hL : jx_nl X 9) (hX : jx_S X b L xs) (hi : i = Int32.ofNat (4 * j)) (hj : 4 * j + 4 ≤ L) (hLL : L ≤ 2048) (hk : k + 40 ≤ 601024) (hn : n + 2000 ≤ 7293034) (hs : St_rule Inv a m o) (hI : Inv h)
    (kk : ∀ h2, Inv h2 → jx_J X (k + 40) (n + 2000) 2125 [(0, .ref b), (1, .ref a), (2, .ref m), (3, .ref o), (4, .int i)] [] h2) : jx_J X k n 989 [(0, .ref b), (1, .ref a), (2, .ref m), (3, .ref o), (4, .int i)] [] h := by
  subst hi
  refine j_aload_n C dL_law_989 rfl rfl ?_
  refine j_aload_n C dL_law_990 rfl rfl ?_
  refine j_iload C dL_law_991 rfl ?_
  refine j_iconst (v := (1 : Int32)) C dL_law_993 (by decide) ?_
  refine j_iadd C dL_law_994 ?_
  refine j_sld C hX (lw_in1 hj hLL) dL_law_995 ?_
  refine j_aload_n C dL_law_996 rfl rfl ?_
  refine j_iload C dL_law_997 rfl ?_
  refine j_iconst (v := (2 : Int32)) C dL_law_999 (by decide) ?_
  refine j_iadd C dL_law_1000 ?_
  refine j_sld C hX (lw_in2 hj hLL) dL_law_1001 ?_
  refine j_aload_n C dL_law_1002 rfl rfl ?_
  obtain ⟨r, e1, ho, hO, hE, hs2⟩ := hs h _ _ hI
  refine j_callSW (As := [.ref a, .int (xs (Int32.ofNat (4 * j) + (1 : Int32)).toNatClampNeg), .int (xs (Int32.ofNat (4 * j) + (2 : Int32)).toNatClampNeg), .ref o]) (na := 4) (st := []) (k1 := k + 1) (n1 := n + 6) C hr (sL_rule e1 ho hO hE) kL_169 kst_L_rule kini_L kcw_L_rule (by decide) rfl ⟨Nat.le_of_ble_eq_true rfl, Nat.le_of_ble_eq_true rfl⟩ (Nat.le_of_ble_eq_true rfl) ⟨rfl, rfl, by show _ + 1 ≤ 601024; omega, by show _ + 6 ≤ 7293034; omega⟩ dL_law_1003 (fun r1 h1 hp => ?_)
  obtain ⟨r', rfl, b2, h2, t, o1, e2, o2, e3, e4, e5, hI2⟩ := hs2 r1 h1 hp
  show jx_J X (k + 1) (n + 6) 1006 [(0, .ref b), (1, .ref a), (2, .ref m), (3, .ref o), (4, .int (Int32.ofNat (4 * j)))] [.int (r')] h1
  refine j_istore (lv1 := [(5, .int (r')), (0, .ref b), (1, .ref a), (2, .ref m), (3, .ref o), (4, .int (Int32.ofNat (4 * j)))]) C hL dL_law_1006 (Nat.le_of_ble_eq_true rfl) rfl ?_
  refine j_aload_n C dL_law_1008 rfl rfl ?_
  refine j_aload_n C dL_law_1009 rfl rfl ?_
  refine j_iload C dL_law_1010 rfl ?_
  refine j_iconst (v := (1 : Int32)) C dL_law_1012 (by decide) ?_
  refine j_iadd C dL_law_1013 ?_
  refine j_sld C hX (lw_in1 hj hLL) dL_law_1014 ?_
  refine j_aload_n C dL_law_1015 rfl rfl ?_
  refine j_iload C dL_law_1016 rfl ?_
  refine j_iconst (v := (2 : Int32)) C dL_law_1018 (by decide) ?_
  refine j_iadd C dL_law_1019 ?_
  refine j_sld C hX (lw_in2 hj hLL) dL_law_1020 ?_
  refine j_callV (ci := 10) (RC := RX10) (T := TX10) (N := 38) (As := [.int (xs (Int32.ofNat (4 * j) + (1 : Int32)).toNatClampNeg), .int (xs (Int32.ofNat (4 * j) + (2 : Int32)).toNatClampNeg)]) (b := m) (na := 2) (st := []) (k1 := k + 1) (n1 := n + 6) C hr (sX10_rule e2) rfl o1 kL_171 kim_X10_rule ksel_X10_rule kini_X10 kc_X10_rule (by decide) rfl ⟨Nat.le_of_ble_eq_true rfl, Nat.le_of_ble_eq_true rfl⟩ (Nat.le_of_ble_eq_true rfl) ⟨rfl, rfl, by show _ ≤ 601024; omega, by show _ ≤ 7293034; omega⟩ dL_law_1021 ?_
  rintro _ _ ⟨rfl, rfl⟩
  show jx_J X (k + 1) (n + 6) 1024 [(5, .int (r')), (0, .ref b), (1, .ref a), (2, .ref m), (3, .ref o), (4, .int (Int32.ofNat (4 * j)))] [.int b2] h2
  refine j_istore (lv1 := [(6, .int b2), (5, .int (r')), (0, .ref b), (1, .ref a), (2, .ref m), (3, .ref o), (4, .int (Int32.ofNat (4 * j)))]) C hL dL_law_1024 (Nat.le_of_ble_eq_true rfl) rfl ?_
  refine j_aload_n C dL_law_1026 rfl rfl ?_
  refine j_callV (ci := 10) (RC := RX10) (T := TX10) (N := 38) (As := []) (b := m) (na := 0) (st := []) (k1 := k + 1) (n1 := n + 6) C hr (sX10_thrown e3) rfl o2 kL_114 kim_X10_thrown ksel_X10_thrown kini_X10 kc_X10_thrown (by decide) rfl ⟨Nat.le_of_ble_eq_true rfl, Nat.le_of_ble_eq_true rfl⟩ (Nat.le_of_ble_eq_true rfl) ⟨rfl, rfl, by show _ ≤ 601024; omega, by show _ ≤ 7293034; omega⟩ dL_law_1027 ?_
  rintro _ _ ⟨rfl, rfl⟩
  show jx_J X (k + 1) (n + 6) 1030 [(6, .int b2), (5, .int (r')), (0, .ref b), (1, .ref a), (2, .ref m), (3, .ref o), (4, .int (Int32.ofNat (4 * j)))] [.int t] h2
  refine j_iload C dL_law_1030 rfl ?_
  refine j_icmp_eq (tgt := 1037) C dL_law_1032 (by decide) (fun _ => ?_) (fun c => absurd e4 c)
  refine j_iload C dL_law_1037 rfl ?_
  refine j_if_ne (tgt := 1054) C dL_law_1039 (by decide) (fun _ => ?_) (fun hr0 => ?_)
  · refine j_goto (tgt := 2125) C dL_law_1054 (by decide) ?_
    refine jx_sub (lv' := [(0, .ref b), (1, .ref a), (2, .ref m), (3, .ref o), (4, .int (Int32.ofNat (4 * j)))]) [2, 3, 4, 5, 6] rfl ?_
    exact jx_widen (by omega) (by omega) (kk h2 hI2)
  · obtain ⟨z, ez, rfl⟩ := e5 hr0
    refine j_aload_n C dL_law_1042 rfl rfl ?_
    refine j_iconst (v := (0 : Int32)) C dL_law_1043 (by decide) ?_
    refine j_lald C dL_law_1044 ez ?_
    refine j_iload C dL_law_1045 rfl ?_
    refine j_i2l C dL_law_1047 ?_
    refine j_lcmp C dL_law_1048 ?_
    refine j_if_eq (tgt := 1054) C dL_law_1049 (by decide) (fun _ => ?_) (fun c => absurd (lw_cmp _) c)
    refine j_goto (tgt := 2125) C dL_law_1054 (by decide) ?_
    refine jx_sub (lv' := [(0, .ref b), (1, .ref a), (2, .ref m), (3, .ref o), (4, .int (Int32.ofNat (4 * j)))]) [2, 3, 4, 5, 6] rfl ?_
    exact jx_widen (by omega) (by omega) (kk h2 hI2)
set_option maxRecDepth 20000 in
set_option maxHeartbeats 4000000 in
theorem lc_value {X : jx_X} {b a m o L j : Nat} {xs : Nat → Int32} {Inv : jx_H → Prop} {h : jx_H} {k n : Nat} {i : Int32} (C : jx_ok X cL_law RL) (hr : jx_r X room_1) (hL : jx_nl X 9) (hX : jx_S X b L xs) (hi : i = Int32.ofNat (4 * j)) (hj : 4 * j + 4 ≤ L) (hLL : L ≤ 2048) (hk : k + 40 ≤ 601024) (hn : n + 2000 ≤ 7293034) (hs : St_value Inv a m o) (hI : Inv h)
    (kk : ∀ h2, Inv h2 → jx_J X (k + 40) (n + 2000) 2125 [(0, .ref b), (1, .ref a), (2, .ref m), (3, .ref o), (4, .int i)] [] h2) : jx_J X k n 1057 [(0, .ref b), (1, .ref a), (2, .ref m), (3, .ref o), (4, .int i)] [] h := by
  subst hi
  refine j_aload_n C dL_law_1057 rfl rfl ?_
  refine j_aload_n C dL_law_1058 rfl rfl ?_
  refine j_iload C dL_law_1059 rfl ?_
  refine j_iconst (v := (1 : Int32)) C dL_law_1061 (by decide) ?_
  refine j_iadd C dL_law_1062 ?_
  refine j_sld C hX (lw_in1 hj hLL) dL_law_1063 ?_
  refine j_aload_n C dL_law_1064 rfl rfl ?_
  refine j_iload C dL_law_1065 rfl ?_
  refine j_iconst (v := (2 : Int32)) C dL_law_1067 (by decide) ?_
  refine j_iadd C dL_law_1068 ?_
  refine j_sld C hX (lw_in2 hj hLL) dL_law_1069 ?_
  refine j_aload_n C dL_law_1070 rfl rfl ?_
  refine j_iload C dL_law_1071 rfl ?_
  refine j_iconst (v := (3 : Int32)) C dL_law_1073 (by decide) ?_
  refine j_iadd C dL_law_1074 ?_
  refine j_sld C hX (lw_in3 hj hLL) dL_law_1075 ?_
  refine j_aload_n C dL_law_1076 rfl rfl ?_
  obtain ⟨r, e1, ho, hO, hE, hs2⟩ := hs h _ _ _ hI
  refine j_callSW (As := [.ref a, .int (xs (Int32.ofNat (4 * j) + (1 : Int32)).toNatClampNeg), .int (xs (Int32.ofNat (4 * j) + (2 : Int32)).toNatClampNeg), .int (xs (Int32.ofNat (4 * j) + (3 : Int32)).toNatClampNeg), .ref o]) (na := 5) (st := []) (k1 := k + 1) (n1 := n + 6) C hr (sL_value e1 ho hO hE) kL_172 kst_L_value kini_L kcw_L_value (by decide) rfl ⟨Nat.le_of_ble_eq_true rfl, Nat.le_of_ble_eq_true rfl⟩ (Nat.le_of_ble_eq_true rfl) ⟨rfl, rfl, by show _ + 1 ≤ 601024; omega, by show _ + 6 ≤ 7293034; omega⟩ dL_law_1077 (fun r1 h1 hp => ?_)
  obtain ⟨r', rfl, b2, h2, t, o1, e2, o2, e3, e4, e5, hI2⟩ := hs2 r1 h1 hp
  show jx_J X (k + 1) (n + 6) 1080 [(0, .ref b), (1, .ref a), (2, .ref m), (3, .ref o), (4, .int (Int32.ofNat (4 * j)))] [.int (r')] h1
  refine j_istore (lv1 := [(5, .int (r')), (0, .ref b), (1, .ref a), (2, .ref m), (3, .ref o), (4, .int (Int32.ofNat (4 * j)))]) C hL dL_law_1080 (Nat.le_of_ble_eq_true rfl) rfl ?_
  refine j_aload_n C dL_law_1082 rfl rfl ?_
  refine j_aload_n C dL_law_1083 rfl rfl ?_
  refine j_iload C dL_law_1084 rfl ?_
  refine j_iconst (v := (1 : Int32)) C dL_law_1086 (by decide) ?_
  refine j_iadd C dL_law_1087 ?_
  refine j_sld C hX (lw_in1 hj hLL) dL_law_1088 ?_
  refine j_aload_n C dL_law_1089 rfl rfl ?_
  refine j_iload C dL_law_1090 rfl ?_
  refine j_iconst (v := (2 : Int32)) C dL_law_1092 (by decide) ?_
  refine j_iadd C dL_law_1093 ?_
  refine j_sld C hX (lw_in2 hj hLL) dL_law_1094 ?_
  refine j_aload_n C dL_law_1095 rfl rfl ?_
  refine j_iload C dL_law_1096 rfl ?_
  refine j_iconst (v := (3 : Int32)) C dL_law_1098 (by decide) ?_
  refine j_iadd C dL_law_1099 ?_
  refine j_sld C hX (lw_in3 hj hLL) dL_law_1100 ?_
  refine j_callV (ci := 10) (RC := RX10) (T := TX10) (N := 38) (As := [.int (xs (Int32.ofNat (4 * j) + (1 : Int32)).toNatClampNeg), .int (xs (Int32.ofNat (4 * j) + (2 : Int32)).toNatClampNeg), .int (xs (Int32.ofNat (4 * j) + (3 : Int32)).toNatClampNeg)]) (b := m) (na := 3) (st := []) (k1 := k + 1) (n1 := n + 6) C hr (sX10_value e2) rfl o1 kL_174 kim_X10_value ksel_X10_value kini_X10 kc_X10_value (by decide) rfl ⟨Nat.le_of_ble_eq_true rfl, Nat.le_of_ble_eq_true rfl⟩ (Nat.le_of_ble_eq_true rfl) ⟨rfl, rfl, by show _ ≤ 601024; omega, by show _ ≤ 7293034; omega⟩ dL_law_1101 ?_
  rintro _ _ ⟨rfl, rfl⟩
  show jx_J X (k + 1) (n + 6) 1104 [(5, .int (r')), (0, .ref b), (1, .ref a), (2, .ref m), (3, .ref o), (4, .int (Int32.ofNat (4 * j)))] [.int b2] h2
  refine j_istore (lv1 := [(6, .int b2), (5, .int (r')), (0, .ref b), (1, .ref a), (2, .ref m), (3, .ref o), (4, .int (Int32.ofNat (4 * j)))]) C hL dL_law_1104 (Nat.le_of_ble_eq_true rfl) rfl ?_
  refine j_aload_n C dL_law_1106 rfl rfl ?_
  refine j_callV (ci := 10) (RC := RX10) (T := TX10) (N := 38) (As := []) (b := m) (na := 0) (st := []) (k1 := k + 1) (n1 := n + 6) C hr (sX10_thrown e3) rfl o2 kL_114 kim_X10_thrown ksel_X10_thrown kini_X10 kc_X10_thrown (by decide) rfl ⟨Nat.le_of_ble_eq_true rfl, Nat.le_of_ble_eq_true rfl⟩ (Nat.le_of_ble_eq_true rfl) ⟨rfl, rfl, by show _ ≤ 601024; omega, by show _ ≤ 7293034; omega⟩ dL_law_1107 ?_
  rintro _ _ ⟨rfl, rfl⟩
  show jx_J X (k + 1) (n + 6) 1110 [(6, .int b2), (5, .int (r')), (0, .ref b), (1, .ref a), (2, .ref m), (3, .ref o), (4, .int (Int32.ofNat (4 * j)))] [.int t] h2
  refine j_iload C dL_law_1110 rfl ?_
  refine j_icmp_eq (tgt := 1117) C dL_law_1112 (by decide) (fun _ => ?_) (fun c => absurd e4 c)
  refine j_iload C dL_law_1117 rfl ?_
  refine j_if_ne (tgt := 1134) C dL_law_1119 (by decide) (fun _ => ?_) (fun hr0 => ?_)
  · refine j_goto (tgt := 2125) C dL_law_1134 (by decide) ?_
    refine jx_sub (lv' := [(0, .ref b), (1, .ref a), (2, .ref m), (3, .ref o), (4, .int (Int32.ofNat (4 * j)))]) [2, 3, 4, 5, 6] rfl ?_
    exact jx_widen (by omega) (by omega) (kk h2 hI2)
  · obtain ⟨z, ez, rfl⟩ := e5 hr0
    refine j_aload_n C dL_law_1122 rfl rfl ?_
    refine j_iconst (v := (0 : Int32)) C dL_law_1123 (by decide) ?_
    refine j_lald C dL_law_1124 ez ?_
    refine j_iload C dL_law_1125 rfl ?_
    refine j_i2l C dL_law_1127 ?_
    refine j_lcmp C dL_law_1128 ?_
    refine j_if_eq (tgt := 1134) C dL_law_1129 (by decide) (fun _ => ?_) (fun c => absurd (lw_cmp _) c)
    refine j_goto (tgt := 2125) C dL_law_1134 (by decide) ?_
    refine jx_sub (lv' := [(0, .ref b), (1, .ref a), (2, .ref m), (3, .ref o), (4, .int (Int32.ofNat (4 * j)))]) [2, 3, 4, 5, 6] rfl ?_
    exact jx_widen (by omega) (by omega) (kk h2 hI2)
set_option maxRecDepth 20000 in
set_option maxHeartbeats 4000000 in
theorem lc_table {X : jx_X} {b a m o L j : Nat} {xs : Nat → Int32} {Inv : jx_H → Prop} {h : jx_H} {k n : Nat} {i : Int32} (C : jx_ok X cL_law RL) (hr : jx_r X room_1) (hL : jx_nl X 9) (hX : jx_S X b L xs) (hi : i = Int32.ofNat (4 * j)) (hj : 4 * j + 4 ≤ L) (hLL : L ≤ 2048) (hk : k + 40 ≤ 601024) (hn : n + 2000 ≤ 7293034) (hs : St_table Inv a m o) (hI : Inv h)
    (kk : ∀ h2, Inv h2 → jx_J X (k + 40) (n + 2000) 2125 [(0, .ref b), (1, .ref a), (2, .ref m), (3, .ref o), (4, .int i)] [] h2) : jx_J X k n 1137 [(0, .ref b), (1, .ref a), (2, .ref m), (3, .ref o), (4, .int i)] [] h := by
  subst hi
  refine j_aload_n C dL_law_1137 rfl rfl ?_
  refine j_aload_n C dL_law_1138 rfl rfl ?_
  refine j_iload C dL_law_1139 rfl ?_
  refine j_iconst (v := (1 : Int32)) C dL_law_1141 (by decide) ?_
  refine j_iadd C dL_law_1142 ?_
  refine j_sld C hX (lw_in1 hj hLL) dL_law_1143 ?_
  refine j_aload_n C dL_law_1144 rfl rfl ?_
  refine j_iload C dL_law_1145 rfl ?_
  refine j_iconst (v := (2 : Int32)) C dL_law_1147 (by decide) ?_
  refine j_iadd C dL_law_1148 ?_
  refine j_sld C hX (lw_in2 hj hLL) dL_law_1149 ?_
  refine j_aload_n C dL_law_1150 rfl rfl ?_
  refine j_iload C dL_law_1151 rfl ?_
  refine j_iconst (v := (3 : Int32)) C dL_law_1153 (by decide) ?_
  refine j_iadd C dL_law_1154 ?_
  refine j_sld C hX (lw_in3 hj hLL) dL_law_1155 ?_
  refine j_aload_n C dL_law_1156 rfl rfl ?_
  obtain ⟨r, e1, ho, hO, hE, hs2⟩ := hs h _ _ _ hI
  refine j_callSW (As := [.ref a, .int (xs (Int32.ofNat (4 * j) + (1 : Int32)).toNatClampNeg), .int (xs (Int32.ofNat (4 * j) + (2 : Int32)).toNatClampNeg), .int (xs (Int32.ofNat (4 * j) + (3 : Int32)).toNatClampNeg), .ref o]) (na := 5) (st := []) (k1 := k + 1) (n1 := n + 6) C hr (sL_table e1 ho hO hE) kL_175 kst_L_table kini_L kcw_L_table (by decide) rfl ⟨Nat.le_of_ble_eq_true rfl, Nat.le_of_ble_eq_true rfl⟩ (Nat.le_of_ble_eq_true rfl) ⟨rfl, rfl, by show _ + 1 ≤ 601024; omega, by show _ + 6 ≤ 7293034; omega⟩ dL_law_1157 (fun r1 h1 hp => ?_)
  obtain ⟨r', rfl, b2, h2, t, o1, e2, o2, e3, e4, e5, hI2⟩ := hs2 r1 h1 hp
  show jx_J X (k + 1) (n + 6) 1160 [(0, .ref b), (1, .ref a), (2, .ref m), (3, .ref o), (4, .int (Int32.ofNat (4 * j)))] [.int (r')] h1
  refine j_istore (lv1 := [(5, .int (r')), (0, .ref b), (1, .ref a), (2, .ref m), (3, .ref o), (4, .int (Int32.ofNat (4 * j)))]) C hL dL_law_1160 (Nat.le_of_ble_eq_true rfl) rfl ?_
  refine j_aload_n C dL_law_1162 rfl rfl ?_
  refine j_aload_n C dL_law_1163 rfl rfl ?_
  refine j_iload C dL_law_1164 rfl ?_
  refine j_iconst (v := (1 : Int32)) C dL_law_1166 (by decide) ?_
  refine j_iadd C dL_law_1167 ?_
  refine j_sld C hX (lw_in1 hj hLL) dL_law_1168 ?_
  refine j_aload_n C dL_law_1169 rfl rfl ?_
  refine j_iload C dL_law_1170 rfl ?_
  refine j_iconst (v := (2 : Int32)) C dL_law_1172 (by decide) ?_
  refine j_iadd C dL_law_1173 ?_
  refine j_sld C hX (lw_in2 hj hLL) dL_law_1174 ?_
  refine j_aload_n C dL_law_1175 rfl rfl ?_
  refine j_iload C dL_law_1176 rfl ?_
  refine j_iconst (v := (3 : Int32)) C dL_law_1178 (by decide) ?_
  refine j_iadd C dL_law_1179 ?_
  refine j_sld C hX (lw_in3 hj hLL) dL_law_1180 ?_
  refine j_callV (ci := 10) (RC := RX10) (T := TX10) (N := 38) (As := [.int (xs (Int32.ofNat (4 * j) + (1 : Int32)).toNatClampNeg), .int (xs (Int32.ofNat (4 * j) + (2 : Int32)).toNatClampNeg), .int (xs (Int32.ofNat (4 * j) + (3 : Int32)).toNatClampNeg)]) (b := m) (na := 3) (st := []) (k1 := k + 1) (n1 := n + 6) C hr (sX10_table e2) rfl o1 kL_177 kim_X10_table ksel_X10_table kini_X10 kc_X10_table (by decide) rfl ⟨Nat.le_of_ble_eq_true rfl, Nat.le_of_ble_eq_true rfl⟩ (Nat.le_of_ble_eq_true rfl) ⟨rfl, rfl, by show _ ≤ 601024; omega, by show _ ≤ 7293034; omega⟩ dL_law_1181 ?_
  rintro _ _ ⟨rfl, rfl⟩
  show jx_J X (k + 1) (n + 6) 1184 [(5, .int (r')), (0, .ref b), (1, .ref a), (2, .ref m), (3, .ref o), (4, .int (Int32.ofNat (4 * j)))] [.int b2] h2
  refine j_istore (lv1 := [(6, .int b2), (5, .int (r')), (0, .ref b), (1, .ref a), (2, .ref m), (3, .ref o), (4, .int (Int32.ofNat (4 * j)))]) C hL dL_law_1184 (Nat.le_of_ble_eq_true rfl) rfl ?_
  refine j_aload_n C dL_law_1186 rfl rfl ?_
  refine j_callV (ci := 10) (RC := RX10) (T := TX10) (N := 38) (As := []) (b := m) (na := 0) (st := []) (k1 := k + 1) (n1 := n + 6) C hr (sX10_thrown e3) rfl o2 kL_114 kim_X10_thrown ksel_X10_thrown kini_X10 kc_X10_thrown (by decide) rfl ⟨Nat.le_of_ble_eq_true rfl, Nat.le_of_ble_eq_true rfl⟩ (Nat.le_of_ble_eq_true rfl) ⟨rfl, rfl, by show _ ≤ 601024; omega, by show _ ≤ 7293034; omega⟩ dL_law_1187 ?_
  rintro _ _ ⟨rfl, rfl⟩
  show jx_J X (k + 1) (n + 6) 1190 [(6, .int b2), (5, .int (r')), (0, .ref b), (1, .ref a), (2, .ref m), (3, .ref o), (4, .int (Int32.ofNat (4 * j)))] [.int t] h2
  refine j_iload C dL_law_1190 rfl ?_
  refine j_icmp_eq (tgt := 1197) C dL_law_1192 (by decide) (fun _ => ?_) (fun c => absurd e4 c)
  refine j_iload C dL_law_1197 rfl ?_
  refine j_if_ne (tgt := 1214) C dL_law_1199 (by decide) (fun _ => ?_) (fun hr0 => ?_)
  · refine j_goto (tgt := 2125) C dL_law_1214 (by decide) ?_
    refine jx_sub (lv' := [(0, .ref b), (1, .ref a), (2, .ref m), (3, .ref o), (4, .int (Int32.ofNat (4 * j)))]) [2, 3, 4, 5, 6] rfl ?_
    exact jx_widen (by omega) (by omega) (kk h2 hI2)
  · obtain ⟨z, ez, rfl⟩ := e5 hr0
    refine j_aload_n C dL_law_1202 rfl rfl ?_
    refine j_iconst (v := (0 : Int32)) C dL_law_1203 (by decide) ?_
    refine j_lald C dL_law_1204 ez ?_
    refine j_iload C dL_law_1205 rfl ?_
    refine j_i2l C dL_law_1207 ?_
    refine j_lcmp C dL_law_1208 ?_
    refine j_if_eq (tgt := 1214) C dL_law_1209 (by decide) (fun _ => ?_) (fun c => absurd (lw_cmp _) c)
    refine j_goto (tgt := 2125) C dL_law_1214 (by decide) ?_
    refine jx_sub (lv' := [(0, .ref b), (1, .ref a), (2, .ref m), (3, .ref o), (4, .int (Int32.ofNat (4 * j)))]) [2, 3, 4, 5, 6] rfl ?_
    exact jx_widen (by omega) (by omega) (kk h2 hI2)
set_option maxRecDepth 20000 in
set_option maxHeartbeats 4000000 in
theorem lc_commutes {X : jx_X} {b a m o L j : Nat} {xs : Nat → Int32} {Inv : jx_H → Prop} {h : jx_H} {k n : Nat} {i : Int32} (C : jx_ok X cL_law RL) (hr : jx_r X room_1) (hL : jx_nl X 9) (hX : jx_S X b L xs) (hi : i = Int32.ofNat (4 * j)) (hj : 4 * j + 4 ≤ L) (hLL : L ≤ 2048) (hk : k + 40 ≤ 601024) (hn : n + 2000 ≤ 7293034) (hs : St_commutes Inv a m) (hI : Inv h)
    (kk : ∀ h2, Inv h2 → jx_J X (k + 40) (n + 2000) 2125 [(0, .ref b), (1, .ref a), (2, .ref m), (3, .ref o), (4, .int i)] [] h2) : jx_J X k n 1217 [(0, .ref b), (1, .ref a), (2, .ref m), (3, .ref o), (4, .int i)] [] h := by
  subst hi
  refine j_aload_n C dL_law_1217 rfl rfl ?_
  obtain ⟨v1, h1, o1, e1, o2, b2, h2, e2, e4, hI2⟩ := hs h hI
  refine j_callV (ci := 9) (RC := RX9) (T := TX9) (N := 14) (As := []) (b := a) (na := 0) (st := []) (k1 := k) (n1 := n) C hr (sX9_commutes e1) rfl o1 kL_178 kim_X9_commutes ksel_X9_commutes kini_X9 kc_X9_commutes (by decide) rfl ⟨Nat.le_of_ble_eq_true rfl, Nat.le_of_ble_eq_true rfl⟩ (Nat.le_of_ble_eq_true rfl) ⟨rfl, rfl, by show _ ≤ 601024; omega, by show _ ≤ 7293034; omega⟩ dL_law_1218 ?_
  rintro _ _ ⟨rfl, rfl⟩
  show jx_J X k n 1221 [(0, .ref b), (1, .ref a), (2, .ref m), (3, .ref o), (4, .int (Int32.ofNat (4 * j)))] [.int v1] h1
  refine j_aload_n C dL_law_1221 rfl rfl ?_
  refine j_callV (ci := 10) (RC := RX10) (T := TX10) (N := 38) (As := []) (b := m) (na := 0) (st := [.int v1]) (k1 := k) (n1 := n) C hr (sX10_commutes e2) rfl o2 kL_182 kim_X10_commutes ksel_X10_commutes kini_X10 kc_X10_commutes (by decide) rfl ⟨Nat.le_of_ble_eq_true rfl, Nat.le_of_ble_eq_true rfl⟩ (Nat.le_of_ble_eq_true rfl) ⟨rfl, rfl, by show _ ≤ 601024; omega, by show _ ≤ 7293034; omega⟩ dL_law_1222 ?_
  rintro _ _ ⟨rfl, rfl⟩
  show jx_J X k n 1225 [(0, .ref b), (1, .ref a), (2, .ref m), (3, .ref o), (4, .int (Int32.ofNat (4 * j)))] [.int b2, .int v1] h2
  refine j_icmp_eq (tgt := 2125) C dL_law_1225 (by decide) (fun _ => ?_) (fun c => absurd e4 c)
  refine jx_sub (lv' := [(0, .ref b), (1, .ref a), (2, .ref m), (3, .ref o), (4, .int (Int32.ofNat (4 * j)))]) [0, 1, 2, 3, 4] rfl ?_
  exact jx_widen (by omega) (by omega) (kk h2 hI2)
set_option maxRecDepth 20000 in
set_option maxHeartbeats 4000000 in
theorem lc_clash {X : jx_X} {b a m o L j : Nat} {xs : Nat → Int32} {Inv : jx_H → Prop} {h : jx_H} {k n : Nat} {i : Int32} (C : jx_ok X cL_law RL) (hr : jx_r X room_1) (hL : jx_nl X 9) (hX : jx_S X b L xs) (hi : i = Int32.ofNat (4 * j)) (hj : 4 * j + 4 ≤ L) (hLL : L ≤ 2048) (hk : k + 40 ≤ 601024) (hn : n + 2000 ≤ 7293034) (hs : St_clash Inv a m o) (hI : Inv h)
    (kk : ∀ h2, Inv h2 → jx_J X (k + 40) (n + 2000) 2125 [(0, .ref b), (1, .ref a), (2, .ref m), (3, .ref o), (4, .int i)] [] h2) : jx_J X k n 1230 [(0, .ref b), (1, .ref a), (2, .ref m), (3, .ref o), (4, .int i)] [] h := by
  subst hi
  refine j_aload_n C dL_law_1230 rfl rfl ?_
  refine j_aload_n C dL_law_1231 rfl rfl ?_
  refine j_iload C dL_law_1232 rfl ?_
  refine j_iconst (v := (1 : Int32)) C dL_law_1234 (by decide) ?_
  refine j_iadd C dL_law_1235 ?_
  refine j_sld C hX (lw_in1 hj hLL) dL_law_1236 ?_
  refine j_aload_n C dL_law_1237 rfl rfl ?_
  obtain ⟨r, e1, ho, hO, hE, hs2⟩ := hs h _ hI
  refine j_callSW (As := [.ref a, .int (xs (Int32.ofNat (4 * j) + (1 : Int32)).toNatClampNeg), .ref o]) (na := 3) (st := []) (k1 := k + 1) (n1 := n + 6) C hr (sL_clash e1 ho hO hE) kL_183 kst_L_clash kini_L kcw_L_clash (by decide) rfl ⟨Nat.le_of_ble_eq_true rfl, Nat.le_of_ble_eq_true rfl⟩ (Nat.le_of_ble_eq_true rfl) ⟨rfl, rfl, by show _ + 1 ≤ 601024; omega, by show _ + 6 ≤ 7293034; omega⟩ dL_law_1238 (fun r1 h1 hp => ?_)
  obtain ⟨r', rfl, b2, h2, t, o1, e2, o2, e3, e4, e5, hI2⟩ := hs2 r1 h1 hp
  show jx_J X (k + 1) (n + 6) 1241 [(0, .ref b), (1, .ref a), (2, .ref m), (3, .ref o), (4, .int (Int32.ofNat (4 * j)))] [.int (r')] h1
  refine j_istore (lv1 := [(5, .int (r')), (0, .ref b), (1, .ref a), (2, .ref m), (3, .ref o), (4, .int (Int32.ofNat (4 * j)))]) C hL dL_law_1241 (Nat.le_of_ble_eq_true rfl) rfl ?_
  refine j_aload_n C dL_law_1243 rfl rfl ?_
  refine j_aload_n C dL_law_1244 rfl rfl ?_
  refine j_iload C dL_law_1245 rfl ?_
  refine j_iconst (v := (1 : Int32)) C dL_law_1247 (by decide) ?_
  refine j_iadd C dL_law_1248 ?_
  refine j_sld C hX (lw_in1 hj hLL) dL_law_1249 ?_
  refine j_callV (ci := 10) (RC := RX10) (T := TX10) (N := 38) (As := [.int (xs (Int32.ofNat (4 * j) + (1 : Int32)).toNatClampNeg)]) (b := m) (na := 1) (st := []) (k1 := k + 1) (n1 := n + 6) C hr (sX10_clash e2) rfl o1 kL_185 kim_X10_clash ksel_X10_clash kini_X10 kc_X10_clash (by decide) rfl ⟨Nat.le_of_ble_eq_true rfl, Nat.le_of_ble_eq_true rfl⟩ (Nat.le_of_ble_eq_true rfl) ⟨rfl, rfl, by show _ ≤ 601024; omega, by show _ ≤ 7293034; omega⟩ dL_law_1250 ?_
  rintro _ _ ⟨rfl, rfl⟩
  show jx_J X (k + 1) (n + 6) 1253 [(5, .int (r')), (0, .ref b), (1, .ref a), (2, .ref m), (3, .ref o), (4, .int (Int32.ofNat (4 * j)))] [.int b2] h2
  refine j_istore (lv1 := [(6, .int b2), (5, .int (r')), (0, .ref b), (1, .ref a), (2, .ref m), (3, .ref o), (4, .int (Int32.ofNat (4 * j)))]) C hL dL_law_1253 (Nat.le_of_ble_eq_true rfl) rfl ?_
  refine j_aload_n C dL_law_1255 rfl rfl ?_
  refine j_callV (ci := 10) (RC := RX10) (T := TX10) (N := 38) (As := []) (b := m) (na := 0) (st := []) (k1 := k + 1) (n1 := n + 6) C hr (sX10_thrown e3) rfl o2 kL_114 kim_X10_thrown ksel_X10_thrown kini_X10 kc_X10_thrown (by decide) rfl ⟨Nat.le_of_ble_eq_true rfl, Nat.le_of_ble_eq_true rfl⟩ (Nat.le_of_ble_eq_true rfl) ⟨rfl, rfl, by show _ ≤ 601024; omega, by show _ ≤ 7293034; omega⟩ dL_law_1256 ?_
  rintro _ _ ⟨rfl, rfl⟩
  show jx_J X (k + 1) (n + 6) 1259 [(6, .int b2), (5, .int (r')), (0, .ref b), (1, .ref a), (2, .ref m), (3, .ref o), (4, .int (Int32.ofNat (4 * j)))] [.int t] h2
  refine j_iload C dL_law_1259 rfl ?_
  refine j_icmp_eq (tgt := 1266) C dL_law_1261 (by decide) (fun _ => ?_) (fun c => absurd e4 c)
  refine j_iload C dL_law_1266 rfl ?_
  refine j_if_ne (tgt := 1283) C dL_law_1268 (by decide) (fun _ => ?_) (fun hr0 => ?_)
  · refine j_goto (tgt := 2125) C dL_law_1283 (by decide) ?_
    refine jx_sub (lv' := [(0, .ref b), (1, .ref a), (2, .ref m), (3, .ref o), (4, .int (Int32.ofNat (4 * j)))]) [2, 3, 4, 5, 6] rfl ?_
    exact jx_widen (by omega) (by omega) (kk h2 hI2)
  · obtain ⟨z, ez, rfl⟩ := e5 hr0
    refine j_aload_n C dL_law_1271 rfl rfl ?_
    refine j_iconst (v := (0 : Int32)) C dL_law_1272 (by decide) ?_
    refine j_lald C dL_law_1273 ez ?_
    refine j_iload C dL_law_1274 rfl ?_
    refine j_i2l C dL_law_1276 ?_
    refine j_lcmp C dL_law_1277 ?_
    refine j_if_eq (tgt := 1283) C dL_law_1278 (by decide) (fun _ => ?_) (fun c => absurd (lw_cmp _) c)
    refine j_goto (tgt := 2125) C dL_law_1283 (by decide) ?_
    refine jx_sub (lv' := [(0, .ref b), (1, .ref a), (2, .ref m), (3, .ref o), (4, .int (Int32.ofNat (4 * j)))]) [2, 3, 4, 5, 6] rfl ?_
    exact jx_widen (by omega) (by omega) (kk h2 hI2)
set_option maxRecDepth 20000 in
set_option maxHeartbeats 4000000 in
theorem lc_trace {X : jx_X} {b a m o L j : Nat} {xs : Nat → Int32} {Inv : jx_H → Prop} {h : jx_H} {k n : Nat} {i : Int32} (C : jx_ok X cL_law RL) (hr : jx_r X room_1) (hL : jx_nl X 9) (hX : jx_S X b L xs) (hi : i = Int32.ofNat (4 * j)) (hj : 4 * j + 4 ≤ L) (hLL : L ≤ 2048) (hk : k + 40 ≤ 601024) (hn : n + 2000 ≤ 7293034) (hs : St_trace Inv a m o) (hI : Inv h)
    (kk : ∀ h2, Inv h2 → jx_J X (k + 40) (n + 2000) 2125 [(0, .ref b), (1, .ref a), (2, .ref m), (3, .ref o), (4, .int i)] [] h2) : jx_J X k n 1286 [(0, .ref b), (1, .ref a), (2, .ref m), (3, .ref o), (4, .int i)] [] h := by
  subst hi
  refine j_aload_n C dL_law_1286 rfl rfl ?_
  refine j_aload_n C dL_law_1287 rfl rfl ?_
  refine j_iload C dL_law_1288 rfl ?_
  refine j_iconst (v := (1 : Int32)) C dL_law_1290 (by decide) ?_
  refine j_iadd C dL_law_1291 ?_
  refine j_sld C hX (lw_in1 hj hLL) dL_law_1292 ?_
  refine j_aload_n C dL_law_1293 rfl rfl ?_
  refine j_iload C dL_law_1294 rfl ?_
  refine j_iconst (v := (2 : Int32)) C dL_law_1296 (by decide) ?_
  refine j_iadd C dL_law_1297 ?_
  refine j_sld C hX (lw_in2 hj hLL) dL_law_1298 ?_
  refine j_aload_n C dL_law_1299 rfl rfl ?_
  obtain ⟨r, e1, ho, hO, hE, hs2⟩ := hs h _ _ hI
  refine j_callSW (As := [.ref a, .int (xs (Int32.ofNat (4 * j) + (1 : Int32)).toNatClampNeg), .int (xs (Int32.ofNat (4 * j) + (2 : Int32)).toNatClampNeg), .ref o]) (na := 4) (st := []) (k1 := k + 1) (n1 := n + 6) C hr (sL_trace e1 ho hO hE) kL_186 kst_L_trace kini_L kcw_L_trace (by decide) rfl ⟨Nat.le_of_ble_eq_true rfl, Nat.le_of_ble_eq_true rfl⟩ (Nat.le_of_ble_eq_true rfl) ⟨rfl, rfl, by show _ + 1 ≤ 601024; omega, by show _ + 6 ≤ 7293034; omega⟩ dL_law_1300 (fun r1 h1 hp => ?_)
  obtain ⟨r', rfl, b2, h2, t, o1, e2, o2, e3, e4, e5, hI2⟩ := hs2 r1 h1 hp
  show jx_J X (k + 1) (n + 6) 1303 [(0, .ref b), (1, .ref a), (2, .ref m), (3, .ref o), (4, .int (Int32.ofNat (4 * j)))] [.int (r')] h1
  refine j_istore (lv1 := [(5, .int (r')), (0, .ref b), (1, .ref a), (2, .ref m), (3, .ref o), (4, .int (Int32.ofNat (4 * j)))]) C hL dL_law_1303 (Nat.le_of_ble_eq_true rfl) rfl ?_
  refine j_aload_n C dL_law_1305 rfl rfl ?_
  refine j_aload_n C dL_law_1306 rfl rfl ?_
  refine j_iload C dL_law_1307 rfl ?_
  refine j_iconst (v := (1 : Int32)) C dL_law_1309 (by decide) ?_
  refine j_iadd C dL_law_1310 ?_
  refine j_sld C hX (lw_in1 hj hLL) dL_law_1311 ?_
  refine j_aload_n C dL_law_1312 rfl rfl ?_
  refine j_iload C dL_law_1313 rfl ?_
  refine j_iconst (v := (2 : Int32)) C dL_law_1315 (by decide) ?_
  refine j_iadd C dL_law_1316 ?_
  refine j_sld C hX (lw_in2 hj hLL) dL_law_1317 ?_
  refine j_callV (ci := 10) (RC := RX10) (T := TX10) (N := 38) (As := [.int (xs (Int32.ofNat (4 * j) + (1 : Int32)).toNatClampNeg), .int (xs (Int32.ofNat (4 * j) + (2 : Int32)).toNatClampNeg)]) (b := m) (na := 2) (st := []) (k1 := k + 1) (n1 := n + 6) C hr (sX10_trace e2) rfl o1 kL_188 kim_X10_trace ksel_X10_trace kini_X10 kc_X10_trace (by decide) rfl ⟨Nat.le_of_ble_eq_true rfl, Nat.le_of_ble_eq_true rfl⟩ (Nat.le_of_ble_eq_true rfl) ⟨rfl, rfl, by show _ ≤ 601024; omega, by show _ ≤ 7293034; omega⟩ dL_law_1318 ?_
  rintro _ _ ⟨rfl, rfl⟩
  show jx_J X (k + 1) (n + 6) 1321 [(5, .int (r')), (0, .ref b), (1, .ref a), (2, .ref m), (3, .ref o), (4, .int (Int32.ofNat (4 * j)))] [.int b2] h2
  refine j_istore (lv1 := [(6, .int b2), (5, .int (r')), (0, .ref b), (1, .ref a), (2, .ref m), (3, .ref o), (4, .int (Int32.ofNat (4 * j)))]) C hL dL_law_1321 (Nat.le_of_ble_eq_true rfl) rfl ?_
  refine j_aload_n C dL_law_1323 rfl rfl ?_
  refine j_callV (ci := 10) (RC := RX10) (T := TX10) (N := 38) (As := []) (b := m) (na := 0) (st := []) (k1 := k + 1) (n1 := n + 6) C hr (sX10_thrown e3) rfl o2 kL_114 kim_X10_thrown ksel_X10_thrown kini_X10 kc_X10_thrown (by decide) rfl ⟨Nat.le_of_ble_eq_true rfl, Nat.le_of_ble_eq_true rfl⟩ (Nat.le_of_ble_eq_true rfl) ⟨rfl, rfl, by show _ ≤ 601024; omega, by show _ ≤ 7293034; omega⟩ dL_law_1324 ?_
  rintro _ _ ⟨rfl, rfl⟩
  show jx_J X (k + 1) (n + 6) 1327 [(6, .int b2), (5, .int (r')), (0, .ref b), (1, .ref a), (2, .ref m), (3, .ref o), (4, .int (Int32.ofNat (4 * j)))] [.int t] h2
  refine j_iload C dL_law_1327 rfl ?_
  refine j_icmp_eq (tgt := 1334) C dL_law_1329 (by decide) (fun _ => ?_) (fun c => absurd e4 c)
  refine j_iload C dL_law_1334 rfl ?_
  refine j_if_ne (tgt := 1351) C dL_law_1336 (by decide) (fun _ => ?_) (fun hr0 => ?_)
  · refine j_goto (tgt := 2125) C dL_law_1351 (by decide) ?_
    refine jx_sub (lv' := [(0, .ref b), (1, .ref a), (2, .ref m), (3, .ref o), (4, .int (Int32.ofNat (4 * j)))]) [2, 3, 4, 5, 6] rfl ?_
    exact jx_widen (by omega) (by omega) (kk h2 hI2)
  · obtain ⟨z, ez, rfl⟩ := e5 hr0
    refine j_aload_n C dL_law_1339 rfl rfl ?_
    refine j_iconst (v := (0 : Int32)) C dL_law_1340 (by decide) ?_
    refine j_lald C dL_law_1341 ez ?_
    refine j_iload C dL_law_1342 rfl ?_
    refine j_i2l C dL_law_1344 ?_
    refine j_lcmp C dL_law_1345 ?_
    refine j_if_eq (tgt := 1351) C dL_law_1346 (by decide) (fun _ => ?_) (fun c => absurd (lw_cmp _) c)
    refine j_goto (tgt := 2125) C dL_law_1351 (by decide) ?_
    refine jx_sub (lv' := [(0, .ref b), (1, .ref a), (2, .ref m), (3, .ref o), (4, .int (Int32.ofNat (4 * j)))]) [2, 3, 4, 5, 6] rfl ?_
    exact jx_widen (by omega) (by omega) (kk h2 hI2)
set_option maxRecDepth 20000 in
set_option maxHeartbeats 4000000 in
theorem lc_normal {X : jx_X} {b a m o L j : Nat} {xs : Nat → Int32} {Inv : jx_H → Prop} {h : jx_H} {k n : Nat} {i : Int32} (C : jx_ok X cL_law RL) (hr : jx_r X room_1) (hL : jx_nl X 9) (hX : jx_S X b L xs) (hi : i = Int32.ofNat (4 * j)) (hj : 4 * j + 4 ≤ L) (hLL : L ≤ 2048) (hk : k + 40 ≤ 601024) (hn : n + 2000 ≤ 7293034) (hs : St_normal Inv a m o) (hI : Inv h)
    (kk : ∀ h2, Inv h2 → jx_J X (k + 40) (n + 2000) 2125 [(0, .ref b), (1, .ref a), (2, .ref m), (3, .ref o), (4, .int i)] [] h2) : jx_J X k n 1354 [(0, .ref b), (1, .ref a), (2, .ref m), (3, .ref o), (4, .int i)] [] h := by
  subst hi
  refine j_aload_n C dL_law_1354 rfl rfl ?_
  refine j_aload_n C dL_law_1355 rfl rfl ?_
  refine j_iload C dL_law_1356 rfl ?_
  refine j_iconst (v := (1 : Int32)) C dL_law_1358 (by decide) ?_
  refine j_iadd C dL_law_1359 ?_
  refine j_sld C hX (lw_in1 hj hLL) dL_law_1360 ?_
  refine j_aload_n C dL_law_1361 rfl rfl ?_
  refine j_iload C dL_law_1362 rfl ?_
  refine j_iconst (v := (2 : Int32)) C dL_law_1364 (by decide) ?_
  refine j_iadd C dL_law_1365 ?_
  refine j_sld C hX (lw_in2 hj hLL) dL_law_1366 ?_
  refine j_aload_n C dL_law_1367 rfl rfl ?_
  refine j_iload C dL_law_1368 rfl ?_
  refine j_iconst (v := (3 : Int32)) C dL_law_1370 (by decide) ?_
  refine j_iadd C dL_law_1371 ?_
  refine j_sld C hX (lw_in3 hj hLL) dL_law_1372 ?_
  refine j_aload_n C dL_law_1373 rfl rfl ?_
  obtain ⟨r, e1, ho, hO, hE, hs2⟩ := hs h _ _ _ hI
  refine j_callSW (As := [.ref a, .int (xs (Int32.ofNat (4 * j) + (1 : Int32)).toNatClampNeg), .int (xs (Int32.ofNat (4 * j) + (2 : Int32)).toNatClampNeg), .int (xs (Int32.ofNat (4 * j) + (3 : Int32)).toNatClampNeg), .ref o]) (na := 5) (st := []) (k1 := k + 1) (n1 := n + 6) C hr (sL_normal e1 ho hO hE) kL_189 kst_L_normal kini_L kcw_L_normal (by decide) rfl ⟨Nat.le_of_ble_eq_true rfl, Nat.le_of_ble_eq_true rfl⟩ (Nat.le_of_ble_eq_true rfl) ⟨rfl, rfl, by show _ + 1 ≤ 601024; omega, by show _ + 6 ≤ 7293034; omega⟩ dL_law_1374 (fun r1 h1 hp => ?_)
  obtain ⟨r', rfl, b2, h2, t, o1, e2, o2, e3, e4, e5, hI2⟩ := hs2 r1 h1 hp
  show jx_J X (k + 1) (n + 6) 1377 [(0, .ref b), (1, .ref a), (2, .ref m), (3, .ref o), (4, .int (Int32.ofNat (4 * j)))] [.int (r')] h1
  refine j_istore (lv1 := [(5, .int (r')), (0, .ref b), (1, .ref a), (2, .ref m), (3, .ref o), (4, .int (Int32.ofNat (4 * j)))]) C hL dL_law_1377 (Nat.le_of_ble_eq_true rfl) rfl ?_
  refine j_aload_n C dL_law_1379 rfl rfl ?_
  refine j_aload_n C dL_law_1380 rfl rfl ?_
  refine j_iload C dL_law_1381 rfl ?_
  refine j_iconst (v := (1 : Int32)) C dL_law_1383 (by decide) ?_
  refine j_iadd C dL_law_1384 ?_
  refine j_sld C hX (lw_in1 hj hLL) dL_law_1385 ?_
  refine j_aload_n C dL_law_1386 rfl rfl ?_
  refine j_iload C dL_law_1387 rfl ?_
  refine j_iconst (v := (2 : Int32)) C dL_law_1389 (by decide) ?_
  refine j_iadd C dL_law_1390 ?_
  refine j_sld C hX (lw_in2 hj hLL) dL_law_1391 ?_
  refine j_aload_n C dL_law_1392 rfl rfl ?_
  refine j_iload C dL_law_1393 rfl ?_
  refine j_iconst (v := (3 : Int32)) C dL_law_1395 (by decide) ?_
  refine j_iadd C dL_law_1396 ?_
  refine j_sld C hX (lw_in3 hj hLL) dL_law_1397 ?_
  refine j_callV (ci := 10) (RC := RX10) (T := TX10) (N := 38) (As := [.int (xs (Int32.ofNat (4 * j) + (1 : Int32)).toNatClampNeg), .int (xs (Int32.ofNat (4 * j) + (2 : Int32)).toNatClampNeg), .int (xs (Int32.ofNat (4 * j) + (3 : Int32)).toNatClampNeg)]) (b := m) (na := 3) (st := []) (k1 := k + 1) (n1 := n + 6) C hr (sX10_normal e2) rfl o1 kL_191 kim_X10_normal ksel_X10_normal kini_X10 kc_X10_normal (by decide) rfl ⟨Nat.le_of_ble_eq_true rfl, Nat.le_of_ble_eq_true rfl⟩ (Nat.le_of_ble_eq_true rfl) ⟨rfl, rfl, by show _ ≤ 601024; omega, by show _ ≤ 7293034; omega⟩ dL_law_1398 ?_
  rintro _ _ ⟨rfl, rfl⟩
  show jx_J X (k + 1) (n + 6) 1401 [(5, .int (r')), (0, .ref b), (1, .ref a), (2, .ref m), (3, .ref o), (4, .int (Int32.ofNat (4 * j)))] [.int b2] h2
  refine j_istore (lv1 := [(6, .int b2), (5, .int (r')), (0, .ref b), (1, .ref a), (2, .ref m), (3, .ref o), (4, .int (Int32.ofNat (4 * j)))]) C hL dL_law_1401 (Nat.le_of_ble_eq_true rfl) rfl ?_
  refine j_aload_n C dL_law_1403 rfl rfl ?_
  refine j_callV (ci := 10) (RC := RX10) (T := TX10) (N := 38) (As := []) (b := m) (na := 0) (st := []) (k1 := k + 1) (n1 := n + 6) C hr (sX10_thrown e3) rfl o2 kL_114 kim_X10_thrown ksel_X10_thrown kini_X10 kc_X10_thrown (by decide) rfl ⟨Nat.le_of_ble_eq_true rfl, Nat.le_of_ble_eq_true rfl⟩ (Nat.le_of_ble_eq_true rfl) ⟨rfl, rfl, by show _ ≤ 601024; omega, by show _ ≤ 7293034; omega⟩ dL_law_1404 ?_
  rintro _ _ ⟨rfl, rfl⟩
  show jx_J X (k + 1) (n + 6) 1407 [(6, .int b2), (5, .int (r')), (0, .ref b), (1, .ref a), (2, .ref m), (3, .ref o), (4, .int (Int32.ofNat (4 * j)))] [.int t] h2
  refine j_iload C dL_law_1407 rfl ?_
  refine j_icmp_eq (tgt := 1414) C dL_law_1409 (by decide) (fun _ => ?_) (fun c => absurd e4 c)
  refine j_iload C dL_law_1414 rfl ?_
  refine j_if_ne (tgt := 1431) C dL_law_1416 (by decide) (fun _ => ?_) (fun hr0 => ?_)
  · refine j_goto (tgt := 2125) C dL_law_1431 (by decide) ?_
    refine jx_sub (lv' := [(0, .ref b), (1, .ref a), (2, .ref m), (3, .ref o), (4, .int (Int32.ofNat (4 * j)))]) [2, 3, 4, 5, 6] rfl ?_
    exact jx_widen (by omega) (by omega) (kk h2 hI2)
  · obtain ⟨z, ez, rfl⟩ := e5 hr0
    refine j_aload_n C dL_law_1419 rfl rfl ?_
    refine j_iconst (v := (0 : Int32)) C dL_law_1420 (by decide) ?_
    refine j_lald C dL_law_1421 ez ?_
    refine j_iload C dL_law_1422 rfl ?_
    refine j_i2l C dL_law_1424 ?_
    refine j_lcmp C dL_law_1425 ?_
    refine j_if_eq (tgt := 1431) C dL_law_1426 (by decide) (fun _ => ?_) (fun c => absurd (lw_cmp _) c)
    refine j_goto (tgt := 2125) C dL_law_1431 (by decide) ?_
    refine jx_sub (lv' := [(0, .ref b), (1, .ref a), (2, .ref m), (3, .ref o), (4, .int (Int32.ofNat (4 * j)))]) [2, 3, 4, 5, 6] rfl ?_
    exact jx_widen (by omega) (by omega) (kk h2 hI2)
set_option maxRecDepth 20000 in
set_option maxHeartbeats 4000000 in
theorem lc_determinant {X : jx_X} {b a m o L j : Nat} {xs : Nat → Int32} {Inv : jx_H → Prop} {h : jx_H} {k n : Nat} {i : Int32} (C : jx_ok X cL_law RL) (hr : jx_r X room_1) (hL : jx_nl X 9) (hX : jx_S X b L xs) (hi : i = Int32.ofNat (4 * j)) (hj : 4 * j + 4 ≤ L) (hLL : L ≤ 2048) (hk : k + 40 ≤ 601024) (hn : n + 2000 ≤ 7293034) (hs : St_determinant Inv a m o) (hI : Inv h)
    (kk : ∀ h2, Inv h2 → jx_J X (k + 40) (n + 2000) 2125 [(0, .ref b), (1, .ref a), (2, .ref m), (3, .ref o), (4, .int i)] [] h2) : jx_J X k n 1434 [(0, .ref b), (1, .ref a), (2, .ref m), (3, .ref o), (4, .int i)] [] h := by
  subst hi
  refine j_aload_n C dL_law_1434 rfl rfl ?_
  refine j_aload_n C dL_law_1435 rfl rfl ?_
  refine j_iload C dL_law_1436 rfl ?_
  refine j_iconst (v := (1 : Int32)) C dL_law_1438 (by decide) ?_
  refine j_iadd C dL_law_1439 ?_
  refine j_sld C hX (lw_in1 hj hLL) dL_law_1440 ?_
  refine j_aload_n C dL_law_1441 rfl rfl ?_
  obtain ⟨r, e1, ho, hO, hE, hs2⟩ := hs h _ hI
  refine j_callSW (As := [.ref a, .int (xs (Int32.ofNat (4 * j) + (1 : Int32)).toNatClampNeg), .ref o]) (na := 3) (st := []) (k1 := k + 1) (n1 := n + 6) C hr (sL_determinant e1 ho hO hE) kL_192 kst_L_determinant kini_L kcw_L_determinant (by decide) rfl ⟨Nat.le_of_ble_eq_true rfl, Nat.le_of_ble_eq_true rfl⟩ (Nat.le_of_ble_eq_true rfl) ⟨rfl, rfl, by show _ + 1 ≤ 601024; omega, by show _ + 6 ≤ 7293034; omega⟩ dL_law_1442 (fun r1 h1 hp => ?_)
  obtain ⟨r', rfl, b2, h2, t, o1, e2, o2, e3, e4, e5, hI2⟩ := hs2 r1 h1 hp
  show jx_J X (k + 1) (n + 6) 1445 [(0, .ref b), (1, .ref a), (2, .ref m), (3, .ref o), (4, .int (Int32.ofNat (4 * j)))] [.int (r')] h1
  refine j_istore (lv1 := [(5, .int (r')), (0, .ref b), (1, .ref a), (2, .ref m), (3, .ref o), (4, .int (Int32.ofNat (4 * j)))]) C hL dL_law_1445 (Nat.le_of_ble_eq_true rfl) rfl ?_
  refine j_aload_n C dL_law_1447 rfl rfl ?_
  refine j_aload_n C dL_law_1448 rfl rfl ?_
  refine j_iload C dL_law_1449 rfl ?_
  refine j_iconst (v := (1 : Int32)) C dL_law_1451 (by decide) ?_
  refine j_iadd C dL_law_1452 ?_
  refine j_sld C hX (lw_in1 hj hLL) dL_law_1453 ?_
  refine j_callV (ci := 10) (RC := RX10) (T := TX10) (N := 38) (As := [.int (xs (Int32.ofNat (4 * j) + (1 : Int32)).toNatClampNeg)]) (b := m) (na := 1) (st := []) (k1 := k + 1) (n1 := n + 6) C hr (sX10_determinant e2) rfl o1 kL_194 kim_X10_determinant ksel_X10_determinant kini_X10 kc_X10_determinant (by decide) rfl ⟨Nat.le_of_ble_eq_true rfl, Nat.le_of_ble_eq_true rfl⟩ (Nat.le_of_ble_eq_true rfl) ⟨rfl, rfl, by show _ ≤ 601024; omega, by show _ ≤ 7293034; omega⟩ dL_law_1454 ?_
  rintro _ _ ⟨rfl, rfl⟩
  show jx_J X (k + 1) (n + 6) 1457 [(5, .int (r')), (0, .ref b), (1, .ref a), (2, .ref m), (3, .ref o), (4, .int (Int32.ofNat (4 * j)))] [.int b2] h2
  refine j_istore (lv1 := [(6, .int b2), (5, .int (r')), (0, .ref b), (1, .ref a), (2, .ref m), (3, .ref o), (4, .int (Int32.ofNat (4 * j)))]) C hL dL_law_1457 (Nat.le_of_ble_eq_true rfl) rfl ?_
  refine j_aload_n C dL_law_1459 rfl rfl ?_
  refine j_callV (ci := 10) (RC := RX10) (T := TX10) (N := 38) (As := []) (b := m) (na := 0) (st := []) (k1 := k + 1) (n1 := n + 6) C hr (sX10_thrown e3) rfl o2 kL_114 kim_X10_thrown ksel_X10_thrown kini_X10 kc_X10_thrown (by decide) rfl ⟨Nat.le_of_ble_eq_true rfl, Nat.le_of_ble_eq_true rfl⟩ (Nat.le_of_ble_eq_true rfl) ⟨rfl, rfl, by show _ ≤ 601024; omega, by show _ ≤ 7293034; omega⟩ dL_law_1460 ?_
  rintro _ _ ⟨rfl, rfl⟩
  show jx_J X (k + 1) (n + 6) 1463 [(6, .int b2), (5, .int (r')), (0, .ref b), (1, .ref a), (2, .ref m), (3, .ref o), (4, .int (Int32.ofNat (4 * j)))] [.int t] h2
  refine j_iload C dL_law_1463 rfl ?_
  refine j_icmp_eq (tgt := 1470) C dL_law_1465 (by decide) (fun _ => ?_) (fun c => absurd e4 c)
  refine j_iload C dL_law_1470 rfl ?_
  refine j_if_ne (tgt := 1487) C dL_law_1472 (by decide) (fun _ => ?_) (fun hr0 => ?_)
  · refine j_goto (tgt := 2125) C dL_law_1487 (by decide) ?_
    refine jx_sub (lv' := [(0, .ref b), (1, .ref a), (2, .ref m), (3, .ref o), (4, .int (Int32.ofNat (4 * j)))]) [2, 3, 4, 5, 6] rfl ?_
    exact jx_widen (by omega) (by omega) (kk h2 hI2)
  · obtain ⟨z, ez, rfl⟩ := e5 hr0
    refine j_aload_n C dL_law_1475 rfl rfl ?_
    refine j_iconst (v := (0 : Int32)) C dL_law_1476 (by decide) ?_
    refine j_lald C dL_law_1477 ez ?_
    refine j_iload C dL_law_1478 rfl ?_
    refine j_i2l C dL_law_1480 ?_
    refine j_lcmp C dL_law_1481 ?_
    refine j_if_eq (tgt := 1487) C dL_law_1482 (by decide) (fun _ => ?_) (fun c => absurd (lw_cmp _) c)
    refine j_goto (tgt := 2125) C dL_law_1487 (by decide) ?_
    refine jx_sub (lv' := [(0, .ref b), (1, .ref a), (2, .ref m), (3, .ref o), (4, .int (Int32.ofNat (4 * j)))]) [2, 3, 4, 5, 6] rfl ?_
    exact jx_widen (by omega) (by omega) (kk h2 hI2)
set_option maxRecDepth 20000 in
set_option maxHeartbeats 4000000 in
theorem lc_kernel {X : jx_X} {b a m o L j : Nat} {xs : Nat → Int32} {Inv : jx_H → Prop} {h : jx_H} {k n : Nat} {i : Int32} (C : jx_ok X cL_law RL) (hr : jx_r X room_1) (hL : jx_nl X 9) (hX : jx_S X b L xs) (hi : i = Int32.ofNat (4 * j)) (hj : 4 * j + 4 ≤ L) (hLL : L ≤ 2048) (hk : k + 40 ≤ 601024) (hn : n + 2000 ≤ 7293034) (hs : St_kernel Inv a m o) (hI : Inv h)
    (kk : ∀ h2, Inv h2 → jx_J X (k + 40) (n + 2000) 2125 [(0, .ref b), (1, .ref a), (2, .ref m), (3, .ref o), (4, .int i)] [] h2) : jx_J X k n 1490 [(0, .ref b), (1, .ref a), (2, .ref m), (3, .ref o), (4, .int i)] [] h := by
  subst hi
  refine j_aload_n C dL_law_1490 rfl rfl ?_
  refine j_aload_n C dL_law_1491 rfl rfl ?_
  refine j_iload C dL_law_1492 rfl ?_
  refine j_iconst (v := (1 : Int32)) C dL_law_1494 (by decide) ?_
  refine j_iadd C dL_law_1495 ?_
  refine j_sld C hX (lw_in1 hj hLL) dL_law_1496 ?_
  refine j_aload_n C dL_law_1497 rfl rfl ?_
  refine j_iload C dL_law_1498 rfl ?_
  refine j_iconst (v := (2 : Int32)) C dL_law_1500 (by decide) ?_
  refine j_iadd C dL_law_1501 ?_
  refine j_sld C hX (lw_in2 hj hLL) dL_law_1502 ?_
  refine j_aload_n C dL_law_1503 rfl rfl ?_
  obtain ⟨r, e1, ho, hO, hE, hs2⟩ := hs h _ _ hI
  refine j_callSW (As := [.ref a, .int (xs (Int32.ofNat (4 * j) + (1 : Int32)).toNatClampNeg), .int (xs (Int32.ofNat (4 * j) + (2 : Int32)).toNatClampNeg), .ref o]) (na := 4) (st := []) (k1 := k + 1) (n1 := n + 6) C hr (sL_kernel e1 ho hO hE) kL_195 kst_L_kernel kini_L kcw_L_kernel (by decide) rfl ⟨Nat.le_of_ble_eq_true rfl, Nat.le_of_ble_eq_true rfl⟩ (Nat.le_of_ble_eq_true rfl) ⟨rfl, rfl, by show _ + 1 ≤ 601024; omega, by show _ + 6 ≤ 7293034; omega⟩ dL_law_1504 (fun r1 h1 hp => ?_)
  obtain ⟨r', rfl, b2, h2, t, o1, e2, o2, e3, e4, e5, hI2⟩ := hs2 r1 h1 hp
  show jx_J X (k + 1) (n + 6) 1507 [(0, .ref b), (1, .ref a), (2, .ref m), (3, .ref o), (4, .int (Int32.ofNat (4 * j)))] [.int (r')] h1
  refine j_istore (lv1 := [(5, .int (r')), (0, .ref b), (1, .ref a), (2, .ref m), (3, .ref o), (4, .int (Int32.ofNat (4 * j)))]) C hL dL_law_1507 (Nat.le_of_ble_eq_true rfl) rfl ?_
  refine j_aload_n C dL_law_1509 rfl rfl ?_
  refine j_aload_n C dL_law_1510 rfl rfl ?_
  refine j_iload C dL_law_1511 rfl ?_
  refine j_iconst (v := (1 : Int32)) C dL_law_1513 (by decide) ?_
  refine j_iadd C dL_law_1514 ?_
  refine j_sld C hX (lw_in1 hj hLL) dL_law_1515 ?_
  refine j_aload_n C dL_law_1516 rfl rfl ?_
  refine j_iload C dL_law_1517 rfl ?_
  refine j_iconst (v := (2 : Int32)) C dL_law_1519 (by decide) ?_
  refine j_iadd C dL_law_1520 ?_
  refine j_sld C hX (lw_in2 hj hLL) dL_law_1521 ?_
  refine j_callV (ci := 10) (RC := RX10) (T := TX10) (N := 38) (As := [.int (xs (Int32.ofNat (4 * j) + (1 : Int32)).toNatClampNeg), .int (xs (Int32.ofNat (4 * j) + (2 : Int32)).toNatClampNeg)]) (b := m) (na := 2) (st := []) (k1 := k + 1) (n1 := n + 6) C hr (sX10_kernel e2) rfl o1 kL_197 kim_X10_kernel ksel_X10_kernel kini_X10 kc_X10_kernel (by decide) rfl ⟨Nat.le_of_ble_eq_true rfl, Nat.le_of_ble_eq_true rfl⟩ (Nat.le_of_ble_eq_true rfl) ⟨rfl, rfl, by show _ ≤ 601024; omega, by show _ ≤ 7293034; omega⟩ dL_law_1522 ?_
  rintro _ _ ⟨rfl, rfl⟩
  show jx_J X (k + 1) (n + 6) 1525 [(5, .int (r')), (0, .ref b), (1, .ref a), (2, .ref m), (3, .ref o), (4, .int (Int32.ofNat (4 * j)))] [.int b2] h2
  refine j_istore (lv1 := [(6, .int b2), (5, .int (r')), (0, .ref b), (1, .ref a), (2, .ref m), (3, .ref o), (4, .int (Int32.ofNat (4 * j)))]) C hL dL_law_1525 (Nat.le_of_ble_eq_true rfl) rfl ?_
  refine j_aload_n C dL_law_1527 rfl rfl ?_
  refine j_callV (ci := 10) (RC := RX10) (T := TX10) (N := 38) (As := []) (b := m) (na := 0) (st := []) (k1 := k + 1) (n1 := n + 6) C hr (sX10_thrown e3) rfl o2 kL_114 kim_X10_thrown ksel_X10_thrown kini_X10 kc_X10_thrown (by decide) rfl ⟨Nat.le_of_ble_eq_true rfl, Nat.le_of_ble_eq_true rfl⟩ (Nat.le_of_ble_eq_true rfl) ⟨rfl, rfl, by show _ ≤ 601024; omega, by show _ ≤ 7293034; omega⟩ dL_law_1528 ?_
  rintro _ _ ⟨rfl, rfl⟩
  show jx_J X (k + 1) (n + 6) 1531 [(6, .int b2), (5, .int (r')), (0, .ref b), (1, .ref a), (2, .ref m), (3, .ref o), (4, .int (Int32.ofNat (4 * j)))] [.int t] h2
  refine j_iload C dL_law_1531 rfl ?_
  refine j_icmp_eq (tgt := 1538) C dL_law_1533 (by decide) (fun _ => ?_) (fun c => absurd e4 c)
  refine j_iload C dL_law_1538 rfl ?_
  refine j_if_ne (tgt := 1555) C dL_law_1540 (by decide) (fun _ => ?_) (fun hr0 => ?_)
  · refine j_goto (tgt := 2125) C dL_law_1555 (by decide) ?_
    refine jx_sub (lv' := [(0, .ref b), (1, .ref a), (2, .ref m), (3, .ref o), (4, .int (Int32.ofNat (4 * j)))]) [2, 3, 4, 5, 6] rfl ?_
    exact jx_widen (by omega) (by omega) (kk h2 hI2)
  · obtain ⟨z, ez, rfl⟩ := e5 hr0
    refine j_aload_n C dL_law_1543 rfl rfl ?_
    refine j_iconst (v := (0 : Int32)) C dL_law_1544 (by decide) ?_
    refine j_lald C dL_law_1545 ez ?_
    refine j_iload C dL_law_1546 rfl ?_
    refine j_i2l C dL_law_1548 ?_
    refine j_lcmp C dL_law_1549 ?_
    refine j_if_eq (tgt := 1555) C dL_law_1550 (by decide) (fun _ => ?_) (fun c => absurd (lw_cmp _) c)
    refine j_goto (tgt := 2125) C dL_law_1555 (by decide) ?_
    refine jx_sub (lv' := [(0, .ref b), (1, .ref a), (2, .ref m), (3, .ref o), (4, .int (Int32.ofNat (4 * j)))]) [2, 3, 4, 5, 6] rfl ?_
    exact jx_widen (by omega) (by omega) (kk h2 hI2)
set_option maxRecDepth 20000 in
set_option maxHeartbeats 4000000 in
theorem lc_zeros {X : jx_X} {b a m o L j : Nat} {xs : Nat → Int32} {Inv : jx_H → Prop} {h : jx_H} {k n : Nat} {i : Int32} (C : jx_ok X cL_law RL) (hr : jx_r X room_1) (hL : jx_nl X 9) (hX : jx_S X b L xs) (hi : i = Int32.ofNat (4 * j)) (hj : 4 * j + 4 ≤ L) (hLL : L ≤ 2048) (hk : k + 40 ≤ 601024) (hn : n + 2000 ≤ 7293034) (hs : St_zeros Inv a m o) (hI : Inv h)
    (kk : ∀ h2, Inv h2 → jx_J X (k + 40) (n + 2000) 2125 [(0, .ref b), (1, .ref a), (2, .ref m), (3, .ref o), (4, .int i)] [] h2) : jx_J X k n 1558 [(0, .ref b), (1, .ref a), (2, .ref m), (3, .ref o), (4, .int i)] [] h := by
  subst hi
  refine j_aload_n C dL_law_1558 rfl rfl ?_
  refine j_aload_n C dL_law_1559 rfl rfl ?_
  refine j_iload C dL_law_1560 rfl ?_
  refine j_iconst (v := (1 : Int32)) C dL_law_1562 (by decide) ?_
  refine j_iadd C dL_law_1563 ?_
  refine j_sld C hX (lw_in1 hj hLL) dL_law_1564 ?_
  refine j_aload_n C dL_law_1565 rfl rfl ?_
  obtain ⟨r, e1, ho, hO, hE, hs2⟩ := hs h _ hI
  refine j_callSW (As := [.ref a, .int (xs (Int32.ofNat (4 * j) + (1 : Int32)).toNatClampNeg), .ref o]) (na := 3) (st := []) (k1 := k + 36) (n1 := n + 1956) C hr (sL_zeros e1 ho hO hE) kL_198 kst_L_zeros kini_L kcw_L_zeros (by decide) rfl ⟨Nat.le_of_ble_eq_true rfl, Nat.le_of_ble_eq_true rfl⟩ (Nat.le_of_ble_eq_true rfl) ⟨rfl, rfl, by show _ + 36 ≤ 601024; omega, by show _ + 1956 ≤ 7293034; omega⟩ dL_law_1566 (fun r1 h1 hp => ?_)
  obtain ⟨r', rfl, b2, h2, t, o1, e2, o2, e3, e4, e5, hI2⟩ := hs2 r1 h1 hp
  show jx_J X (k + 36) (n + 1956) 1569 [(0, .ref b), (1, .ref a), (2, .ref m), (3, .ref o), (4, .int (Int32.ofNat (4 * j)))] [.int (r')] h1
  refine j_istore (lv1 := [(5, .int (r')), (0, .ref b), (1, .ref a), (2, .ref m), (3, .ref o), (4, .int (Int32.ofNat (4 * j)))]) C hL dL_law_1569 (Nat.le_of_ble_eq_true rfl) rfl ?_
  refine j_aload_n C dL_law_1571 rfl rfl ?_
  refine j_aload_n C dL_law_1572 rfl rfl ?_
  refine j_iload C dL_law_1573 rfl ?_
  refine j_iconst (v := (1 : Int32)) C dL_law_1575 (by decide) ?_
  refine j_iadd C dL_law_1576 ?_
  refine j_sld C hX (lw_in1 hj hLL) dL_law_1577 ?_
  refine j_callV (ci := 10) (RC := RX10) (T := TX10) (N := 38) (As := [.int (xs (Int32.ofNat (4 * j) + (1 : Int32)).toNatClampNeg)]) (b := m) (na := 1) (st := []) (k1 := k + 36) (n1 := n + 1956) C hr (sX10_zeros e2) rfl o1 kL_200 kim_X10_zeros ksel_X10_zeros kini_X10 kc_X10_zeros (by decide) rfl ⟨Nat.le_of_ble_eq_true rfl, Nat.le_of_ble_eq_true rfl⟩ (Nat.le_of_ble_eq_true rfl) ⟨rfl, rfl, by show _ ≤ 601024; omega, by show _ ≤ 7293034; omega⟩ dL_law_1578 ?_
  rintro _ _ ⟨rfl, rfl⟩
  show jx_J X (k + 36) (n + 1956) 1581 [(5, .int (r')), (0, .ref b), (1, .ref a), (2, .ref m), (3, .ref o), (4, .int (Int32.ofNat (4 * j)))] [.int b2] h2
  refine j_istore (lv1 := [(6, .int b2), (5, .int (r')), (0, .ref b), (1, .ref a), (2, .ref m), (3, .ref o), (4, .int (Int32.ofNat (4 * j)))]) C hL dL_law_1581 (Nat.le_of_ble_eq_true rfl) rfl ?_
  refine j_aload_n C dL_law_1583 rfl rfl ?_
  refine j_callV (ci := 10) (RC := RX10) (T := TX10) (N := 38) (As := []) (b := m) (na := 0) (st := []) (k1 := k + 36) (n1 := n + 1956) C hr (sX10_thrown e3) rfl o2 kL_114 kim_X10_thrown ksel_X10_thrown kini_X10 kc_X10_thrown (by decide) rfl ⟨Nat.le_of_ble_eq_true rfl, Nat.le_of_ble_eq_true rfl⟩ (Nat.le_of_ble_eq_true rfl) ⟨rfl, rfl, by show _ ≤ 601024; omega, by show _ ≤ 7293034; omega⟩ dL_law_1584 ?_
  rintro _ _ ⟨rfl, rfl⟩
  show jx_J X (k + 36) (n + 1956) 1587 [(6, .int b2), (5, .int (r')), (0, .ref b), (1, .ref a), (2, .ref m), (3, .ref o), (4, .int (Int32.ofNat (4 * j)))] [.int t] h2
  refine j_iload C dL_law_1587 rfl ?_
  refine j_icmp_eq (tgt := 1594) C dL_law_1589 (by decide) (fun _ => ?_) (fun c => absurd e4 c)
  refine j_iload C dL_law_1594 rfl ?_
  refine j_if_ne (tgt := 1611) C dL_law_1596 (by decide) (fun _ => ?_) (fun hr0 => ?_)
  · refine j_goto (tgt := 2125) C dL_law_1611 (by decide) ?_
    refine jx_sub (lv' := [(0, .ref b), (1, .ref a), (2, .ref m), (3, .ref o), (4, .int (Int32.ofNat (4 * j)))]) [2, 3, 4, 5, 6] rfl ?_
    exact jx_widen (by omega) (by omega) (kk h2 hI2)
  · obtain ⟨z, ez, rfl⟩ := e5 hr0
    refine j_aload_n C dL_law_1599 rfl rfl ?_
    refine j_iconst (v := (0 : Int32)) C dL_law_1600 (by decide) ?_
    refine j_lald C dL_law_1601 ez ?_
    refine j_iload C dL_law_1602 rfl ?_
    refine j_i2l C dL_law_1604 ?_
    refine j_lcmp C dL_law_1605 ?_
    refine j_if_eq (tgt := 1611) C dL_law_1606 (by decide) (fun _ => ?_) (fun c => absurd (lw_cmp _) c)
    refine j_goto (tgt := 2125) C dL_law_1611 (by decide) ?_
    refine jx_sub (lv' := [(0, .ref b), (1, .ref a), (2, .ref m), (3, .ref o), (4, .int (Int32.ofNat (4 * j)))]) [2, 3, 4, 5, 6] rfl ?_
    exact jx_widen (by omega) (by omega) (kk h2 hI2)
set_option maxRecDepth 20000 in
set_option maxHeartbeats 4000000 in
theorem lc_zero {X : jx_X} {b a m o L j : Nat} {xs : Nat → Int32} {Inv : jx_H → Prop} {h : jx_H} {k n : Nat} {i : Int32} (C : jx_ok X cL_law RL) (hr : jx_r X room_1) (hL : jx_nl X 9) (hX : jx_S X b L xs) (hi : i = Int32.ofNat (4 * j)) (hj : 4 * j + 4 ≤ L) (hLL : L ≤ 2048) (hk : k + 40 ≤ 601024) (hn : n + 2000 ≤ 7293034) (hs : St_zero Inv a m o) (hI : Inv h)
    (kk : ∀ h2, Inv h2 → jx_J X (k + 40) (n + 2000) 2125 [(0, .ref b), (1, .ref a), (2, .ref m), (3, .ref o), (4, .int i)] [] h2) : jx_J X k n 1614 [(0, .ref b), (1, .ref a), (2, .ref m), (3, .ref o), (4, .int i)] [] h := by
  subst hi
  refine j_aload_n C dL_law_1614 rfl rfl ?_
  refine j_aload_n C dL_law_1615 rfl rfl ?_
  refine j_iload C dL_law_1616 rfl ?_
  refine j_iconst (v := (1 : Int32)) C dL_law_1618 (by decide) ?_
  refine j_iadd C dL_law_1619 ?_
  refine j_sld C hX (lw_in1 hj hLL) dL_law_1620 ?_
  refine j_aload_n C dL_law_1621 rfl rfl ?_
  refine j_iload C dL_law_1622 rfl ?_
  refine j_iconst (v := (2 : Int32)) C dL_law_1624 (by decide) ?_
  refine j_iadd C dL_law_1625 ?_
  refine j_sld C hX (lw_in2 hj hLL) dL_law_1626 ?_
  refine j_aload_n C dL_law_1627 rfl rfl ?_
  obtain ⟨r, e1, ho, hO, hE, hs2⟩ := hs h _ _ hI
  refine j_callSW (As := [.ref a, .int (xs (Int32.ofNat (4 * j) + (1 : Int32)).toNatClampNeg), .int (xs (Int32.ofNat (4 * j) + (2 : Int32)).toNatClampNeg), .ref o]) (na := 4) (st := []) (k1 := k + 1) (n1 := n + 6) C hr (sL_zero e1 ho hO hE) kL_201 kst_L_zero kini_L kcw_L_zero (by decide) rfl ⟨Nat.le_of_ble_eq_true rfl, Nat.le_of_ble_eq_true rfl⟩ (Nat.le_of_ble_eq_true rfl) ⟨rfl, rfl, by show _ + 1 ≤ 601024; omega, by show _ + 6 ≤ 7293034; omega⟩ dL_law_1628 (fun r1 h1 hp => ?_)
  obtain ⟨r', rfl, b2, h2, t, o1, e2, o2, e3, e4, e5, hI2⟩ := hs2 r1 h1 hp
  show jx_J X (k + 1) (n + 6) 1631 [(0, .ref b), (1, .ref a), (2, .ref m), (3, .ref o), (4, .int (Int32.ofNat (4 * j)))] [.int (r')] h1
  refine j_istore (lv1 := [(5, .int (r')), (0, .ref b), (1, .ref a), (2, .ref m), (3, .ref o), (4, .int (Int32.ofNat (4 * j)))]) C hL dL_law_1631 (Nat.le_of_ble_eq_true rfl) rfl ?_
  refine j_aload_n C dL_law_1633 rfl rfl ?_
  refine j_aload_n C dL_law_1634 rfl rfl ?_
  refine j_iload C dL_law_1635 rfl ?_
  refine j_iconst (v := (1 : Int32)) C dL_law_1637 (by decide) ?_
  refine j_iadd C dL_law_1638 ?_
  refine j_sld C hX (lw_in1 hj hLL) dL_law_1639 ?_
  refine j_aload_n C dL_law_1640 rfl rfl ?_
  refine j_iload C dL_law_1641 rfl ?_
  refine j_iconst (v := (2 : Int32)) C dL_law_1643 (by decide) ?_
  refine j_iadd C dL_law_1644 ?_
  refine j_sld C hX (lw_in2 hj hLL) dL_law_1645 ?_
  refine j_callV (ci := 10) (RC := RX10) (T := TX10) (N := 38) (As := [.int (xs (Int32.ofNat (4 * j) + (1 : Int32)).toNatClampNeg), .int (xs (Int32.ofNat (4 * j) + (2 : Int32)).toNatClampNeg)]) (b := m) (na := 2) (st := []) (k1 := k + 1) (n1 := n + 6) C hr (sX10_zero e2) rfl o1 kL_203 kim_X10_zero ksel_X10_zero kini_X10 kc_X10_zero (by decide) rfl ⟨Nat.le_of_ble_eq_true rfl, Nat.le_of_ble_eq_true rfl⟩ (Nat.le_of_ble_eq_true rfl) ⟨rfl, rfl, by show _ ≤ 601024; omega, by show _ ≤ 7293034; omega⟩ dL_law_1646 ?_
  rintro _ _ ⟨rfl, rfl⟩
  show jx_J X (k + 1) (n + 6) 1649 [(5, .int (r')), (0, .ref b), (1, .ref a), (2, .ref m), (3, .ref o), (4, .int (Int32.ofNat (4 * j)))] [.int b2] h2
  refine j_istore (lv1 := [(6, .int b2), (5, .int (r')), (0, .ref b), (1, .ref a), (2, .ref m), (3, .ref o), (4, .int (Int32.ofNat (4 * j)))]) C hL dL_law_1649 (Nat.le_of_ble_eq_true rfl) rfl ?_
  refine j_aload_n C dL_law_1651 rfl rfl ?_
  refine j_callV (ci := 10) (RC := RX10) (T := TX10) (N := 38) (As := []) (b := m) (na := 0) (st := []) (k1 := k + 1) (n1 := n + 6) C hr (sX10_thrown e3) rfl o2 kL_114 kim_X10_thrown ksel_X10_thrown kini_X10 kc_X10_thrown (by decide) rfl ⟨Nat.le_of_ble_eq_true rfl, Nat.le_of_ble_eq_true rfl⟩ (Nat.le_of_ble_eq_true rfl) ⟨rfl, rfl, by show _ ≤ 601024; omega, by show _ ≤ 7293034; omega⟩ dL_law_1652 ?_
  rintro _ _ ⟨rfl, rfl⟩
  show jx_J X (k + 1) (n + 6) 1655 [(6, .int b2), (5, .int (r')), (0, .ref b), (1, .ref a), (2, .ref m), (3, .ref o), (4, .int (Int32.ofNat (4 * j)))] [.int t] h2
  refine j_iload C dL_law_1655 rfl ?_
  refine j_icmp_eq (tgt := 1662) C dL_law_1657 (by decide) (fun _ => ?_) (fun c => absurd e4 c)
  refine j_iload C dL_law_1662 rfl ?_
  refine j_if_ne (tgt := 1679) C dL_law_1664 (by decide) (fun _ => ?_) (fun hr0 => ?_)
  · refine j_goto (tgt := 2125) C dL_law_1679 (by decide) ?_
    refine jx_sub (lv' := [(0, .ref b), (1, .ref a), (2, .ref m), (3, .ref o), (4, .int (Int32.ofNat (4 * j)))]) [2, 3, 4, 5, 6] rfl ?_
    exact jx_widen (by omega) (by omega) (kk h2 hI2)
  · obtain ⟨z, ez, rfl⟩ := e5 hr0
    refine j_aload_n C dL_law_1667 rfl rfl ?_
    refine j_iconst (v := (0 : Int32)) C dL_law_1668 (by decide) ?_
    refine j_lald C dL_law_1669 ez ?_
    refine j_iload C dL_law_1670 rfl ?_
    refine j_i2l C dL_law_1672 ?_
    refine j_lcmp C dL_law_1673 ?_
    refine j_if_eq (tgt := 1679) C dL_law_1674 (by decide) (fun _ => ?_) (fun c => absurd (lw_cmp _) c)
    refine j_goto (tgt := 2125) C dL_law_1679 (by decide) ?_
    refine jx_sub (lv' := [(0, .ref b), (1, .ref a), (2, .ref m), (3, .ref o), (4, .int (Int32.ofNat (4 * j)))]) [2, 3, 4, 5, 6] rfl ?_
    exact jx_widen (by omega) (by omega) (kk h2 hI2)
set_option maxRecDepth 20000 in
set_option maxHeartbeats 4000000 in
theorem lc_multiplicity {X : jx_X} {b a m o L j : Nat} {xs : Nat → Int32} {Inv : jx_H → Prop} {h : jx_H} {k n : Nat} {i : Int32} (C : jx_ok X cL_law RL) (hr : jx_r X room_1) (hL : jx_nl X 9) (hX : jx_S X b L xs) (hi : i = Int32.ofNat (4 * j)) (hj : 4 * j + 4 ≤ L) (hLL : L ≤ 2048) (hk : k + 40 ≤ 601024) (hn : n + 2000 ≤ 7293034) (hs : St_multiplicity Inv a m o) (hI : Inv h)
    (kk : ∀ h2, Inv h2 → jx_J X (k + 40) (n + 2000) 2125 [(0, .ref b), (1, .ref a), (2, .ref m), (3, .ref o), (4, .int i)] [] h2) : jx_J X k n 1682 [(0, .ref b), (1, .ref a), (2, .ref m), (3, .ref o), (4, .int i)] [] h := by
  subst hi
  refine j_aload_n C dL_law_1682 rfl rfl ?_
  refine j_aload_n C dL_law_1683 rfl rfl ?_
  refine j_iload C dL_law_1684 rfl ?_
  refine j_iconst (v := (1 : Int32)) C dL_law_1686 (by decide) ?_
  refine j_iadd C dL_law_1687 ?_
  refine j_sld C hX (lw_in1 hj hLL) dL_law_1688 ?_
  refine j_aload_n C dL_law_1689 rfl rfl ?_
  refine j_iload C dL_law_1690 rfl ?_
  refine j_iconst (v := (2 : Int32)) C dL_law_1692 (by decide) ?_
  refine j_iadd C dL_law_1693 ?_
  refine j_sld C hX (lw_in2 hj hLL) dL_law_1694 ?_
  refine j_aload_n C dL_law_1695 rfl rfl ?_
  obtain ⟨r, e1, ho, hO, hE, hs2⟩ := hs h _ _ hI
  refine j_callSW (As := [.ref a, .int (xs (Int32.ofNat (4 * j) + (1 : Int32)).toNatClampNeg), .int (xs (Int32.ofNat (4 * j) + (2 : Int32)).toNatClampNeg), .ref o]) (na := 4) (st := []) (k1 := k + 1) (n1 := n + 6) C hr (sL_multiplicity e1 ho hO hE) kL_204 kst_L_multiplicity kini_L kcw_L_multiplicity (by decide) rfl ⟨Nat.le_of_ble_eq_true rfl, Nat.le_of_ble_eq_true rfl⟩ (Nat.le_of_ble_eq_true rfl) ⟨rfl, rfl, by show _ + 1 ≤ 601024; omega, by show _ + 6 ≤ 7293034; omega⟩ dL_law_1696 (fun r1 h1 hp => ?_)
  obtain ⟨r', rfl, b2, h2, t, o1, e2, o2, e3, e4, e5, hI2⟩ := hs2 r1 h1 hp
  show jx_J X (k + 1) (n + 6) 1699 [(0, .ref b), (1, .ref a), (2, .ref m), (3, .ref o), (4, .int (Int32.ofNat (4 * j)))] [.int (r')] h1
  refine j_istore (lv1 := [(5, .int (r')), (0, .ref b), (1, .ref a), (2, .ref m), (3, .ref o), (4, .int (Int32.ofNat (4 * j)))]) C hL dL_law_1699 (Nat.le_of_ble_eq_true rfl) rfl ?_
  refine j_aload_n C dL_law_1701 rfl rfl ?_
  refine j_aload_n C dL_law_1702 rfl rfl ?_
  refine j_iload C dL_law_1703 rfl ?_
  refine j_iconst (v := (1 : Int32)) C dL_law_1705 (by decide) ?_
  refine j_iadd C dL_law_1706 ?_
  refine j_sld C hX (lw_in1 hj hLL) dL_law_1707 ?_
  refine j_aload_n C dL_law_1708 rfl rfl ?_
  refine j_iload C dL_law_1709 rfl ?_
  refine j_iconst (v := (2 : Int32)) C dL_law_1711 (by decide) ?_
  refine j_iadd C dL_law_1712 ?_
  refine j_sld C hX (lw_in2 hj hLL) dL_law_1713 ?_
  refine j_callV (ci := 10) (RC := RX10) (T := TX10) (N := 38) (As := [.int (xs (Int32.ofNat (4 * j) + (1 : Int32)).toNatClampNeg), .int (xs (Int32.ofNat (4 * j) + (2 : Int32)).toNatClampNeg)]) (b := m) (na := 2) (st := []) (k1 := k + 1) (n1 := n + 6) C hr (sX10_multiplicity e2) rfl o1 kL_206 kim_X10_multiplicity ksel_X10_multiplicity kini_X10 kc_X10_multiplicity (by decide) rfl ⟨Nat.le_of_ble_eq_true rfl, Nat.le_of_ble_eq_true rfl⟩ (Nat.le_of_ble_eq_true rfl) ⟨rfl, rfl, by show _ ≤ 601024; omega, by show _ ≤ 7293034; omega⟩ dL_law_1714 ?_
  rintro _ _ ⟨rfl, rfl⟩
  show jx_J X (k + 1) (n + 6) 1717 [(5, .int (r')), (0, .ref b), (1, .ref a), (2, .ref m), (3, .ref o), (4, .int (Int32.ofNat (4 * j)))] [.int b2] h2
  refine j_istore (lv1 := [(6, .int b2), (5, .int (r')), (0, .ref b), (1, .ref a), (2, .ref m), (3, .ref o), (4, .int (Int32.ofNat (4 * j)))]) C hL dL_law_1717 (Nat.le_of_ble_eq_true rfl) rfl ?_
  refine j_aload_n C dL_law_1719 rfl rfl ?_
  refine j_callV (ci := 10) (RC := RX10) (T := TX10) (N := 38) (As := []) (b := m) (na := 0) (st := []) (k1 := k + 1) (n1 := n + 6) C hr (sX10_thrown e3) rfl o2 kL_114 kim_X10_thrown ksel_X10_thrown kini_X10 kc_X10_thrown (by decide) rfl ⟨Nat.le_of_ble_eq_true rfl, Nat.le_of_ble_eq_true rfl⟩ (Nat.le_of_ble_eq_true rfl) ⟨rfl, rfl, by show _ ≤ 601024; omega, by show _ ≤ 7293034; omega⟩ dL_law_1720 ?_
  rintro _ _ ⟨rfl, rfl⟩
  show jx_J X (k + 1) (n + 6) 1723 [(6, .int b2), (5, .int (r')), (0, .ref b), (1, .ref a), (2, .ref m), (3, .ref o), (4, .int (Int32.ofNat (4 * j)))] [.int t] h2
  refine j_iload C dL_law_1723 rfl ?_
  refine j_icmp_eq (tgt := 1730) C dL_law_1725 (by decide) (fun _ => ?_) (fun c => absurd e4 c)
  refine j_iload C dL_law_1730 rfl ?_
  refine j_if_ne (tgt := 1747) C dL_law_1732 (by decide) (fun _ => ?_) (fun hr0 => ?_)
  · refine j_goto (tgt := 2125) C dL_law_1747 (by decide) ?_
    refine jx_sub (lv' := [(0, .ref b), (1, .ref a), (2, .ref m), (3, .ref o), (4, .int (Int32.ofNat (4 * j)))]) [2, 3, 4, 5, 6] rfl ?_
    exact jx_widen (by omega) (by omega) (kk h2 hI2)
  · obtain ⟨z, ez, rfl⟩ := e5 hr0
    refine j_aload_n C dL_law_1735 rfl rfl ?_
    refine j_iconst (v := (0 : Int32)) C dL_law_1736 (by decide) ?_
    refine j_lald C dL_law_1737 ez ?_
    refine j_iload C dL_law_1738 rfl ?_
    refine j_i2l C dL_law_1740 ?_
    refine j_lcmp C dL_law_1741 ?_
    refine j_if_eq (tgt := 1747) C dL_law_1742 (by decide) (fun _ => ?_) (fun c => absurd (lw_cmp _) c)
    refine j_goto (tgt := 2125) C dL_law_1747 (by decide) ?_
    refine jx_sub (lv' := [(0, .ref b), (1, .ref a), (2, .ref m), (3, .ref o), (4, .int (Int32.ofNat (4 * j)))]) [2, 3, 4, 5, 6] rfl ?_
    exact jx_widen (by omega) (by omega) (kk h2 hI2)
set_option maxRecDepth 20000 in
set_option maxHeartbeats 4000000 in
theorem lc_share {X : jx_X} {b a m o L j : Nat} {xs : Nat → Int32} {Inv : jx_H → Prop} {h : jx_H} {k n : Nat} {i : Int32} (C : jx_ok X cL_law RL) (hr : jx_r X room_1) (hL : jx_nl X 9) (hX : jx_S X b L xs) (hi : i = Int32.ofNat (4 * j)) (hj : 4 * j + 4 ≤ L) (hLL : L ≤ 2048) (hk : k + 40 ≤ 601024) (hn : n + 2000 ≤ 7293034) (hs : St_share Inv a m) (hI : Inv h)
    (kk : ∀ h2, Inv h2 → jx_J X (k + 40) (n + 2000) 2125 [(0, .ref b), (1, .ref a), (2, .ref m), (3, .ref o), (4, .int i)] [] h2) : jx_J X k n 1750 [(0, .ref b), (1, .ref a), (2, .ref m), (3, .ref o), (4, .int i)] [] h := by
  subst hi
  refine j_aload_n C dL_law_1750 rfl rfl ?_
  obtain ⟨v1, h1, o1, e1, o2, b2, h2, e2, e4, hI2⟩ := hs h hI
  refine j_callV (ci := 9) (RC := RX9) (T := TX9) (N := 14) (As := []) (b := a) (na := 0) (st := []) (k1 := k) (n1 := n) C hr (sX9_share e1) rfl o1 kL_207 kim_X9_share ksel_X9_share kini_X9 kc_X9_share (by decide) rfl ⟨Nat.le_of_ble_eq_true rfl, Nat.le_of_ble_eq_true rfl⟩ (Nat.le_of_ble_eq_true rfl) ⟨rfl, rfl, by show _ ≤ 601024; omega, by show _ ≤ 7293034; omega⟩ dL_law_1751 ?_
  rintro _ _ ⟨rfl, rfl⟩
  show jx_J X k n 1754 [(0, .ref b), (1, .ref a), (2, .ref m), (3, .ref o), (4, .int (Int32.ofNat (4 * j)))] [.double v1] h1
  refine j_dstore (lv1 := [(5, .double v1), (0, .ref b), (1, .ref a), (2, .ref m), (3, .ref o), (4, .int (Int32.ofNat (4 * j)))]) C hL dL_law_1754 (Nat.le_of_ble_eq_true rfl) rfl ?_
  refine j_aload_n C dL_law_1756 rfl rfl ?_
  refine j_callV (ci := 10) (RC := RX10) (T := TX10) (N := 38) (As := []) (b := m) (na := 0) (st := []) (k1 := k) (n1 := n) C hr (sX10_share e2) rfl o2 kL_211 kim_X10_share ksel_X10_share kini_X10 kc_X10_share (by decide) rfl ⟨Nat.le_of_ble_eq_true rfl, Nat.le_of_ble_eq_true rfl⟩ (Nat.le_of_ble_eq_true rfl) ⟨rfl, rfl, by show _ ≤ 601024; omega, by show _ ≤ 7293034; omega⟩ dL_law_1757 ?_
  rintro _ _ ⟨rfl, rfl⟩
  show jx_J X k n 1760 [(5, .double v1), (0, .ref b), (1, .ref a), (2, .ref m), (3, .ref o), (4, .int (Int32.ofNat (4 * j)))] [.double b2] h2
  refine j_dstore (lv1 := [(7, .double b2), (5, .double v1), (0, .ref b), (1, .ref a), (2, .ref m), (3, .ref o), (4, .int (Int32.ofNat (4 * j)))]) C hL dL_law_1760 (Nat.le_of_ble_eq_true rfl) rfl ?_
  refine j_dload C dL_law_1762 rfl ?_
  refine j_dload C dL_law_1764 rfl ?_
  refine j_dcmp C dL_law_1766 ?_
  refine j_if_eq (tgt := 1788) C dL_law_1767 (by decide) (fun _ => ?_) (fun c => absurd e4 c)
  refine j_goto (tgt := 2125) C dL_law_1788 (by decide) ?_
  refine jx_sub (lv' := [(0, .ref b), (1, .ref a), (2, .ref m), (3, .ref o), (4, .int (Int32.ofNat (4 * j)))]) [2, 3, 4, 5, 6] rfl ?_
  exact jx_widen (by omega) (by omega) (kk h2 hI2)
set_option maxRecDepth 20000 in
set_option maxHeartbeats 4000000 in
theorem lc_addPoint {X : jx_X} {b a m o L j : Nat} {xs : Nat → Int32} {Inv : jx_H → Prop} {h : jx_H} {k n : Nat} {i : Int32} (C : jx_ok X cL_law RL) (hr : jx_r X room_1) (hL : jx_nl X 9) (hX : jx_S X b L xs) (hi : i = Int32.ofNat (4 * j)) (hj : 4 * j + 4 ≤ L) (hLL : L ≤ 2048) (hk : k + 40 ≤ 601024) (hn : n + 2000 ≤ 7293034) (hs : St_addPoint Inv a m o) (hI : Inv h)
    (kk : ∀ h2, Inv h2 → jx_J X (k + 40) (n + 2000) 2125 [(0, .ref b), (1, .ref a), (2, .ref m), (3, .ref o), (4, .int i)] [] h2) : jx_J X k n 1791 [(0, .ref b), (1, .ref a), (2, .ref m), (3, .ref o), (4, .int i)] [] h := by
  subst hi
  refine j_aload_n C dL_law_1791 rfl rfl ?_
  refine j_aload_n C dL_law_1792 rfl rfl ?_
  refine j_iload C dL_law_1793 rfl ?_
  refine j_iconst (v := (1 : Int32)) C dL_law_1795 (by decide) ?_
  refine j_iadd C dL_law_1796 ?_
  refine j_sld C hX (lw_in1 hj hLL) dL_law_1797 ?_
  refine j_aload_n C dL_law_1798 rfl rfl ?_
  refine j_iload C dL_law_1799 rfl ?_
  refine j_iconst (v := (2 : Int32)) C dL_law_1801 (by decide) ?_
  refine j_iadd C dL_law_1802 ?_
  refine j_sld C hX (lw_in2 hj hLL) dL_law_1803 ?_
  refine j_aload_n C dL_law_1804 rfl rfl ?_
  obtain ⟨r, e1, ho, hO, hE, hs2⟩ := hs h _ _ hI
  refine j_callSW (As := [.ref a, .int (xs (Int32.ofNat (4 * j) + (1 : Int32)).toNatClampNeg), .int (xs (Int32.ofNat (4 * j) + (2 : Int32)).toNatClampNeg), .ref o]) (na := 4) (st := []) (k1 := k + 9) (n1 := n + 255) C hr (sL_addPoint e1 ho hO hE) kL_212 kst_L_addPoint kini_L kcw_L_addPoint (by decide) rfl ⟨Nat.le_of_ble_eq_true rfl, Nat.le_of_ble_eq_true rfl⟩ (Nat.le_of_ble_eq_true rfl) ⟨rfl, rfl, by show _ + 9 ≤ 601024; omega, by show _ + 255 ≤ 7293034; omega⟩ dL_law_1805 (fun r1 h1 hp => ?_)
  obtain ⟨r', rfl, b2, h2, t, o1, e2, o2, e3, e4, e5, hI2⟩ := hs2 r1 h1 hp
  show jx_J X (k + 9) (n + 255) 1808 [(0, .ref b), (1, .ref a), (2, .ref m), (3, .ref o), (4, .int (Int32.ofNat (4 * j)))] [.int (r')] h1
  refine j_istore (lv1 := [(5, .int (r')), (0, .ref b), (1, .ref a), (2, .ref m), (3, .ref o), (4, .int (Int32.ofNat (4 * j)))]) C hL dL_law_1808 (Nat.le_of_ble_eq_true rfl) rfl ?_
  refine j_aload_n C dL_law_1810 rfl rfl ?_
  refine j_aload_n C dL_law_1811 rfl rfl ?_
  refine j_iload C dL_law_1812 rfl ?_
  refine j_iconst (v := (1 : Int32)) C dL_law_1814 (by decide) ?_
  refine j_iadd C dL_law_1815 ?_
  refine j_sld C hX (lw_in1 hj hLL) dL_law_1816 ?_
  refine j_aload_n C dL_law_1817 rfl rfl ?_
  refine j_iload C dL_law_1818 rfl ?_
  refine j_iconst (v := (2 : Int32)) C dL_law_1820 (by decide) ?_
  refine j_iadd C dL_law_1821 ?_
  refine j_sld C hX (lw_in2 hj hLL) dL_law_1822 ?_
  refine j_callV (ci := 10) (RC := RX10) (T := TX10) (N := 38) (As := [.int (xs (Int32.ofNat (4 * j) + (1 : Int32)).toNatClampNeg), .int (xs (Int32.ofNat (4 * j) + (2 : Int32)).toNatClampNeg)]) (b := m) (na := 2) (st := []) (k1 := k + 9) (n1 := n + 255) C hr (sX10_addPoint e2) rfl o1 kL_214 kim_X10_addPoint ksel_X10_addPoint kini_X10 kc_X10_addPoint (by decide) rfl ⟨Nat.le_of_ble_eq_true rfl, Nat.le_of_ble_eq_true rfl⟩ (Nat.le_of_ble_eq_true rfl) ⟨rfl, rfl, by show _ ≤ 601024; omega, by show _ ≤ 7293034; omega⟩ dL_law_1823 ?_
  rintro _ _ ⟨rfl, rfl⟩
  show jx_J X (k + 9) (n + 255) 1826 [(5, .int (r')), (0, .ref b), (1, .ref a), (2, .ref m), (3, .ref o), (4, .int (Int32.ofNat (4 * j)))] [.int b2] h2
  refine j_istore (lv1 := [(6, .int b2), (5, .int (r')), (0, .ref b), (1, .ref a), (2, .ref m), (3, .ref o), (4, .int (Int32.ofNat (4 * j)))]) C hL dL_law_1826 (Nat.le_of_ble_eq_true rfl) rfl ?_
  refine j_aload_n C dL_law_1828 rfl rfl ?_
  refine j_callV (ci := 10) (RC := RX10) (T := TX10) (N := 38) (As := []) (b := m) (na := 0) (st := []) (k1 := k + 9) (n1 := n + 255) C hr (sX10_thrown e3) rfl o2 kL_114 kim_X10_thrown ksel_X10_thrown kini_X10 kc_X10_thrown (by decide) rfl ⟨Nat.le_of_ble_eq_true rfl, Nat.le_of_ble_eq_true rfl⟩ (Nat.le_of_ble_eq_true rfl) ⟨rfl, rfl, by show _ ≤ 601024; omega, by show _ ≤ 7293034; omega⟩ dL_law_1829 ?_
  rintro _ _ ⟨rfl, rfl⟩
  show jx_J X (k + 9) (n + 255) 1832 [(6, .int b2), (5, .int (r')), (0, .ref b), (1, .ref a), (2, .ref m), (3, .ref o), (4, .int (Int32.ofNat (4 * j)))] [.int t] h2
  refine j_iload C dL_law_1832 rfl ?_
  refine j_icmp_eq (tgt := 1839) C dL_law_1834 (by decide) (fun _ => ?_) (fun c => absurd e4 c)
  refine j_iload C dL_law_1839 rfl ?_
  refine j_if_ne (tgt := 1856) C dL_law_1841 (by decide) (fun _ => ?_) (fun hr0 => ?_)
  · refine j_goto (tgt := 2125) C dL_law_1856 (by decide) ?_
    refine jx_sub (lv' := [(0, .ref b), (1, .ref a), (2, .ref m), (3, .ref o), (4, .int (Int32.ofNat (4 * j)))]) [2, 3, 4, 5, 6] rfl ?_
    exact jx_widen (by omega) (by omega) (kk h2 hI2)
  · obtain ⟨z, ez, rfl⟩ := e5 hr0
    refine j_aload_n C dL_law_1844 rfl rfl ?_
    refine j_iconst (v := (0 : Int32)) C dL_law_1845 (by decide) ?_
    refine j_lald C dL_law_1846 ez ?_
    refine j_iload C dL_law_1847 rfl ?_
    refine j_i2l C dL_law_1849 ?_
    refine j_lcmp C dL_law_1850 ?_
    refine j_if_eq (tgt := 1856) C dL_law_1851 (by decide) (fun _ => ?_) (fun c => absurd (lw_cmp _) c)
    refine j_goto (tgt := 2125) C dL_law_1856 (by decide) ?_
    refine jx_sub (lv' := [(0, .ref b), (1, .ref a), (2, .ref m), (3, .ref o), (4, .int (Int32.ofNat (4 * j)))]) [2, 3, 4, 5, 6] rfl ?_
    exact jx_widen (by omega) (by omega) (kk h2 hI2)
set_option maxRecDepth 20000 in
set_option maxHeartbeats 4000000 in
theorem lc_removePoint {X : jx_X} {b a m o L j : Nat} {xs : Nat → Int32} {Inv : jx_H → Prop} {h : jx_H} {k n : Nat} {i : Int32} (C : jx_ok X cL_law RL) (hr : jx_r X room_1) (hL : jx_nl X 9) (hX : jx_S X b L xs) (hi : i = Int32.ofNat (4 * j)) (hj : 4 * j + 4 ≤ L) (hLL : L ≤ 2048) (hk : k + 40 ≤ 601024) (hn : n + 2000 ≤ 7293034) (hs : St_removePoint Inv a m o) (hI : Inv h)
    (kk : ∀ h2, Inv h2 → jx_J X (k + 40) (n + 2000) 2125 [(0, .ref b), (1, .ref a), (2, .ref m), (3, .ref o), (4, .int i)] [] h2) : jx_J X k n 1859 [(0, .ref b), (1, .ref a), (2, .ref m), (3, .ref o), (4, .int i)] [] h := by
  subst hi
  refine j_aload_n C dL_law_1859 rfl rfl ?_
  refine j_aload_n C dL_law_1860 rfl rfl ?_
  refine j_iload C dL_law_1861 rfl ?_
  refine j_iconst (v := (1 : Int32)) C dL_law_1863 (by decide) ?_
  refine j_iadd C dL_law_1864 ?_
  refine j_sld C hX (lw_in1 hj hLL) dL_law_1865 ?_
  refine j_aload_n C dL_law_1866 rfl rfl ?_
  obtain ⟨r, e1, ho, hO, hE, hs2⟩ := hs h _ hI
  refine j_callSW (As := [.ref a, .int (xs (Int32.ofNat (4 * j) + (1 : Int32)).toNatClampNeg), .ref o]) (na := 3) (st := []) (k1 := k + 9) (n1 := n + 255) C hr (sL_removePoint e1 ho hO hE) kL_215 kst_L_removePoint kini_L kcw_L_removePoint (by decide) rfl ⟨Nat.le_of_ble_eq_true rfl, Nat.le_of_ble_eq_true rfl⟩ (Nat.le_of_ble_eq_true rfl) ⟨rfl, rfl, by show _ + 9 ≤ 601024; omega, by show _ + 255 ≤ 7293034; omega⟩ dL_law_1867 (fun r1 h1 hp => ?_)
  obtain ⟨r', rfl, b2, h2, t, o1, e2, o2, e3, e4, e5, hI2⟩ := hs2 r1 h1 hp
  show jx_J X (k + 9) (n + 255) 1870 [(0, .ref b), (1, .ref a), (2, .ref m), (3, .ref o), (4, .int (Int32.ofNat (4 * j)))] [.int (r')] h1
  refine j_istore (lv1 := [(5, .int (r')), (0, .ref b), (1, .ref a), (2, .ref m), (3, .ref o), (4, .int (Int32.ofNat (4 * j)))]) C hL dL_law_1870 (Nat.le_of_ble_eq_true rfl) rfl ?_
  refine j_aload_n C dL_law_1872 rfl rfl ?_
  refine j_aload_n C dL_law_1873 rfl rfl ?_
  refine j_iload C dL_law_1874 rfl ?_
  refine j_iconst (v := (1 : Int32)) C dL_law_1876 (by decide) ?_
  refine j_iadd C dL_law_1877 ?_
  refine j_sld C hX (lw_in1 hj hLL) dL_law_1878 ?_
  refine j_callV (ci := 10) (RC := RX10) (T := TX10) (N := 38) (As := [.int (xs (Int32.ofNat (4 * j) + (1 : Int32)).toNatClampNeg)]) (b := m) (na := 1) (st := []) (k1 := k + 9) (n1 := n + 255) C hr (sX10_removePoint e2) rfl o1 kL_217 kim_X10_removePoint ksel_X10_removePoint kini_X10 kc_X10_removePoint (by decide) rfl ⟨Nat.le_of_ble_eq_true rfl, Nat.le_of_ble_eq_true rfl⟩ (Nat.le_of_ble_eq_true rfl) ⟨rfl, rfl, by show _ ≤ 601024; omega, by show _ ≤ 7293034; omega⟩ dL_law_1879 ?_
  rintro _ _ ⟨rfl, rfl⟩
  show jx_J X (k + 9) (n + 255) 1882 [(5, .int (r')), (0, .ref b), (1, .ref a), (2, .ref m), (3, .ref o), (4, .int (Int32.ofNat (4 * j)))] [.int b2] h2
  refine j_istore (lv1 := [(6, .int b2), (5, .int (r')), (0, .ref b), (1, .ref a), (2, .ref m), (3, .ref o), (4, .int (Int32.ofNat (4 * j)))]) C hL dL_law_1882 (Nat.le_of_ble_eq_true rfl) rfl ?_
  refine j_aload_n C dL_law_1884 rfl rfl ?_
  refine j_callV (ci := 10) (RC := RX10) (T := TX10) (N := 38) (As := []) (b := m) (na := 0) (st := []) (k1 := k + 9) (n1 := n + 255) C hr (sX10_thrown e3) rfl o2 kL_114 kim_X10_thrown ksel_X10_thrown kini_X10 kc_X10_thrown (by decide) rfl ⟨Nat.le_of_ble_eq_true rfl, Nat.le_of_ble_eq_true rfl⟩ (Nat.le_of_ble_eq_true rfl) ⟨rfl, rfl, by show _ ≤ 601024; omega, by show _ ≤ 7293034; omega⟩ dL_law_1885 ?_
  rintro _ _ ⟨rfl, rfl⟩
  show jx_J X (k + 9) (n + 255) 1888 [(6, .int b2), (5, .int (r')), (0, .ref b), (1, .ref a), (2, .ref m), (3, .ref o), (4, .int (Int32.ofNat (4 * j)))] [.int t] h2
  refine j_iload C dL_law_1888 rfl ?_
  refine j_icmp_eq (tgt := 1895) C dL_law_1890 (by decide) (fun _ => ?_) (fun c => absurd e4 c)
  refine j_iload C dL_law_1895 rfl ?_
  refine j_if_ne (tgt := 1912) C dL_law_1897 (by decide) (fun _ => ?_) (fun hr0 => ?_)
  · refine j_goto (tgt := 2125) C dL_law_1912 (by decide) ?_
    refine jx_sub (lv' := [(0, .ref b), (1, .ref a), (2, .ref m), (3, .ref o), (4, .int (Int32.ofNat (4 * j)))]) [2, 3, 4, 5, 6] rfl ?_
    exact jx_widen (by omega) (by omega) (kk h2 hI2)
  · obtain ⟨z, ez, rfl⟩ := e5 hr0
    refine j_aload_n C dL_law_1900 rfl rfl ?_
    refine j_iconst (v := (0 : Int32)) C dL_law_1901 (by decide) ?_
    refine j_lald C dL_law_1902 ez ?_
    refine j_iload C dL_law_1903 rfl ?_
    refine j_i2l C dL_law_1905 ?_
    refine j_lcmp C dL_law_1906 ?_
    refine j_if_eq (tgt := 1912) C dL_law_1907 (by decide) (fun _ => ?_) (fun c => absurd (lw_cmp _) c)
    refine j_goto (tgt := 2125) C dL_law_1912 (by decide) ?_
    refine jx_sub (lv' := [(0, .ref b), (1, .ref a), (2, .ref m), (3, .ref o), (4, .int (Int32.ofNat (4 * j)))]) [2, 3, 4, 5, 6] rfl ?_
    exact jx_widen (by omega) (by omega) (kk h2 hI2)
set_option maxRecDepth 20000 in
set_option maxHeartbeats 4000000 in
theorem lc_point {X : jx_X} {b a m o L j : Nat} {xs : Nat → Int32} {Inv : jx_H → Prop} {h : jx_H} {k n : Nat} {i : Int32} (C : jx_ok X cL_law RL) (hr : jx_r X room_1) (hL : jx_nl X 9) (hX : jx_S X b L xs) (hi : i = Int32.ofNat (4 * j)) (hj : 4 * j + 4 ≤ L) (hLL : L ≤ 2048) (hk : k + 40 ≤ 601024) (hn : n + 2000 ≤ 7293034) (hs : St_point Inv a m o) (hI : Inv h)
    (kk : ∀ h2, Inv h2 → jx_J X (k + 40) (n + 2000) 2125 [(0, .ref b), (1, .ref a), (2, .ref m), (3, .ref o), (4, .int i)] [] h2) : jx_J X k n 1915 [(0, .ref b), (1, .ref a), (2, .ref m), (3, .ref o), (4, .int i)] [] h := by
  subst hi
  refine j_aload_n C dL_law_1915 rfl rfl ?_
  refine j_aload_n C dL_law_1916 rfl rfl ?_
  refine j_iload C dL_law_1917 rfl ?_
  refine j_iconst (v := (1 : Int32)) C dL_law_1919 (by decide) ?_
  refine j_iadd C dL_law_1920 ?_
  refine j_sld C hX (lw_in1 hj hLL) dL_law_1921 ?_
  refine j_aload_n C dL_law_1922 rfl rfl ?_
  refine j_iload C dL_law_1923 rfl ?_
  refine j_iconst (v := (2 : Int32)) C dL_law_1925 (by decide) ?_
  refine j_iadd C dL_law_1926 ?_
  refine j_sld C hX (lw_in2 hj hLL) dL_law_1927 ?_
  refine j_aload_n C dL_law_1928 rfl rfl ?_
  obtain ⟨r, e1, ho, hO, hE, hs2⟩ := hs h _ _ hI
  refine j_callSW (As := [.ref a, .int (xs (Int32.ofNat (4 * j) + (1 : Int32)).toNatClampNeg), .int (xs (Int32.ofNat (4 * j) + (2 : Int32)).toNatClampNeg), .ref o]) (na := 4) (st := []) (k1 := k + 1) (n1 := n + 6) C hr (sL_point e1 ho hO hE) kL_218 kst_L_point kini_L kcw_L_point (by decide) rfl ⟨Nat.le_of_ble_eq_true rfl, Nat.le_of_ble_eq_true rfl⟩ (Nat.le_of_ble_eq_true rfl) ⟨rfl, rfl, by show _ + 1 ≤ 601024; omega, by show _ + 6 ≤ 7293034; omega⟩ dL_law_1929 (fun r1 h1 hp => ?_)
  obtain ⟨r', rfl, b2, h2, t, o1, e2, o2, e3, e4, e5, hI2⟩ := hs2 r1 h1 hp
  show jx_J X (k + 1) (n + 6) 1932 [(0, .ref b), (1, .ref a), (2, .ref m), (3, .ref o), (4, .int (Int32.ofNat (4 * j)))] [.int (r')] h1
  refine j_istore (lv1 := [(5, .int (r')), (0, .ref b), (1, .ref a), (2, .ref m), (3, .ref o), (4, .int (Int32.ofNat (4 * j)))]) C hL dL_law_1932 (Nat.le_of_ble_eq_true rfl) rfl ?_
  refine j_aload_n C dL_law_1934 rfl rfl ?_
  refine j_aload_n C dL_law_1935 rfl rfl ?_
  refine j_iload C dL_law_1936 rfl ?_
  refine j_iconst (v := (1 : Int32)) C dL_law_1938 (by decide) ?_
  refine j_iadd C dL_law_1939 ?_
  refine j_sld C hX (lw_in1 hj hLL) dL_law_1940 ?_
  refine j_aload_n C dL_law_1941 rfl rfl ?_
  refine j_iload C dL_law_1942 rfl ?_
  refine j_iconst (v := (2 : Int32)) C dL_law_1944 (by decide) ?_
  refine j_iadd C dL_law_1945 ?_
  refine j_sld C hX (lw_in2 hj hLL) dL_law_1946 ?_
  refine j_callV (ci := 10) (RC := RX10) (T := TX10) (N := 38) (As := [.int (xs (Int32.ofNat (4 * j) + (1 : Int32)).toNatClampNeg), .int (xs (Int32.ofNat (4 * j) + (2 : Int32)).toNatClampNeg)]) (b := m) (na := 2) (st := []) (k1 := k + 1) (n1 := n + 6) C hr (sX10_point e2) rfl o1 kL_220 kim_X10_point ksel_X10_point kini_X10 kc_X10_point (by decide) rfl ⟨Nat.le_of_ble_eq_true rfl, Nat.le_of_ble_eq_true rfl⟩ (Nat.le_of_ble_eq_true rfl) ⟨rfl, rfl, by show _ ≤ 601024; omega, by show _ ≤ 7293034; omega⟩ dL_law_1947 ?_
  rintro _ _ ⟨rfl, rfl⟩
  show jx_J X (k + 1) (n + 6) 1950 [(5, .int (r')), (0, .ref b), (1, .ref a), (2, .ref m), (3, .ref o), (4, .int (Int32.ofNat (4 * j)))] [.int b2] h2
  refine j_istore (lv1 := [(6, .int b2), (5, .int (r')), (0, .ref b), (1, .ref a), (2, .ref m), (3, .ref o), (4, .int (Int32.ofNat (4 * j)))]) C hL dL_law_1950 (Nat.le_of_ble_eq_true rfl) rfl ?_
  refine j_aload_n C dL_law_1952 rfl rfl ?_
  refine j_callV (ci := 10) (RC := RX10) (T := TX10) (N := 38) (As := []) (b := m) (na := 0) (st := []) (k1 := k + 1) (n1 := n + 6) C hr (sX10_thrown e3) rfl o2 kL_114 kim_X10_thrown ksel_X10_thrown kini_X10 kc_X10_thrown (by decide) rfl ⟨Nat.le_of_ble_eq_true rfl, Nat.le_of_ble_eq_true rfl⟩ (Nat.le_of_ble_eq_true rfl) ⟨rfl, rfl, by show _ ≤ 601024; omega, by show _ ≤ 7293034; omega⟩ dL_law_1953 ?_
  rintro _ _ ⟨rfl, rfl⟩
  show jx_J X (k + 1) (n + 6) 1956 [(6, .int b2), (5, .int (r')), (0, .ref b), (1, .ref a), (2, .ref m), (3, .ref o), (4, .int (Int32.ofNat (4 * j)))] [.int t] h2
  refine j_iload C dL_law_1956 rfl ?_
  refine j_icmp_eq (tgt := 1963) C dL_law_1958 (by decide) (fun _ => ?_) (fun c => absurd e4 c)
  refine j_iload C dL_law_1963 rfl ?_
  refine j_if_ne (tgt := 1980) C dL_law_1965 (by decide) (fun _ => ?_) (fun hr0 => ?_)
  · refine j_goto (tgt := 2125) C dL_law_1980 (by decide) ?_
    refine jx_sub (lv' := [(0, .ref b), (1, .ref a), (2, .ref m), (3, .ref o), (4, .int (Int32.ofNat (4 * j)))]) [2, 3, 4, 5, 6] rfl ?_
    exact jx_widen (by omega) (by omega) (kk h2 hI2)
  · obtain ⟨z, ez, rfl⟩ := e5 hr0
    refine j_aload_n C dL_law_1968 rfl rfl ?_
    refine j_iconst (v := (0 : Int32)) C dL_law_1969 (by decide) ?_
    refine j_lald C dL_law_1970 ez ?_
    refine j_iload C dL_law_1971 rfl ?_
    refine j_i2l C dL_law_1973 ?_
    refine j_lcmp C dL_law_1974 ?_
    refine j_if_eq (tgt := 1980) C dL_law_1975 (by decide) (fun _ => ?_) (fun c => absurd (lw_cmp _) c)
    refine j_goto (tgt := 2125) C dL_law_1980 (by decide) ?_
    refine jx_sub (lv' := [(0, .ref b), (1, .ref a), (2, .ref m), (3, .ref o), (4, .int (Int32.ofNat (4 * j)))]) [2, 3, 4, 5, 6] rfl ?_
    exact jx_widen (by omega) (by omega) (kk h2 hI2)
set_option maxRecDepth 20000 in
set_option maxHeartbeats 4000000 in
theorem lc_fit {X : jx_X} {b a m o L j : Nat} {xs : Nat → Int32} {Inv : jx_H → Prop} {h : jx_H} {k n : Nat} {i : Int32} (C : jx_ok X cL_law RL) (hr : jx_r X room_1) (hL : jx_nl X 9) (hX : jx_S X b L xs) (hi : i = Int32.ofNat (4 * j)) (hj : 4 * j + 4 ≤ L) (hLL : L ≤ 2048) (hk : k + 40 ≤ 601024) (hn : n + 2000 ≤ 7293034) (hs : St_fit Inv a m o) (hI : Inv h)
    (kk : ∀ h2, Inv h2 → jx_J X (k + 40) (n + 2000) 2125 [(0, .ref b), (1, .ref a), (2, .ref m), (3, .ref o), (4, .int i)] [] h2) : jx_J X k n 1983 [(0, .ref b), (1, .ref a), (2, .ref m), (3, .ref o), (4, .int i)] [] h := by
  subst hi
  refine j_aload_n C dL_law_1983 rfl rfl ?_
  refine j_aload_n C dL_law_1984 rfl rfl ?_
  obtain ⟨r, e1, ho, hO, hE, hs2⟩ := hs h hI
  refine j_callSW (As := [.ref a, .ref o]) (na := 2) (st := []) (k1 := k + 9) (n1 := n + 255) C hr (sL_fit e1 ho hO hE) kL_221 kst_L_fit kini_L kcw_L_fit (by decide) rfl ⟨Nat.le_of_ble_eq_true rfl, Nat.le_of_ble_eq_true rfl⟩ (Nat.le_of_ble_eq_true rfl) ⟨rfl, rfl, by show _ + 9 ≤ 601024; omega, by show _ + 255 ≤ 7293034; omega⟩ dL_law_1985 (fun r1 h1 hp => ?_)
  obtain ⟨r', rfl, b2, h2, t, o1, e2, o2, e3, e4, e5, hI2⟩ := hs2 r1 h1 hp
  show jx_J X (k + 9) (n + 255) 1988 [(0, .ref b), (1, .ref a), (2, .ref m), (3, .ref o), (4, .int (Int32.ofNat (4 * j)))] [.int (r')] h1
  refine j_istore (lv1 := [(5, .int (r')), (0, .ref b), (1, .ref a), (2, .ref m), (3, .ref o), (4, .int (Int32.ofNat (4 * j)))]) C hL dL_law_1988 (Nat.le_of_ble_eq_true rfl) rfl ?_
  refine j_aload_n C dL_law_1990 rfl rfl ?_
  refine j_callV (ci := 10) (RC := RX10) (T := TX10) (N := 38) (As := []) (b := m) (na := 0) (st := []) (k1 := k + 9) (n1 := n + 255) C hr (sX10_fit e2) rfl o1 kL_224 kim_X10_fit ksel_X10_fit kini_X10 kc_X10_fit (by decide) rfl ⟨Nat.le_of_ble_eq_true rfl, Nat.le_of_ble_eq_true rfl⟩ (Nat.le_of_ble_eq_true rfl) ⟨rfl, rfl, by show _ ≤ 601024; omega, by show _ ≤ 7293034; omega⟩ dL_law_1991 ?_
  rintro _ _ ⟨rfl, rfl⟩
  show jx_J X (k + 9) (n + 255) 1994 [(5, .int (r')), (0, .ref b), (1, .ref a), (2, .ref m), (3, .ref o), (4, .int (Int32.ofNat (4 * j)))] [.int b2] h2
  refine j_istore (lv1 := [(6, .int b2), (5, .int (r')), (0, .ref b), (1, .ref a), (2, .ref m), (3, .ref o), (4, .int (Int32.ofNat (4 * j)))]) C hL dL_law_1994 (Nat.le_of_ble_eq_true rfl) rfl ?_
  refine j_aload_n C dL_law_1996 rfl rfl ?_
  refine j_callV (ci := 10) (RC := RX10) (T := TX10) (N := 38) (As := []) (b := m) (na := 0) (st := []) (k1 := k + 9) (n1 := n + 255) C hr (sX10_thrown e3) rfl o2 kL_114 kim_X10_thrown ksel_X10_thrown kini_X10 kc_X10_thrown (by decide) rfl ⟨Nat.le_of_ble_eq_true rfl, Nat.le_of_ble_eq_true rfl⟩ (Nat.le_of_ble_eq_true rfl) ⟨rfl, rfl, by show _ ≤ 601024; omega, by show _ ≤ 7293034; omega⟩ dL_law_1997 ?_
  rintro _ _ ⟨rfl, rfl⟩
  show jx_J X (k + 9) (n + 255) 2000 [(6, .int b2), (5, .int (r')), (0, .ref b), (1, .ref a), (2, .ref m), (3, .ref o), (4, .int (Int32.ofNat (4 * j)))] [.int t] h2
  refine j_iload C dL_law_2000 rfl ?_
  refine j_icmp_eq (tgt := 2007) C dL_law_2002 (by decide) (fun _ => ?_) (fun c => absurd e4 c)
  refine j_iload C dL_law_2007 rfl ?_
  refine j_if_ne (tgt := 2024) C dL_law_2009 (by decide) (fun _ => ?_) (fun hr0 => ?_)
  · refine j_goto (tgt := 2125) C dL_law_2024 (by decide) ?_
    refine jx_sub (lv' := [(0, .ref b), (1, .ref a), (2, .ref m), (3, .ref o), (4, .int (Int32.ofNat (4 * j)))]) [2, 3, 4, 5, 6] rfl ?_
    exact jx_widen (by omega) (by omega) (kk h2 hI2)
  · obtain ⟨z, ez, rfl⟩ := e5 hr0
    refine j_aload_n C dL_law_2012 rfl rfl ?_
    refine j_iconst (v := (0 : Int32)) C dL_law_2013 (by decide) ?_
    refine j_lald C dL_law_2014 ez ?_
    refine j_iload C dL_law_2015 rfl ?_
    refine j_i2l C dL_law_2017 ?_
    refine j_lcmp C dL_law_2018 ?_
    refine j_if_eq (tgt := 2024) C dL_law_2019 (by decide) (fun _ => ?_) (fun c => absurd (lw_cmp _) c)
    refine j_goto (tgt := 2125) C dL_law_2024 (by decide) ?_
    refine jx_sub (lv' := [(0, .ref b), (1, .ref a), (2, .ref m), (3, .ref o), (4, .int (Int32.ofNat (4 * j)))]) [2, 3, 4, 5, 6] rfl ?_
    exact jx_widen (by omega) (by omega) (kk h2 hI2)
set_option maxRecDepth 20000 in
set_option maxHeartbeats 4000000 in
theorem lc_misfits {X : jx_X} {b a m o L j : Nat} {xs : Nat → Int32} {Inv : jx_H → Prop} {h : jx_H} {k n : Nat} {i : Int32} (C : jx_ok X cL_law RL) (hr : jx_r X room_1) (hL : jx_nl X 9) (hX : jx_S X b L xs) (hi : i = Int32.ofNat (4 * j)) (hj : 4 * j + 4 ≤ L) (hLL : L ≤ 2048) (hk : k + 40 ≤ 601024) (hn : n + 2000 ≤ 7293034) (hs : St_misfits Inv a m) (hI : Inv h)
    (kk : ∀ h2, Inv h2 → jx_J X (k + 40) (n + 2000) 2125 [(0, .ref b), (1, .ref a), (2, .ref m), (3, .ref o), (4, .int i)] [] h2) : jx_J X k n 2027 [(0, .ref b), (1, .ref a), (2, .ref m), (3, .ref o), (4, .int i)] [] h := by
  subst hi
  refine j_aload_n C dL_law_2027 rfl rfl ?_
  obtain ⟨v1, h1, o1, e1, o2, b2, h2, e2, e4, hI2⟩ := hs h hI
  refine j_callV (ci := 9) (RC := RX9) (T := TX9) (N := 14) (As := []) (b := a) (na := 0) (st := []) (k1 := k) (n1 := n) C hr (sX9_misfits e1) rfl o1 kL_225 kim_X9_misfits ksel_X9_misfits kini_X9 kc_X9_misfits (by decide) rfl ⟨Nat.le_of_ble_eq_true rfl, Nat.le_of_ble_eq_true rfl⟩ (Nat.le_of_ble_eq_true rfl) ⟨rfl, rfl, by show _ ≤ 601024; omega, by show _ ≤ 7293034; omega⟩ dL_law_2028 ?_
  rintro _ _ ⟨rfl, rfl⟩
  show jx_J X k n 2031 [(0, .ref b), (1, .ref a), (2, .ref m), (3, .ref o), (4, .int (Int32.ofNat (4 * j)))] [.int v1] h1
  refine j_aload_n C dL_law_2031 rfl rfl ?_
  refine j_callV (ci := 10) (RC := RX10) (T := TX10) (N := 38) (As := []) (b := m) (na := 0) (st := [.int v1]) (k1 := k) (n1 := n) C hr (sX10_misfits e2) rfl o2 kL_228 kim_X10_misfits ksel_X10_misfits kini_X10 kc_X10_misfits (by decide) rfl ⟨Nat.le_of_ble_eq_true rfl, Nat.le_of_ble_eq_true rfl⟩ (Nat.le_of_ble_eq_true rfl) ⟨rfl, rfl, by show _ ≤ 601024; omega, by show _ ≤ 7293034; omega⟩ dL_law_2032 ?_
  rintro _ _ ⟨rfl, rfl⟩
  show jx_J X k n 2035 [(0, .ref b), (1, .ref a), (2, .ref m), (3, .ref o), (4, .int (Int32.ofNat (4 * j)))] [.int b2, .int v1] h2
  refine j_icmp_eq (tgt := 2125) C dL_law_2035 (by decide) (fun _ => ?_) (fun c => absurd e4 c)
  refine jx_sub (lv' := [(0, .ref b), (1, .ref a), (2, .ref m), (3, .ref o), (4, .int (Int32.ofNat (4 * j)))]) [0, 1, 2, 3, 4] rfl ?_
  exact jx_widen (by omega) (by omega) (kk h2 hI2)
set_option maxRecDepth 20000 in
set_option maxHeartbeats 4000000 in
theorem lc_undo {X : jx_X} {b a m o L j : Nat} {xs : Nat → Int32} {Inv : jx_H → Prop} {h : jx_H} {k n : Nat} {i : Int32} (C : jx_ok X cL_law RL) (hr : jx_r X room_1) (hL : jx_nl X 9) (hX : jx_S X b L xs) (hi : i = Int32.ofNat (4 * j)) (hj : 4 * j + 4 ≤ L) (hLL : L ≤ 2048) (hk : k + 40 ≤ 601024) (hn : n + 2000 ≤ 7293034) (hs : St_undo Inv a m) (hI : Inv h)
    (kk : ∀ h2, Inv h2 → jx_J X (k + 40) (n + 2000) 2125 [(0, .ref b), (1, .ref a), (2, .ref m), (3, .ref o), (4, .int i)] [] h2) : jx_J X k n 2040 [(0, .ref b), (1, .ref a), (2, .ref m), (3, .ref o), (4, .int i)] [] h := by
  subst hi
  refine j_aload_n C dL_law_2040 rfl rfl ?_
  obtain ⟨v1, h1, o1, e1, o2, b2, h2, e2, e4, hI2⟩ := hs h hI
  refine j_callV (ci := 9) (RC := RX9) (T := TX9) (N := 14) (As := []) (b := a) (na := 0) (st := []) (k1 := k) (n1 := n) C hr (sX9_undo e1) rfl o1 kL_229 kim_X9_undo ksel_X9_undo kini_X9 kc_X9_undo (by decide) rfl ⟨Nat.le_of_ble_eq_true rfl, Nat.le_of_ble_eq_true rfl⟩ (Nat.le_of_ble_eq_true rfl) ⟨rfl, rfl, by show _ ≤ 601024; omega, by show _ ≤ 7293034; omega⟩ dL_law_2041 ?_
  rintro _ _ ⟨rfl, rfl⟩
  show jx_J X k n 2044 [(0, .ref b), (1, .ref a), (2, .ref m), (3, .ref o), (4, .int (Int32.ofNat (4 * j)))] [.int v1] h1
  refine j_aload_n C dL_law_2044 rfl rfl ?_
  refine j_callV (ci := 10) (RC := RX10) (T := TX10) (N := 38) (As := []) (b := m) (na := 0) (st := [.int v1]) (k1 := k) (n1 := n) C hr (sX10_undo e2) rfl o2 kL_232 kim_X10_undo ksel_X10_undo kini_X10 kc_X10_undo (by decide) rfl ⟨Nat.le_of_ble_eq_true rfl, Nat.le_of_ble_eq_true rfl⟩ (Nat.le_of_ble_eq_true rfl) ⟨rfl, rfl, by show _ ≤ 601024; omega, by show _ ≤ 7293034; omega⟩ dL_law_2045 ?_
  rintro _ _ ⟨rfl, rfl⟩
  show jx_J X k n 2048 [(0, .ref b), (1, .ref a), (2, .ref m), (3, .ref o), (4, .int (Int32.ofNat (4 * j)))] [.int b2, .int v1] h2
  refine j_icmp_eq (tgt := 2125) C dL_law_2048 (by decide) (fun _ => ?_) (fun c => absurd e4 c)
  refine jx_sub (lv' := [(0, .ref b), (1, .ref a), (2, .ref m), (3, .ref o), (4, .int (Int32.ofNat (4 * j)))]) [0, 1, 2, 3, 4] rfl ?_
  exact jx_widen (by omega) (by omega) (kk h2 hI2)
set_option maxRecDepth 20000 in
set_option maxHeartbeats 4000000 in
theorem lc_save {X : jx_X} {b a m o L j : Nat} {xs : Nat → Int32} {Inv : jx_H → Prop} {h : jx_H} {k n : Nat} {i : Int32} (C : jx_ok X cL_law RL) (hr : jx_r X room_1) (hL : jx_nl X 9) (hX : jx_S X b L xs) (hi : i = Int32.ofNat (4 * j)) (hj : 4 * j + 4 ≤ L) (hLL : L ≤ 2048) (hk : k + 40 ≤ 601024) (hn : n + 2000 ≤ 7293034) (hs : St_save Inv a m) (hI : Inv h)
    (kk : ∀ h2, Inv h2 → jx_J X (k + 40) (n + 2000) 2125 [(0, .ref b), (1, .ref a), (2, .ref m), (3, .ref o), (4, .int i)] [] h2) : jx_J X k n 2053 [(0, .ref b), (1, .ref a), (2, .ref m), (3, .ref o), (4, .int i)] [] h := by
  subst hi
  refine j_aload_n C dL_law_2053 rfl rfl ?_
  refine j_aload_n C dL_law_2054 rfl rfl ?_
  refine j_iload C dL_law_2055 rfl ?_
  refine j_iconst (v := (1 : Int32)) C dL_law_2057 (by decide) ?_
  refine j_iadd C dL_law_2058 ?_
  refine j_sld C hX (lw_in1 hj hLL) dL_law_2059 ?_
  obtain ⟨r, e1, ho, hE, hs2⟩ := hs h _ hI
  refine j_callSW (As := [.ref a, .int (xs (Int32.ofNat (4 * j) + (1 : Int32)).toNatClampNeg)]) (na := 2) (st := []) (k1 := k + 9) (n1 := n + 255) C hr (sL_save e1 ho hE) kL_233 kst_L_save kini_L kcw_L_save (by decide) rfl ⟨Nat.le_of_ble_eq_true rfl, Nat.le_of_ble_eq_true rfl⟩ (Nat.le_of_ble_eq_true rfl) ⟨rfl, rfl, by show _ + 9 ≤ 601024; omega, by show _ + 255 ≤ 7293034; omega⟩ dL_law_2060 (fun r1 h1 hp => ?_)
  obtain ⟨r', rfl, h2, t, o1, e2, o2, e3, e4, hI2⟩ := hs2 r1 h1 hp
  show jx_J X (k + 9) (n + 255) 2063 [(0, .ref b), (1, .ref a), (2, .ref m), (3, .ref o), (4, .int (Int32.ofNat (4 * j)))] [.int (r')] h1
  refine j_istore (lv1 := [(5, .int (r')), (0, .ref b), (1, .ref a), (2, .ref m), (3, .ref o), (4, .int (Int32.ofNat (4 * j)))]) C hL dL_law_2063 (Nat.le_of_ble_eq_true rfl) rfl ?_
  refine j_aload_n C dL_law_2065 rfl rfl ?_
  refine j_aload_n C dL_law_2066 rfl rfl ?_
  refine j_iload C dL_law_2067 rfl ?_
  refine j_iconst (v := (1 : Int32)) C dL_law_2069 (by decide) ?_
  refine j_iadd C dL_law_2070 ?_
  refine j_sld C hX (lw_in1 hj hLL) dL_law_2071 ?_
  refine j_callV (ci := 10) (RC := RX10) (T := TX10) (N := 38) (As := [.int (xs (Int32.ofNat (4 * j) + (1 : Int32)).toNatClampNeg)]) (b := m) (na := 1) (st := []) (k1 := k + 9) (n1 := n + 255) C hr (sX10_save e2) rfl o1 kL_236 kim_X10_save ksel_X10_save kini_X10 kc_X10_save (by decide) rfl ⟨Nat.le_of_ble_eq_true rfl, Nat.le_of_ble_eq_true rfl⟩ (Nat.le_of_ble_eq_true rfl) ⟨rfl, rfl, by show _ ≤ 601024; omega, by show _ ≤ 7293034; omega⟩ dL_law_2072 ?_
  rintro _ _ ⟨rfl, rfl⟩
  show jx_J X (k + 9) (n + 255) 2075 [(5, .int (r')), (0, .ref b), (1, .ref a), (2, .ref m), (3, .ref o), (4, .int (Int32.ofNat (4 * j)))] [] h2
  refine j_aload_n C dL_law_2075 rfl rfl ?_
  refine j_callV (ci := 10) (RC := RX10) (T := TX10) (N := 38) (As := []) (b := m) (na := 0) (st := []) (k1 := k + 9) (n1 := n + 255) C hr (sX10_thrown e3) rfl o2 kL_114 kim_X10_thrown ksel_X10_thrown kini_X10 kc_X10_thrown (by decide) rfl ⟨Nat.le_of_ble_eq_true rfl, Nat.le_of_ble_eq_true rfl⟩ (Nat.le_of_ble_eq_true rfl) ⟨rfl, rfl, by show _ ≤ 601024; omega, by show _ ≤ 7293034; omega⟩ dL_law_2076 ?_
  rintro _ _ ⟨rfl, rfl⟩
  show jx_J X (k + 9) (n + 255) 2079 [(5, .int (r')), (0, .ref b), (1, .ref a), (2, .ref m), (3, .ref o), (4, .int (Int32.ofNat (4 * j)))] [.int t] h2
  refine j_iload C dL_law_2079 rfl ?_
  refine j_icmp_eq (tgt := 2086) C dL_law_2081 (by decide) (fun _ => ?_) (fun c => absurd e4 c)
  refine j_goto (tgt := 2125) C dL_law_2086 (by decide) ?_
  refine jx_sub (lv' := [(0, .ref b), (1, .ref a), (2, .ref m), (3, .ref o), (4, .int (Int32.ofNat (4 * j)))]) [1, 2, 3, 4, 5] rfl ?_
  exact jx_widen (by omega) (by omega) (kk h2 hI2)
set_option maxRecDepth 20000 in
set_option maxHeartbeats 4000000 in
theorem lc_restore {X : jx_X} {b a m o L j : Nat} {xs : Nat → Int32} {Inv : jx_H → Prop} {h : jx_H} {k n : Nat} {i : Int32} (C : jx_ok X cL_law RL) (hr : jx_r X room_1) (hL : jx_nl X 9) (hX : jx_S X b L xs) (hi : i = Int32.ofNat (4 * j)) (hj : 4 * j + 4 ≤ L) (hLL : L ≤ 2048) (hk : k + 40 ≤ 601024) (hn : n + 2000 ≤ 7293034) (hs : St_restore Inv a m) (hI : Inv h)
    (kk : ∀ h2, Inv h2 → jx_J X (k + 40) (n + 2000) 2125 [(0, .ref b), (1, .ref a), (2, .ref m), (3, .ref o), (4, .int i)] [] h2) : jx_J X k n 2089 [(0, .ref b), (1, .ref a), (2, .ref m), (3, .ref o), (4, .int i)] [] h := by
  subst hi
  refine j_aload_n C dL_law_2089 rfl rfl ?_
  refine j_aload_n C dL_law_2090 rfl rfl ?_
  refine j_iload C dL_law_2091 rfl ?_
  refine j_iconst (v := (1 : Int32)) C dL_law_2093 (by decide) ?_
  refine j_iadd C dL_law_2094 ?_
  refine j_sld C hX (lw_in1 hj hLL) dL_law_2095 ?_
  obtain ⟨r, e1, ho, hE, hs2⟩ := hs h _ hI
  refine j_callSW (As := [.ref a, .int (xs (Int32.ofNat (4 * j) + (1 : Int32)).toNatClampNeg)]) (na := 2) (st := []) (k1 := k + 1) (n1 := n + 6) C hr (sL_restore e1 ho hE) kL_237 kst_L_restore kini_L kcw_L_restore (by decide) rfl ⟨Nat.le_of_ble_eq_true rfl, Nat.le_of_ble_eq_true rfl⟩ (Nat.le_of_ble_eq_true rfl) ⟨rfl, rfl, by show _ + 1 ≤ 601024; omega, by show _ + 6 ≤ 7293034; omega⟩ dL_law_2096 (fun r1 h1 hp => ?_)
  obtain ⟨r', rfl, h2, t, o1, e2, o2, e3, e4, hI2⟩ := hs2 r1 h1 hp
  show jx_J X (k + 1) (n + 6) 2099 [(0, .ref b), (1, .ref a), (2, .ref m), (3, .ref o), (4, .int (Int32.ofNat (4 * j)))] [.int (r')] h1
  refine j_istore (lv1 := [(5, .int (r')), (0, .ref b), (1, .ref a), (2, .ref m), (3, .ref o), (4, .int (Int32.ofNat (4 * j)))]) C hL dL_law_2099 (Nat.le_of_ble_eq_true rfl) rfl ?_
  refine j_aload_n C dL_law_2101 rfl rfl ?_
  refine j_aload_n C dL_law_2102 rfl rfl ?_
  refine j_iload C dL_law_2103 rfl ?_
  refine j_iconst (v := (1 : Int32)) C dL_law_2105 (by decide) ?_
  refine j_iadd C dL_law_2106 ?_
  refine j_sld C hX (lw_in1 hj hLL) dL_law_2107 ?_
  refine j_callV (ci := 10) (RC := RX10) (T := TX10) (N := 38) (As := [.int (xs (Int32.ofNat (4 * j) + (1 : Int32)).toNatClampNeg)]) (b := m) (na := 1) (st := []) (k1 := k + 1) (n1 := n + 6) C hr (sX10_restore e2) rfl o1 kL_239 kim_X10_restore ksel_X10_restore kini_X10 kc_X10_restore (by decide) rfl ⟨Nat.le_of_ble_eq_true rfl, Nat.le_of_ble_eq_true rfl⟩ (Nat.le_of_ble_eq_true rfl) ⟨rfl, rfl, by show _ ≤ 601024; omega, by show _ ≤ 7293034; omega⟩ dL_law_2108 ?_
  rintro _ _ ⟨rfl, rfl⟩
  show jx_J X (k + 1) (n + 6) 2111 [(5, .int (r')), (0, .ref b), (1, .ref a), (2, .ref m), (3, .ref o), (4, .int (Int32.ofNat (4 * j)))] [] h2
  refine j_aload_n C dL_law_2111 rfl rfl ?_
  refine j_callV (ci := 10) (RC := RX10) (T := TX10) (N := 38) (As := []) (b := m) (na := 0) (st := []) (k1 := k + 1) (n1 := n + 6) C hr (sX10_thrown e3) rfl o2 kL_114 kim_X10_thrown ksel_X10_thrown kini_X10 kc_X10_thrown (by decide) rfl ⟨Nat.le_of_ble_eq_true rfl, Nat.le_of_ble_eq_true rfl⟩ (Nat.le_of_ble_eq_true rfl) ⟨rfl, rfl, by show _ ≤ 601024; omega, by show _ ≤ 7293034; omega⟩ dL_law_2112 ?_
  rintro _ _ ⟨rfl, rfl⟩
  show jx_J X (k + 1) (n + 6) 2115 [(5, .int (r')), (0, .ref b), (1, .ref a), (2, .ref m), (3, .ref o), (4, .int (Int32.ofNat (4 * j)))] [.int t] h2
  refine j_iload C dL_law_2115 rfl ?_
  refine j_icmp_eq (tgt := 2122) C dL_law_2117 (by decide) (fun _ => ?_) (fun c => absurd e4 c)
  refine j_goto (tgt := 2125) C dL_law_2122 (by decide) ?_
  refine jx_sub (lv' := [(0, .ref b), (1, .ref a), (2, .ref m), (3, .ref o), (4, .int (Int32.ofNat (4 * j)))]) [1, 2, 3, 4, 5] rfl ?_
  exact jx_widen (by omega) (by omega) (kk h2 hI2)
