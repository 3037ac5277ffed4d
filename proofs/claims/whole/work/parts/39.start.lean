/-! THE CLAIM OUT OF ONE WALK OF THE LAW'S BODY. Your part is whole_start (and what it stands on); all else here is the same for every law, but numbers. -/
def R_law : String := "BorderBasisLaw"
def lw_P (b : Addr) (xs : List Int32) (args : Array Value) (s : State) : Prop := args = #[.ref b] ∧ s.IntsAt b xs ∧ xs.length ≤ 2048 ∧ (Jvm.Cond.and given_1 narrow_1).before args s = true
/-- what a walk over the start with the record d0 says of its end, said of the start itself -/
theorem lw_closed {s t : State} {o : Outcome} {d0 : Drawn} {L : List Loc} {k n : Nat} (hd0 : s.drawn.sameBut d0 lw_cs) (hv : ∃ v, o = .returned v) (hW : (s.setDrawn d0).WarmedH t.vm) (hs : (s.setDrawn d0).sameButNew ({ t with vm := s.vm } : State) L k n) : State.butDraws s t lw_cs (fun t1 => Framed s o t1 L k n) := by
  have h2 : t.drawn = d0 := congrArg State.drawn hs.1
  refine ⟨⟨hv, hW, State.sameButNew.setDrawn hs s.drawn⟩, ?_, by decide⟩
  rw [h2]
  exact hd0
def lw_Q (_ : Array Value) (s : State) (o : Outcome) (t : State) : Prop := o = .returned (some (.int 1)) ∧ State.butDraws s t lw_cs (fun t1 => Framed s o t1 [] 601024 7293034)
def lw_Z (below : List Frame) (a : Array Value) (s : State) : State → Prop := fun t => ∃ o, t.status = .running ∧ Ended t below o ∧ lw_Q a s o t
/-- the law's own end, with 1 on the stack, nothing written that was there before, its room as the claim has it; d0: the record of draws at this point (at the entry s.drawn: begin with 'refine W.base ?_' and 'have hd0 := Drawn.sameBut.refl s.drawn lw_cs') -/
theorem lw_ret {p : Program} {l : Launch} {e : Env} {s : State} {m : MethodId} {below : List Frame} {meth : Method} {c : Code} {b : Nat} {d0 : Drawn} (hd0 : s.drawn.sameBut d0 lw_cs) (hx : p.tables.exec = Jvm.exec) (hb : c.code = code) (hr : meth.sig.returnType = ret) (hlocks : meth.locks = false) {pc : Nat} {H : Heap} {ls : Array Slot} (hdg : decode code pc = .ok (.ireturn, 1)) : W p l e room_1 (s.setDrawn d0) m #[Value.ref b] below meth c H [] 601024 7293034 (lw_Z below #[Value.ref b] s) (F0 m pc ls [.int 1]) := by
  intro T hT X
  obtain ⟨fs, hret, hrun, hended, hW, hframe⟩ := X.leave (v := some (.int 1)) (hlocks := hlocks) (fun h => by rw [hr] at h; cases h)
  have hmeth' : T.vm.method? m = some meth := X.method'
  refine ⟨T.setFrames fs, ?_, .returned (some (.int 1)), hrun, hended, rfl, lw_closed hd0 ⟨_, rfl⟩ hW hframe⟩
  jvm_step X.here [X.here.top, hx, hb, hdg, hmeth', hr, ret, narrow_b1]
  (try refine ⟨rfl, ?_⟩); (try refine ⟨rfl, ?_⟩)
  first | (intro acts; rw [hret _ acts rfl rfl rfl]) | rw [hret _ _ rfl rfl rfl]
  exact Steps.refl _
/-- what holds at the law's entry: the machine, the code, the tables' words (any of lw_tbl by 'hts w (by decide +kernel)'), the script of L ints xs at the cell b, what the Statement gives of the start (any of its parts by flat_of_before) -/
def lw_At (p : Program) (s : State) (m : MethodId) (meth : Method) (c : Code) (b L : Nat) (xs : Nat → Int32) : Prop :=
  p.tables.exec = Jvm.exec ∧ c.code = code ∧ meth.sig.returnType = ret ∧ c.maxLocals = 9 ∧ s.vm.findClass R_law = some m.cls ∧ (∀ w ∈ lw_tbl, w.before #[Value.ref b] s = true) ∧ va_X b L xs s s.heap ∧ b < s.heap.size ∧ meth.locks = false ∧ (Jvm.Cond.and given_1 narrow_1).before #[Value.ref b] s = true
theorem lw_nw {A : Array Value} {w : Cond} {s : State} (hw : jx_tw w = true) (h : w.before A s = true) : va_Nw w s := by
  have gen : (w.onTables && (w.keeps || w.keepsFace)) = true → va_Nw w s := by
    intro g
    simp only [Bool.and_eq_true, Bool.or_eq_true] at g
    exact va_Nw.of g.1 h
  cases w <;> first | exact va_Nw.of rfl h | exact gen hw | exact h
theorem lw_nsl : ∀ i, i < 5 → jx_sl.getD i 0 < 2 ^ 31 := by decide +kernel
set_option maxRecDepth 200000 in
set_option maxHeartbeats 8000000 in
theorem lw_str {A : Array Value} {s : State} {Z : Nat → Prop} (hs : ∀ w ∈ flatC (Jvm.Cond.and given_1 narrow_1), w.before A s = true) (hA : ∀ a : Nat, a < s.heap.size → ¬ Z a) : ∃ adK adV : Nat → Nat, vk_S 5 jx_sl jx_sb adK adV Z s s.heap ∧ ∀ i : Nat, i < 5 → (Term.string "BorderBasis$Parser" (jx_sk i)).eval A s none [] s = some (.ref (adK i)) := by
  refine vk_Sof (tm := fun i => Term.string "BorderBasis$Parser" (jx_sk i)) lw_nsl ?_ ?_ ?_ ?_ ?_ ?_ hA
  · intro i hi
    match i, hi with
    | 0, _ => exact hs _ (by decide +kernel)
    | 1, _ => exact hs _ (by decide +kernel)
    | 2, _ => exact hs _ (by decide +kernel)
    | 3, _ => exact hs _ (by decide +kernel)
    | 4, _ => exact hs _ (by decide +kernel)
    | n + 5, h => exact absurd h (by omega)
  · intro i hi
    match i, hi with
    | 0, _ => exact hs _ (by decide +kernel)
    | 1, _ => exact hs _ (by decide +kernel)
    | 2, _ => exact hs _ (by decide +kernel)
    | 3, _ => exact hs _ (by decide +kernel)
    | 4, _ => exact hs _ (by decide +kernel)
    | n + 5, h => exact absurd h (by omega)
  · intro i hi
    match i, hi with
    | 0, _ => exact hs _ (by decide +kernel)
    | 1, _ => exact hs _ (by decide +kernel)
    | 2, _ => exact hs _ (by decide +kernel)
    | 3, _ => exact hs _ (by decide +kernel)
    | 4, _ => exact hs _ (by decide +kernel)
    | n + 5, h => exact absurd h (by omega)
  · intro i hi
    match i, hi with
    | 0, _ => exact hs _ (by decide +kernel)
    | 1, _ => exact hs _ (by decide +kernel)
    | 2, _ => exact hs _ (by decide +kernel)
    | 3, _ => exact hs _ (by decide +kernel)
    | 4, _ => exact hs _ (by decide +kernel)
    | n + 5, h => exact absurd h (by omega)
  · intro i hi j hj
    match i, hi with
    | 0, _ =>
      match j, hj with
      | 0, _ => exact hs _ (by decide +kernel)
      | 1, _ => exact hs _ (by decide +kernel)
      | 2, _ => exact hs _ (by decide +kernel)
      | 3, _ => exact hs _ (by decide +kernel)
      | n + 4, h => exact absurd h (by show ¬ n + 4 < 4; omega)
    | 1, _ =>
      match j, hj with
      | 0, _ => exact hs _ (by decide +kernel)
      | 1, _ => exact hs _ (by decide +kernel)
      | 2, _ => exact hs _ (by decide +kernel)
      | 3, _ => exact hs _ (by decide +kernel)
      | n + 4, h => exact absurd h (by show ¬ n + 4 < 4; omega)
    | 2, _ =>
      match j, hj with
      | 0, _ => exact hs _ (by decide +kernel)
      | 1, _ => exact hs _ (by decide +kernel)
      | n + 2, h => exact absurd h (by show ¬ n + 2 < 2; omega)
    | 3, _ =>
      match j, hj with
      | 0, _ => exact hs _ (by decide +kernel)
      | 1, _ => exact hs _ (by decide +kernel)
      | 2, _ => exact hs _ (by decide +kernel)
      | 3, _ => exact hs _ (by decide +kernel)
      | 4, _ => exact hs _ (by decide +kernel)
      | n + 5, h => exact absurd h (by show ¬ n + 5 < 5; omega)
    | 4, _ =>
      match j, hj with
      | 0, _ => exact hs _ (by decide +kernel)
      | 1, _ => exact hs _ (by decide +kernel)
      | 2, _ => exact hs _ (by decide +kernel)
      | 3, _ => exact hs _ (by decide +kernel)
      | 4, _ => exact hs _ (by decide +kernel)
      | n + 5, h => exact absurd h (by show ¬ n + 5 < 5; omega)
    | n + 5, h => exact absurd h (by omega)
  · intro i j hi hj hij
    match i, hi with
    | 0, _ =>
      match j, hj with
      | 0, _ => exact absurd rfl hij
      | 1, _ => exact Or.inl (hs _ (by decide +kernel))
      | 2, _ => exact Or.inl (hs _ (by decide +kernel))
      | 3, _ => exact Or.inl (hs _ (by decide +kernel))
      | 4, _ => exact Or.inl (hs _ (by decide +kernel))
      | n + 5, h => exact absurd h (by omega)
    | 1, _ =>
      match j, hj with
      | 0, _ => exact Or.inr (hs _ (by decide +kernel))
      | 1, _ => exact absurd rfl hij
      | 2, _ => exact Or.inl (hs _ (by decide +kernel))
      | 3, _ => exact Or.inl (hs _ (by decide +kernel))
      | 4, _ => exact Or.inl (hs _ (by decide +kernel))
      | n + 5, h => exact absurd h (by omega)
    | 2, _ =>
      match j, hj with
      | 0, _ => exact Or.inr (hs _ (by decide +kernel))
      | 1, _ => exact Or.inr (hs _ (by decide +kernel))
      | 2, _ => exact absurd rfl hij
      | 3, _ => exact Or.inl (hs _ (by decide +kernel))
      | 4, _ => exact Or.inl (hs _ (by decide +kernel))
      | n + 5, h => exact absurd h (by omega)
    | 3, _ =>
      match j, hj with
      | 0, _ => exact Or.inr (hs _ (by decide +kernel))
      | 1, _ => exact Or.inr (hs _ (by decide +kernel))
      | 2, _ => exact Or.inr (hs _ (by decide +kernel))
      | 3, _ => exact absurd rfl hij
      | 4, _ => exact Or.inl (hs _ (by decide +kernel))
      | n + 5, h => exact absurd h (by omega)
    | 4, _ =>
      match j, hj with
      | 0, _ => exact Or.inr (hs _ (by decide +kernel))
      | 1, _ => exact Or.inr (hs _ (by decide +kernel))
      | 2, _ => exact Or.inr (hs _ (by decide +kernel))
      | 3, _ => exact Or.inr (hs _ (by decide +kernel))
      | 4, _ => exact absurd rfl hij
      | n + 5, h => exact absurd h (by omega)
    | n + 5, h => exact absurd h (by omega)
set_option maxRecDepth 200000 in
set_option maxHeartbeats 8000000 in
theorem lw_F {A : Array Value} {s : State} {Z : Nat → Prop} (hts : ∀ w ∈ lw_tbl, w.before A s = true) (hg : (Jvm.Cond.and given_1 narrow_1).before A s = true) (hA : ∀ a : Nat, a < s.heap.size → ¬ Z a) : ∃ D : jx_D, jx_F D Z s s.heap := by
  have hs := flat_of_before _ hg
  obtain ⟨c0, iS0, hK0⟩ := u_known (C := RX0) (T := TX0) hts (fun w hw => (klX0 w hw).1) (hts _ kins_X0.1)
  obtain ⟨c1, iS1, hK1⟩ := u_known (C := RX1) (T := TX1) hts (fun w hw => (klX1 w hw).1) (hts _ kins_X1.1)
  obtain ⟨c2, iS2, hK2⟩ := u_known (C := RX2) (T := TX2) hts (fun w hw => (klX2 w hw).1) (hts _ kins_X2.1)
  obtain ⟨c3, iS3, hK3⟩ := u_known (C := RX3) (T := TX3) hts (fun w hw => (klX3 w hw).1) (hts _ kins_X3.1)
  obtain ⟨c4, iS4, hK4⟩ := u_known (C := RX4) (T := TX4) hts (fun w hw => (klX4 w hw).1) (hts _ kins_X4.1)
  obtain ⟨c5, iS5, hK5⟩ := u_known (C := RX5) (T := TX5) hts (fun w hw => (klX5 w hw).1) (hts _ kins_X5.1)
  obtain ⟨c6, iS6, hK6⟩ := u_known (C := RX6) (T := TX6) hts (fun w hw => (klX6 w hw).1) (hts _ kins_X6.1)
  obtain ⟨c7, iS7, hK7⟩ := u_known (C := RX7) (T := TX7) hts (fun w hw => (klX7 w hw).1) (hts _ kins_X7.1)
  obtain ⟨c8, iS8, hK8⟩ := u_known (C := RX8) (T := TX8) hts (fun w hw => (klX8 w hw).1) (hts _ kins_X8.1)
  obtain ⟨c9, iS9, hK9⟩ := u_known (C := RX9) (T := TX9) hts (fun w hw => (klX9 w hw).1) (hts _ kins_X9.1)
  obtain ⟨c10, iS10, hK10⟩ := u_known (C := RX10) (T := TX10) hts (fun w hw => (klX10 w hw).1) (hts _ kins_X10.1)
  obtain ⟨adK, adV, hS, hR⟩ := lw_str hs hA
  refine ⟨((fun k => if k = 0 then c0 else if k = 1 then c1 else if k = 2 then c2 else if k = 3 then c3 else if k = 4 then c4 else if k = 5 then c5 else if k = 6 then c6 else if k = 7 then c7 else if k = 8 then c8 else if k = 9 then c9 else c10, fun k => if k = 0 then iS0 else if k = 1 then iS1 else if k = 2 then iS2 else if k = 3 then iS3 else if k = 4 then iS4 else if k = 5 then iS5 else if k = 6 then iS6 else if k = 7 then iS7 else if k = 8 then iS8 else if k = 9 then iS9 else iS10), adK, adV), fun w hw ht => lw_nw ht (hts w hw), va_AO.of (hts _ (by decide +kernel)), va_AO.of (hts _ (by decide +kernel)), ⟨fun k q hq => ?_, fun k q h => by simp at h⟩, fun i hi => ?_, hS, ?_, ?_, ?_, ?_, ?_⟩
  · match k, hq with
    | 0, hq => cases hq; exact hK0
    | 1, hq => cases hq; exact hK1
    | 2, hq => cases hq; exact hK2
    | 3, hq => cases hq; exact hK3
    | 4, hq => cases hq; exact hK4
    | 5, hq => cases hq; exact hK5
    | 6, hq => cases hq; exact hK6
    | 7, hq => cases hq; exact hK7
    | 8, hq => cases hq; exact hK8
    | 9, hq => cases hq; exact hK9
    | 10, hq => cases hq; exact hK10
    | k + 11, hq => simp [jx_cl] at hq
  · have h1 := hR i hi
    match i, hi with
    | 0, _ => exact vk_R.of (A := A) (hts _ (by decide +kernel)) h1
    | 1, _ => exact vk_R.of (A := A) (hts _ (by decide +kernel)) h1
    | 2, _ => exact vk_R.of (A := A) (hts _ (by decide +kernel)) h1
    | 3, _ => exact vk_R.of (A := A) (hts _ (by decide +kernel)) h1
    | 4, _ => exact vk_R.of (A := A) (hts _ (by decide +kernel)) h1
    | n + 5, h => exact absurd h (by omega)
  · exact va_Zof (args := A) (hts _ (by decide +kernel)) (hts _ (by decide +kernel)) (va_eqt (hs _ (by decide +kernel))) hA
  · exact va_Zqof (args := A) (hts _ (by decide +kernel)) (hts _ (by decide +kernel)) (hs _ (by decide +kernel)) hA
  · exact vx_Zqof (args := A) (hts _ (by decide +kernel)) (hts _ (by decide +kernel)) (hs _ (by decide +kernel)) hA
  · exact vx_Zqof (args := A) (hts _ (by decide +kernel)) (hts _ (by decide +kernel)) (hs _ (by decide +kernel)) hA
  · intro q hq
    simp only [jx_nc, List.mem_cons, List.not_mem_nil, or_false] at hq
    rcases hq with rfl | rfl | rfl | rfl | rfl | rfl <;> exact va_Nc.of (args := A) (hs _ (by decide +kernel))
theorem lw_fl {l : Launch} (h : l.flags = flags0) : l.stackTraces = false := by
  unfold Launch.stackTraces
  rw [h]
  decide +kernel
set_option maxRecDepth 20000 in
set_option maxHeartbeats 4000000 in
theorem lw_start (Inv : Nat → Nat → Nat → jx_H → Prop) (hinit : St_init Inv) (hsteps : ∀ a m o, St_all (Inv a m o) a m o) {p : Program} {e : Env} {s : State} {m : MethodId} {below : List Frame} {meth : Method} {c : Code} (l : Launch) (hflags : l.flags = flags0) {b L : Nat} {xs : Nat → Int32} (hL : L ≤ 2048) (C0 : lw_At p s m meth c b L xs) : W p l e room_1 s m #[Value.ref b] below meth c s.heap [] 0 0 (lw_Z below #[Value.ref b] s) (entryFrame m ([Value.ref b] : List Value).toArray 9) := by
  obtain ⟨hx, hb, hrt, hml, hown, hts, hXX, hbl, hlocks, hgv⟩ := id C0
  obtain ⟨D, hF⟩ := lw_F (Z := jx_A (s.heap.size, fun _ => none)) hts hgv (fun a ha => jx_SA ha)
  have hfl := lw_fl hflags
  generalize hXe : ((p, l, e, room_1, s, m, #[Value.ref b], below, meth, c, D, (s.heap.size, fun _ => none), 9, lw_Z below #[Value.ref b] s) : jx_X) = X
  have C : jx_ok X cL_law RL := by rw [← hXe]; exact ⟨hx, hb, hml, hown, hlocks, rfl, hF, hfl⟩
  have hr : jx_r X room_1 := by rw [← hXe]; exact rfl
  have hl9 : jx_nl X 9 := by rw [← hXe]; exact rfl
  have hX : jx_S X b L xs := by rw [← hXe]; exact ⟨hXX, hbl, rfl⟩
  have hend : ∀ (k n : Nat) (lv : List (Nat × Value)) (h : jx_H), k ≤ 601024 → n ≤ 7293034 → jx_J X k n 2132 lv [.int 1] h := by
    intro k n lv h hk hn
    rw [← hXe]
    intro H locs ls hR hdm hS hl
    refine W.widen hk hn (va_forget (fun q hq => ?_) ?_)
    · rcases hS.2.2 q hq with z | z
      · exact absurd rfl z
      · exact z
    · exact lw_ret (d0 := s.drawn) (Drawn.sameBut.refl s.drawn lw_cs) hx hb hrt hlocks dL_law_2132
  obtain ⟨h1, h2, h3, h4, h5, e1, e2, e3, e4, e5, hI⟩ := hinit s.heap.size
  have K : jx_J X 0 0 0 [(0, .ref b)] [] (s.heap.size, fun _ => none) := by
    refine j_new (ci := 9) (RC := RX9) (T := TX9) (N := 14) (ty0 := tyX9) (fs := fsX9) C hr rfl klX9 tyX9_ok kL_8 kins_X9 kini_X9 fsX9_ok dL_law_0 e1 ⟨Nat.le_of_ble_eq_true rfl, Nat.le_of_ble_eq_true rfl⟩ ?_
    refine jx_widen (k1 := 1) (n1 := 14) (Nat.le_of_ble_eq_true rfl) (Nat.le_of_ble_eq_true rfl) ?_
    refine j_dup C dL_law_3 rfl ?_
    refine j_callI (As := []) (b := s.heap.size) (na := 0) (st := [.ref s.heap.size]) (k1 := 103) (n1 := 6279) C hr (sX9_init e2) kL_104 kim_X9_init kini_X9 kc_X9_init (by decide) rfl ⟨Nat.le_of_ble_eq_true rfl, Nat.le_of_ble_eq_true rfl⟩ (Nat.le_of_ble_eq_true rfl) ⟨rfl, rfl, Nat.le_of_ble_eq_true rfl, Nat.le_of_ble_eq_true rfl⟩ dL_law_4 ?_
    rintro _ _ ⟨rfl, rfl⟩
    show jx_J X 103 6279 7 [(0, .ref b)] [.ref s.heap.size] h2
    refine j_astore_n (lv1 := [(1, .ref s.heap.size), (0, .ref b)]) C hl9 dL_law_7 rfl (Nat.le_of_ble_eq_true rfl) rfl ?_
    refine j_new (ci := 10) (RC := RX10) (T := TX10) (N := 38) (ty0 := tyX10) (fs := fsX10) C hr rfl klX10 tyX10_ok kL_105 kins_X10 kini_X10 fsX10_ok dL_law_8 e3 ⟨Nat.le_of_ble_eq_true rfl, Nat.le_of_ble_eq_true rfl⟩ ?_
    refine jx_widen (k1 := 104) (n1 := 6317) (Nat.le_of_ble_eq_true rfl) (Nat.le_of_ble_eq_true rfl) ?_
    refine j_dup C dL_law_11 rfl ?_
    refine j_callI (As := []) (b := h2.1) (na := 0) (st := [.ref h2.1]) (k1 := 128) (n1 := 30530) C hr (sX10_init e4) kL_107 kim_X10_init kini_X10 kc_X10_init (by decide) rfl ⟨Nat.le_of_ble_eq_true rfl, Nat.le_of_ble_eq_true rfl⟩ (Nat.le_of_ble_eq_true rfl) ⟨rfl, rfl, Nat.le_of_ble_eq_true rfl, Nat.le_of_ble_eq_true rfl⟩ dL_law_12 ?_
    rintro _ _ ⟨rfl, rfl⟩
    show jx_J X 128 30530 15 [(1, .ref s.heap.size), (0, .ref b)] [.ref h2.1] h4
    refine j_astore_n (lv1 := [(2, .ref h2.1), (1, .ref s.heap.size), (0, .ref b)]) C hl9 dL_law_15 rfl (Nat.le_of_ble_eq_true rfl) rfl ?_
    refine j_iconst (v := (1 : Int32)) C dL_law_16 (by decide) ?_
    refine j_newl (N := 1) C hr kac_long rfl dL_law_17 e5 (Nat.le_of_ble_eq_true rfl) ⟨Nat.le_of_ble_eq_true rfl, Nat.le_of_ble_eq_true rfl⟩ ?_
    refine jx_widen (k1 := 129) (n1 := 30531) (Nat.le_of_ble_eq_true rfl) (Nat.le_of_ble_eq_true rfl) ?_
    refine j_astore_n (lv1 := [(3, .ref h4.1), (2, .ref h2.1), (1, .ref s.heap.size), (0, .ref b)]) C hl9 dL_law_19 rfl (Nat.le_of_ble_eq_true rfl) rfl ?_
    refine j_iconst (v := (0 : Int32)) C dL_law_20 (by decide) ?_
    refine j_istore (lv1 := [(4, .int 0), (3, .ref h4.1), (2, .ref h2.1), (1, .ref s.heap.size), (0, .ref b)]) C hl9 dL_law_21 (Nat.le_of_ble_eq_true rfl) rfl ?_
    refine jx_sub (lv' := [(0, .ref b), (1, .ref s.heap.size), (2, .ref h2.1), (3, .ref h4.1), (4, .int (Int32.ofNat (4 * 0)))]) [4, 3, 2, 1, 0] rfl ?_
    exact lw_loop C hr hl9 hX hL (hsteps _ _ _) hend 513 0 129 30531 h5 rfl (by omega) (Nat.le_of_ble_eq_true rfl) (Nat.le_of_ble_eq_true rfl) hI
  have hl := lv_entry ([.ref b]) (n := 9) (Nat.le_of_ble_eq_true rfl)
  rw [lg_entry_eq]
  rw [← hXe] at K
  exact K s.heap [] _ ⟨rfl, fun a e he => by cases he⟩ (fun q hq => absurd rfl hq) va_S.rf hl
