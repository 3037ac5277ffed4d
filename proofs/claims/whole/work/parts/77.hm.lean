/-! matrices of the class in a heap; products -/
theorem gridF {σ T : Type} {φ : (Nat → Int32) → σ} {ψ : (Nat → Int32) → T} {outer : Int32 → σ → Option ((Int32 × σ) ⊕ T)} {inner : Int32 → Int32 → σ → Option ((Int32 × σ) ⊕ ((Int32 × σ) ⊕ T))} {g0 : Nat → Int32} {n m : Nat} {ix : Nat → Nat → Nat} {V : Nat → Nat → Int32}
    (inj : ∀ a b a' b', a < n → b < m → a' < n → b' < m → ix a' b' = ix a b → a' = a ∧ b' = b)
    (hout : ∀ a g, a < n → outer (nI a) (φ g) = itr (fun s : Int32 × σ => inner (nI a) s.1 s.2) (nI 0, φ g))
    (hend : ∀ g, outer (nI n) (φ g) = some (.inr (ψ g)))
    (hin : ∀ a b g, a < n → b < m → inner (nI a) (nI b) (φ g) = some (.inl (nI (b + 1), φ (upd g (ix a b) (V a b)))))
    (hine : ∀ a g, a < n → inner (nI a) (nI m) (φ g) = some (.inr (.inl (nI (a + 1), φ g)))) :
    ∃ g, itr (fun s : Int32 × σ => outer s.1 s.2) (nI 0, φ g0) = some (ψ g) ∧ (∀ a b, a < n → b < m → g (ix a b) = V a b) ∧ ∀ q, (∀ a b, a < n → b < m → q ≠ ix a b) → g q = g0 q := by
  have key : ∃ t, itr (fun s : Int32 × σ => outer s.1 s.2) (nI 0, φ g0) = some t ∧ ∃ g, t = ψ g ∧ (∀ a b, a < n → b < m → g (ix a b) = V a b) ∧ ∀ q, (∀ a b, a < n → b < m → q ≠ ix a b) → g q = g0 q := by
    refine itr_run n (fun a s => ∃ g, s = (nI a, φ g) ∧ (∀ a' b, a' < a → b < m → g (ix a' b) = V a' b) ∧ ∀ q, (∀ a b, a < n → b < m → q ≠ ix a b) → g q = g0 q) ⟨g0, rfl, fun a' b h => by omega, fun q _ => rfl⟩ ?_ ?_
    · rintro a s ha ⟨g, rfl, h1, h2⟩
      left
      have inn : ∃ t, itr (fun s : Int32 × σ => inner (nI a) s.1 s.2) (nI 0, φ g) = some t ∧ ∃ g, t = .inl (nI (a + 1), φ g) ∧ (∀ a' b, a' < a + 1 → b < m → g (ix a' b) = V a' b) ∧ ∀ q, (∀ a b, a < n → b < m → q ≠ ix a b) → g q = g0 q := by
        refine itr_run m (fun b s => ∃ g, s = (nI b, φ g) ∧ (∀ a' b', (a' < a ∨ (a' = a ∧ b' < b)) → b' < m → g (ix a' b') = V a' b') ∧ ∀ q, (∀ a b, a < n → b < m → q ≠ ix a b) → g q = g0 q) ⟨g, rfl, fun a' b' h hb => h1 a' b' (by omega) hb, h2⟩ ?_ ?_
        · rintro b s hb ⟨g, rfl, k1, k2⟩
          left
          refine ⟨_, hin a b g ha hb, _, rfl, fun a' b' h hb' => ?_, fun q hq => ?_⟩
          · by_cases e : ix a' b' = ix a b
            · have := inj a b a' b' ha hb (by omega) hb' e
              rw [this.1, this.2, upd_s]
            · rw [upd_o e]
              refine k1 a' b' ?_ hb'
              by_cases z : a' = a ∧ b' = b
              · exact absurd (by rw [z.1, z.2]) e
              · omega
          · rw [upd_o (hq a b ha hb)]
            exact k2 q hq
        · rintro s ⟨g, rfl, k1, k2⟩
          exact ⟨_, hine a g ha, g, rfl, fun a' b' h hb' => k1 a' b' (by omega) hb', k2⟩
      obtain ⟨t, e, g', rfl, h3⟩ := inn
      dsimp only
      rw [hout a g ha, e]
      exact ⟨_, rfl, g', rfl, h3⟩
    · rintro s ⟨g, rfl, h1, h2⟩
      exact ⟨_, hend g, g, rfl, h1, h2⟩
  obtain ⟨t, e, g, rfl, h⟩ := key
  exact ⟨g, e, h⟩
theorem itr_sumE {T : Type} {body : Int32 × Int32 → Option ((Int32 × Int32) ⊕ T)} {f : Nat → Nat} {N c0 : Nat} {v : T} (hs : ∀ c k, k < N → body (nI c, nI k) = some (.inl (nI (c + f k), nI (k + 1)))) (he : body (nI (c0 + sm f N), nI N) = some (.inr v)) : itr body (nI c0, nI 0) = some v := by
  refine itr_val N (fun k s => s = (nI (c0 + sm f k), nI k)) rfl ?_ ?_
  · rintro k s hk rfl
    left
    exact ⟨_, hs _ k hk, by rw [Nat.add_assoc]; rfl⟩
  · rintro s rfl
    exact he
/-- a matrix in a heap; its shape alone; what lies elsewhere stays -/
def HM (h : jx_H) (q H W R C : Nat) (A : Nat → Nat → Nat) : Prop := ∃ S, bH (xK H W) h q S ∧ MX H W S R C A
def SH (h : jx_H) (q H W : Nat) : Prop := ∃ S, bH (xK H W) h q S ∧ S.1 0 = nI H ∧ S.1 1 = nI W
def exc (h h' : jx_H) (lo hi : Nat) : Prop := h'.1 = h.1 ∧ ∀ x, x < lo ∨ hi < x → h'.2 x = h.2 x
def off (q q' : Nat) : Prop := q + 2 < q' ∨ q' + 2 < q
theorem exc.rf {h : jx_H} {lo hi : Nat} : exc h h lo hi := ⟨rfl, fun _ _ => rfl⟩
theorem exc.tr {h h1 h2 : jx_H} {lo hi : Nat} (a : exc h h1 lo hi) (b : exc h1 h2 lo hi) : exc h h2 lo hi := ⟨b.1.trans a.1, fun x hx => (b.2 x hx).trans (a.2 x hx)⟩
theorem exc.mono {h h1 : jx_H} {lo hi lo' hi' : Nat} (a : exc h h1 lo hi) (h1' : lo' ≤ lo) (h2 : hi ≤ hi') : exc h h1 lo' hi' := ⟨a.1, fun x hx => a.2 x (by omega)⟩
theorem exc.bput {K : BK} {h : jx_H} {q : Nat} {S : MS} : exc h (bput K h q S) q (q + K.2.2.2.2) := ⟨rfl, fun x hx => bp_else hx⟩
theorem bH.ex {K : BK} {h h' : jx_H} {q lo hi : Nat} {S : MS} (H : bH K h q S) (e : exc h h' lo hi) (d : q + K.2.2.2.2 < lo ∨ hi < q) : bH K h' q S := ⟨by rw [e.2 q (by omega)]; exact H.1, fun j hj => by rw [e.2 (q + j) (by omega)]; exact H.2 j hj⟩
theorem HM.ex {h h' : jx_H} {q H W R C lo hi : Nat} {A : Nat → Nat → Nat} (M : HM h q H W R C A) (e : exc h h' lo hi) (d : q + 2 < lo ∨ hi < q) : HM h' q H W R C A := by
  obtain ⟨S, h1, h2⟩ := M
  exact ⟨S, h1.ex e d, h2⟩
theorem SH.ex {h h' : jx_H} {q H W lo hi : Nat} (M : SH h q H W) (e : exc h h' lo hi) (d : q + 2 < lo ∨ hi < q) : SH h' q H W := by
  obtain ⟨S, h1, h2⟩ := M
  exact ⟨S, h1.ex e d, h2⟩
theorem HM.sh {h : jx_H} {q H W R C : Nat} {A : Nat → Nat → Nat} (M : HM h q H W R C A) : SH h q H W := by
  obtain ⟨S, h1, h2⟩ := M
  exact ⟨S, h1, h2.1, h2.2.1⟩
theorem HM.congr {h : jx_H} {q H W R C : Nat} {A B : Nat → Nat → Nat} (M : HM h q H W R C A) (e : ∀ r c, r < R → c < C → A r c = B r c) : HM h q H W R C B := by
  obtain ⟨S, h1, h2⟩ := M
  exact ⟨S, h1, h2.congr e⟩
section
variable {h : jx_H} {q H W R C : Nat} {A : Nat → Nat → Nat}
theorem HM.gi1 (M : HM h q H W R C A) : hgi h q 2 1 = some (nI W) := by obtain ⟨S, h1, h2⟩ := M; rw [← h2.2.1]; exact hgi_ob h1.1 rfl
theorem HM.gi4 (M : HM h q H W R C A) : hgi h q 2 4 = some (nI R) := by obtain ⟨S, h1, h2⟩ := M; rw [← h2.2.2.1]; exact hgi_ob h1.1 rfl
theorem HM.gi5 (M : HM h q H W R C A) : hgi h q 2 5 = some (nI C) := by obtain ⟨S, h1, h2⟩ := M; rw [← h2.2.2.2.1]; exact hgi_ob h1.1 rfl
theorem HM.gr (M : HM h q H W R C A) : hgr h q 2 2 = some (q + 1) := by obtain ⟨S, h1, h2⟩ := M; exact hgr_ob h1.1 rfl
theorem HM.ob (M : HM h q H W R C A) : isO h q 2 = some () := by obtain ⟨S, h1, h2⟩ := M; exact isO_ob h1.1
theorem SH.ob (M : SH h q H W) : isO h q 2 = some () := by obtain ⟨S, h1, h2⟩ := M; exact isO_ob h1.1
theorem HM.le (M : HM h q H W R C A) : R ≤ H ∧ C ≤ W := by obtain ⟨S, h1, h2⟩ := M; exact ⟨h2.2.2.2.2.1, h2.2.2.2.2.2.1⟩
theorem HM.al (z : SZ H W) (M : HM h q H W R C A) {r c : Nat} (hr : r < R) (hc : c < C) : hal h .int (q + 1) (nI (r * W + c)) = some (nI (A r c)) := by
  have le := M.le
  obtain ⟨S, h1, h2⟩ := M
  rw [← h1.eq, xK_al1, x_a1 z (ix_lt (by omega) (by omega)), h2.2.2.2.2.2.2 r c hr hc]
theorem HM.at (z : SZ H W) (M : HM h q H W R C A) {r c : Nat} (hr : r < R) (hc : c < C) : FX2_at q (nI r) (nI c) h = some (nI (A r c)) := by
  obtain ⟨S, h1, h2⟩ := M
  rw [h1.run (F := FX2_at q (nI r) (nI c)) eFX2_at, x_at z h2 hr hc]
theorem h_clear (z : SZ H W) (M : SH h q H W) {R' C' : Nat} (hR : R' ≤ H) (hC : C' ≤ W) : ∃ T, FX2_clear q (nI R') (nI C') h = some (bput (xK H W) h q T) ∧ MX H W T R' C' (fun _ _ => 0) := by
  obtain ⟨S, h1, h2, h3⟩ := M
  obtain ⟨T, t1, t2, -⟩ := x_clear z h2 h3 hR hC
  refine ⟨T, ?_, t2⟩
  rw [h1.run (F := FX2_clear q (nI R') (nI C')) eFX2_clear, t1, gx_ms]
theorem h_identity (z : SZ H W) (M : SH h q H W) {n : Nat} (hR : n ≤ H) (hC : n ≤ W) : ∃ h', FX2_becomeIdentity q (nI n) h = some h' ∧ exc h h' q (q + 2) ∧ HM h' q H W n n oneM := by
  obtain ⟨S, h1, h2, h3⟩ := M
  obtain ⟨T, t1, t2⟩ := x_identity z h2 h3 hR hC
  refine ⟨bput (xK H W) h q T, ?_, exc.bput, T, bH.put, t2⟩
  rw [h1.run (F := FX2_becomeIdentity q (nI n)) eFX2_becomeIdentity, t1, gx_ms]
theorem MX.cells {S : MS} {g : Nat → Int32} {B : Nat → Nat → Nat} (M : MX H W S R C A) (hg : ∀ r c, r < R → c < C → g (r * W + c) = nI (B r c)) : MX H W (S.1, setA S.2 1 g) R C B := ⟨M.1, M.2.1, M.2.2.1, M.2.2.2.1, M.2.2.2.2.1, M.2.2.2.2.2.1, fun r c hr hc => by rw [mp2, setA_s]; exact hg r c hr hc⟩
end
theorem h_product {h : jx_H} {q0 q1 q2 H0 W0 H1 W1 H2 W2 n p : Nat} {A B : Nat → Nat → Nat} (z0 : SZ H0 W0) (z1 : SZ H1 W1) (z2 : SZ H2 W2) (M0 : SH h q0 H0 W0) (M1 : HM h q1 H1 W1 n n A) (M2 : HM h q2 H2 W2 n n B) (d1 : off q1 q0) (d2 : off q2 q0) (hn : n ≤ 12) (n0' : n ≤ H0) (n1' : n ≤ W0) (h0 : 0 < p) (hp : p < 1000) (hA : bdM A n n p) (hB : bdM B n n p) :
    ∃ h', FX2_becomeProduct q0 q1 q2 (nI p) h = some h' ∧ exc h h' q0 (q0 + 2) ∧ HM h' q0 H0 W0 n n (mulM n p A B) := by
  obtain ⟨T, t1, t2⟩ := h_clear z0 M0 n0' n1'
  have fr1 : ∀ U : MS, HM (bput (xK H0 W0) h q0 U) q1 H1 W1 n n A := fun U => M1.ex exc.bput d1
  have fr2 : ∀ U : MS, HM (bput (xK H0 W0) h q0 U) q2 H2 W2 n n B := fun U => M2.ex exc.bput d2
  have T4 := t2.2.2.1
  have T5 := t2.2.2.2.1
  have Tw := t2.2.1
  have w0 := z0.2.2
  have hh0 := z0.2.1
  unfold FX2_becomeProduct
  rw [M1.gi4, gx_bs, M2.gi5, gx_bs, M0.ob, gx_bs, t1, gx_bs, (fr1 T).gi5, gx_bs, (fr2 T).gi4, gx_bs, if_neg (by rw [nI_ltN (by omega) (by omega)]; omega), n0]
  obtain ⟨g, e, h1, -⟩ := gridF (φ := fun g => bput (xK H0 W0) h q0 ((T.1, setA T.2 1 g) : MS)) (ψ := fun g => bput (xK H0 W0) h q0 ((T.1, setA T.2 1 g) : MS)) (g0 := T.2 1) (n := n) (m := n) (ix := fun a b => a * W0 + b) (V := fun r c => nI (mulM n p A B r c)) (outer := fun l5 h => LX2_becomeProduct_28 q0 q1 q2 (nI p) (nI n) l5 h) (inner := fun l5 l6 h => LX2_becomeProduct_40 q0 q1 q2 (nI p) (nI n) l5 l6 h)
    (fun a b a' b' _ hb _ hb' e => by
      by_cases hz : a' = a ∧ b' = b
      · exact hz
      · exact absurd e (ix_ne (by omega) (by omega) hz))
    (fun a g ha => by
      unfold LX2_becomeProduct_28
      rw [xK_gi4, gx_bs]
      dsimp only
      rw [T4, if_neg (by rw [nI_leN (by omega) (by omega)]; omega), n0])
    (fun g => by
      unfold LX2_becomeProduct_28
      rw [xK_gi4, gx_bs]
      dsimp only
      rw [T4, if_pos (by rw [nI_leN (by omega) (by omega)]; omega)]
      rfl)
    (fun a b g ha hb => by
      have hbd := mul_bound hp hn hA hB ha hb
      unfold LX2_becomeProduct_40
      rw [xK_gi5, gx_bs]
      dsimp only
      rw [T5, if_neg (by rw [nI_leN (by omega) (by omega)]; omega), n0]
      rw [itr_sumE (f := fun k => A a k * B k b) (N := n) (v := .inl (nI (b + 1), bput (xK H0 W0) h q0 ((T.1, setA T.2 1 (upd g (a * W0 + b) (nI (sm (fun k => A a k * B k b) n % p)))) : MS))) (c0 := 0) ?_ ?_]
      · rfl
      · intro c k hk
        unfold LX2_becomeProduct_55
        dsimp only
        rw [if_neg (by rw [nI_leN (by omega) (by omega)]; omega), (fr1 _).gr, gx_bs, (fr1 _).gi1, gx_bs, nI_mul, nI_add, (fr1 _).al z1 ha hk, gx_bs, (fr2 _).gr, gx_bs, (fr2 _).gi1, gx_bs, nI_mul, nI_add, (fr2 _).al z2 hk hb, gx_bs, nI_mul, n1, nI_add, nI_add]
      · unfold LX2_becomeProduct_55
        dsimp only
        rw [if_pos (by rw [nI_leN (by omega) (by omega)]; omega), xK_gr2, gx_bs, xK_gi1, gx_bs, q_residue, Nat.zero_add, p_resN h0 (by omega) (by omega), gx_bs]
        dsimp only
        rw [Tw, nI_mul, nI_add, xK_as1, x_s1 z0 (ix_lt (by omega) (by omega)), gx_ms, gx_bs, mp1, mp2, setA_s, setA_2, n1, nI_add]
        rfl)
    (fun a g ha => by
      unfold LX2_becomeProduct_40
      rw [xK_gi5, gx_bs]
      dsimp only
      rw [T5, if_pos (by rw [nI_leN (by omega) (by omega)]; omega), n1, nI_add]
      rfl)
  have eT : ((T.1, setA T.2 1 (T.2 1)) : MS) = T := setA_id
  rw [eT] at e
  rw [e]
  exact ⟨_, rfl, exc.bput, _, bH.put, t2.cells fun r c hr hc => h1 r c hr hc⟩
