/-! order ideals: what follows for heights; a monomial joins or leaves the reference's row -/
theorem Lm_a {ht : Nat → Nat} (w : wfh ht) : (Lm ht).Nodup ∧ (Lb ht).Nodup ∧ laysB (Lm ht) = Lb ht ∧ (∀ p ∈ Lm ht, p.1 < 12 ∧ p.2 < 12) ∧ (∀ p ∈ Lb ht, p.1 < 13 ∧ p.2 < 13) ∧ (∀ k, k < 12 → (Bk (Lm ht) k).length < 14 ∧ (addB (Lm ht) (Bk (Lm ht) k) (mx (Lm ht) k + 1, my (Lm ht) k)).length < 14 ∨ (Lm ht).length ≤ k) ∧ (Lm ht).getD 0 (0, 0) = (0, 0) :=
  parts_all (Q := fun ht => (Lm ht).Nodup ∧ (Lb ht).Nodup ∧ laysB (Lm ht) = Lb ht ∧ (∀ p ∈ Lm ht, p.1 < 12 ∧ p.2 < 12) ∧ (∀ p ∈ Lb ht, p.1 < 13 ∧ p.2 < 13) ∧ (∀ k, k < 12 → (Bk (Lm ht) k).length < 14 ∧ (addB (Lm ht) (Bk (Lm ht) k) (mx (Lm ht) k + 1, my (Lm ht) k)).length < 14 ∨ (Lm ht).length ≤ k) ∧ (Lm ht).getD 0 (0, 0) = (0, 0)) parts_a w
theorem Lm_b {ht : Nat → Nat} (w : wfh ht) {i : Nat} (h : canUp ht i = true) : ins (i, ht i) (Lm ht) = Lm (uph ht i (ht i + 1)) ∧ posF (i, ht i) (Lm ht) (Lm ht).length = (Lm (uph ht i (ht i + 1))).idxOf (i, ht i) :=
  parts_all (Q := fun ht => ∀ i, i < 12 → (canUp ht i = true → ins (i, ht i) (Lm ht) = Lm (uph ht i (ht i + 1)) ∧ posF (i, ht i) (Lm ht) (Lm ht).length = (Lm (uph ht i (ht i + 1))).idxOf (i, ht i))) parts_b w i (by simp only [canUp, Bool.and_eq_true, decide_eq_true_eq] at h; omega) h
theorem Lm_c {ht : Nat → Nat} (w : wfh ht) {i : Nat} (h : canDn ht i = true) : (Lm ht).eraseIdx ((Lm ht).idxOf (i, ht i - 1)) = Lm (uph ht i (ht i - 1)) :=
  parts_all (Q := fun ht => ∀ i, i < 12 → (canDn ht i = true → (Lm ht).eraseIdx ((Lm ht).idxOf (i, ht i - 1)) = Lm (uph ht i (ht i - 1)))) parts_c w i (by simp only [canDn, Bool.and_eq_true, decide_eq_true_eq] at h; omega) h
theorem mem_mons {p : Nat × Nat} : p ∈ mons ↔ p.1 + p.2 ≤ 12 := by
  unfold mons
  simp only [List.mem_flatMap, List.mem_range, List.mem_map]
  constructor
  · rintro ⟨d, hd, j, hj, rfl⟩
    show d - j + j ≤ 12
    omega
  · intro h
    exact ⟨p.1 + p.2, by omega, p.2, by omega, by rw [Nat.add_sub_cancel]⟩
theorem wfh.mono {ht : Nat → Nat} (w : wfh ht) : ∀ {i j : Nat}, i ≤ j → ht j ≤ ht i := by
  intro i j h
  induction h with
  | refl => exact Nat.le_refl _
  | step _ ih => exact Nat.le_trans (w.1 _) ih
theorem sm_le (f : Nat → Nat) {a b : Nat} (h : a ≤ b) : sm f a ≤ sm f b := by
  induction h with
  | refl => exact Nat.le_refl _
  | step _ ih => exact Nat.le_trans ih (Nat.le_add_right _ _)
theorem sm_cnt {f : Nat → Nat} (hd : ∀ i j, i ≤ j → f j ≤ f i) : ∀ m, 1 ≤ f m → m + f m ≤ sm f (m + 1)
  | 0, _ => by show 0 + f 0 ≤ 0 + f 0; exact Nat.le_refl _
  | m + 1, h => by
    have h2 := hd m (m + 1) (by omega)
    have := sm_cnt hd m (by omega)
    show m + 1 + f (m + 1) ≤ sm f (m + 1) + f (m + 1)
    omega
/-- what is under the heights has a degree of at most 11 -/
theorem wfh.deg {ht : Nat → Nat} (w : wfh ht) {i : Nat} (h : 1 ≤ ht i) : i + ht i ≤ 12 := by
  by_cases hi : i < 13
  · have := sm_cnt (f := ht) (fun _ _ => w.mono) i h
    have h2 := sm_le ht (show i + 1 ≤ 13 by omega)
    have := w.2.2.1
    omega
  · have := w.2.2.2 i (by omega)
    omega
theorem mem_Lm {ht : Nat → Nat} (w : wfh ht) {i j : Nat} : (i, j) ∈ Lm ht ↔ j < ht i := by
  unfold Lm
  rw [List.mem_filter, mem_mons]
  show i + j ≤ 12 ∧ decide (j < ht i) = true ↔ _
  rw [decide_eq_true_eq]
  constructor
  · exact fun h => h.2
  · intro h
    have := w.deg (i := i) (by omega)
    exact ⟨by omega, h⟩
theorem mem_Lb {ht : Nat → Nat} (w : wfh ht) {i j : Nat} : (i, j) ∈ Lb ht ↔ ¬ j < ht i ∧ ((1 ≤ i ∧ j < ht (i - 1)) ∨ (1 ≤ j ∧ j - 1 < ht i)) := by
  unfold Lb
  rw [List.mem_filter, mem_mons]
  show i + j ≤ 12 ∧ (!(decide (j < ht i)) && ((decide (1 ≤ i) && decide (j < ht (i - 1))) || (decide (1 ≤ j) && decide (j - 1 < ht i)))) = true ↔ _
  simp only [Bool.and_eq_true, Bool.or_eq_true, Bool.not_eq_true', decide_eq_true_eq, decide_eq_false_iff_not]
  constructor
  · exact fun h => h.2
  · intro h
    refine ⟨?_, h⟩
    rcases h.2 with ⟨h1, h2⟩ | ⟨h1, h2⟩
    · have := w.deg (i := i - 1) (by omega)
      omega
    · have := w.deg (i := i) (by omega)
      omega
theorem Lm_small {ht : Nat → Nat} (w : wfh ht) : small (Lm ht) := small_mem fun p hp => by have := (Lm_a w).2.2.2.1 p hp; omega
theorem Lb_small {ht : Nat → Nat} (w : wfh ht) : small (Lb ht) := small_mem fun p hp => by have := (Lm_a w).2.2.2.2.1 p hp; omega
theorem Lm_ok {ht : Nat → Nat} (w : wfh ht) : okB (Lm ht) := by
  have a := Lm_a w
  have l := Lm_len w
  refine ⟨l.2.1, fun k => ?_, fun k hk => ?_⟩
  · unfold mx my
    rw [List.getD_eq_getElem?_getD]
    cases e : (Lm ht)[k]? with
    | none => exact ⟨by decide, by decide⟩
    | some q =>
      have := a.2.2.2.1 q (List.mem_of_getElem? e)
      exact ⟨by show q.1 < 900; omega, by show q.2 < 900; omega⟩
  · rcases a.2.2.2.2.2.1 k (by omega) with h | h
    · exact h
    · omega
/-- a row of the reference that stands for heights, rules and points -/
def RC (g : Nat → Int32) (p : Nat) (ht : Nat → Nat) (r : Nat → Nat → Nat) (pts : List (Nat × Nat)) : Prop := NowR g p (Lm ht) (Lb ht) r pts
def rbh (h0 : Nat → Nat) (r0 : Nat → Nat → Nat) (h1 : Nat → Nat) : Nat → Nat → Nat := rb (Lm h0) (Lb h0) r0 (Lm h1) (Lb h1)
def cpy3 (S : MS) : Nat → Int32 := fun q => if 0 ≤ q ∧ q < 0 + 248 then S.2 1 (0 + (q - 0)) else S.2 3 q
theorem cpy3_at {S : MS} {q : Nat} (h : q < 248) : cpy3 S q = S.2 1 q := by
  unfold cpy3
  rw [if_pos (by omega), Nat.zero_add, Nat.sub_zero]
theorem NowR.fr {g g' : Nat → Int32} {p : Nat} {M B : List (Nat × Nat)} {r : Nat → Nat → Nat} {pts : List (Nat × Nat)} (H : NowR g p M B r pts) (h : ∀ q, q < 248 → g' q = g q) (hM : M.length ≤ 12) (hB : B.length ≤ 13) (hp : pts.length ≤ 12) : NowR g' p M B r pts := by
  obtain ⟨h0, ⟨h1, h2⟩, ⟨h3, h4⟩, h5, h6, h7⟩ := H
  refine ⟨by rw [h _ (by omega)]; exact h0, ⟨by rw [h _ (by omega)]; exact h1, fun k hk => ?_⟩, ⟨by rw [h _ (by omega)]; exact h3, fun k hk => ?_⟩, by rw [h _ (by omega)]; exact h5, fun b k hb hk => ?_, fun k hk => ?_⟩
  · rw [h _ (by omega), h _ (by omega)]; exact h2 k hk
  · rw [h _ (by omega), h _ (by omega)]; exact h4 k hk
  · rw [h _ (by omega)]; exact h6 b k hb hk
  · rw [h _ (by omega), h _ (by omega)]; exact h7 k hk
theorem RC.fr {g g' : Nat → Int32} {p : Nat} {ht : Nat → Nat} {r : Nat → Nat → Nat} {pts : List (Nat × Nat)} (H : RC g p ht r pts) (w : wfh ht) (hp : pts.length ≤ 12) (h : ∀ q, q < 248 → g' q = g q) : RC g' p ht r pts := NowR.fr H h (Lm_len w).2.1 (Lm_len w).2.2.2.1 hp
theorem g_copies13 {S : MS} : gFX10_copies 1 (0 : Int32) 3 (0 : Int32) S = some (S.1, setA S.2 3 (cpy3 S)) := by
  have := g_copies (S := S) (j0 := 1) (j1 := 3) (a := 0) (b := 0) (N0 := 248) (N1 := 248) rfl rfl (by omega) (by omega) (by omega) (by omega) (by omega)
  rw [n0]
  exact this
theorem g_joins {S : MS} {p : Nat} {ht : Nat → Nat} {r : Nat → Nat → Nat} {pts : List (Nat × Nat)} (w : wfh ht) (H : RC (S.2 1) p ht r pts) (lp : pts.length ≤ 12) {i : Nat} (hu : canUp ht i = true) :
    ∃ g, gFX10_joins (nI i) (nI (ht i)) S = some (nI ((Lm (uph ht i (ht i + 1))).idxOf (i, ht i)), ((S.1, setA (setA S.2 3 (cpy3 S)) 1 g) : MS)) ∧ RC g p (uph ht i (ht i + 1)) (rbh ht r (uph ht i (ht i + 1))) pts := by
  have wu := wfh_up w hu
  have a := Lm_a w
  have l := Lm_len w
  have lu := Lm_len wu
  have b := Lm_b w hu
  have hi : i < 12 ∧ ht i < 12 ∧ sm ht 13 < 12 := by
    simp only [canUp, Bool.and_eq_true, decide_eq_true_eq] at hu
    have := w.deg (i := i)
    refine ⟨by omega, ?_, by omega⟩
    have h2 : ht i + i ≤ 12 ∨ ht i = 0 := by omega
    have h3 := sm_cnt (f := ht) (fun _ _ => w.mono) i
    have h4 := sm_le ht (show i + 1 ≤ 13 by omega)
    omega
  unfold gFX10_joins
  rw [g_copies13]
  simp only [Option.bind_some]
  generalize hS : ((S.1, setA S.2 3 (cpy3 S)) : MS) = S1
  have e1 : S1.2 1 = S.2 1 := by subst hS; show (setA S.2 3 (cpy3 S)) 1 = _; exact setA_o (by decide)
  have e3 : S1.2 3 = cpy3 S := by subst hS; show (setA S.2 3 (cpy3 S)) 3 = _; exact setA_s
  have hM1 : NowM (S1.2 1) (Lm ht) := by rw [e1]; exact H.2.1
  have P := placed_loop (S := S1) (L := Lm ht) (i := i) (j := ht i) (by omega) (Lm_small w) (by omega) (by omega) hM1.2 hM1.1
  obtain ⟨t, f1, g, rfl, f2, f3, f4⟩ := P
  unfold gFX10_placed
  rw [g_n hM1]
  simp only [Option.bind_some, bind2]
  rw [f1]
  simp only [Option.bind_some]
  rw [b.2]
  have hM2 : NowM (((S1.1, setA S1.2 1 g) : MS).2 1) (Lm (uph ht i (ht i + 1))) := by
    show NowM ((setA S1.2 1 g) 1) _
    rw [setA_s, ← b.1]
    exact ⟨by rw [ins_len]; exact f3, f2⟩
  have z : ∀ q, q = 0 ∨ q = 3 ∨ 28 ≤ q → (setA S1.2 1 g) 1 q = S.2 1 q := by
    intro q hq
    rw [setA_s, f4 q (by omega) (by omega) (by omega), e1]
  have R3 : NowR (((S1.1, setA S1.2 1 g) : MS).2 3) p (Lm ht) (Lb ht) r pts := by
    show NowR ((setA S1.2 1 g) 3) _ _ _ _ _
    rw [setA_o (by decide), e3]
    exact RC.fr H w lp (fun q hq => cpy3_at hq)
  obtain ⟨g2, k1, k2⟩ := g_laysAgain R3 hM2 a.1 a.2.1 (Lm_small w) (Lb_small w) l.2.1 (by omega) (Lm_ok wu) (by rw [(Lm_a wu).2.2.1]; exact lu.2.2.2.1) (p := p) (pts := pts)
    (by show (setA S1.2 1 g) 1 0 = _; rw [z 0 (by omega)]; exact H.1)
    (by show (setA S1.2 1 g) 1 3 = _; rw [z 3 (by omega)]; exact H.2.2.2.1)
    (by intro k hk; show (setA S1.2 1 g) 1 _ = _ ∧ (setA S1.2 1 g) 1 _ = _; rw [z _ (by omega), z _ (by omega)]; exact H.2.2.2.2.2 k hk) lp
  rw [k1]
  refine ⟨g2, ?_, ?_⟩
  · simp only [Option.bind_some]
    subst hS
    show some (_, ((S.1, setA (setA (setA S.2 3 (cpy3 S)) 1 g) 1 g2) : MS)) = _
    rw [setA_2]
  · rw [(Lm_a wu).2.2.1] at k2
    exact k2
