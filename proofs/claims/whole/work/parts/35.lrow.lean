/-! the script, and places in it -/
def jx_S (X : jx_X) (b L : Nat) (xs : Nat → Int32) : Prop := match X with
  | (p, l, e, R, s, m, args, below, meth, c, D, h0, nL, Q) => va_X b L xs s s.heap ∧ b < s.heap.size ∧ h0 = (s.heap.size, fun _ => none)
theorem jx_SA {n b : Nat} (hb : b < n) : ¬ jx_A (n, fun _ => none) b := fun z => by
  rcases z with z | z
  · exact z rfl
  · exact absurd z (Nat.not_le.mpr hb)
theorem j_sld {X : jx_X} {cc : ByteArray} {own : String} {k n pc b L : Nat} {xs : Nat → Int32} {lv : List (Nat × Value)} {st : List Value} {h : jx_H} {i : Int32} (C : jx_ok X cc own) (hX : jx_S X b L xs) (hin : vp_in i L) (d : decode cc pc = .ok (.iaload, 1)) (kk : jx_J X k n (pc + 1) lv (.int (xs i.toNatClampNeg) :: st) h) : jx_J X k n pc lv (.int i :: .ref b :: st) h := by
  obtain ⟨p, l, e, R, s, m, args, below, meth, c, D, h0, nL, Q⟩ := X
  obtain ⟨hx, hb, hml, hown, hlk, hsz, hF, hfl⟩ := C
  obtain ⟨hXX, hbl, rfl⟩ := hX
  intro H locs ls hR hdm hS hl
  exact va_sld hx hb hXX hbl (jx_SA hbl) hS hin d (kk H locs ls hR hdm hS hl)
theorem j_slen {X : jx_X} {cc : ByteArray} {own : String} {k n pc b L : Nat} {xs : Nat → Int32} {lv : List (Nat × Value)} {st : List Value} {h : jx_H} (C : jx_ok X cc own) (hX : jx_S X b L xs) (d : decode cc pc = .ok (.arraylength, 1)) (kk : jx_J X k n (pc + 1) lv (.int (Int32.ofNat L) :: st) h) : jx_J X k n pc lv (.ref b :: st) h := by
  obtain ⟨p, l, e, R, s, m, args, below, meth, c, D, h0, nL, Q⟩ := X
  obtain ⟨hx, hb, hml, hown, hlk, hsz, hF, hfl⟩ := C
  obtain ⟨hXX, hbl, rfl⟩ := hX
  intro H locs ls hR hdm hS hl
  exact va_slen hx hb hXX hbl (jx_SA hbl) hS d (kk H locs ls hR hdm hS hl)
theorem lw_toInt {a : Nat} (h : a < 2 ^ 31) : (Int32.ofNat a).toInt = (a : Int) := Int32.toInt_ofNat_of_lt (by omega)
theorem lw_add {a c : Nat} (h : a + c < 2 ^ 31) : Int32.ofNat a + Int32.ofNat c = Int32.ofNat (a + c) := (Int32.ofNat_add a c).symm
theorem lw_vin {a L : Nat} (h : a < L) (hL : L ≤ 2048) : vp_in (Int32.ofNat a) L := by
  have e := lw_toInt (a := a) (by omega)
  intro z
  rcases z with z | z
  · have := Int32.lt_iff_toInt_lt.mp z
    have e0 : (0 : Int32).toInt = 0 := rfl
    omega
  · have z : L ≤ (Int32.ofNat a).toInt.toNat := z
    omega
theorem lw_in0 {j L : Nat} (hj : 4 * j + 4 ≤ L) (hL : L ≤ 2048) : vp_in (Int32.ofNat (4 * j)) L := lw_vin (by omega) hL
theorem lw_in1 {j L : Nat} (hj : 4 * j + 4 ≤ L) (hL : L ≤ 2048) : vp_in (Int32.ofNat (4 * j) + 1) L := by
  rw [show (1 : Int32) = Int32.ofNat 1 from rfl, lw_add (by omega)]
  exact lw_vin (by omega) hL
theorem lw_in2 {j L : Nat} (hj : 4 * j + 4 ≤ L) (hL : L ≤ 2048) : vp_in (Int32.ofNat (4 * j) + 2) L := by
  rw [show (2 : Int32) = Int32.ofNat 2 from rfl, lw_add (by omega)]
  exact lw_vin (by omega) hL
theorem lw_in3 {j L : Nat} (hj : 4 * j + 4 ≤ L) (hL : L ≤ 2048) : vp_in (Int32.ofNat (4 * j) + 3) L := by
  rw [show (3 : Int32) = Int32.ofNat 3 from rfl, lw_add (by omega)]
  exact lw_vin (by omega) hL
theorem lw_cmp (z : Int64) : lg_cmp z z = 0 := by simp [lg_cmp]
