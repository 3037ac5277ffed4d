/-! reading and writing of blocks, at places that are in range -/
def setA (A : Nat → Nat → Int32) (j : Nat) (g : Nat → Int32) : Nat → Nat → Int32 := fun b => if b = j then g else A b
theorem setA_s {A : Nat → Nat → Int32} {j : Nat} {g : Nat → Int32} : setA A j g j = g := by simp [setA]
theorem setA_o {A : Nat → Nat → Int32} {j b : Nat} {g : Nat → Int32} (h : b ≠ j) : setA A j g b = A b := by simp [setA, h]
theorem setA_2 {A : Nat → Nat → Int32} {j : Nat} {g g' : Nat → Int32} : setA (setA A j g) j g' = setA A j g' := by
  funext b
  simp only [setA]
  split <;> rfl
theorem upd_s {f : Nat → Int32} {k : Nat} {x : Int32} : upd f k x k = x := by simp [upd]
theorem upd_o {f : Nat → Int32} {k b : Nat} {x : Int32} (h : b ≠ k) : upd f k x b = f b := by simp [upd, h]
theorem gpi_1 {S : MS} {n : Nat} {v : Int32} : (gpi S n v).1 = upd S.1 n v := rfl
theorem gpi_2 {S : MS} {n : Nat} {v : Int32} : (gpi S n v).2 = S.2 := rfl
theorem gal_ok {K : BK} {S : MS} {j k N : Nat} (hN : K.2.2.2.1 j = N) (hk : k < N) (h31 : N < 2 ^ 31) : gal K S j (nI k) = some (S.2 j k) := by
  unfold gal
  rw [hN, if_pos (nI_in hk h31), nI_clamp (by omega)]
theorem gas_ok {K : BK} {S : MS} {j k N : Nat} {x : Int32} (hN : K.2.2.2.1 j = N) (hk : k < N) (h31 : N < 2 ^ 31) : gas K S j (nI k) x = some (S.1, setA S.2 j (upd (S.2 j) k x)) := by
  unfold gas
  rw [hN, if_pos (nI_in hk h31), nI_clamp (by omega)]
  rfl
theorem gfl_ok {K : BK} {S : MS} {j N : Nat} {v : Int32} (hN : K.2.2.2.1 j = N) : gfl K S j v = some (S.1, setA S.2 j (fun k => if k < N then v else S.2 j k)) := by
  subst hN
  rfl
theorem mK_a1 {S : MS} {k : Nat} (hk : k < 248) : gal mK S 1 (nI k) = some (S.2 1 k) := gal_ok (N := 248) rfl hk (Nat.le_of_ble_eq_true rfl)
theorem mK_s1 {S : MS} {k : Nat} {x : Int32} (hk : k < 248) : gas mK S 1 (nI k) x = some (S.1, setA S.2 1 (upd (S.2 1) k x)) := gas_ok (N := 248) rfl hk (Nat.le_of_ble_eq_true rfl)
theorem mK_a2 {S : MS} {k : Nat} (hk : k < 248) : gal mK S 2 (nI k) = some (S.2 2 k) := gal_ok (N := 248) rfl hk (Nat.le_of_ble_eq_true rfl)
theorem mK_s2 {S : MS} {k : Nat} {x : Int32} (hk : k < 248) : gas mK S 2 (nI k) x = some (S.1, setA S.2 2 (upd (S.2 2) k x)) := gas_ok (N := 248) rfl hk (Nat.le_of_ble_eq_true rfl)
theorem mK_a3 {S : MS} {k : Nat} (hk : k < 248) : gal mK S 3 (nI k) = some (S.2 3 k) := gal_ok (N := 248) rfl hk (Nat.le_of_ble_eq_true rfl)
theorem mK_s3 {S : MS} {k : Nat} {x : Int32} (hk : k < 248) : gas mK S 3 (nI k) x = some (S.1, setA S.2 3 (upd (S.2 3) k x)) := gas_ok (N := 248) rfl hk (Nat.le_of_ble_eq_true rfl)
theorem mK_a4 {S : MS} {k : Nat} (hk : k < 1984) : gal mK S 4 (nI k) = some (S.2 4 k) := gal_ok (N := 1984) rfl hk (Nat.le_of_ble_eq_true rfl)
theorem mK_s4 {S : MS} {k : Nat} {x : Int32} (hk : k < 1984) : gas mK S 4 (nI k) x = some (S.1, setA S.2 4 (upd (S.2 4) k x)) := gas_ok (N := 1984) rfl hk (Nat.le_of_ble_eq_true rfl)
theorem mK_a5 {S : MS} {k : Nat} (hk : k < 496) : gal mK S 5 (nI k) = some (S.2 5 k) := gal_ok (N := 496) rfl hk (Nat.le_of_ble_eq_true rfl)
theorem mK_s5 {S : MS} {k : Nat} {x : Int32} (hk : k < 496) : gas mK S 5 (nI k) x = some (S.1, setA S.2 5 (upd (S.2 5) k x)) := gas_ok (N := 496) rfl hk (Nat.le_of_ble_eq_true rfl)
theorem mK_a6 {S : MS} {k : Nat} (hk : k < 2) : gal mK S 6 (nI k) = some (S.2 6 k) := gal_ok (N := 2) rfl hk (Nat.le_of_ble_eq_true rfl)
theorem mK_s6 {S : MS} {k : Nat} {x : Int32} (hk : k < 2) : gas mK S 6 (nI k) x = some (S.1, setA S.2 6 (upd (S.2 6) k x)) := gas_ok (N := 2) rfl hk (Nat.le_of_ble_eq_true rfl)
theorem mK_a7 {S : MS} {k : Nat} (hk : k < 6) : gal mK S 7 (nI k) = some (S.2 7 k) := gal_ok (N := 6) rfl hk (Nat.le_of_ble_eq_true rfl)
theorem mK_s7 {S : MS} {k : Nat} {x : Int32} (hk : k < 6) : gas mK S 7 (nI k) x = some (S.1, setA S.2 7 (upd (S.2 7) k x)) := gas_ok (N := 6) rfl hk (Nat.le_of_ble_eq_true rfl)
theorem mK_a8 {S : MS} {k : Nat} (hk : k < 900) : gal mK S 8 (nI k) = some (S.2 8 k) := gal_ok (N := 900) rfl hk (Nat.le_of_ble_eq_true rfl)
theorem mK_s8 {S : MS} {k : Nat} {x : Int32} (hk : k < 900) : gas mK S 8 (nI k) x = some (S.1, setA S.2 8 (upd (S.2 8) k x)) := gas_ok (N := 900) rfl hk (Nat.le_of_ble_eq_true rfl)
theorem mK_a9 {S : MS} {k : Nat} (hk : k < 25) : gal mK S 9 (nI k) = some (S.2 9 k) := gal_ok (N := 25) rfl hk (Nat.le_of_ble_eq_true rfl)
theorem mK_s9 {S : MS} {k : Nat} {x : Int32} (hk : k < 25) : gas mK S 9 (nI k) x = some (S.1, setA S.2 9 (upd (S.2 9) k x)) := gas_ok (N := 25) rfl hk (Nat.le_of_ble_eq_true rfl)
theorem mK_a10 {S : MS} {k : Nat} (hk : k < 144) : gal mK S 10 (nI k) = some (S.2 10 k) := gal_ok (N := 144) rfl hk (Nat.le_of_ble_eq_true rfl)
theorem mK_s10 {S : MS} {k : Nat} {x : Int32} (hk : k < 144) : gas mK S 10 (nI k) x = some (S.1, setA S.2 10 (upd (S.2 10) k x)) := gas_ok (N := 144) rfl hk (Nat.le_of_ble_eq_true rfl)
theorem mK_a11 {S : MS} {k : Nat} (hk : k < 144) : gal mK S 11 (nI k) = some (S.2 11 k) := gal_ok (N := 144) rfl hk (Nat.le_of_ble_eq_true rfl)
theorem mK_s11 {S : MS} {k : Nat} {x : Int32} (hk : k < 144) : gas mK S 11 (nI k) x = some (S.1, setA S.2 11 (upd (S.2 11) k x)) := gas_ok (N := 144) rfl hk (Nat.le_of_ble_eq_true rfl)
theorem mK_a12 {S : MS} {k : Nat} (hk : k < 144) : gal mK S 12 (nI k) = some (S.2 12 k) := gal_ok (N := 144) rfl hk (Nat.le_of_ble_eq_true rfl)
theorem mK_s12 {S : MS} {k : Nat} {x : Int32} (hk : k < 144) : gas mK S 12 (nI k) x = some (S.1, setA S.2 12 (upd (S.2 12) k x)) := gas_ok (N := 144) rfl hk (Nat.le_of_ble_eq_true rfl)
theorem mK_a13 {S : MS} {k : Nat} (hk : k < 144) : gal mK S 13 (nI k) = some (S.2 13 k) := gal_ok (N := 144) rfl hk (Nat.le_of_ble_eq_true rfl)
theorem mK_s13 {S : MS} {k : Nat} {x : Int32} (hk : k < 144) : gas mK S 13 (nI k) x = some (S.1, setA S.2 13 (upd (S.2 13) k x)) := gas_ok (N := 144) rfl hk (Nat.le_of_ble_eq_true rfl)
theorem mK_a14 {S : MS} {k : Nat} (hk : k < 144) : gal mK S 14 (nI k) = some (S.2 14 k) := gal_ok (N := 144) rfl hk (Nat.le_of_ble_eq_true rfl)
theorem mK_s14 {S : MS} {k : Nat} {x : Int32} (hk : k < 144) : gas mK S 14 (nI k) x = some (S.1, setA S.2 14 (upd (S.2 14) k x)) := gas_ok (N := 144) rfl hk (Nat.le_of_ble_eq_true rfl)
theorem mK_a15 {S : MS} {k : Nat} (hk : k < 288) : gal mK S 15 (nI k) = some (S.2 15 k) := gal_ok (N := 288) rfl hk (Nat.le_of_ble_eq_true rfl)
theorem mK_s15 {S : MS} {k : Nat} {x : Int32} (hk : k < 288) : gas mK S 15 (nI k) x = some (S.1, setA S.2 15 (upd (S.2 15) k x)) := gas_ok (N := 288) rfl hk (Nat.le_of_ble_eq_true rfl)
theorem mK_a16 {S : MS} {k : Nat} (hk : k < 12) : gal mK S 16 (nI k) = some (S.2 16 k) := gal_ok (N := 12) rfl hk (Nat.le_of_ble_eq_true rfl)
theorem mK_s16 {S : MS} {k : Nat} {x : Int32} (hk : k < 12) : gas mK S 16 (nI k) x = some (S.1, setA S.2 16 (upd (S.2 16) k x)) := gas_ok (N := 12) rfl hk (Nat.le_of_ble_eq_true rfl)
theorem mK_a17 {S : MS} {k : Nat} (hk : k < 12) : gal mK S 17 (nI k) = some (S.2 17 k) := gal_ok (N := 12) rfl hk (Nat.le_of_ble_eq_true rfl)
theorem mK_s17 {S : MS} {k : Nat} {x : Int32} (hk : k < 12) : gas mK S 17 (nI k) x = some (S.1, setA S.2 17 (upd (S.2 17) k x)) := gas_ok (N := 12) rfl hk (Nat.le_of_ble_eq_true rfl)
theorem mK_a18 {S : MS} {k : Nat} (hk : k < 12) : gal mK S 18 (nI k) = some (S.2 18 k) := gal_ok (N := 12) rfl hk (Nat.le_of_ble_eq_true rfl)
theorem mK_s18 {S : MS} {k : Nat} {x : Int32} (hk : k < 12) : gas mK S 18 (nI k) x = some (S.1, setA S.2 18 (upd (S.2 18) k x)) := gas_ok (N := 12) rfl hk (Nat.le_of_ble_eq_true rfl)
theorem mK_a19 {S : MS} {k : Nat} (hk : k < 12) : gal mK S 19 (nI k) = some (S.2 19 k) := gal_ok (N := 12) rfl hk (Nat.le_of_ble_eq_true rfl)
theorem mK_s19 {S : MS} {k : Nat} {x : Int32} (hk : k < 12) : gas mK S 19 (nI k) x = some (S.1, setA S.2 19 (upd (S.2 19) k x)) := gas_ok (N := 12) rfl hk (Nat.le_of_ble_eq_true rfl)
theorem mK_a20 {S : MS} {k : Nat} (hk : k < 13) : gal mK S 20 (nI k) = some (S.2 20 k) := gal_ok (N := 13) rfl hk (Nat.le_of_ble_eq_true rfl)
theorem mK_s20 {S : MS} {k : Nat} {x : Int32} (hk : k < 13) : gas mK S 20 (nI k) x = some (S.1, setA S.2 20 (upd (S.2 20) k x)) := gas_ok (N := 13) rfl hk (Nat.le_of_ble_eq_true rfl)
theorem mK_a21 {S : MS} {k : Nat} (hk : k < 13) : gal mK S 21 (nI k) = some (S.2 21 k) := gal_ok (N := 13) rfl hk (Nat.le_of_ble_eq_true rfl)
theorem mK_s21 {S : MS} {k : Nat} {x : Int32} (hk : k < 13) : gas mK S 21 (nI k) x = some (S.1, setA S.2 21 (upd (S.2 21) k x)) := gas_ok (N := 13) rfl hk (Nat.le_of_ble_eq_true rfl)
theorem mK_a22 {S : MS} {k : Nat} (hk : k < 9409) : gal mK S 22 (nI k) = some (S.2 22 k) := gal_ok (N := 9409) rfl hk (Nat.le_of_ble_eq_true rfl)
theorem mK_s22 {S : MS} {k : Nat} {x : Int32} (hk : k < 9409) : gas mK S 22 (nI k) x = some (S.1, setA S.2 22 (upd (S.2 22) k x)) := gas_ok (N := 9409) rfl hk (Nat.le_of_ble_eq_true rfl)
theorem mK_a23 {S : MS} {k : Nat} (hk : k < 9409) : gal mK S 23 (nI k) = some (S.2 23 k) := gal_ok (N := 9409) rfl hk (Nat.le_of_ble_eq_true rfl)
theorem mK_s23 {S : MS} {k : Nat} {x : Int32} (hk : k < 9409) : gas mK S 23 (nI k) x = some (S.1, setA S.2 23 (upd (S.2 23) k x)) := gas_ok (N := 9409) rfl hk (Nat.le_of_ble_eq_true rfl)
theorem mK_a24 {S : MS} {k : Nat} (hk : k < 156) : gal mK S 24 (nI k) = some (S.2 24 k) := gal_ok (N := 156) rfl hk (Nat.le_of_ble_eq_true rfl)
theorem mK_s24 {S : MS} {k : Nat} {x : Int32} (hk : k < 156) : gas mK S 24 (nI k) x = some (S.1, setA S.2 24 (upd (S.2 24) k x)) := gas_ok (N := 156) rfl hk (Nat.le_of_ble_eq_true rfl)
theorem sK_a1 {S : MS} {k : Nat} (hk : k < 13) : gal sK S 1 (nI k) = some (S.2 1 k) := gal_ok (N := 13) rfl hk (Nat.le_of_ble_eq_true rfl)
theorem sK_s1 {S : MS} {k : Nat} {x : Int32} (hk : k < 13) : gas sK S 1 (nI k) x = some (S.1, setA S.2 1 (upd (S.2 1) k x)) := gas_ok (N := 13) rfl hk (Nat.le_of_ble_eq_true rfl)
theorem sK_f1 {S : MS} {v : Int32} : gfl sK S 1 v = some (S.1, setA S.2 1 (fun k => if k < 13 then v else S.2 1 k)) := gfl_ok rfl
theorem sK_a2 {S : MS} {k : Nat} (hk : k < 12) : gal sK S 2 (nI k) = some (S.2 2 k) := gal_ok (N := 12) rfl hk (Nat.le_of_ble_eq_true rfl)
theorem sK_s2 {S : MS} {k : Nat} {x : Int32} (hk : k < 12) : gas sK S 2 (nI k) x = some (S.1, setA S.2 2 (upd (S.2 2) k x)) := gas_ok (N := 12) rfl hk (Nat.le_of_ble_eq_true rfl)
theorem sK_f2 {S : MS} {v : Int32} : gfl sK S 2 v = some (S.1, setA S.2 2 (fun k => if k < 12 then v else S.2 2 k)) := gfl_ok rfl
theorem sK_a3 {S : MS} {k : Nat} (hk : k < 12) : gal sK S 3 (nI k) = some (S.2 3 k) := gal_ok (N := 12) rfl hk (Nat.le_of_ble_eq_true rfl)
theorem sK_s3 {S : MS} {k : Nat} {x : Int32} (hk : k < 12) : gas sK S 3 (nI k) x = some (S.1, setA S.2 3 (upd (S.2 3) k x)) := gas_ok (N := 12) rfl hk (Nat.le_of_ble_eq_true rfl)
theorem sK_f3 {S : MS} {v : Int32} : gfl sK S 3 v = some (S.1, setA S.2 3 (fun k => if k < 12 then v else S.2 3 k)) := gfl_ok rfl
theorem sK_a4 {S : MS} {k : Nat} (hk : k < 13) : gal sK S 4 (nI k) = some (S.2 4 k) := gal_ok (N := 13) rfl hk (Nat.le_of_ble_eq_true rfl)
theorem sK_s4 {S : MS} {k : Nat} {x : Int32} (hk : k < 13) : gas sK S 4 (nI k) x = some (S.1, setA S.2 4 (upd (S.2 4) k x)) := gas_ok (N := 13) rfl hk (Nat.le_of_ble_eq_true rfl)
theorem sK_f4 {S : MS} {v : Int32} : gfl sK S 4 v = some (S.1, setA S.2 4 (fun k => if k < 13 then v else S.2 4 k)) := gfl_ok rfl
theorem sK_a5 {S : MS} {k : Nat} (hk : k < 13) : gal sK S 5 (nI k) = some (S.2 5 k) := gal_ok (N := 13) rfl hk (Nat.le_of_ble_eq_true rfl)
theorem sK_s5 {S : MS} {k : Nat} {x : Int32} (hk : k < 13) : gas sK S 5 (nI k) x = some (S.1, setA S.2 5 (upd (S.2 5) k x)) := gas_ok (N := 13) rfl hk (Nat.le_of_ble_eq_true rfl)
theorem sK_f5 {S : MS} {v : Int32} : gfl sK S 5 v = some (S.1, setA S.2 5 (fun k => if k < 13 then v else S.2 5 k)) := gfl_ok rfl
theorem sK_a6 {S : MS} {k : Nat} (hk : k < 156) : gal sK S 6 (nI k) = some (S.2 6 k) := gal_ok (N := 156) rfl hk (Nat.le_of_ble_eq_true rfl)
theorem sK_s6 {S : MS} {k : Nat} {x : Int32} (hk : k < 156) : gas sK S 6 (nI k) x = some (S.1, setA S.2 6 (upd (S.2 6) k x)) := gas_ok (N := 156) rfl hk (Nat.le_of_ble_eq_true rfl)
theorem sK_f6 {S : MS} {v : Int32} : gfl sK S 6 v = some (S.1, setA S.2 6 (fun k => if k < 156 then v else S.2 6 k)) := gfl_ok rfl
theorem sK_a7 {S : MS} {k : Nat} (hk : k < 12) : gal sK S 7 (nI k) = some (S.2 7 k) := gal_ok (N := 12) rfl hk (Nat.le_of_ble_eq_true rfl)
theorem sK_s7 {S : MS} {k : Nat} {x : Int32} (hk : k < 12) : gas sK S 7 (nI k) x = some (S.1, setA S.2 7 (upd (S.2 7) k x)) := gas_ok (N := 12) rfl hk (Nat.le_of_ble_eq_true rfl)
theorem sK_f7 {S : MS} {v : Int32} : gfl sK S 7 v = some (S.1, setA S.2 7 (fun k => if k < 12 then v else S.2 7 k)) := gfl_ok rfl
theorem sK_a8 {S : MS} {k : Nat} (hk : k < 12) : gal sK S 8 (nI k) = some (S.2 8 k) := gal_ok (N := 12) rfl hk (Nat.le_of_ble_eq_true rfl)
theorem sK_s8 {S : MS} {k : Nat} {x : Int32} (hk : k < 12) : gas sK S 8 (nI k) x = some (S.1, setA S.2 8 (upd (S.2 8) k x)) := gas_ok (N := 12) rfl hk (Nat.le_of_ble_eq_true rfl)
theorem sK_f8 {S : MS} {v : Int32} : gfl sK S 8 v = some (S.1, setA S.2 8 (fun k => if k < 12 then v else S.2 8 k)) := gfl_ok rfl
theorem tK_a1 {S : MS} {k : Nat} (hk : k < 900) : gal tK S 1 (nI k) = some (S.2 1 k) := gal_ok (N := 900) rfl hk (Nat.le_of_ble_eq_true rfl)
theorem tK_s1 {S : MS} {k : Nat} {x : Int32} (hk : k < 900) : gas tK S 1 (nI k) x = some (S.1, setA S.2 1 (upd (S.2 1) k x)) := gas_ok (N := 900) rfl hk (Nat.le_of_ble_eq_true rfl)
theorem pK_a1 {S : MS} {k : Nat} (hk : k < 13) : gal pK S 1 (nI k) = some (S.2 1 k) := gal_ok (N := 13) rfl hk (Nat.le_of_ble_eq_true rfl)
theorem pK_s1 {S : MS} {k : Nat} {x : Int32} (hk : k < 13) : gas pK S 1 (nI k) x = some (S.1, setA S.2 1 (upd (S.2 1) k x)) := gas_ok (N := 13) rfl hk (Nat.le_of_ble_eq_true rfl)
theorem pK_a2 {S : MS} {k : Nat} (hk : k < 13) : gal pK S 2 (nI k) = some (S.2 2 k) := gal_ok (N := 13) rfl hk (Nat.le_of_ble_eq_true rfl)
theorem pK_s2 {S : MS} {k : Nat} {x : Int32} (hk : k < 13) : gas pK S 2 (nI k) x = some (S.1, setA S.2 2 (upd (S.2 2) k x)) := gas_ok (N := 13) rfl hk (Nat.le_of_ble_eq_true rfl)
