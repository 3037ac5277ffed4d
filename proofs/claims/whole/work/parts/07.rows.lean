theorem j_iadd {X : jx_X} {cc : ByteArray} {own : String} {k n pc : Nat} {lv : List (Nat × Value)} {st : List Value} {h : jx_H} (C : jx_ok X cc own) {x y : Int32} (d : decode cc pc = .ok (.iadd, 1)) (kk : jx_J X k n (pc + 1) lv (.int (x + y) :: st) h) : jx_J X k n pc lv (.int y :: .int x :: st) h := by
  obtain ⟨p, l, e, R, s, m, args, below, meth, c, D, h0, nL, Q⟩ := X
  obtain ⟨hx, hb, hml, hown, hlk, hsz, hF, hfl⟩ := C
  intro H locs ls hR hdm hS hl
  exact lv_iadd hx hb d (kk H locs ls hR hdm hS hl)
theorem j_isub {X : jx_X} {cc : ByteArray} {own : String} {k n pc : Nat} {lv : List (Nat × Value)} {st : List Value} {h : jx_H} (C : jx_ok X cc own) {x y : Int32} (d : decode cc pc = .ok (.isub, 1)) (kk : jx_J X k n (pc + 1) lv (.int (x - y) :: st) h) : jx_J X k n pc lv (.int y :: .int x :: st) h := by
  obtain ⟨p, l, e, R, s, m, args, below, meth, c, D, h0, nL, Q⟩ := X
  obtain ⟨hx, hb, hml, hown, hlk, hsz, hF, hfl⟩ := C
  intro H locs ls hR hdm hS hl
  exact lv_isub hx hb d (kk H locs ls hR hdm hS hl)
theorem j_imul {X : jx_X} {cc : ByteArray} {own : String} {k n pc : Nat} {lv : List (Nat × Value)} {st : List Value} {h : jx_H} (C : jx_ok X cc own) {x y : Int32} (d : decode cc pc = .ok (.imul, 1)) (kk : jx_J X k n (pc + 1) lv (.int (x * y) :: st) h) : jx_J X k n pc lv (.int y :: .int x :: st) h := by
  obtain ⟨p, l, e, R, s, m, args, below, meth, c, D, h0, nL, Q⟩ := X
  obtain ⟨hx, hb, hml, hown, hlk, hsz, hF, hfl⟩ := C
  intro H locs ls hR hdm hS hl
  exact lv_imul hx hb d (kk H locs ls hR hdm hS hl)
theorem j_iand {X : jx_X} {cc : ByteArray} {own : String} {k n pc : Nat} {lv : List (Nat × Value)} {st : List Value} {h : jx_H} (C : jx_ok X cc own) {x y : Int32} (d : decode cc pc = .ok (.iand, 1)) (kk : jx_J X k n (pc + 1) lv (.int (x &&& y) :: st) h) : jx_J X k n pc lv (.int y :: .int x :: st) h := by
  obtain ⟨p, l, e, R, s, m, args, below, meth, c, D, h0, nL, Q⟩ := X
  obtain ⟨hx, hb, hml, hown, hlk, hsz, hF, hfl⟩ := C
  intro H locs ls hR hdm hS hl
  exact lv_iand hx hb d (kk H locs ls hR hdm hS hl)
theorem j_ior {X : jx_X} {cc : ByteArray} {own : String} {k n pc : Nat} {lv : List (Nat × Value)} {st : List Value} {h : jx_H} (C : jx_ok X cc own) {x y : Int32} (d : decode cc pc = .ok (.ior, 1)) (kk : jx_J X k n (pc + 1) lv (.int (x ||| y) :: st) h) : jx_J X k n pc lv (.int y :: .int x :: st) h := by
  obtain ⟨p, l, e, R, s, m, args, below, meth, c, D, h0, nL, Q⟩ := X
  obtain ⟨hx, hb, hml, hown, hlk, hsz, hF, hfl⟩ := C
  intro H locs ls hR hdm hS hl
  exact lv_ior hx hb d (kk H locs ls hR hdm hS hl)
theorem j_ixor {X : jx_X} {cc : ByteArray} {own : String} {k n pc : Nat} {lv : List (Nat × Value)} {st : List Value} {h : jx_H} (C : jx_ok X cc own) {x y : Int32} (d : decode cc pc = .ok (.ixor, 1)) (kk : jx_J X k n (pc + 1) lv (.int (x ^^^ y) :: st) h) : jx_J X k n pc lv (.int y :: .int x :: st) h := by
  obtain ⟨p, l, e, R, s, m, args, below, meth, c, D, h0, nL, Q⟩ := X
  obtain ⟨hx, hb, hml, hown, hlk, hsz, hF, hfl⟩ := C
  intro H locs ls hR hdm hS hl
  exact lv_ixor hx hb d (kk H locs ls hR hdm hS hl)
theorem j_ishl {X : jx_X} {cc : ByteArray} {own : String} {k n pc : Nat} {lv : List (Nat × Value)} {st : List Value} {h : jx_H} (C : jx_ok X cc own) {x y : Int32} (d : decode cc pc = .ok (.ishl, 1)) (kk : jx_J X k n (pc + 1) lv (.int (x <<< (y &&& 31)) :: st) h) : jx_J X k n pc lv (.int y :: .int x :: st) h := by
  obtain ⟨p, l, e, R, s, m, args, below, meth, c, D, h0, nL, Q⟩ := X
  obtain ⟨hx, hb, hml, hown, hlk, hsz, hF, hfl⟩ := C
  intro H locs ls hR hdm hS hl
  exact lv_ishl hx hb d (kk H locs ls hR hdm hS hl)
theorem j_ishr {X : jx_X} {cc : ByteArray} {own : String} {k n pc : Nat} {lv : List (Nat × Value)} {st : List Value} {h : jx_H} (C : jx_ok X cc own) {x y : Int32} (d : decode cc pc = .ok (.ishr, 1)) (kk : jx_J X k n (pc + 1) lv (.int (x >>> (y &&& 31)) :: st) h) : jx_J X k n pc lv (.int y :: .int x :: st) h := by
  obtain ⟨p, l, e, R, s, m, args, below, meth, c, D, h0, nL, Q⟩ := X
  obtain ⟨hx, hb, hml, hown, hlk, hsz, hF, hfl⟩ := C
  intro H locs ls hR hdm hS hl
  exact lv_ishr hx hb d (kk H locs ls hR hdm hS hl)
theorem j_idiv {X : jx_X} {cc : ByteArray} {own : String} {k n pc : Nat} {lv : List (Nat × Value)} {st : List Value} {h : jx_H} (C : jx_ok X cc own) {x y : Int32} (d : decode cc pc = .ok (.idiv, 1)) (hne : ¬ y = 0) (kk : jx_J X k n (pc + 1) lv (.int (x / y) :: st) h) : jx_J X k n pc lv (.int y :: .int x :: st) h := by
  obtain ⟨p, l, e, R, s, m, args, below, meth, c, D, h0, nL, Q⟩ := X
  obtain ⟨hx, hb, hml, hown, hlk, hsz, hF, hfl⟩ := C
  intro H locs ls hR hdm hS hl
  exact lv_idiv hx hb d hne (kk H locs ls hR hdm hS hl)
theorem j_irem {X : jx_X} {cc : ByteArray} {own : String} {k n pc : Nat} {lv : List (Nat × Value)} {st : List Value} {h : jx_H} (C : jx_ok X cc own) {x y : Int32} (d : decode cc pc = .ok (.irem, 1)) (hne : ¬ y = 0) (kk : jx_J X k n (pc + 1) lv (.int (x - x / y * y) :: st) h) : jx_J X k n pc lv (.int y :: .int x :: st) h := by
  obtain ⟨p, l, e, R, s, m, args, below, meth, c, D, h0, nL, Q⟩ := X
  obtain ⟨hx, hb, hml, hown, hlk, hsz, hF, hfl⟩ := C
  intro H locs ls hR hdm hS hl
  exact lv_irem hx hb d hne (kk H locs ls hR hdm hS hl)
theorem j_ineg {X : jx_X} {cc : ByteArray} {own : String} {k n pc : Nat} {lv : List (Nat × Value)} {st : List Value} {h : jx_H} (C : jx_ok X cc own) {x : Int32} (d : decode cc pc = .ok (.ineg, 1)) (kk : jx_J X k n (pc + 1) lv (.int (-x) :: st) h) : jx_J X k n pc lv (.int x :: st) h := by
  obtain ⟨p, l, e, R, s, m, args, below, meth, c, D, h0, nL, Q⟩ := X
  obtain ⟨hx, hb, hml, hown, hlk, hsz, hF, hfl⟩ := C
  intro H locs ls hR hdm hS hl
  exact lv_ineg hx hb d (kk H locs ls hR hdm hS hl)
theorem j_i2b {X : jx_X} {cc : ByteArray} {own : String} {k n pc : Nat} {lv : List (Nat × Value)} {st : List Value} {h : jx_H} (C : jx_ok X cc own) {x : Int32} (d : decode cc pc = .ok (.i2b, 1)) (kk : jx_J X k n (pc + 1) lv (.int x.toInt8.toInt32 :: st) h) : jx_J X k n pc lv (.int x :: st) h := by
  obtain ⟨p, l, e, R, s, m, args, below, meth, c, D, h0, nL, Q⟩ := X
  obtain ⟨hx, hb, hml, hown, hlk, hsz, hF, hfl⟩ := C
  intro H locs ls hR hdm hS hl
  exact lv_i2b hx hb d rfl (kk H locs ls hR hdm hS hl)
theorem j_i2l {X : jx_X} {cc : ByteArray} {own : String} {k n pc : Nat} {lv : List (Nat × Value)} {st : List Value} {h : jx_H} (C : jx_ok X cc own) {x : Int32} (d : decode cc pc = .ok (.i2l, 1)) (kk : jx_J X k n (pc + 1) lv (.long x.toInt64 :: st) h) : jx_J X k n pc lv (.int x :: st) h := by
  obtain ⟨p, l, e, R, s, m, args, below, meth, c, D, h0, nL, Q⟩ := X
  obtain ⟨hx, hb, hml, hown, hlk, hsz, hF, hfl⟩ := C
  intro H locs ls hR hdm hS hl
  exact lv_i2l hx hb d rfl (kk H locs ls hR hdm hS hl)
theorem j_i2d {X : jx_X} {cc : ByteArray} {own : String} {k n pc : Nat} {lv : List (Nat × Value)} {st : List Value} {h : jx_H} (C : jx_ok X cc own) {x : Int32} (d : decode cc pc = .ok (.i2d, 1)) (kk : jx_J X k n (pc + 1) lv (.double (FP.i2d x) :: st) h) : jx_J X k n pc lv (.int x :: st) h := by
  obtain ⟨p, l, e, R, s, m, args, below, meth, c, D, h0, nL, Q⟩ := X
  obtain ⟨hx, hb, hml, hown, hlk, hsz, hF, hfl⟩ := C
  intro H locs ls hR hdm hS hl
  exact lv_i2d hx hb d (kk H locs ls hR hdm hS hl)
theorem j_ddiv {X : jx_X} {cc : ByteArray} {own : String} {k n pc : Nat} {lv : List (Nat × Value)} {st : List Value} {h : jx_H} (C : jx_ok X cc own) {x y : UInt64} (d : decode cc pc = .ok (.ddiv, 1)) (hne : vf_n64 (FP.ddiv x y)) (kk : jx_J X k n (pc + 1) lv (.double (FP.ddiv x y) :: st) h) : jx_J X k n pc lv (.double y :: .double x :: st) h := by
  obtain ⟨p, l, e, R, s, m, args, below, meth, c, D, h0, nL, Q⟩ := X
  obtain ⟨hx, hb, hml, hown, hlk, hsz, hF, hfl⟩ := C
  intro H locs ls hR hdm hS hl
  exact lv_ddiv hx hb d hne (kk H locs ls hR hdm hS hl)
theorem j_dcmp {X : jx_X} {cc : ByteArray} {own : String} {k n pc : Nat} {lv : List (Nat × Value)} {st : List Value} {h : jx_H} (C : jx_ok X cc own) {x y : UInt64} {op : CmpOp} (d : decode cc pc = .ok (.dcmp op, 1)) (kk : jx_J X k n (pc + 1) lv (.int (Op.cmpValue (FP.dcmp x y) op) :: st) h) : jx_J X k n pc lv (.double y :: .double x :: st) h := by
  obtain ⟨p, l, e, R, s, m, args, below, meth, c, D, h0, nL, Q⟩ := X
  obtain ⟨hx, hb, hml, hown, hlk, hsz, hF, hfl⟩ := C
  intro H locs ls hR hdm hS hl
  exact lv_dcmp hx hb d (kk H locs ls hR hdm hS hl)
theorem j_lcmp {X : jx_X} {cc : ByteArray} {own : String} {k n pc : Nat} {lv : List (Nat × Value)} {st : List Value} {h : jx_H} (C : jx_ok X cc own) {x y : Int64} (d : decode cc pc = .ok (.lcmp, 1)) (kk : jx_J X k n (pc + 1) lv (.int (lg_cmp x y) :: st) h) : jx_J X k n pc lv (.long y :: .long x :: st) h := by
  obtain ⟨p, l, e, R, s, m, args, below, meth, c, D, h0, nL, Q⟩ := X
  obtain ⟨hx, hb, hml, hown, hlk, hsz, hF, hfl⟩ := C
  intro H locs ls hR hdm hS hl
  exact W.lcmp hx hb d (kk H locs ls hR hdm hS hl)
theorem j_dup {X : jx_X} {cc : ByteArray} {own : String} {k n pc : Nat} {lv : List (Nat × Value)} {st : List Value} {h : jx_H} (C : jx_ok X cc own) {x : Value} (d : decode cc pc = .ok (.dup, 1)) (hc : x.category = 1) (kk : jx_J X k n (pc + 1) lv (x :: x :: st) h) : jx_J X k n pc lv (x :: st) h := by
  obtain ⟨p, l, e, R, s, m, args, below, meth, c, D, h0, nL, Q⟩ := X
  obtain ⟨hx, hb, hml, hown, hlk, hsz, hF, hfl⟩ := C
  intro H locs ls hR hdm hS hl
  exact lv_dup hx hb d hc (kk H locs ls hR hdm hS hl)
theorem j_dup2 {X : jx_X} {cc : ByteArray} {own : String} {k n pc : Nat} {lv : List (Nat × Value)} {st : List Value} {h : jx_H} (C : jx_ok X cc own) {x y : Value} (d : decode cc pc = .ok (.dup2, 1)) (hc : x.category = 1) (hc2 : y.category = 1) (kk : jx_J X k n (pc + 1) lv (x :: y :: x :: y :: st) h) : jx_J X k n pc lv (x :: y :: st) h := by
  obtain ⟨p, l, e, R, s, m, args, below, meth, c, D, h0, nL, Q⟩ := X
  obtain ⟨hx, hb, hml, hown, hlk, hsz, hF, hfl⟩ := C
  intro H locs ls hR hdm hS hl
  exact lv_dup2_11 hx hb d hc hc2 (kk H locs ls hR hdm hS hl)
theorem j_pop {X : jx_X} {cc : ByteArray} {own : String} {k n pc : Nat} {lv : List (Nat × Value)} {st : List Value} {h : jx_H} (C : jx_ok X cc own) {x : Value} (d : decode cc pc = .ok (.pop, 1)) (hc : x.category = 1) (kk : jx_J X k n (pc + 1) lv (st) h) : jx_J X k n pc lv (x :: st) h := by
  obtain ⟨p, l, e, R, s, m, args, below, meth, c, D, h0, nL, Q⟩ := X
  obtain ⟨hx, hb, hml, hown, hlk, hsz, hF, hfl⟩ := C
  intro H locs ls hR hdm hS hl
  exact lv_pop hx hb d hc (kk H locs ls hR hdm hS hl)
theorem j_iconst {X : jx_X} {cc : ByteArray} {own : String} {k n pc : Nat} {lv : List (Nat × Value)} {st : List Value} {h : jx_H} (C : jx_ok X cc own) {z : Int} {v : Int32} (d : decode cc pc = .ok (.iconst z, 1)) (hv : Int32.ofInt z = v) (kk : jx_J X k n (pc + 1) lv (.int v :: st) h) : jx_J X k n pc lv (st) h := by
  obtain ⟨p, l, e, R, s, m, args, below, meth, c, D, h0, nL, Q⟩ := X
  obtain ⟨hx, hb, hml, hown, hlk, hsz, hF, hfl⟩ := C
  intro H locs ls hR hdm hS hl
  exact lv_iconst hx hb d hv (kk H locs ls hR hdm hS hl)
theorem j_bipush {X : jx_X} {cc : ByteArray} {own : String} {k n pc : Nat} {lv : List (Nat × Value)} {st : List Value} {h : jx_H} (C : jx_ok X cc own) {z : Int} {v : Int32} (d : decode cc pc = .ok (.bipush z, 2)) (hv : (Int8.ofInt z).toInt32 = v) (kk : jx_J X k n (pc + 2) lv (.int v :: st) h) : jx_J X k n pc lv (st) h := by
  obtain ⟨p, l, e, R, s, m, args, below, meth, c, D, h0, nL, Q⟩ := X
  obtain ⟨hx, hb, hml, hown, hlk, hsz, hF, hfl⟩ := C
  intro H locs ls hR hdm hS hl
  exact lv_bipush hx hb d hv (kk H locs ls hR hdm hS hl)
theorem j_sipush {X : jx_X} {cc : ByteArray} {own : String} {k n pc : Nat} {lv : List (Nat × Value)} {st : List Value} {h : jx_H} (C : jx_ok X cc own) {z : Int} {v : Int32} (d : decode cc pc = .ok (.sipush z, 3)) (hv : (Int16.ofInt z).toInt32 = v) (kk : jx_J X k n (pc + 3) lv (.int v :: st) h) : jx_J X k n pc lv (st) h := by
  obtain ⟨p, l, e, R, s, m, args, below, meth, c, D, h0, nL, Q⟩ := X
  obtain ⟨hx, hb, hml, hown, hlk, hsz, hF, hfl⟩ := C
  intro H locs ls hR hdm hS hl
  exact lv_sipush hx hb d hv (kk H locs ls hR hdm hS hl)
theorem j_null {X : jx_X} {cc : ByteArray} {own : String} {k n pc : Nat} {lv : List (Nat × Value)} {st : List Value} {h : jx_H} (C : jx_ok X cc own)  (d : decode cc pc = .ok (.aconst_null, 1)) (kk : jx_J X k n (pc + 1) lv (.null :: st) h) : jx_J X k n pc lv (st) h := by
  obtain ⟨p, l, e, R, s, m, args, below, meth, c, D, h0, nL, Q⟩ := X
  obtain ⟨hx, hb, hml, hown, hlk, hsz, hF, hfl⟩ := C
  intro H locs ls hR hdm hS hl
  exact lv_null hx hb d (kk H locs ls hR hdm hS hl)
theorem j_iload {X : jx_X} {cc : ByteArray} {own : String} {k n pc : Nat} {lv : List (Nat × Value)} {st : List Value} {h : jx_H} (C : jx_ok X cc own) {i : Nat} {x : Int32} (d : decode cc pc = .ok (.iload i, 2)) (hv : lv.lookup i = some (.int x)) (kk : jx_J X k n (pc + 2) lv (.int x :: st) h) : jx_J X k n pc lv (st) h := by
  obtain ⟨p, l, e, R, s, m, args, below, meth, c, D, h0, nL, Q⟩ := X
  obtain ⟨hx, hb, hml, hown, hlk, hsz, hF, hfl⟩ := C
  intro H locs ls hR hdm hS hl
  exact lv_iload hx hb d (jx_get hl hv) (kk H locs ls hR hdm hS hl)
theorem j_iload_n {X : jx_X} {cc : ByteArray} {own : String} {k n pc : Nat} {lv : List (Nat × Value)} {st : List Value} {h : jx_H} (C : jx_ok X cc own) {q : Fin 4} {i : Nat} {x : Int32} (d : decode cc pc = .ok (.iload_n q, 1)) (hi : (q : Nat) = i) (hv : lv.lookup i = some (.int x)) (kk : jx_J X k n (pc + 1) lv (.int x :: st) h) : jx_J X k n pc lv st h := by
  obtain ⟨p, l, e, R, s, m, args, below, meth, c, D, h0, nL, Q⟩ := X
  obtain ⟨hx, hb, hml, hown, hlk, hsz, hF, hfl⟩ := C
  intro H locs ls hR hdm hS hl
  exact lv_iload_n hx hb d hi (jx_get hl hv) (kk H locs ls hR hdm hS hl)
theorem j_lload {X : jx_X} {cc : ByteArray} {own : String} {k n pc : Nat} {lv : List (Nat × Value)} {st : List Value} {h : jx_H} (C : jx_ok X cc own) {i : Nat} {x : Int64} (d : decode cc pc = .ok (.lload i, 2)) (hv : lv.lookup i = some (.long x)) (kk : jx_J X k n (pc + 2) lv (.long x :: st) h) : jx_J X k n pc lv (st) h := by
  obtain ⟨p, l, e, R, s, m, args, below, meth, c, D, h0, nL, Q⟩ := X
  obtain ⟨hx, hb, hml, hown, hlk, hsz, hF, hfl⟩ := C
  intro H locs ls hR hdm hS hl
  exact lv_lload hx hb d (jx_get hl hv) (kk H locs ls hR hdm hS hl)
theorem j_lload_n {X : jx_X} {cc : ByteArray} {own : String} {k n pc : Nat} {lv : List (Nat × Value)} {st : List Value} {h : jx_H} (C : jx_ok X cc own) {q : Fin 4} {i : Nat} {x : Int64} (d : decode cc pc = .ok (.lload_n q, 1)) (hi : (q : Nat) = i) (hv : lv.lookup i = some (.long x)) (kk : jx_J X k n (pc + 1) lv (.long x :: st) h) : jx_J X k n pc lv st h := by
  obtain ⟨p, l, e, R, s, m, args, below, meth, c, D, h0, nL, Q⟩ := X
  obtain ⟨hx, hb, hml, hown, hlk, hsz, hF, hfl⟩ := C
  intro H locs ls hR hdm hS hl
  exact lv_lload_n hx hb d hi (jx_get hl hv) (kk H locs ls hR hdm hS hl)
theorem j_aload {X : jx_X} {cc : ByteArray} {own : String} {k n pc : Nat} {lv : List (Nat × Value)} {st : List Value} {h : jx_H} (C : jx_ok X cc own) {i : Nat} {x : Nat} (d : decode cc pc = .ok (.aload i, 2)) (hv : lv.lookup i = some (.ref x)) (kk : jx_J X k n (pc + 2) lv (.ref x :: st) h) : jx_J X k n pc lv (st) h := by
  obtain ⟨p, l, e, R, s, m, args, below, meth, c, D, h0, nL, Q⟩ := X
  obtain ⟨hx, hb, hml, hown, hlk, hsz, hF, hfl⟩ := C
  intro H locs ls hR hdm hS hl
  exact lv_aload hx hb d (jx_get hl hv) (kk H locs ls hR hdm hS hl)
theorem j_aload_n {X : jx_X} {cc : ByteArray} {own : String} {k n pc : Nat} {lv : List (Nat × Value)} {st : List Value} {h : jx_H} (C : jx_ok X cc own) {q : Fin 4} {i : Nat} {x : Nat} (d : decode cc pc = .ok (.aload_n q, 1)) (hi : (q : Nat) = i) (hv : lv.lookup i = some (.ref x)) (kk : jx_J X k n (pc + 1) lv (.ref x :: st) h) : jx_J X k n pc lv st h := by
  obtain ⟨p, l, e, R, s, m, args, below, meth, c, D, h0, nL, Q⟩ := X
  obtain ⟨hx, hb, hml, hown, hlk, hsz, hF, hfl⟩ := C
  intro H locs ls hR hdm hS hl
  exact lv_aload_n hx hb d hi (jx_get hl hv) (kk H locs ls hR hdm hS hl)
theorem j_dload {X : jx_X} {cc : ByteArray} {own : String} {k n pc : Nat} {lv : List (Nat × Value)} {st : List Value} {h : jx_H} (C : jx_ok X cc own) {i : Nat} {x : UInt64} (d : decode cc pc = .ok (.dload i, 2)) (hv : lv.lookup i = some (.double x)) (kk : jx_J X k n (pc + 2) lv (.double x :: st) h) : jx_J X k n pc lv (st) h := by
  obtain ⟨p, l, e, R, s, m, args, below, meth, c, D, h0, nL, Q⟩ := X
  obtain ⟨hx, hb, hml, hown, hlk, hsz, hF, hfl⟩ := C
  intro H locs ls hR hdm hS hl
  exact lv_dload hx hb d (jx_get hl hv) (kk H locs ls hR hdm hS hl)
theorem j_dload_n {X : jx_X} {cc : ByteArray} {own : String} {k n pc : Nat} {lv : List (Nat × Value)} {st : List Value} {h : jx_H} (C : jx_ok X cc own) {q : Fin 4} {i : Nat} {x : UInt64} (d : decode cc pc = .ok (.dload_n q, 1)) (hi : (q : Nat) = i) (hv : lv.lookup i = some (.double x)) (kk : jx_J X k n (pc + 1) lv (.double x :: st) h) : jx_J X k n pc lv st h := by
  obtain ⟨p, l, e, R, s, m, args, below, meth, c, D, h0, nL, Q⟩ := X
  obtain ⟨hx, hb, hml, hown, hlk, hsz, hF, hfl⟩ := C
  intro H locs ls hR hdm hS hl
  exact lv_dload_n hx hb d hi (jx_get hl hv) (kk H locs ls hR hdm hS hl)
theorem j_aload_nQ {X : jx_X} {cc : ByteArray} {own : String} {k n pc : Nat} {lv : List (Nat × Value)} {st : List Value} {h : jx_H} (C : jx_ok X cc own) {q : Fin 4} {i : Nat} {r : Option Nat} (d : decode cc pc = .ok (.aload_n q, 1)) (hi : (q : Nat) = i) (hv : lv.lookup i = some (va_rf r)) (kk : jx_J X k n (pc + 1) lv (va_rf r :: st) h) : jx_J X k n pc lv st h := by
  obtain ⟨p, l, e, R, s, m, args, below, meth, c, D, h0, nL, Q⟩ := X
  obtain ⟨hx, hb, hml, hown, hlk, hsz, hF, hfl⟩ := C
  intro H locs ls hR hdm hS hl
  cases r with
  | none => exact lv_aload_nN hx hb d hi (jx_get hl hv) (kk H locs ls hR hdm hS hl)
  | some a => exact lv_aload_n hx hb d hi (jx_get hl hv) (kk H locs ls hR hdm hS hl)
theorem j_aloadQ {X : jx_X} {cc : ByteArray} {own : String} {k n pc : Nat} {lv : List (Nat × Value)} {st : List Value} {h : jx_H} (C : jx_ok X cc own) {i : Nat} {r : Option Nat} (d : decode cc pc = .ok (.aload i, 2)) (hv : lv.lookup i = some (va_rf r)) (kk : jx_J X k n (pc + 2) lv (va_rf r :: st) h) : jx_J X k n pc lv st h := by
  obtain ⟨p, l, e, R, s, m, args, below, meth, c, D, h0, nL, Q⟩ := X
  obtain ⟨hx, hb, hml, hown, hlk, hsz, hF, hfl⟩ := C
  intro H locs ls hR hdm hS hl
  cases r with
  | none => exact lv_aloadN hx hb d (jx_get hl hv) (kk H locs ls hR hdm hS hl)
  | some a => exact lv_aload hx hb d (jx_get hl hv) (kk H locs ls hR hdm hS hl)
theorem j_istore {X : jx_X} {cc : ByteArray} {own : String} {k n pc : Nat} {lv : List (Nat × Value)} {st : List Value} {h : jx_H} {N : Nat} (C : jx_ok X cc own) (hL : jx_nl X N) {i : Nat} {x : Int32} {lv1 : List (Nat × Value)} (d : decode cc pc = .ok (.istore i, 2)) (hn : i < N) (hs : (i, Value.int x) :: lv.filter (fun q => !(q.1 == i) && !(q.1 + 1 == i && q.2.category == 2)) = lv1) (kk : jx_J X k n (pc + 2) lv1 st h) : jx_J X k n pc lv (.int x :: st) h := by
  obtain ⟨p, l, e, R, s, m, args, below, meth, c, D, h0, nL, Q⟩ := X
  obtain ⟨hx, hb, hml, hown, hlk, hsz, hF, hfl⟩ := C
  obtain rfl : nL = N := hL
  intro H locs ls hR hdm hS hl
  exact lv_istore hx hb d hl hn hs (fun ls1 hl1 => kk H locs ls1 hR hdm hS hl1)
theorem j_istore_n {X : jx_X} {cc : ByteArray} {own : String} {k n pc : Nat} {lv : List (Nat × Value)} {st : List Value} {h : jx_H} {N : Nat} (C : jx_ok X cc own) (hL : jx_nl X N) {q : Fin 4} {i : Nat} {x : Int32} {lv1 : List (Nat × Value)} (d : decode cc pc = .ok (.istore_n q, 1)) (hi : (q : Nat) = i) (hn : i < N) (hs : (i, Value.int x) :: lv.filter (fun q => !(q.1 == i) && !(q.1 + 1 == i && q.2.category == 2)) = lv1) (kk : jx_J X k n (pc + 1) lv1 st h) : jx_J X k n pc lv (.int x :: st) h := by
  obtain ⟨p, l, e, R, s, m, args, below, meth, c, D, h0, nL, Q⟩ := X
  obtain ⟨hx, hb, hml, hown, hlk, hsz, hF, hfl⟩ := C
  obtain rfl : nL = N := hL
  intro H locs ls hR hdm hS hl
  exact lv_istore_n hx hb d hi hl hn hs (fun ls1 hl1 => kk H locs ls1 hR hdm hS hl1)
theorem j_astore {X : jx_X} {cc : ByteArray} {own : String} {k n pc : Nat} {lv : List (Nat × Value)} {st : List Value} {h : jx_H} {N : Nat} (C : jx_ok X cc own) (hL : jx_nl X N) {i : Nat} {x : Nat} {lv1 : List (Nat × Value)} (d : decode cc pc = .ok (.astore i, 2)) (hn : i < N) (hs : (i, Value.ref x) :: lv.filter (fun q => !(q.1 == i) && !(q.1 + 1 == i && q.2.category == 2)) = lv1) (kk : jx_J X k n (pc + 2) lv1 st h) : jx_J X k n pc lv (.ref x :: st) h := by
  obtain ⟨p, l, e, R, s, m, args, below, meth, c, D, h0, nL, Q⟩ := X
  obtain ⟨hx, hb, hml, hown, hlk, hsz, hF, hfl⟩ := C
  obtain rfl : nL = N := hL
  intro H locs ls hR hdm hS hl
  exact lv_astore hx hb d hl hn hs (fun ls1 hl1 => kk H locs ls1 hR hdm hS hl1)
theorem j_astore_n {X : jx_X} {cc : ByteArray} {own : String} {k n pc : Nat} {lv : List (Nat × Value)} {st : List Value} {h : jx_H} {N : Nat} (C : jx_ok X cc own) (hL : jx_nl X N) {q : Fin 4} {i : Nat} {x : Nat} {lv1 : List (Nat × Value)} (d : decode cc pc = .ok (.astore_n q, 1)) (hi : (q : Nat) = i) (hn : i < N) (hs : (i, Value.ref x) :: lv.filter (fun q => !(q.1 == i) && !(q.1 + 1 == i && q.2.category == 2)) = lv1) (kk : jx_J X k n (pc + 1) lv1 st h) : jx_J X k n pc lv (.ref x :: st) h := by
  obtain ⟨p, l, e, R, s, m, args, below, meth, c, D, h0, nL, Q⟩ := X
  obtain ⟨hx, hb, hml, hown, hlk, hsz, hF, hfl⟩ := C
  obtain rfl : nL = N := hL
  intro H locs ls hR hdm hS hl
  exact lv_astore_n hx hb d hi hl hn hs (fun ls1 hl1 => kk H locs ls1 hR hdm hS hl1)
theorem j_lstore {X : jx_X} {cc : ByteArray} {own : String} {k n pc : Nat} {lv : List (Nat × Value)} {st : List Value} {h : jx_H} {N : Nat} (C : jx_ok X cc own) (hL : jx_nl X N) {i : Nat} {x : Int64} {lv1 : List (Nat × Value)} (d : decode cc pc = .ok (.lstore i, 2)) (hn : i + 1 < N) (hs : (i, Value.long x) :: lv.filter (fun q => !(q.1 == i) && (!(q.1 == i + 1) && !(q.1 + 1 == i && q.2.category == 2))) = lv1) (kk : jx_J X k n (pc + 2) lv1 st h) : jx_J X k n pc lv (.long x :: st) h := by
  obtain ⟨p, l, e, R, s, m, args, below, meth, c, D, h0, nL, Q⟩ := X
  obtain ⟨hx, hb, hml, hown, hlk, hsz, hF, hfl⟩ := C
  obtain rfl : nL = N := hL
  intro H locs ls hR hdm hS hl
  exact lv_lstore hx hb d hl hn hs (fun ls1 hl1 => kk H locs ls1 hR hdm hS hl1)
theorem j_lstore_n {X : jx_X} {cc : ByteArray} {own : String} {k n pc : Nat} {lv : List (Nat × Value)} {st : List Value} {h : jx_H} {N : Nat} (C : jx_ok X cc own) (hL : jx_nl X N) {q : Fin 4} {i : Nat} {x : Int64} {lv1 : List (Nat × Value)} (d : decode cc pc = .ok (.lstore_n q, 1)) (hi : (q : Nat) = i) (hn : i + 1 < N) (hs : (i, Value.long x) :: lv.filter (fun q => !(q.1 == i) && (!(q.1 == i + 1) && !(q.1 + 1 == i && q.2.category == 2))) = lv1) (kk : jx_J X k n (pc + 1) lv1 st h) : jx_J X k n pc lv (.long x :: st) h := by
  obtain ⟨p, l, e, R, s, m, args, below, meth, c, D, h0, nL, Q⟩ := X
  obtain ⟨hx, hb, hml, hown, hlk, hsz, hF, hfl⟩ := C
  obtain rfl : nL = N := hL
  intro H locs ls hR hdm hS hl
  exact lv_lstore_n hx hb d hi hl hn hs (fun ls1 hl1 => kk H locs ls1 hR hdm hS hl1)
theorem j_dstore {X : jx_X} {cc : ByteArray} {own : String} {k n pc : Nat} {lv : List (Nat × Value)} {st : List Value} {h : jx_H} {N : Nat} (C : jx_ok X cc own) (hL : jx_nl X N) {i : Nat} {x : UInt64} {lv1 : List (Nat × Value)} (d : decode cc pc = .ok (.dstore i, 2)) (hn : i + 1 < N) (hs : (i, Value.double x) :: lv.filter (fun q => !(q.1 == i) && (!(q.1 == i + 1) && !(q.1 + 1 == i && q.2.category == 2))) = lv1) (kk : jx_J X k n (pc + 2) lv1 st h) : jx_J X k n pc lv (.double x :: st) h := by
  obtain ⟨p, l, e, R, s, m, args, below, meth, c, D, h0, nL, Q⟩ := X
  obtain ⟨hx, hb, hml, hown, hlk, hsz, hF, hfl⟩ := C
  obtain rfl : nL = N := hL
  intro H locs ls hR hdm hS hl
  exact lv_dstore hx hb d hl hn hs (fun ls1 hl1 => kk H locs ls1 hR hdm hS hl1)
theorem j_dstore_n {X : jx_X} {cc : ByteArray} {own : String} {k n pc : Nat} {lv : List (Nat × Value)} {st : List Value} {h : jx_H} {N : Nat} (C : jx_ok X cc own) (hL : jx_nl X N) {q : Fin 4} {i : Nat} {x : UInt64} {lv1 : List (Nat × Value)} (d : decode cc pc = .ok (.dstore_n q, 1)) (hi : (q : Nat) = i) (hn : i + 1 < N) (hs : (i, Value.double x) :: lv.filter (fun q => !(q.1 == i) && (!(q.1 == i + 1) && !(q.1 + 1 == i && q.2.category == 2))) = lv1) (kk : jx_J X k n (pc + 1) lv1 st h) : jx_J X k n pc lv (.double x :: st) h := by
  obtain ⟨p, l, e, R, s, m, args, below, meth, c, D, h0, nL, Q⟩ := X
  obtain ⟨hx, hb, hml, hown, hlk, hsz, hF, hfl⟩ := C
  obtain rfl : nL = N := hL
  intro H locs ls hR hdm hS hl
  exact lv_dstore_n hx hb d hi hl hn hs (fun ls1 hl1 => kk H locs ls1 hR hdm hS hl1)
theorem j_astoreQ {X : jx_X} {cc : ByteArray} {own : String} {k n pc : Nat} {lv : List (Nat × Value)} {st : List Value} {h : jx_H} {N : Nat} (C : jx_ok X cc own) (hL : jx_nl X N) {i : Nat} {r : Option Nat} {lv1 : List (Nat × Value)} (d : decode cc pc = .ok (.astore i, 2)) (hn : i < N) (hs : (i, va_rf r) :: lv.filter (fun q => !(q.1 == i) && !(q.1 + 1 == i && q.2.category == 2)) = lv1) (kk : jx_J X k n (pc + 2) lv1 st h) : jx_J X k n pc lv (va_rf r :: st) h := by
  obtain ⟨p, l, e, R, s, m, args, below, meth, c, D, h0, nL, Q⟩ := X
  obtain ⟨hx, hb, hml, hown, hlk, hsz, hF, hfl⟩ := C
  obtain rfl : nL = N := hL
  intro H locs ls hR hdm hS hl
  cases r with
  | none => exact lv_astoreN hx hb d hl hn hs (fun ls1 hl1 => kk H locs ls1 hR hdm hS hl1)
  | some a => exact lv_astore hx hb d hl hn hs (fun ls1 hl1 => kk H locs ls1 hR hdm hS hl1)
theorem j_astore_nQ {X : jx_X} {cc : ByteArray} {own : String} {k n pc : Nat} {lv : List (Nat × Value)} {st : List Value} {h : jx_H} {N : Nat} (C : jx_ok X cc own) (hL : jx_nl X N) {q : Fin 4} {i : Nat} {r : Option Nat} {lv1 : List (Nat × Value)} (d : decode cc pc = .ok (.astore_n q, 1)) (hi : (q : Nat) = i) (hn : i < N) (hs : (i, va_rf r) :: lv.filter (fun q => !(q.1 == i) && !(q.1 + 1 == i && q.2.category == 2)) = lv1) (kk : jx_J X k n (pc + 1) lv1 st h) : jx_J X k n pc lv (va_rf r :: st) h := by
  obtain ⟨p, l, e, R, s, m, args, below, meth, c, D, h0, nL, Q⟩ := X
  obtain ⟨hx, hb, hml, hown, hlk, hsz, hF, hfl⟩ := C
  obtain rfl : nL = N := hL
  intro H locs ls hR hdm hS hl
  cases r with
  | none => exact lv_astore_nN hx hb d hi hl hn hs (fun ls1 hl1 => kk H locs ls1 hR hdm hS hl1)
  | some a => exact lv_astore_n hx hb d hi hl hn hs (fun ls1 hl1 => kk H locs ls1 hR hdm hS hl1)
theorem jx_idx {lv : List (Nat × Value)} {i : Nat} {v : Value} (h : lv.lookup i = some v) : ∃ k : Nat, lv[k]? = some (i, v) := List.getElem?_of_mem (jx_lk h)
theorem j_iinc {X : jx_X} {cc : ByteArray} {own : String} {k n pc : Nat} {lv : List (Nat × Value)} {st : List Value} {h : jx_H} {N : Nat} (C : jx_ok X cc own) (hL : jx_nl X N) {i : Nat} {z : Int} {x v : Int32} {lv1 : List (Nat × Value)} (d : decode cc pc = .ok (.iinc i z, 3)) (hv : lv.lookup i = some (.int x)) (he : x + Int32.ofInt z = v) (hn : i < N) (hs : (i, Value.int v) :: lv.filter (fun q => !(q.1 == i) && !(q.1 + 1 == i && q.2.category == 2)) = lv1) (kk : jx_J X k n (pc + 3) lv1 st h) : jx_J X k n pc lv st h := by
  obtain ⟨p, l, e, R, s, m, args, below, meth, c, D, h0, nL, Q⟩ := X
  obtain ⟨hx, hb, hml, hown, hlk, hsz, hF, hfl⟩ := C
  obtain rfl : nL = N := hL
  intro H locs ls hR hdm hS hl
  obtain ⟨j, hj⟩ := jx_idx hv
  exact lv_iinc hx hb d hl (k := j) hj he hn hs (fun ls1 hl1 => kk H locs ls1 hR hdm hS hl1)
theorem j_goto {X : jx_X} {cc : ByteArray} {own : String} {k n pc : Nat} {lv : List (Nat × Value)} {st : List Value} {h : jx_H} (C : jx_ok X cc own) {off : Int} {tgt : Nat} (d : decode cc pc = .ok (.goto off, 3)) (ht : (pc : Int) + off = (tgt : Int)) (kk : jx_J X k n tgt lv st h) : jx_J X k n pc lv st h := by
  obtain ⟨p, l, e, R, s, m, args, below, meth, c, D, h0, nL, Q⟩ := X
  obtain ⟨hx, hb, hml, hown, hlk, hsz, hF, hfl⟩ := C
  intro H locs ls hR hdm hS hl
  exact lv_goto hx hb d ht (kk H locs ls hR hdm hS hl)
theorem j_if_eq {X : jx_X} {cc : ByteArray} {own : String} {k n pc : Nat} {lv : List (Nat × Value)} {st : List Value} {h : jx_H} (C : jx_ok X cc own) {x : Int32} {off : Int} {tgt : Nat} (d : decode cc pc = .ok (.ifCond .eq off, 3)) (ht : (pc : Int) + off = (tgt : Int)) (kt : x = 0 → jx_J X k n tgt lv st h) (kf : ¬ x = 0 → jx_J X k n (pc + 3) lv st h) : jx_J X k n pc lv (.int x :: st) h := by
  obtain ⟨p, l, e, R, s, m, args, below, meth, c, D, h0, nL, Q⟩ := X
  obtain ⟨hx, hb, hml, hown, hlk, hsz, hF, hfl⟩ := C
  intro H locs ls hR hdm hS hl
  exact lv_if_eq hx hb d ht (fun q => kt q H locs ls hR hdm hS hl) (fun q => kf q H locs ls hR hdm hS hl)
theorem j_if_ne {X : jx_X} {cc : ByteArray} {own : String} {k n pc : Nat} {lv : List (Nat × Value)} {st : List Value} {h : jx_H} (C : jx_ok X cc own) {x : Int32} {off : Int} {tgt : Nat} (d : decode cc pc = .ok (.ifCond .ne off, 3)) (ht : (pc : Int) + off = (tgt : Int)) (kt : ¬ x = 0 → jx_J X k n tgt lv st h) (kf : x = 0 → jx_J X k n (pc + 3) lv st h) : jx_J X k n pc lv (.int x :: st) h := by
  obtain ⟨p, l, e, R, s, m, args, below, meth, c, D, h0, nL, Q⟩ := X
  obtain ⟨hx, hb, hml, hown, hlk, hsz, hF, hfl⟩ := C
  intro H locs ls hR hdm hS hl
  exact lv_if_ne hx hb d ht (fun q => kt q H locs ls hR hdm hS hl) (fun q => kf q H locs ls hR hdm hS hl)
theorem j_if_lt {X : jx_X} {cc : ByteArray} {own : String} {k n pc : Nat} {lv : List (Nat × Value)} {st : List Value} {h : jx_H} (C : jx_ok X cc own) {x : Int32} {off : Int} {tgt : Nat} (d : decode cc pc = .ok (.ifCond .lt off, 3)) (ht : (pc : Int) + off = (tgt : Int)) (kt : x < 0 → jx_J X k n tgt lv st h) (kf : ¬ x < 0 → jx_J X k n (pc + 3) lv st h) : jx_J X k n pc lv (.int x :: st) h := by
  obtain ⟨p, l, e, R, s, m, args, below, meth, c, D, h0, nL, Q⟩ := X
  obtain ⟨hx, hb, hml, hown, hlk, hsz, hF, hfl⟩ := C
  intro H locs ls hR hdm hS hl
  exact lv_if_lt hx hb d ht (fun q => kt q H locs ls hR hdm hS hl) (fun q => kf q H locs ls hR hdm hS hl)
theorem j_if_ge {X : jx_X} {cc : ByteArray} {own : String} {k n pc : Nat} {lv : List (Nat × Value)} {st : List Value} {h : jx_H} (C : jx_ok X cc own) {x : Int32} {off : Int} {tgt : Nat} (d : decode cc pc = .ok (.ifCond .ge off, 3)) (ht : (pc : Int) + off = (tgt : Int)) (kt : 0 ≤ x → jx_J X k n tgt lv st h) (kf : ¬ 0 ≤ x → jx_J X k n (pc + 3) lv st h) : jx_J X k n pc lv (.int x :: st) h := by
  obtain ⟨p, l, e, R, s, m, args, below, meth, c, D, h0, nL, Q⟩ := X
  obtain ⟨hx, hb, hml, hown, hlk, hsz, hF, hfl⟩ := C
  intro H locs ls hR hdm hS hl
  exact lv_if_ge hx hb d ht (fun q => kt q H locs ls hR hdm hS hl) (fun q => kf q H locs ls hR hdm hS hl)
theorem j_if_gt {X : jx_X} {cc : ByteArray} {own : String} {k n pc : Nat} {lv : List (Nat × Value)} {st : List Value} {h : jx_H} (C : jx_ok X cc own) {x : Int32} {off : Int} {tgt : Nat} (d : decode cc pc = .ok (.ifCond .gt off, 3)) (ht : (pc : Int) + off = (tgt : Int)) (kt : 0 < x → jx_J X k n tgt lv st h) (kf : ¬ 0 < x → jx_J X k n (pc + 3) lv st h) : jx_J X k n pc lv (.int x :: st) h := by
  obtain ⟨p, l, e, R, s, m, args, below, meth, c, D, h0, nL, Q⟩ := X
  obtain ⟨hx, hb, hml, hown, hlk, hsz, hF, hfl⟩ := C
  intro H locs ls hR hdm hS hl
  exact lv_if_gt hx hb d ht (fun q => kt q H locs ls hR hdm hS hl) (fun q => kf q H locs ls hR hdm hS hl)
theorem j_if_le {X : jx_X} {cc : ByteArray} {own : String} {k n pc : Nat} {lv : List (Nat × Value)} {st : List Value} {h : jx_H} (C : jx_ok X cc own) {x : Int32} {off : Int} {tgt : Nat} (d : decode cc pc = .ok (.ifCond .le off, 3)) (ht : (pc : Int) + off = (tgt : Int)) (kt : x ≤ 0 → jx_J X k n tgt lv st h) (kf : ¬ x ≤ 0 → jx_J X k n (pc + 3) lv st h) : jx_J X k n pc lv (.int x :: st) h := by
  obtain ⟨p, l, e, R, s, m, args, below, meth, c, D, h0, nL, Q⟩ := X
  obtain ⟨hx, hb, hml, hown, hlk, hsz, hF, hfl⟩ := C
  intro H locs ls hR hdm hS hl
  exact lv_if_le hx hb d ht (fun q => kt q H locs ls hR hdm hS hl) (fun q => kf q H locs ls hR hdm hS hl)
theorem j_icmp_eq {X : jx_X} {cc : ByteArray} {own : String} {k n pc : Nat} {lv : List (Nat × Value)} {st : List Value} {h : jx_H} (C : jx_ok X cc own) {x y : Int32} {off : Int} {tgt : Nat} (d : decode cc pc = .ok (.if_icmp .eq off, 3)) (ht : (pc : Int) + off = (tgt : Int)) (kt : x = y → jx_J X k n tgt lv st h) (kf : ¬ x = y → jx_J X k n (pc + 3) lv st h) : jx_J X k n pc lv (.int y :: .int x :: st) h := by
  obtain ⟨p, l, e, R, s, m, args, below, meth, c, D, h0, nL, Q⟩ := X
  obtain ⟨hx, hb, hml, hown, hlk, hsz, hF, hfl⟩ := C
  intro H locs ls hR hdm hS hl
  exact lv_icmp_eq hx hb d ht (fun q => kt q H locs ls hR hdm hS hl) (fun q => kf q H locs ls hR hdm hS hl)
theorem j_icmp_ne {X : jx_X} {cc : ByteArray} {own : String} {k n pc : Nat} {lv : List (Nat × Value)} {st : List Value} {h : jx_H} (C : jx_ok X cc own) {x y : Int32} {off : Int} {tgt : Nat} (d : decode cc pc = .ok (.if_icmp .ne off, 3)) (ht : (pc : Int) + off = (tgt : Int)) (kt : ¬ x = y → jx_J X k n tgt lv st h) (kf : x = y → jx_J X k n (pc + 3) lv st h) : jx_J X k n pc lv (.int y :: .int x :: st) h := by
  obtain ⟨p, l, e, R, s, m, args, below, meth, c, D, h0, nL, Q⟩ := X
  obtain ⟨hx, hb, hml, hown, hlk, hsz, hF, hfl⟩ := C
  intro H locs ls hR hdm hS hl
  exact lv_icmp_ne hx hb d ht (fun q => kt q H locs ls hR hdm hS hl) (fun q => kf q H locs ls hR hdm hS hl)
theorem j_icmp_lt {X : jx_X} {cc : ByteArray} {own : String} {k n pc : Nat} {lv : List (Nat × Value)} {st : List Value} {h : jx_H} (C : jx_ok X cc own) {x y : Int32} {off : Int} {tgt : Nat} (d : decode cc pc = .ok (.if_icmp .lt off, 3)) (ht : (pc : Int) + off = (tgt : Int)) (kt : x < y → jx_J X k n tgt lv st h) (kf : ¬ x < y → jx_J X k n (pc + 3) lv st h) : jx_J X k n pc lv (.int y :: .int x :: st) h := by
  obtain ⟨p, l, e, R, s, m, args, below, meth, c, D, h0, nL, Q⟩ := X
  obtain ⟨hx, hb, hml, hown, hlk, hsz, hF, hfl⟩ := C
  intro H locs ls hR hdm hS hl
  exact lv_icmp_lt hx hb d ht (fun q => kt q H locs ls hR hdm hS hl) (fun q => kf q H locs ls hR hdm hS hl)
theorem j_icmp_ge {X : jx_X} {cc : ByteArray} {own : String} {k n pc : Nat} {lv : List (Nat × Value)} {st : List Value} {h : jx_H} (C : jx_ok X cc own) {x y : Int32} {off : Int} {tgt : Nat} (d : decode cc pc = .ok (.if_icmp .ge off, 3)) (ht : (pc : Int) + off = (tgt : Int)) (kt : y ≤ x → jx_J X k n tgt lv st h) (kf : ¬ y ≤ x → jx_J X k n (pc + 3) lv st h) : jx_J X k n pc lv (.int y :: .int x :: st) h := by
  obtain ⟨p, l, e, R, s, m, args, below, meth, c, D, h0, nL, Q⟩ := X
  obtain ⟨hx, hb, hml, hown, hlk, hsz, hF, hfl⟩ := C
  intro H locs ls hR hdm hS hl
  exact lv_icmp_ge hx hb d ht (fun q => kt q H locs ls hR hdm hS hl) (fun q => kf q H locs ls hR hdm hS hl)
theorem j_icmp_gt {X : jx_X} {cc : ByteArray} {own : String} {k n pc : Nat} {lv : List (Nat × Value)} {st : List Value} {h : jx_H} (C : jx_ok X cc own) {x y : Int32} {off : Int} {tgt : Nat} (d : decode cc pc = .ok (.if_icmp .gt off, 3)) (ht : (pc : Int) + off = (tgt : Int)) (kt : y < x → jx_J X k n tgt lv st h) (kf : ¬ y < x → jx_J X k n (pc + 3) lv st h) : jx_J X k n pc lv (.int y :: .int x :: st) h := by
  obtain ⟨p, l, e, R, s, m, args, below, meth, c, D, h0, nL, Q⟩ := X
  obtain ⟨hx, hb, hml, hown, hlk, hsz, hF, hfl⟩ := C
  intro H locs ls hR hdm hS hl
  exact lv_icmp_gt hx hb d ht (fun q => kt q H locs ls hR hdm hS hl) (fun q => kf q H locs ls hR hdm hS hl)
theorem j_icmp_le {X : jx_X} {cc : ByteArray} {own : String} {k n pc : Nat} {lv : List (Nat × Value)} {st : List Value} {h : jx_H} (C : jx_ok X cc own) {x y : Int32} {off : Int} {tgt : Nat} (d : decode cc pc = .ok (.if_icmp .le off, 3)) (ht : (pc : Int) + off = (tgt : Int)) (kt : x ≤ y → jx_J X k n tgt lv st h) (kf : ¬ x ≤ y → jx_J X k n (pc + 3) lv st h) : jx_J X k n pc lv (.int y :: .int x :: st) h := by
  obtain ⟨p, l, e, R, s, m, args, below, meth, c, D, h0, nL, Q⟩ := X
  obtain ⟨hx, hb, hml, hown, hlk, hsz, hF, hfl⟩ := C
  intro H locs ls hR hdm hS hl
  exact lv_icmp_le hx hb d ht (fun q => kt q H locs ls hR hdm hS hl) (fun q => kf q H locs ls hR hdm hS hl)
theorem j_ifnull {X : jx_X} {cc : ByteArray} {own : String} {k n pc : Nat} {lv : List (Nat × Value)} {st : List Value} {h : jx_H} (C : jx_ok X cc own) {r : Option Nat} {off : Int} {tgt : Nat} (d : decode cc pc = .ok (.ifnull off, 3)) (ht : (pc : Int) + off = (tgt : Int)) (kt : r = none → jx_J X k n tgt lv st h) (kf : ∀ a : Nat, r = some a → jx_J X k n (pc + 3) lv st h) : jx_J X k n pc lv (va_rf r :: st) h := by
  obtain ⟨p, l, e, R, s, m, args, below, meth, c, D, h0, nL, Q⟩ := X
  obtain ⟨hx, hb, hml, hown, hlk, hsz, hF, hfl⟩ := C
  intro H locs ls hR hdm hS hl
  cases r with
  | none => exact lv_ifnullN hx hb d ht (kt rfl H locs ls hR hdm hS hl)
  | some a => exact lv_ifnull hx hb d (kf a rfl H locs ls hR hdm hS hl)
theorem j_ifnonnull {X : jx_X} {cc : ByteArray} {own : String} {k n pc : Nat} {lv : List (Nat × Value)} {st : List Value} {h : jx_H} (C : jx_ok X cc own) {r : Option Nat} {off : Int} {tgt : Nat} (d : decode cc pc = .ok (.ifnonnull off, 3)) (ht : (pc : Int) + off = (tgt : Int)) (kt : ∀ a : Nat, r = some a → jx_J X k n tgt lv st h) (kf : r = none → jx_J X k n (pc + 3) lv st h) : jx_J X k n pc lv (va_rf r :: st) h := by
  obtain ⟨p, l, e, R, s, m, args, below, meth, c, D, h0, nL, Q⟩ := X
  obtain ⟨hx, hb, hml, hown, hlk, hsz, hF, hfl⟩ := C
  intro H locs ls hR hdm hS hl
  cases r with
  | none => exact lv_ifnonnullN hx hb d (kf rfl H locs ls hR hdm hS hl)
  | some a => exact lv_ifnonnull hx hb d ht (kt a rfl H locs ls hR hdm hS hl)
theorem j_tswIn {X : jx_X} {cc : ByteArray} {own : String} {k n pc : Nat} {lv : List (Nat × Value)} {st : List Value} {h : jx_H} (C : jx_ok X cc own) {dflt lo hi : Int} {offs : Array Int} {len : Nat} {x : Int32} {off : Int} {tgt : Nat} (d : decode cc pc = .ok (.tableswitch dflt lo hi offs, len)) (h1 : ¬ x.toInt < lo) (h2 : ¬ hi < x.toInt) (ho : offs[(x.toInt - lo).toNat]? = some off) (ht : (pc : Int) + off = (tgt : Int)) (kk : jx_J X k n tgt lv st h) : jx_J X k n pc lv (.int x :: st) h := by
  obtain ⟨p, l, e, R, s, m, args, below, meth, c, D, h0, nL, Q⟩ := X
  obtain ⟨hx, hb, hml, hown, hlk, hsz, hF, hfl⟩ := C
  intro H locs ls hR hdm hS hl
  exact lv_tableIn hx hb d h1 h2 ho ht (kk H locs ls hR hdm hS hl)
theorem j_tswOut {X : jx_X} {cc : ByteArray} {own : String} {k n pc : Nat} {lv : List (Nat × Value)} {st : List Value} {h : jx_H} (C : jx_ok X cc own) {dflt lo hi : Int} {offs : Array Int} {len : Nat} {x : Int32} {tgt : Nat} (d : decode cc pc = .ok (.tableswitch dflt lo hi offs, len)) (h1 : x.toInt < lo ∨ hi < x.toInt) (ht : (pc : Int) + dflt = (tgt : Int)) (kk : jx_J X k n tgt lv st h) : jx_J X k n pc lv (.int x :: st) h := by
  obtain ⟨p, l, e, R, s, m, args, below, meth, c, D, h0, nL, Q⟩ := X
  obtain ⟨hx, hb, hml, hown, hlk, hsz, hF, hfl⟩ := C
  intro H locs ls hR hdm hS hl
  exact lv_tableOut hx hb d h1 ht (kk H locs ls hR hdm hS hl)
theorem j_ldc {X : jx_X} {cc : ByteArray} {own : String} {k n pc : Nat} {lv : List (Nat × Value)} {st : List Value} {h : jx_H} (C : jx_ok X cc own) {index : Nat} {v : Int32} (w : jx_mem (Cond.constant own index v)) (d : decode cc pc = .ok (.ldc index, 2)) (kk : jx_J X k n (pc + 2) lv (.int v :: st) h) : jx_J X k n pc lv st h := by
  obtain ⟨p, l, e, R, s, m, args, below, meth, c, D, h0, nL, Q⟩ := X
  obtain ⟨hx, hb, hml, hown, hlk, hsz, hF, hfl⟩ := C
  intro H locs ls hR hdm hS hl
  exact lv_ldc hx hb hown (jx_use w.2 (hF.1 _ w.1 w.2)) d (kk H locs ls hR hdm hS hl)
theorem j_ldc2d {X : jx_X} {cc : ByteArray} {own : String} {k n pc : Nat} {lv : List (Nat × Value)} {st : List Value} {h : jx_H} (C : jx_ok X cc own) {index : Nat} {v : UInt64} (w : jx_mem (Cond.constantDouble own index v)) (d : decode cc pc = .ok (.ldc2_w index, 3)) (kk : jx_J X k n (pc + 3) lv (.double v :: st) h) : jx_J X k n pc lv st h := by
  obtain ⟨p, l, e, R, s, m, args, below, meth, c, D, h0, nL, Q⟩ := X
  obtain ⟨hx, hb, hml, hown, hlk, hsz, hF, hfl⟩ := C
  intro H locs ls hR hdm hS hl
  exact lv_ldc2d hx hb hown (jx_use w.2 (hF.1 _ w.1 w.2)) d (kk H locs ls hR hdm hS hl)
theorem j_tsw {X : jx_X} {cc : ByteArray} {own : String} {k n pc : Nat} {lv : List (Nat × Value)} {st : List Value} {h : jx_H} (C : jx_ok X cc own) {dflt lo hi : Int} {offs : Array Int} {len : Nat} {x : Int32} (v : Int32) {off : Int} {tgt : Nat} (d : decode cc pc = .ok (.tableswitch dflt lo hi offs, len)) (hv : x = v) (h1 : ¬ v.toInt < lo) (h2 : ¬ hi < v.toInt) (ho : offs[(v.toInt - lo).toNat]? = some off) (ht : (pc : Int) + off = (tgt : Int)) (kk : jx_J X k n tgt lv st h) : jx_J X k n pc lv (.int x :: st) h := by
  subst hv
  exact j_tswIn C d h1 h2 ho ht kk
theorem jx_sw {x v : Int32} {j : Int} (hv : v.toInt = j) (h : ¬ x = v) : ¬ x.toInt = j := fun q => h (Int32.toInt_inj.mp (by rw [hv]; exact q))
