section RWA
variable {X : r_X} {w : r_V} {B nL cells slots : Nat} {Q : State → Prop} {cc : ByteArray} {own : String} {pc : Nat} {lv : List (Nat × Value)} {rest : List Value} {σ : r_S}
theorem r_iconst (C : r_C X w B nL cc own) {n : Int} {v : Int32} (hdg : decode cc pc = .ok (.iconst n, 1)) (hv : Int32.ofInt n = v) (k : r_W X w B nL cells slots Q (pc + 1) lv (.int v :: rest) σ) : r_W X w B nL cells slots Q pc lv (rest) σ := by
  obtain ⟨p, l, e, R, s, m, args, below, meth, c⟩ := X
  exact fun H locs la g1 g2 g3 => lv_iconst C.1.1 C.1.2.1 hdg hv (k H locs la g1 g2 g3)
theorem r_bipush (C : r_C X w B nL cc own) {n : Int} {v : Int32} (hdg : decode cc pc = .ok (.bipush n, 2)) (hv : (Int8.ofInt n).toInt32 = v) (k : r_W X w B nL cells slots Q (pc + 2) lv (.int v :: rest) σ) : r_W X w B nL cells slots Q pc lv (rest) σ := by
  obtain ⟨p, l, e, R, s, m, args, below, meth, c⟩ := X
  exact fun H locs la g1 g2 g3 => lv_bipush C.1.1 C.1.2.1 hdg hv (k H locs la g1 g2 g3)
theorem r_sipush (C : r_C X w B nL cc own) {n : Int} {v : Int32} (hdg : decode cc pc = .ok (.sipush n, 3)) (hv : (Int16.ofInt n).toInt32 = v) (k : r_W X w B nL cells slots Q (pc + 3) lv (.int v :: rest) σ) : r_W X w B nL cells slots Q pc lv (rest) σ := by
  obtain ⟨p, l, e, R, s, m, args, below, meth, c⟩ := X
  exact fun H locs la g1 g2 g3 => lv_sipush C.1.1 C.1.2.1 hdg hv (k H locs la g1 g2 g3)
theorem r_lconst (C : r_C X w B nL cc own) {n : Fin 2} {v : Int64} (hdg : decode cc pc = .ok (.lconst n, 1)) (hv : Int64.ofNat (n : Nat) = v) (k : r_W X w B nL cells slots Q (pc + 1) lv (.long v :: rest) σ) : r_W X w B nL cells slots Q pc lv (rest) σ := by
  obtain ⟨p, l, e, R, s, m, args, below, meth, c⟩ := X
  exact fun H locs la g1 g2 g3 => lv_lconst C.1.1 C.1.2.1 hdg hv (k H locs la g1 g2 g3)
theorem r_iload_n (C : r_C X w B nL cc own) {k0 : Fin 4} {i : Nat} {x : Int32} (hdg : decode cc pc = .ok (.iload_n k0, 1)) (hi : (k0 : Nat) = i) {j : Nat} (hl : lv[j]? = some (i, .int x)) (k : r_W X w B nL cells slots Q (pc + 1) lv (.int x :: rest) σ) : r_W X w B nL cells slots Q pc lv (rest) σ := by
  obtain ⟨p, l, e, R, s, m, args, below, meth, c⟩ := X
  exact fun H locs la g1 g2 g3 => lv_iload_n C.1.1 C.1.2.1 hdg hi (lv_at g3 j hl) (k H locs la g1 g2 g3)
theorem r_iload (C : r_C X w B nL cc own) {i : Nat} {x : Int32} (hdg : decode cc pc = .ok (.iload i, 2)) {j : Nat} (hl : lv[j]? = some (i, .int x)) (k : r_W X w B nL cells slots Q (pc + 2) lv (.int x :: rest) σ) : r_W X w B nL cells slots Q pc lv (rest) σ := by
  obtain ⟨p, l, e, R, s, m, args, below, meth, c⟩ := X
  exact fun H locs la g1 g2 g3 => lv_iload C.1.1 C.1.2.1 hdg (lv_at g3 j hl) (k H locs la g1 g2 g3)
theorem r_lload_n (C : r_C X w B nL cc own) {k0 : Fin 4} {i : Nat} {x : Int64} (hdg : decode cc pc = .ok (.lload_n k0, 1)) (hi : (k0 : Nat) = i) {j : Nat} (hl : lv[j]? = some (i, .long x)) (k : r_W X w B nL cells slots Q (pc + 1) lv (.long x :: rest) σ) : r_W X w B nL cells slots Q pc lv (rest) σ := by
  obtain ⟨p, l, e, R, s, m, args, below, meth, c⟩ := X
  exact fun H locs la g1 g2 g3 => lv_lload_n C.1.1 C.1.2.1 hdg hi (lv_at g3 j hl) (k H locs la g1 g2 g3)
theorem r_lload (C : r_C X w B nL cc own) {i : Nat} {x : Int64} (hdg : decode cc pc = .ok (.lload i, 2)) {j : Nat} (hl : lv[j]? = some (i, .long x)) (k : r_W X w B nL cells slots Q (pc + 2) lv (.long x :: rest) σ) : r_W X w B nL cells slots Q pc lv (rest) σ := by
  obtain ⟨p, l, e, R, s, m, args, below, meth, c⟩ := X
  exact fun H locs la g1 g2 g3 => lv_lload C.1.1 C.1.2.1 hdg (lv_at g3 j hl) (k H locs la g1 g2 g3)
theorem r_aload_n (C : r_C X w B nL cc own) {k0 : Fin 4} {i : Nat} {x : Nat} (hdg : decode cc pc = .ok (.aload_n k0, 1)) (hi : (k0 : Nat) = i) {j : Nat} (hl : lv[j]? = some (i, .ref x)) (k : r_W X w B nL cells slots Q (pc + 1) lv (.ref x :: rest) σ) : r_W X w B nL cells slots Q pc lv (rest) σ := by
  obtain ⟨p, l, e, R, s, m, args, below, meth, c⟩ := X
  exact fun H locs la g1 g2 g3 => lv_aload_n C.1.1 C.1.2.1 hdg hi (lv_at g3 j hl) (k H locs la g1 g2 g3)
theorem r_aload (C : r_C X w B nL cc own) {i : Nat} {x : Nat} (hdg : decode cc pc = .ok (.aload i, 2)) {j : Nat} (hl : lv[j]? = some (i, .ref x)) (k : r_W X w B nL cells slots Q (pc + 2) lv (.ref x :: rest) σ) : r_W X w B nL cells slots Q pc lv (rest) σ := by
  obtain ⟨p, l, e, R, s, m, args, below, meth, c⟩ := X
  exact fun H locs la g1 g2 g3 => lv_aload C.1.1 C.1.2.1 hdg (lv_at g3 j hl) (k H locs la g1 g2 g3)
theorem r_iadd (C : r_C X w B nL cc own) {x y : Int32} (hdg : decode cc pc = .ok (.iadd, 1)) (k : r_W X w B nL cells slots Q (pc + 1) lv (.int (x + y) :: rest) σ) : r_W X w B nL cells slots Q pc lv (.int y :: .int x :: rest) σ := by
  obtain ⟨p, l, e, R, s, m, args, below, meth, c⟩ := X
  exact fun H locs la g1 g2 g3 => lv_iadd C.1.1 C.1.2.1 hdg (k H locs la g1 g2 g3)
theorem r_isub (C : r_C X w B nL cc own) {x y : Int32} (hdg : decode cc pc = .ok (.isub, 1)) (k : r_W X w B nL cells slots Q (pc + 1) lv (.int (x - y) :: rest) σ) : r_W X w B nL cells slots Q pc lv (.int y :: .int x :: rest) σ := by
  obtain ⟨p, l, e, R, s, m, args, below, meth, c⟩ := X
  exact fun H locs la g1 g2 g3 => lv_isub C.1.1 C.1.2.1 hdg (k H locs la g1 g2 g3)
theorem r_imul (C : r_C X w B nL cc own) {x y : Int32} (hdg : decode cc pc = .ok (.imul, 1)) (k : r_W X w B nL cells slots Q (pc + 1) lv (.int (x * y) :: rest) σ) : r_W X w B nL cells slots Q pc lv (.int y :: .int x :: rest) σ := by
  obtain ⟨p, l, e, R, s, m, args, below, meth, c⟩ := X
  exact fun H locs la g1 g2 g3 => lv_imul C.1.1 C.1.2.1 hdg (k H locs la g1 g2 g3)
theorem r_iand (C : r_C X w B nL cc own) {x y : Int32} (hdg : decode cc pc = .ok (.iand, 1)) (k : r_W X w B nL cells slots Q (pc + 1) lv (.int (x &&& y) :: rest) σ) : r_W X w B nL cells slots Q pc lv (.int y :: .int x :: rest) σ := by
  obtain ⟨p, l, e, R, s, m, args, below, meth, c⟩ := X
  exact fun H locs la g1 g2 g3 => lv_iand C.1.1 C.1.2.1 hdg (k H locs la g1 g2 g3)
theorem r_ior (C : r_C X w B nL cc own) {x y : Int32} (hdg : decode cc pc = .ok (.ior, 1)) (k : r_W X w B nL cells slots Q (pc + 1) lv (.int (x ||| y) :: rest) σ) : r_W X w B nL cells slots Q pc lv (.int y :: .int x :: rest) σ := by
  obtain ⟨p, l, e, R, s, m, args, below, meth, c⟩ := X
  exact fun H locs la g1 g2 g3 => lv_ior C.1.1 C.1.2.1 hdg (k H locs la g1 g2 g3)
theorem r_ixor (C : r_C X w B nL cc own) {x y : Int32} (hdg : decode cc pc = .ok (.ixor, 1)) (k : r_W X w B nL cells slots Q (pc + 1) lv (.int (x ^^^ y) :: rest) σ) : r_W X w B nL cells slots Q pc lv (.int y :: .int x :: rest) σ := by
  obtain ⟨p, l, e, R, s, m, args, below, meth, c⟩ := X
  exact fun H locs la g1 g2 g3 => lv_ixor C.1.1 C.1.2.1 hdg (k H locs la g1 g2 g3)
theorem r_idiv (C : r_C X w B nL cc own) {x y : Int32} (hdg : decode cc pc = .ok (.idiv, 1)) (hne : ¬ y = 0) (k : r_W X w B nL cells slots Q (pc + 1) lv (.int (x / y) :: rest) σ) : r_W X w B nL cells slots Q pc lv (.int y :: .int x :: rest) σ := by
  obtain ⟨p, l, e, R, s, m, args, below, meth, c⟩ := X
  exact fun H locs la g1 g2 g3 => lv_idiv C.1.1 C.1.2.1 hdg hne (k H locs la g1 g2 g3)
theorem r_irem (C : r_C X w B nL cc own) {x y : Int32} (hdg : decode cc pc = .ok (.irem, 1)) (hne : ¬ y = 0) (k : r_W X w B nL cells slots Q (pc + 1) lv (.int (x - x / y * y) :: rest) σ) : r_W X w B nL cells slots Q pc lv (.int y :: .int x :: rest) σ := by
  obtain ⟨p, l, e, R, s, m, args, below, meth, c⟩ := X
  exact fun H locs la g1 g2 g3 => lv_irem C.1.1 C.1.2.1 hdg hne (k H locs la g1 g2 g3)
theorem r_ineg (C : r_C X w B nL cc own) {x : Int32} (hdg : decode cc pc = .ok (.ineg, 1)) (k : r_W X w B nL cells slots Q (pc + 1) lv (.int (-x) :: rest) σ) : r_W X w B nL cells slots Q pc lv (.int x :: rest) σ := by
  obtain ⟨p, l, e, R, s, m, args, below, meth, c⟩ := X
  exact fun H locs la g1 g2 g3 => lv_ineg C.1.1 C.1.2.1 hdg (k H locs la g1 g2 g3)
theorem r_ladd (C : r_C X w B nL cc own) {x y : Int64} (hdg : decode cc pc = .ok (.ladd, 1)) (k : r_W X w B nL cells slots Q (pc + 1) lv (.long (x + y) :: rest) σ) : r_W X w B nL cells slots Q pc lv (.long y :: .long x :: rest) σ := by
  obtain ⟨p, l, e, R, s, m, args, below, meth, c⟩ := X
  exact fun H locs la g1 g2 g3 => lv_ladd C.1.1 C.1.2.1 hdg (k H locs la g1 g2 g3)
theorem r_lsub (C : r_C X w B nL cc own) {x y : Int64} (hdg : decode cc pc = .ok (.lsub, 1)) (k : r_W X w B nL cells slots Q (pc + 1) lv (.long (x - y) :: rest) σ) : r_W X w B nL cells slots Q pc lv (.long y :: .long x :: rest) σ := by
  obtain ⟨p, l, e, R, s, m, args, below, meth, c⟩ := X
  exact fun H locs la g1 g2 g3 => lv_lsub C.1.1 C.1.2.1 hdg (k H locs la g1 g2 g3)
theorem r_lmul (C : r_C X w B nL cc own) {x y : Int64} (hdg : decode cc pc = .ok (.lmul, 1)) (k : r_W X w B nL cells slots Q (pc + 1) lv (.long (x * y) :: rest) σ) : r_W X w B nL cells slots Q pc lv (.long y :: .long x :: rest) σ := by
  obtain ⟨p, l, e, R, s, m, args, below, meth, c⟩ := X
  exact fun H locs la g1 g2 g3 => lv_lmul C.1.1 C.1.2.1 hdg (k H locs la g1 g2 g3)
theorem r_land (C : r_C X w B nL cc own) {x y : Int64} (hdg : decode cc pc = .ok (.land, 1)) (k : r_W X w B nL cells slots Q (pc + 1) lv (.long (x &&& y) :: rest) σ) : r_W X w B nL cells slots Q pc lv (.long y :: .long x :: rest) σ := by
  obtain ⟨p, l, e, R, s, m, args, below, meth, c⟩ := X
  exact fun H locs la g1 g2 g3 => lv_land C.1.1 C.1.2.1 hdg (k H locs la g1 g2 g3)
theorem r_lor (C : r_C X w B nL cc own) {x y : Int64} (hdg : decode cc pc = .ok (.lor, 1)) (k : r_W X w B nL cells slots Q (pc + 1) lv (.long (x ||| y) :: rest) σ) : r_W X w B nL cells slots Q pc lv (.long y :: .long x :: rest) σ := by
  obtain ⟨p, l, e, R, s, m, args, below, meth, c⟩ := X
  exact fun H locs la g1 g2 g3 => lv_lor C.1.1 C.1.2.1 hdg (k H locs la g1 g2 g3)
theorem r_lxor (C : r_C X w B nL cc own) {x y : Int64} (hdg : decode cc pc = .ok (.lxor, 1)) (k : r_W X w B nL cells slots Q (pc + 1) lv (.long (x ^^^ y) :: rest) σ) : r_W X w B nL cells slots Q pc lv (.long y :: .long x :: rest) σ := by
  obtain ⟨p, l, e, R, s, m, args, below, meth, c⟩ := X
  exact fun H locs la g1 g2 g3 => lv_lxor C.1.1 C.1.2.1 hdg (k H locs la g1 g2 g3)
theorem r_ldiv (C : r_C X w B nL cc own) {x y : Int64} (hdg : decode cc pc = .ok (.ldiv, 1)) (hne : ¬ y = 0) (k : r_W X w B nL cells slots Q (pc + 1) lv (.long (x / y) :: rest) σ) : r_W X w B nL cells slots Q pc lv (.long y :: .long x :: rest) σ := by
  obtain ⟨p, l, e, R, s, m, args, below, meth, c⟩ := X
  exact fun H locs la g1 g2 g3 => lv_ldiv C.1.1 C.1.2.1 hdg hne (k H locs la g1 g2 g3)
theorem r_lrem (C : r_C X w B nL cc own) {x y : Int64} (hdg : decode cc pc = .ok (.lrem, 1)) (hne : ¬ y = 0) (k : r_W X w B nL cells slots Q (pc + 1) lv (.long (x - x / y * y) :: rest) σ) : r_W X w B nL cells slots Q pc lv (.long y :: .long x :: rest) σ := by
  obtain ⟨p, l, e, R, s, m, args, below, meth, c⟩ := X
  exact fun H locs la g1 g2 g3 => lv_lrem C.1.1 C.1.2.1 hdg hne (k H locs la g1 g2 g3)
theorem r_lneg (C : r_C X w B nL cc own) {x : Int64} (hdg : decode cc pc = .ok (.lneg, 1)) (k : r_W X w B nL cells slots Q (pc + 1) lv (.long (-x) :: rest) σ) : r_W X w B nL cells slots Q pc lv (.long x :: rest) σ := by
  obtain ⟨p, l, e, R, s, m, args, below, meth, c⟩ := X
  exact fun H locs la g1 g2 g3 => lv_lneg C.1.1 C.1.2.1 hdg (k H locs la g1 g2 g3)
theorem r_ishl (C : r_C X w B nL cc own) {x y : Int32} (hdg : decode cc pc = .ok (.ishl, 1)) (k : r_W X w B nL cells slots Q (pc + 1) lv (.int (x <<< (y &&& 31)) :: rest) σ) : r_W X w B nL cells slots Q pc lv (.int y :: .int x :: rest) σ := by
  obtain ⟨p, l, e, R, s, m, args, below, meth, c⟩ := X
  exact fun H locs la g1 g2 g3 => lv_ishl C.1.1 C.1.2.1 hdg (k H locs la g1 g2 g3)
theorem r_ishr (C : r_C X w B nL cc own) {x y : Int32} (hdg : decode cc pc = .ok (.ishr, 1)) (k : r_W X w B nL cells slots Q (pc + 1) lv (.int (x >>> (y &&& 31)) :: rest) σ) : r_W X w B nL cells slots Q pc lv (.int y :: .int x :: rest) σ := by
  obtain ⟨p, l, e, R, s, m, args, below, meth, c⟩ := X
  exact fun H locs la g1 g2 g3 => lv_ishr C.1.1 C.1.2.1 hdg (k H locs la g1 g2 g3)
theorem r_i2l (C : r_C X w B nL cc own) {x : Int32} {v : Int64} (hdg : decode cc pc = .ok (.i2l, 1)) (hv : x.toInt64 = v) (k : r_W X w B nL cells slots Q (pc + 1) lv (.long v :: rest) σ) : r_W X w B nL cells slots Q pc lv (.int x :: rest) σ := by
  obtain ⟨p, l, e, R, s, m, args, below, meth, c⟩ := X
  exact fun H locs la g1 g2 g3 => lv_i2l C.1.1 C.1.2.1 hdg hv (k H locs la g1 g2 g3)
theorem r_l2i (C : r_C X w B nL cc own) {x : Int64} {v : Int32} (hdg : decode cc pc = .ok (.l2i, 1)) (hv : x.toInt32 = v) (k : r_W X w B nL cells slots Q (pc + 1) lv (.int v :: rest) σ) : r_W X w B nL cells slots Q pc lv (.long x :: rest) σ := by
  obtain ⟨p, l, e, R, s, m, args, below, meth, c⟩ := X
  exact fun H locs la g1 g2 g3 => lv_l2i C.1.1 C.1.2.1 hdg hv (k H locs la g1 g2 g3)
theorem r_i2b (C : r_C X w B nL cc own) {x : Int32} {v : Int32} (hdg : decode cc pc = .ok (.i2b, 1)) (hv : x.toInt8.toInt32 = v) (k : r_W X w B nL cells slots Q (pc + 1) lv (.int v :: rest) σ) : r_W X w B nL cells slots Q pc lv (.int x :: rest) σ := by
  obtain ⟨p, l, e, R, s, m, args, below, meth, c⟩ := X
  exact fun H locs la g1 g2 g3 => lv_i2b C.1.1 C.1.2.1 hdg hv (k H locs la g1 g2 g3)
theorem r_i2s (C : r_C X w B nL cc own) {x : Int32} {v : Int32} (hdg : decode cc pc = .ok (.i2s, 1)) (hv : x.toInt16.toInt32 = v) (k : r_W X w B nL cells slots Q (pc + 1) lv (.int v :: rest) σ) : r_W X w B nL cells slots Q pc lv (.int x :: rest) σ := by
  obtain ⟨p, l, e, R, s, m, args, below, meth, c⟩ := X
  exact fun H locs la g1 g2 g3 => lv_i2s C.1.1 C.1.2.1 hdg hv (k H locs la g1 g2 g3)
theorem r_i2c (C : r_C X w B nL cc own) {x : Int32} {v : Int32} (hdg : decode cc pc = .ok (.i2c, 1)) (hv : (x.toUInt32 % 65536).toInt32 = v) (k : r_W X w B nL cells slots Q (pc + 1) lv (.int v :: rest) σ) : r_W X w B nL cells slots Q pc lv (.int x :: rest) σ := by
  obtain ⟨p, l, e, R, s, m, args, below, meth, c⟩ := X
  exact fun H locs la g1 g2 g3 => lv_i2c C.1.1 C.1.2.1 hdg hv (k H locs la g1 g2 g3)
theorem r_iushr (C : r_C X w B nL cc own) {x y v : Int32} (hdg : decode cc pc = .ok (.iushr, 1)) (hv : (x.toUInt32 >>> (y.toUInt32 &&& Int32.toUInt32 31)).toInt32 = v) (k : r_W X w B nL cells slots Q (pc + 1) lv (.int v :: rest) σ) : r_W X w B nL cells slots Q pc lv (.int y :: .int x :: rest) σ := by
  obtain ⟨p, l, e, R, s, m, args, below, meth, c⟩ := X
  exact fun H locs la g1 g2 g3 => lv_iushr C.1.1 C.1.2.1 hdg hv (k H locs la g1 g2 g3)
theorem r_lushr (C : r_C X w B nL cc own) {x v : Int64} {y : Int32} (hdg : decode cc pc = .ok (.lushr, 1)) (hv : (x.toUInt64 >>> (y.toInt64.toUInt64 &&& Int64.toUInt64 63)).toInt64 = v) (k : r_W X w B nL cells slots Q (pc + 1) lv (.long v :: rest) σ) : r_W X w B nL cells slots Q pc lv (.int y :: .long x :: rest) σ := by
  obtain ⟨p, l, e, R, s, m, args, below, meth, c⟩ := X
  exact fun H locs la g1 g2 g3 => lv_lushr C.1.1 C.1.2.1 hdg hv (k H locs la g1 g2 g3)
theorem r_lshl (C : r_C X w B nL cc own) {x v : Int64} {y : Int32} (hdg : decode cc pc = .ok (.lshl, 1)) (hv : x <<< (y.toInt64 &&& 63) = v) (k : r_W X w B nL cells slots Q (pc + 1) lv (.long v :: rest) σ) : r_W X w B nL cells slots Q pc lv (.int y :: .long x :: rest) σ := by
  obtain ⟨p, l, e, R, s, m, args, below, meth, c⟩ := X
  exact fun H locs la g1 g2 g3 => lv_lshl C.1.1 C.1.2.1 hdg hv (k H locs la g1 g2 g3)
theorem r_lshr (C : r_C X w B nL cc own) {x v : Int64} {y : Int32} (hdg : decode cc pc = .ok (.lshr, 1)) (hv : x >>> (y.toInt64 &&& 63) = v) (k : r_W X w B nL cells slots Q (pc + 1) lv (.long v :: rest) σ) : r_W X w B nL cells slots Q pc lv (.int y :: .long x :: rest) σ := by
  obtain ⟨p, l, e, R, s, m, args, below, meth, c⟩ := X
  exact fun H locs la g1 g2 g3 => lv_lshr C.1.1 C.1.2.1 hdg hv (k H locs la g1 g2 g3)
theorem r_dup (C : r_C X w B nL cc own) {va : Value} (hdg : decode cc pc = .ok (.dup, 1)) (hva : va.category = 1) (k : r_W X w B nL cells slots Q (pc + 1) lv (va :: va :: rest) σ) : r_W X w B nL cells slots Q pc lv (va :: rest) σ := by
  obtain ⟨p, l, e, R, s, m, args, below, meth, c⟩ := X
  exact fun H locs la g1 g2 g3 => lv_dup C.1.1 C.1.2.1 hdg hva (k H locs la g1 g2 g3)
theorem r_pop (C : r_C X w B nL cc own) {va : Value} (hdg : decode cc pc = .ok (.pop, 1)) (hva : va.category = 1) (k : r_W X w B nL cells slots Q (pc + 1) lv (rest) σ) : r_W X w B nL cells slots Q pc lv (va :: rest) σ := by
  obtain ⟨p, l, e, R, s, m, args, below, meth, c⟩ := X
  exact fun H locs la g1 g2 g3 => lv_pop C.1.1 C.1.2.1 hdg hva (k H locs la g1 g2 g3)
theorem r_dup_x1 (C : r_C X w B nL cc own) {va vb : Value} (hdg : decode cc pc = .ok (.dup_x1, 1)) (hva : va.category = 1) (hvb : vb.category = 1) (k : r_W X w B nL cells slots Q (pc + 1) lv (va :: vb :: va :: rest) σ) : r_W X w B nL cells slots Q pc lv (va :: vb :: rest) σ := by
  obtain ⟨p, l, e, R, s, m, args, below, meth, c⟩ := X
  exact fun H locs la g1 g2 g3 => lv_dup_x1 C.1.1 C.1.2.1 hdg hva hvb (k H locs la g1 g2 g3)
theorem r_dup_x2 (C : r_C X w B nL cc own) {va vb vd : Value} (hdg : decode cc pc = .ok (.dup_x2, 1)) (hva : va.category = 1) (hvb : vb.category = 1) (hvd : vd.category = 1) (k : r_W X w B nL cells slots Q (pc + 1) lv (va :: vb :: vd :: va :: rest) σ) : r_W X w B nL cells slots Q pc lv (va :: vb :: vd :: rest) σ := by
  obtain ⟨p, l, e, R, s, m, args, below, meth, c⟩ := X
  exact fun H locs la g1 g2 g3 => lv_dup_x2 C.1.1 C.1.2.1 hdg hva hvb hvd (k H locs la g1 g2 g3)
theorem r_dup2_11 (C : r_C X w B nL cc own) {va vb : Value} (hdg : decode cc pc = .ok (.dup2, 1)) (hva : va.category = 1) (hvb : vb.category = 1) (k : r_W X w B nL cells slots Q (pc + 1) lv (va :: vb :: va :: vb :: rest) σ) : r_W X w B nL cells slots Q pc lv (va :: vb :: rest) σ := by
  obtain ⟨p, l, e, R, s, m, args, below, meth, c⟩ := X
  exact fun H locs la g1 g2 g3 => lv_dup2_11 C.1.1 C.1.2.1 hdg hva hvb (k H locs la g1 g2 g3)
theorem r_dup2_2 (C : r_C X w B nL cc own) {va : Value} (hdg : decode cc pc = .ok (.dup2, 1)) (hva : va.category = 2) (k : r_W X w B nL cells slots Q (pc + 1) lv (va :: va :: rest) σ) : r_W X w B nL cells slots Q pc lv (va :: rest) σ := by
  obtain ⟨p, l, e, R, s, m, args, below, meth, c⟩ := X
  exact fun H locs la g1 g2 g3 => lv_dup2_2 C.1.1 C.1.2.1 hdg hva (k H locs la g1 g2 g3)
theorem r_pop2_2 (C : r_C X w B nL cc own) {va : Value} (hdg : decode cc pc = .ok (.pop2, 1)) (hva : va.category = 2) (k : r_W X w B nL cells slots Q (pc + 1) lv (rest) σ) : r_W X w B nL cells slots Q pc lv (va :: rest) σ := by
  obtain ⟨p, l, e, R, s, m, args, below, meth, c⟩ := X
  exact fun H locs la g1 g2 g3 => lv_pop2_2 C.1.1 C.1.2.1 hdg hva (k H locs la g1 g2 g3)
theorem r_pop2_11 (C : r_C X w B nL cc own) {va vb : Value} (hdg : decode cc pc = .ok (.pop2, 1)) (hva : va.category = 1) (hvb : vb.category = 1) (k : r_W X w B nL cells slots Q (pc + 1) lv (rest) σ) : r_W X w B nL cells slots Q pc lv (va :: vb :: rest) σ := by
  obtain ⟨p, l, e, R, s, m, args, below, meth, c⟩ := X
  exact fun H locs la g1 g2 g3 => lv_pop2_11 C.1.1 C.1.2.1 hdg hva hvb (k H locs la g1 g2 g3)
theorem r_dup2_x1_2 (C : r_C X w B nL cc own) {va vb : Value} (hdg : decode cc pc = .ok (.dup2_x1, 1)) (hva : va.category = 2) (hvb : vb.category = 1) (k : r_W X w B nL cells slots Q (pc + 1) lv (va :: vb :: va :: rest) σ) : r_W X w B nL cells slots Q pc lv (va :: vb :: rest) σ := by
  obtain ⟨p, l, e, R, s, m, args, below, meth, c⟩ := X
  exact fun H locs la g1 g2 g3 => lv_dup2_x1_2 C.1.1 C.1.2.1 hdg hva hvb (k H locs la g1 g2 g3)
theorem r_dup2_x2_2 (C : r_C X w B nL cc own) {va vb vd : Value} (hdg : decode cc pc = .ok (.dup2_x2, 1)) (hva : va.category = 2) (hvb : vb.category = 1) (hvd : vd.category = 1) (k : r_W X w B nL cells slots Q (pc + 1) lv (va :: vb :: vd :: va :: rest) σ) : r_W X w B nL cells slots Q pc lv (va :: vb :: vd :: rest) σ := by
  obtain ⟨p, l, e, R, s, m, args, below, meth, c⟩ := X
  exact fun H locs la g1 g2 g3 => lv_dup2_x2_2 C.1.1 C.1.2.1 hdg hva hvb hvd (k H locs la g1 g2 g3)
theorem r_if_eq (C : r_C X w B nL cc own) {x : Int32} {off : Int} {tgt : Nat} (hdg : decode cc pc = .ok (.ifCond .eq off, 3)) (ht : (pc : Int) + off = (tgt : Int)) (kt : x = 0 → r_W X w B nL cells slots Q tgt lv rest σ) (kf : ¬ x = 0 → r_W X w B nL cells slots Q (pc + 3) lv rest σ) : r_W X w B nL cells slots Q pc lv (.int x :: rest) σ := by
  obtain ⟨p, l, e, R, s, m, args, below, meth, c⟩ := X
  exact fun H locs la g1 g2 g3 => lv_if_eq C.1.1 C.1.2.1 hdg ht (fun q => kt q H locs la g1 g2 g3) (fun q => kf q H locs la g1 g2 g3)
theorem r_icmp_eq (C : r_C X w B nL cc own) {x y : Int32} {off : Int} {tgt : Nat} (hdg : decode cc pc = .ok (.if_icmp .eq off, 3)) (ht : (pc : Int) + off = (tgt : Int)) (kt : x = y → r_W X w B nL cells slots Q tgt lv rest σ) (kf : ¬ x = y → r_W X w B nL cells slots Q (pc + 3) lv rest σ) : r_W X w B nL cells slots Q pc lv (.int y :: .int x :: rest) σ := by
  obtain ⟨p, l, e, R, s, m, args, below, meth, c⟩ := X
  exact fun H locs la g1 g2 g3 => lv_icmp_eq C.1.1 C.1.2.1 hdg ht (fun q => kt q H locs la g1 g2 g3) (fun q => kf q H locs la g1 g2 g3)
theorem r_if_ne (C : r_C X w B nL cc own) {x : Int32} {off : Int} {tgt : Nat} (hdg : decode cc pc = .ok (.ifCond .ne off, 3)) (ht : (pc : Int) + off = (tgt : Int)) (kt : ¬ x = 0 → r_W X w B nL cells slots Q tgt lv rest σ) (kf : x = 0 → r_W X w B nL cells slots Q (pc + 3) lv rest σ) : r_W X w B nL cells slots Q pc lv (.int x :: rest) σ := by
  obtain ⟨p, l, e, R, s, m, args, below, meth, c⟩ := X
  exact fun H locs la g1 g2 g3 => lv_if_ne C.1.1 C.1.2.1 hdg ht (fun q => kt q H locs la g1 g2 g3) (fun q => kf q H locs la g1 g2 g3)
theorem r_icmp_ne (C : r_C X w B nL cc own) {x y : Int32} {off : Int} {tgt : Nat} (hdg : decode cc pc = .ok (.if_icmp .ne off, 3)) (ht : (pc : Int) + off = (tgt : Int)) (kt : ¬ x = y → r_W X w B nL cells slots Q tgt lv rest σ) (kf : x = y → r_W X w B nL cells slots Q (pc + 3) lv rest σ) : r_W X w B nL cells slots Q pc lv (.int y :: .int x :: rest) σ := by
  obtain ⟨p, l, e, R, s, m, args, below, meth, c⟩ := X
  exact fun H locs la g1 g2 g3 => lv_icmp_ne C.1.1 C.1.2.1 hdg ht (fun q => kt q H locs la g1 g2 g3) (fun q => kf q H locs la g1 g2 g3)
theorem r_if_lt (C : r_C X w B nL cc own) {x : Int32} {off : Int} {tgt : Nat} (hdg : decode cc pc = .ok (.ifCond .lt off, 3)) (ht : (pc : Int) + off = (tgt : Int)) (kt : x < 0 → r_W X w B nL cells slots Q tgt lv rest σ) (kf : ¬ x < 0 → r_W X w B nL cells slots Q (pc + 3) lv rest σ) : r_W X w B nL cells slots Q pc lv (.int x :: rest) σ := by
  obtain ⟨p, l, e, R, s, m, args, below, meth, c⟩ := X
  exact fun H locs la g1 g2 g3 => lv_if_lt C.1.1 C.1.2.1 hdg ht (fun q => kt q H locs la g1 g2 g3) (fun q => kf q H locs la g1 g2 g3)
theorem r_icmp_lt (C : r_C X w B nL cc own) {x y : Int32} {off : Int} {tgt : Nat} (hdg : decode cc pc = .ok (.if_icmp .lt off, 3)) (ht : (pc : Int) + off = (tgt : Int)) (kt : x < y → r_W X w B nL cells slots Q tgt lv rest σ) (kf : ¬ x < y → r_W X w B nL cells slots Q (pc + 3) lv rest σ) : r_W X w B nL cells slots Q pc lv (.int y :: .int x :: rest) σ := by
  obtain ⟨p, l, e, R, s, m, args, below, meth, c⟩ := X
  exact fun H locs la g1 g2 g3 => lv_icmp_lt C.1.1 C.1.2.1 hdg ht (fun q => kt q H locs la g1 g2 g3) (fun q => kf q H locs la g1 g2 g3)
theorem r_if_ge (C : r_C X w B nL cc own) {x : Int32} {off : Int} {tgt : Nat} (hdg : decode cc pc = .ok (.ifCond .ge off, 3)) (ht : (pc : Int) + off = (tgt : Int)) (kt : 0 ≤ x → r_W X w B nL cells slots Q tgt lv rest σ) (kf : ¬ 0 ≤ x → r_W X w B nL cells slots Q (pc + 3) lv rest σ) : r_W X w B nL cells slots Q pc lv (.int x :: rest) σ := by
  obtain ⟨p, l, e, R, s, m, args, below, meth, c⟩ := X
  exact fun H locs la g1 g2 g3 => lv_if_ge C.1.1 C.1.2.1 hdg ht (fun q => kt q H locs la g1 g2 g3) (fun q => kf q H locs la g1 g2 g3)
theorem r_icmp_ge (C : r_C X w B nL cc own) {x y : Int32} {off : Int} {tgt : Nat} (hdg : decode cc pc = .ok (.if_icmp .ge off, 3)) (ht : (pc : Int) + off = (tgt : Int)) (kt : y ≤ x → r_W X w B nL cells slots Q tgt lv rest σ) (kf : ¬ y ≤ x → r_W X w B nL cells slots Q (pc + 3) lv rest σ) : r_W X w B nL cells slots Q pc lv (.int y :: .int x :: rest) σ := by
  obtain ⟨p, l, e, R, s, m, args, below, meth, c⟩ := X
  exact fun H locs la g1 g2 g3 => lv_icmp_ge C.1.1 C.1.2.1 hdg ht (fun q => kt q H locs la g1 g2 g3) (fun q => kf q H locs la g1 g2 g3)
theorem r_if_gt (C : r_C X w B nL cc own) {x : Int32} {off : Int} {tgt : Nat} (hdg : decode cc pc = .ok (.ifCond .gt off, 3)) (ht : (pc : Int) + off = (tgt : Int)) (kt : 0 < x → r_W X w B nL cells slots Q tgt lv rest σ) (kf : ¬ 0 < x → r_W X w B nL cells slots Q (pc + 3) lv rest σ) : r_W X w B nL cells slots Q pc lv (.int x :: rest) σ := by
  obtain ⟨p, l, e, R, s, m, args, below, meth, c⟩ := X
  exact fun H locs la g1 g2 g3 => lv_if_gt C.1.1 C.1.2.1 hdg ht (fun q => kt q H locs la g1 g2 g3) (fun q => kf q H locs la g1 g2 g3)
theorem r_icmp_gt (C : r_C X w B nL cc own) {x y : Int32} {off : Int} {tgt : Nat} (hdg : decode cc pc = .ok (.if_icmp .gt off, 3)) (ht : (pc : Int) + off = (tgt : Int)) (kt : y < x → r_W X w B nL cells slots Q tgt lv rest σ) (kf : ¬ y < x → r_W X w B nL cells slots Q (pc + 3) lv rest σ) : r_W X w B nL cells slots Q pc lv (.int y :: .int x :: rest) σ := by
  obtain ⟨p, l, e, R, s, m, args, below, meth, c⟩ := X
  exact fun H locs la g1 g2 g3 => lv_icmp_gt C.1.1 C.1.2.1 hdg ht (fun q => kt q H locs la g1 g2 g3) (fun q => kf q H locs la g1 g2 g3)
theorem r_if_le (C : r_C X w B nL cc own) {x : Int32} {off : Int} {tgt : Nat} (hdg : decode cc pc = .ok (.ifCond .le off, 3)) (ht : (pc : Int) + off = (tgt : Int)) (kt : x ≤ 0 → r_W X w B nL cells slots Q tgt lv rest σ) (kf : ¬ x ≤ 0 → r_W X w B nL cells slots Q (pc + 3) lv rest σ) : r_W X w B nL cells slots Q pc lv (.int x :: rest) σ := by
  obtain ⟨p, l, e, R, s, m, args, below, meth, c⟩ := X
  exact fun H locs la g1 g2 g3 => lv_if_le C.1.1 C.1.2.1 hdg ht (fun q => kt q H locs la g1 g2 g3) (fun q => kf q H locs la g1 g2 g3)
theorem r_icmp_le (C : r_C X w B nL cc own) {x y : Int32} {off : Int} {tgt : Nat} (hdg : decode cc pc = .ok (.if_icmp .le off, 3)) (ht : (pc : Int) + off = (tgt : Int)) (kt : x ≤ y → r_W X w B nL cells slots Q tgt lv rest σ) (kf : ¬ x ≤ y → r_W X w B nL cells slots Q (pc + 3) lv rest σ) : r_W X w B nL cells slots Q pc lv (.int y :: .int x :: rest) σ := by
  obtain ⟨p, l, e, R, s, m, args, below, meth, c⟩ := X
  exact fun H locs la g1 g2 g3 => lv_icmp_le C.1.1 C.1.2.1 hdg ht (fun q => kt q H locs la g1 g2 g3) (fun q => kf q H locs la g1 g2 g3)
theorem r_goto (C : r_C X w B nL cc own) {off : Int} {tgt : Nat} (hdg : decode cc pc = .ok (.goto off, 3)) (ht : (pc : Int) + off = (tgt : Int)) (k : r_W X w B nL cells slots Q tgt lv rest σ) : r_W X w B nL cells slots Q pc lv rest σ := by
  obtain ⟨p, l, e, R, s, m, args, below, meth, c⟩ := X
  exact fun H locs la g1 g2 g3 => lv_goto C.1.1 C.1.2.1 hdg ht (k H locs la g1 g2 g3)
theorem r_tableOut (C : r_C X w B nL cc own) {dflt lo hi : Int} {offs : Array Int} {len : Nat} {x : Int32} {tgt : Nat} (hdg : decode cc pc = .ok (.tableswitch dflt lo hi offs, len)) (h : x.toInt < lo ∨ hi < x.toInt) (ht : (pc : Int) + dflt = (tgt : Int)) (k : r_W X w B nL cells slots Q tgt lv rest σ) : r_W X w B nL cells slots Q pc lv (.int x :: rest) σ := by
  obtain ⟨p, l, e, R, s, m, args, below, meth, c⟩ := X
  exact fun H locs la g1 g2 g3 => lv_tableOut C.1.1 C.1.2.1 hdg h ht (k H locs la g1 g2 g3)
theorem r_tableIn (C : r_C X w B nL cc own) {dflt lo hi : Int} {offs : Array Int} {len : Nat} {x : Int32} {off : Int} {tgt : Nat} (hdg : decode cc pc = .ok (.tableswitch dflt lo hi offs, len)) (h1 : ¬ x.toInt < lo) (h2 : ¬ hi < x.toInt) (ho : offs[(x.toInt - lo).toNat]? = some off) (ht : (pc : Int) + off = (tgt : Int)) (k : r_W X w B nL cells slots Q tgt lv rest σ) : r_W X w B nL cells slots Q pc lv (.int x :: rest) σ := by
  obtain ⟨p, l, e, R, s, m, args, below, meth, c⟩ := X
  exact fun H locs la g1 g2 g3 => lv_tableIn C.1.1 C.1.2.1 hdg h1 h2 ho ht (k H locs la g1 g2 g3)
theorem r_lookup (C : r_C X w B nL cc own) {dflt : Int} {ps : Array (Int × Int)} {len : Nat} {x : Int32} {off : Int} {tgt : Nat} (hdg : decode cc pc = .ok (.lookupswitch dflt ps, len)) (hp : (ps.toList.zip (ps.toList.drop 1)).all (fun (a, next) => a.1 < next.1) = true) (ho : Op.lookupswitch.offset ps.toList dflt x.toInt = off) (ht : (pc : Int) + off = (tgt : Int)) (k : r_W X w B nL cells slots Q tgt lv rest σ) : r_W X w B nL cells slots Q pc lv (.int x :: rest) σ := by
  obtain ⟨p, l, e, R, s, m, args, below, meth, c⟩ := X
  exact fun H locs la g1 g2 g3 => lv_lookup C.1.1 C.1.2.1 hdg hp ho ht (k H locs la g1 g2 g3)
theorem r_ifnull (C : r_C X w B nL cc own) {x : Nat} {off : Int} (hdg : decode cc pc = .ok (.ifnull off, 3)) (k : r_W X w B nL cells slots Q (pc + 3) lv rest σ) : r_W X w B nL cells slots Q pc lv (.ref x :: rest) σ := by
  obtain ⟨p, l, e, R, s, m, args, below, meth, c⟩ := X
  exact fun H locs la g1 g2 g3 => lv_ifnull C.1.1 C.1.2.1 hdg (k H locs la g1 g2 g3)
theorem r_ifnonnull (C : r_C X w B nL cc own) {x : Nat} {off : Int} {tgt : Nat} (hdg : decode cc pc = .ok (.ifnonnull off, 3)) (ht : (pc : Int) + off = (tgt : Int)) (k : r_W X w B nL cells slots Q tgt lv rest σ) : r_W X w B nL cells slots Q pc lv (.ref x :: rest) σ := by
  obtain ⟨p, l, e, R, s, m, args, below, meth, c⟩ := X
  exact fun H locs la g1 g2 g3 => lv_ifnonnull C.1.1 C.1.2.1 hdg ht (k H locs la g1 g2 g3)
theorem r_null (C : r_C X w B nL cc own) (hdg : decode cc pc = .ok (.aconst_null, 1)) (k : r_W X w B nL cells slots Q (pc + 1) lv (.null :: rest) σ) : r_W X w B nL cells slots Q pc lv rest σ := by
  obtain ⟨p, l, e, R, s, m, args, below, meth, c⟩ := X
  exact fun H locs la g1 g2 g3 => lv_null C.1.1 C.1.2.1 hdg (k H locs la g1 g2 g3)
theorem r_ifnullN (C : r_C X w B nL cc own) {off : Int} {tgt : Nat} (hdg : decode cc pc = .ok (.ifnull off, 3)) (ht : (pc : Int) + off = (tgt : Int)) (k : r_W X w B nL cells slots Q tgt lv rest σ) : r_W X w B nL cells slots Q pc lv (.null :: rest) σ := by
  obtain ⟨p, l, e, R, s, m, args, below, meth, c⟩ := X
  exact fun H locs la g1 g2 g3 => lv_ifnullN C.1.1 C.1.2.1 hdg ht (k H locs la g1 g2 g3)
theorem r_ifnonnullN (C : r_C X w B nL cc own) {off : Int} (hdg : decode cc pc = .ok (.ifnonnull off, 3)) (k : r_W X w B nL cells slots Q (pc + 3) lv rest σ) : r_W X w B nL cells slots Q pc lv (.null :: rest) σ := by
  obtain ⟨p, l, e, R, s, m, args, below, meth, c⟩ := X
  exact fun H locs la g1 g2 g3 => lv_ifnonnullN C.1.1 C.1.2.1 hdg (k H locs la g1 g2 g3)
theorem r_aload_nN (C : r_C X w B nL cc own) {k0 : Fin 4} {i : Nat} (hdg : decode cc pc = .ok (.aload_n k0, 1)) (hi : (k0 : Nat) = i) {j : Nat} (hl : lv[j]? = some (i, .null)) (k : r_W X w B nL cells slots Q (pc + 1) lv (.null :: rest) σ) : r_W X w B nL cells slots Q pc lv (rest) σ := by
  obtain ⟨p, l, e, R, s, m, args, below, meth, c⟩ := X
  exact fun H locs la g1 g2 g3 => lv_aload_nN C.1.1 C.1.2.1 hdg hi (lv_at g3 j hl) (k H locs la g1 g2 g3)
theorem r_aloadN (C : r_C X w B nL cc own) {i : Nat} (hdg : decode cc pc = .ok (.aload i, 2)) {j : Nat} (hl : lv[j]? = some (i, .null)) (k : r_W X w B nL cells slots Q (pc + 2) lv (.null :: rest) σ) : r_W X w B nL cells slots Q pc lv (rest) σ := by
  obtain ⟨p, l, e, R, s, m, args, below, meth, c⟩ := X
  exact fun H locs la g1 g2 g3 => lv_aloadN C.1.1 C.1.2.1 hdg (lv_at g3 j hl) (k H locs la g1 g2 g3)
theorem r_istore_n (C : r_C X w B nL cc own) {k : Fin 4} {i : Nat} {x : Int32} {lv' : List (Nat × Value)} (hdg : decode cc pc = .ok (.istore_n k, 1)) (hi : (k : Nat) = i) (hn : i < nL) (hl : (i, Value.int x) :: lv.filter (fun q => !(q.1 == i) && !(q.1 + 1 == i && q.2.category == 2)) = lv') (kk : r_W X w B nL cells slots Q (pc + 1) lv' rest σ) : r_W X w B nL cells slots Q pc lv (.int x :: rest) σ := by
  obtain ⟨p, l, e, R, s, m, args, below, meth, c⟩ := X
  exact fun H locs la g1 g2 g3 => lv_istore_n C.1.1 C.1.2.1 hdg hi g3 hn hl (fun la' h' => kk H locs la' g1 g2 h')
theorem r_istore (C : r_C X w B nL cc own) {i : Nat} {x : Int32} {lv' : List (Nat × Value)} (hdg : decode cc pc = .ok (.istore i, 2)) (hn : i < nL) (hl : (i, Value.int x) :: lv.filter (fun q => !(q.1 == i) && !(q.1 + 1 == i && q.2.category == 2)) = lv') (kk : r_W X w B nL cells slots Q (pc + 2) lv' rest σ) : r_W X w B nL cells slots Q pc lv (.int x :: rest) σ := by
  obtain ⟨p, l, e, R, s, m, args, below, meth, c⟩ := X
  exact fun H locs la g1 g2 g3 => lv_istore C.1.1 C.1.2.1 hdg g3 hn hl (fun la' h' => kk H locs la' g1 g2 h')
theorem r_lstore_n (C : r_C X w B nL cc own) {k : Fin 4} {i : Nat} {x : Int64} {lv' : List (Nat × Value)} (hdg : decode cc pc = .ok (.lstore_n k, 1)) (hi : (k : Nat) = i) (hn : i + 1 < nL) (hl : (i, Value.long x) :: lv.filter (fun q => !(q.1 == i) && (!(q.1 == i + 1) && !(q.1 + 1 == i && q.2.category == 2))) = lv') (kk : r_W X w B nL cells slots Q (pc + 1) lv' rest σ) : r_W X w B nL cells slots Q pc lv (.long x :: rest) σ := by
  obtain ⟨p, l, e, R, s, m, args, below, meth, c⟩ := X
  exact fun H locs la g1 g2 g3 => lv_lstore_n C.1.1 C.1.2.1 hdg hi g3 hn hl (fun la' h' => kk H locs la' g1 g2 h')
theorem r_lstore (C : r_C X w B nL cc own) {i : Nat} {x : Int64} {lv' : List (Nat × Value)} (hdg : decode cc pc = .ok (.lstore i, 2)) (hn : i + 1 < nL) (hl : (i, Value.long x) :: lv.filter (fun q => !(q.1 == i) && (!(q.1 == i + 1) && !(q.1 + 1 == i && q.2.category == 2))) = lv') (kk : r_W X w B nL cells slots Q (pc + 2) lv' rest σ) : r_W X w B nL cells slots Q pc lv (.long x :: rest) σ := by
  obtain ⟨p, l, e, R, s, m, args, below, meth, c⟩ := X
  exact fun H locs la g1 g2 g3 => lv_lstore C.1.1 C.1.2.1 hdg g3 hn hl (fun la' h' => kk H locs la' g1 g2 h')
theorem r_astore_n (C : r_C X w B nL cc own) {k : Fin 4} {i : Nat} {x : Nat} {lv' : List (Nat × Value)} (hdg : decode cc pc = .ok (.astore_n k, 1)) (hi : (k : Nat) = i) (hn : i < nL) (hl : (i, Value.ref x) :: lv.filter (fun q => !(q.1 == i) && !(q.1 + 1 == i && q.2.category == 2)) = lv') (kk : r_W X w B nL cells slots Q (pc + 1) lv' rest σ) : r_W X w B nL cells slots Q pc lv (.ref x :: rest) σ := by
  obtain ⟨p, l, e, R, s, m, args, below, meth, c⟩ := X
  exact fun H locs la g1 g2 g3 => lv_astore_n C.1.1 C.1.2.1 hdg hi g3 hn hl (fun la' h' => kk H locs la' g1 g2 h')
theorem r_astore (C : r_C X w B nL cc own) {i : Nat} {x : Nat} {lv' : List (Nat × Value)} (hdg : decode cc pc = .ok (.astore i, 2)) (hn : i < nL) (hl : (i, Value.ref x) :: lv.filter (fun q => !(q.1 == i) && !(q.1 + 1 == i && q.2.category == 2)) = lv') (kk : r_W X w B nL cells slots Q (pc + 2) lv' rest σ) : r_W X w B nL cells slots Q pc lv (.ref x :: rest) σ := by
  obtain ⟨p, l, e, R, s, m, args, below, meth, c⟩ := X
  exact fun H locs la g1 g2 g3 => lv_astore C.1.1 C.1.2.1 hdg g3 hn hl (fun la' h' => kk H locs la' g1 g2 h')
theorem r_iinc (C : r_C X w B nL cc own) {i k : Nat} {n : Int} {x v : Int32} {lv' : List (Nat × Value)} (hdg : decode cc pc = .ok (.iinc i n, 3)) (hk : lv[k]? = some (i, .int x)) (hv : x + Int32.ofInt n = v) (hn : i < nL) (hl : (i, Value.int v) :: lv.filter (fun q => !(q.1 == i) && !(q.1 + 1 == i && q.2.category == 2)) = lv') (kk : r_W X w B nL cells slots Q (pc + 3) lv' rest σ) : r_W X w B nL cells slots Q pc lv rest σ := by
  obtain ⟨p, l, e, R, s, m, args, below, meth, c⟩ := X
  exact fun H locs la g1 g2 g3 => lv_iinc C.1.1 C.1.2.1 hdg g3 hk hv hn hl (fun la' h' => kk H locs la' g1 g2 h')
theorem r_iincW (C : r_C X w B nL cc own) {i k : Nat} {n : Int} {x v : Int32} {lv' : List (Nat × Value)} (hdg : decode cc pc = .ok (.iinc i n, 6)) (hk : lv[k]? = some (i, .int x)) (hv : x + Int32.ofInt n = v) (hn : i < nL) (hl : (i, Value.int v) :: lv.filter (fun q => !(q.1 == i) && !(q.1 + 1 == i && q.2.category == 2)) = lv') (kk : r_W X w B nL cells slots Q (pc + 6) lv' rest σ) : r_W X w B nL cells slots Q pc lv rest σ := by
  obtain ⟨p, l, e, R, s, m, args, below, meth, c⟩ := X
  exact fun H locs la g1 g2 g3 => lv_iincW C.1.1 C.1.2.1 hdg g3 hk hv hn hl (fun la' h' => kk H locs la' g1 g2 h')
theorem r_astore_nN (C : r_C X w B nL cc own) {k : Fin 4} {i : Nat} {lv' : List (Nat × Value)} (hdg : decode cc pc = .ok (.astore_n k, 1)) (hi : (k : Nat) = i) (hn : i < nL) (hl : (i, Value.null) :: lv.filter (fun q => !(q.1 == i) && !(q.1 + 1 == i && q.2.category == 2)) = lv') (kk : r_W X w B nL cells slots Q (pc + 1) lv' rest σ) : r_W X w B nL cells slots Q pc lv (.null :: rest) σ := by
  obtain ⟨p, l, e, R, s, m, args, below, meth, c⟩ := X
  exact fun H locs la g1 g2 g3 => lv_astore_nN C.1.1 C.1.2.1 hdg hi g3 hn hl (fun la' h' => kk H locs la' g1 g2 h')
theorem r_astoreN (C : r_C X w B nL cc own) {i : Nat} {lv' : List (Nat × Value)} (hdg : decode cc pc = .ok (.astore i, 2)) (hn : i < nL) (hl : (i, Value.null) :: lv.filter (fun q => !(q.1 == i) && !(q.1 + 1 == i && q.2.category == 2)) = lv') (kk : r_W X w B nL cells slots Q (pc + 2) lv' rest σ) : r_W X w B nL cells slots Q pc lv (.null :: rest) σ := by
  obtain ⟨p, l, e, R, s, m, args, below, meth, c⟩ := X
  exact fun H locs la g1 g2 g3 => lv_astoreN C.1.1 C.1.2.1 hdg g3 hn hl (fun la' h' => kk H locs la' g1 g2 h')
end RWA
